/-! THE CLAIM OUT OF ONE WALK OF THE LAW'S BODY. Your part is whole_start (and what it stands on); all else here is the same for every law, but numbers. -/
def R_law : String := "PacketFieldLaw"
def lw_P (b : Addr) (xs : List Int32) (args : Array Value) (s : State) : Prop := args = #[.ref b] ∧ s.IntsAt b xs ∧ xs.length ≤ 384 ∧ (Jvm.Cond.and given_1 narrow_1).before args s = true
def lw_Q (_ : Array Value) (s : State) (o : Outcome) (t : State) : Prop := o = .returned (some (.int 1)) ∧ Framed s o t [] 600000 7302250
def lw_Z (below : List Frame) (a : Array Value) (s : State) : State → Prop := fun t => ∃ o, t.status = .running ∧ Ended t below o ∧ lw_Q a s o t
/-- the law's own end, with 1 on the stack, nothing written that was there before, its room as the claim has it -/
theorem lw_ret {p : Program} {l : Launch} {e : Env} {s : State} {m : MethodId} {below : List Frame} {meth : Method} {c : Code} {b : Nat} (hx : p.tables.exec = Jvm.exec) (hb : c.code = code) (hr : meth.sig.returnType = ret) (hlocks : meth.locks = false) {pc : Nat} {H : Heap} {ls : Array Slot} (hdg : decode code pc = .ok (.ireturn, 1)) : W p l e room_1 s m #[Value.ref b] below meth c H [] 600000 7302250 (lw_Z below #[Value.ref b] s) (F0 m pc ls [.int 1]) := by
  intro T hT X
  obtain ⟨fs, hret, hrun, hended, hW, hframe⟩ := X.leave (v := some (.int 1)) (hlocks := hlocks) (fun h => by rw [hr] at h; cases h)
  have hmeth' : T.vm.method? m = some meth := X.method'
  refine ⟨T.setFrames fs, ?_, .returned (some (.int 1)), hrun, hended, rfl, ⟨_, rfl⟩, hW, hframe⟩
  jvm_step X.here [X.here.top, hx, hb, hdg, hmeth', hr, ret, narrow_b1]
  (try refine ⟨rfl, ?_⟩); (try refine ⟨rfl, ?_⟩)
  first | (intro acts; rw [hret _ acts rfl rfl rfl]) | rw [hret _ _ rfl rfl rfl]
  exact Steps.refl _
/-- what holds at the law's entry: the machine, the code, the tables' words (any of lw_tbl by 'hts w (by decide +kernel)'), the script of L ints xs at the cell b, what the Statement gives of the start (any of its parts by flat_of_before) -/
def lw_At (p : Program) (s : State) (m : MethodId) (meth : Method) (c : Code) (b L : Nat) (xs : Nat → Int32) : Prop :=
  p.tables.exec = Jvm.exec ∧ c.code = code ∧ meth.sig.returnType = ret ∧ c.maxLocals = 4 ∧ s.vm.findClass R_law = some m.cls ∧ (∀ w ∈ lw_tbl, w.before #[Value.ref b] s = true) ∧ va_X b L xs s s.heap ∧ b < s.heap.size ∧ meth.locks = false ∧ (Jvm.Cond.and given_1 narrow_1).before #[Value.ref b] s = true

def mM0 : mM := (fun _ _ => 0, fun _ _ => none, fun _ => 0, fun _ => 0, 0, 0)
theorem l_nw {s : State} {A : Array Value} (hts : ∀ w ∈ lw_tbl, w.before A s = true) : ∀ w ∈ mnw, va_Nw w s := by
  intro w hw
  have hm : w ∈ lw_tbl := by
    have h : mnw.all (fun w => decide (w ∈ lw_tbl)) = true := by decide +kernel
    exact of_decide_eq_true (List.all_eq_true.mp h w hw)
  have h := hts w hm
  unfold mnw at hw
  repeat (first
    | (cases hw; done)
    | (rcases List.mem_cons.mp hw with rfl | hw
       · first
         | exact va_Nw.of rfl h
         | exact va_AO.of h))
theorem l_arr {s : State} {A : Array Value} {ty : FieldType} (h : (Cond.arrayClass ty).before A s = true) (hty : ∀ (U : State) (cA : ClassId), U.vm.findClass ("[" ++ ty.toString) = some cA → va_RA U cA ty) : ∃ cA : ClassId, ArrOfT s cA ty ∧ va_RA s cA ty := by
  obtain ⟨c, k, comp, h1, h2, h3⟩ := Cond.arrayClass_spec h
  exact ⟨c, fun n z => ⟨fun k h => (by cases h), k, h2, comp, h3⟩, hty s c h1⟩
theorem l_arrO {s : State} {S : String} (h : va_AO S s) : ∃ cA : ClassId, ArrOfT s cA (.object S) ∧ va_RA s cA (.object S) := by
  obtain ⟨comp, c, k, h1, h2, h3, h4, h5⟩ := Cond.arrayOver_spec h
  exact ⟨c, fun n z => ⟨fun k h => (by cases h), k, h3, comp, h4⟩, k, comp, h3, h4, h1, h5⟩
theorem l_st {s : State} {b : Nat} {A : Nat → Prop} {n : String} {N : Nat} {q : Nat} (hN : mtN q = N) (hN2 : N < 2 ^ 31) (hl : (Cond.laysStatic "PacketField" n "[I").before #[Value.ref b] s = true) (hi : (Cond.initialized "PacketField").before #[Value.ref b] s = true) (ha : (Cond.arrayOf (.static "PacketField" n "[I") .int).before #[Value.ref b] s = true) (hlen : (Cond.eq (.length (.static "PacketField" n "[I")) (.int (Int32.ofNat N))).before #[Value.ref b] s = true) (hel : ∀ j : Nat, j < N → (Cond.eq (.elem (.static "PacketField" n "[I") (.int (Int32.ofNat j))) (.int (mtF q j))).before #[Value.ref b] s = true) (hA : ∀ a : Nat, a < s.heap.size → ¬ A a) : ∃ t : Nat, va_Z "PacketField" n "[I" (.ref t) A s s.heap ∧ va_T .int t (mtN q) (fun j => .int (mtF q j)) A s s.heap := by
  subst hN
  obtain ⟨t, h1, h2⟩ := va_Tof (f := fun j => .int (mtF q j)) hN2 ha (va_eqt hlen) (fun j hj => va_eqt (hel j hj)) hA
  exact ⟨t, va_Zref hl hi h1 hA, h2⟩
set_option maxHeartbeats 4000000 in
set_option maxRecDepth 100000 in
/-- the machine's part of the law: what its function says, it does -/
theorem whole_open (hpure : ∀ (L : Nat) (xs : Nat → Int32), L ≤ 384 → ∃ Mf : mM, q_L_law L xs mM0 = some (1, Mf) ∧ mN Mf ≤ 600000 ∧ mSl Mf ≤ 7302250) {p : Program} {e : Env} {s : State} {m : MethodId} {below : List Frame} {meth : Method} {c : Code} (l : Launch) {b L : Nat} {xs : Nat → Int32} (hL : L ≤ 384) (C0 : lw_At p s m meth c b L xs) : W p l e room_1 s m #[Value.ref b] below meth c s.heap [] 0 0 (lw_Z below #[Value.ref b] s) (entryFrame m ([Value.ref b] : List Value).toArray 4) := by
  obtain ⟨hx, hb, hr, hml, hown, hts, hX, hbl, hlocks, hgv⟩ := id C0
  have hs := flat_of_before _ hgv
  have hA0 : ∀ a : Nat, a < s.heap.size → ¬ (fun q : Nat => s.heap.size ≤ q) a := fun a h => Nat.not_le.mpr h
  obtain ⟨c0, iS0, hKn0⟩ := u_known (C := RX0) (T := TX0) (N := 2) (n := 2) hts cf_0 (hts _ (mtb_of ik_0))
  obtain ⟨c1, iS1, hKn1⟩ := u_known (C := RX1) (T := TX1) (N := 12) (n := 12) hts cf_1 (hts _ (mtb_of ik_1))
  obtain ⟨c2, iS2, hKn2⟩ := u_known (C := RX2) (T := TX2) (N := 18) (n := 18) hts cf_2 (hts _ (mtb_of ik_2))
  obtain ⟨c3, iS3, hKn3⟩ := u_known (C := RX3) (T := TX3) (N := 4) (n := 4) hts cf_3 (hts _ (mtb_of ik_3))
  obtain ⟨c4, iS4, hKn4⟩ := u_known (C := RX4) (T := TX4) (N := 6) (n := 6) hts cf_4 (hts _ (mtb_of ik_4))
  obtain ⟨c5, iS5, hKn5⟩ := u_known (C := RX5) (T := TX5) (N := 3) (n := 3) hts cf_5 (hts _ (mtb_of ik_5))
  obtain ⟨c6, iS6, hKn6⟩ := u_known (C := RX6) (T := TX6) (N := 3) (n := 3) hts cf_6 (hts _ (mtb_of ik_6))
  obtain ⟨c7, iS7, hKn7⟩ := u_known (C := RX7) (T := TX7) (N := 7) (n := 7) hts cf_7 (hts _ (mtb_of ik_7))
  obtain ⟨c8, iS8, hKn8⟩ := u_known (C := RX8) (T := TX8) (N := 18) (n := 18) hts cf_8 (hts _ (mtb_of ik_8))
  obtain ⟨c9, iS9, hKn9⟩ := u_known (C := RX9) (T := TX9) (N := 11) (n := 11) hts cf_9 (hts _ (mtb_of ik_9))
  obtain ⟨c10, iS10, hKn10⟩ := u_known (C := RX10) (T := TX10) (N := 81) (n := 81) hts cf_10 (hts _ (mtb_of ik_10))
  obtain ⟨dC, dI, hKc⟩ : ∃ (dC : Nat → ClassId) (dI : Nat → Nat → Nat), ∀ (k : Nat) (q : vw_C), vwCl[k]? = some q → u_Kn s q.1 q.2.1 q.2.2 (dC k) (dI k) := by
    refine ⟨fun k => match k with | 0 => c0 | 1 => c1 | 2 => c2 | 3 => c3 | 4 => c4 | 5 => c5 | 6 => c6 | 7 => c7 | 8 => c8 | 9 => c9 | _ => c10, fun k => match k with | 0 => iS0 | 1 => iS1 | 2 => iS2 | 3 => iS3 | 4 => iS4 | 5 => iS5 | 6 => iS6 | 7 => iS7 | 8 => iS8 | 9 => iS9 | _ => iS10, ?_⟩
    intro k q hq
    match k, hq with
    | 0, hq => cases hq; exact hKn0
    | 1, hq => cases hq; exact hKn1
    | 2, hq => cases hq; exact hKn2
    | 3, hq => cases hq; exact hKn3
    | 4, hq => cases hq; exact hKn4
    | 5, hq => cases hq; exact hKn5
    | 6, hq => cases hq; exact hKn6
    | 7, hq => cases hq; exact hKn7
    | 8, hq => cases hq; exact hKn8
    | 9, hq => cases hq; exact hKn9
    | 10, hq => cases hq; exact hKn10
    | k + 11, hq => simp [vwCl] at hq
  obtain ⟨a0, ha0⟩ := l_arr (hts _ (mtb_of ac_0)) (fun _ _ h => h)
  obtain ⟨a1, ha1⟩ := l_arr (hts _ (mtb_of ac_1)) (fun _ _ h => h)
  have hnw := l_nw hts
  obtain ⟨a2, ha2⟩ := l_arrO (hnw _ ao_0)
  obtain ⟨a3, ha3⟩ := l_arrO (hnw _ ao_1)
  obtain ⟨a4, ha4⟩ := l_arrO (hnw _ ao_2)
  obtain ⟨t1, hz1, hT1⟩ := l_st (b := b) (A := fun q : Nat => s.heap.size ≤ q) (n := "LEAST") (N := 9) (q := 1) rfl (by decide) (hts _ (by decide +kernel)) (hts _ (by decide +kernel)) (hs _ (by decide +kernel)) (hs _ (by decide +kernel)) (fun j hj => by
    match j, hj with
    | 0, _ => exact hs _ (by decide +kernel)
    | 1, _ => exact hs _ (by decide +kernel)
    | 2, _ => exact hs _ (by decide +kernel)
    | 3, _ => exact hs _ (by decide +kernel)
    | 4, _ => exact hs _ (by decide +kernel)
    | 5, _ => exact hs _ (by decide +kernel)
    | 6, _ => exact hs _ (by decide +kernel)
    | 7, _ => exact hs _ (by decide +kernel)
    | 8, _ => exact hs _ (by decide +kernel)
    | j + 9, hj => omega) hA0
  obtain ⟨t2, hz2, hT2⟩ := l_st (b := b) (A := fun q : Nat => s.heap.size ≤ q) (n := "MOST") (N := 9) (q := 2) rfl (by decide) (hts _ (by decide +kernel)) (hts _ (by decide +kernel)) (hs _ (by decide +kernel)) (hs _ (by decide +kernel)) (fun j hj => by
    match j, hj with
    | 0, _ => exact hs _ (by decide +kernel)
    | 1, _ => exact hs _ (by decide +kernel)
    | 2, _ => exact hs _ (by decide +kernel)
    | 3, _ => exact hs _ (by decide +kernel)
    | 4, _ => exact hs _ (by decide +kernel)
    | 5, _ => exact hs _ (by decide +kernel)
    | 6, _ => exact hs _ (by decide +kernel)
    | 7, _ => exact hs _ (by decide +kernel)
    | 8, _ => exact hs _ (by decide +kernel)
    | j + 9, hj => omega) hA0
  obtain ⟨t3, hz3, hT3⟩ := l_st (b := b) (A := fun q : Nat => s.heap.size ≤ q) (n := "STATION_NAME") (N := 6) (q := 3) rfl (by decide) (hts _ (by decide +kernel)) (hts _ (by decide +kernel)) (hs _ (by decide +kernel)) (hs _ (by decide +kernel)) (fun j hj => by
    match j, hj with
    | 0, _ => exact hs _ (by decide +kernel)
    | 1, _ => exact hs _ (by decide +kernel)
    | 2, _ => exact hs _ (by decide +kernel)
    | 3, _ => exact hs _ (by decide +kernel)
    | 4, _ => exact hs _ (by decide +kernel)
    | 5, _ => exact hs _ (by decide +kernel)
    | j + 6, hj => omega) hA0
  obtain ⟨t4, hz4, hT4⟩ := l_st (b := b) (A := fun q : Nat => s.heap.size ≤ q) (n := "NODES_NAME") (N := 6) (q := 4) rfl (by decide) (hts _ (by decide +kernel)) (hts _ (by decide +kernel)) (hs _ (by decide +kernel)) (hs _ (by decide +kernel)) (fun j hj => by
    match j, hj with
    | 0, _ => exact hs _ (by decide +kernel)
    | 1, _ => exact hs _ (by decide +kernel)
    | 2, _ => exact hs _ (by decide +kernel)
    | 3, _ => exact hs _ (by decide +kernel)
    | 4, _ => exact hs _ (by decide +kernel)
    | 5, _ => exact hs _ (by decide +kernel)
    | j + 6, hj => omega) hA0
  have hTx : va_T .int b L (fun j => .int (xs j)) (fun q : Nat => s.heap.size ≤ q) s s.heap := by
    obtain ⟨scr, x1, x2, x3, x4, x5⟩ := hX
    exact ⟨scr, x1, x2, x3, by omega, by rw [x4], x5, hA0 b hbl⟩
  obtain ⟨E, rfl, hE1, hE2, hE3, hE4, hE5, hE6⟩ : ∃ E : mE, E.1 = l ∧ eD E = (dC, dI) ∧ (eA E 0 = a0 ∧ eA E 1 = a1 ∧ eA E 2 = a2 ∧ eA E 3 = a3 ∧ eA E 4 = a4) ∧ eB E = s.heap.size ∧ (eS E 0 = b ∧ eS E 1 = t1 ∧ eS E 2 = t2 ∧ eS E 3 = t3 ∧ eS E 4 = t4) ∧ eL E = L ∧ eX E = xs :=
    ⟨(l, (dC, dI), (fun k => match k with | 0 => a0 | 1 => a1 | 2 => a2 | 3 => a3 | _ => a4), s.heap.size, (fun k => match k with | 0 => b | 1 => t1 | 2 => t2 | 3 => t3 | _ => t4), L, xs), rfl, rfl, ⟨rfl, rfl, rfl, rfl, rfl⟩, rfl, ⟨rfl, rfl, rfl, rfl, rfl⟩, rfl, rfl⟩
  have hmA : mA E = fun q : Nat => s.heap.size ≤ q := by unfold mA; rw [hE3]
  have hG : mG E s := by
    refine ⟨⟨fun k q hq => ?_, fun k q hq => ?_⟩, fun q hq => ?_, ?_, hnw⟩
    · rw [hE1]; exact hKc k q hq
    · have hk : k < 5 := by
        have := (List.getElem?_eq_some_iff.mp hq).1
        simpa [mtys, mtl] using this
      match k, hk, hq with
      | 0, _, hq => rw [mtys_at (ty := .int) rfl] at hq; cases hq; rw [hE2.1]; exact ha0
      | 1, _, hq => rw [mtys_at (ty := .boolean) rfl] at hq; cases hq; rw [hE2.2.1]; exact ha1
      | 2, _, hq => rw [mtys_at (ty := .object "PacketField$Bytes") rfl] at hq; cases hq; rw [hE2.2.2.1]; exact ha2
      | 3, _, hq => rw [mtys_at (ty := .object "PacketField$Link") rfl] at hq; cases hq; rw [hE2.2.2.2.1]; exact ha3
      | 4, _, hq => rw [mtys_at (ty := .object "PacketField$Station") rfl] at hq; cases hq; rw [hE2.2.2.2.2]; exact ha4
    · rw [hmA]
      unfold mst at hq
      rcases List.mem_cons.mp hq with rfl | hq
      · rw [hE4.2.1]; exact ⟨hz1, hT1⟩
      rcases List.mem_cons.mp hq with rfl | hq
      · rw [hE4.2.2.1]; exact ⟨hz2, hT2⟩
      rcases List.mem_cons.mp hq with rfl | hq
      · rw [hE4.2.2.2.1]; exact ⟨hz3, hT3⟩
      rcases List.mem_cons.mp hq with rfl | hq
      · rw [hE4.2.2.2.2]; exact ⟨hz4, hT4⟩
      cases hq
    · rw [hmA, hE4.1, hE5, hE6]; exact hTx
  have hP : mP E mM0 s.heap := ⟨fun k q hq => by simp [mws, mM0, mN] at hq, by rw [hE3]; rfl, fun r hr => absurd rfl hr⟩
  obtain ⟨Mf, ho, hn1, hs1⟩ := hpure L xs hL
  rw [← hE5, ← hE6] at ho
  obtain ⟨g1, g2, hw⟩ := v_L_law (E := E) mM0 1 Mf ho
  have hen := lv_entry ([Value.ref b] : List Value) (n := 4) (Nat.le_of_ble_eq_true rfl)
  rw [lg_entry_eq]
  generalize (lg_sl ([Value.ref b] : List Value) ++ List.replicate (4 - (lg_sl ([Value.ref b] : List Value)).length) Slot.unset).toArray = la at hen ⊢
  have w := hw p e s m #[Value.ref b] below meth c s.heap [] la 0 0 room_1 (lw_Z below #[Value.ref b] s) ⟨hx, hb, hr, hml, hown, fun w h => hts w (mtb_of h), hlocks, fun h => absurd h (by decide), hG, by rw [hE3]; exact Nat.le_refl _⟩ va_S.rf hP ⟨hen.1, hen.2.1, fun k v hk => ?_⟩ (Nat.le_refl _) (Nat.le_refl _) ⟨by decide, by decide, by show mN Mf - 0 ≤ 600000; omega, by show mSl Mf - 0 ≤ 7302250; omega, fun pc' H' locs' la' q1 q2 q3 q4 => ?_⟩
  · exact w
  · match k, hk with
    | 0, hk =>
      cases hk
      have h9 := hen.2.2 (0, Value.ref b) List.mem_cons_self
      have hv : mval E (.inr (some 0)) = Value.ref b := by
        show Value.ref (mad E 0) = _
        rw [mad_st E (by decide), hE4.1]
      rw [hv]
      exact h9
    | 1, hk => cases hk
    | 2, hk => cases hk
    | 3, hk => cases hk
    | k + 4, hk => simp at hk
  · refine va_forget (fun q hq => ?_) (W.widen (k := 600000) (n := 7302250) (by omega) (by omega) ?_)
    · have := q1.2.2 q hq
      rw [hmA] at this
      exact this
    · exact lw_ret hx hb hr hlocks q3
