section MN
variable {E : mE} {y : mI} {d pc : Nat} {ls : List (Option mV)} {st : List mV} {M : mM} {α : Type} {en : α → Option mV}
theorem mad_new (E : mE) (n : Nat) : mad E (16 + n) = eB E + n := by
  unfold mad
  rw [if_neg (by omega)]
  omega
theorem mnew_cell {kd len sl q : Nat} (h : q ≠ 16 + mN M) : mcell E (mnew M kd len sl) q = mcell E M q := mcell_congr (mrow_n _ _ h) (mrow_n _ _ h) (mrow_n _ _ h) (mrow_n _ _ h)
theorem m_newP {kd len sl : Nat} {H H1 : Heap} (hkd : kd ≠ 0) (hP : mP E M H) (z1 : H1.size = eB E + mN M + 1) (o1 : ∀ q : Nat, q < eB E + mN M → H1[q]? = H[q]?) (ha : va_at (eD E) vwCl (eB E + mN M, mcell E (mnew M kd len sl) (16 + mN M)) H1) : mP E (mnew M kd len sl) H1 := by
  refine ⟨fun k q hk => ?_, by rw [z1]; rfl, fun r hr => ?_⟩
  · unfold mws at hk
    rw [List.getElem?_map] at hk
    cases hz : (List.range (mN (mnew M kd len sl)))[k]? with
    | none => rw [hz] at hk; cases hk
    | some z =>
      have hlt := (List.getElem?_eq_some_iff.mp hz).1
      rw [List.length_range] at hlt
      rw [hz] at hk
      rw [List.getElem?_range hlt] at hz
      cases hz
      cases hk
      have hlt : k < mN M + 1 := hlt
      show va_at (eD E) vwCl (eB E + k, mcell E (mnew M kd len sl) (k + 16)) H1
      by_cases hkn : k = mN M
      · subst hkn
        rw [show mN M + 16 = 16 + mN M by omega]
        exact ha
      · rw [mnew_cell (show k + 16 ≠ 16 + mN M by omega)]
        have h9 : (mws E M)[k]? = some (eB E + k, mcell E M (k + 16)) := by
          unfold mws
          rw [List.getElem?_map, List.getElem?_range (by omega)]
          rfl
        exact (hP.1 k _ h9).kept (o1 _ (by show eB E + k < _; omega))
  · by_cases h : r = 16 + mN M
    · subst h
      exact ⟨by omega, by show _ < 16 + (mN M + 1); omega⟩
    · have h2 : mKd M r ≠ 0 := by
        have : mKd (mnew M kd len sl) r = mKd M r := mrow_n _ _ h
        rw [← this]; exact hr
      obtain ⟨a, b⟩ := hP.2.2 r h2
      exact ⟨a, by show _ < 16 + (mN M + 1); omega⟩
theorem m_newS {s : State} {H H1 : Heap} {locs : List Loc} {h : Nat} (hS : va_S (mA E) s.heap H locs) (hh : H.size = h) (z1 : H1.size = h + 1) (o1 : ∀ q : Nat, q < h → H1[q]? = H[q]?) : va_S (mA E) s.heap H1 locs := by
  subst hh
  exact ⟨Nat.le_trans hS.1 (by omega), fun x h1 h2 => (o1 x (Nat.lt_of_lt_of_le h1 hS.1)).trans (hS.2.1 x h1 h2), hS.2.2⟩
theorem m_new {index c : Nat} {C' : String} {T : u_T} {N : Nat} {k : Option Nat → mM → Option (α × mM)} (hd : decode y.2.1 pc = .ok (.new index, 3)) (hc : mCl c C' T N) (hl : Cond.classLink y.1.cls index C' ∈ mtb) (hi : Cond.instantiable C' N ∈ mtb) (hini : Cond.initialized C' ∈ mtb) (hz : ∀ j, j < N → defaultValue (mft c j) = if mfr c j = true then .null else .int 0) (kk : ∀ a M', mVr E y d (pc + 3) ls (.inr a :: st) M' en (k a M')) : mVr E y d pc ls st M en (x_nw M c k) := by
  unfold x_nw
  intro b Mf ho
  obtain ⟨h1, h2, kk⟩ := kk _ _ b Mf ho
  have h1 : mN M + 1 ≤ mN Mf := h1
  have h2 : mSl M + mnf c ≤ mSl Mf := h2
  have hnf := mnf_of hc
  rw [hnf] at h2
  refine ⟨by omega, by omega, fun p e s m args below meth cd H locs la n0 s0 R Q C hS hP hL hn hs hz9 => ?_⟩
  have hts := C.2.2.2.2.2.1
  have hKn := C.2.2.2.2.2.2.2.2.1.1.1 c _ hc.1
  refine W.newcK C.1 C.2.1 C.2.2.2.2.1 (hts _ hl) (hts _ hi) (hts _ hini) rfl hd (Nat.le_trans (show mN M - n0 + 1 ≤ mN Mf - n0 by omega) hz9.2.2.1) (Nat.le_trans (show mSl M - s0 + N ≤ mSl Mf - s0 by omega) hz9.2.2.2.1) hKn.2.1 hP.2.1 fun H1 kC hkC e1 z1 o1 => ?_
  have hP1 : mP E (mnew M (c + 10) 0 (mnf c)) H1 := by
    refine m_newP (by omega) hP z1 o1 ?_
    rw [mcell_o (show mKd (mnew M (c + 10) 0 (mnf c)) (16 + mN M) = c + 10 from mrow_s _ _ _)]
    refine ⟨_, hc.1, (u_born (mft c) hts hc.2.1 hKn hkC e1 hc.2.2.1).to (fun j hj => ?_)⟩
    rw [hz j hj]
    unfold vp_V
    rw [List.getD_eq_getElem?_getD, mfs_get (by rw [hnf]; exact hj)]
    unfold mfv mnew mRf
    simp only [mrow_s, Option.map_none, Option.getD_some]
    rfl
  have w := kk p e s m args below meth cd H1 locs la n0 s0 R Q C (m_newS hS hP.2.1 z1 o1) hP1 hL (Nat.le_trans hn (Nat.le_succ _)) (Nat.le_trans hs (Nat.le_add_right _ _)) hz9
  rw [show mN (mnew M (c + 10) 0 (mnf c)) - n0 = mN M - n0 + 1 by show mN M + 1 - n0 = _; omega, show mSl (mnew M (c + 10) 0 (mnf c)) - s0 = mSl M - s0 + N by show mSl M + mnf c - s0 = _; omega] at w
  have hv : List.map (mval E) (.inr (some (16 + mN M)) :: st) = .ref (eB E + mN M) :: st.map (mval E) := by
    show Value.ref (mad E (16 + mN M)) :: _ = _
    rw [mad_new]
  rw [hv] at w
  exact w
theorem m_newarr {at_ : ArrayType} {t : Nat} {ty : FieldType} {n : Int32} {k : Option Nat → mM → Option (α × mM)} (hd : decode y.2.1 pc = .ok (.newarray at_, 2)) (hty : newarray.typeOf at_ = ty) (ht : mtl[t]? = some ty) (h2 : t < 2) (hb : componentBytes ty ≤ 4) (hz : defaultValue ty = .int 0) (hw : Cond.arrayClass ty ∈ mtb) (hra : ∀ (U : State) (cA : ClassId), va_RA U cA ty → U.vm.findClass ("[" ++ ty.toString) = some cA) (kk : ∀ a M', mVr E y d (pc + 2) ls (.inr a :: st) M' en (k a M')) : mVr E y d pc ls (.inl n :: st) M en (x_na M t n k) := by
  subst hty
  unfold x_na
  split
  · rename_i hk
    intro b Mf ho
    obtain ⟨g1, g2, kk⟩ := kk _ _ b Mf ho
    have g1 : mN M + 1 ≤ mN Mf := g1
    have g2 : mSl M + n.toNatClampNeg ≤ mSl Mf := g2
    refine ⟨by omega, by omega, fun p e s m args below meth cd H locs la n0 s0 R Q C hS hP hL hn hs hz9 => ?_⟩
    have hbytes : n.toNatClampNeg * componentBytes (newarray.typeOf at_) ≤ 536870912 := by
      have : n.toNatClampNeg * componentBytes (newarray.typeOf at_) ≤ n.toNatClampNeg * 4 := Nat.mul_le_mul_left _ hb
      omega
    refine va_newaK C.1 C.2.1 (C.2.2.2.2.2.1 _ hw) rfl hd rfl hk.1 rfl hbytes (Nat.le_trans (show mN M - n0 + 1 ≤ mN Mf - n0 by omega) hz9.2.2.1) (Nat.le_trans (show mSl M - s0 + n.toNatClampNeg ≤ mSl Mf - s0 by omega) hz9.2.2.2.1) hP.2.1 fun H1 cA e1 z1 o1 hAr hNm => ?_
    have hcA : cA = eA E t := Option.some.inj (hNm.symm.trans (hra s (eA E t) (C.2.2.2.2.2.2.2.2.1.1.2 t _ (mtys_at ht)).2))
    subst hcA
    have hP1 : mP E (mnew M (t + 1) n.toNatClampNeg n.toNatClampNeg) H1 := by
      refine m_newP (by omega) hP z1 o1 ?_
      rw [mcell_i (show mKd (mnew M (t + 1) n.toNatClampNeg n.toNatClampNeg) (16 + mN M) = t + 1 from mrow_s _ _ _) h2]
      show H1[eB E + mN M]? = some (vp_cell _ _)
      rw [e1, vp_cell_i, hz]
      unfold mnew mLn
      simp only [mrow_s]
    have w := kk p e s m args below meth cd H1 locs la n0 s0 R Q C (m_newS hS hP.2.1 z1 o1) hP1 hL (Nat.le_trans hn (Nat.le_succ _)) (Nat.le_trans hs (Nat.le_add_right _ _)) hz9
    rw [show mN (mnew M (t + 1) n.toNatClampNeg n.toNatClampNeg) - n0 = mN M - n0 + 1 by show mN M + 1 - n0 = _; omega, show mSl (mnew M (t + 1) n.toNatClampNeg n.toNatClampNeg) - s0 = mSl M - s0 + n.toNatClampNeg by show mSl M + n.toNatClampNeg - s0 = _; omega] at w
    have hv : List.map (mval E) (.inr (some (16 + mN M)) :: st) = .ref (eB E + mN M) :: st.map (mval E) := by
      show Value.ref (mad E (16 + mN M)) :: _ = _
      rw [mad_new]
    rw [hv] at w
    exact w
  · exact m_none
theorem m_anew {index t : Nat} {S : String} {n : Int32} {k : Option Nat → mM → Option (α × mM)} (hd : decode y.2.1 pc = .ok (.anewarray index, 3)) (ht : mtl[t + 2]? = some (.object S)) (hcl : Cond.classLink y.1.cls index S ∈ mtb) (hao : Cond.arrayOver (.object S) ∈ mnw) (kk : ∀ a M', mVr E y d (pc + 3) ls (.inr a :: st) M' en (k a M')) : mVr E y d pc ls (.inl n :: st) M en (x_na M (t + 2) n k) := by
  have htl : t < 7 := by
    have := (List.getElem?_eq_some_iff.mp ht).1
    simp [mtl] at this
    omega
  unfold x_na
  split
  · rename_i hk
    intro b Mf ho
    obtain ⟨g1, g2, kk⟩ := kk _ _ b Mf ho
    have g1 : mN M + 1 ≤ mN Mf := g1
    have g2 : mSl M + n.toNatClampNeg ≤ mSl Mf := g2
    refine ⟨by omega, by omega, fun p e s m args below meth cd H locs la n0 s0 R Q C hS hP hL hn hs hz9 => ?_⟩
    have hover : va_AO S s := C.2.2.2.2.2.2.2.2.1.2.2.2 _ hao
    refine W.anew C.1 C.2.1 C.2.2.2.2.1 (C.2.2.2.2.2.1 _ hcl) (va_AO.use hover) rfl hd rfl hk.1 (by omega) (Nat.le_trans (show mN M - n0 + 1 ≤ mN Mf - n0 by omega) hz9.2.2.1) (Nat.le_trans (show mSl M - s0 + n.toNatClampNeg ≤ mSl Mf - s0 by omega) hz9.2.2.2.1) fun cA kA comp f1 f2 f3 f4 => ?_
    generalize hH1 : H.push ({ cls := cA, slots := Array.replicate n.toNatClampNeg .null, vm := .none } : Cell) = H1
    have z1 : H1.size = H.size + 1 := by rw [← hH1, Array.size_push]
    have e1 : H1[H.size]? = some (arrV cA n.toNatClampNeg (fun _ => .null)) := by rw [← hH1, Array.getElem?_push_size, ← arrV_new]
    have o1 : ∀ q : Nat, q < H.size → H1[q]? = H[q]? := fun q hq => by rw [← hH1, Array.getElem?_push, if_neg (Nat.ne_of_lt hq)]
    rw [hP.2.1] at z1 e1 o1 ⊢
    have hcA : cA = eA E (t + 2) := by
      obtain ⟨kA', comp', k1, k2, k3, k4⟩ := (C.2.2.2.2.2.2.2.2.1.1.2 (t + 2) _ (mtys_at ht)).2
      exact Option.some.inj (f1.symm.trans k4)
    subst hcA
    have hP1 : mP E (mnew M (t + 2 + 1) n.toNatClampNeg n.toNatClampNeg) H1 := by
      refine m_newP (by omega) hP z1 o1 ?_
      rw [mcell_q (show mKd (mnew M (t + 2 + 1) n.toNatClampNeg n.toNatClampNeg) (16 + mN M) = t + 3 from mrow_s _ _ _) htl]
      show H1[eB E + mN M]? = some (vp_cell _ _)
      rw [e1, vp_cell_q]
      unfold mnew mLn mRf
      simp only [mrow_s]
      rfl
    have w := kk p e s m args below meth cd H1 locs la n0 s0 R Q C (m_newS hS hP.2.1 z1 o1) hP1 hL (Nat.le_trans hn (Nat.le_succ _)) (Nat.le_trans hs (Nat.le_add_right _ _)) hz9
    rw [show mN (mnew M (t + 2 + 1) n.toNatClampNeg n.toNatClampNeg) - n0 = mN M - n0 + 1 by show mN M + 1 - n0 = _; omega, show mSl (mnew M (t + 2 + 1) n.toNatClampNeg n.toNatClampNeg) - s0 = mSl M - s0 + n.toNatClampNeg by show mSl M + n.toNatClampNeg - s0 = _; omega] at w
    have hv : List.map (mval E) (.inr (some (16 + mN M)) :: st) = .ref (eB E + mN M) :: st.map (mval E) := by
      show Value.ref (mad E (16 + mN M)) :: _ = _
      rw [mad_new]
    rw [hv] at w
    exact w
  · exact m_none
theorem mcats (E : mE) (st : List mV) : ((st.map (mval E)).map fun v => v.category).sum = st.length := by
  induction st with
  | nil => rfl
  | cons a l ih =>
    simp only [List.map_cons, List.sum_cons, List.length_cons]
    rw [ih, mval_cat]
    omega
theorem m_objInit {index : Nat} {r : Nat} {o : Option (α × mM)} (hd : decode y.2.1 pc = .ok (.invokespecial index, 3)) (hl : Cond.methodLink y.1.cls index Lib.objectInit ∈ mtb) (hi : Cond.instanceMethod Lib.objectInit ∈ mtb) (hcd : Cond.code Lib.objectInit ⟨#[0xb1]⟩ 1 none ∈ mtb) (hdd : st.length + 12 ≤ 40 * d) (k : mVr E y d (pc + 3) ls st M en o) : mVr E y d pc ls (.inr (some r) :: st) M en o := by
  intro b Mf ho
  obtain ⟨h1, h2, kk⟩ := k b Mf ho
  refine ⟨h1, h2, fun p e s m args below meth cd H locs la n0 s0 R Q C hS hP hL hn hs hz9 => ?_⟩
  have hts := C.2.2.2.2.2.1
  exact W.objInit C.1 C.2.1 C.2.2.2.2.1 (hts _ hl) (hts _ hi) (hts _ hcd) rfl (by rw [C.2.2.2.1]; exact hL.1) (rest := st.map (mval E)) rfl hd (Nat.le_trans (show 1 ≤ d by omega) hz9.1) (by rw [mcats]; exact Nat.le_trans (show 2 * 0 + st.length + 12 ≤ 40 * d by omega) hz9.2.1) (kk p e s m args below meth cd H locs la n0 s0 R Q C hS hP hL hn hs hz9)
end MN
