/-! fields, arrays, new cells -/
def mFd (own : String) (index c j : Nat) : Prop := ∃ (C : String) (T : u_T) (N : Nat), mCl c C T N ∧ j < N ∧ Cond.fieldLink own index (T j).1 (T j).2.1 (T j).2.2.1 ∈ mtb
def mFp (own : String) (index c j : Nat) : Prop := ∃ (C : String) (T : u_T) (N : Nat), mCl c C T N ∧ j < N ∧ Cond.fieldLink own index (T j).1 (T j).2.1 (T j).2.2.1 ∈ mtb ∧ ((T j).2.2.2 = false ∨ ((T j).2.2.2 = true ∧ (T j).1 = own))
theorem mnf_of {c N : Nat} {C : String} {T : u_T} (h : mCl c C T N) : mnf c = N := by
  unfold mnf
  rw [h.1]
theorem mtys_at {E : mE} {k : Nat} {ty : FieldType} (h : mtl[k]? = some ty) : (mtys E)[k]? = some (eA E k, ty) := by
  have hl := (List.getElem?_eq_some_iff.mp h).1
  unfold mtys
  rw [List.getElem?_map, List.getElem?_range hl]
  simp only [Option.map_some]
  rw [List.getD_eq_getElem?_getD, h]
  rfl
/-- reading a field, an array; a length -/
def x_gI {β : Type} (M : mM) (c : Nat) (a : Option Nat) (j : Nat) (k : Int32 → Option β) : Option β := match a with
  | none => none
  | some r => if mKd M r = c + 10 then k (M.1 r j) else none
def x_gR {β : Type} (M : mM) (c : Nat) (a : Option Nat) (j : Nat) (k : Option Nat → Option β) : Option β := match a with
  | none => none
  | some r => if mKd M r = c + 10 then k (mRf M r j) else none
def x_aI {β : Type} (M : mM) (t : Nat) (a : Option Nat) (i : Int32) (k : Int32 → Option β) : Option β := match a with
  | none => none
  | some r => if mKd M r = t + 1 ∧ ¬ i < 0 ∧ i.toNatClampNeg < mLn M r then k (M.1 r i.toNatClampNeg) else none
def x_aR {β : Type} (M : mM) (t : Nat) (a : Option Nat) (i : Int32) (k : Option Nat → Option β) : Option β := match a with
  | none => none
  | some r => if mKd M r = t + 3 ∧ ¬ i < 0 ∧ i.toNatClampNeg < mLn M r then k (mRf M r i.toNatClampNeg) else none
def x_al {β : Type} (M : mM) (t : Nat) (a : Option Nat) (k : Int32 → Option β) : Option β := match a with
  | none => none
  | some r => if mKd M r = t + 1 then k (Int32.ofNat (mLn M r)) else none
/-- writing -/
def mpI (M : mM) (r j : Nat) (v : Int32) : mM := (mrow M.1 r (upd (M.1 r) j v), M.2)
def mpR (M : mM) (r j : Nat) (v : Option Nat) : mM := (M.1, mrow (mRf M) r (va_up (mRf M r) j v), M.2.2)
def x_pI {β : Type} (M : mM) (c : Nat) (a : Option Nat) (j : Nat) (v : Int32) (k : mM → Option β) : Option β := match a with
  | none => none
  | some r => if mKd M r = c + 10 then k (mpI M r j v) else none
def x_pZ {β : Type} (M : mM) (c : Nat) (a : Option Nat) (j : Nat) (v : Int32) (k : mM → Option β) : Option β := match a with
  | none => none
  | some r => if mKd M r = c + 10 ∧ (v = 0 ∨ v = 1) then k (mpI M r j v) else none
def x_pR {β : Type} (M : mM) (c : Nat) (a : Option Nat) (j : Nat) (v : Option Nat) (k : mM → Option β) : Option β := match a with
  | none => none
  | some r => if mKd M r = c + 10 then k (mpR M r j v) else none
def x_wI {β : Type} (M : mM) (a : Option Nat) (i v : Int32) (k : mM → Option β) : Option β := match a with
  | none => none
  | some r => if mKd M r = 1 ∧ ¬ i < 0 ∧ i.toNatClampNeg < mLn M r then k (mpI M r i.toNatClampNeg v) else none
def x_wZ {β : Type} (M : mM) (a : Option Nat) (i v : Int32) (k : mM → Option β) : Option β := match a with
  | none => none
  | some r => if mKd M r = 2 ∧ ¬ i < 0 ∧ i.toNatClampNeg < mLn M r ∧ (v = 0 ∨ v = 1) then k (mpI M r i.toNatClampNeg v) else none
def x_wR {β : Type} (M : mM) (t c : Nat) (a : Option Nat) (i : Int32) (v : Option Nat) (k : mM → Option β) : Option β := match a, v with
  | some r, some q => if mKd M r = t + 3 ∧ ¬ i < 0 ∧ i.toNatClampNeg < mLn M r ∧ mKd M q = c + 10 then k (mpR M r i.toNatClampNeg (some q)) else none
  | _, _ => none
/-- a new cell -/
def mnew (M : mM) (kd len sl : Nat) : mM := (mrow M.1 (16 + mN M) (fun _ => 0), mrow (mRf M) (16 + mN M) (fun _ => none), mrow (mKd M) (16 + mN M) kd, mrow (mLn M) (16 + mN M) len, mN M + 1, mSl M + sl)
def x_nw {β : Type} (M : mM) (c : Nat) (k : Option Nat → mM → Option β) : Option β := k (some (16 + mN M)) (mnew M (c + 10) 0 (mnf c))
def x_na {β : Type} (M : mM) (t : Nat) (n : Int32) (k : Option Nat → mM → Option β) : Option β := if ¬ n < 0 ∧ n.toNatClampNeg < 100000000 then k (some (16 + mN M)) (mnew M (t + 1) n.toNatClampNeg n.toNatClampNeg) else none
section MH
variable {E : mE} {y : mI} {d pc : Nat} {ls : List (Option mV)} {st : List mV} {M : mM} {α : Type} {en : α → Option mV}
theorem m_getI {index c j : Nat} {a : Option Nat} {k : Int32 → Option (α × mM)} (hd : decode y.2.1 pc = .ok (.getfield index, 3)) (hf : mFd y.1.cls index c j) (hr : mfr c j = false) (kk : ∀ x, mVr E y d (pc + 3) ls (.inl x :: st) M en (k x)) : mVr E y d pc ls (.inr a :: st) M en (x_gI M c a j k) := by
  cases a with
  | none => exact m_none
  | some r =>
    unfold x_gI
    dsimp only
    split
    · rename_i hk
      intro b Mf ho
      obtain ⟨h1, h2, kk⟩ := kk _ b Mf ho
      refine ⟨h1, h2, fun p e s m args below meth c H locs la n0 s0 R Q C hS hP hL hn hs hz9 => ?_⟩
      obtain ⟨C', T, N, hc, hj, hlk⟩ := hf
      refine va_get (v := .int (M.1 r j)) C.1 C.2.1 C.2.2.2.2.2.1 hc.2.1 C.2.2.2.2.1 C.2.2.2.2.2.2.2.2.1.1 hP.1 (r - 16) (by rw [mws_get hP (by omega), mcell_o hk]) hc.1 j hj (C.2.2.2.2.2.1 _ hlk) (fun _ h => h) ?_ hd (kk p e s m args below meth c H locs la n0 s0 R Q C hS hP hL hn hs hz9)
      rw [mfs_get (by rw [mnf_of hc]; exact hj)]
      unfold mfv
      rw [hr]
      rfl
    · exact m_none
theorem m_getR {index c j : Nat} {a : Option Nat} {k : Option Nat → Option (α × mM)} (hd : decode y.2.1 pc = .ok (.getfield index, 3)) (hf : mFd y.1.cls index c j) (hr : mfr c j = true) (kk : ∀ x, mVr E y d (pc + 3) ls (.inr x :: st) M en (k x)) : mVr E y d pc ls (.inr a :: st) M en (x_gR M c a j k) := by
  cases a with
  | none => exact m_none
  | some r =>
    unfold x_gR
    dsimp only
    split
    · rename_i hk
      intro b Mf ho
      obtain ⟨h1, h2, kk⟩ := kk _ b Mf ho
      refine ⟨h1, h2, fun p e s m args below meth c H locs la n0 s0 R Q C hS hP hL hn hs hz9 => ?_⟩
      obtain ⟨C', T, N, hc, hj, hlk⟩ := hf
      refine va_get (v := mval E (.inr (mRf M r j))) C.1 C.2.1 C.2.2.2.2.2.1 hc.2.1 C.2.2.2.2.1 C.2.2.2.2.2.2.2.2.1.1 hP.1 (r - 16) (by rw [mws_get hP (by omega), mcell_o hk]) hc.1 j hj (C.2.2.2.2.2.1 _ hlk) (fun _ h => h) ?_ hd (kk p e s m args below meth c H locs la n0 s0 R Q C hS hP hL hn hs hz9)
      rw [mfs_get (by rw [mnf_of hc]; exact hj), mval_r]
      unfold mfv
      rw [if_pos hr]
    · exact m_none
theorem m_iald {a : Option Nat} {i : Int32} {k : Int32 → Option (α × mM)} (hd : decode y.2.1 pc = .ok (.iaload, 1)) (kk : ∀ x, mVr E y d (pc + 1) ls (.inl x :: st) M en (k x)) : mVr E y d pc ls (.inl i :: .inr a :: st) M en (x_aI M 0 a i k) := by
  cases a with
  | none => exact m_none
  | some r =>
    unfold x_aI
    dsimp only
    split
    · rename_i hk
      intro b Mf ho
      obtain ⟨h1, h2, kk⟩ := kk _ b Mf ho
      refine ⟨h1, h2, fun p e s m args below meth c H locs la n0 s0 R Q C hS hP hL hn hs hz9 => ?_⟩
      exact va_iald C.1 C.2.1 C.2.2.2.2.2.2.2.2.1.1 hP.1 (r - 16) 0 (by rw [mws_get hP (by omega), mcell_i hk.1 (by omega)]) (mtys_at rfl) (fun q => q.elim hk.2.1 (fun q => by omega)) hd (kk p e s m args below meth c H locs la n0 s0 R Q C hS hP hL hn hs hz9)
    · exact m_none
theorem m_zald {a : Option Nat} {i : Int32} {k : Int32 → Option (α × mM)} (hd : decode y.2.1 pc = .ok (.baload, 1)) (kk : ∀ x, mVr E y d (pc + 1) ls (.inl x :: st) M en (k x)) : mVr E y d pc ls (.inl i :: .inr a :: st) M en (x_aI M 1 a i k) := by
  cases a with
  | none => exact m_none
  | some r =>
    unfold x_aI
    dsimp only
    split
    · rename_i hk
      intro b Mf ho
      obtain ⟨h1, h2, kk⟩ := kk _ b Mf ho
      refine ⟨h1, h2, fun p e s m args below meth c H locs la n0 s0 R Q C hS hP hL hn hs hz9 => ?_⟩
      exact va_zald C.1 C.2.1 C.2.2.2.2.2.2.2.2.1.1 hP.1 (r - 16) 1 (by rw [mws_get hP (by omega), mcell_i hk.1 (by omega)]) (mtys_at rfl) (fun q => q.elim hk.2.1 (fun q => by omega)) hd (kk p e s m args below meth c H locs la n0 s0 R Q C hS hP hL hn hs hz9)
    · exact m_none
theorem m_aald {t : Nat} {S : String} {a : Option Nat} {i : Int32} {k : Option Nat → Option (α × mM)} (hd : decode y.2.1 pc = .ok (.aaload, 1)) (ht : mtl[t + 2]? = some (.object S)) (kk : ∀ x, mVr E y d (pc + 1) ls (.inr x :: st) M en (k x)) : mVr E y d pc ls (.inl i :: .inr a :: st) M en (x_aR M t a i k) := by
  have htl : t < 7 := by
    have := (List.getElem?_eq_some_iff.mp ht).1
    simp [mtl] at this
    omega
  cases a with
  | none => exact m_none
  | some r =>
    unfold x_aR
    dsimp only
    split
    · rename_i hk
      intro b Mf ho
      obtain ⟨h1, h2, kk⟩ := kk _ b Mf ho
      refine ⟨h1, h2, fun p e s m args below meth c H locs la n0 s0 R Q C hS hP hL hn hs hz9 => ?_⟩
      have kk := kk p e s m args below meth c H locs la n0 s0 R Q C hS hP hL hn hs hz9
      refine va_aldq C.1 C.2.1 C.2.2.2.2.2.2.2.2.1.1 hP.1 (r - 16) (t + 2) (by rw [mws_get hP (by omega), mcell_q hk.1 htl]) (mtys_at ht) (fun q => q.elim hk.2.1 (fun q => by omega)) hd ?_
      rw [List.map_cons, mval_r] at kk
      exact kk
    · exact m_none
theorem m_alen {t : Nat} {ty : FieldType} {a : Option Nat} {k : Int32 → Option (α × mM)} (hd : decode y.2.1 pc = .ok (.arraylength, 1)) (ht : mtl[t]? = some ty) (kk : ∀ x, mVr E y d (pc + 1) ls (.inl x :: st) M en (k x)) : mVr E y d pc ls (.inr a :: st) M en (x_al M t a k) := by
  have htl : t < 5 := by
    have := (List.getElem?_eq_some_iff.mp ht).1
    simpa [mtl] using this
  cases a with
  | none => exact m_none
  | some r =>
    unfold x_al
    dsimp only
    split
    · rename_i hk
      intro b Mf ho
      obtain ⟨h1, h2, kk⟩ := kk _ b Mf ho
      refine ⟨h1, h2, fun p e s m args below meth c H locs la n0 s0 R Q C hS hP hL hn hs hz9 => ?_⟩
      have kk := kk p e s m args below meth c H locs la n0 s0 R Q C hS hP hL hn hs hz9
      by_cases h3 : t < 2
      · exact va_alen (x := (mLn M r, .inl (M.1 r))) C.1 C.2.1 C.2.2.2.2.2.2.2.2.1.1 hP.1 (r - 16) t (by rw [mws_get hP (by omega), mcell_i hk h3]) (mtys_at ht) rfl hd kk
      · obtain ⟨u, rfl⟩ : ∃ u, t = u + 2 := ⟨t - 2, by omega⟩
        exact va_alen (x := (mLn M r, .inr (.inr (.inr (.inr (fun j => (mRf M r j).map (mad E))))))) C.1 C.2.1 C.2.2.2.2.2.2.2.2.1.1 hP.1 (r - 16) (u + 2) (by rw [mws_get hP (by omega), mcell_q hk (by omega)]) (mtys_at ht) rfl hd kk
    · exact m_none
theorem mpI_cell {r j : Nat} {v : Int32} {q : Nat} (h : q ≠ r) : mcell E (mpI M r j v) q = mcell E M q := mcell_congr (mrow_n _ _ h) rfl rfl rfl
theorem mpR_cell {r j : Nat} {v : Option Nat} {q : Nat} (h : q ≠ r) : mcell E (mpR M r j v) q = mcell E M q := mcell_congr rfl (mrow_n _ _ h) rfl rfl
/-- storing in a field: the world behind it -/
theorem m_putw {index c j r : Nat} {v : Value} {M' : mM} {p : Program} {e : Env} {R : Room} {s : State} {m : MethodId} {args : Array Value} {below : List Frame} {meth : Method} {cd : Code} {H : Heap} {locs : List Loc} {cells slots : Nat} {Q : State → Prop} {la : Array Slot} {rest : List Value} (C : mC E y p s m args meth cd) (hS : va_S (mA E) s.heap H locs) (hP : mP E M H) (hd : decode y.2.1 pc = .ok (.putfield index, 3)) (hf : mFp y.1.cls index c j) (hin : (∃ (C : String) (T : u_T) (N : Nat), vwCl[c]? = some (C, T, N) ∧ (T j).2.2.2 = true) → y.1.name = "<init>") (hk : mKd M r = c + 10) (hnar : narrow (mft c j) v = v) (hfit : fits (mft c j) v = true)
    (e1 : mcell E M' r = .inr (c, (mfs E M c r).set j v)) (e2 : ∀ q, q ≠ r → mcell E M' q = mcell E M q) (e3 : mN M' = mN M) (e4 : mKd M' = mKd M)
    (kk : ∀ (H1 : Heap) (locs1 : List Loc), mP E M' H1 → va_S (mA E) s.heap H1 locs1 → W p E.1 e R s m args below meth cd H1 locs1 cells slots Q (F0 m (pc + 3) la rest)) : W p E.1 e R s m args below meth cd H locs cells slots Q (F0 m pc la (v :: .ref (mad E r) :: rest)) := by
  obtain ⟨C', T, N, hc, hj, hlk, hfin⟩ := hf
  have hts := C.2.2.2.2.2.1
  have hown := C.2.2.2.2.1
  have hK := C.2.2.2.2.2.2.2.2.1.1
  have hD := mws_D E M
  have he := mws_get hP (r := r) (by omega)
  rw [mcell_o hk] at he
  have hr16 := (hP.2.2 r (by omega)).1
  have hap := va_apart (own := y.1.cls) hts hc.2.1 (mft c) hc.2.2.1 hc.2.2.2 hK hc.1
  obtain ⟨r', h1, cell, q1, q2, q3, q4⟩ := hP.1 (r - 16) _ he
  have hr : r' = (C', T, N) := Option.some.inj (h1.symm.trans hc.1)
  subst hr
  obtain ⟨hSl, hfc, kC, hkC, hkind⟩ := hK.1 c _ hc.1
  obtain ⟨cf, kf, fi, f, hi, hsl⟩ := hSl j hj
  have hst := (u_facts hfc hkC (u_lays hts hc.2.1 hj) hi).1
  have fin : ∀ H' : Heap, H'[mad E r]? = some (cell.setSlot (((eD E).2 c) j) v) → H'.size = H.size → (∀ q, q ≠ mad E r → H'[q]? = H[q]?) → mP E M' H' ∧ va_S (mA E) s.heap H' (locs ++ [⟨mad E r, ((eD E).2 c) j⟩]) := by
    intro H' g1 g2 g3
    have hl : j < (mfs E M c r).length := by rw [mfs_len, mnf_of hc]; exact hj
    have hset := hP.1.set hD he (e := .inr (c, (mfs E M c r).set j v)) ⟨_, hc.1, t_OB.to (V := updV (vp_V (mfs E M c r)) j v) ⟨_, g1, q2, q3, t_set q4 hap hj v⟩ (fun i _ => vp_updV_set hl v i)⟩ g3
    rw [← e1, mws_set hr16 e3 rfl e2] at hset
    exact ⟨⟨hset, by rw [g2, e3]; exact hP.2.1, by rw [e3, e4]; exact hP.2.2⟩, hS.put g2 g3 (hD.2 _ _ he)⟩
  have hlay := hts _ (hc.2.1 _ (u_in_lay hj))
  unfold u_lay at hlay
  rcases hfin with hfin | ⟨hfin, hdecl⟩
  · rw [if_neg (by rw [hfin]; decide)] at hlay
    have h6 := u_store hfc hkC hkind hlay hi (hc.2.2.1 j hj) hnar hfit
    refine W.putK C.1 C.2.1 (f := f) ⟨hown, hts _ hlk, ⟨_, _, _, hi⟩, hst⟩ (by rw [q2]; exact h6) q1 q3 (by rw [hsl]; exact k2_hasslot (q4 j hj)) rfl rfl hd fun H' g1 g2 g3 => ?_
    rw [hsl] at g1 ⊢
    obtain ⟨a1, a2⟩ := fin H' g1 g2 g3
    exact kk H' _ a1 a2
  · rw [if_pos hfin] at hlay
    have hcf : m.cls = cf := by
      obtain ⟨_, _, c', _, _, _, -, -, hf', -, -, -, hown2, -⟩ := Cond.laysFinal_spec hlay
      have z1 : c' = cf := by have := hi.symm.trans hf'; simp at this; exact this.1.symm
      rw [hdecl] at hown2
      rw [← z1]; exact Option.some.inj (hown.symm.trans hown2)
    have h6 := u_fits hfc hkC hkind (Or.inr hlay) hi (hc.2.2.1 j hj) hnar hfit
    refine W.putFinK C.1 C.2.1 hown (hts _ hlk) hi hst hcf (C.2.2.2.2.2.2.2.1 (hin ⟨_, _, _, hc.1, hfin⟩)) (by rw [q2]; exact h6) q1 q3 (by rw [hsl]; exact k2_hasslot (q4 j hj)) rfl rfl hd fun H' g1 g2 g3 => ?_
    rw [hsl] at g1 ⊢
    obtain ⟨a1, a2⟩ := fin H' g1 g2 g3
    exact kk H' _ a1 a2
end MH
