section MH2
variable {E : mE} {y : mI} {d pc : Nat} {ls : List (Option mV)} {st : List mV} {M : mM} {α : Type} {en : α → Option mV}
theorem mfs_setI {c r j : Nat} {v : Int32} (hk : mKd M r = c + 10) (hr : mfr c j = false) : mcell E (mpI M r j v) r = .inr (c, (mfs E M c r).set j (.int v)) := by
  rw [mcell_o (show mKd (mpI M r j v) r = c + 10 from hk)]
  congr 2
  apply List.ext_getElem?
  intro i
  by_cases hi : i < mnf c
  · rw [mfs_get hi]
    by_cases hij : i = j
    · subst hij
      rw [List.getElem?_set_self (by rw [mfs_len]; exact hi)]
      unfold mfv mpI
      rw [hr]
      simp [mrow, upd]
    · rw [List.getElem?_set_ne (Ne.symm hij), mfs_get hi]
      unfold mfv mpI
      simp [mrow, upd, hij]
  · rw [List.getElem?_eq_none (by rw [mfs_len]; omega), List.getElem?_eq_none (by rw [List.length_set, mfs_len]; omega)]
theorem mfs_setR {c r j : Nat} {v : Option Nat} (hk : mKd M r = c + 10) (hr : mfr c j = true) : mcell E (mpR M r j v) r = .inr (c, (mfs E M c r).set j (mval E (.inr v))) := by
  rw [mcell_o (show mKd (mpR M r j v) r = c + 10 from hk)]
  congr 2
  apply List.ext_getElem?
  intro i
  by_cases hi : i < mnf c
  · rw [mfs_get hi]
    by_cases hij : i = j
    · subst hij
      rw [List.getElem?_set_self (by rw [mfs_len]; exact hi), mval_r]
      unfold mfv mpR
      rw [hr]
      simp [mRf, mrow, va_up]
    · rw [List.getElem?_set_ne (Ne.symm hij), mfs_get hi]
      unfold mfv mpR
      simp [mRf, mrow, va_up, hij]
  · rw [List.getElem?_eq_none (by rw [mfs_len]; omega), List.getElem?_eq_none (by rw [List.length_set, mfs_len]; omega)]
theorem m_putI {index c j : Nat} {a : Option Nat} {v : Int32} {k : mM → Option (α × mM)} (hd : decode y.2.1 pc = .ok (.putfield index, 3)) (hf : mFp y.1.cls index c j) (hin : (∃ (C : String) (T : u_T) (N : Nat), vwCl[c]? = some (C, T, N) ∧ (T j).2.2.2 = true) → y.1.name = "<init>") (hr : mft c j = .int) (kk : ∀ M', mVr E y d (pc + 3) ls st M' en (k M')) : mVr E y d pc ls (.inl v :: .inr a :: st) M en (x_pI M c a j v k) := by
  cases a with
  | none => exact m_none
  | some r =>
    unfold x_pI
    dsimp only
    split
    · rename_i hk
      intro b Mf ho
      obtain ⟨h1, h2, kk⟩ := kk _ b Mf ho
      refine ⟨h1, h2, fun p e s m args below meth c H locs la n0 s0 R Q C hS hP hL hn hs hz9 => ?_⟩
      exact m_putw C hS hP hd hf hin hk (by rw [hr]; rfl) (by rw [hr]; rfl) (mfs_setI hk (by unfold mfr; rw [hr]; rfl)) (fun q => mpI_cell) rfl rfl (fun H1 locs1 hP1 hS1 => kk p e s m args below meth c H1 locs1 la n0 s0 R Q C hS1 hP1 hL hn hs hz9)
    · exact m_none
theorem m_putZ {index c j : Nat} {a : Option Nat} {v : Int32} {k : mM → Option (α × mM)} (hd : decode y.2.1 pc = .ok (.putfield index, 3)) (hf : mFp y.1.cls index c j) (hin : (∃ (C : String) (T : u_T) (N : Nat), vwCl[c]? = some (C, T, N) ∧ (T j).2.2.2 = true) → y.1.name = "<init>") (hr : mft c j = .boolean) (kk : ∀ M', mVr E y d (pc + 3) ls st M' en (k M')) : mVr E y d pc ls (.inl v :: .inr a :: st) M en (x_pZ M c a j v k) := by
  cases a with
  | none => exact m_none
  | some r =>
    unfold x_pZ
    dsimp only
    split
    · rename_i hk
      intro b Mf ho
      obtain ⟨h1, h2, kk⟩ := kk _ b Mf ho
      refine ⟨h1, h2, fun p e s m args below meth c H locs la n0 s0 R Q C hS hP hL hn hs hz9 => ?_⟩
      exact m_putw C hS hP hd hf hin hk.1 (by rw [hr]; rcases hk.2 with q | q <;> rw [q] <;> rfl) (by rw [hr]; rcases hk.2 with q | q <;> rw [q] <;> rfl) (mfs_setI hk.1 (by unfold mfr; rw [hr]; rfl)) (fun q => mpI_cell) rfl rfl (fun H1 locs1 hP1 hS1 => kk p e s m args below meth c H1 locs1 la n0 s0 R Q C hS1 hP1 hL hn hs hz9)
    · exact m_none
theorem m_putR {index c j : Nat} {a v : Option Nat} {k : mM → Option (α × mM)} (hd : decode y.2.1 pc = .ok (.putfield index, 3)) (hf : mFp y.1.cls index c j) (hin : (∃ (C : String) (T : u_T) (N : Nat), vwCl[c]? = some (C, T, N) ∧ (T j).2.2.2 = true) → y.1.name = "<init>") (hr : mfr c j = true) (kk : ∀ M', mVr E y d (pc + 3) ls st M' en (k M')) : mVr E y d pc ls (.inr v :: .inr a :: st) M en (x_pR M c a j v k) := by
  cases a with
  | none => exact m_none
  | some r =>
    unfold x_pR
    dsimp only
    split
    · rename_i hk
      intro b Mf ho
      obtain ⟨h1, h2, kk⟩ := kk _ b Mf ho
      refine ⟨h1, h2, fun p e s m args below meth cd H locs la n0 s0 R Q C hS hP hL hn hs hz9 => ?_⟩
      have h3 : narrow (mft c j) (mval E (.inr v)) = mval E (.inr v) ∧ fits (mft c j) (mval E (.inr v)) = true := by
        unfold mfr at hr
        generalize mft c j = ty at hr ⊢
        cases ty <;> first | (simp [refKind] at hr; done) | (rcases v with _ | v <;> exact ⟨rfl, rfl⟩)
      exact m_putw C hS hP hd hf hin hk h3.1 h3.2 (mfs_setR hk hr) (fun q => mpR_cell) rfl rfl (fun H1 locs1 hP1 hS1 => kk p e s m args below meth cd H1 locs1 la n0 s0 R Q C hS1 hP1 hL hn hs hz9)
    · exact m_none
/-- storing in an array: the world behind it -/
theorem m_arrw {r i t : Nat} {x : Int32} {H H1 : Heap} {locs : List Loc} {s : State} (hP : mP E M H) (hS : va_S (mA E) s.heap H locs) (hk : mKd M r = t + 1) (ht : t < 2) (e1 : H1[mad E r]? = some ((vp_cell (eA E t) (mLn M r, .inl (M.1 r))).setSlot i (.int x))) (e2 : H1.size = H.size) (e3 : ∀ q, q ≠ mad E r → H1[q]? = H[q]?) : mP E (mpI M r i x) H1 ∧ va_S (mA E) s.heap H1 (locs ++ [⟨mad E r, i⟩]) := by
  have hD := mws_D E M
  have he := mws_get hP (r := r) (by omega)
  rw [mcell_i hk ht] at he
  have hr16 := (hP.2.2 r (by omega)).1
  have hx : mcell E (mpI M r i x) r = .inl (eA E t, mLn M r, .inl (upd (M.1 r) i x)) := by
    rw [mcell_i (show mKd (mpI M r i x) r = t + 1 from hk) ht]
    simp [mpI, mrow]
  have hset := hP.1.set hD he (e := .inl (eA E t, mLn M r, .inl (upd (M.1 r) i x))) (show H1[mad E r]? = some (vp_cell _ _) by
    rw [e1, vp_cell_i, vp_cell_i, arrV_store]
    congr 2
    funext q
    by_cases hq : q = i
    · subst hq
      simp [updV, upd]
    · simp [updV, upd, hq]) e3
  rw [← hx, mws_set hr16 (show mN (mpI M r i x) = mN M from rfl) rfl (fun q => mpI_cell)] at hset
  exact ⟨⟨hset, by rw [e2]; exact hP.2.1, hP.2.2⟩, hS.put e2 e3 (hD.2 _ _ he)⟩
theorem m_iast {a : Option Nat} {i v : Int32} {k : mM → Option (α × mM)} (hd : decode y.2.1 pc = .ok (.iastore, 1)) (kk : ∀ M', mVr E y d (pc + 1) ls st M' en (k M')) : mVr E y d pc ls (.inl v :: .inl i :: .inr a :: st) M en (x_wI M a i v k) := by
  cases a with
  | none => exact m_none
  | some r =>
    unfold x_wI
    dsimp only
    split
    · rename_i hk
      intro b Mf ho
      obtain ⟨h1, h2, kk⟩ := kk _ b Mf ho
      refine ⟨h1, h2, fun p e s m args below meth c H locs la n0 s0 R Q C hS hP hL hn hs hz9 => ?_⟩
      have he := mws_get hP (r := r) (by omega)
      rw [mcell_i hk.1 (by omega)] at he
      refine W.iast (a := mad E r) C.1 C.2.1 (hP.1 _ _ he) ((C.2.2.2.2.2.2.2.2.1.1.2 0 _ (mtys_at rfl)).1 (mLn M r) (fun j => .int (M.1 r j))) (fun q => by cases q) (by show ¬ (i < 0 ∨ (arrV _ _ _).slots.size ≤ _); rw [arrV_size]; exact fun q => q.elim hk.2.1 (fun q => absurd q (Nat.not_le.mpr hk.2.2))) rfl rfl hd fun H1 e1 e2 e3 => ?_
      obtain ⟨a1, a2⟩ := m_arrw hP hS hk.1 (by omega) e1 e2 e3
      exact kk p e s m args below meth c H1 _ la n0 s0 R Q C a2 a1 hL hn hs hz9
    · exact m_none
theorem m_zast {a : Option Nat} {i v : Int32} {k : mM → Option (α × mM)} (hd : decode y.2.1 pc = .ok (.bastore, 1)) (kk : ∀ M', mVr E y d (pc + 1) ls st M' en (k M')) : mVr E y d pc ls (.inl v :: .inl i :: .inr a :: st) M en (x_wZ M a i v k) := by
  cases a with
  | none => exact m_none
  | some r =>
    unfold x_wZ
    dsimp only
    split
    · rename_i hk
      intro b Mf ho
      obtain ⟨h1, h2, kk⟩ := kk _ b Mf ho
      refine ⟨h1, h2, fun p e s m args below meth c H locs la n0 s0 R Q C hS hP hL hn hs hz9 => ?_⟩
      have he := mws_get hP (r := r) (by omega)
      rw [mcell_i hk.1 (by omega)] at he
      refine W.zast (a := mad E r) C.1 C.2.1 (hP.1 _ _ he) ((C.2.2.2.2.2.2.2.2.1.1.2 1 _ (mtys_at rfl)).1 (mLn M r) (fun j => .int (M.1 r j))) (fun q => by cases q) (by show ¬ (i < 0 ∨ (arrV _ _ _).slots.size ≤ _); rw [arrV_size]; exact fun q => q.elim hk.2.1 (fun q => absurd q (Nat.not_le.mpr hk.2.2.1))) rfl rfl hd fun H1 e1 e2 e3 => ?_
      have hv : narrow .boolean (.int v) = .int v := by rcases hk.2.2.2 with q | q <;> rw [q] <;> rfl
      rw [hv] at e1
      obtain ⟨a1, a2⟩ := m_arrw hP hS hk.1 (by omega) e1 e2 e3
      exact kk p e s m args below meth c H1 _ la n0 s0 R Q C a2 a1 hL hn hs hz9
    · exact m_none
theorem m_aast {t c : Nat} {S : String} {T : u_T} {N : Nat} {a v : Option Nat} {i : Int32} {k : mM → Option (α × mM)} (hd : decode y.2.1 pc = .ok (.aastore, 1)) (ht : mtl[t + 2]? = some (.object S)) (hc : vwCl[c]? = some (S, T, N)) (kk : ∀ M', mVr E y d (pc + 1) ls st M' en (k M')) : mVr E y d pc ls (.inr v :: .inl i :: .inr a :: st) M en (x_wR M t c a i v k) := by
  have htl : t < 7 := by
    have := (List.getElem?_eq_some_iff.mp ht).1
    simp [mtl] at this
    omega
  cases a with
  | none => exact m_none
  | some r =>
    cases v with
    | none => exact m_none
    | some z =>
      unfold x_wR
      dsimp only
      split
      · rename_i hk
        intro b Mf ho
        obtain ⟨h1, h2, kk⟩ := kk _ b Mf ho
        refine ⟨h1, h2, fun p e s m args below meth cd H locs la n0 s0 R Q C hS hP hL hn hs hz9 => ?_⟩
        have hK := C.2.2.2.2.2.2.2.2.1.1
        have he := mws_get hP (r := r) (by omega)
        rw [mcell_q hk.1 htl] at he
        have hz := mws_get hP (r := z) (by omega)
        rw [mcell_o hk.2.2.2] at hz
        have hr16 := (hP.2.2 r (by omega)).1
        have hD := mws_D E M
        obtain ⟨r', hr', cellV, g1, g2, g3, -⟩ := hP.1 _ _ hz
        have hcls := (hK.1 c _ hc).2
        obtain ⟨kA, comp, k1, k2, k3, -⟩ := (hK.2 _ _ (mtys_at ht)).2
        have hcomp : comp = (eD E).1 c := Option.some.inj (k3.symm.trans hcls.1)
        subst hcomp
        obtain ⟨kC, hkC, -⟩ := hcls.2
        refine W.aast (a := mad E r) (v := mad E z) C.1 C.2.1 (hP.1 _ _ he) (fun q h => by cases h) (fun h => by cases h) k1 k2 rfl hkC ⟨hk.2.1, by show _ < (arrV _ _ _).slots.size; rw [arrV_size]; exact hk.2.2.1⟩ g1 (fun q h => by rw [g3] at h; cases h) (by rw [g2]; exact hkC) (by rw [g2]; exact va_assign hcls) rfl rfl hd fun H1 e1 e2 e3 => ?_
        have hx : mcell E (mpR M r i.toNatClampNeg (some z)) r = .inl (eA E (t + 2), mLn M r, .inr (.inr (.inr (.inr (va_up (fun j => (mRf M r j).map (mad E)) i.toNatClampNeg (some (mad E z))))))) := by
          rw [mcell_q (show mKd (mpR M r i.toNatClampNeg (some z)) r = t + 3 from hk.1) htl]
          have hfn : (fun j => (mRf (mpR M r i.toNatClampNeg (some z)) r j).map (mad E)) = va_up (fun j => (mRf M r j).map (mad E)) i.toNatClampNeg (some (mad E z)) := by
            funext j
            by_cases hj : j = i.toNatClampNeg
            · simp [mRf, mpR, mrow, va_up, hj]
            · simp [mRf, mpR, mrow, va_up, hj]
          rw [hfn]
          rfl
        have hset := hP.1.set hD he (e := .inl (eA E (t + 2), mLn M r, .inr (.inr (.inr (.inr (va_up (fun j => (mRf M r j).map (mad E)) i.toNatClampNeg (some (mad E z)))))))) (show H1[mad E r]? = some (vp_cell _ _) by
          rw [e1, vp_cell_q, vp_cell_q, arrV_store]
          congr 2
          funext q
          by_cases hq : q = i.toNatClampNeg
          · subst hq
            simp [updV, va_up, va_rf]
          · simp [updV, va_up, hq]) e3
        rw [← hx, mws_set hr16 (show mN (mpR M r i.toNatClampNeg (some z)) = mN M from rfl) rfl (fun q => mpR_cell)] at hset
        exact kk p e s m args below meth cd H1 _ la n0 s0 R Q C (hS.put e2 e3 (hD.2 _ _ he)) ⟨hset, by rw [e2]; exact hP.2.1, hP.2.2⟩ hL hn hs hz9
      · exact m_none
end MH2
