/-! listening: the class's loop -/
def aRk (A : aT) : Prop := ∀ k, k < 7 → rOk (aRt A k)
def aH01 (A : aT) : Prop := ∀ k, k < 6 → ∀ i, i < 6 → A.1 2 (6 * k + i) = 0 ∨ A.1 2 (6 * k + i) = 1
theorem cnt_1 {A : aT} {s w f i : Nat} (h : f ≠ 8) : (cnt A s w).1 f i = A.1 f i := by unfold cnt; rw [aI_f _ _ _ _ h]
theorem aStr_1 {A : aT} {k f i : Nat} (h : f ≠ 8) : (aStr A k).1 f i = A.1 f i := by
  unfold aStr
  split
  · exact cnt_1 h
  · rfl
theorem aStr_2 {A : aT} {k : Nat} : (aStr A k).2 = A.2 := by
  unfold aStr
  split <;> rfl
theorem aLis_1 {A : aT} {k f i : Nat} (h : f ≠ 4 ∧ f ≠ 8 ∧ f ≠ 10 ∧ f ≠ 11 ∧ f ≠ 12) : (aLis A k).2.1 f i = A.1 f i := by
  unfold aLis
  split
  · unfold aLs2
    split
    · show (aRc (aI A 4 k 1) k _).1 f i = _
      rw [aRc_1 (by omega), aI_f _ _ _ _ h.1]
    · show (aStr (cnt (aRc (aI A 4 k 1) k _) k 1) k).1 f i = _
      rw [aStr_1 h.2.1, cnt_1 h.2.1, aRc_1 (by omega), aI_f _ _ _ _ h.1]
  · show (aRc (aI A 4 k 0) k _).1 f i = _
    rw [aRc_1 (by omega), aI_f _ _ _ _ h.1]
theorem aLis_1i {A : aT} {k f i : Nat} (h : f = 10 ∨ f = 11 ∨ f = 12) (hi : i ≠ k) : (aLis A k).2.1 f i = A.1 f i := by
  unfold aLis
  split
  · unfold aLs2
    split
    · show (aRc (aI A 4 k 1) k _).1 f i = _
      rw [aRc_1 (by omega), aI_f _ _ _ _ (by omega)]
    · show (aStr (cnt (aRc (aI A 4 k 1) k _) k 1) k).1 f i = _
      rw [aStr_1 (by omega), cnt_1 (by omega), aRc_1 (by omega), aI_f _ _ _ _ (by omega)]
  · show (aRc (aI A 4 k 0) k _).1 f i = _
    rw [aRc_1 (by omega), aI_f _ _ _ _ (by omega)]
theorem aLis_2 {A : aT} {k f i : Nat} (h : (f ≠ 2 ∧ f ≠ 3) ∨ i ≠ k) : (aLis A k).2.2.1 f i = A.2.1 f i := by
  unfold aLis
  split
  · unfold aLs2
    split
    · show (aRc (aI A 4 k 1) k _).2.1 f i = _
      rw [aRc_2 h]
      rfl
    · show (aStr (cnt (aRc (aI A 4 k 1) k _) k 1) k).2.1 f i = _
      rw [aStr_2]
      show (aRc (aI A 4 k 1) k _).2.1 f i = _
      rw [aRc_2 h]
      rfl
  · show (aRc (aI A 4 k 0) k _).2.1 f i = _
    rw [aRc_2 h]
    rfl
theorem aLis_3 {A : aT} {k : Nat} : (aLis A k).2.2.2 = A.2.2 := by
  unfold aLis
  split
  · unfold aLs2
    split
    · rfl
    · show (aStr (cnt (aRc (aI A 4 k 1) k _) k 1) k).2.2 = _
      rw [aStr_2]
      rfl
  · rfl
theorem aRt_4 {A : aT} {k : Nat} {x : Int32} : aRt (aI A 4 k x) k = aRt A k := by
  unfold aRt
  rw [aI_f _ _ _ _ (by decide), aI_f _ _ _ _ (by decide), aI_f _ _ _ _ (by decide)]
  rfl
theorem aRt_eq {A B : aT} {k : Nat} (h1 : ∀ f, f = 10 ∨ f = 11 ∨ f = 12 → B.1 f k = A.1 f k) (h2 : ∀ f, f = 2 ∨ f = 3 → B.2.1 f k = A.2.1 f k) : aRt B k = aRt A k := by
  unfold aRt
  rw [h1 12 (by omega), h1 10 (by omega), h1 11 (by omega), h2 2 (by omega), h2 3 (by omega)]
theorem aLis_t {A : aT} {k : Nat} : aRt (aLis A k).2 k = if aCar A k = true then (rHr (aRt A k) (aLv A k)).2 else (0, A.1 10 k, 0, A.2.1 2 k, A.2.1 3 k) := by
  unfold aLis
  split
  · unfold aLs2
    split
    · exact aRc_t
    · show aRt (aStr (cnt (aRc (aI A 4 k 1) k _) k 1) k) k = _
      refine (aRt_eq (A := aRc (aI A 4 k 1) k (rHr (aRt A k) (aLv A k)).2) (fun f h => ?_) (fun f h => ?_)).trans aRc_t
      · rw [aStr_1 (by omega), cnt_1 (by omega)]
      · rw [aStr_2]; rfl
  · exact aRc_t
theorem aRk_lis {A : aT} {k : Nat} (h : aRk A) (hk : k < 7) : aRk (aLis A k).2 := by
  intro j hj
  by_cases e : j = k
  · subst e
    rw [aLis_t]
    split
    · exact rHr_ok (h j hj)
    · obtain ⟨h1, h2, h3⟩ := h j hj
      exact ⟨Or.inl rfl, h2, h3⟩
  · rw [aRt_eq (A := A) (fun f hf => aLis_1i hf e) (fun f hf => aLis_2 (Or.inr e))]
    exact h j hj
theorem aLsA_1 {A : aT} {f i : Nat} (h : f ≠ 4 ∧ f ≠ 8 ∧ f ≠ 10 ∧ f ≠ 11 ∧ f ≠ 12) : ∀ k, (aLsA A k).1 f i = A.1 f i
  | 0 => rfl
  | k + 1 => by
    show (aLis (aLsA A k) k).2.1 f i = _
    rw [aLis_1 h, aLsA_1 h k]
theorem aLsA_2 {A : aT} {f i : Nat} (h : f ≠ 2 ∧ f ≠ 3) : ∀ k, (aLsA A k).2.1 f i = A.2.1 f i
  | 0 => rfl
  | k + 1 => by
    show (aLis (aLsA A k) k).2.2.1 f i = _
    rw [aLis_2 (Or.inl h), aLsA_2 h k]
theorem aLsA_3 {A : aT} : ∀ k, (aLsA A k).2.2 = A.2.2
  | 0 => rfl
  | k + 1 => by
    show (aLis (aLsA A k) k).2.2.2 = _
    rw [aLis_3, aLsA_3 k]
theorem aRk_lsA {A : aT} (h : aRk A) : ∀ k, k ≤ 6 → aRk (aLsA A k)
  | 0, _ => h
  | k + 1, hk => aRk_lis (aRk_lsA h k (by omega)) (by omega)
theorem thr_c {A B : aT} {i : Nat} (h6 : B.1 6 i = A.1 6 i) (h7 : B.1 7 i = A.1 7 i) (h4 : B.2.1 4 i = A.2.1 4 i) : thr B i ↔ thr A i := by
  unfold thr
  rw [h6, h7, h4]
theorem aS01_c {A B : aT} (h : aS01 A) (e : ∀ f i, (f = 5 ∨ f = 6 ∨ f = 7) → B.1 f i = A.1 f i) : aS01 B := fun s hs => by
  rw [e 6 s (by omega), e 5 s (by omega), e 7 s (by omega)]
  exact h s hs
theorem xsm_c {A B : aT} {k : Nat} (e : ∀ f i, (f = 2 ∨ f = 5 ∨ f = 6) → B.1 f i = A.1 f i) : ∀ n, xsm B k n = xsm A k n
  | 0 => rfl
  | n + 1 => by
    show (if B.1 2 (6 * k + n) = 0 then xsm B k n else if B.1 6 n = 0 then xsm B k n else xsm B k n ^^^ B.1 5 n) = _
    rw [e 2 _ (by omega), e 6 _ (by omega), e 5 _ (by omega), xsm_c e n]
    rfl
theorem aLv_c {A B : aT} {k : Nat} (e : ∀ f i, (f = 0 ∨ f = 1 ∨ f = 2 ∨ f = 5 ∨ f = 6) → B.1 f i = A.1 f i) : aLv B k = aLv A k := by
  unfold aLv
  rw [xsm_c (A := A) (fun f i h => e f i (by omega)), e 1 _ (by omega), e 1 _ (by omega), e 0 _ (by omega)]
theorem arrv_01 {A : aT} {i : Nat} : arrv A i = 0 ∨ arrv A i = 1 := by
  unfold arrv aLis
  split
  · unfold aLs2
    split
    · exact Or.inl rfl
    · exact Or.inr rfl
  · exact Or.inl rfl
section LD
variable {S : mS} {I J I0 : mIm} {A : aT}
theorem hrg (hC : CInv I A) {s : Nat} (hs : s < 6) : isMk (I (cN s) 8) (fun i => A.1 2 (6 * s + i) = 1) ∧ ∀ i, i < 6 → A.1 2 (6 * s + i) = 0 ∨ A.1 2 (6 * s + i) = 1 := by
  obtain ⟨h, h1, h2, h3⟩ := (hC.2.1 s hs).1.2.1
  refine ⟨⟨h, h1, h2, fun i hi => ?_⟩, fun i hi => ?_⟩
  · show h / 2 ^ i % 2 = 1 ↔ A.1 2 (6 * s + i) = 1
    rw [h3 i hi]
    have hm : h / 2 ^ i % 2 < 2 := Nat.mod_lt _ (by decide)
    constructor
    · intro q; rw [q]; rfl
    · intro q
      exact (nI_eq (b := 1) (by omega) (by decide)).mp q
  · rw [h3 i hi]
    have hm : h / 2 ^ i % 2 < 2 := Nat.mod_lt _ (by decide)
    rcases (show h / 2 ^ i % 2 = 0 ∨ h / 2 ^ i % 2 = 1 by omega) with w | w <;> rw [w]
    · exact Or.inl rfl
    · exact Or.inr rfl
theorem f90 (hC : CInv I A) {i : Nat} (hi : i < 6) (ht : thr A i) : (A.2.1 5 i).length ≤ 90 := by
  obtain ⟨s4, s5, s6, l, p, o, fb, t1, t2, t3, t4, t5, t6, t7, t8, t9, t10⟩ := (hC.2.1 i hi).2.2.2.1
  obtain ⟨u1, u2⟩ := t10 ht.1
  rcases u2 with w | w
  · have := ht.2.1
    rw [w.1] at this
    exact absurd this (by decide)
  · have hfl := frm_len (l := A.2.1 5 i)
    have e : l = frm (A.2.1 5 i) := w.2
    rw [e] at t2
    omega
def hlQ (I0 : mIm) (A : aT) : Int32 → mIm → Prop := fun v J => CX I0 J (aLsA A 6) ∧ isMk v (fun i => i < 6 ∧ arrv A i = 1)
theorem c_hl4 (hS : Shp S) (h01 : aS01 A) (hk : aRk A) (m8 : isMk (I0 16 8) (fun i => A.1 6 i = 1)) (m9 : isMk (I0 16 9) (fun i => A.1 6 i = 1 ∧ A.1 5 i = 1)) (m10 : isMk (I0 16 10) (fun i => thr A i)) : ∀ (f m k : Nat) (J : mIm) (x : Int32), k + f = 6 → f < m → CX I0 J (aLsA A k) → isMk x (fun i => i < k ∧ arrv A i = 1) → pw S (q_C_hearLevels_4 m (some 16) x (nI k) (J, S)) (hlQ I0 A)
  | f, 0, k, J, x, _, h, _, _ => by omega
  | 0, m + 1, k, J, x, hk6, hm, hX, hx => by
    show pw S (q_C_hearLevels_4_b _ _ _ _ _) _
    unfold q_C_hearLevels_4_b
    have e : k = 6 := by omega
    subst e
    exact pw_f (nI_nlt (a := 6) (b := 6) (by omega) (by decide)) (pw_ret ⟨hX, hx⟩)
  | f + 1, m + 1, k, J, x, hk6, hm, hX, hx => by
    have hs : k < 6 := by omega
    have k1 := hS.1.1
    have hV := isV_s hS hs
    have hN := cN_k hS hs
    have hcn : 18 ≤ cN k ∧ cN k + 208 ≤ 1266 := by unfold cN; omega
    obtain ⟨d1, d2, d3, d4, d5, d6, d7⟩ := hX.1.2.1 k hs
    obtain ⟨hh1, hh2⟩ := hrg hX.1 hs
    have c10 : ¬ (1 : Int32) = 0 := by decide
    have c01 : ¬ (0 : Int32) = 1 := by decide
    have hR := aRk_lsA hk k (by omega) k (by omega)
    have ar : arrv A k = (aLis (aLsA A k) k).1 := rfl
    have as : aLsA A (k + 1) = (aLis (aLsA A k) k).2 := rfl
    have e2 : ∀ f i, (f = 0 ∨ f = 1 ∨ f = 2 ∨ f = 5 ∨ f = 6 ∨ f = 7) → (aLsA A k).1 f i = A.1 f i := fun f i h => aLsA_1 (by omega) k
    have hB01 : aS01 (aLsA A k) := aS01_c h01 (fun f i h => e2 f i (by omega))
    have hthr : ∀ i, thr (aLsA A k) i ↔ thr A i := fun i => thr_c (e2 6 i (by omega)) (e2 7 i (by omega)) (aLsA_2 (by decide) k)
    have b8 : isMk (I0 16 8) (fun i => (aLsA A k).1 6 i = 1) := isMk_i m8 (fun i hi => by rw [e2 6 i (by omega)])
    have b9 : isMk (I0 16 9) (fun i => (aLsA A k).1 6 i = 1 ∧ (aLsA A k).1 5 i = 1) := isMk_i m9 (fun i hi => by rw [e2 6 i (by omega), e2 5 i (by omega)])
    have b10 : isMk (I0 16 10) (fun i => thr (aLsA A k) i) := isMk_i m10 (fun i hi => hthr i)
    generalize hBB : aLsA A k = B at hX d1 d2 d3 d4 d5 d6 d7 hh1 hh2 hR ar as hB01 b8 b9 b10
    show pw S (q_C_hearLevels_4_b _ _ _ _ _) _
    unfold q_C_hearLevels_4_b
    refine pw_t (nI_lt (b := 6) hs (by decide)) (rSt hS hs (rN hS hs (q := cN k + 2) rfl (pw_gE (isS_s hS hs).1 d4.2.1 ?_)))
    -- the next one
    have nxt : ∀ (J2 : mIm) (y : Int32), CX I0 J2 (aLis B k).2 → isMk y (fun i => i < k + 1 ∧ arrv A i = 1) → pw S (q_C_hearLevels_135 (q_C_hearLevels_4 m) (some 16) y (nI k) (J2, S)) (hlQ I0 A) := by
      intro J2 y q1 q2
      unfold q_C_hearLevels_135
      rw [show nI k + 1 = nI (k + 1) from nI_1 k]
      exact c_hl4 hS h01 hk m8 m9 m10 f m (k + 1) J2 y (by omega) (by omega) (by rw [as]; exact q1) q2
    have mk0 : (aLis B k).1 = 0 → isMk x (fun i => i < k + 1 ∧ arrv A i = 1) := fun q => isMk_i hx (fun i hi => by
      by_cases e : i = k
      · subst e
        rw [ar, q]
        exact ⟨fun w => absurd w.2 c01, fun w => by omega⟩
      · exact ⟨fun w => ⟨by omega, w.2⟩, fun w => ⟨by omega, w.2⟩⟩)
    have mk1 : (aLis B k).1 = 1 → isMk (x ||| ((1 : Int32) <<< (nI k &&& 31))) (fun i => i < k + 1 ∧ arrv A i = 1) := fun q => isMk_1 hx hs (fun i hi => by
      by_cases e : i = k
      · subst e
        rw [ar, q]
        exact ⟨fun _ => Or.inl rfl, fun _ => ⟨by omega, rfl⟩⟩
      · exact ⟨fun w => Or.inr ⟨by omega, w.2⟩, fun w => by rcases w with w | w; exact absurd w e; exact ⟨by omega, w.2⟩⟩)
    have none : aCar B k = false → pw S (q_C_hearLevels_40 (q_C_hearLevels_4 m) (some 16) x (nI k) (some (cN k)) 0 (J, S)) (hlQ I0 A) := by
      intro hcar
      have hl0 : aLis B k = (0, aRc (aI B 4 k 0) k (0, B.1 10 k, 0, B.2.1 2 k, B.2.1 3 k)) := by
        unfold aLis
        rw [if_neg (by rw [hcar]; decide)]
      unfold q_C_hearLevels_40 q_C_hearLevels_53
      refine pw_t rfl (sNz hS hs hX (f := 4) (n := k) rfl (Or.inl rfl) (fun J1 g1 => pw_t rfl (rN hS hs (q := cN k + 5) rfl ?_)))
      have hc := (g1.1.2.1 k hs).2.2.2.2.1
      unfold q_V_hearNothing
      refine pw_cv hV.1 (P := fun _ J2 => CX I0 J2 (aLis B k).2) (pw_pZ hV.1 (Or.inl rfl) (pw_pI hV.1 (pw_ret ?_))) (fun _ J2 g2 => nxt J2 x g2 (mk0 (by rw [hl0])))
      rw [hl0]
      obtain ⟨w1, w2, w3, w4, w5, w6⟩ := hc
      refine CX_rc g1 hs (frV_t frV_p frV_p) ⟨by rw [iput_j _ _ _ (by decide), iput_s], ?_, iput_s _ _ _ _, isL_same w4 (by rw [iput_n _ _ _ (by omega), iput_n _ _ _ (by omega)]) (by rw [iput_n _ _ _ (by omega), iput_n _ _ _ (by omega)]), w5, fun q => absurd q (by show ¬ (0 : Int32) = 1; decide)⟩
      rw [iput_j _ _ _ (by decide), iput_j _ _ _ (by decide), w2, aI_f _ _ _ _ (by decide)]
    rcases (hB01 k hs).1 with e6 | e6
    · refine pw_t e6 (pw_gI hN (pw_gE k1 (hX.2.2 8 (by decide)) ?_))
      have hhd : isMk (J (cN k) 8 &&& I0 16 8) (fun i => hrd B k i) := isMk_and hh1 b8
      have hz := isMk_z hhd
      by_cases e0 : J (cN k) 8 &&& I0 16 8 = 0
      · rw [e0]
        refine none ?_
        unfold aCar
        have : carN B k 6 = false := by
          cases h : carN B k 6 with
          | false => rfl
          | true =>
            obtain ⟨i, h1, h2⟩ := (carN_p 6).mp h
            exact absurd h2 (hz.mp e0 i h1)
        rw [this, Bool.and_false]
      · generalize J (cN k) 8 &&& I0 16 8 = hd at hhd hz e0 ⊢
        have hcar : aCar B k = true := by
          unfold aCar
          have : carN B k 6 = true := (carN_p 6).mpr (Classical.byContradiction (fun q => e0 (hz.mpr (fun i hi w => q ⟨i, hi, w⟩))))
          rw [this, decide_eq_true e6]
          rfl
        have hl1 : aLis B k = aLs2 (aI B 4 k 1) k (rHr (aRt B k) (aLv B k)) := by
          unfold aLis
          rw [if_pos hcar]
        unfold q_C_hearLevels_40 q_C_hearLevels_53
        refine pw_f e0 (sNz hS hs hX (f := 4) (n := k) rfl (Or.inr rfl) (fun J1 g1 => pw_f e0 (rN hS hs (q := cN k + 5) rfl ?_)))
        have e4 : ∀ f i, f ≠ 4 → (aI B 4 k 1).1 f i = B.1 f i := fun f i h => aI_f _ _ _ _ h
        have lev := c_levelOf hS hs g1 (aS01_c hB01 (fun f i h => e4 f i (by omega))) (fun i hi => by rw [e4 2 _ (by decide)]; exact hh2 i hi) (hd := hd) (isMk_i hhd (fun i hi => by unfold hrd; rw [e4 2 _ (by decide), e4 6 _ (by decide)])) (by rw [g1.2.2 9 (by decide)]; exact isMk_i b9 (fun i hi => by rw [e4 6 _ (by decide), e4 5 _ (by decide)]))
        refine pw_cv k1 lev (fun v J2 g2 => ?_)
        obtain ⟨hJ2, rfl⟩ := g2
        rw [hJ2, aLv_c (A := B) (fun f i h => e4 f i (by omega))]
        have hc : cRt J1 (cN k + 5) (aRt (aI B 4 k 1) k) := (g1.1.2.1 k hs).2.2.2.2.1
        rw [aRt_4] at hc
        refine pw_cv hV.1 (v_hear hV hc hR _) (fun z J3 g3 => ?_)
        obtain ⟨rfl, g31, g32⟩ := g3
        have hX3 := CX_rc g1 hs g31 g32
        by_cases ez : (rHr (aRt B k) (aLv B k)).1 = 0
        · have hl2 : aLis B k = (0, aRc (aI B 4 k 1) k (rHr (aRt B k) (aLv B k)).2) := by
            rw [hl1]
            unfold aLs2
            rw [if_pos ez]
          exact pw_t ez (nxt J3 x (by rw [hl2]; exact hX3) (mk0 (by rw [hl2])))
        · have hl2 : aLis B k = (1, aStr (cnt (aRc (aI B 4 k 1) k (rHr (aRt B k) (aLv B k)).2) k 1) k) := by
            rw [hl1]
            unfold aLs2
            rw [if_neg ez]
          refine pw_f ez (pw_lt (gN hS hs hX3 (f := 8) (n := 5 * k + 1) rfl (sN hS hs hX3 (f := 8) (n := 5 * k + 1) rfl (fun J4 g4 => rN hS hs (q := cN k + 5) rfl (pw_gR hV.1 hV.2.2.2.1 (pw_gE k1 (g4.2.2 10 (by decide)) ?_))))))
          have eD : cnt (aRc (aI B 4 k 1) k (rHr (aRt B k) (aLv B k)).2) k 1 = aI (aRc (aI B 4 k 1) k (rHr (aRt B k) (aLv B k)).2) 8 (5 * k + 1) ((aRc (aI B 4 k 1) k (rHr (aRt B k) (aLv B k)).2).1 8 (5 * k + 1) + 1) := rfl
          rw [← eD] at g4
          have dD : ∀ f i, (f = 2 ∨ f = 6 ∨ f = 7) → (cnt (aRc (aI B 4 k 1) k (rHr (aRt B k) (aLv B k)).2) k 1).1 f i = B.1 f i := fun f i h => by rw [cnt_1 (by omega), aRc_1 (by omega), e4 f i (by omega)]
          have dL : ∀ f i, (f = 4 ∨ f = 5) → (cnt (aRc (aI B 4 k 1) k (rHr (aRt B k) (aLv B k)).2) k 1).2.1 f i = B.2.1 f i := fun f i h => aRc_2 (by omega)
          have hmk : isMk (hd &&& I0 16 10) (fun i => (cnt (aRc (aI B 4 k 1) k (rHr (aRt B k) (aLv B k)).2) k 1).1 2 (6 * k + i) = 1 ∧ thr (cnt (aRc (aI B 4 k 1) k (rHr (aRt B k) (aLv B k)).2) k 1) i) := isMk_i (isMk_and hhd b10) (fun i hi => by
            rw [dD 2 _ (by omega), thr_c (A := B) (dD 6 i (by omega)) (dD 7 i (by omega)) (dL 4 i (by omega))]
            exact ⟨fun w => ⟨⟨w.1, w.2.1⟩, w.2⟩, fun w => ⟨w.1.1, w.2⟩⟩)
          have hst := c_stray2 hS hs g4.1 hmk (fun i hi ht => f90 g4.1 hi ht) 6 mFU 0 (by omega) (by unfold mFU; omega) (fun i hi => by omega)
          generalize cnt (aRc (aI B 4 k 1) k (rHr (aRt B k) (aLv B k)).2) k 1 = D at g4 hst hl2
          refine pw_cv k1 hst (fun w J5 g5 => ?_)
          obtain ⟨hJ5, rfl⟩ := g5
          rw [hJ5]
          by_cases est : strN D k 6 = true
          · rw [if_pos est]
            refine pw_f c10 (gN hS hs g4 (f := 8) (n := 5 * k + 2) rfl (sN hS hs g4 (f := 8) (n := 5 * k + 2) rfl (fun J6 g6 => nxt J6 _ ?_ (mk1 (by rw [hl2])))))
            rw [hl2]
            unfold aStr
            dsimp only
            rw [if_pos est]
            exact g6
          · rw [if_neg est]
            refine pw_t rfl (nxt J4 _ ?_ (mk1 (by rw [hl2])))
            rw [hl2]
            unfold aStr
            dsimp only
            rw [if_neg est]
            exact g4
    · refine pw_f (by rw [e6]; exact c10) (none ?_)
      unfold aCar
      rw [decide_eq_false (by rw [e6]; exact c10), Bool.false_and]
theorem c_hearLevels (hS : Shp S) (h01 : aS01 A) (hk : aRk A) (hX : CX I0 I A) (m8 : isMk (I0 16 8) (fun i => A.1 6 i = 1)) (m9 : isMk (I0 16 9) (fun i => A.1 6 i = 1 ∧ A.1 5 i = 1)) (m10 : isMk (I0 16 10) (fun i => thr A i)) : pw S (q_C_hearLevels (some 16) (I, S)) (hlQ I0 A) := c_hl4 hS h01 hk m8 m9 m10 6 mFU 0 I 0 (by omega) (by unfold mFU; omega) hX ⟨0, by decide, rfl, fun i hi => ⟨fun q => by simp at q, fun q => by omega⟩⟩
end LD
