/-! listening: the reference -/
theorem aI_tw (A : aT) (f k : Nat) (x y : Int32) : aI (aI A f k x) f k y = aI A f k y := by
  unfold aI mrow
  simp
  funext a
  by_cases h : a = f
  · subst h
    simp
    funext b
    by_cases h2 : b = k
    · simp [h2]
    · simp [h2]
  · simp [h]
section LR
variable {S : mS} {I J I0 : mIm} {A : aT} {k : Nat}
theorem rs63 (hS : Shp S) (hk : k < 7) {i : Nat} (hi : i < 6) {F c : List Int32} (h91 : I 1291 k = nI c.length) (hc9 : c.length ≤ 90) (hc : fL I 1292 (90 * k) c) (hFc : F.length = c.length) (hF : fL I 1308 (90 * i) F) {Q : Int32 → mIm → Prop} {r2 : Option Nat → Int32 → Int32 → mM → Option (Int32 × mM)} (go : F ≠ c → pw S (q_M_isStray_123 r2 (some 1282) (nI k) (nI i) (I, S)) Q) (fin : F = c → Q 0 I) : ∀ (f m j : Nat) (p : Bool), j + f = c.length → f < m → (p = true ↔ ∀ j', j' < j → pA F j' = pA c j') → pw S (q_M_isStray_63 r2 m (some 1282) (nI k) (nI i) (if p then 1 else 0) (nI j) (I, S)) Q
  | f, 0, j, p, _, h, _ => by omega
  | 0, m + 1, j, p, hj, hm, hp => by
    have a91 := aK_in hS (r := 1291) (t := 0) (n := 7) rfl
    show pw S (q_M_isStray_63_b _ _ _ _ _ _ _ _) _
    unfold q_M_isStray_63_b
    refine rM hS (r := 1291) rfl (pw_aI k a91.1 rfl (by omega) (by omega) ?_)
    rw [h91]
    refine pw_f (nI_nlt (by omega) (by omega)) ?_
    have heq : p = true ↔ F = c := by
      rw [hp]
      constructor
      · intro q
        apply List.ext_getElem?
        intro j'
        by_cases hj' : j' < c.length
        · have := q j' (by omega)
          unfold pA at this
          rw [List.getElem?_eq_getElem (by omega), List.getElem?_eq_getElem hj'] at this
          rw [List.getElem?_eq_getElem (by omega), List.getElem?_eq_getElem hj']
          exact congrArg some this
        · rw [List.getElem?_eq_none (by omega), List.getElem?_eq_none (by omega)]
      · intro q j' _
        rw [q]
    cases p
    · exact pw_t rfl (go (fun q => absurd (heq.mpr q) (by decide)))
    · exact pw_f (by decide) (pw_rz (Or.inl rfl) (fin (heq.mp rfl)))
  | f + 1, m + 1, j, p, hj, hm, hp => by
    have a91 := aK_in hS (r := 1291) (t := 0) (n := 7) rfl
    have a92 := aK_in hS (r := 1292) (t := 0) (n := 630) rfl
    have a08 := aK_in hS (r := 1308) (t := 0) (n := 540) rfl
    show pw S (q_M_isStray_63_b _ _ _ _ _ _ _ _) _
    unfold q_M_isStray_63_b
    refine rM hS (r := 1291) rfl (pw_aI k a91.1 rfl (by omega) (by omega) ?_)
    rw [h91]
    refine pw_t (nI_lt (by omega) (by omega)) ?_
    have nx : ∀ p' : Bool, (p' = true ↔ (p = true ∧ pA F j = pA c j)) → pw S (q_M_isStray_110 r2 (q_M_isStray_63 r2 m) (some 1282) (nI k) (nI i) (nI j) (if p' then 1 else 0) (I, S)) Q := by
      intro p' hp'
      unfold q_M_isStray_110
      rw [show nI j + 1 = nI (j + 1) from nI_1 j]
      refine rs63 hS hk hi h91 hc9 hc hFc hF go fin f m (j + 1) p' (by omega) (by omega) ?_
      rw [hp', hp]
      constructor
      · intro ⟨q1, q2⟩ j' hj'
        by_cases e : j' = j
        · subst e; exact q2
        · exact q1 j' (by omega)
      · intro q
        exact ⟨fun j' hj' => q j' (by omega), q j (by omega)⟩
    have no : ¬ (p = true ∧ pA F j = pA c j) → pw S (q_M_isStray_109 r2 (q_M_isStray_63 r2 m) (some 1282) (nI k) (nI i) (nI j) (I, S)) Q := fun q => by
      unfold q_M_isStray_109
      exact nx false ⟨fun w => absurd w (by decide), fun w => absurd w q⟩
    cases p
    · exact pw_t rfl (no (fun q => absurd q.1 (by decide)))
    · have e1 : I 1308 (90 * i + j) = pA F j := by
        rw [hF j F[j] (List.getElem?_eq_getElem (by omega))]
        unfold pA
        rw [List.getElem?_eq_getElem (by omega)]
        rfl
      have e2 : I 1292 (90 * k + j) = pA c j := by
        rw [hc j c[j] (List.getElem?_eq_getElem (by omega))]
        unfold pA
        rw [List.getElem?_eq_getElem (by omega)]
        rfl
      refine pw_f (by decide) (rM hS (r := 1308) rfl (pw_aI (90 * i + j) a08.1 (by rw [show (90 : Int32) * nI i = nI (90 * i) from pk_mul 90 i, nI_add]) (by omega) (by omega) (rM hS (r := 1292) rfl (pw_aI (90 * k + j) a92.1 (by rw [show (90 : Int32) * nI k = nI (90 * k) from pk_mul 90 k, nI_add]) (by omega) (by omega) ?_))))
      rw [e1, e2]
      by_cases e : pA F j = pA c j
      · exact pw_t e (nx true ⟨fun _ => ⟨rfl, e⟩, fun _ => rfl⟩)
      · exact pw_f e (no (fun q => e q.2))
theorem r_stray2 (hS : Shp S) (hk : k < 6) (hX : RX I0 I A) (h01 : aS01 A) (h2 : ∀ i, i < 6 → A.1 2 (6 * k + i) = 0 ∨ A.1 2 (6 * k + i) = 1) (h9 : ∀ i, i < 6 → (thr A i → I0 1309 i = 1) ∧ (¬ thr A i → I0 1309 i = 0)) : ∀ (f m n : Nat), n + f = 6 → f < m → (∀ i, i < n → ¬ (A.1 2 (6 * k + i) = 1 ∧ thr A i ∧ A.2.1 5 i = A.2.1 3 k)) → pw S (q_M_isStray_2 m (some 1282) (nI k) (nI n) (I, S)) (fun v J => J = I ∧ v = if strN A k 6 = true then 1 else 0)
  | f, 0, n, _, h, _ => by omega
  | 0, m + 1, n, hn, hm, h => by
    show pw S (q_M_isStray_2_b _ _ _ _ _) _
    unfold q_M_isStray_2_b
    have e : n = 6 := by omega
    subst e
    exact pw_f (nI_nlt (a := 6) (b := 6) (by omega) (by decide)) (pw_rz (Or.inr rfl) ⟨rfl, by rw [if_pos ((strN_p 6).mpr h)]⟩)
  | f + 1, m + 1, n, hn, hm, h => by
    have hn6 : n < 6 := by omega
    have c10 : ¬ (1 : Int32) = 0 := by decide
    have c01 : ¬ (0 : Int32) = 1 := by decide
    have a09 := aK_in hS (r := 1309) (t := 1) (n := 6) rfl
    have a07 := aK_in hS (r := 1307) (t := 0) (n := 6) rfl
    have a91 := aK_in hS (r := 1291) (t := 0) (n := 7) rfl
    obtain ⟨⟨g1, g2, g3⟩, -⟩ := hX.1.2.2.1 k (by omega)
    show pw S (q_M_isStray_2_b _ _ _ _ _) _
    unfold q_M_isStray_2_b
    have go : ¬ (A.1 2 (6 * k + n) = 1 ∧ thr A n ∧ A.2.1 5 n = A.2.1 3 k) → pw S (q_M_isStray_123 (q_M_isStray_2 m) (some 1282) (nI k) (nI n) (I, S)) (fun v J => J = I ∧ v = if strN A k 6 = true then 1 else 0) := fun q => by
      unfold q_M_isStray_123
      rw [show nI n + 1 = nI (n + 1) from nI_1 n]
      exact r_stray2 hS hk hX h01 h2 h9 f m (n + 1) (by omega) (by omega) (fun i hi => by
        by_cases e : i = n
        · subst e; exact q
        · exact h i (by omega))
    refine pw_t (nI_lt (b := 6) hn6 (by decide)) (rM hS (r := 1295) rfl (gA hS hX (r := 1295) (6 * k + n) rfl (by rw [show (6 : Int32) * nI k = nI (6 * k) from pk_mul 6 k, nI_add]) (by omega) ?_))
    rcases h2 n hn6 with e2 | e2
    · exact pw_t e2 (go (fun q => by have := q.1; rw [e2] at this; exact c01 this))
    · refine pw_f (by rw [e2]; exact c10) (rM hS (r := 1302) rfl (gA hS hX (r := 1302) n rfl rfl hn6 ?_))
      rcases (h01 n hn6).1 with e6 | e6
      · exact pw_t e6 (go (fun q => by have := q.2.1.1; rw [e6] at this; exact c01 this))
      · refine pw_f (by rw [e6]; exact c10) (rM hS (r := 1309) rfl (pw_aI n a09.1 rfl (by omega) (by omega) ?_))
        rw [hX.2.1 1309 (by unfold kp; omega)]
        by_cases ht : thr A n
        · rw [(h9 n hn6).1 ht]
          obtain ⟨y1, y2, y3⟩ := ((hX.1.2.2.2.1 n hn6).2.2 e6).2 ht.2.1
          refine pw_f c10 (rM hS (r := 1307) rfl (pw_aI n a07.1 rfl (by omega) (by omega) (rM hS (r := 1291) rfl (pw_aI k a91.1 rfl (by omega) (by omega) ?_))))
          rw [y1, g1]
          by_cases el : (A.2.1 5 n).length = (A.2.1 3 k).length
          · refine pw_t (by rw [el]) ?_
            exact rs63 hS (by omega) hn6 g1 g2 g3 el y3 (fun q => go (fun w => q w.2.2)) (fun q => ⟨rfl, by rw [if_neg (fun w => (strN_p 6).mp w n hn6 ⟨e2, ht, q⟩)]⟩) (A.2.1 3 k).length mFU 0 true (by omega) (by unfold mFU; omega) ⟨fun _ j' hj' => by omega, fun _ => rfl⟩
          · refine pw_f (fun q => el ((nI_eq (by omega) (by omega)).mp q)) (go (fun w => el (by rw [w.2.2])))
        · rw [(h9 n hn6).2 ht]
          exact pw_t rfl (go (fun q => ht q.2.1))
theorem rl131 (hS : Shp S) (hk : k < 6) {B : aT} (hX : RX I0 I B) (h01 : aS01 B) (h2 : ∀ i, i < 6 → B.1 2 (6 * k + i) = 0 ∨ B.1 2 (6 * k + i) = 1) (h9 : ∀ i, i < 6 → (thr B i → I0 1309 i = 1) ∧ (¬ thr B i → I0 1309 i = 0)) (hR : rOk (aRt B k)) (v : Int32) : pw S (q_M_listens_131 (some 1282) (nI k) v (I, S)) (RV I0 (aLs2 B k (rHr (aRt B k) v))) := by
  have hM := M_k hS
  have c10 : ¬ (1 : Int32) = 0 := by decide
  unfold q_M_listens_131 aLs2
  refine pw_cv hM (r_hear hS (by omega) (rRt_of hX (by omega)) hR.1 v) (fun x J g => ?_)
  obtain ⟨rfl, g1, g2⟩ := g
  have hXJ := RX_rc hX (by omega) g1 g2
  by_cases ez : (rHr (aRt B k) v).1 = 0
  · refine pw_t ez ?_
    rw [if_pos ez]
    exact pw_rz (Or.inl rfl) ⟨rfl, hXJ⟩
  · refine pw_f ez ?_
    rw [if_neg ez]
    refine pw_cv hM (p_M_count hS hXJ hk 1 (by decide)) (fun _ J2 hX2 => ?_)
    have dD : ∀ f i, (f = 2 ∨ f = 5 ∨ f = 6 ∨ f = 7) → (cnt (aRc B k (rHr (aRt B k) v).2) k 1).1 f i = B.1 f i := fun f i h => by rw [cnt_1 (by omega), aRc_1 (by omega)]
    have dL : ∀ f i, (f = 4 ∨ f = 5) → (cnt (aRc B k (rHr (aRt B k) v).2) k 1).2.1 f i = B.2.1 f i := fun f i h => aRc_2 (by omega)
    have hst := r_stray2 hS hk hX2 (aS01_c h01 (fun f i h => dD f i (by omega))) (fun i hi => by rw [dD 2 _ (by omega)]; exact h2 i hi) (fun i hi => by rw [thr_c (A := B) (dD 6 i (by omega)) (dD 7 i (by omega)) (dL 4 i (by omega))]; exact h9 i hi) 6 mFU 0 (by omega) (by unfold mFU; omega) (fun i hi => by omega)
    generalize cnt (aRc B k (rHr (aRt B k) v).2) k 1 = D at hX2 hst ⊢
    refine pw_cv hM hst (fun w J3 g3 => ?_)
    obtain ⟨hJ3, rfl⟩ := g3
    rw [hJ3]
    unfold aStr
    by_cases est : strN D k 6 = true
    · rw [if_pos est, if_pos est]
      exact pw_f c10 (pw_cv hM (p_M_count hS hX2 hk 2 (by decide)) (fun _ J4 g4 => pw_rz (Or.inr rfl) ⟨rfl, g4⟩))
    · rw [if_neg est, if_neg est]
      exact pw_t rfl (pw_rz (Or.inr rfl) ⟨rfl, hX2⟩)
theorem rl74 (hS : Shp S) (hk : k < 6) (h01 : aS01 A) (h2 : ∀ i, i < 6 → A.1 2 (6 * k + i) = 0 ∨ A.1 2 (6 * k + i) = 1) (h9 : ∀ i, i < 6 → (thr A i → I0 1309 i = 1) ∧ (¬ thr A i → I0 1309 i = 0)) (hR : rOk (aRt A k)) {x : Int32} (hx : (x = 0 ∧ aCar A k = false) ∨ (x = 1 ∧ aCar A k = true)) (hX : RX I0 I (aI A 4 k x)) {sm : Int32} (hsm : aCar A k = true → sm = xsm A k 6) : pw S (q_M_listens_74 (some 1282) (nI k) sm (I, S)) (RV I0 (aLis A k)) := by
  have hM := M_k hS
  have c10 : ¬ (1 : Int32) = 0 := by decide
  have a87 := aK_in hS (r := 1287) (t := 0) (n := 7) rfl
  have a88 := aK_in hS (r := 1288) (t := 1) (n := 7) rfl
  have e9 : ∀ w : Nat, (9 : Int32) * nI k + nI w = nI (9 * k + w) := fun w => by rw [show (9 : Int32) * nI k = nI (9 * k) from pk_mul 9 k, nI_add]
  have e4 : ∀ f i, f ≠ 4 → (aI A 4 k x).1 f i = A.1 f i := fun f i h => aI_f _ _ _ _ h
  unfold q_M_listens_74
  refine rM hS (r := 1300) rfl (gA hS hX (r := 1300) k rfl rfl hk ?_)
  rw [aI_s]
  unfold aLis
  rcases hx with ⟨rfl, hc⟩ | ⟨rfl, hc⟩
  · refine pw_t rfl ?_
    rw [if_neg (show ¬ aCar A k = true by rw [hc]; decide)]
    unfold q_M_hearNothing
    obtain ⟨r1, r2, r3, r4, r5⟩ := rRt_of hX (k := k) (by omega)
    refine pw_cv hM (P := fun _ J => RX I0 J (aRc (aI A 4 k 0) k (0, A.1 10 k, 0, A.2.1 2 k, A.2.1 3 k))) (rM hS (r := 1288) rfl (pw_wZ k a88.1 rfl (by omega) (by omega) (Or.inl rfl) (rM hS (r := 1287) rfl (pw_wI k a87.1 rfl (by omega) (by omega) (pw_ret ?_))))) (fun _ J g => pw_rz (Or.inl rfl) ⟨rfl, g⟩)
    refine RX_rc hX (by omega) (fRk_t (fRk_w (Or.inr (Or.inr (Or.inl rfl)))) (fRk_w (Or.inr (Or.inl rfl)))) ⟨by rw [iput_n _ _ _ (by decide), iput_s], ?_, iput_s _ _ _ _, ⟨by rw [iput_n _ _ _ (by decide), iput_n _ _ _ (by decide)]; exact r4.1, r4.2.1, fun j y hj => by rw [iput_n _ _ _ (by decide), iput_n _ _ _ (by decide)]; exact r4.2.2 j y hj⟩, fun q => absurd q (by show ¬ (0 : Int32) = 1; decide)⟩
    rw [iput_n _ _ _ (by decide), iput_n _ _ _ (by decide), r2]
    show (aI A 4 k 0).1 10 k = A.1 10 k
    rw [e4 10 k (by decide)]
  · refine pw_f c10 ?_
    rw [if_pos hc]
    have hsm := hsm hc
    have m131 := fun v => rl131 hS hk hX (aS01_c h01 (fun f i h => e4 f i (by omega))) (fun i hi => by rw [e4 2 _ (by decide)]; exact h2 i hi) (fun i hi => by rw [thr_c (A := A) (e4 6 i (by decide)) (e4 7 i (by decide)) rfl]; exact h9 i hi) (by rw [aRt_4]; exact hR) v
    rw [aRt_4] at m131
    refine rM hS (r := 1294) rfl (gA hS hX (r := 1294) (9 * k + 8) rfl (e9 8) (by omega) (pw_gE hM hX.1.1.1 (pw_cl (p_M_hash _ _) (fun z J g => ?_))))
    obtain ⟨hJ, rfl⟩ := g
    rw [hJ]
    refine rM hS (r := 1294) rfl (gA hS hX (r := 1294) (9 * k + 7) rfl (e9 7) (by omega) ?_)
    rw [e4 1 _ (by decide), e4 1 _ (by decide), e4 0 _ (by decide)]
    by_cases e1 : mush (hsh (A.1 1 (9 * k + 8)) (A.1 0 0)) 20 < A.1 1 (9 * k + 7)
    · refine pw_t e1 (pw_lt ?_)
      have ev : (1 : Int32) - sm = aLv A k := by unfold aLv; rw [if_pos e1, hsm]
      rw [ev]
      exact m131 _
    · refine pw_f e1 ?_
      have ev : sm = aLv A k := by unfold aLv; rw [if_neg e1, hsm]
      rw [ev]
      exact m131 _
theorem rl11 (hS : Shp S) (hk : k < 6) (h01 : aS01 A) (h2 : ∀ i, i < 6 → A.1 2 (6 * k + i) = 0 ∨ A.1 2 (6 * k + i) = 1) (h9 : ∀ i, i < 6 → (thr A i → I0 1309 i = 1) ∧ (¬ thr A i → I0 1309 i = 0)) (hR : rOk (aRt A k)) (h6 : A.1 6 k = 0) : ∀ (f m n : Nat) (J : mIm), n + f = 6 → f < m → RX I0 J (aI A 4 k (if carN A k n = true then 1 else 0)) → pw S (q_M_listens_11 m (some 1282) (nI k) (xsm A k n) (nI n) (J, S)) (RV I0 (aLis A k))
  | f, 0, n, J, _, h, _ => by omega
  | 0, m + 1, n, J, hn, hm, hX => by
    show pw S (q_M_listens_11_b _ _ _ _ _ _) _
    unfold q_M_listens_11_b
    have e : n = 6 := by omega
    subst e
    have ec : aCar A k = carN A k 6 := by unfold aCar; rw [decide_eq_true h6, Bool.true_and]
    refine pw_f (nI_nlt (a := 6) (b := 6) (by omega) (by decide)) (rl74 hS hk h01 h2 h9 hR ?_ hX (fun _ => rfl))
    rw [ec]
    cases carN A k 6
    · exact Or.inl ⟨rfl, rfl⟩
    · exact Or.inr ⟨rfl, rfl⟩
  | f + 1, m + 1, n, J, hn, hm, hX => by
    have hn6 : n < 6 := by omega
    have c10 : ¬ (1 : Int32) = 0 := by decide
    have c01 : ¬ (0 : Int32) = 1 := by decide
    have e4 : ∀ (x : Int32) f i, f ≠ 4 → (aI A 4 k x).1 f i = A.1 f i := fun x f i h => aI_f _ _ _ _ h
    have exs : xsm A k (n + 1) = if A.1 2 (6 * k + n) = 0 then xsm A k n else if A.1 6 n = 0 then xsm A k n else xsm A k n ^^^ A.1 5 n := rfl
    have ecn : carN A k (n + 1) = (carN A k n || (decide (A.1 2 (6 * k + n) = 1) && decide (A.1 6 n = 1))) := rfl
    show pw S (q_M_listens_11_b _ _ _ _ _ _) _
    unfold q_M_listens_11_b q_M_listens_68
    refine pw_t (nI_lt (b := 6) hn6 (by decide)) (rM hS (r := 1302) rfl (gA hS hX (r := 1302) k rfl rfl hk ?_))
    rw [e4 _ 6 _ (by decide), show nI n + 1 = nI (n + 1) from nI_1 n]
    refine pw_t h6 (rM hS (r := 1295) rfl (gA hS hX (r := 1295) (6 * k + n) rfl (by rw [show (6 : Int32) * nI k = nI (6 * k) from pk_mul 6 k, nI_add]) (by omega) ?_))
    rw [e4 _ 2 _ (by decide)]
    rcases h2 n hn6 with e2 | e2
    · rw [if_pos e2] at exs
      rw [decide_eq_false (by rw [e2]; exact c01), Bool.false_and, Bool.or_false] at ecn
      have := rl11 hS hk h01 h2 h9 hR h6 f m (n + 1) J (by omega) (by omega) (by rw [ecn]; exact hX)
      rw [exs] at this
      exact pw_t e2 this
    · rw [if_neg (by rw [e2]; exact c10)] at exs
      rw [decide_eq_true e2, Bool.true_and] at ecn
      refine pw_f (by rw [e2]; exact c10) (rM hS (r := 1302) rfl (gA hS hX (r := 1302) n rfl rfl hn6 ?_))
      rw [e4 _ 6 _ (by decide)]
      rcases (h01 n hn6).1 with e6 | e6
      · rw [if_pos e6] at exs
        rw [decide_eq_false (by rw [e6]; exact c01), Bool.or_false] at ecn
        have := rl11 hS hk h01 h2 h9 hR h6 f m (n + 1) J (by omega) (by omega) (by rw [ecn]; exact hX)
        rw [exs] at this
        exact pw_t e6 this
      · rw [if_neg (by rw [e6]; exact c10)] at exs
        rw [decide_eq_true e6, Bool.or_true] at ecn
        refine pw_f (by rw [e6]; exact c10) (rM hS (r := 1300) rfl (sZ hS hX (r := 1300) k rfl (by decide) (Or.inr rfl) rfl hk (fun J2 g2 => ?_)))
        rw [aI_tw] at g2
        refine rM hS (r := 1301) rfl (gA hS g2 (r := 1301) n rfl rfl hn6 (pw_lt ?_))
        rw [e4 _ 5 _ (by decide)]
        have := rl11 hS hk h01 h2 h9 hR h6 f m (n + 1) J2 (by omega) (by omega) (by rw [ecn, if_pos rfl]; exact g2)
        rw [exs] at this
        exact this
theorem r_listens (hS : Shp S) (hk : k < 6) (h01 : aS01 A) (h2 : ∀ i, i < 6 → A.1 2 (6 * k + i) = 0 ∨ A.1 2 (6 * k + i) = 1) (h9 : ∀ i, i < 6 → (thr A i → I0 1309 i = 1) ∧ (¬ thr A i → I0 1309 i = 0)) (hR : rOk (aRt A k)) (hX : RX I0 I A) : pw S (q_M_listens (some 1282) (nI k) (I, S)) (RV I0 (aLis A k)) := by
  have c10 : ¬ (1 : Int32) = 0 := by decide
  unfold q_M_listens
  refine rM hS (r := 1300) rfl (sZ hS hX (r := 1300) k rfl (by decide) (Or.inl rfl) rfl hk (fun J g => ?_))
  rcases (h01 k hk).1 with e6 | e6
  · exact rl11 hS hk h01 h2 h9 hR e6 6 mFU 0 J (by omega) (by unfold mFU; omega) g
  · obtain ⟨n, hn⟩ : ∃ n, mFU = n + 1 := ⟨mFU - 1, by unfold mFU; omega⟩
    rw [hn]
    show pw S (q_M_listens_11_b _ _ _ _ _ _) _
    unfold q_M_listens_11_b
    have ec : aCar A k = false := by unfold aCar; rw [decide_eq_false (by rw [e6]; exact c10), Bool.false_and]
    refine pw_t (by decide) (rM hS (r := 1302) rfl (gA hS g (r := 1302) k rfl rfl hk ?_))
    rw [aI_f _ _ _ _ (by decide)]
    exact pw_f (by rw [e6]; exact c10) (rl74 hS hk h01 h2 h9 hR (Or.inl ⟨rfl, ec⟩) g (fun q => by rw [ec] at q; exact absurd q (by decide)))
end LR
