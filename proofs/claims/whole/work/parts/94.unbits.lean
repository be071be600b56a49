/-! hearing, in the state; unbits -/
def aRt (A : aT) (k : Nat) : rcT := (A.1 12 k, A.1 10 k, A.1 11 k, A.2.1 2 k, A.2.1 3 k)
def aRc (A : aT) (k : Nat) (R : rcT) : aT := aI (aI (aI (aL (aL A 2 k R.2.2.2.1) 3 k R.2.2.2.2) 12 k R.1) 10 k R.2.1) 11 k R.2.2.1
theorem aL_comm (A : aT) {f g k i : Nat} (x y : List Int32) (h : f ≠ g) : aL (aL A f k x) g i y = aL (aL A g i y) f k x := by
  unfold aL mrow
  simp
  funext a
  by_cases h1 : a = g
  · subst h1
    simp [Ne.symm h]
  · by_cases h2 : a = f
    · subst h2
      simp [h]
    · simp [h1, h2]
theorem aRc_L (A : aT) {f k i : Nat} (R : rcT) (y : List Int32) (h : f ≠ 2 ∧ f ≠ 3) : aL (aRc A k R) f i y = aRc (aL A f i y) k R := by
  show aI (aI (aI (aL (aL (aL A 2 k R.2.2.2.1) 3 k R.2.2.2.2) f i y) 12 k R.1) 10 k R.2.1) 11 k R.2.2.1 = _
  rw [aL_comm _ _ _ (Ne.symm h.2), aL_comm _ _ _ (Ne.symm h.1)]
  rfl
section RC
variable {A : aT} {k : Nat} {R : rcT}
theorem aRc_1 {f i : Nat} (h : (f ≠ 10 ∧ f ≠ 11 ∧ f ≠ 12) ∨ i ≠ k) : (aRc A k R).1 f i = A.1 f i := by
  unfold aRc
  rw [aI_o _ _ (by omega), aI_o _ _ (by omega), aI_o _ _ (by omega)]
  rfl
theorem aRc_2 {f i : Nat} (h : (f ≠ 2 ∧ f ≠ 3) ∨ i ≠ k) : (aRc A k R).2.1 f i = A.2.1 f i := by
  show (aL (aL A 2 k R.2.2.2.1) 3 k R.2.2.2.2).2.1 f i = A.2.1 f i
  rw [aL_o _ _ (by omega), aL_o _ _ (by omega)]
theorem aRc_12 : (aRc A k R).1 12 k = R.1 := by unfold aRc; rw [aI_o _ _ (by omega), aI_o _ _ (by omega), aI_s]
theorem aRc_10 : (aRc A k R).1 10 k = R.2.1 := by unfold aRc; rw [aI_o _ _ (by omega), aI_s]
theorem aRc_11 : (aRc A k R).1 11 k = R.2.2.1 := by unfold aRc; rw [aI_s]
theorem aRc_r : (aRc A k R).2.1 2 k = R.2.2.2.1 := by
  show (aL (aL A 2 k R.2.2.2.1) 3 k R.2.2.2.2).2.1 2 k = _
  rw [aL_o _ _ (by omega), aL_s]
theorem aRc_c : (aRc A k R).2.1 3 k = R.2.2.2.2 := by
  show (aL (aL A 2 k R.2.2.2.1) 3 k R.2.2.2.2).2.1 3 k = _
  rw [aL_s]
theorem aRc_t : aRt (aRc A k R) k = R := by
  unfold aRt
  rw [aRc_12, aRc_10, aRc_11, aRc_r, aRc_c]
theorem aRc_S {t : Nat} (h : t ≠ k) : eqS A (aRc A k R) t := ⟨⟨fun _ _ => aRc_1 (by omega), fun _ _ => aRc_1 (by omega), aRc_1 (by omega), aRc_1 (by omega), aRc_1 (by omega), aRc_1 (by omega), aRc_1 (by omega), fun _ _ => aRc_1 (by omega), aRc_1 (by omega), aRc_1 (by omega), aRc_1 (by omega), aRc_1 (by omega), fun _ _ => aRc_1 (by omega), fun _ _ => ⟨aRc_1 (by omega), aRc_1 (by omega)⟩⟩, ⟨aRc_2 (by omega), aRc_2 (by omega), aRc_2 (by omega), aRc_2 (by omega)⟩, rfl, rfl⟩
theorem aRc_K {l : Nat} : eqK A (aRc A k R) l := ⟨⟨aRc_1 (by omega), aRc_1 (by omega), aRc_1 (by omega), aRc_1 (by omega), aRc_1 (by omega), aRc_1 (by omega), aRc_1 (by omega), aRc_1 (by omega), aRc_1 (by omega), aRc_1 (by omega), aRc_1 (by omega), aRc_1 (by omega), aRc_1 (by omega), aRc_1 (by omega)⟩, ⟨aRc_2 (by omega), aRc_2 (by omega)⟩, rfl, rfl⟩
theorem cRv_rc {J : mIm} {b : Nat} (h : cRt J b R) : cRv J (aRc A k R) b k := by
  unfold cRv
  rw [aRc_12, aRc_10, aRc_11, aRc_r, aRc_c]
  exact h
theorem CX_rc {I0 I J : mIm} {s : Nat} (hX : CX I0 I A) (hs : s < 6) (hf : frV I J (cN s + 5)) (h : cRt J (cN s + 5) R) : CX I0 J (aRc A s R) := by
  have hc := hX.1.2.1 s hs
  refine CX_st hX hs (fun r hr => hf r (by omega)) ?_ (fun t _ ht => aRc_S ht) (fun l _ => aRc_K) (aRc_1 (by omega)) (aRc_2 (by omega)) (aRc_2 (by omega)) (aRc_1 (by omega)) (aRc_1 (by omega)) (aRc_1 (by omega)) (aRc_2 (by omega)) (aRc_2 (by omega))
  obtain ⟨h1, h2, h3, h4, h5, h6, h7⟩ := hc
  refine ⟨cS1_A (cS1_same h1 (hf _ (by omega))) (fun _ _ => aRc_1 (by omega)) (aRc_1 (by omega)) (aRc_1 (by omega)) (fun _ _ => aRc_1 (by omega)) (aRc_1 (by omega)) (fun _ _ => aRc_1 (by omega)), cS2_A (cS2_same h2 (hf _ (by omega))) (fun _ _ => aRc_1 (by omega)), cS3_A (cS3_same h3 (fun r a b => hf r (by omega))) (fun _ _ => ⟨aRc_1 (by omega), aRc_1 (by omega)⟩), cSn_A (cSn_same h4 (fun r a b => hf r (by omega))) (aRc_1 (by omega)) (aRc_1 (by omega)) (aRc_1 (by omega)) (aRc_2 (by omega)) (aRc_2 (by omega)), cRv_rc h, isR_same h6 (fun r a b => hf r (by omega)), cMl_A (cMl_same h7 (fun r a b => hf r (by omega))) rfl⟩
theorem CX_rc6 {I0 I J : mIm} (hX : CX I0 I A) (hf : frV I J 1273) (h : cRt J 1273 R) : CX I0 J (aRc A 6 R) := by
  obtain ⟨⟨⟨c1, ⟨c2, c3⟩, ⟨c4, c5⟩, c6⟩, h2, h3⟩, h4, h5⟩ := hX
  refine ⟨⟨⟨?_, ?_, ?_, cRv_rc h⟩, fun s hs => cSt_A (cSt_same (h2 s hs) (fun r a b => hf r (by unfold cN at b; omega))) (aRc_S (by omega)), fun s hs o ho hne => cLk_A (cLk_same (h3 s hs o ho hne) (fun r a b => hf r (by have := cK_lt hs ho hne; omega))) aRc_K⟩, fun r hr => by rw [hf r (by omega)]; exact h4 r hr, fun j hj => by rw [hf 16 (by decide)]; exact h5 j hj⟩
  · rw [hf 16 (by decide), aRc_1 (by omega)]; exact c1
  · rw [aRc_2 (by omega)]
    exact ⟨isL_same c2 (hf _ (by decide)) (hf _ (by decide)), c3⟩
  · rw [aRc_2 (by omega)]
    exact ⟨isL_same c4 (hf _ (by decide)) (hf _ (by decide)), c5⟩
theorem rT_3 : ∀ q ∈ rTab, q = (1286, 10, 7) ∨ q = (1287, 11, 7) ∨ q = (1288, 12, 7) ∨ ((q.1 < 1286 ∨ 1293 < q.1) ∧ q.2.1 ≠ 10 ∧ q.2.1 ≠ 11 ∧ q.2.1 ≠ 12) := by decide
theorem RX_rc {I0 I J : mIm} (hX : RX I0 I A) (hk : k < 7) (hf : fRk I J k) (h : rRt J k R) : RX I0 J (aRc A k R) := by
  obtain ⟨⟨h1, h2, h3, h4, h5⟩, h6, h7⟩ := hX
  obtain ⟨f1, f2, f3, f4⟩ := hf
  obtain ⟨r1, r2, r3, r4, r5⟩ := id h
  have e : ∀ r, (r < 1286 ∨ 1293 < r) → J r = I r := f1
  refine ⟨⟨?_, fun q hq i hi => ?_, fun i hi => ?_, fun t ht => ⟨?_, ?_, ?_⟩, fun l hl => ?_⟩, fun r hr => ?_, fun j hj => ?_⟩
  · unfold rGl fL at h1 ⊢
    rw [e 1282 (by decide), e 1283 (by decide), e 1284 (by decide), aRc_1 (by omega), aRc_2 (by omega), aRc_2 (by omega)]
    exact h1
  · rcases rT_3 q hq with w | w | w | ⟨w1, w2, w3, w4⟩
    · subst w
      show J 1286 i = (aRc A k R).1 10 i
      by_cases ei : i = k
      · subst ei; rw [aRc_10]; exact r2
      · rw [aRc_1 (by omega), f2 1286 (by decide) (by decide) (by decide) i ei]
        exact h2 _ hq i hi
    · subst w
      show J 1287 i = (aRc A k R).1 11 i
      by_cases ei : i = k
      · subst ei; rw [aRc_11]; exact r3
      · rw [aRc_1 (by omega), f2 1287 (by decide) (by decide) (by decide) i ei]
        exact h2 _ hq i hi
    · subst w
      show J 1288 i = (aRc A k R).1 12 i
      by_cases ei : i = k
      · subst ei; rw [aRc_12]; exact r1
      · rw [aRc_1 (by omega), f2 1288 (by decide) (by decide) (by decide) i ei]
        exact h2 _ hq i hi
    · rw [e q.1 w1, aRc_1 (Or.inl ⟨w2, w3, w4⟩)]
      exact h2 q hq i hi
  · unfold rRv
    by_cases ei : i = k
    · subst ei
      rw [aRc_c, aRc_r, aRc_12]
      exact ⟨r4, r5⟩
    · obtain ⟨⟨g1, g2, g3⟩, g4⟩ := h3 i hi
      rw [aRc_2 (by omega), aRc_2 (by omega), aRc_1 (by omega)]
      refine ⟨⟨by rw [f2 1291 (by decide) (by decide) (by decide) i ei]; exact g1, g2, fun j x hj => ?_⟩, fun q => ⟨by rw [f2 1289 (by decide) (by decide) (by decide) i ei]; exact (g4 q).1, (g4 q).2.1, fun j x hj => ?_⟩⟩
      · have hlt := (List.getElem?_eq_some_iff.mp hj).1
        rw [f4 _ (by omega)]
        exact g3 j x hj
      · have hlt := (List.getElem?_eq_some_iff.mp hj).1
        have := (g4 q).2.1
        rw [f3 _ (by omega)]
        exact (g4 q).2.2 j x hj
  · have := (h4 t ht).1
    unfold rQu fL at this ⊢
    rw [e 1296 (by decide), e 1297 (by decide), e 1298 (by decide)]
    exact this
  · have := (h4 t ht).2.1
    unfold rMl fL at this ⊢
    rw [e 1344 (by decide), e 1345 (by decide)]
    exact this
  · have := (h4 t ht).2.2
    unfold rSn fL at this ⊢
    rw [aRc_1 (by omega), aRc_1 (by omega), aRc_2 (by omega), aRc_2 (by omega), e 1303 (by decide), e 1304 (by decide), e 1305 (by decide), e 1307 (by decide), e 1308 (by decide)]
    exact this
  · have := h5 l hl
    unfold rLk fL at this ⊢
    rw [aRc_2 (by omega), aRc_2 (by omega), e 1331 (by decide), e 1330 (by decide), e 1333 (by decide), e 1332 (by decide), e 1336 (by decide), e 1335 (by decide), e 1334 (by decide), e 1340 (by decide), e 1339 (by decide), e 1338 (by decide), e 1337 (by decide)]
    exact this
  · rw [e r (by unfold kp at hr; omega)]
    exact h6 r hr
  · rw [e 1282 (by decide)]
    exact h7 j hj
theorem rRt_of {I0 I : mIm} (hX : RX I0 I A) (hk : k < 7) : rRt I k (aRt A k) := by
  obtain ⟨g1, g2⟩ := hX.1.2.2.1 k hk
  exact ⟨rsc hX.1 11 rfl hk, rsc hX.1 9 rfl hk, rsc hX.1 10 rfl hk, g1, g2⟩
/-! unbits -/
def uBs (l : List Int32) (R : rcT) : Nat → rcT × Nat
  | 0 => (R, 0)
  | k + 1 => ((rHr (uBs l R k).1 (bitAt l k)).2, (uBs l R k).2 + (if (rHr (uBs l R k).1 (bitAt l k)).1 = 0 then 0 else 1))
def uR0 (A : aT) : rcT := (0, 0, 0, A.2.1 2 6, A.2.1 3 6)
def aUn1 (A : aT) : rcT × Nat := uBs (A.2.1 0 0) (uR0 A) (8 * (A.2.1 0 0).length)
def aUnb (A : aT) : Int32 × aT := (nI (aUn1 A).2, if (aUn1 A).2 = 0 then aRc (aL A 0 0 []) 6 (aUn1 A).1 else aL (aRc (aL A 0 0 []) 6 (aUn1 A).1) 1 0 (aUn1 A).1.2.2.2.2)
theorem uBs_n {l : List Int32} : ∀ k, (uBs l R k).2 ≤ k
  | 0 => Nat.le_refl _
  | k + 1 => by
    have := uBs_n (l := l) k
    show (uBs l R k).2 + (if _ then 0 else 1) ≤ k + 1
    split <;> omega
theorem uBs_k {l : List Int32} (h : rOk R) : ∀ k, rOk (uBs l R k).1
  | 0 => h
  | k + 1 => rHr_ok (uBs_k h k)
end RC
section UN
variable {S : mS} {I J I0 : mIm} {A : aT}
theorem un_c (hS : Shp S) (hX : CX I0 I A) (hO : rOk (uR0 A)) : ∀ (f m k : Nat) (J : mIm), k + f = 8 * (A.2.1 0 0).length → f < m → frV I J 1273 → cRt J 1273 (uBs (A.2.1 0 0) (uR0 A) k).1 → pw S (q_C_unbits_11 m (some 16) (nI (uBs (A.2.1 0 0) (uR0 A) k).2) (nI k) (J, S)) (CV I0 (aUnb A))
  | f, 0, k, J, _, h, _, _ => by omega
  | f, m + 1, k, J, hk, hm, hf, hc => by
    obtain ⟨k1, k2, k3, k4, k5, k6, k7, k8, k9, k10, k11, k12, k13, k14⟩ := hS.1
    obtain ⟨t1, t2⟩ := hX.1.1.2.1
    have tJ : isL J 1266 (A.2.1 0 0) := isL_same t1 (hf _ (by decide)) (hf _ (by decide))
    have hun := uBs_n (R := uR0 A) (l := A.2.1 0 0) k
    show pw S (q_C_unbits_11_b _ _ _ _ _) _
    unfold q_C_unbits_11_b q_C_unbits_55
    refine pw_gR k1 k3 (gB k10 tJ ?_)
    rw [show (8 : Int32) * nI (A.2.1 0 0).length = nI (8 * (A.2.1 0 0).length) from pk_mul 8 _]
    by_cases hlt : k < 8 * (A.2.1 0 0).length
    · obtain ⟨f, rfl⟩ : ∃ q, f = q + 1 := ⟨f - 1, by omega⟩
      rw [sh3 (by omega), an7 (by omega), show nI k + 1 = nI (k + 1) from nI_1 k]
      refine pw_t (nI_lt hlt (by omega)) (pw_gR k1 k6 (pw_gR k1 k3 (pw_cv k10.1 (c_at k10 tJ t2 (by omega)) (fun v J2 g => ?_))))
      obtain ⟨rfl, hJ2⟩ := g
      rw [hJ2]
      have eb : (pA (A.2.1 0 0) (k / 8) >>> (nI (k % 8) &&& 31)) &&& 1 = bitAt (A.2.1 0 0) k := rfl
      rw [eb]
      refine pw_cv k13.1 (v_hear k13 hc (uBs_k hO k) _) (fun x J3 g => ?_)
      obtain ⟨rfl, g1, g2⟩ := g
      have en : (uBs (A.2.1 0 0) (uR0 A) (k + 1)).2 = (uBs (A.2.1 0 0) (uR0 A) k).2 + (if (rHr (uBs (A.2.1 0 0) (uR0 A) k).1 (bitAt (A.2.1 0 0) k)).1 = 0 then 0 else 1) := rfl
      have ih := un_c hS hX hO f m (k + 1) J3 (by omega) (by omega) (frV_t hf g1) g2
      by_cases e : (rHr (uBs (A.2.1 0 0) (uR0 A) k).1 (bitAt (A.2.1 0 0) k)).1 = 0
      · rw [en, if_pos e, Nat.add_zero] at ih
        exact pw_t e ih
      · rw [en, if_neg e] at ih
        refine pw_f e ?_
        rw [show nI (uBs (A.2.1 0 0) (uR0 A) k).2 + 1 = nI ((uBs (A.2.1 0 0) (uR0 A) k).2 + 1) from nI_1 _]
        exact ih
    · have e : k = 8 * (A.2.1 0 0).length := by omega
      subst e
      refine pw_f (nI_nlt (by omega) (by omega)) ?_
      have e1 : uBs (A.2.1 0 0) (uR0 A) (8 * (A.2.1 0 0).length) = aUn1 A := rfl
      rw [e1] at hc hun ⊢
      have hXJ := CX_rc6 hX hf hc
      unfold q_C_unbits_87 aUnb
      by_cases e0 : (aUn1 A).2 = 0
      · rw [e0, if_pos rfl]
        refine pw_f (by decide) (pw_gR k1 k3 (pw_cv k10.1 (c_tapeClear hS hXJ) (fun _ J2 g => pw_ret ⟨rfl, ?_⟩)))
        have g : CX I0 J2 (aL (aRc A 6 (aUn1 A).1) 0 0 []) := g
        rw [aRc_L _ _ _ (by decide)] at g
        exact g
      · rw [if_neg e0]
        refine pw_t (n_gt0 (by omega) (by omega)) (pw_gR k1 k6 (pw_gR k13.1 k13.2.2.2.1 (pw_gR k1 k6 (pw_gR k13.1 k13.2.2.2.1 (gB k13.2.2.2.2 hc.2.2.2.1 (pw_cv k1 (c_putOut hS hXJ k13.2.2.2.2 hc.2.2.2.1 hc.2.2.2.2.1 (by decide) 0 _ (by omega) (by have := hc.2.2.2.2.1; omega)) (fun _ J2 g => ?_)))))))
        have g1 := g.1
        rw [List.drop_zero, List.take_length] at g1
        refine pw_gR k1 k3 (pw_cv k10.1 (c_tapeClear hS g1) (fun _ J3 z => pw_ret ⟨rfl, ?_⟩))
        have z : CX I0 J3 (aL (aL (aRc A 6 (aUn1 A).1) 1 0 (aUn1 A).1.2.2.2.2) 0 0 []) := z
        rw [aL_comm _ _ _ (by decide), aRc_L _ _ _ (by decide)] at z
        exact z
theorem p_C_unbits (hS : Shp S) (hC : CInv I A) (hO : rOk (uR0 A)) : pw S (q_C_unbits (some 16) (I, S)) (CP I (aUnb A)) := by
  refine CV_CP ?_
  have hX := CX_0 hC
  obtain ⟨k1, k2, k3, k4, k5, k6, k7, k8, k9, k10, k11, k12, k13, k14⟩ := hS.1
  obtain ⟨c1, c2, c3, c4⟩ := hC.1
  obtain ⟨t1, t2⟩ := c2
  unfold q_C_unbits q_V_restart q_V_hearNothing
  refine pw_gR k1 k6 (pw_cv k13.1 (P := fun _ J => frV I J 1273 ∧ cRt J 1273 (uR0 A)) (pw_pI k13.1 (pw_cv k13.1 (P := fun _ J => frV I J 1273 ∧ cRt J 1273 (uR0 A)) (pw_pZ k13.1 (Or.inl rfl) (pw_pI k13.1 (pw_ret ⟨frV_t frV_p (frV_t frV_p frV_p), ?_⟩))) (fun _ J g => pw_ret g))) (fun _ J g => ?_))
  · obtain ⟨d1, d2, d3, d4, d5, d6⟩ := c4
    refine ⟨by simp [ip_if, uR0], by simp [ip_if, uR0], by simp [ip_if, uR0], isL_same d4 (by rw [iput_n _ _ _ (by decide), iput_n _ _ _ (by decide), iput_n _ _ _ (by decide)]) (by rw [iput_n _ _ _ (by decide), iput_n _ _ _ (by decide), iput_n _ _ _ (by decide)]), d5, fun q => absurd q (by show ¬ (0 : Int32) = 1; decide)⟩
  · exact un_c hS hX hO (8 * (A.2.1 0 0).length) mFU 0 J (by omega) (by unfold mFU; omega) g.1 g.2
theorem un_112 (hS : Shp S) {F : List Int32} (c : Int32) (Ib : mIm) (hX : RX I0 Ib A) (h9 : F.length ≤ 90) (hF : fL Ib 1292 540 F) : ∀ (f m i : Nat) (J : mIm), i + f = F.length → f < m → (∀ r, r ≠ 1284 → r ≠ 1282 → J r = Ib r) → (∀ j, j ≠ 3 → J 1282 j = Ib 1282 j) → J 1282 3 = nI F.length → (∀ j, j < i → J 1284 j = pA F j) → pw S (q_M_unbits_112 m (some 1282) c (nI i) (J, S)) (RV I0 (c, aL A 1 0 F))
  | f, 0, i, J, _, h, _, _, _, _ => by omega
  | 0, m + 1, i, J, hi, hm, h1, h2, h3, h4 => by
    have hM := M_k hS
    show pw S (q_M_unbits_112_b _ _ _ _ _) _
    unfold q_M_unbits_112_b
    refine pw_gE hM h3 (pw_f (nI_nlt (by omega) (by omega)) (pw_ret ⟨rfl, ?_⟩))
    refine RX_1 hX (fun r a b => h1 r b a) h2 h3 (fun j x hj => ?_) (by omega)
    have hlt := (List.getElem?_eq_some_iff.mp hj).1
    rw [Nat.zero_add, h4 j (by omega)]
    unfold pA
    rw [hj]
    rfl
  | f + 1, m + 1, i, J, hi, hm, h1, h2, h3, h4 => by
    have hM := M_k hS
    have a84 := aK_in hS (r := 1284) (t := 0) (n := 1024) rfl
    have a92 := aK_in hS (r := 1292) (t := 0) (n := 630) rfl
    show pw S (q_M_unbits_112_b _ _ _ _ _) _
    unfold q_M_unbits_112_b
    refine pw_gE hM h3 (pw_t (nI_lt (by omega) (by omega)) (rM hS (r := 1284) rfl (rM hS (r := 1292) rfl (pw_aI (540 + i) a92.1 (nI_add 540 i) (by omega) (by omega) (pw_wI i a84.1 rfl (by omega) (by omega) ?_)))))
    have ex : J 1292 (540 + i) = pA F i := by
      rw [h1 1292 (by decide) (by decide), hF i F[i] (List.getElem?_eq_getElem (by omega))]
      unfold pA
      rw [List.getElem?_eq_getElem (by omega)]
      rfl
    rw [ex, show nI i + 1 = nI (i + 1) from nI_1 i]
    refine un_112 hS c Ib hX h9 hF f m (i + 1) _ (by omega) (by omega) (fun r a b => by rw [iput_n _ _ _ a]; exact h1 r a b) (fun j hj => by rw [iput_n _ _ _ (by decide)]; exact h2 j hj) (by rw [iput_n _ _ _ (by decide)]; exact h3) (fun j hj => ?_)
    by_cases e : j = i
    · subst e; rw [iput_s]
    · rw [iput_j _ _ _ e]; exact h4 j (by omega)
theorem un_r (hS : Shp S) {B : aT} {l : List Int32} {R0 : rcT} (hX : RX I0 I B) (hO : rOk R0) (ht : fL I 1283 0 l) (hl : l.length ≤ 260) : ∀ (f m k : Nat) (J : mIm), k + f = 8 * l.length → f < m → fRk I J 6 → rRt J 6 (uBs l R0 k).1 → pw S (q_M_unbits_46 m (some 1282) (nI l.length) (nI (uBs l R0 k).2) (nI k) (J, S)) (RV I0 (nI (uBs l R0 (8 * l.length)).2, if (uBs l R0 (8 * l.length)).2 = 0 then aRc B 6 (uBs l R0 (8 * l.length)).1 else aL (aRc B 6 (uBs l R0 (8 * l.length)).1) 1 0 (uBs l R0 (8 * l.length)).1.2.2.2.2))
  | f, 0, k, J, _, h, _, _ => by omega
  | f, m + 1, k, J, hk, hm, hf, hc => by
    have hM := M_k hS
    have a83 := aK_in hS (r := 1283) (t := 0) (n := 260) rfl
    have a91 := aK_in hS (r := 1291) (t := 0) (n := 7) rfl
    have hun := uBs_n (R := R0) (l := l) k
    show pw S (q_M_unbits_46_b _ _ _ _ _ _) _
    unfold q_M_unbits_46_b q_M_unbits_85
    rw [show (8 : Int32) * nI l.length = nI (8 * l.length) from pk_mul 8 _]
    by_cases hlt : k < 8 * l.length
    · obtain ⟨f, rfl⟩ : ∃ q, f = q + 1 := ⟨f - 1, by omega⟩
      rw [show nI k + 1 = nI (k + 1) from nI_1 k]
      refine pw_t (nI_lt hlt (by omega)) (rM hS (r := 1283) rfl (pw_dv (n := k) (d := 8) rfl rfl (by omega) (by decide) (by decide) (pw_aI (k / 8) a83.1 rfl (by omega) (by omega) (pw_rm (n := k) (d := 8) rfl rfl (by omega) (by decide) (by decide) ?_))))
      have eb : (J 1283 (k / 8) >>> (nI (k % 8) &&& 31)) &&& 1 = bitAt l k := by
        have := ht (k / 8) l[k / 8] (List.getElem?_eq_getElem (by omega))
        rw [Nat.zero_add] at this
        rw [hf.1 1283 (by decide), this]
        unfold bitAt
        rw [List.getElem?_eq_getElem (by omega)]
        rfl
      rw [eb]
      refine pw_cv hM (r_hear hS (k := 6) (by decide) hc (uBs_k hO k).1 _) (fun x J3 g => ?_)
      obtain ⟨rfl, g1, g2⟩ := g
      have en : (uBs l R0 (k + 1)).2 = (uBs l R0 k).2 + (if (rHr (uBs l R0 k).1 (bitAt l k)).1 = 0 then 0 else 1) := rfl
      have ih := un_r hS hX hO ht hl f m (k + 1) J3 (by omega) (by omega) (fRk_t hf g1) g2
      by_cases e : (rHr (uBs l R0 k).1 (bitAt l k)).1 = 0
      · rw [en, if_pos e, Nat.add_zero] at ih
        refine pw_t e (pw_lt ?_)
        rw [Int32.add_zero]
        exact ih
      · rw [en, if_neg e] at ih
        refine pw_f e (pw_lt ?_)
        rw [show nI (uBs l R0 k).2 + 1 = nI ((uBs l R0 k).2 + 1) from nI_1 _]
        exact ih
    · have e : k = 8 * l.length := by omega
      subst e
      refine pw_f (nI_nlt (by omega) (by omega)) ?_
      have hXJ := RX_rc hX (by decide) hf hc
      by_cases e0 : (uBs l R0 (8 * l.length)).2 = 0
      · rw [e0, if_pos rfl]
        exact pw_t rfl (pw_ret ⟨rfl, hXJ⟩)
      · rw [if_neg e0]
        have hc4 := hc.2.2.2.1
        refine pw_f (nI_ne0 (by omega) (by omega)) (rM hS (r := 1291) rfl (pw_aI 6 a91.1 rfl (by omega) (by omega) ?_))
        rw [hc4.1]
        exact pw_pI hM (un_112 hS _ J hXJ hc4.2.1 hc4.2.2 _ mFU 0 _ (Nat.zero_add _) (by have := hc4.2.1; unfold mFU; omega) (fun r a b => iput_n _ _ _ b) (fun j hj => iput_j _ _ _ hj) (iput_s _ _ _ _) (fun j hj => by omega))
theorem p_M_unbits (hS : Shp S) (hR : RInv I A) (hO : rOk (uR0 A)) : pw S (q_M_unbits (some 1282) (I, S)) (RP I (aUnb A)) := by
  refine RV_RP ?_
  have hX := RX_0 hR
  have hM := M_k hS
  obtain ⟨h1, h2, h3⟩ := hR.1.2.1
  have a86 := aK_in hS (r := 1286) (t := 0) (n := 7) rfl
  have a87 := aK_in hS (r := 1287) (t := 0) (n := 7) rfl
  have a88 := aK_in hS (r := 1288) (t := 1) (n := 7) rfl
  have a89 := aK_in hS (r := 1289) (t := 0) (n := 7) rfl
  unfold q_M_unbits
  have hX1 := RX_tape0 hX
  have hc1 := (rRt_of hX1 (k := 6) (by decide)).2.2.2.1
  have t83 : fL (iput I 1282 1 0) 1283 0 (A.2.1 0 0) := fun j x hj => by rw [iput_n _ _ _ (by decide)]; exact h2 j x hj
  refine pw_gE hM h1 (pw_pI hM (rM hS (r := 1286) rfl (pw_wI 6 a86.1 rfl (by omega) (by omega) (rM hS (r := 1287) rfl (pw_wI 6 a87.1 rfl (by omega) (by omega) (rM hS (r := 1288) rfl (pw_wZ 6 a88.1 rfl (by omega) (by omega) (Or.inl rfl) (rM hS (r := 1289) rfl (pw_wI 6 a89.1 rfl (by omega) (by omega) ?_))))))))) 
  generalize iput I 1282 1 0 = I1 at hX1 t83 hc1 ⊢
  refine un_r hS (l := A.2.1 0 0) (R0 := uR0 A) hX1 hO t83 h3 (8 * (A.2.1 0 0).length) mFU 0 _ (by omega) (by unfold mFU; omega) (fRk_t (fRk_w (Or.inl rfl)) (fRk_t (fRk_w (Or.inr (Or.inl rfl))) (fRk_t (fRk_w (Or.inr (Or.inr (Or.inl rfl)))) (fRk_w (Or.inr (Or.inr (Or.inr (Or.inl rfl)))))))) ⟨by simp [ip_if, uR0, uBs], by simp [ip_if, uR0, uBs], by simp [ip_if, uR0, uBs], ⟨?_, hc1.2.1, fun j x hj => ?_⟩, fun q => absurd q (by show ¬ (0 : Int32) = 1; decide)⟩
  · rw [iput_n _ _ _ (by decide), iput_n _ _ _ (by decide), iput_n _ _ _ (by decide), iput_n _ _ _ (by decide)]
    exact hc1.1
  · rw [iput_n _ _ _ (by decide), iput_n _ _ _ (by decide), iput_n _ _ _ (by decide), iput_n _ _ _ (by decide)]
    exact hc1.2.2 j x hj
end UN
