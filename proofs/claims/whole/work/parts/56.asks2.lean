/-! queued, route, best -/
def aQue (A : aT) (i k j : Int32) : Int32 := match sta i with
  | none => -1
  | some s => if k < 0 then -1 else match (A.2.2 0 s)[k.toNatClampNeg]? with
    | none => -1
    | some l => lAt l j
theorem ix_in {n : Nat} (hn : n < 2 ^ 31) (i : Int32) : (inV i 0 (nI n - 1) = 0 ∧ (i < 0 ∨ (¬ i < 0 ∧ n ≤ i.toNatClampNeg))) ∨ ∃ m : Nat, inV i 0 (nI n - 1) = 1 ∧ i = nI m ∧ m < n := by
  unfold inV
  by_cases h : i < 0
  · rw [if_pos h]
    exact Or.inl ⟨rfl, Or.inl h⟩
  · obtain ⟨m, hm, rfl⟩ := nI_of h
    rw [if_neg h, nI_clamp hm]
    rcases Nat.lt_or_ge m n with q | q
    · refine Or.inr ⟨m, ?_, rfl, q⟩
      rw [if_neg]
      have h1 : nI n - 1 = nI (n - 1) := pk_sub (b := 1) (by omega)
      rw [h1]
      exact nI_nlt (by omega) (by omega)
    · refine Or.inl ⟨?_, Or.inr ⟨h, q⟩⟩
      rw [if_pos]
      by_cases h0 : n = 0
      · rw [h0, nI_0]
        have h3 : ((0 : Int32) - 1) < 0 := by decide
        exact Int32.lt_of_lt_of_le h3 (Int32.not_lt.mp h)
      · have h1 : nI n - 1 = nI (n - 1) := pk_sub (b := 1) (by omega)
        rw [h1]
        exact nI_lt (by omega) hm
section P7
variable {S : mS} {I : mIm} {A : aT}
theorem p_C_queued (hS : Shp S) (hC : CInv I A) (i k j : Int32) : pw S (q_C_queued (some 16) i k j (I, S)) (fun v I' => I' = I ∧ v = aQue A i k j) := by
  unfold q_C_queued aQue
  refine pw_cv hS.1.1 (p_C_stationAt hS i) (fun a I h => ?_)
  obtain ⟨rfl, rfl⟩ := h
  cases h : sta i with
  | none => exact pw_nn (pw_nn (pw_ret ⟨rfl, rfl⟩))
  | some s =>
    obtain ⟨hs, -⟩ := sta_s h
    have hN := hS.2.1 s hs
    obtain ⟨c1, c2, c3, c4, c5, c6, c7⟩ := hC.2.1 s hs
    refine pw_ns (pw_gR hN.1 hN.2.2.2.2.2.2.1 (pw_cv hN.2.2.2.2.2.2.2.2.2.2.2.2.2.1.1 (p_W_rowAt hN.2.2.2.2.2.2.2.2.2.2.2.2.2.1 c6 k) (fun a I h => ?_)))
    obtain ⟨rfl, h⟩ := h
    unfold q_C_queued_25
    rcases h with ⟨rfl, h⟩ | ⟨b, l, rfl, h1, h2, h3, h4, h5, -, -⟩
    · refine pw_nn (pw_ret ⟨rfl, ?_⟩)
      rcases h with h | h
      · dsimp only
        rw [if_pos h]
      · dsimp only
        rw [h]
        split <;> rfl
    · refine pw_ns (pw_cv h5.1 (p_B_at h5 h4 h3 j) (fun v I h => ?_))
      obtain ⟨rfl, rfl⟩ := h
      refine pw_ret ⟨rfl, ?_⟩
      dsimp only
      rw [if_neg h1, h2]
theorem p_M_queued (hS : Shp S) (hR : RInv I A) (i k j : Int32) : pw S (q_M_queued (some 1282) i k j (I, S)) (fun v I' => I' = I ∧ v = aQue A i k j) := by
  have hm := hS.2.2.2
  unfold q_M_queued aQue
  refine pw_cl (p_M_isStation i) (fun v I h => ?_)
  obtain ⟨rfl, rfl⟩ := h
  cases h : sta i with
  | none => exact pw_t (by simp) (pw_ret ⟨rfl, rfl⟩)
  | some s =>
    obtain ⟨hs, rfl⟩ := sta_s h
    obtain ⟨q1, q2, q3⟩ := (hR.2.2.2.1 s hs).1
    refine pw_f (by simp) (pw_ra (sm_queueSize hm) hm s rfl hs (by decide) (pw_cl (p_M_in _ _ _) (fun v I h => ?_)))
    obtain ⟨rfl, rfl⟩ := h
    rw [q1]
    rcases ix_in (n := (A.2.2 0 s).length) (by omega) k with ⟨g1, g2⟩ | ⟨m, g1, rfl, g3⟩
    · refine pw_t g1 (pw_ret ⟨rfl, ?_⟩)
      dsimp only
      rcases g2 with g2 | ⟨g2, g3⟩
      · rw [if_pos g2]
      · rw [if_neg g2, List.getElem?_eq_none g3]
    · obtain ⟨l, hl⟩ : ∃ l, (A.2.2 0 s)[m]? = some l := ⟨_, List.getElem?_eq_getElem g3⟩
      obtain ⟨e1, e2, e3⟩ := q3 m l hl
      dsimp only
      rw [if_neg (nI_pos (by omega)), nI_clamp (by omega), hl]
      refine pw_f (by rw [g1]; decide) (pw_lt (pw_ra (sm_queueLong hm) hm (12 * s + m) (n_lin 12 s m) (by omega) (by decide) (pw_cl (p_M_in _ _ _) (fun v I h => ?_))))
      obtain ⟨rfl, rfl⟩ := h
      rw [e2]
      rcases lAt_in (l := l) (i := j) (by omega) with ⟨f1, f2⟩ | ⟨n, f1, rfl, f3, f4⟩
      · exact pw_t f1 (pw_ret ⟨rfl, f2.symm⟩)
      · refine pw_f (by rw [f1]; decide) (pw_ra (sm_queue hm) hm (90 * (12 * s + m) + n) ?_ (by omega) (by decide) (pw_ret ⟨rfl, e3 n _ f4⟩))
        rw [show (12 : Int32) * nI s + nI m = nI (12 * s + m) from n_lin 12 s m]
        exact n_lin 90 _ n
/-! routes -/
/-- all qualities are numbers from 0 on -/
def aQl (A : aT) : Prop := ∀ k, k < 216 → ¬ A.1 40 k < 0
def aRou (A : aT) (i d n w : Int32) : Int32 := match lnk i d, lnk i n with
  | some q, some p => if w = 0 then A.1 40 (36 * q.1 + (6 * q.2 + p.2)) else if w = 1 then (if A.1 40 (36 * q.1 + (6 * q.2 + p.2)) = 0 then 0 else A.1 41 (36 * q.1 + (6 * q.2 + p.2))) else -1
  | _, _ => -1
theorem p_T_qualityOf (hS : Shp S) (hC : CInv I A) {s : Nat} (hs : s < 6) (d n : Int32) : pw S (q_T_qualityOf (some (cN s + 55)) d n (I, S)) (fun v I' => I' = I ∧ v = match sta d, sta n with | some a, some b => A.1 40 (36 * s + (6 * a + b)) | _, _ => 0) := by
  obtain ⟨n1, n2, n3, n4, n5, n6, n7, n8, n9, n10, n11, n12, n13, n14, n15, n16, n17, n18, n19, n20, n21⟩ := hS.2.1 s hs
  unfold q_T_qualityOf
  refine pw_cl (p_C_isStation d) (fun v I h => ?_)
  obtain ⟨rfl, rfl⟩ := h
  cases h : sta d with
  | none => exact pw_t (by simp) (pw_ret ⟨rfl, rfl⟩)
  | some a =>
    refine pw_f (by simp) (pw_cl (p_C_isStation n) (fun v I h2 => ?_))
    obtain ⟨rfl, rfl⟩ := h2
    cases h2 : sta n with
    | none => exact pw_t (by simp) (pw_ret ⟨rfl, rfl⟩)
    | some b =>
      obtain ⟨ha, rfl⟩ := sta_s h
      obtain ⟨hb, rfl⟩ := sta_s h2
      exact pw_f (by simp) (pw_gR n17 n18 (pw_aI (6 * a + b) n20.1 (n_lin 6 a b) (by rw [n20.2]; omega) (by rw [n20.2]; decide) (pw_ret ⟨rfl, ((hC.2.1 s hs).2.2.1.2 (6 * a + b) (by omega)).1⟩)))
theorem p_T_ageOf (hS : Shp S) (hC : CInv I A) (hQ : aQl A) {s a b : Nat} (hs : s < 6) (ha : a < 6) (hb : b < 6) : pw S (q_T_ageOf (some (cN s + 55)) (nI a) (nI b) (I, S)) (fun v I' => I' = I ∧ v = if A.1 40 (36 * s + (6 * a + b)) = 0 then 0 else A.1 41 (36 * s + (6 * a + b))) := by
  obtain ⟨n1, n2, n3, n4, n5, n6, n7, n8, n9, n10, n11, n12, n13, n14, n15, n16, n17, n18, n19, n20, n21⟩ := hS.2.1 s hs
  unfold q_T_ageOf
  refine pw_cv n17 (p_T_qualityOf hS hC hs (nI a) (nI b)) (fun v I h => ?_)
  obtain ⟨rfl, rfl⟩ := h
  rw [sta_nI ha, sta_nI hb]
  dsimp only
  have hq := hQ (36 * s + (6 * a + b)) (by omega)
  by_cases h0 : A.1 40 (36 * s + (6 * a + b)) = 0
  · refine pw_f (by rw [h0]; decide) (pw_ret ⟨rfl, by rw [if_pos h0]⟩)
  · have h1 : 0 < A.1 40 (36 * s + (6 * a + b)) := by
      obtain ⟨m, hm, e⟩ := nI_of hq
      rw [e] at h0 ⊢
      have : m ≠ 0 := fun q => h0 (by rw [q]; rfl)
      exact nI_lt (a := 0) (by omega) hm
    refine pw_t h1 (pw_gR n17 n19 (pw_aI (6 * a + b) n21.1 (n_lin 6 a b) (by rw [n21.2]; omega) (by rw [n21.2]; decide) (pw_ret ⟨rfl, ?_⟩)))
    rw [if_neg h0]
    exact ((hC.2.1 s hs).2.2.1.2 (6 * a + b) (by omega)).2
theorem p_C_route (hS : Shp S) (hC : CInv I A) (hQ : aQl A) (i d n w : Int32) : pw S (q_C_route (some 16) i d n w (I, S)) (fun v I' => I' = I ∧ v = aRou A i d n w) := by
  unfold q_C_route aRou lnk
  refine pw_cv hS.1.1 (p_C_stationAt hS i) (fun a I h => ?_)
  obtain ⟨rfl, rfl⟩ := h
  cases h : sta i with
  | none => exact pw_nn (pw_ret ⟨rfl, rfl⟩)
  | some s =>
    obtain ⟨hs, rfl⟩ := sta_s h
    have hN := hS.2.1 s hs
    refine pw_ns (pw_cl (p_C_isStation d) (fun v I h2 => ?_))
    obtain ⟨rfl, rfl⟩ := h2
    cases h2 : sta d with
    | none => exact pw_t (by simp) (pw_ret ⟨rfl, rfl⟩)
    | some a =>
      obtain ⟨ha, rfl⟩ := sta_s h2
      refine pw_f (by simp) (pw_cl (p_C_isStation n) (fun v I h3 => ?_))
      obtain ⟨rfl, rfl⟩ := h3
      cases h3 : sta n with
      | none =>
        refine pw_t (by simp) (pw_ret ⟨rfl, ?_⟩)
        by_cases q : a = s <;> simp [q]
      | some b =>
        obtain ⟨hb, rfl⟩ := sta_s h3
        refine pw_f (by simp) (pw_if (fun q => pw_ret ⟨rfl, ?_⟩) (fun q => pw_if (fun q2 => pw_ret ⟨rfl, ?_⟩) (fun q2 => ?_)))
        · have : a = s := (nI_eq (by omega) (by omega)).mp q
          simp [this]
        · have e1 : b = s := (nI_eq (by omega) (by omega)).mp q2
          have e2 : ¬ a = s := fun e => q (by rw [e])
          simp [e1, e2]
        · have e1 : ¬ b = s := fun e => q2 (by rw [e])
          have e2 : ¬ a = s := fun e => q (by rw [e])
          simp only [e1, e2, if_false]
          refine pw_sc (fun h0 => ?_) (fun h0 => pw_sc (fun h1 => ?_) (fun h1 => pw_sn (pw_ret ⟨rfl, ?_⟩)))
          · refine pw_gR hN.1 hN.2.2.2.2.2.2.2.2.2.1 (pw_cv hN.2.2.2.2.2.2.2.2.2.2.2.2.2.2.2.2.1 (p_T_qualityOf hS hC hs (nI a) (nI b)) (fun v I h4 => ?_))
            obtain ⟨rfl, rfl⟩ := h4
            refine pw_ret ⟨rfl, ?_⟩
            rw [if_pos h0, sta_nI ha, sta_nI hb]
          · refine pw_gR hN.1 hN.2.2.2.2.2.2.2.2.2.1 (pw_cv hN.2.2.2.2.2.2.2.2.2.2.2.2.2.2.2.2.1 (p_T_ageOf hS hC hQ hs ha hb) (fun v I h4 => ?_))
            obtain ⟨rfl, rfl⟩ := h4
            exact pw_ret ⟨rfl, by rw [if_neg h0, if_pos h1]⟩
          · rw [if_neg h0, if_neg h1]
theorem p_M_route (hS : Shp S) (hR : RInv I A) (i d n w : Int32) : pw S (q_M_route (some 1282) i d n w (I, S)) (fun v I' => I' = I ∧ v = aRou A i d n w) := by
  have hm := hS.2.2.2
  unfold q_M_route aRou
  refine pw_cl (p_M_isStation i) (fun v I h => ?_)
  obtain ⟨rfl, rfl⟩ := h
  cases h : sta i with
  | none =>
    refine pw_t (by simp) (pw_ret ⟨rfl, ?_⟩)
    unfold lnk
    rw [h]
  | some s =>
    refine pw_f (by simp) (pw_cl (p_M_isLink i d) (fun v I h2 => ?_))
    obtain ⟨rfl, rfl⟩ := h2
    cases h2 : lnk i d with
    | none => exact pw_t (by simp) (pw_ret ⟨rfl, rfl⟩)
    | some q =>
      refine pw_f (by simp) (pw_cl (p_M_isLink i n) (fun v I h3 => ?_))
      obtain ⟨rfl, rfl⟩ := h3
      cases h3 : lnk i n with
      | none => exact pw_t (by simp) (pw_ret ⟨rfl, rfl⟩)
      | some p =>
        obtain ⟨s1, a⟩ := q
        obtain ⟨s2, b⟩ := p
        obtain ⟨hs, ha, hne, rfl, rfl⟩ := lnk_s h2
        obtain ⟨hs2, hb, hne2, e2, rfl⟩ := lnk_s h3
        have hse : s1 = s2 := (nI_eq (by omega) (by omega)).mp e2
        subst hse
        refine pw_f (by simp) (pw_cl (p_M_in _ _ _) (fun v I h4 => ?_))
        obtain ⟨rfl, rfl⟩ := h4
        have hidx : (36 : Int32) * nI s1 + (6 : Int32) * nI a + nI b = nI (36 * s1 + (6 * a + b)) := by
          show nI 36 * nI s1 + nI 6 * nI a + nI b = _
          rw [pk_mul, pk_mul, nI_add, nI_add]
          congr 1
          omega
        have hlt : 36 * s1 + (6 * a + b) < 216 := by omega
        by_cases h0 : w = 0
        · subst h0
          refine pw_f (by decide) (pw_lt (pw_t rfl ?_))
          rw [hidx]
          exact pw_ra (sm_quality hm) hm _ rfl hlt (by decide) (pw_ret ⟨rfl, rsc hR 26 (n := 216) rfl hlt⟩)
        · by_cases h1 : w = 1
          · subst h1
            refine pw_f (by decide) (pw_lt (pw_f (by decide) ?_))
            rw [hidx]
            have hq : I 1341 (36 * s1 + (6 * a + b)) = A.1 40 (36 * s1 + (6 * a + b)) := rsc hR 26 (n := 216) rfl hlt
            refine pw_ra (sm_quality hm) hm _ rfl hlt (by decide) (pw_if (fun g => pw_ret ⟨rfl, ?_⟩) (fun g => pw_ra (sm_age hm) hm _ rfl hlt (by decide) (pw_ret ⟨rfl, ?_⟩)))
            · rw [hq] at g
              simp [g]
            · rw [hq] at g
              simp [g]
              exact rsc hR 27 (n := 216) rfl hlt
          · refine pw_t ?_ (pw_ret ⟨rfl, by simp [h0, h1]⟩)
            unfold inV
            by_cases g : w < 0
            · rw [if_pos g]
            · rw [if_neg g, if_pos]
              obtain ⟨m, hm2, rfl⟩ := nI_of g
              have m0 : m ≠ 0 := fun e => h0 (by rw [e]; rfl)
              have m1 : m ≠ 1 := fun e => h1 (by rw [e]; rfl)
              exact nI_lt (a := 1) (by omega) hm2
/-! best -/
def bsr (f : Nat → Int32) : Nat → Nat → Int32 → Int32 → Int32
  | 0, _, b, _ => b
  | k + 1, i, b, m => if m < f i then bsr f k (i + 1) (nI i) (f i) else bsr f k (i + 1) b m
def bst (A : aT) (s d : Nat) : Int32 := bsr (fun n => A.1 40 (36 * s + (6 * d + n))) 6 0 (-1) 9
def aBes (A : aT) (i d : Int32) : Int32 := match lnk i d with
  | some q => bst A q.1 q.2
  | none => -1
theorem p_T_bestTo_8 (hS : Shp S) (hC : CInv I A) {s : Nat} (hs : s < 6) (d : Int32) (f : Nat → Int32) (hf : ∀ n, n < 6 → f n = match sta d with | some a => A.1 40 (36 * s + (6 * a + n)) | none => 0) : ∀ (k n i : Nat) (b m : Int32), i + k = 6 → k < n → pw S (q_T_bestTo_8 n (some (cN s + 55)) d b m (nI i) (I, S)) (fun v I' => I' = I ∧ v = bsr f k i b m)
  | 0, n, i, b, m, hi, hn => by
    obtain ⟨n, rfl⟩ : ∃ z, n = z + 1 := ⟨n - 1, by omega⟩
    have : i = 6 := by omega
    subst this
    show pw S (q_T_bestTo_8_b _ _ _ _ _ _ _) _
    unfold q_T_bestTo_8_b
    exact pw_f (by decide) (pw_ret ⟨rfl, rfl⟩)
  | k + 1, n, i, b, m, hi, hn => by
    obtain ⟨n, rfl⟩ : ∃ z, n = z + 1 := ⟨n - 1, by omega⟩
    have n17 := (hS.2.1 s hs).2.2.2.2.2.2.2.2.2.2.2.2.2.2.2.2.1
    have hfi : (match sta d, sta (nI i) with | some a, some b => A.1 40 (36 * s + (6 * a + b)) | _, _ => 0) = f i := by
      rw [hf i (by omega), sta_nI (by omega)]
      cases sta d <;> rfl
    show pw S (q_T_bestTo_8_b _ _ _ _ _ _ _) _
    unfold q_T_bestTo_8_b q_T_bestTo_37
    refine pw_t (nI_lt (b := 6) (by omega) (by decide)) (pw_cv n17 (p_T_qualityOf hS hC hs d (nI i)) (fun v J h => ?_))
    obtain ⟨hJ, rfl⟩ := h
    rw [hJ, hfi]
    refine pw_if (fun q => pw_cv n17 (p_T_qualityOf hS hC hs d (nI i)) (fun v J h => ?_)) (fun q => ?_)
    · obtain ⟨hJ, rfl⟩ := h
      rw [hJ, hfi, nI_1]
      refine pw_mono (p_T_bestTo_8 hS hC hs d f hf k n (i + 1) (nI i) (f i) (by omega) (by omega)) (fun v J h => ⟨h.1, ?_⟩)
      rw [h.2]
      show _ = if m < f i then _ else _
      rw [if_pos q]
    · rw [nI_1]
      refine pw_mono (p_T_bestTo_8 hS hC hs d f hf k n (i + 1) b m (by omega) (by omega)) (fun v J h => ⟨h.1, ?_⟩)
      rw [h.2]
      show _ = if m < f i then _ else _
      rw [if_neg q]
theorem bsr_0 : ∀ (k i : Nat) (b : Int32), bsr (fun _ => 0) k i b 9 = b
  | 0, _, _ => rfl
  | k + 1, i, b => by
    show (if (9 : Int32) < 0 then _ else _) = b
    rw [if_neg (by decide)]
    exact bsr_0 k (i + 1) b
theorem bsr_same {f g : Nat → Int32} : ∀ (k i : Nat) (b m : Int32), (∀ n, i ≤ n → n < i + k → f n = g n) → bsr f k i b m = bsr g k i b m
  | 0, _, _, _, _ => rfl
  | k + 1, i, b, m, h => by
    show (if m < f i then _ else _) = (if m < g i then _ else _)
    rw [h i (by omega) (by omega), bsr_same k (i + 1) _ _ (fun n a c => h n (by omega) (by omega)), bsr_same k (i + 1) _ _ (fun n a c => h n (by omega) (by omega))]
/-- BEST at station s to d, any d -/
def bstI (A : aT) (s : Nat) (d : Int32) : Int32 := match sta d with
  | some a => bst A s a
  | none => -1
theorem p_T_bestTo (hS : Shp S) (hC : CInv I A) {s : Nat} (hs : s < 6) (d : Int32) : pw S (q_T_bestTo (some (cN s + 55)) d (I, S)) (fun v I' => I' = I ∧ v = bstI A s d) := by
  unfold q_T_bestTo bstI
  cases h : sta d with
  | none =>
    refine pw_mono (p_T_bestTo_8 hS hC hs d (fun _ => 0) (fun n hn => by rw [h]) 6 mFU 0 (-1) 9 (by omega) (by unfold mFU; omega)) (fun v J g => ⟨g.1, ?_⟩)
    rw [g.2]
    exact bsr_0 6 0 (-1)
  | some a =>
    exact p_T_bestTo_8 hS hC hs d (fun n => A.1 40 (36 * s + (6 * a + n))) (fun n hn => by rw [h]) 6 mFU 0 (-1) 9 (by omega) (by unfold mFU; omega)
theorem p_M_bestTo_9 (hS : Shp S) (hR : RInv I A) {s a : Nat} (hs : s < 6) (ha : a < 6) : ∀ (k n i : Nat) (b m : Int32), i + k = 6 → k < n → pw S (q_M_bestTo_9 n (some 1282) (nI s) (nI a) b m (nI i) (I, S)) (fun v I' => I' = I ∧ v = bsr (fun n => A.1 40 (36 * s + (6 * a + n))) k i b m)
  | 0, n, i, b, m, hi, hn => by
    obtain ⟨n, rfl⟩ : ∃ z, n = z + 1 := ⟨n - 1, by omega⟩
    have : i = 6 := by omega
    subst this
    show pw S (q_M_bestTo_9_b _ _ _ _ _ _ _ _) _
    unfold q_M_bestTo_9_b
    exact pw_f (by decide) (pw_ret ⟨rfl, rfl⟩)
  | k + 1, n, i, b, m, hi, hn => by
    obtain ⟨n, rfl⟩ : ∃ z, n = z + 1 := ⟨n - 1, by omega⟩
    have hm := hS.2.2.2
    have hidx : (36 : Int32) * nI s + (6 : Int32) * nI a + nI i = nI (36 * s + (6 * a + i)) := by
      show nI 36 * nI s + nI 6 * nI a + nI i = _
      rw [pk_mul, pk_mul, nI_add, nI_add]
      congr 1
      omega
    show pw S (q_M_bestTo_9_b _ _ _ _ _ _ _ _) _
    unfold q_M_bestTo_9_b q_M_bestTo_52
    have hq : I 1341 (36 * s + (6 * a + i)) = A.1 40 (36 * s + (6 * a + i)) := rsc hR 26 (n := 216) rfl (by omega)
    refine pw_t (nI_lt (b := 6) (by omega) (by decide)) (pw_ra (sm_quality hm) hm (36 * s + (6 * a + i)) hidx (by omega) (by decide) ?_)
    rw [hq, nI_1]
    refine pw_if (fun q => ?_) (fun q => ?_)
    · refine pw_mono (p_M_bestTo_9 hS hR hs ha k n (i + 1) (nI i) _ (by omega) (by omega)) (fun v J h => ⟨h.1, ?_⟩)
      rw [h.2]
      show _ = if m < A.1 40 (36 * s + (6 * a + i)) then _ else _
      rw [if_pos q]
    · refine pw_mono (p_M_bestTo_9 hS hR hs ha k n (i + 1) b m (by omega) (by omega)) (fun v J h => ⟨h.1, ?_⟩)
      rw [h.2]
      show _ = if m < A.1 40 (36 * s + (6 * a + i)) then _ else _
      rw [if_neg q]
theorem p_M_bestTo (hS : Shp S) (hR : RInv I A) {s a : Nat} (hs : s < 6) (ha : a < 6) : pw S (q_M_bestTo (some 1282) (nI s) (nI a) (I, S)) (fun v I' => I' = I ∧ v = bst A s a) := by
  unfold q_M_bestTo bst
  exact p_M_bestTo_9 hS hR hs ha 6 mFU 0 (-1) 9 (by omega) (by unfold mFU; omega)
/-- no station has a ROUTE to itself -/
def aRs (A : aT) : Prop := ∀ s, s < 6 → ∀ n, n < 6 → A.1 40 (36 * s + (6 * s + n)) = 0
theorem p_C_best (hS : Shp S) (hC : CInv I A) (hA : aRs A) (i d : Int32) : pw S (q_C_best (some 16) i d (I, S)) (fun v I' => I' = I ∧ v = aBes A i d) := by
  unfold q_C_best aBes lnk
  refine pw_cv hS.1.1 (p_C_stationAt hS i) (fun a I h => ?_)
  obtain ⟨rfl, rfl⟩ := h
  cases h : sta i with
  | none => exact pw_nn (pw_ret ⟨rfl, rfl⟩)
  | some s =>
    obtain ⟨hs, rfl⟩ := sta_s h
    have hN := hS.2.1 s hs
    refine pw_ns (pw_gR hN.1 hN.2.2.2.2.2.2.2.2.2.1 (pw_cv hN.2.2.2.2.2.2.2.2.2.2.2.2.2.2.2.2.1 (p_T_bestTo hS hC hs d) (fun v I h2 => ?_)))
    obtain ⟨rfl, rfl⟩ := h2
    refine pw_ret ⟨rfl, ?_⟩
    unfold bstI
    cases h3 : sta d with
    | none => rfl
    | some a =>
      dsimp only
      by_cases q : a = s
      · subst q
        rw [if_pos rfl]
        unfold bst
        rw [bsr_same (g := fun _ => 0) 6 0 (-1) 9 (fun n _ hn => hA a hs n (by omega))]
        exact bsr_0 6 0 (-1)
      · rw [if_neg q]
theorem p_M_best (hS : Shp S) (hR : RInv I A) (i d : Int32) : pw S (q_M_best (some 1282) i d (I, S)) (fun v I' => I' = I ∧ v = aBes A i d) := by
  unfold q_M_best aBes
  refine pw_cl (p_M_isLink i d) (fun v I h => ?_)
  obtain ⟨rfl, rfl⟩ := h
  cases h : lnk i d with
  | none => exact pw_t (by simp) (pw_ret ⟨rfl, rfl⟩)
  | some q =>
    obtain ⟨s, a⟩ := q
    obtain ⟨hs, ha, hne, rfl, rfl⟩ := lnk_s h
    refine pw_f (by simp) (pw_cv hS.2.2.2.1 (p_M_bestTo hS hR hs ha) (fun v I h2 => ?_))
    obtain ⟨rfl, rfl⟩ := h2
    exact pw_ret ⟨rfl, rfl⟩
end P7
