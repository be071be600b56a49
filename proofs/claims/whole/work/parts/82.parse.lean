/-! what a FRAME says, all of it: the class -/
def bMk : Bool := (List.range 128).all (fun m => (List.range 7).all (fun a => decide ((nI m ||| ((1 : Int32) <<< (nI a &&& 31))) = nI (m ||| 2 ^ a) ∧ m ||| 2 ^ a < 128) && (List.range 7).all (fun w => decide (((nI (m ||| 2 ^ a) >>> (nI w &&& 31)) &&& 1 = 0) ↔ (a ≠ w ∧ (nI m >>> (nI w &&& 31)) &&& 1 = 0)))))
theorem bMk_ok : bMk = true := by decide +kernel
theorem bMk_in {m a : Nat} (hm : m < 128) (ha : a < 7) : ((nI m ||| ((1 : Int32) <<< (nI a &&& 31))) = nI (m ||| 2 ^ a) ∧ m ||| 2 ^ a < 128) ∧ ∀ w, w < 7 → (((nI (m ||| 2 ^ a) >>> (nI w &&& 31)) &&& 1 = 0) ↔ (a ≠ w ∧ (nI m >>> (nI w &&& 31)) &&& 1 = 0)) := by
  have h := List.all_eq_true.mp (List.all_eq_true.mp bMk_ok m (List.mem_range.mpr hm)) a (List.mem_range.mpr ha)
  rw [Bool.and_eq_true] at h
  exact ⟨of_decide_eq_true h.1, fun w hw => of_decide_eq_true (List.all_eq_true.mp h.2 w (List.mem_range.mpr hw))⟩
theorem n_gt0 {n : Nat} (h0 : 0 < n) (h : n < 2 ^ 31) : (0 : Int32) < nI n := by
  have := nI_lt h0 h
  rw [nI_0] at this
  exact this
/-- who is met among the first ADDRESSES -/
def mkA (l : List Int32) : Nat → Int32
  | 0 => 0
  | k + 1 => mkA l k ||| ((1 : Int32) <<< (adN l (7 * k) &&& 31))
/-- where the first VIA begins that is not REPEATED -/
def nvA (l : List Int32) : Nat → Int32
  | 0 => -1
  | k + 1 => if nvA l k = -1 ∧ 2 ≤ k ∧ pA l (7 * k + 6) < 128 then nI (7 * k) else nvA l k
theorem mk0 : ∀ w, w < 7 → (nI 0 >>> (nI w &&& 31)) &&& 1 = 0 := by decide
theorem mk_in {l : List Int32} : ∀ {k : Nat}, (∀ j, j < k → ∃ w : Nat, w < 7 ∧ adN l (7 * j) = nI w) → ∃ m : Nat, m < 128 ∧ mkA l k = nI m ∧ ∀ w, w < 7 → ((nI m >>> (nI w &&& 31)) &&& 1 = 0 ↔ ∀ j, j < k → adN l (7 * j) ≠ nI w)
  | 0, h => ⟨0, by decide, rfl, fun w hw => ⟨fun _ j hj => by omega, fun _ => mk0 w hw⟩⟩
  | k + 1, h => by
    obtain ⟨m, h1, h2, h3⟩ := mk_in (l := l) (k := k) (fun j hj => h j (by omega))
    obtain ⟨a, ha, ea⟩ := h k (by omega)
    obtain ⟨⟨b1, b2⟩, b3⟩ := bMk_in h1 ha
    refine ⟨m ||| 2 ^ a, b2, ?_, fun w hw => ?_⟩
    · show mkA l k ||| ((1 : Int32) <<< (adN l (7 * k) &&& 31)) = _
      rw [h2, ea, b1]
    · rw [b3 w hw, h3 w hw]
      constructor
      · intro ⟨q1, q2⟩ j hj
        by_cases e : j = k
        · subst e
          rw [ea]
          intro e2
          exact q1 ((nI_eq (by omega) (by omega)).mp e2)
        · exact q2 j (by omega)
      · intro q
        refine ⟨fun e => ?_, fun j hj => q j (by omega)⟩
        subst e
        exact q k (by omega) ea
theorem adN_7 {l : List Int32} {a : Nat} (hb : aBy l) (ha : a + 7 ≤ l.length) (h : adN l a ≠ -1) : ∃ w : Nat, w < 7 ∧ adN l a = nI w := by
  rcases adN_in hb ha with q | q | ⟨k, hk, q⟩
  · exact absurd q h
  · exact ⟨6, by decide, q⟩
  · exact ⟨k, by omega, q⟩
abbrev gdA (l : List Int32) (n : Nat) : Prop := 2 ≤ n ∧ n ≤ 4 ∧ 7 * n ≤ l.length ∧ (∀ k, k < n → adN l (7 * k) ≠ -1 ∧ (k ≠ 0 → adN l (7 * k) ≠ 6)) ∧ (∀ k, k < n - 1 → pA l (7 * k + 6) &&& 1 = 0) ∧ pA l (7 * (n - 1) + 6) &&& 1 ≠ 0
abbrev unA (l : List Int32) (n : Nat) : Prop := ∀ k, k < n → ∀ j, j < k → adN l (7 * j) ≠ adN l (7 * k)
def gdP (l : List Int32) (k : Nat) : Prop := 7 * k ≤ l.length ∧ (∀ j, j < k → adN l (7 * j) ≠ -1 ∧ (j ≠ 0 → adN l (7 * j) ≠ 6)) ∧ (∀ j, j < k → pA l (7 * j + 6) &&& 1 = 0) ∧ unA l k
theorem gd_no {l : List Int32} {k : Nat} (h : gdP l k) (hx : ∀ n, k < n → gdA l n → unA l n → False) (n : Nat) : ¬ (gdA l n ∧ unA l n) := by
  intro ⟨g, u⟩
  by_cases hn : n ≤ k
  · exact g.2.2.2.2.2 (h.2.2.1 (n - 1) (by have := g.1; omega))
  · exact hx n (by omega) g u
def rdQ (I : mIm) (l : List Int32) : Int32 → mIm → Prop := fun v J => (∀ r, r ≠ 1280 → J r = I r) ∧ ((v = 0 ∧ ∀ n, ¬ (gdA l n ∧ unA l n)) ∨ (v = 1 ∧ ∃ n, gdA l n ∧ unA l n ∧ J 1280 2 = nI n ∧ J 1280 3 = nvA l n))
section UA
variable {S : mS} {I J I0 : mIm} {A : aT} {s : Nat} {l : List Int32} {b cap : Nat}
theorem c_at (hB : isB S b cap) (hL : isL I b l) (hc : l.length ≤ cap) {n : Nat} (hn : n < 2 ^ 31) : pw S (q_B_at (some b) (nI n) (I, S)) (fun v J => v = pA l n ∧ J = I) := by
  refine pw_mono (p_B_at hB hL hc (nI n)) (fun v J h => ⟨?_, h.2⟩)
  rw [h.1, lAt_nI hn]
  rfl
theorem rd97 (f3 : S.2.1 1280 = 11) (hB : isB S b cap) (hL : isL J b l) (hc : l.length ≤ cap) (hbn : b + 1 < 1280) {k : Nat} (hk : k < 4) (h2 : J 1280 2 = nI k) (h3 : J 1280 3 = nvA l k) {r17 : Option Nat → Option Nat → Int32 → Int32 → Int32 → mM → Option (Int32 × mM)} {i2 j0 : Int32} {Q : Int32 → mIm → Prop} (fin : ∀ K, (∀ r, r ≠ 1280 → K r = J r) → K 1280 2 = nI (k + 1) → K 1280 3 = nvA l (k + 1) → pw S (r17 (some 1280) (some b) i2 j0 (nI (k + 1)) (K, S)) Q) : pw S (q_F_readAddresses_97 r17 (some 1280) (some b) i2 (nI k) j0 (J, S)) Q := by
  unfold q_F_readAddresses_97 q_F_readAddresses_149
  refine pw_gI f3 (pw_pI f3 ?_)
  rw [h2, show nI k + (1 : Int32) = nI (k + 1) from nI_1 k]
  have hL2 : isL (iput J 1280 2 (nI (k + 1))) b l := isL_same hL (iput_n _ _ _ (by omega)) (iput_n _ _ _ (by omega))
  have base : nvA l (k + 1) = nvA l k → pw S (r17 (some 1280) (some b) i2 j0 (nI (k + 1)) (iput J 1280 2 (nI (k + 1)), S)) Q := fun e => fin _ (fun r hr => iput_n _ _ _ hr) (iput_s _ _ _ _) (by rw [iput_j _ _ _ (by decide), h3, e])
  by_cases k2 : k < 2
  · refine pw_t (nI_lt (b := 2) k2 (by decide)) (base ?_)
    show (if _ then _ else _) = _
    rw [if_neg (fun q => by omega)]
  · refine pw_f (nI_nlt (b := 2) (by omega) (by omega)) (pw_gI f3 ?_)
    rw [iput_j _ _ _ (by decide), h3]
    by_cases e1 : nvA l k = -1
    · refine pw_t e1 ?_
      rw [show (7 : Int32) * nI k = nI (7 * k) from pk_mul 7 k, show nI (7 * k) + (6 : Int32) = nI (7 * k + 6) from nI_add _ 6]
      refine pw_cv hB.1 (c_at hB hL2 hc (by omega)) (fun v K h => ?_)
      obtain ⟨rfl, rfl⟩ := h
      by_cases e2 : pA l (7 * k + 6) < 128
      · refine pw_t e2 (pw_pI f3 (fin _ (fun r hr => ?_) ?_ ?_))
        · rw [iput_n _ _ _ hr, iput_n _ _ _ hr]
        · rw [iput_j _ _ _ (by decide), iput_s]
        · rw [iput_s]
          show _ = (if _ then _ else _)
          rw [if_pos ⟨e1, by omega, e2⟩]
      · refine pw_f e2 (base ?_)
        show (if _ then _ else _) = _
        rw [if_neg (fun q => e2 q.2.2)]
    · refine pw_f e1 (base ?_)
      show (if _ then _ else _) = _
      rw [if_neg (fun q => e1 q.1)]
theorem rd17 (f3 : S.2.1 1280 = 11) (hB : isB S b cap) (hc : l.length ≤ cap) (hb : aBy l) (hbn : b + 1 < 1280) (hL0 : isL I b l) : ∀ (f n k : Nat) (J : mIm), k + f = 4 → f < n → (∀ r, r ≠ 1280 → J r = I r) → J 1280 2 = nI k → J 1280 3 = nvA l k → gdP l k → pw S (q_F_readAddresses_17 n (some 1280) (some b) (mkA l k) 0 (nI k) (J, S)) (rdQ I l)
  | f, 0, k, J, _, h, _, _, _, _ => by omega
  | 0, n + 1, k, J, hk, hn, hJ, h2, h3, hP => by
    have : k = 4 := by omega
    subst this
    show pw S (q_F_readAddresses_17_b _ _ _ _ _ _ _) _
    unfold q_F_readAddresses_17_b q_F_readAddresses_155
    exact pw_f (nI_nlt (a := 4) (b := 4) (by omega) (by decide)) (pw_t rfl (pw_rz (Or.inl rfl) ⟨hJ, Or.inl ⟨rfl, gd_no hP (fun n h g u => by have := g.2.1; omega)⟩⟩))
  | f + 1, n + 1, k, J, hk, hn, hJ, h2, h3, hP => by
    have hL : isL J b l := isL_same hL0 (hJ _ (by omega)) (hJ _ (by omega))
    show pw S (q_F_readAddresses_17_b _ _ _ _ _ _ _) _
    unfold q_F_readAddresses_17_b
    refine pw_t (nI_lt (b := 4) (by omega) (by decide)) (pw_t rfl ?_)
    rw [show (7 : Int32) * nI k = nI (7 * k) from pk_mul 7 k]
    refine pw_cv f3 (c_addressAt hB hL hc hb (by omega) _) (fun v K h => ?_)
    obtain ⟨rfl, rfl⟩ := h
    have bad : (7 * k + 7 ≤ l.length → adN l (7 * k) = -1 ∨ (k ≠ 0 ∧ adN l (7 * k) = 6) ∨ ∃ j, j < k ∧ adN l (7 * j) = adN l (7 * k)) → pw S (x_rz (0 : Int32) (K, S)) (rdQ I l) := by
      intro hx
      refine pw_rz (Or.inl rfl) ⟨hJ, Or.inl ⟨rfl, gd_no hP (fun n h g u => ?_)⟩⟩
      have h7 := g.2.2.1
      rcases hx (by omega) with q | ⟨q1, q2⟩ | ⟨j, q1, q2⟩
      · exact (g.2.2.2.1 k h).1 q
      · exact (g.2.2.2.1 k h).2 q1 q2
      · exact u k h j q1 q2
    by_cases hl : 7 * k + 7 ≤ l.length
    · rw [if_pos hl]
      by_cases e1 : adN l (7 * k) = -1
      · exact pw_t e1 (bad (fun _ => Or.inl e1))
      · refine pw_f e1 ?_
        obtain ⟨w, hw, ew⟩ := adN_7 hb hl e1
        obtain ⟨m, hm, em, hmw⟩ := mk_in (l := l) (k := k) (fun j hj => adN_7 hb (by have := hP.1; omega) (hP.2.1 j hj).1)
        have go : (k ≠ 0 → adN l (7 * k) ≠ 6) → pw S (q_F_readAddresses_57 (q_F_readAddresses_17 n) (some 1280) (some b) (mkA l k) (nI k) (adN l (7 * k)) (K, S)) (rdQ I l) := by
          intro h6
          unfold q_F_readAddresses_57
          rw [em, ew]
          by_cases e2 : (nI m >>> (nI w &&& 31)) &&& 1 = 0
          · have hun := (hmw w hw).mp e2
            refine pw_t e2 (pw_lt ?_)
            have hP4 : unA l (k + 1) := by
              intro i hi j hj
              by_cases e : i = k
              · subst e
                rw [ew]
                exact hun j hj
              · exact hP.2.2.2 i (by omega) j hj
            have hP2 : ∀ j, j < k + 1 → adN l (7 * j) ≠ -1 ∧ (j ≠ 0 → adN l (7 * j) ≠ 6) := by
              intro j hj
              by_cases e : j = k
              · subst e; exact ⟨e1, h6⟩
              · exact hP.2.1 j (by omega)
            rw [show (7 : Int32) * nI k = nI (7 * k) from pk_mul 7 k, show nI (7 * k) + (6 : Int32) = nI (7 * k + 6) from nI_add _ 6]
            refine pw_cv hB.1 (c_at hB hL hc (by omega)) (fun v K2 h => ?_)
            obtain ⟨rfl, rfl⟩ := h
            have emk : (nI m ||| ((1 : Int32) <<< (nI w &&& 31))) = mkA l (k + 1) := by
              show _ = mkA l k ||| ((1 : Int32) <<< (adN l (7 * k) &&& 31))
              rw [em, ew]
            rw [emk]
            by_cases e3 : pA l (7 * k + 6) &&& 1 = 0
            · refine pw_t e3 (rd97 f3 hB hL hc hbn (by omega) h2 h3 (fun K3 g1 g2 g3 => ?_))
              refine rd17 f3 hB hc hb hbn hL0 f n (k + 1) K3 (by omega) (by omega) (fun r hr => by rw [g1 r hr]; exact hJ r hr) g2 g3 ⟨by omega, hP2, ?_, hP4⟩
              intro j hj
              by_cases e : j = k
              · subst e; exact e3
              · exact hP.2.2.1 j (by omega)
            · refine pw_f e3 (rd97 f3 hB hL hc hbn (by omega) h2 h3 (fun K3 g1 g2 g3 => ?_))
              obtain ⟨n, rfl⟩ : ∃ q, n = q + 1 := ⟨n - 1, by omega⟩
              have hK3 : ∀ r, r ≠ 1280 → K3 r = I r := fun r hr => by rw [g1 r hr]; exact hJ r hr
              show pw S (q_F_readAddresses_17_b _ _ _ _ _ _ _) _
              unfold q_F_readAddresses_17_b
              have fin : pw S (q_F_readAddresses_155 (some 1280) 1 (K3, S)) (rdQ I l) := by
                unfold q_F_readAddresses_155
                refine pw_f (by decide) (pw_gI f3 ?_)
                rw [g2]
                by_cases k0 : k = 0
                · subst k0
                  refine pw_t (by decide) (pw_rz (Or.inl rfl) ⟨hK3, Or.inl ⟨rfl, fun n q => ?_⟩⟩)
                  exact e3 (q.1.2.2.2.2.1 0 (by have := q.1.1; omega))
                · refine pw_f (nI_nlt (b := 2) (by omega) (by omega)) (pw_rz (Or.inr rfl) ⟨hK3, Or.inr ⟨rfl, k + 1, ⟨by omega, by omega, by omega, hP2, fun j hj => hP.2.2.1 j (by omega), e3⟩, hP4, g2, g3⟩⟩)
              by_cases k3 : k + 1 < 4
              · exact pw_t (nI_lt (b := 4) k3 (by decide)) (pw_f (by decide) fin)
              · exact pw_f (nI_nlt (b := 4) (by omega) (by omega)) fin
          · refine pw_f e2 (bad (fun _ => Or.inr (Or.inr ?_)))
            have : ¬ ∀ j, j < k → adN l (7 * j) ≠ nI w := fun q => e2 ((hmw w hw).mpr q)
            obtain ⟨j, hj⟩ := Classical.not_forall.mp this
            rw [ew]
            by_cases hjk : j < k
            · exact ⟨j, hjk, Classical.byContradiction (fun q => hj (fun _ => q))⟩
            · exact absurd (fun q => absurd q hjk) hj
        by_cases e6 : adN l (7 * k) = 6
        · refine pw_t e6 ?_
          by_cases k0 : k = 0
          · subst k0
            exact pw_f (by decide) (go (fun q => absurd rfl q))
          · exact pw_t (n_gt0 (by omega) (by omega)) (bad (fun _ => Or.inr (Or.inl ⟨k0, e6⟩)))
        · exact pw_f e6 (go (fun _ => e6))
    · rw [if_neg hl]
      exact pw_t rfl (bad (fun q => absurd q hl))
theorem c_readAddresses (hS : Shp S) (hB : isB S b cap) (hc : l.length ≤ cap) (hb : aBy l) (hbn : b + 1 < 1280) (hL0 : isL I b l) : pw S (q_F_readAddresses (some 1280) (some b) (I, S)) (rdQ I l) := by
  obtain ⟨f1, f2, f3, f4, f5⟩ := cF_k hS
  unfold q_F_readAddresses
  refine pw_pI f3 (pw_pI f3 ?_)
  refine rd17 f3 hB hc hb hbn hL0 4 mFU 0 _ (by omega) (by unfold mFU; omega) (fun r hr => ?_) ?_ ?_ ⟨by omega, fun j hj => by omega, fun j hj => by omega, fun j hj => by omega⟩
  · rw [iput_n _ _ _ hr, iput_n _ _ _ hr]
  · rw [iput_j _ _ _ (by decide), iput_s]
    rfl
  · rw [iput_s]
    rfl
end UA
