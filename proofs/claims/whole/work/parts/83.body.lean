/-! what a FRAME says behind its ADDRESSES: the class -/
def cmA (l : List Int32) : Int32 := if pA l 6 < 128 then 0 else 1
def v0A (l : List Int32) (n : Nat) : Int32 := if 2 < n then adN l (7 * n - 7) else -1
def v1A (l : List Int32) (n : Nat) : Int32 := if 3 < n then adN l 14 else -1
abbrev isU (k : Int32) : Prop := k = 47 ∨ k = 67 ∨ k = 15 ∨ k = 99
def kdA (c : Int32) : Int32 := if c &&& 1 = 0 then 0 else if isU (c - (c &&& 16)) then c - (c &&& 16) else c &&& 15
def rsA (l : List Int32) : Int32 := if pA l 13 < 128 then 0 else 1
abbrev diA (l : List Int32) : Prop := ¬ (cmA l = rsA l)
abbrev noB (l : List Int32) (n : Nat) : Prop := cmA l = 1 ∧ n = 2 ∧ (pA l 14 = 3 ∧ pA l 15 = 207 ∧ pA l 16 = 255) ∧ (l.length - 17) % 3 = 0 ∧ l.length ≤ 32 ∧ ∀ m, m < 5 → 17 + 3 * m < l.length → (sta (pA l (17 + 3 * m))).isSome = true ∧ (sta (pA l (17 + 3 * m + 1))).isSome = true
abbrev inB (l : List Int32) (x : Nat) : Prop := cmA l = 1 ∧ (pA l (x + 2) = 240 ∨ pA l (x + 2) = 207) ∧ x + 4 ≤ l.length ∧ l.length ≤ x + 19
abbrev otB (l : List Int32) (x : Nat) : Prop := l.length = x + 2 ∧ (((pA l x - (pA l x &&& 16) = 47 ∨ pA l x - (pA l x &&& 16) = 67) ∧ cmA l = 1) ∨ ((pA l x - (pA l x &&& 16) = 15 ∨ pA l x - (pA l x &&& 16) = 99) ∧ cmA l = 0) ∨ (¬ isU (pA l x - (pA l x &&& 16)) ∧ (pA l x &&& 15 = 1 ∨ pA l x &&& 15 = 5 ∨ pA l x &&& 15 = 9)))
abbrev okB (l : List Int32) (n : Nat) : Prop := (adN l 0 = 6 → noB l n) ∧ (adN l 0 ≠ 6 → pA l (7 * n) &&& 1 = 0 → inB l (7 * n)) ∧ (adN l 0 ≠ 6 → pA l (7 * n) &&& 1 ≠ 0 → otB l (7 * n))
abbrev okF (l : List Int32) (n : Nat) : Prop := gdA l n ∧ unA l n ∧ diA l ∧ 7 * n < l.length ∧ okB l n
def cDr (J : mIm) (l : List Int32) (n : Nat) : Prop := J 1280 0 = adN l 0 ∧ J 1280 1 = adN l 7 ∧ J 1280 2 = nI n ∧ J 1280 3 = nvA l n ∧ J 1280 4 = cmA l ∧ J 1281 0 = adN l 7 ∧ J 1281 1 = v0A l n ∧ J 1281 2 = v1A l n
def cBd (J : mIm) (l : List Int32) (n : Nat) : Prop := (adN l 0 = 6 → J 1280 5 = 3 ∧ J 1280 10 = nI (7 * n + 3)) ∧ (adN l 0 ≠ 6 → J 1281 3 = pA l (7 * n + 1) ∧ J 1280 5 = kdA (pA l (7 * n)) ∧ J 1280 6 = pA l (7 * n) &&& 16 ∧ (¬ isU (kdA (pA l (7 * n))) → J 1280 7 = pA l (7 * n) >>> ((5 : Int32) &&& 31)) ∧ (kdA (pA l (7 * n)) = 0 → J 1280 8 = (pA l (7 * n) >>> ((1 : Int32) &&& 31)) &&& 7 ∧ J 1280 9 = pA l (7 * n + 2) ∧ J 1280 10 = nI (7 * n + 3)))
def frD (I J : mIm) : Prop := ∀ r, r ≠ 1280 → r ≠ 1281 → J r = I r
def drQ (I : mIm) (l : List Int32) (n : Nat) : Int32 → mIm → Prop := fun v J => frD I J ∧ cDr J l n ∧ v = if diA l then 1 else 0
theorem ip_if (I : mIm) (r j a i : Nat) (v : Int32) : iput I r j v a i = if a = r ∧ i = j then v else I a i := by
  by_cases h : a = r
  · subst h
    by_cases h2 : i = j
    · subst h2; rw [iput_s, if_pos ⟨rfl, rfl⟩]
    · rw [iput_j _ _ _ h2, if_neg (fun q => h2 q.2)]
  · rw [iput_n _ _ _ h, if_neg (fun q => h q.1)]
theorem frD_p {I J : mIm} {r j : Nat} {v : Int32} (h : frD I J) (hr : r = 1280 ∨ r = 1281) : frD I (iput J r j v) := fun x h1 h2 => by rw [iput_n _ _ _ (by omega)]; exact h x h1 h2
theorem frD_0 {I : mIm} : frD I I := fun _ _ _ => rfl
theorem pw_gE {S : mS} {β : Type} {Q : β → mIm → Prop} {I : mIm} {c r j : Nat} {v : Int32} {k : Int32 → Option (β × mM)} (hk : S.2.1 r = c + 10) (e : I r j = v) (h : pw S (k v) Q) : pw S (x_gI (I, S) c (some r) j k) Q := pw_gI hk (by rw [e]; exact h)
section UB
variable {S : mS} {I J I0 : mIm} {A : aT} {s : Nat} {l : List Int32} {b cap n : Nat}
theorem frD_L {K : mIm} (h : frD I K) (hL : isL I b l) (hbn : b + 1 < 1280) : isL K b l := isL_same hL (h _ (by omega) (by omega)) (h _ (by omega) (by omega))
theorem c_readDirection (hS : Shp S) (hB : isB S b cap) (hc : l.length ≤ cap) (hb : aBy l) (hbn : b + 1 < 1280) (hL : isL I b l) (g : gdA l n) (h2 : I 1280 2 = nI n) (h3 : I 1280 3 = nvA l n) : pw S (q_F_readDirection (some 1280) (some b) (I, S)) (drQ I l n) := by
  obtain ⟨f1, f2, f3, f4, f5⟩ := cF_k hS
  have g1 := g.1
  have g2 := g.2.1
  have g7 := g.2.2.1
  have hcm : cmA l = 0 ∨ cmA l = 1 := by unfold cmA; split; exact Or.inl rfl; exact Or.inr rfl
  have e130 : ∀ (K : mIm), frD I K → cDr K l n → pw S (q_F_readDirection_130 (some 1280) (rsA l) (K, S)) (drQ I l n) := by
    intro K k1 k2
    unfold q_F_readDirection_130
    refine pw_gE f3 k2.2.2.2.2.1 ?_
    by_cases e : cmA l = rsA l
    · exact pw_t e (pw_rz (Or.inl rfl) ⟨k1, k2, by rw [if_neg (fun q => q e)]⟩)
    · exact pw_f e (pw_rz (Or.inr rfl) ⟨k1, k2, by rw [if_pos e]⟩)
  have e110 : ∀ (K : mIm), frD I K → cDr (iput K 1281 2 (v1A l n)) l n → pw S (q_F_readDirection_110 (some 1280) (some b) (v1A l n) (some 1281) (K, S)) (drQ I l n) := by
    intro K k1 k2
    unfold q_F_readDirection_110
    refine pw_pI f5 ?_
    have k3 : frD I (iput K 1281 2 (v1A l n)) := frD_p k1 (Or.inr rfl)
    refine pw_cv hB.1 (c_at hB (frD_L k3 hL hbn) hc (n := 13) (by omega)) (fun v K2 h => ?_)
    obtain ⟨rfl, rfl⟩ := h
    have := e130 _ k3 k2
    by_cases e : pA l 13 < 128
    · rw [show rsA l = 0 from by unfold rsA; rw [if_pos e]] at this
      exact pw_t e this
    · rw [show rsA l = 1 from by unfold rsA; rw [if_neg e]] at this
      exact pw_f e this
  have e84 : ∀ (K : mIm), frD I K → K 1280 2 = nI n → cDr (iput (iput K 1281 1 (v0A l n)) 1281 2 (v1A l n)) l n → pw S (q_F_readDirection_84 (some 1280) (some b) (v0A l n) (some 1281) (K, S)) (drQ I l n) := by
    intro K k1 k0 k2
    unfold q_F_readDirection_84
    have k3 : frD I (iput K 1281 1 (v0A l n)) := frD_p k1 (Or.inr rfl)
    refine pw_pI f5 (pw_gR f3 f4 (pw_gE f3 (v := nI n) (by rw [iput_n _ _ _ (by decide)]; exact k0) ?_))
    have := e110 _ k3 k2
    by_cases e : 3 < n
    · refine pw_t (nI_lt (a := 3) e (by omega)) (pw_cv f3 (c_addressAt hB (frD_L k3 hL hbn) hc hb (a := 14) (by omega) _) (fun v K2 h => ?_))
      obtain ⟨rfl, rfl⟩ := h
      rw [if_pos (show 14 + 7 ≤ l.length by omega)]
      have ev : v1A l n = adN l 14 := by unfold v1A; rw [if_pos e]
      rw [← ev]
      exact this
    · have ev : v1A l n = -1 := by unfold v1A; rw [if_neg e]
      refine pw_f (nI_nlt (b := n) (a := 3) (by omega) (by omega)) ?_
      rw [← ev]
      exact this
  have e39 : pw S (q_F_readDirection_39 (some 1280) (some b) (cmA l) (some 1280) (iput (iput I 1280 0 (adN l 0)) 1280 1 (adN l 7), S)) (drQ I l n) := by
    unfold q_F_readDirection_39
    refine pw_pZ f3 hcm (pw_gR f3 f4 (pw_gE f3 (v := adN l 7) (by simp [ip_if]) (pw_pI f5 (pw_gR f3 f4 (pw_gE f3 (v := nI n) (by simp [ip_if, h2]) ?_)))))
    have k1 : frD I (iput (iput (iput (iput I 1280 0 (adN l 0)) 1280 1 (adN l 7)) 1280 4 (cmA l)) 1281 0 (adN l 7)) := frD_p (frD_p (frD_p (frD_p frD_0 (Or.inl rfl)) (Or.inl rfl)) (Or.inl rfl)) (Or.inr rfl)
    have := e84 _ k1 (by simp [ip_if, h2]) (by refine ⟨?_, ?_, ?_, ?_, ?_, ?_, ?_, ?_⟩ <;> simp [ip_if, h2, h3])
    by_cases e : 2 < n
    · refine pw_t (nI_lt (a := 2) e (by omega)) (pw_gE f3 (v := nI n) (by simp [ip_if, h2]) ?_)
      rw [show ((7 : Int32) * nI n) - 7 = nI (7 * n - 7) from by rw [show (7 : Int32) * nI n = nI (7 * n) from pk_mul 7 n]; exact pk_sub (b := 7) (by omega)]
      refine pw_cv f3 (c_addressAt hB (frD_L k1 hL hbn) hc hb (a := 7 * n - 7) (by omega) _) (fun v K2 h => ?_)
      obtain ⟨rfl, rfl⟩ := h
      rw [if_pos (show 7 * n - 7 + 7 ≤ l.length by omega)]
      have ev : v0A l n = adN l (7 * n - 7) := by unfold v0A; rw [if_pos e]
      rw [← ev]
      exact this
    · have ev : v0A l n = -1 := by unfold v0A; rw [if_neg e]
      refine pw_f (nI_nlt (b := n) (a := 2) (by omega) (by omega)) ?_
      rw [← ev]
      exact this
  unfold q_F_readDirection
  refine pw_cv f3 (c_addressAt hB hL hc hb (a := 0) (by omega) _) (fun v K2 h => ?_)
  obtain ⟨rfl, rfl⟩ := h
  rw [if_pos (show 0 + 7 ≤ l.length by omega)]
  have k1 : frD K2 (iput K2 1280 0 (adN l 0)) := frD_p frD_0 (Or.inl rfl)
  refine pw_pI f3 (pw_cv f3 (c_addressAt hB (frD_L k1 hL hbn) hc hb (a := 7) (by omega) _) (fun v K3 h => ?_))
  obtain ⟨rfl, rfl⟩ := h
  rw [if_pos (show 7 + 7 ≤ l.length by omega)]
  have k2 : frD K2 (iput (iput K2 1280 0 (adN l 0)) 1280 1 (adN l 7)) := frD_p k1 (Or.inl rfl)
  refine pw_pI f3 (pw_cv hB.1 (c_at hB (frD_L k2 hL hbn) hc (n := 6) (by omega)) (fun v K2 h => ?_))
  obtain ⟨rfl, rfl⟩ := h
  by_cases e : pA l 6 < 128
  · refine pw_t e ?_
    have : cmA l = 0 := by unfold cmA; rw [if_pos e]
    rw [← this]
    exact e39
  · refine pw_f e ?_
    have : cmA l = 1 := by unfold cmA; rw [if_neg e]
    rw [← this]
    exact e39
theorem cDr_p {j : Nat} {v : Int32} (h : cDr J l n) (hj : 5 ≤ j) : cDr (iput J 1280 j v) l n := by
  obtain ⟨d1, d2, d3, d4, d5, d6, d7, d8⟩ := h
  refine ⟨?_, ?_, ?_, ?_, ?_, ?_, ?_, ?_⟩
  all_goals first | (rw [iput_j _ _ _ (by omega)]; assumption) | (rw [iput_n _ _ _ (by omega)]; assumption)
theorem cDr_m {v : Int32} (h : cDr J l n) : cDr (iput J 1281 3 v) l n := by
  obtain ⟨d1, d2, d3, d4, d5, d6, d7, d8⟩ := h
  refine ⟨?_, ?_, ?_, ?_, ?_, ?_, ?_, ?_⟩
  all_goals first | (rw [iput_j _ _ _ (by omega)]; assumption) | (rw [iput_n _ _ _ (by omega)]; assumption)
theorem rn111 (hB : isB S b cap) (hc : l.length ≤ cap) (hL : isL J b l) (h3 : (l.length - 17) % 3 = 0) (h17 : 17 ≤ l.length) (h32 : l.length ≤ 32) : ∀ (f k m : Nat), m + f = 5 → f < k → pw S (q_F_readNodes_111 k (some b) (nI (17 + 3 * m)) (J, S)) (fun v K => K = J ∧ ((v = 0 ∧ ¬ ∀ i, m ≤ i → i < 5 → 17 + 3 * i < l.length → (sta (pA l (17 + 3 * i))).isSome = true ∧ (sta (pA l (17 + 3 * i + 1))).isSome = true) ∨ (v = 1 ∧ ∀ i, m ≤ i → i < 5 → 17 + 3 * i < l.length → (sta (pA l (17 + 3 * i))).isSome = true ∧ (sta (pA l (17 + 3 * i + 1))).isSome = true)))
  | f, 0, m, _, h => by omega
  | f, k + 1, m, hm, hk => by
    show pw S (q_F_readNodes_111_b _ _ _ _) _
    unfold q_F_readNodes_111_b
    refine gB hB hL ?_
    by_cases hlt : 17 + 3 * m < l.length
    · obtain ⟨f, rfl⟩ : ∃ q, f = q + 1 := ⟨f - 1, by omega⟩
      refine pw_t (nI_lt hlt (by omega)) (pw_cv hB.1 (c_at hB hL hc (by omega)) (fun v K h => ?_))
      obtain ⟨rfl, hK⟩ := h
      rw [hK]
      refine pw_cl (p_C_isStation _) (fun v K2 h => ?_)
      obtain ⟨hK2, rfl⟩ := h
      rw [hK2]
      cases e1 : (sta (pA l (17 + 3 * m))).isSome with
      | false =>
        refine pw_t rfl (pw_rz (Or.inl rfl) ⟨rfl, Or.inl ⟨rfl, fun q => ?_⟩⟩)
        have := (q m (by omega) (by omega) hlt).1
        rw [e1] at this
        exact absurd this (by decide)
      | true =>
        refine pw_f (by decide) ?_
        rw [show nI (17 + 3 * m) + (1 : Int32) = nI (17 + 3 * m + 1) from nI_1 _]
        refine pw_cv hB.1 (c_at hB hL hc (by omega)) (fun v K h => ?_)
        obtain ⟨rfl, hK⟩ := h
        rw [hK]
        refine pw_cl (p_C_isStation _) (fun v K2 h => ?_)
        obtain ⟨hK2, rfl⟩ := h
        rw [hK2]
        cases e2 : (sta (pA l (17 + 3 * m + 1))).isSome with
        | false =>
          refine pw_t rfl (pw_rz (Or.inl rfl) ⟨rfl, Or.inl ⟨rfl, fun q => ?_⟩⟩)
          have := (q m (by omega) (by omega) hlt).2
          rw [e2] at this
          exact absurd this (by decide)
        | true =>
          refine pw_f (by decide) ?_
          rw [show nI (17 + 3 * m) + (3 : Int32) = nI (17 + 3 * (m + 1)) from nI_add _ 3]
          refine pw_mono (rn111 hB hc hL h3 h17 h32 f k (m + 1) (by omega) (by omega)) (fun v K h => ⟨h.1, ?_⟩)
          rcases h.2 with ⟨q1, q2⟩ | ⟨q1, q2⟩
          · exact Or.inl ⟨q1, fun q => q2 (fun i h1 h2 h3 => q i (by omega) h2 h3)⟩
          · refine Or.inr ⟨q1, fun i h1 h2 h3 => ?_⟩
            by_cases e : i = m
            · subst e; exact ⟨e1, e2⟩
            · exact q2 i (by omega) h2 h3
    · refine pw_f (nI_nlt (by omega) (by omega)) (pw_rz (Or.inr rfl) ⟨rfl, Or.inr ⟨rfl, fun i h1 h2 h3 => by omega⟩⟩)
theorem c_readNodes (hS : Shp S) (hB : isB S b cap) (hc : l.length ≤ cap) (h90 : l.length ≤ 90) (hb : aBy l) (hbn : b + 1 < 1280) (hL : isL I b l) (g : gdA l n) (h7 : 7 * n < l.length) (hD : cDr I l n) (h6 : adN l 0 = 6) : pw S (q_F_readNodes (some 1280) (some b) (pA l (7 * n)) (I, S)) (fun v J => frD I J ∧ cDr J l n ∧ ((v = 0 ∧ ¬ okB l n) ∨ (v = 1 ∧ okB l n ∧ cBd J l n))) := by
  obtain ⟨f1, f2, f3, f4, f5⟩ := cF_k hS
  have g1 := g.1
  have g2 := g.2.1
  unfold q_F_readNodes
  refine pw_gE f3 hD.2.2.1 (pw_lt (pw_pI f3 (pw_pI f3 ?_)))
  rw [show (7 : Int32) * nI n = nI (7 * n) from pk_mul 7 n, show nI (7 * n) + (3 : Int32) = nI (7 * n + 3) from nI_add _ 3, show nI (7 * n) + (1 : Int32) = nI (7 * n + 1) from nI_add _ 1, show nI (7 * n) + (2 : Int32) = nI (7 * n + 2) from nI_add _ 2]
  have hfr : frD I (iput (iput I 1280 5 3) 1280 10 (nI (7 * n + 3))) := frD_p (frD_p frD_0 (Or.inl rfl)) (Or.inl rfl)
  have hDr : cDr (iput (iput I 1280 5 3) 1280 10 (nI (7 * n + 3))) l n := cDr_p (cDr_p hD (by decide)) (by decide)
  have hBd : cBd (iput (iput I 1280 5 3) 1280 10 (nI (7 * n + 3))) l n := ⟨fun _ => ⟨by simp [ip_if], by simp [ip_if]⟩, fun q => absurd h6 q⟩
  have hLJ := frD_L hfr hL hbn
  have h10 : (iput (iput I 1280 5 3) 1280 10 (nI (7 * n + 3))) 1280 10 = nI (7 * n + 3) := by simp [ip_if]
  generalize iput (iput I 1280 5 3) 1280 10 (nI (7 * n + 3)) = J at hfr hDr hBd hLJ h10 ⊢
  refine gB hB hLJ (pw_gE f3 h10 (pw_lt ?_))
  have bad : ¬ okB l n → pw S (x_rz (0 : Int32) (J, S)) (fun v J => frD I J ∧ cDr J l n ∧ ((v = 0 ∧ ¬ okB l n) ∨ (v = 1 ∧ okB l n ∧ cBd J l n))) := fun q => pw_rz (Or.inl rfl) ⟨hfr, hDr, Or.inl ⟨rfl, q⟩⟩
  have hno : ¬ noB l n → ¬ okB l n := fun q w => q (w.1 h6)
  have m66 : ∀ i4 : Int32, ¬ noB l n → pw S (q_F_readNodes_66 (some 1280) (some b) i4 (J, S)) (fun v J => frD I J ∧ cDr J l n ∧ ((v = 0 ∧ ¬ okB l n) ∨ (v = 1 ∧ okB l n ∧ cBd J l n))) := by
    intro i4 q
    unfold q_F_readNodes_66 q_F_readNodes_67
    refine pw_gE f3 hDr.2.2.2.2.1 (pw_if (fun _ => bad (hno q)) (fun _ => pw_gE f3 hDr.2.2.1 (pw_if (fun _ => pw_t rfl (bad (hno q))) (fun _ => bad (hno q)))))
  by_cases c1 : pA l (7 * n) = 3
  · refine pw_t c1 (pw_cv hB.1 (c_at hB hLJ hc (by omega)) (fun v K h => ?_))
    obtain ⟨rfl, rfl⟩ := h
    by_cases c2 : pA l (7 * n + 1) = 207
    · refine pw_t c2 (pw_cv hB.1 (c_at hB hLJ hc (by omega)) (fun v K h => ?_))
      obtain ⟨rfl, rfl⟩ := h
      by_cases c3 : pA l (7 * n + 2) = 255
      · refine pw_t c3 ?_
        have hlen : 7 * n + 3 ≤ l.length := by
          rcases Nat.lt_or_ge (7 * n + 2) l.length with q | q
          · omega
          · unfold pA at c3
            rw [List.getElem?_eq_none q] at c3
            exact absurd c3 (by decide)
        rw [show nI l.length - nI (7 * n + 3) = nI (l.length - (7 * n + 3)) from pk_sub hlen]
        unfold q_F_readNodes_67
        refine pw_gE f3 hDr.2.2.2.2.1 ?_
        by_cases c4 : cmA l = 0
        · exact pw_t c4 (bad (hno (fun q => by rw [q.1] at c4; exact absurd c4 (by decide))))
        · have c4' : cmA l = 1 := by
            unfold cmA at c4 ⊢
            split
            · rename_i h; rw [if_pos h] at c4; exact absurd rfl c4
            · rfl
          refine pw_f c4 (pw_gE f3 hDr.2.2.1 ?_)
          by_cases n2 : n = 2
          · subst n2
            refine pw_t rfl (pw_f (by decide) (pw_rm (n := l.length - 17) (d := 3) rfl rfl (by omega) (by decide) (by decide) ?_))
            by_cases c5 : (l.length - 17) % 3 = 0
            · rw [c5]
              refine pw_t rfl ?_
              by_cases c6 : l.length ≤ 32
              · refine pw_f (nI_nlt (a := 15) (b := l.length - 17) (by omega) (by omega)) (pw_gE f3 h10 ?_)
                refine pw_mono (rn111 hB hc hLJ c5 (by omega) c6 5 mFU 0 (by omega) (by unfold mFU; omega)) (fun v K h => ?_)
                obtain ⟨rfl, h⟩ := h
                rcases h with ⟨q1, q2⟩ | ⟨q1, q2⟩
                · exact ⟨hfr, hDr, Or.inl ⟨q1, hno (fun q => q2 (fun i _ h2 h3 => q.2.2.2.2.2 i h2 h3))⟩⟩
                · exact ⟨hfr, hDr, Or.inr ⟨q1, ⟨fun _ => ⟨c4', rfl, ⟨c1, c2, c3⟩, c5, c6, fun i h2 h3 => q2 i (by omega) h2 h3⟩, fun q => absurd h6 q, fun q => absurd h6 q⟩, hBd⟩⟩
              · exact pw_t (nI_lt (a := 15) (b := l.length - 17) (by omega) (by omega)) (bad (hno (fun q => c6 q.2.2.2.2.1)))
            · exact pw_f (nI_ne0 (by omega) (by omega)) (bad (hno (fun q => c5 q.2.2.2.1)))
          · exact pw_f (fun q => n2 ((nI_eq (b := 2) (by omega) (by decide)).mp q)) (bad (hno (fun q => n2 q.2.1)))
      · refine pw_f c3 (m66 _ (fun q => c3 ?_))
        have := q.2.1; subst this; exact q.2.2.1.2.2
    · refine pw_f c2 (m66 _ (fun q => c2 ?_))
      have := q.2.1; subst this; exact q.2.2.1.2.1
  · refine pw_f c1 (m66 _ (fun q => c1 ?_))
    have := q.2.1; subst this; exact q.2.2.1.1
end UB
