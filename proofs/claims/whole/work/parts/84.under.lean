/-! what a FRAME says behind its ADDRESSES: the class, the rest -/
theorem lt1_neg {x : Int32} (h : x < 0) : x < 1 := by
  rw [Int32.lt_iff_toInt_lt] at h ⊢
  have e0 : (0 : Int32).toInt = 0 := rfl
  have e1 : (1 : Int32).toInt = 1 := rfl
  omega
theorem gd_u {l : List Int32} {n m : Nat} (g : gdA l n) (h : gdA l m) : n = m := by
  rcases Nat.lt_trichotomy n m with q | q | q
  · exact absurd (h.2.2.2.2.1 (n - 1) (by have := g.1; omega)) g.2.2.2.2.2
  · exact q
  · exact absurd (g.2.2.2.2.1 (m - 1) (by have := h.1; omega)) h.2.2.2.2.2
theorem cm_1 {l : List Int32} (h : ¬ cmA l = 0) : cmA l = 1 := by
  unfold cmA at h ⊢
  split
  · rename_i q; rw [if_pos q] at h; exact absurd rfl h
  · rfl
theorem pA_len {l : List Int32} {k : Nat} (h : pA l k ≠ -1) : k < l.length := by
  rcases Nat.lt_or_ge k l.length with q | q
  · exact q
  · unfold pA at h
    rw [List.getElem?_eq_none q] at h
    exact absurd rfl h
def bdQ (I : mIm) (l : List Int32) (n : Nat) : Int32 → mIm → Prop := fun v J => frD I J ∧ cDr J l n ∧ ((v = 0 ∧ ¬ okB l n) ∨ (v = 1 ∧ okB l n ∧ cBd J l n))
section UC
variable {S : mS} {I J I0 : mIm} {A : aT} {s : Nat} {l : List Int32} {b cap n : Nat}
theorem c_readInformation (hS : Shp S) (hB : isB S b cap) (hc : l.length ≤ cap) (h90 : l.length ≤ 90) (hbn : b + 1 < 1280) (hL : isL I b l) (g : gdA l n) (hD : cDr I l n) (h6 : ¬ adN l 0 = 6) (hev : pA l (7 * n) &&& 1 = 0) : pw S (q_F_readInformation (some 1280) (some b) (pA l (7 * n)) (I, S)) (bdQ I l n) := by
  obtain ⟨f1, f2, f3, f4, f5⟩ := cF_k hS
  have g1 := g.1
  have g2 := g.2.1
  have g7 := g.2.2.1
  have hk : kdA (pA l (7 * n)) = 0 := by unfold kdA; rw [if_pos hev]
  unfold q_F_readInformation
  refine pw_gE f3 hD.2.2.1 (pw_lt (pw_pI f3 (pw_pI f3 (pw_pI f3 (pw_pI f3 (pw_gR f3 f4 ?_))))))
  rw [show (7 : Int32) * nI n = nI (7 * n) from pk_mul 7 n, show nI (7 * n) + (3 : Int32) = nI (7 * n + 3) from nI_add _ 3, show nI (7 * n) + (1 : Int32) = nI (7 * n + 1) from nI_add _ 1, show nI (7 * n) + (2 : Int32) = nI (7 * n + 2) from nI_add _ 2]
  have k1 : frD I (iput (iput (iput (iput I 1280 5 0) 1280 6 (pA l (7 * n) &&& 16)) 1280 7 (pA l (7 * n) >>> ((5 : Int32) &&& 31))) 1280 8 ((pA l (7 * n) >>> ((1 : Int32) &&& 31)) &&& 7)) := frD_p (frD_p (frD_p (frD_p frD_0 (Or.inl rfl)) (Or.inl rfl)) (Or.inl rfl)) (Or.inl rfl)
  have d1 : cDr (iput (iput (iput (iput I 1280 5 0) 1280 6 (pA l (7 * n) &&& 16)) 1280 7 (pA l (7 * n) >>> ((5 : Int32) &&& 31))) 1280 8 ((pA l (7 * n) >>> ((1 : Int32) &&& 31)) &&& 7)) l n := cDr_p (cDr_p (cDr_p (cDr_p hD (by decide)) (by decide)) (by decide)) (by decide)
  refine pw_cv hB.1 (c_at hB (frD_L k1 hL hbn) hc (by omega)) (fun v K h => ?_)
  obtain ⟨rfl, rfl⟩ := h
  have k2 := frD_p (r := 1281) (j := 3) (v := pA l (7 * n + 1)) k1 (Or.inr rfl)
  refine pw_pI f5 (pw_cv hB.1 (c_at hB (frD_L k2 hL hbn) hc (by omega)) (fun v K h => ?_))
  obtain ⟨rfl, rfl⟩ := h
  refine pw_pI f3 (pw_pI f3 ?_)
  have k3 := frD_p (r := 1280) (j := 10) (v := nI (7 * n + 3)) (frD_p (r := 1280) (j := 9) (v := pA l (7 * n + 2)) k2 (Or.inl rfl)) (Or.inl rfl)
  have d3 := cDr_p (v := nI (7 * n + 3)) (j := 10) (cDr_p (v := pA l (7 * n + 2)) (j := 9) (cDr_m (v := pA l (7 * n + 1)) d1) (by decide)) (by decide)
  have b3 : cBd (iput (iput (iput (iput (iput (iput (iput I 1280 5 0) 1280 6 (pA l (7 * n) &&& 16)) 1280 7 (pA l (7 * n) >>> ((5 : Int32) &&& 31))) 1280 8 ((pA l (7 * n) >>> ((1 : Int32) &&& 31)) &&& 7)) 1281 3 (pA l (7 * n + 1))) 1280 9 (pA l (7 * n + 2))) 1280 10 (nI (7 * n + 3))) l n := by
    refine ⟨fun q => absurd q h6, fun _ => ⟨?_, ?_, ?_, fun _ => ?_, fun _ => ⟨?_, ?_, ?_⟩⟩⟩
    · simp [ip_if]
    · rw [hk]; simp [ip_if]
    · simp [ip_if]
    · simp [ip_if]
    · simp [ip_if]
    · simp [ip_if]
    · simp [ip_if]
  have e9 : (iput (iput (iput (iput (iput (iput (iput I 1280 5 0) 1280 6 (pA l (7 * n) &&& 16)) 1280 7 (pA l (7 * n) >>> ((5 : Int32) &&& 31))) 1280 8 ((pA l (7 * n) >>> ((1 : Int32) &&& 31)) &&& 7)) 1281 3 (pA l (7 * n + 1))) 1280 9 (pA l (7 * n + 2))) 1280 10 (nI (7 * n + 3))) 1280 9 = pA l (7 * n + 2) := by simp [ip_if]
  have e10 : (iput (iput (iput (iput (iput (iput (iput I 1280 5 0) 1280 6 (pA l (7 * n) &&& 16)) 1280 7 (pA l (7 * n) >>> ((5 : Int32) &&& 31))) 1280 8 ((pA l (7 * n) >>> ((1 : Int32) &&& 31)) &&& 7)) 1281 3 (pA l (7 * n + 1))) 1280 9 (pA l (7 * n + 2))) 1280 10 (nI (7 * n + 3))) 1280 10 = nI (7 * n + 3) := by simp [ip_if]
  generalize iput (iput (iput (iput (iput (iput (iput I 1280 5 0) 1280 6 (pA l (7 * n) &&& 16)) 1280 7 (pA l (7 * n) >>> ((5 : Int32) &&& 31))) 1280 8 ((pA l (7 * n) >>> ((1 : Int32) &&& 31)) &&& 7)) 1281 3 (pA l (7 * n + 1))) 1280 9 (pA l (7 * n + 2))) 1280 10 (nI (7 * n + 3)) = J at k3 d3 b3 e9 e10 ⊢
  refine gB hB (frD_L k3 hL hbn) (pw_gE f3 e10 (pw_lt (pw_gE f3 e9 ?_)))
  have bad : ¬ inB l (7 * n) → pw S (x_rz (0 : Int32) (J, S)) (bdQ I l n) := fun q => pw_rz (Or.inl rfl) ⟨k3, d3, Or.inl ⟨rfl, fun w => q (w.2.1 h6 hev)⟩⟩
  have known : (pA l (7 * n + 2) = 240 ∨ pA l (7 * n + 2) = 207) → pw S (q_F_readInformation_101 (some 1280) (nI l.length - nI (7 * n + 3)) (J, S)) (bdQ I l n) := by
    intro q
    have hlen : 7 * n + 2 < l.length := pA_len (by rcases q with q | q <;> rw [q] <;> decide)
    unfold q_F_readInformation_101 q_F_readInformation_106
    rw [show nI l.length - nI (7 * n + 3) = nI (l.length - (7 * n + 3)) from pk_sub (by omega)]
    refine pw_gE f3 d3.2.2.2.2.1 ?_
    by_cases c4 : cmA l = 0
    · exact pw_t c4 (bad (fun z => by rw [z.1] at c4; exact absurd c4 (by decide)))
    · refine pw_f c4 (pw_f (by decide) ?_)
      by_cases c5 : 7 * n + 4 ≤ l.length
      · refine pw_f (nI_nlt (b := 1) (by omega) (by omega)) ?_
        by_cases c6 : l.length ≤ 7 * n + 19
        · exact pw_f (nI_nlt (a := 16) (by omega) (by omega)) (pw_rz (Or.inr rfl) ⟨k3, d3, Or.inr ⟨rfl, ⟨fun z => absurd z h6, fun _ _ => ⟨cm_1 c4, q, c5, c6⟩, fun _ z => absurd hev z⟩, b3⟩⟩)
        · exact pw_t (nI_lt (a := 16) (by omega) (by omega)) (bad (fun z => c6 z.2.2.2))
      · exact pw_t (nI_lt (b := 1) (by omega) (by omega)) (bad (fun z => c5 z.2.2.1))
  by_cases c1 : pA l (7 * n + 2) = 240
  · exact pw_t c1 (known (Or.inl c1))
  · refine pw_f c1 (pw_gE f3 e9 ?_)
    by_cases c2 : pA l (7 * n + 2) = 207
    · exact pw_t c2 (known (Or.inr c2))
    · refine pw_f c2 ?_
      have nb : ¬ inB l (7 * n) := fun z => by rcases z.2.1 with z | z; exact c1 z; exact c2 z
      unfold q_F_readInformation_106
      exact pw_gE f3 d3.2.2.2.2.1 (pw_if (fun _ => bad nb) (fun _ => pw_t rfl (bad nb)))
theorem c_readOther (hS : Shp S) (hB : isB S b cap) (hc : l.length ≤ cap) (h90 : l.length ≤ 90) (hbn : b + 1 < 1280) (hL : isL I b l) (g : gdA l n) (hD : cDr I l n) (h6 : ¬ adN l 0 = 6) (hod : ¬ pA l (7 * n) &&& 1 = 0) : pw S (q_F_readOther (some 1280) (some b) (pA l (7 * n)) (I, S)) (bdQ I l n) := by
  obtain ⟨f1, f2, f3, f4, f5⟩ := cF_k hS
  have g1 := g.1
  have g2 := g.2.1
  have g7 := g.2.2.1
  unfold q_F_readOther
  refine pw_gE f3 hD.2.2.1 (pw_lt (pw_pI f3 (pw_gR f3 f4 ?_)))
  rw [show (7 : Int32) * nI n = nI (7 * n) from pk_mul 7 n, show nI (7 * n) + (1 : Int32) = nI (7 * n + 1) from nI_add _ 1, show nI (7 * n) + (2 : Int32) = nI (7 * n + 2) from nI_add _ 2]
  have k1 : frD I (iput I 1280 6 (pA l (7 * n) &&& 16)) := frD_p frD_0 (Or.inl rfl)
  refine pw_cv hB.1 (c_at hB (frD_L k1 hL hbn) hc (by omega)) (fun v K h => ?_)
  obtain ⟨rfl, rfl⟩ := h
  refine pw_pI f5 ?_
  have k2 := frD_p (r := 1281) (j := 3) (v := pA l (7 * n + 1)) k1 (Or.inr rfl)
  have d2 := cDr_m (v := pA l (7 * n + 1)) (cDr_p (v := pA l (7 * n) &&& 16) (j := 6) hD (by decide))
  have e6 : (iput (iput I 1280 6 (pA l (7 * n) &&& 16)) 1281 3 (pA l (7 * n + 1))) 1280 6 = pA l (7 * n) &&& 16 := by simp [ip_if]
  have e3 : (iput (iput I 1280 6 (pA l (7 * n) &&& 16)) 1281 3 (pA l (7 * n + 1))) 1281 3 = pA l (7 * n + 1) := by simp [ip_if]
  generalize iput (iput I 1280 6 (pA l (7 * n) &&& 16)) 1281 3 (pA l (7 * n + 1)) = J at k2 d2 e6 e3 ⊢
  refine gB hB (frD_L k2 hL hbn) ?_
  have bad : ∀ K, frD I K → cDr K l n → ¬ otB l (7 * n) → pw S (x_rz (0 : Int32) (K, S)) (bdQ I l n) := fun K q1 q2 q => pw_rz (Or.inl rfl) ⟨q1, q2, Or.inl ⟨rfl, fun w => q (w.2.2 h6 hod)⟩⟩
  by_cases hlen : l.length = 7 * n + 2
  · refine pw_t (by rw [hlen]) (pw_gE f3 e6 (pw_pI f3 ?_))
    generalize hck : pA l (7 * n) - (pA l (7 * n) &&& 16) = ck
    have k3 := frD_p (r := 1280) (j := 5) (v := ck) k2 (Or.inl rfl)
    have d3 := cDr_p (v := ck) (j := 5) d2 (by decide)
    have e5 : (iput J 1280 5 ck) 1280 5 = ck := iput_s _ _ _ _
    have b3 : isU ck → cBd (iput J 1280 5 ck) l n := by
      intro hU
      have hkd : kdA (pA l (7 * n)) = ck := by unfold kdA; rw [if_neg hod, hck, if_pos hU]
      refine ⟨fun q => absurd q h6, fun _ => ⟨?_, ?_, ?_, fun q => ?_, fun q => ?_⟩⟩
      · rw [iput_n _ _ _ (by decide)]; exact e3
      · rw [iput_s, hkd]
      · rw [iput_j _ _ _ (by decide)]; exact e6
      · rw [hkd] at q; exact absurd hU q
      · rw [hkd] at q
        rcases hU with z | z | z | z <;> rw [z] at q <;> exact absurd q (by decide)
    have fin : ∀ v, (v = 0 ∨ v = 1) → isU ck → (v = 1 ↔ otB l (7 * n)) → pw S (x_rz v (iput J 1280 5 ck, S)) (bdQ I l n) := by
      intro v hv hU hiff
      refine pw_rz hv ⟨k3, d3, ?_⟩
      rcases hv with hv | hv
      · refine Or.inl ⟨hv, fun w => ?_⟩
        have := hiff.mpr (w.2.2 h6 hod)
        rw [hv] at this
        exact absurd this (by decide)
      · exact Or.inr ⟨hv, ⟨fun z => absurd z h6, fun _ z => absurd z hod, fun _ _ => hiff.mp hv⟩, b3 hU⟩
    have hcm : cmA l = 0 ∨ cmA l = 1 := by
      by_cases z : cmA l = 0
      · exact Or.inl z
      · exact Or.inr (cm_1 z)
    have x01 : ¬ (0 : Int32) = 1 := by decide
    have x10 : ¬ (1 : Int32) = 0 := by decide
    have m93 : (ck = 15 ∨ ck = 99) → pw S (q_F_readOther_93 (some 1280) (iput J 1280 5 ck, S)) (bdQ I l n) := by
      intro hq
      have hU : isU ck := by rcases hq with q | q; exact Or.inr (Or.inr (Or.inl q)); exact Or.inr (Or.inr (Or.inr q))
      unfold q_F_readOther_93
      refine pw_gE f3 d3.2.2.2.2.1 ?_
      by_cases z : cmA l = 0
      · refine pw_t z (fin 1 (Or.inr rfl) hU ⟨fun _ => ⟨hlen, Or.inr (Or.inl ⟨by rw [hck]; exact hq, z⟩)⟩, fun _ => rfl⟩)
      · refine pw_f z (fin 0 (Or.inl rfl) hU ⟨fun q => absurd q x01, fun w => ?_⟩)
        rcases w.2 with w | w | w
        · rw [hck] at w
          rcases hq with q | q <;> rcases w.1 with w | w <;> rw [q] at w <;> exact absurd w (by decide)
        · exact absurd w.2 z
        · rw [hck] at w
          exact absurd hU w.1
    have m47 : (ck = 47 ∨ ck = 67) → pw S (x_rz (cmA l) (iput J 1280 5 ck, S)) (bdQ I l n) := by
      intro hq
      have hU : isU ck := by rcases hq with q | q; exact Or.inl q; exact Or.inr (Or.inl q)
      refine fin (cmA l) hcm hU ⟨fun z => ⟨hlen, Or.inl ⟨by rw [hck]; exact hq, z⟩⟩, fun w => ?_⟩
      rcases w.2 with w | w | w
      · exact w.2
      · rw [hck] at w
        rcases hq with q | q <;> rcases w.1 with w | w <;> rw [q] at w <;> exact absurd w (by decide)
      · rw [hck] at w
        exact absurd hU w.1
    refine pw_gE f3 e5 (pw_if (fun q => pw_gE f3 d3.2.2.2.2.1 (m47 (Or.inl q))) (fun q1 => pw_gE f3 e5 (pw_if (fun q => pw_gE f3 d3.2.2.2.2.1 (m47 (Or.inr q))) (fun q2 => pw_gE f3 e5 (pw_if (fun q => m93 (Or.inl q)) (fun q3 => pw_gE f3 e5 (pw_if (fun q => m93 (Or.inr q)) (fun q4 => ?_))))))))
    have hnU : ¬ isU ck := fun z => by rcases z with z | z | z | z; exact q1 z; exact q2 z; exact q3 z; exact q4 z
    have hkd : kdA (pA l (7 * n)) = pA l (7 * n) &&& 15 := by unfold kdA; rw [if_neg hod, hck, if_neg hnU]
    refine pw_pI f3 (pw_pI f3 ?_)
    have k4 := frD_p (r := 1280) (j := 7) (v := pA l (7 * n) >>> ((5 : Int32) &&& 31)) (frD_p (r := 1280) (j := 5) (v := pA l (7 * n) &&& 15) k3 (Or.inl rfl)) (Or.inl rfl)
    have d4 := cDr_p (v := pA l (7 * n) >>> ((5 : Int32) &&& 31)) (j := 7) (cDr_p (v := pA l (7 * n) &&& 15) (j := 5) d3 (by decide)) (by decide)
    have e5' : (iput (iput (iput J 1280 5 ck) 1280 5 (pA l (7 * n) &&& 15)) 1280 7 (pA l (7 * n) >>> ((5 : Int32) &&& 31))) 1280 5 = pA l (7 * n) &&& 15 := by rw [iput_j _ _ _ (by decide), iput_s]
    have ok4 : (pA l (7 * n) &&& 15 = 1 ∨ pA l (7 * n) &&& 15 = 5 ∨ pA l (7 * n) &&& 15 = 9) → bdQ I l n 1 (iput (iput (iput J 1280 5 ck) 1280 5 (pA l (7 * n) &&& 15)) 1280 7 (pA l (7 * n) >>> ((5 : Int32) &&& 31))) := by
      intro hq
      refine ⟨k4, d4, Or.inr ⟨rfl, ⟨fun z => absurd z h6, fun _ z => absurd z hod, fun _ _ => ⟨hlen, Or.inr (Or.inr ⟨by rw [hck]; exact hnU, hq⟩)⟩⟩, ?_⟩⟩
      refine ⟨fun q => absurd q h6, fun _ => ⟨?_, ?_, ?_, fun _ => ?_, fun q => ?_⟩⟩
      · rw [iput_n _ _ _ (by decide), iput_n _ _ _ (by decide), iput_n _ _ _ (by decide)]; exact e3
      · rw [hkd]; exact e5'
      · rw [iput_j _ _ _ (by decide), iput_j _ _ _ (by decide), iput_j _ _ _ (by decide)]; exact e6
      · rw [iput_s]
      · rw [hkd] at q
        rcases hq with z | z | z <;> rw [z] at q <;> exact absurd q (by decide)
    refine pw_gE f3 e5' (pw_if (fun q => pw_rz (Or.inr rfl) (ok4 (Or.inl q))) (fun p1 => pw_gE f3 e5' (pw_if (fun q => pw_rz (Or.inr rfl) (ok4 (Or.inr (Or.inl q)))) (fun p2 => pw_gE f3 e5' (pw_if (fun q => pw_rz (Or.inr rfl) (ok4 (Or.inr (Or.inr q)))) (fun p3 => bad _ k4 d4 ?_))))))
    intro w
    rcases w.2 with w | w | w
    · rw [hck] at w
      rcases w.1 with w | w
      · exact q1 w
      · exact q2 w
    · rw [hck] at w
      rcases w.1 with w | w
      · exact q3 w
      · exact q4 w
    · rcases w.2 with w | w | w
      · exact p1 w
      · exact p2 w
      · exact p3 w
  · refine pw_f (fun q => hlen ((nI_eq (by omega) (by omega)).mp q)) (bad J k2 d2 (fun z => hlen z.1))
def unQ (I : mIm) (l : List Int32) : Int32 → mIm → Prop := fun v J => frD I J ∧ ((v = 0 ∧ ∀ n, ¬ okF l n) ∨ (v = 1 ∧ ∃ n, okF l n ∧ cDr J l n ∧ cBd J l n))
theorem c_understand (hS : Shp S) (hB : isB S b cap) (hc : l.length ≤ cap) (h90 : l.length ≤ 90) (hb : aBy l) (hbn : b + 1 < 1280) (hL : isL I b l) : pw S (q_F_understand (some 1280) (some b) (I, S)) (unQ I l) := by
  obtain ⟨f1, f2, f3, f4, f5⟩ := cF_k hS
  unfold q_F_understand
  refine pw_cv f3 (c_readAddresses hS hB hc hb hbn hL) (fun v K h => ?_)
  obtain ⟨h1, h2⟩ := h
  have k1 : frD I K := fun r a _ => h1 r a
  rcases h2 with ⟨rfl, h2⟩ | ⟨rfl, n, g, u, h2, h3⟩
  · exact pw_t rfl (pw_rz (Or.inl rfl) ⟨k1, Or.inl ⟨rfl, fun n q => h2 n ⟨q.1, q.2.1⟩⟩⟩)
  · refine pw_f (by decide) (pw_cv f3 (c_readDirection hS hB hc hb hbn (frD_L k1 hL hbn) g h2 h3) (fun v K2 h => ?_))
    obtain ⟨k2', d2, rfl⟩ := h
    have k2 : frD I K2 := fun r a b => by rw [k2' r a b, k1 r a b]
    have hL2 := frD_L k2 hL hbn
    have bad : ∀ K, frD I K → (okF l n → False) → unQ I l 0 K := fun K q1 q2 => ⟨q1, Or.inl ⟨rfl, fun m w => by have e := gd_u g w.1; subst e; exact q2 w⟩⟩
    by_cases hdi : diA l
    · rw [if_pos hdi]
      refine pw_f (by decide) (pw_gE f3 d2.2.2.1 ?_)
      rw [show (7 : Int32) * nI n = nI (7 * n) from pk_mul 7 n]
      have g4 := g.2.1
      refine pw_cv hB.1 (c_at hB hL2 hc (by omega)) (fun v K h => ?_)
      obtain ⟨rfl, rfl⟩ := h
      by_cases h7 : 7 * n < l.length
      · obtain ⟨m, hm, em⟩ := hb (7 * n) h7
        have ne1 : ¬ pA l (7 * n) = -1 := by
          rw [em]
          intro e
          have : nI m < 0 := by rw [e]; decide
          exact nI_pos (by omega) this
        have fin : ∀ v J, bdQ K l n v J → v = 0 ∨ v = 1 := fun v J q => by rcases q.2.2 with q | q; exact Or.inl q.1; exact Or.inr q.1
        have fin2 : ∀ v J, bdQ K l n v J → unQ I l v J := fun v J q => by
          have k3 : frD I J := fun r a b => by rw [q.1 r a b, k2 r a b]
          rcases q.2.2 with q2 | q2
          · rw [q2.1]
            exact bad J k3 (fun w => q2.2 w.2.2.2.2)
          · exact ⟨k3, Or.inr ⟨q2.1, n, ⟨g, u, hdi, h7, q2.2.1⟩, q.2.1, q2.2.2⟩⟩
        refine pw_f ne1 (pw_gE f3 d2.1 ?_)
        by_cases e6 : adN l 0 = 6
        · refine pw_t e6 (pw_cv f3 (c_readNodes hS hB hc h90 hb hbn hL2 g h7 d2 e6) (fun v J q => ?_))
          have q : bdQ K l n v J := q
          exact pw_rz (fin v J q) (fin2 v J q)
        · refine pw_f e6 ?_
          by_cases ev : pA l (7 * n) &&& 1 = 0
          · exact pw_t ev (pw_cv f3 (c_readInformation hS hB hc h90 hbn hL2 g d2 e6 ev) (fun v J q => pw_rz (fin v J q) (fin2 v J q)))
          · exact pw_f ev (pw_cv f3 (c_readOther hS hB hc h90 hbn hL2 g d2 e6 ev) (fun v J q => pw_rz (fin v J q) (fin2 v J q)))
      · have : pA l (7 * n) = -1 := by
          unfold pA
          rw [List.getElem?_eq_none (by omega)]
          rfl
        exact pw_t this (pw_rz (Or.inl rfl) (bad _ k2 (fun w => h7 w.2.2.2.1)))
    · rw [if_neg hdi]
      exact pw_t rfl (pw_rz (Or.inl rfl) (bad _ k2 (fun w => hdi w.2.2.1)))
end UC
