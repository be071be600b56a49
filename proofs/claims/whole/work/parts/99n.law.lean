/-! what holds of every state, kept by each call; the law's loop -/
section AC
variable {A : aT}
theorem AI_end (h : AInv A) (n : Int32) : AInv (aEnd A n).2 := by
  unfold aEnd
  split
  · exact h
  · split
    · exact h
    · exact AI_aL h (by decide)
theorem AI_fee (h : AInv A) (a b c d e : Int32) : AInv (aFee A a b c d e).2 := by
  unfold aFee
  split
  · exact h
  · exact AI_aL h (by decide)
theorem AI_bit (h : AInv A) (v : Int32) : AInv (aBit A v).2 := by
  unfold aBit
  split
  · exact AI_aL (AI_aL h (by decide)) (by decide)
  · exact AI_aL h (by decide)
theorem AI_u0 (h : AInv A) : rOk (uR0 A) := by
  obtain ⟨h1, h2, h3⟩ := AI_Rk h 6 (by decide)
  exact ⟨Or.inl rfl, h2, h3⟩
theorem AI_rc {k : Nat} {R : rcT} (h : AInv A) (hR : rOk R) : AInv (aRc A k R) := by
  obtain ⟨h1, h2, h3, h4, ⟨h5, h6, h7⟩, h8⟩ := id h
  refine AInv_p h (fun t ht => ?_) (fun j hj i hi => by rw [aRc_1 (by omega)]; exact h2 j hj i hi) (aS01_c h3 (fun f i hf => aRc_1 (by omega))) (fun j hj => ?_) ⟨fun j hj => by rw [aRc_1 (by omega)]; exact h5 j hj, fun t ht n hn => by rw [aRc_1 (by omega)]; exact h6 t ht n hn, fun t ht d hd => by rw [aRc_1 (by omega)]; exact h7 t ht d hd⟩ (fun f l hf => aRc_1 (by omega)) (fun l => rfl)
  · have := h1 t ht
    unfold tnOk at this ⊢
    rw [aRc_1 (by omega), aRc_1 (by omega), aRc_1 (by omega)]
    exact this
  · by_cases e : j = k
    · subst e; rw [aRc_t]; exact hR
    · rw [aRt_eq (A := A) (fun f hf => aRc_1 (by omega)) (fun f hf => aRc_2 (by omega))]
      exact h4 j hj
theorem AI_unb (h : AInv A) : AInv (aUnb A).2 := by
  have hk : rOk (aUn1 A).1 := uBs_k (AI_u0 h) _
  unfold aUnb
  dsimp only
  split
  · exact AI_rc (AI_aL h (by decide)) hk
  · exact AI_aL (AI_rc (AI_aL h (by decide)) hk) (by decide)
theorem AI_hea (h : AInv A) (i j : Int32) {on : Int32} (hon : on = 0 ∨ on = 1) : AInv (aHea A i j on).2 := by
  unfold aHea
  split
  · exact h
  · rename_i q hq
    obtain ⟨h1, h2, h3, h4, ⟨h5, h6, h7⟩, h8⟩ := id h
    refine AInv_p h (fun t ht => ?_) (fun k hk i hi => ?_) (aS01_c h3 (fun f i hf => aI_f _ _ _ _ (by omega))) (fun k hk => ?_) ⟨fun k hk => by rw [aI_f _ _ _ _ (by decide)]; exact h5 k hk, fun t ht n hn => by rw [aI_f _ _ _ _ (by decide)]; exact h6 t ht n hn, fun t ht d hd => by rw [aI_f _ _ _ _ (by decide)]; exact h7 t ht d hd⟩ (fun f l hf => aI_f _ _ _ _ (by omega)) (fun l => rfl)
    · have := h1 t ht
      unfold tnOk at this ⊢
      rw [aI_f _ _ _ _ (by decide), aI_f _ _ _ _ (by decide), aI_f _ _ _ _ (by decide)]
      exact this
    · by_cases e : 6 * k + i = 6 * q.1 + q.2
      · rw [e, aI_s]; exact hon
      · rw [aI_k _ _ _ e]; exact h2 k hk i hi
    · rw [aRt_eq (A := A) (fun f hf => aI_f _ _ _ _ (by omega)) (fun f hf => rfl)]
      exact h4 k hk
theorem inV_in {v a b : Int32} (h : inV v a b ≠ 0) : ¬ v < a ∧ ¬ b < v := by
  unfold inV at h
  by_cases q1 : v < a
  · rw [if_pos q1] at h; exact absurd rfl h
  · rw [if_neg q1] at h
    by_cases q2 : b < v
    · rw [if_pos q2] at h; exact absurd rfl h
    · exact ⟨q1, q2⟩
theorem inV_nI {v : Int32} {a b : Nat} (hb : b < 2 ^ 31) (h : inV v (nI a) (nI b) ≠ 0) (ha : a < 2 ^ 31) : ∃ n : Nat, a ≤ n ∧ n ≤ b ∧ v = nI n := by
  obtain ⟨h1, h2⟩ := inV_in h
  have h0 : ¬ v < 0 := fun q => by
    apply h1
    rw [Int32.lt_iff_toInt_lt] at q ⊢
    rw [nI_toInt ha]
    have e0 : (0 : Int32).toInt = 0 := rfl
    omega
  obtain ⟨n, hn, rfl⟩ := nI_of h0
  refine ⟨n, ?_, ?_, rfl⟩
  · rcases Nat.lt_or_ge n a with q | q
    · exact absurd (nI_lt q ha) h1
    · exact q
  · rcases Nat.lt_or_ge b n with q | q
    · exact absurd (nI_lt q hn) h2
    · exact q
theorem mayV_2 {v : Int32} : mayV 2 v = inV v 1 16 := rfl
theorem mayV_4 {v : Int32} : mayV 4 v = inV v 100 20000 := rfl
theorem mayV_5 {v : Int32} : mayV 5 v = inV v 1 255 := rfl
theorem AI_tun (h : AInv A) (i w v : Int32) : AInv (aTun A i w v).2 := by
  unfold aTun
  split
  · exact h
  · rename_i s hs
    have hs6 := (sta_s hs).1
    split
    · exact h
    · rename_i hm
      obtain ⟨k, hk, rfl⟩ := mayV_n hm
      rw [nI_clamp (by omega)]
      obtain ⟨h1, h2, h3, h4, ⟨h5, h6, h7⟩, h8⟩ := id h
      refine AInv_p h (fun t ht => ?_) (fun j hj i hi => by rw [aI_f _ _ _ _ (by decide)]; exact h2 j hj i hi) (aS01_c h3 (fun f i hf => aI_f _ _ _ _ (by omega))) (fun j hj => ?_) ⟨fun j hj => by rw [aI_f _ _ _ _ (by decide)]; exact h5 j hj, fun t ht n hn => by rw [aI_f _ _ _ _ (by decide)]; exact h6 t ht n hn, fun t ht d hd => by rw [aI_f _ _ _ _ (by decide)]; exact h7 t ht d hd⟩ (fun f l hf => aI_f _ _ _ _ (by omega)) (fun l => rfl)
      · obtain ⟨g1, g2, g3⟩ := h1 t ht
        refine ⟨?_, ?_, ?_⟩
        · by_cases e : 9 * t + 2 = 9 * s + k
          · have : k = 2 := by omega
            subst this
            rw [e, aI_s]
            exact inV_nI (a := 1) (b := 16) (by decide) hm (by decide)
          · rw [aI_k _ _ _ e]; exact g1
        · by_cases e : 9 * t + 4 = 9 * s + k
          · have : k = 4 := by omega
            subst this
            rw [e, aI_s]
            exact inV_nI (a := 100) (b := 20000) (by decide) hm (by decide)
          · rw [aI_k _ _ _ e]; exact g2
        · by_cases e : 9 * t + 5 = 9 * s + k
          · have : k = 5 := by omega
            subst this
            rw [e, aI_s]
            exact inV_nI (a := 1) (b := 255) (by decide) hm (by decide)
          · rw [aI_k _ _ _ e]; exact g3
      · rw [aRt_eq (A := A) (fun f hf => aI_f _ _ _ _ (by omega)) (fun f hf => rfl)]
        exact h4 j hj
theorem AI_raw (h : AInv A) (i : Int32) : AInv (aRaw A i).2 := by
  unfold aRaw
  split
  · exact AI_aL h (by decide)
  · split
    · exact AI_aQ (AI_aL h (by decide)) (by decide)
    · exact AI_aL h (by decide)
theorem lnk_q {i j : Int32} {q : Nat × Nat} (h : lnk i j = some q) : isLk q.1 q.2 := by
  obtain ⟨s, o⟩ := q
  obtain ⟨h1, h2, h3, -⟩ := lnk_s h
  exact ⟨h1, h2, h3⟩
theorem via_ne {i j v w : Int32} (h : ¬ aVia i j v w = 0) : v ≠ 6 ∧ w ≠ 6 := by
  have s6 : ¬ (sta 6).isSome = true := by decide
  have n6 : ¬ (6 : Int32) = -1 := by decide
  have sf : (sta 6).isSome = false := by decide
  constructor
  · intro e
    subst e
    apply h
    unfold aVia
    rw [if_neg n6, if_pos sf]
  · intro e
    subst e
    apply h
    unfold aVia
    by_cases q1 : v = -1
    · rw [if_pos q1, if_neg n6]
    · rw [if_neg q1]
      by_cases q2 : (sta v).isSome = false
      · rw [if_pos q2]
      · rw [if_neg q2]
        by_cases q3 : v = i
        · rw [if_pos q3]
        · rw [if_neg q3]
          by_cases q4 : v = j
          · rw [if_pos q4]
          · rw [if_neg q4, if_neg n6, if_pos sf]
theorem AI_call (h : AInv A) (i j v w : Int32) : AInv (aCall A i j v w).2 := by
  unfold aCall
  split
  · exact h
  · rename_i q hq
    split
    · split
      · exact h
      · rename_i hv
        obtain ⟨v1, v2⟩ := via_ne hv
        exact AI_cal (AI_21 (AI_21 h (Or.inl rfl) v1) (Or.inr rfl) v2) (lnk_q hq)
    · exact h
theorem AI_lea (h : AInv A) (i j : Int32) : AInv (aLea A i j).2 := by
  unfold aLea
  split
  · exact h
  · rename_i q hq
    split
    · obtain ⟨l1, l2, l3⟩ := lnk_q hq
      obtain ⟨n, n1, n2, en⟩ := (h.1 q.1 l1).2.1
      refine AI_say (AI_ck (AI_tr (AI_rst h (Or.inr (Or.inr (Or.inr rfl)))) (n := 1) rfl (by decide)) en n2 (fun z => ?_))
      rw [aI_f _ _ _ _ (by decide), aRst_20] at z
      exact absurd z (by decide)
    · exact h
theorem AI_giv (h : AInv A) (i j : Int32) : AInv (aGiv A i j).2 := by
  unfold aGiv
  split
  · exact AI_aL h (by decide)
  · split
    · split
      · exact AI_aL h (by decide)
      · exact AI_aL (AI_aL h (by decide)) (by decide)
    · exact AI_aL h (by decide)
theorem AI_rea (h : AInv A) (i j n : Int32) : AInv (aRea A i j n).2 := by
  unfold aRea
  split
  · exact h
  · split
    · exact h
    · show AInv (aRe2 A _ _ _)
      unfold aRe2 aRe1
      split
      · exact AI_num (AI_aL (AI_aL h (by decide)) (by decide))
      · exact AI_aL (AI_aL h (by decide)) (by decide)
theorem AI_tak (h : AInv A) (i : Int32) : AInv (aTak A i).2 := by
  unfold aTak
  split
  · exact h
  · split
    · exact h
    · exact AI_aQ (AI_aL h (by decide)) (by decide)
theorem AI_let (h : AInv A) (i j : Int32) : AInv (aLet A i j).2 := by
  unfold aLet
  split
  · rename_i s _ hs _
    split
    · exact AI_aL (AI_pkt (AI_aI h rfl) (sta_s hs).1) (by decide)
    · exact AI_aL h (by decide)
  · exact AI_aL h (by decide)
theorem AI_bea (h : AInv A) (i : Int32) : AInv (aBea A i).2 := by
  unfold aBea
  split
  · exact h
  · exact AI_tel h
theorem AI_run (h : AInv A) (n : Int32) : AInv (aRun A n).2 := by
  unfold aRun
  split
  · exact h
  · split
    · exact h
    · exact AI_itN AI_tick h _
end AC
section LW
variable {S : mS} {J : mIm} {A : aT} {Q : Int32 → mIm → Prop}
theorem lw2 (hS : Shp S) (hR : RInv J A) {R : Int32 × aT} {o : Option (Int32 × mM)} {om r : mM → Option (Int32 × mM)} (hc : pw S o (CP J R)) (hm : ∀ K, RInv K A → pw S (om (K, S)) (RP K R)) (hA : AInv R.2) (ih : ∀ K B, CInv K B → RInv K B → AInv B → pw S (r (K, S)) Q) : pw S (x_cv (J, S) 9 (some 16) o (fun x M => x_cv M 10 (some 1282) (om M) (fun y M => if x = y then r M else x_rz (0 : Int32) M))) Q := by
  refine pw_cv hS.1.1 hc (fun v K g => ?_)
  obtain ⟨rfl, g1, g2⟩ := g
  refine pw_cv (M_k hS) (hm K (RInv_same hR g2)) (fun w K2 z => ?_)
  obtain ⟨rfl, z1, z2⟩ := z
  exact pw_t rfl (ih K2 R.2 (CInv_same g1 (fun r hr => z2 r (by omega))) z1 hA)
theorem lw1 (hS : Shp S) {a : Int32} {o : Option (Int32 × mM)} {om r : mM → Option (Int32 × mM)} (hc : pw S o (fun v K => K = J ∧ v = a)) (hm : pw S (om (J, S)) (fun v K => K = J ∧ v = a)) (ih : pw S (r (J, S)) Q) : pw S (x_cv (J, S) 9 (some 16) o (fun x M => x_cv M 10 (some 1282) (om M) (fun y M => if x = y then r M else x_rz (0 : Int32) M))) Q := by
  refine pw_cv hS.1.1 hc (fun v K g => ?_)
  obtain ⟨hK, rfl⟩ := g
  rw [hK]
  refine pw_cv (M_k hS) hm (fun w K2 z => ?_)
  obtain ⟨hK2, rfl⟩ := z
  rw [hK2]
  exact pw_t rfl ih
theorem xI_e {β : Type} {L n : Nat} {xs : Nat → Int32} {i : Int32} (hi : i = nI n) (hn : n < L) (hL : L ≤ 384) (k : Int32 → Option β) : x_xI L xs i k = k (xs n) := by
  subst hi
  unfold x_xI
  rw [nI_clamp (by omega), if_pos ⟨nI_pos (by omega), hn⟩]
theorem law18 (hS : Shp S) {L : Nat} (hL : L ≤ 384) (xs : Nat → Int32) : ∀ (f m k : Nat) (J : mIm) (A : aT), f + k = 65 → f < m → CInv J A → RInv J A → AInv A → pw S (q_L_law_18 L xs m (some 16) (some 1282) (nI (6 * k)) (J, S)) (fun v _ => v = 1)
  | f, 0, k, J, A, _, h, _, _, _ => by omega
  | f, m + 1, k, J, A, hk, hm, hC, hR, hA => by
    show pw S (q_L_law_18_b _ _ _ _ _ _ _) _
    unfold q_L_law_18_b q_L_law_305 q_L_law_332 q_L_law_888
    by_cases hend : nI L - (6 : Int32) < nI (6 * k)
    · exact pw_t hend (pw_rz (Or.inr rfl) rfl)
    · refine pw_f hend ?_
      have h6 : 6 * k + 6 ≤ L := by
        rcases Nat.lt_or_ge L 6 with q | q
        · exfalso
          apply hend
          have h0 := pk_sneg (a := L) (b := 6) (by decide) q
          have h1 : ¬ nI (6 * k) < 0 := nI_pos (by omega)
          have h0 : nI L - (6 : Int32) < 0 := h0
          rw [Int32.lt_iff_toInt_lt] at h0 h1 ⊢
          omega
        · rw [show nI L - (6 : Int32) = nI (L - 6) from pk_sub (b := 6) q] at hend
          rcases Nat.lt_or_ge (L - 6) (6 * k) with w | w
          · exact absurd (nI_lt w (by omega)) hend
          · omega
      have x0 : ∀ {β : Type} (g : Int32 → Option β), x_xI L xs (nI (6 * k)) g = g (xs (6 * k)) := fun g => xI_e rfl (by omega) hL g
      have x1 : ∀ {β : Type} (g : Int32 → Option β), x_xI L xs (nI (6 * k) + 1) g = g (xs (6 * k + 1)) := fun g => xI_e (nI_add _ 1) (by omega) hL g
      have x2 : ∀ {β : Type} (g : Int32 → Option β), x_xI L xs (nI (6 * k) + 2) g = g (xs (6 * k + 2)) := fun g => xI_e (nI_add _ 2) (by omega) hL g
      have x3 : ∀ {β : Type} (g : Int32 → Option β), x_xI L xs (nI (6 * k) + 3) g = g (xs (6 * k + 3)) := fun g => xI_e (nI_add _ 3) (by omega) hL g
      have x4 : ∀ {β : Type} (g : Int32 → Option β), x_xI L xs (nI (6 * k) + 4) g = g (xs (6 * k + 4)) := fun g => xI_e (nI_add _ 4) (by omega) hL g
      have x5 : ∀ {β : Type} (g : Int32 → Option β), x_xI L xs (nI (6 * k) + 5) g = g (xs (6 * k + 5)) := fun g => xI_e (nI_add _ 5) (by omega) hL g
      have ih : ∀ K B, CInv K B → RInv K B → AInv B → pw S (q_L_law_18 L xs m (some 16) (some 1282) (nI (6 * k) + 6) (K, S)) (fun v _ => v = 1) := fun K B a b c => by
        rw [show nI (6 * k) + (6 : Int32) = nI (6 * (k + 1)) from nI_add _ 6]
        exact law18 hS hL xs (f - 1) m (k + 1) K B (by omega) (by omega) a b c
      simp only [x0, x1, x2, x3, x4, x5]
      refine pw_sc (fun _ => ?_) (fun _ => pw_sc (fun _ => ?_) (fun _ => pw_sc (fun _ => ?_) (fun _ => pw_sc (fun _ => ?_) (fun _ => pw_sc (fun _ => ?_) (fun _ => pw_sc (fun _ => ?_) (fun _ => pw_sc (fun _ => ?_) (fun _ => pw_sc (fun _ => ?_) (fun _ => pw_sc (fun _ => ?_) (fun _ => pw_sc (fun _ => ?_) (fun _ => pw_sc (fun _ => ?_) (fun _ => ?_)))))))))))
      · exact lw2 hS hR (p_C_feed hS hC _ _ _ _ _) (fun K g => p_M_feed hS g _ _ _ _ _) (AI_fee hA _ _ _ _ _) ih
      · exact lw2 hS hR (p_C_end hS hC _) (fun K g => p_M_end hS g _) (AI_end hA _) ih
      · exact lw1 hS (p_C_out hS hC _) (p_M_out hS hR _) (ih J A hC hR hA)
      · exact lw2 hS hR (p_C_bits hS hC _) (fun K g => p_M_bits hS g _) (AI_bit hA _) ih
      · exact lw2 hS hR (p_C_unbits hS hC (AI_u0 hA)) (fun K g => p_M_unbits hS g (AI_u0 hA)) (AI_unb hA) ih
      · have hh : ∀ on : Int32, (on = 0 ∨ on = 1) → pw S (x_cv (J, S) 9 (some 16) (q_C_hears (some 16) (xs (6 * k + 1)) (xs (6 * k + 2)) on (J, S)) (fun x M => x_cv M 10 (some 1282) (q_M_hears (some 1282) (xs (6 * k + 1)) (xs (6 * k + 2)) on M) (fun y M => if x = y then q_L_law_18 L xs m (some 16) (some 1282) (nI (6 * k) + 6) M else x_rz (0 : Int32) M))) (fun v _ => v = 1) := fun on hon => lw2 hS hR (p_C_hears hS hC _ _ _ hon) (fun K g => p_M_hears hS g _ _ _ hon) (AI_hea hA _ _ hon) ih
        by_cases e : xs (6 * k + 3) = 0
        · simp only [e, if_true]
          exact hh 0 (Or.inl rfl)
        · simp only [e, if_false]
          exact hh 1 (Or.inr rfl)
      · exact lw2 hS hR (p_C_tune hS hC _ _ _) (fun K g => p_M_tune hS g _ _ _) (AI_tun hA _ _ _) ih
      · exact lw2 hS hR (p_C_raw hS hC _) (fun K g => p_M_raw hS g _) (AI_raw hA _) ih
      · exact lw2 hS hR (p_C_call hS hC _ _ _ _) (fun K g => p_M_call hS g (AI_Vi hA) (AI_Cs hA) _ _ _ _) (AI_call hA _ _ _ _) ih
      · exact lw2 hS hR (p_C_leave hS hC _ _) (fun K g => p_M_leave hS g (AI_Vi hA) _ _) (AI_lea hA _ _) ih
      · exact lw2 hS hR (p_C_give hS hC _ _) (fun K g => p_M_give hS g _ _) (AI_giv hA _ _) ih
      refine pw_sc (fun _ => ?_) (fun _ => pw_sc (fun _ => ?_) (fun _ => pw_sc (fun _ => ?_) (fun _ => pw_sc (fun _ => ?_) (fun _ => pw_sc (fun _ => ?_) (fun _ => pw_sc (fun _ => ?_) (fun _ => pw_sc (fun _ => ?_) (fun _ => pw_sc (fun _ => ?_) (fun _ => pw_sc (fun _ => ?_) (fun _ => pw_sc (fun _ => ?_) (fun _ => pw_sc (fun _ => ?_) (fun _ => pw_sn (ih J A hC hR hA))))))))))))
      · exact lw2 hS hR (p_C_read hS hC _ _ _) (fun K g => p_M_read hS g (AI_Vi hA) _ _ _) (AI_rea hA _ _ _) ih
      · exact lw2 hS hR (p_C_letter hS hC _ _) (fun K g => p_M_letter2 hS g (AI_Vi hA) (AI_Cs hA) (AI_Se hA) _ _) (AI_let hA _ _) ih
      · exact lw2 hS hR (p_C_take hS hC _) (fun K g => p_M_take hS g _) (AI_tak hA _) ih
      · exact lw2 hS hR (p_C_beacon hS hC (AI_Ql hA) (AI_Se hA) _) (fun K g => p_M_beacon hS g (AI_Se hA) _) (AI_bea hA _) ih
      · exact lw2 hS hR (p_C_run hS hC hA _) (fun K g => p_M_run hS g hA _) (AI_run hA _) ih
      · exact lw1 hS (p_C_time hS hC) (p_M_time hS hR) (ih J A hC hR hA)
      · exact lw1 hS (p_C_station hS hC _ _) (p_M_station hS hR _ _) (ih J A hC hR hA)
      · exact lw1 hS (p_C_link hS hC _ _ _) (p_M_link hS hR _ _ _) (ih J A hC hR hA)
      · exact lw1 hS (p_C_route hS hC (AI_Ql hA) _ _ _ _) (p_M_route hS hR _ _ _ _) (ih J A hC hR hA)
      · exact lw1 hS (p_C_best hS hC (AI_Rs hA) _ _) (p_M_best hS hR _ _) (ih J A hC hR hA)
      · exact lw1 hS (p_C_queued hS hC _ _ _) (p_M_queued hS hR _ _ _) (ih J A hC hR hA)
end LW
