/-! a TICK: what is asked, and the class -/
def lpI (F : aT → Nat → Nat → aT) (A : aT) (s : Nat) : Nat → aT
  | 0 => A
  | o + 1 => if o = s then lpI F A s o else F (lpI F A s o) s o
def lpO (F : aT → Nat → Nat → aT) (A : aT) : Nat → aT
  | 0 => A
  | s + 1 => lpI F (lpO F A s) s 6
def aTkA (A0 A : aT) : Nat → aT
  | 0 => A
  | k + 1 => if arrv A0 k = 0 then aTkA A0 A k else aTkn (aTkA A0 A k) k
def aTl1 (A : aT) (s : Nat) : aT := if 0 < A.1 1 (9 * s + 6) then (if A.1 0 0 - A.1 0 0 / A.1 1 (9 * s + 6) * A.1 1 (9 * s + 6) = 0 then (aTel A s).2 else A) else A
def aTlA (A : aT) : Nat → aT
  | 0 => A
  | k + 1 => aTl1 (aTlA A k) k
def cntA (A : aT) : Nat → Nat
  | 0 => 0
  | k + 1 => cntA A k + (if arrv A k = 0 then 0 else 1)
def aTi (A : aT) : aT := aI A 0 0 (A.1 0 0 + 1)
def aT3 (A : aT) : aT := aSnA (aDrA (aTi A) 6) 6
def aT5 (A : aT) : aT := aTkA (aT3 A) (aLsA (aT3 A) 6) 6
def aT6 (A : aT) : aT := lpO aClk (aT5 A) 6
def aT7 (A : aT) : aT := aTlA (aT6 A) 6
def aT8 (A : aT) : aT := lpO aMsy (aT7 A) 6
section TI
variable {A : aT} {F : aT → Nat → Nat → aT}
theorem AI_lpI (hF : ∀ A s o, AInv A → isLk s o → AInv (F A s o)) {s : Nat} (hs : s < 6) (h : AInv A) : ∀ o, o ≤ 6 → AInv (lpI F A s o)
  | 0, _ => h
  | o + 1, ho => by
    unfold lpI
    split
    · exact AI_lpI hF hs h o (by omega)
    · rename_i hne
      exact hF _ s o (AI_lpI hF hs h o (by omega)) ⟨hs, by omega, hne⟩
theorem AI_lpO (hF : ∀ A s o, AInv A → isLk s o → AInv (F A s o)) (h : AInv A) : ∀ s, s ≤ 6 → AInv (lpO F A s)
  | 0, _ => h
  | s + 1, hs => AI_lpI hF (by omega) (AI_lpO hF h s (by omega)) 6 (Nat.le_refl _)
theorem AI_tkA {A0 : aT} (h : AInv A) : ∀ k, k ≤ 6 → AInv (aTkA A0 A k)
  | 0, _ => h
  | k + 1, hk => by
    unfold aTkA
    split
    · exact AI_tkA h k (by omega)
    · exact AI_tkn (AI_tkA h k (by omega)) (by omega)
theorem AI_tl1 {s : Nat} (h : AInv A) : AInv (aTl1 A s) := by
  unfold aTl1
  split
  · split
    · exact AI_tel h
    · exact h
  · exact h
theorem AI_tlA (h : AInv A) : ∀ k, AInv (aTlA A k)
  | 0 => h
  | k + 1 => AI_tl1 (AI_tlA h k)
theorem AI_T1 (h : AInv A) : AInv (aTi A) := AI_aI h rfl
theorem AI_T3 (h : AInv A) : AInv (aT3 A) := AI_snA (AI_drA (AI_T1 h) 6 (Nat.le_refl _)) 6
theorem AI_T5 (h : AInv A) : AInv (aT5 A) := AI_tkA (AI_lsA (AI_T3 h) 6 (Nat.le_refl _)) 6 (Nat.le_refl _)
theorem AI_T6 (h : AInv A) : AInv (aT6 A) := AI_lpO (fun _ _ _ => AI_clk) (AI_T5 h) 6 (Nat.le_refl _)
theorem AI_T7 (h : AInv A) : AInv (aT7 A) := AI_tlA (AI_T6 h) 6
theorem AI_T8 (h : AInv A) : AInv (aT8 A) := AI_lpO (fun _ _ _ => AI_msy) (AI_T7 h) 6 (Nat.le_refl _)
theorem awk_z {s : Nat} (h : awk A s = 0) : ∀ o, o < 6 → A.1 20 (6 * s + o) = 0 := by
  intro o ho
  unfold awk at h
  have h2 := List.length_eq_zero_iff.mp h
  have h3 := List.filter_eq_nil_iff.mp h2 o (List.mem_range.mpr ho)
  rw [decide_eq_true_eq] at h3
  exact Classical.byContradiction h3
theorem awk_le (A : aT) (s : Nat) : awk A s ≤ 6 := by
  unfold awk
  refine Nat.le_trans (List.length_filter_le _ _) ?_
  simp
theorem lpI_z (hz : ∀ A s o, AInv A → isLk s o → A.1 20 (6 * s + o) = 0 → F A s o = A) {s o : Nat} (hs : s < 6) (h : AInv (lpI F A s o)) (ha : awk (lpI F A s o) s = 0) : ∀ j, o + j ≤ 6 → lpI F A s (o + j) = lpI F A s o
  | 0, _ => rfl
  | j + 1, hj => by
    have ih := lpI_z hz hs h ha j (by omega)
    show (if o + j = s then lpI F A s (o + j) else F (lpI F A s (o + j)) s (o + j)) = _
    rw [ih]
    split
    · rfl
    · rename_i hne
      exact hz _ s (o + j) h ⟨hs, by omega, hne⟩ (awk_z ha (o + j) (by omega))
theorem clk_z {s o : Nat} (h : AInv A) (hl : isLk s o) (h0 : A.1 20 (6 * s + o) = 0) : aClk A s o = A := by
  have := (h.2.2.2.2.2 (6 * s + o) (by have := hl.1; have := hl.2.1; omega)).2.2.2.2.2.2.2.1 h0
  unfold aClk
  rw [if_neg (by rw [this]; decide)]
theorem msy_z {s o : Nat} (h0 : A.1 20 (6 * s + o) = 0) : aMsy A s o = A := by
  unfold aMsy
  rw [if_neg (by rw [h0]; decide)]
end TI
section TC
variable {S : mS} {I J I0 : mIm} {A : aT}
theorem rLn (hS : Shp S) {β : Type} {Q : β → mIm → Prop} {s o : Nat} (hs : s < 6) (ho : o < 6) {k : Option Nat → Option (β × mM)} (h1 : o = s → pw S (k none) Q) (h2 : o ≠ s → pw S (k (some (cK s o))) Q) : pw S (x_gR (I, S) 8 (some (cN s)) 6 fun a2 => x_aR (I, S) 1 a2 (nI o) k) Q := by
  obtain ⟨a1, a2, a3, a4, a5, a6, a7, a8, a9, a10, a11, a12, a13, a14, a15, a16, a17⟩ := hS.2.1 s hs
  refine pw_gR a1 a9 ?_
  by_cases e : o = s
  · exact pw_aR o a16.1 rfl (by rw [a16.2]; exact ho) (by rw [a16.2]; decide) (q := none) (by rw [e]; exact a3) (h1 e)
  · exact pw_aR o a16.1 rfl (by rw [a16.2]; exact ho) (by rw [a16.2]; decide) (hS.2.2.1 s hs o ho e).1 (h2 e)
theorem c_tc17 (hS : Shp S) {s : Nat} (hs : s < 6) (hA : AInv A) {Q : Unit → mIm → Prop} {r2 : Option Nat → Int32 → mM → Option (Unit × mM)} (cont : ∀ K, CX I0 K (lpI aClk A s 6) → pw S (r2 (some 16) (nI (s + 1)) (K, S)) Q) : ∀ (f m o : Nat) (J : mIm), o + f = 6 → f < m → CX I0 J (lpI aClk A s o) → pw S (q_C_turnClocks_17 r2 m (some 16) (nI s) (some (cN s)) (nI o) (J, S)) Q
  | f, 0, o, J, _, h, _ => by omega
  | 0, m + 1, o, J, ho, hm, hX => by
    show pw S (q_C_turnClocks_17_b _ _ _ _ _ _ _) _
    unfold q_C_turnClocks_17_b q_C_turnClocks_81
    have e : o = 6 := by omega
    subst e
    rw [show nI s + 1 = nI (s + 1) from nI_1 s]
    exact pw_f (nI_nlt (a := 6) (b := 6) (by omega) (by decide)) (cont J hX)
  | f + 1, m + 1, o, J, ho, hm, hX => by
    have ho6 : o < 6 := by omega
    have hB := AI_lpI (fun _ _ _ => AI_clk) hs hA o (by omega)
    show pw S (q_C_turnClocks_17_b _ _ _ _ _ _ _) _
    unfold q_C_turnClocks_17_b q_C_turnClocks_81 q_C_turnClocks_75
    rw [show nI s + 1 = nI (s + 1) from nI_1 s, show nI o + 1 = nI (o + 1) from nI_1 o]
    refine pw_t (nI_lt (b := 6) ho6 (by decide)) (gN11 hS hs hX ?_)
    have haw := awk_le (lpI aClk A s o) s
    have ea : lpI aClk A s (o + 1) = if o = s then lpI aClk A s o else aClk (lpI aClk A s o) s o := rfl
    have ih : ∀ J, CX I0 J (lpI aClk A s (o + 1)) → pw S (q_C_turnClocks_17 r2 m (some 16) (nI s) (some (cN s)) (nI (o + 1)) (J, S)) Q := fun J g => c_tc17 hS hs hA cont f m (o + 1) J (by omega) (by omega) g
    by_cases e0 : awk (lpI aClk A s o) s = 0
    · refine pw_f (by rw [e0]; decide) (cont J ?_)
      have := lpI_z (fun _ _ _ a b c => clk_z a b c) hs hB e0 (6 - o) (by omega)
      rw [show o + (6 - o) = 6 by omega] at this
      rw [this]
      exact hX
    · refine pw_t (n_gt0 (by omega) (by omega)) (rLn hS hs ho6 (fun e => ?_) (fun e => ?_))
      · rw [if_pos e] at ea
        exact pw_nn (ih J (by rw [ea]; exact hX))
      · rw [if_neg e] at ea
        have hl : isLk s o := ⟨hs, ho6, e⟩
        have ih2 : ∀ J, CX I0 J (aClk (lpI aClk A s o) s o) → pw S (q_C_turnClocks_17 r2 m (some 16) (nI s) (some (cN s)) (nI (o + 1)) (J, S)) Q := fun J g => ih J (by rw [ea]; exact g)
        generalize lpI aClk A s o = B at hX ih2
        refine pw_ns (gK hS hl hX (f := 27) rfl ?_)
        by_cases e1 : 0 < B.1 27 (6 * s + o)
        · refine pw_t e1 (gK hS hl hX (f := 27) rfl (sK hS hl hX (f := 27) rfl (by decide) (fun J1 g1 => gK hS hl g1 (f := 27) rfl ?_)))
          by_cases e2 : (aI B 27 (6 * s + o) (B.1 27 (6 * s + o) - 1)).1 27 (6 * s + o) = 0
          · exact pw_t e2 (pw_cl (c_tryAgain hS hl g1) (fun _ J2 g2 => ih2 J2 (by unfold aClk aCk2; rw [if_pos e1, if_pos e2]; exact g2)))
          · exact pw_f e2 (ih2 J1 (by unfold aClk aCk2; rw [if_pos e1, if_neg e2]; exact g1))
        · exact pw_f e1 (ih2 J (by unfold aClk; rw [if_neg e1]; exact hX))
theorem c_tc2 (hS : Shp S) (hA : AInv A) : ∀ (f m s : Nat) (J : mIm), s + f = 6 → f < m → CX I0 J (lpO aClk A s) → pw S (q_C_turnClocks_2 m (some 16) (nI s) (J, S)) (CU I0 (lpO aClk A 6))
  | f, 0, s, J, _, h, _ => by omega
  | 0, m + 1, s, J, hs, hm, hX => by
    show pw S (q_C_turnClocks_2_b _ _ _ _) _
    unfold q_C_turnClocks_2_b
    have e : s = 6 := by omega
    subst e
    exact pw_f (nI_nlt (a := 6) (b := 6) (by omega) (by decide)) (pw_ret hX)
  | f + 1, m + 1, s, J, hs, hm, hX => by
    have hs6 : s < 6 := by omega
    show pw S (q_C_turnClocks_2_b _ _ _ _) _
    unfold q_C_turnClocks_2_b
    exact pw_t (nI_lt (b := 6) hs6 (by decide)) (rSt hS hs6 (c_tc17 hS hs6 (AI_lpO (fun _ _ _ => AI_clk) hA s (by omega)) (fun K g => c_tc2 hS hA f m (s + 1) K (by omega) (by omega) g) 6 mFU 0 J (by omega) (by unfold mFU; omega) hX))
theorem c_turnClocks (hS : Shp S) (hA : AInv A) (hX : CX I0 I A) : pw S (q_C_turnClocks (some 16) (I, S)) (CU I0 (lpO aClk A 6)) := c_tc2 hS hA 6 mFU 0 I (by omega) (by unfold mFU; omega) hX
theorem c_sw17 (hS : Shp S) {s : Nat} (hs : s < 6) (hA : AInv A) {Q : Unit → mIm → Prop} {r2 : Option Nat → Int32 → mM → Option (Unit × mM)} (cont : ∀ K, CX I0 K (lpI aMsy A s 6) → pw S (r2 (some 16) (nI (s + 1)) (K, S)) Q) : ∀ (f m o : Nat) (J : mIm), o + f = 6 → f < m → CX I0 J (lpI aMsy A s o) → pw S (q_C_sayWhatMayBeSaid_17 r2 m (some 16) (nI s) (some (cN s)) (nI o) (J, S)) Q
  | f, 0, o, J, _, h, _ => by omega
  | 0, m + 1, o, J, ho, hm, hX => by
    show pw S (q_C_sayWhatMayBeSaid_17_b _ _ _ _ _ _ _) _
    unfold q_C_sayWhatMayBeSaid_17_b q_C_sayWhatMayBeSaid_71
    have e : o = 6 := by omega
    subst e
    rw [show nI s + 1 = nI (s + 1) from nI_1 s]
    exact pw_f (nI_nlt (a := 6) (b := 6) (by omega) (by decide)) (cont J hX)
  | f + 1, m + 1, o, J, ho, hm, hX => by
    have ho6 : o < 6 := by omega
    have hB := AI_lpI (fun _ _ _ => AI_msy) hs hA o (by omega)
    show pw S (q_C_sayWhatMayBeSaid_17_b _ _ _ _ _ _ _) _
    unfold q_C_sayWhatMayBeSaid_17_b q_C_sayWhatMayBeSaid_71 q_C_sayWhatMayBeSaid_65
    rw [show nI s + 1 = nI (s + 1) from nI_1 s, show nI o + 1 = nI (o + 1) from nI_1 o]
    refine pw_t (nI_lt (b := 6) ho6 (by decide)) (gN11 hS hs hX ?_)
    have haw := awk_le (lpI aMsy A s o) s
    have ea : lpI aMsy A s (o + 1) = if o = s then lpI aMsy A s o else aMsy (lpI aMsy A s o) s o := rfl
    have ih : ∀ J, CX I0 J (lpI aMsy A s (o + 1)) → pw S (q_C_sayWhatMayBeSaid_17 r2 m (some 16) (nI s) (some (cN s)) (nI (o + 1)) (J, S)) Q := fun J g => c_sw17 hS hs hA cont f m (o + 1) J (by omega) (by omega) g
    by_cases e0 : awk (lpI aMsy A s o) s = 0
    · refine pw_f (by rw [e0]; decide) (cont J ?_)
      have := lpI_z (fun _ _ _ _ _ c => msy_z c) hs hB e0 (6 - o) (by omega)
      rw [show o + (6 - o) = 6 by omega] at this
      rw [this]
      exact hX
    · refine pw_t (n_gt0 (by omega) (by omega)) (rLn hS hs ho6 (fun e => ?_) (fun e => ?_))
      · rw [if_pos e] at ea
        exact pw_nn (ih J (by rw [ea]; exact hX))
      · rw [if_neg e] at ea
        have hl : isLk s o := ⟨hs, ho6, e⟩
        have ih2 : ∀ J, CX I0 J (aMsy (lpI aMsy A s o) s o) → pw S (q_C_sayWhatMayBeSaid_17 r2 m (some 16) (nI s) (some (cN s)) (nI (o + 1)) (J, S)) Q := fun J g => ih J (by rw [ea]; exact g)
        generalize lpI aMsy A s o = B at hX ih2
        refine pw_ns (gK hS hl hX (f := 20) rfl ?_)
        by_cases e1 : B.1 20 (6 * s + o) = 2
        · refine pw_t e1 (pw_cv (cK_k hS hl) (c_hasWork hS hl hX) (fun v K g => ?_))
          obtain ⟨hK, h01, hiff⟩ := g
          rw [hK]
          rcases h01 with w | w
          · exact pw_t w (ih2 J (by unfold aMsy; rw [if_pos e1, @if_neg _ (dcW _ _) (fun q => by have := hiff.mpr q; rw [w] at this; exact absurd this (by decide))]; exact hX))
          · exact pw_f (by rw [w]; decide) (pw_cl (c_sayNext hS hl hX) (fun _ J2 g2 => ih2 J2 (by unfold aMsy; rw [if_pos e1, @if_pos _ (dcW _ _) (hiff.mp w)]; exact g2)))
        · exact pw_f e1 (ih2 J (by unfold aMsy; rw [if_neg e1]; exact hX))
theorem c_sw2 (hS : Shp S) (hA : AInv A) : ∀ (f m s : Nat) (J : mIm), s + f = 6 → f < m → CX I0 J (lpO aMsy A s) → pw S (q_C_sayWhatMayBeSaid_2 m (some 16) (nI s) (J, S)) (CU I0 (lpO aMsy A 6))
  | f, 0, s, J, _, h, _ => by omega
  | 0, m + 1, s, J, hs, hm, hX => by
    show pw S (q_C_sayWhatMayBeSaid_2_b _ _ _ _) _
    unfold q_C_sayWhatMayBeSaid_2_b
    have e : s = 6 := by omega
    subst e
    exact pw_f (nI_nlt (a := 6) (b := 6) (by omega) (by decide)) (pw_ret hX)
  | f + 1, m + 1, s, J, hs, hm, hX => by
    have hs6 : s < 6 := by omega
    show pw S (q_C_sayWhatMayBeSaid_2_b _ _ _ _) _
    unfold q_C_sayWhatMayBeSaid_2_b
    exact pw_t (nI_lt (b := 6) hs6 (by decide)) (rSt hS hs6 (c_sw17 hS hs6 (AI_lpO (fun _ _ _ => AI_msy) hA s (by omega)) (fun K g => c_sw2 hS hA f m (s + 1) K (by omega) (by omega) g) 6 mFU 0 J (by omega) (by unfold mFU; omega) hX))
theorem c_sayWhat (hS : Shp S) (hA : AInv A) (hX : CX I0 I A) : pw S (q_C_sayWhatMayBeSaid (some 16) (I, S)) (CU I0 (lpO aMsy A 6)) := c_sw2 hS hA 6 mFU 0 I (by omega) (by unfold mFU; omega) hX
theorem c_tr2 (hS : Shp S) (hA : AInv A) : ∀ (f m k : Nat) (J : mIm), k + f = 6 → f < m → CX I0 J (aTlA A k) → pw S (q_C_tellRoutesInTime_2 m (some 16) (nI k) (J, S)) (CU I0 (aTlA A 6))
  | f, 0, k, J, _, h, _ => by omega
  | 0, m + 1, k, J, hk, hm, hX => by
    show pw S (q_C_tellRoutesInTime_2_b _ _ _ _) _
    unfold q_C_tellRoutesInTime_2_b
    have e : k = 6 := by omega
    subst e
    exact pw_f (nI_nlt (a := 6) (b := 6) (by omega) (by decide)) (pw_ret hX)
  | f + 1, m + 1, k, J, hk, hm, hX => by
    have hs : k < 6 := by omega
    have k1 := hS.1.1
    have hB := AI_tlA hA k
    show pw S (q_C_tellRoutesInTime_2_b _ _ _ _) _
    unfold q_C_tellRoutesInTime_2_b q_C_tellRoutesInTime_44
    rw [show nI k + 1 = nI (k + 1) from nI_1 k]
    have ea : aTlA A (k + 1) = aTl1 (aTlA A k) k := rfl
    have ih : ∀ J, CX I0 J (aTlA A (k + 1)) → pw S (q_C_tellRoutesInTime_2 m (some 16) (nI (k + 1)) (J, S)) (CU I0 (aTlA A 6)) := fun J g => c_tr2 hS hA f m (k + 1) J (by omega) (by omega) g
    refine pw_t (nI_lt (b := 6) hs (by decide)) (rSt hS hs (rN hS hs (q := cN k + 1) rfl (gT hS hs hX 6 rfl (by decide) ?_)))
    unfold aTl1 at ea
    by_cases e1 : 0 < (aTlA A k).1 1 (9 * k + 6)
    · rw [if_pos e1] at ea
      refine pw_t e1 (pw_gE k1 hX.1.1.1 ?_)
      have hne : ¬ (aTlA A k).1 1 (9 * k + 6) = 0 := fun q => by rw [q] at e1; exact absurd e1 (by decide)
      unfold x_rm
      rw [if_neg hne]
      by_cases e2 : (aTlA A k).1 0 0 - (aTlA A k).1 0 0 / (aTlA A k).1 1 (9 * k + 6) * (aTlA A k).1 1 (9 * k + 6) = 0
      · rw [if_pos e2] at ea
        exact pw_t e2 (rSt hS hs (pw_cl (c_tellRoutes hS hs hX (AI_Ql hB) (AI_Se hB)) (fun v J2 g2 => ih J2 (by rw [ea]; exact g2.2))))
      · rw [if_neg e2] at ea
        exact pw_f e2 (ih J (by rw [ea]; exact hX))
    · rw [if_neg e1] at ea
      exact pw_f e1 (ih J (by rw [ea]; exact hX))
theorem c_tellIn (hS : Shp S) (hA : AInv A) (hX : CX I0 I A) : pw S (q_C_tellRoutesInTime (some 16) (I, S)) (CU I0 (aTlA A 6)) := c_tr2 hS hA 6 mFU 0 I (by omega) (by unfold mFU; omega) hX
end TC
