/-! a TICK, run: the reference -/
def RT (I0 I : mIm) (A : aT) : Prop := RInv I A ∧ ∀ r, r < 1282 → I r = I0 r
theorem RX_RT {I0 I K : mIm} {A B : aT} (h : RT I0 I A) (g : RX I K B) : RT I0 K B := ⟨g.1, fun r hr => by rw [g.2.1 r (Or.inl hr)]; exact h.2 r hr⟩
section TM
variable {S : mS} {I J I0 : mIm} {A : aT}
theorem t215 (hS : Shp S) {s : Nat} (hs : s < 6) (hA : AInv A) {Q : Int32 → mIm → Prop} {r207 : Option Nat → Int32 → Int32 → mM → Option (Int32 × mM)} {i1 : Int32} (cont : ∀ K, RT I0 K (lpI aMsy A s 6) → pw S (r207 (some 1282) i1 (nI (s + 1)) (K, S)) Q) : ∀ (f m o : Nat) (J : mIm), o + f = 6 → f < m → RT I0 J (lpI aMsy A s o) → pw S (q_M_tick_215 r207 m (some 1282) i1 (nI s) (nI o) (J, S)) Q
  | f, 0, o, J, _, h, _ => by omega
  | 0, m + 1, o, J, ho, hm, hX => by
    show pw S (q_M_tick_215_b _ _ _ _ _ _ _) _
    unfold q_M_tick_215_b
    have e : o = 6 := by omega
    subst e
    rw [show nI s + 1 = nI (s + 1) from nI_1 s]
    exact pw_f (nI_nlt (a := 6) (b := 6) (by omega) (by decide)) (cont J hX)
  | f + 1, m + 1, o, J, ho, hm, hX => by
    have ho6 : o < 6 := by omega
    have hB := AI_lpI (fun _ _ _ => AI_msy) hs hA o (by omega)
    have ea : lpI aMsy A s (o + 1) = if o = s then lpI aMsy A s o else aMsy (lpI aMsy A s o) s o := rfl
    have ih : ∀ J, RT I0 J (lpI aMsy A s (o + 1)) → pw S (q_M_tick_215 r207 m (some 1282) i1 (nI s) (nI (o + 1)) (J, S)) Q := fun J g => t215 hS hs hA cont f m (o + 1) J (by omega) (by omega) g
    show pw S (q_M_tick_215_b _ _ _ _ _ _ _) _
    unfold q_M_tick_215_b q_M_tick_232
    rw [show nI o + 1 = nI (o + 1) from nI_1 o]
    refine pw_t (nI_lt (b := 6) ho6 (by decide)) ?_
    by_cases e : o = s
    · rw [if_pos e] at ea
      exact pw_t (by rw [e]) (ih J (by rw [ea]; exact hX))
    · rw [if_neg e] at ea
      refine pw_f (fun q => e ((nI_eq (by omega) (by omega)).mp q).symm) (pw_cv (M_k hS) (r_maySay hS ⟨hs, ho6, e⟩ (RX_0 hX.1) hB) (fun _ K g => ih K ?_))
      rw [ea]
      exact RX_RT hX g
theorem t207 (hS : Shp S) (hA : AInv A) (i1 : Int32) : ∀ (f m s : Nat) (J : mIm), s + f = 6 → f < m → RT I0 J (lpO aMsy A s) → pw S (q_M_tick_207 m (some 1282) i1 (nI s) (J, S)) (fun v K => v = i1 ∧ RT I0 K (lpO aMsy A 6))
  | f, 0, s, J, _, h, _ => by omega
  | 0, m + 1, s, J, hs, hm, hX => by
    show pw S (q_M_tick_207_b _ _ _ _ _) _
    unfold q_M_tick_207_b
    have e : s = 6 := by omega
    subst e
    exact pw_f (nI_nlt (a := 6) (b := 6) (by omega) (by decide)) (pw_ret ⟨rfl, hX⟩)
  | f + 1, m + 1, s, J, hs, hm, hX => by
    have hs6 : s < 6 := by omega
    show pw S (q_M_tick_207_b _ _ _ _ _) _
    unfold q_M_tick_207_b
    exact pw_t (nI_lt (b := 6) hs6 (by decide)) (t215 hS hs6 (AI_lpO (fun _ _ _ => AI_msy) hA s (by omega)) (fun K g => t207 hS hA i1 f m (s + 1) K (by omega) (by omega) g) 6 mFU 0 J (by omega) (by unfold mFU; omega) hX)
theorem t161 (hS : Shp S) (hA : AInv A) (i1 : Int32) : ∀ (f m k : Nat) (J : mIm), k + f = 6 → f < m → RT I0 J (aTlA A k) → pw S (q_M_tick_161 m (some 1282) i1 (nI k) (J, S)) (fun v K => v = i1 ∧ RT I0 K (lpO aMsy (aTlA A 6) 6))
  | f, 0, k, J, _, h, _ => by omega
  | 0, m + 1, k, J, hk, hm, hX => by
    show pw S (q_M_tick_161_b _ _ _ _ _) _
    unfold q_M_tick_161_b
    have e : k = 6 := by omega
    subst e
    exact pw_f (nI_nlt (a := 6) (b := 6) (by omega) (by decide)) (t207 hS (AI_tlA hA 6) i1 6 mFU 0 J (by omega) (by unfold mFU; omega) hX)
  | f + 1, m + 1, k, J, hk, hm, hX => by
    have hs : k < 6 := by omega
    have hM := M_k hS
    have hB := AI_tlA hA k
    have ih2 : ∀ J, RT I0 J (aTl1 (aTlA A k) k) → pw S (q_M_tick_161 m (some 1282) i1 (nI (k + 1)) (J, S)) (fun v K => v = i1 ∧ RT I0 K (lpO aMsy (aTlA A 6) 6)) := fun J g => t161 hS hA i1 f m (k + 1) J (by omega) (by omega) g
    show pw S (q_M_tick_161_b _ _ _ _ _) _
    unfold q_M_tick_161_b q_M_tick_199
    rw [show nI k + 1 = nI (k + 1) from nI_1 k]
    generalize aTlA A k = B at hX hB ih2
    refine pw_t (nI_lt (b := 6) hs (by decide)) (rM hS (r := 1294) rfl (gA hS (RX_0 hX.1) (r := 1294) (9 * k + 6) rfl (n_lin 9 k 6) (by omega) ?_))
    by_cases e1 : 0 < B.1 1 (9 * k + 6)
    · refine pw_t e1 (pw_gE hM hX.1.1.1 ?_)
      have hne : ¬ B.1 1 (9 * k + 6) = 0 := fun q => by rw [q] at e1; exact absurd e1 (by decide)
      unfold x_rm
      rw [if_neg hne]
      by_cases e2 : B.1 0 0 - B.1 0 0 / B.1 1 (9 * k + 6) * B.1 1 (9 * k + 6) = 0
      · refine pw_t e2 (pw_cv hM (r_tells hS hs (RX_0 hX.1) (AI_Se hB)) (fun v K g => ih2 K ?_))
        unfold aTl1
        rw [if_pos e1, if_pos e2]
        exact RX_RT hX g.2
      · refine pw_f e2 (ih2 J ?_)
        unfold aTl1
        rw [if_pos e1, if_neg e2]
        exact hX
    · refine pw_f e1 (ih2 J ?_)
      unfold aTl1
      rw [if_neg e1]
      exact hX
theorem t130 (hS : Shp S) {s : Nat} (hs : s < 6) (hA : AInv A) {Q : Int32 → mIm → Prop} {r122 : Option Nat → Int32 → Int32 → mM → Option (Int32 × mM)} {i1 : Int32} (cont : ∀ K, RT I0 K (lpI aClk A s 6) → pw S (r122 (some 1282) i1 (nI (s + 1)) (K, S)) Q) : ∀ (f m o : Nat) (J : mIm), o + f = 6 → f < m → RT I0 J (lpI aClk A s o) → pw S (q_M_tick_130 r122 m (some 1282) i1 (nI s) (nI o) (J, S)) Q
  | f, 0, o, J, _, h, _ => by omega
  | 0, m + 1, o, J, ho, hm, hX => by
    show pw S (q_M_tick_130_b _ _ _ _ _ _ _) _
    unfold q_M_tick_130_b
    have e : o = 6 := by omega
    subst e
    rw [show nI s + 1 = nI (s + 1) from nI_1 s]
    exact pw_f (nI_nlt (a := 6) (b := 6) (by omega) (by decide)) (cont J hX)
  | f + 1, m + 1, o, J, ho, hm, hX => by
    have ho6 : o < 6 := by omega
    have hB := AI_lpI (fun _ _ _ => AI_clk) hs hA o (by omega)
    have ea : lpI aClk A s (o + 1) = if o = s then lpI aClk A s o else aClk (lpI aClk A s o) s o := rfl
    have ih : ∀ J, RT I0 J (lpI aClk A s (o + 1)) → pw S (q_M_tick_130 r122 m (some 1282) i1 (nI s) (nI (o + 1)) (J, S)) Q := fun J g => t130 hS hs hA cont f m (o + 1) J (by omega) (by omega) g
    show pw S (q_M_tick_130_b _ _ _ _ _ _ _) _
    unfold q_M_tick_130_b q_M_tick_147
    rw [show nI o + 1 = nI (o + 1) from nI_1 o]
    refine pw_t (nI_lt (b := 6) ho6 (by decide)) ?_
    by_cases e : o = s
    · rw [if_pos e] at ea
      exact pw_t (by rw [e]) (ih J (by rw [ea]; exact hX))
    · rw [if_neg e] at ea
      refine pw_f (fun q => e ((nI_eq (by omega) (by omega)).mp q).symm) (pw_cv (M_k hS) (r_clockGoes hS ⟨hs, ho6, e⟩ (RX_0 hX.1) hB) (fun _ K g => ih K ?_))
      rw [ea]
      exact RX_RT hX g
theorem t122 (hS : Shp S) (hA : AInv A) (i1 : Int32) : ∀ (f m s : Nat) (J : mIm), s + f = 6 → f < m → RT I0 J (lpO aClk A s) → pw S (q_M_tick_122 m (some 1282) i1 (nI s) (J, S)) (fun v K => v = i1 ∧ RT I0 K (lpO aMsy (aTlA (lpO aClk A 6) 6) 6))
  | f, 0, s, J, _, h, _ => by omega
  | 0, m + 1, s, J, hs, hm, hX => by
    show pw S (q_M_tick_122_b _ _ _ _ _) _
    unfold q_M_tick_122_b
    have e : s = 6 := by omega
    subst e
    have h6 := AI_lpO (fun _ _ _ => AI_clk) hA 6 (Nat.le_refl _)
    exact pw_f (nI_nlt (a := 6) (b := 6) (by omega) (by decide)) (t161 hS h6 i1 6 mFU 0 J (by omega) (by unfold mFU; omega) hX)
  | f + 1, m + 1, s, J, hs, hm, hX => by
    have hs6 : s < 6 := by omega
    show pw S (q_M_tick_122_b _ _ _ _ _) _
    unfold q_M_tick_122_b
    exact pw_t (nI_lt (b := 6) hs6 (by decide)) (t130 hS hs6 (AI_lpO (fun _ _ _ => AI_clk) hA s (by omega)) (fun K g => t122 hS hA i1 f m (s + 1) K (by omega) (by omega) g) 6 mFU 0 J (by omega) (by unfold mFU; omega) hX)
theorem arr_len {A : aT} {k : Nat} (hk : k < 6) (h : AInv A) (hr : ¬ arrv A k = 0) : 15 ≤ ((aLsA A (k + 1)).2.1 3 k).length := by
  have hB := AI_lsA h k (by omega)
  have e1 : arrv A k = (aLis (aLsA A k) k).1 := rfl
  have e2 : aLsA A (k + 1) = (aLis (aLsA A k) k).2 := rfl
  rw [e1] at hr
  rw [e2]
  generalize aLsA A k = B at hB hr ⊢
  have ht : ((aLis B k).2.2.1 3 k) = (aRt (aLis B k).2 k).2.2.2.2 := rfl
  rw [ht, aLis_t]
  unfold aLis at hr
  by_cases hc : aCar B k = true
  · rw [if_pos hc] at hr ⊢
    unfold aLs2 at hr
    by_cases hq : (rHr (aRt B k) (aLv B k)).1 = 0
    · rw [if_pos hq] at hr
      exact absurd rfl hr
    · obtain ⟨o1, o2, o3⟩ := AI_Rk hB k (by omega)
      generalize aRt B k = R at hq o1 o2 o3 ⊢
      unfold rHr at hq ⊢
      by_cases q1 : aLv B k = R.2.1
      · rw [if_pos q1] at hq
        by_cases q2 : R.2.2.1 + 1 < 7
        · rw [if_pos q2] at hq; exact absurd rfl hq
        · rw [if_neg q2] at hq; exact absurd rfl hq
      · rw [if_neg q1] at hq ⊢
        by_cases q2 : R.2.2.1 = 6
        · rw [if_pos q2] at hq ⊢
          unfold rH6 at hq ⊢
          by_cases q3 : R.1 = 0
          · rw [if_pos q3] at hq; exact absurd rfl hq
          · rw [if_neg q3] at hq ⊢
            cases hF : rFm R.2.2.2.1 with
            | none => rw [hF] at hq; exact absurd rfl hq
            | some F => exact (rFm_ok hF o2).2.1
        · rw [if_neg q2] at hq
          by_cases q3 : R.2.2.1 = 5
          · rw [if_pos q3] at hq; exact absurd rfl hq
          · rw [if_neg q3] at hq; exact absurd rfl hq
  · rw [if_neg hc] at hr
    exact absurd rfl hr
theorem lsA_keep {A : aT} {k : Nat} : ∀ j, (aLsA A (k + 1 + j)).2.1 3 k = (aLsA A (k + 1)).2.1 3 k
  | 0 => rfl
  | j + 1 => by
    show (aLis (aLsA A (k + 1 + j)) (k + 1 + j)).2.2.1 3 k = _
    rw [aLis_2 (Or.inr (by omega)), lsA_keep j]
theorem lrn_3 {s n : Nat} {p : Int32} : ∀ (l : List Int32) (B : aT), (lrn s n p l B).2.1 3 = B.2.1 3
  | [], B => rfl
  | [_], B => rfl
  | [_, _], B => rfl
  | d :: b :: q :: t, B => by
    show (lrn s n p t (lr1 B s n p d b q)).2.1 3 = _
    rw [lrn_3 t]
    unfold lr1
    split
    · rfl
    · split <;> rfl
theorem agN_3 {s o : Nat} : ∀ (k i : Nat) (B : aT), (agN s o k i B).2.1 3 = B.2.1 3
  | 0, _, _ => rfl
  | k + 1, i, B => by
    unfold agN
    split
    · rw [agN_3 k]
      unfold aInf
      rw [aEnq_21]
    · rfl
theorem aga_3 {A : aT} {s o : Nat} : (aAga A s o).2.1 3 = A.2.1 3 := by
  unfold aAga
  split
  · rfl
  · rw [agN_3]
    rfl
theorem aL_3 {A : aT} {f k : Nat} {x : List Int32} (h : 3 ≠ f) : (aL A f k x).2.1 3 = A.2.1 3 := by
  funext i
  exact aL_f _ _ _ _ h
theorem pkt_3 {A : aT} {s : Nat} {p : List Int32} : (aPkt A s p).2.1 3 = A.2.1 3 := by
  unfold aPkt
  split
  · split
    · split
      · unfold aPml
        split <;> rfl
      · split
        · rfl
        · unfold aPgo
          split
          · split
            · rfl
            · unfold aP2
              split
              · show (aP1 A s _).2.1 3 = _
                exact aP1_3
              · show (aP1 A s _).2.1 3 = _
                exact aP1_3
          · rfl
    · rfl
  · rfl
theorem s79_3 {A : aT} {s o : Nat} {k : Int32} : (aS79 A s o k).2.1 3 = A.2.1 3 := by
  unfold aS79
  split
  · split
    · exact aga_3
    · rfl
  · rfl
theorem to_3 {A : aT} {s : Nat} {D : pD} {l : List Int32} : (aTo A s D l).2.1 3 = A.2.1 3 := by
  have hE : ∀ (B : aT) (x : Nat) (y : List Int32), (aEnq B x y).2.1 3 = B.2.1 3 := fun B x y => by rw [aEnq_21]
  have hAn : ∀ (B : aT) (k : Int32), (aAns B s D k).2.1 3 = B.2.1 3 := fun B k => hE _ _ _
  have hSy : ∀ (B : aT) (o : Nat) (c i : Int32), (aSay B s o c i).2.1 3 = B.2.1 3 := fun B o c i => hE _ _ _
  have hdm : (aDm A s D).2.1 3 = A.2.1 3 := by
    unfold aDm
    split
    · rfl
    · exact hAn _ _
  have hDn : ∀ (B : aT) (j : Nat), (aDn B j).2.1 3 = B.2.1 3 := fun B j => aDn_21 (by decide)
  unfold aTo
  split
  · have h3 : ∀ B, (aSb3 B s D).2.1 3 = B.2.1 3 := fun B => by
      unfold aSb3
      rw [hAn]
      show (aL (aRst B (6 * s + D.1) 2) 11 (6 * s + D.1) []).2.1 3 = _
      rw [aL_3 (by decide)]
      unfold aRst
      rw [aQ_2, aL_3 (by decide)]
      rfl
    have hb1 : (aSb1 A s D).2.1 3 = A.2.1 3 := by
      unfold aSb1
      split
      · exact hAn _ _
      · split
        · rfl
        · split
          · rfl
          · unfold aSb2
            split
            · split
              · rw [hAn]; rfl
              · rw [h3]; rfl
            · rw [h3]; rfl
    unfold aSab
    by_cases c : (if nI s < nI D.1 then (1 : Int32) else 0) = (if D.2.2 2 < 128 then 0 else 1)
    · rw [if_pos c]; exact hb1
    · rw [if_neg c]
  · split
    · split
      · exact hdm
      · split
        · unfold aUp
          split
          · split
            · exact aAck_3
            · refine Eq.trans ?_ (aAck_3 (A := A) (s := s) (o := D.1) (r := D.2.2 6))
              unfold aTin
              split
              · split
                · unfold aRd aNum aTi2
                  rw [hSy]
                  split
                  · rw [pkt_3]; rfl
                  · rw [aL_3 (by decide)]; rfl
                · unfold aRd aNum
                  rw [hSy]
              · split
                · show (aSay _ s D.1 _ 0).2.1 3 = _
                  rw [hSy]
                · rfl
          · split
            · exact hDn _ _
            · split
              · rw [hDn, hSy]
              · split
                · rfl
                · split
                  · exact aAck_3
                  · refine Eq.trans ?_ (aAck_3 (A := A) (s := s) (o := D.1) (r := D.2.2 6))
                    unfold aSup
                    have h33 : ∀ B c p k, (aS33 B s D.1 c p k).2.1 3 = B.2.1 3 := fun B c p k => by
                      unfold aS33
                      split
                      · split
                        · exact s79_3
                        · split
                          · exact s79_3
                          · rw [aga_3]; rfl
                      · exact s79_3
                    unfold aS102
                    split
                    · rw [h33]; rfl
                    · split
                      · rw [h33]; rfl
                      · unfold aNum
                        rw [hSy, h33]
                        rfl
        · unfold aWai
          split
          · exact hDn _ _
          · split
            · split
              · exact hDn _ _
              · rfl
            · split
              · split
                · exact hSy _ _ _ _
                · rfl
              · rfl
    · exact hdm
theorem tkn_3 {A : aT} {s : Nat} : (aTkn A s).2.1 3 = A.2.1 3 := by
  unfold aTkn
  split
  · unfold aTk1
    split
    · unfold aRep
      split
      · rw [aEnq_21]
      · rfl
    · unfold aTk2
      split
      · split
        · rfl
        · unfold aLrn
          rw [lrn_3]
          rfl
      · split
        · exact to_3
        · rfl
  · rfl
theorem tkA_3 {A0 A : aT} : ∀ k, (aTkA A0 A k).2.1 3 = A.2.1 3
  | 0 => rfl
  | k + 1 => by
    unfold aTkA
    split
    · exact tkA_3 k
    · rw [tkn_3, tkA_3 k]
theorem t94 (hS : Shp S) {A0 : aT} (hA0 : AInv A0) (i1 : Int32) : ∀ (f m k : Nat) (J : mIm), k + f = 6 → f < m → RT I0 J (aTkA A0 (aLsA A0 6) k) → (∀ i, i < 6 → J 1312 i = arrv A0 i) → pw S (q_M_tick_94 m (some 1282) i1 (nI k) (J, S)) (fun v K => v = i1 ∧ RT I0 K (lpO aMsy (aTlA (lpO aClk (aTkA A0 (aLsA A0 6) 6) 6) 6) 6))
  | f, 0, k, J, _, h, _, _ => by omega
  | 0, m + 1, k, J, hk, hm, hX, h12 => by
    show pw S (q_M_tick_94_b _ _ _ _ _) _
    unfold q_M_tick_94_b
    have e : k = 6 := by omega
    subst e
    have h5 := AI_tkA (A0 := A0) (AI_lsA hA0 6 (Nat.le_refl _)) 6 (Nat.le_refl _)
    exact pw_f (nI_nlt (a := 6) (b := 6) (by omega) (by decide)) (t122 hS h5 i1 6 mFU 0 J (by omega) (by unfold mFU; omega) hX)
  | f + 1, m + 1, k, J, hk, hm, hX, h12 => by
    have hs : k < 6 := by omega
    have hM := M_k hS
    have a12 := aK_in hS (r := 1312) (t := 1) (n := 6) rfl
    have h4 := AI_lsA hA0 6 (Nat.le_refl _)
    have hB := AI_tkA (A0 := A0) h4 k (by omega)
    have ea : aTkA A0 (aLsA A0 6) (k + 1) = if arrv A0 k = 0 then aTkA A0 (aLsA A0 6) k else aTkn (aTkA A0 (aLsA A0 6) k) k := rfl
    have h15 : ¬ arrv A0 k = 0 → 15 ≤ ((aTkA A0 (aLsA A0 6) k).2.1 3 k).length := fun q => by
      rw [tkA_3]
      have := lsA_keep (A := A0) (k := k) (5 - k)
      rw [show k + 1 + (5 - k) = 6 by omega] at this
      rw [this]
      exact arr_len hs hA0 q
    show pw S (q_M_tick_94_b _ _ _ _ _) _
    unfold q_M_tick_94_b q_M_tick_114
    rw [show nI k + 1 = nI (k + 1) from nI_1 k]
    refine pw_t (nI_lt (b := 6) hs (by decide)) (rM hS (r := 1312) rfl (pw_aI k a12.1 rfl (by omega) (by omega) ?_))
    rw [h12 k hs]
    by_cases e0 : arrv A0 k = 0
    · rw [if_pos e0] at ea
      exact pw_t e0 (t94 hS hA0 i1 f m (k + 1) J (by omega) (by omega) (by rw [ea]; exact hX) h12)
    · rw [if_neg e0] at ea
      refine pw_f e0 (pw_cv hM (r_taken (I0 := J) hS hs ⟨hX.1, fun _ _ => rfl⟩ (AI_Rk hB k (by omega)).2.2.1 (h15 e0) (AI_Vi hB) (AI_Cs hB) (AI_Se hB) (AI_Bo hB) (AI_Sn hB) (AI_Mo hB)) (fun _ K g => ?_))
      exact t94 hS hA0 i1 f m (k + 1) K (by omega) (by omega) (by rw [ea]; exact ⟨g.1, fun r hr => by rw [g.2 r (Or.inl hr)]; exact hX.2 r hr⟩) (fun i hi => by rw [g.2 1312 (Or.inr rfl)]; exact h12 i hi)
theorem t52 (hS : Shp S) (hA : AInv A) : ∀ (f m k : Nat) (J : mIm), k + f = 6 → f < m → RT I0 J (aLsA A k) → (∀ i, i < k → J 1312 i = arrv A i) → (∀ i, i < 6 → (thr A i → J 1309 i = 1) ∧ (¬ thr A i → J 1309 i = 0)) → pw S (q_M_tick_52 m (some 1282) (nI (cntA A k)) (nI k) (J, S)) (fun v K => v = nI (cntA A 6) ∧ RT I0 K (lpO aMsy (aTlA (lpO aClk (aTkA A (aLsA A 6) 6) 6) 6) 6))
  | f, 0, k, J, _, h, _, _, _ => by omega
  | 0, m + 1, k, J, hk, hm, hX, h12, h9 => by
    show pw S (q_M_tick_52_b _ _ _ _ _) _
    unfold q_M_tick_52_b
    have e : k = 6 := by omega
    subst e
    exact pw_f (nI_nlt (a := 6) (b := 6) (by omega) (by decide)) (t94 hS hA _ 6 mFU 0 J (by omega) (by unfold mFU; omega) hX h12)
  | f + 1, m + 1, k, J, hk, hm, hX, h12, h9 => by
    have hs : k < 6 := by omega
    have hM := M_k hS
    have a12 := aK_in hS (r := 1312) (t := 1) (n := 6) rfl
    have hB := AI_lsA hA k (by omega)
    have e2 : ∀ f i, (f = 6 ∨ f = 7) → (aLsA A k).1 f i = A.1 f i := fun f i h => aLsA_1 (by omega) k
    have hthr : ∀ i, thr (aLsA A k) i ↔ thr A i := fun i => thr_c (e2 6 i (by omega)) (e2 7 i (by omega)) (aLsA_2 (by decide) k)
    have ea : aLsA A (k + 1) = (aLis (aLsA A k) k).2 := rfl
    have er : arrv A k = (aLis (aLsA A k) k).1 := rfl
    have ec : cntA A (k + 1) = cntA A k + (if arrv A k = 0 then 0 else 1) := rfl
    show pw S (q_M_tick_52_b _ _ _ _ _) _
    unfold q_M_tick_52_b q_M_tick_84
    refine pw_t (nI_lt (b := 6) hs (by decide)) (rM hS (r := 1312) rfl (pw_cv hM (r_listens hS hs (AI_01 hB) (AI_H hB k hs) (fun i hi => by rw [hthr i]; exact h9 i hi) (AI_Rk hB k (by omega)) (RX_0 hX.1)) (fun v K g => ?_)))
    obtain ⟨rfl, g⟩ := g
    rw [← er]
    have h01 := arrv_01 (A := A) (i := k)
    refine pw_wZ k a12.1 rfl (by omega) (by omega) h01 (rM hS (r := 1312) rfl (pw_aI k a12.1 rfl (by omega) (by omega) ?_))
    rw [iput_s, show nI k + 1 = nI (k + 1) from nI_1 k]
    have hX2 : RT I0 (iput K 1312 k (arrv A k)) (aLsA A (k + 1)) := by
      rw [ea]
      refine ⟨RInv_eq g.1 (fun r _ _ _ _ _ a _ _ _ _ => iput_n _ _ _ a) (by rw [iput_n _ _ _ (by decide)]) (by rw [iput_n _ _ _ (by decide)]) (by rw [iput_n _ _ _ (by decide)]), fun r hr => ?_⟩
      rw [iput_n _ _ _ (by omega), g.2.1 r (Or.inl hr)]
      exact hX.2 r hr
    have ih := t52 hS hA f m (k + 1) _ (by omega) (by omega) hX2 (fun i hi => ?_) (fun i hi => ?_)
    · by_cases e0 : arrv A k = 0
      · rw [ec, if_pos e0, Nat.add_zero] at ih
        refine pw_t e0 (pw_lt ?_)
        rw [Int32.add_zero]
        exact ih
      · rw [ec, if_neg e0] at ih
        refine pw_f e0 (pw_lt ?_)
        rw [show nI (cntA A k) + 1 = nI (cntA A k + 1) from nI_1 _]
        exact ih
    · by_cases e : i = k
      · subst e; rw [iput_s]
      · rw [iput_j _ _ _ e, g.2.1 1312 (by unfold kp; omega)]
        exact h12 i (by omega)
    · rw [iput_n _ _ _ (by decide), g.2.1 1309 (by unfold kp; omega)]
      exact h9 i hi
theorem t31 (hS : Shp S) (hA : AInv A) : ∀ (f m k : Nat) (J : mIm), k + f = 6 → f < m → RT I0 J (aSnA A k) → (∀ i, i < k → (thr (aSnA A k) i → J 1309 i = 1) ∧ (¬ thr (aSnA A k) i → J 1309 i = 0)) → pw S (q_M_tick_31 m (some 1282) (nI k) (J, S)) (fun v K => v = nI (cntA (aSnA A 6) 6) ∧ RT I0 K (lpO aMsy (aTlA (lpO aClk (aTkA (aSnA A 6) (aLsA (aSnA A 6) 6) 6) 6) 6) 6))
  | f, 0, k, J, _, h, _, _ => by omega
  | 0, m + 1, k, J, hk, hm, hX, h9 => by
    show pw S (q_M_tick_31_b _ _ _ _) _
    unfold q_M_tick_31_b
    have e : k = 6 := by omega
    subst e
    have h3 := AI_snA hA 6
    generalize aSnA A 6 = B at hX h9 h3 ⊢
    exact pw_f (nI_nlt (a := 6) (b := 6) (by omega) (by decide)) (t52 hS h3 6 mFU 0 J (by omega) (by unfold mFU; omega) hX (fun i hi => by omega) h9)
  | f + 1, m + 1, k, J, hk, hm, hX, h9 => by
    have hs : k < 6 := by omega
    have hB := AI_snA hA k
    have ea : aSnA A (k + 1) = aSnd (aSnA A k) k := rfl
    show pw S (q_M_tick_31_b _ _ _ _) _
    unfold q_M_tick_31_b
    refine pw_t (nI_lt (b := 6) hs (by decide)) (pw_cv (M_k hS) (r_sends hS hs hX.1 (AI_01 hB)) (fun _ K g => ?_))
    obtain ⟨g1, g2, g3, g4, g5⟩ := g
    rw [show nI k + 1 = nI (k + 1) from nI_1 k]
    refine t31 hS hA f m (k + 1) K (by omega) (by omega) (by rw [ea]; exact ⟨g1, fun r hr => by rw [g2 r hr]; exact hX.2 r hr⟩) (fun i hi => ?_)
    rw [ea]
    by_cases e : i = k
    · subst e; exact ⟨g4, g5⟩
    · rw [thr_o e, g3 i e]
      exact h9 i (by omega)
theorem t12 (hS : Shp S) (hA : AInv A) : ∀ (f m k : Nat) (J : mIm), k + f = 6 → f < m → RT I0 J (aDrA A k) → pw S (q_M_tick_12 m (some 1282) (nI k) (J, S)) (fun v K => v = nI (cntA (aSnA (aDrA A 6) 6) 6) ∧ RT I0 K (lpO aMsy (aTlA (lpO aClk (aTkA (aSnA (aDrA A 6) 6) (aLsA (aSnA (aDrA A 6) 6) 6) 6) 6) 6) 6))
  | f, 0, k, J, _, h, _ => by omega
  | 0, m + 1, k, J, hk, hm, hX => by
    show pw S (q_M_tick_12_b _ _ _ _) _
    unfold q_M_tick_12_b
    have e : k = 6 := by omega
    subst e
    have h2 := AI_drA hA 6 (Nat.le_refl _)
    generalize aDrA A 6 = B at hX h2 ⊢
    exact pw_f (nI_nlt (a := 6) (b := 6) (by omega) (by decide)) (t31 hS h2 6 mFU 0 J (by omega) (by unfold mFU; omega) hX (fun i hi => by omega))
  | f + 1, m + 1, k, J, hk, hm, hX => by
    have hs : k < 6 := by omega
    have hB := AI_drA hA k (by omega)
    have ea : aDrA A (k + 1) = aDrw (aDrA A k) k := rfl
    show pw S (q_M_tick_12_b _ _ _ _) _
    unfold q_M_tick_12_b
    refine pw_t (nI_lt (b := 6) hs (by decide)) (pw_cv (M_k hS) (r_draws hS hs (RX_0 hX.1) (AI_Ld hB)) (fun _ K g => ?_))
    rw [show nI k + 1 = nI (k + 1) from nI_1 k]
    exact t12 hS hA f m (k + 1) K (by omega) (by omega) (by rw [ea]; exact ⟨g.1, fun r hr => by rw [g.2 r hr]; exact hX.2 r hr⟩)
theorem RInv_ti (h : RInv I A) (v : Int32) : RInv (iput I 1282 15 v) (aI A 0 0 v) := by
  obtain ⟨⟨g1, g2, g3⟩, h2, h3, h4, h5⟩ := h
  have hr : ∀ q ∈ rTab, 1282 < q.1 ∧ q.2.1 ≠ 0 := by decide
  refine ⟨⟨by rw [iput_s, aI_s], ⟨by rw [iput_j _ _ _ (by decide)]; exact g2.1, fun j x hj => by rw [iput_n _ _ _ (by decide)]; exact g2.2.1 j x hj, g2.2.2⟩, ⟨by rw [iput_j _ _ _ (by decide)]; exact g3.1, fun j x hj => by rw [iput_n _ _ _ (by decide)]; exact g3.2.1 j x hj, g3.2.2⟩⟩, fun q hq k hk => ?_, fun k hk => ?_, fun s hs => ⟨?_, ?_, ?_⟩, fun l hl => ?_⟩
  · obtain ⟨w1, w2⟩ := hr q hq
    rw [iput_n _ _ _ (by omega), aI_f _ _ _ _ w2]
    exact h2 q hq k hk
  · have := h3 k hk
    unfold rRv fL at this ⊢
    rw [iput_n _ _ _ (by decide), iput_n _ _ _ (by decide), iput_n _ _ _ (by decide), iput_n _ _ _ (by decide), aI_f _ _ _ _ (by decide)]
    exact this
  · have := (h4 s hs).1
    unfold rQu fL at this ⊢
    rw [iput_n _ _ _ (by decide), iput_n _ _ _ (by decide), iput_n _ _ _ (by decide)]
    exact this
  · have := (h4 s hs).2.1
    unfold rMl fL at this ⊢
    rw [iput_n _ _ _ (by decide), iput_n _ _ _ (by decide)]
    exact this
  · have := (h4 s hs).2.2
    unfold rSn fL at this ⊢
    rw [iput_n _ _ _ (by decide), iput_n _ _ _ (by decide), iput_n _ _ _ (by decide), iput_n _ _ _ (by decide), iput_n _ _ _ (by decide), aI_f _ _ _ _ (by decide), aI_f _ _ _ _ (by decide)]
    exact this
  · have := h5 l hl
    unfold rLk fL at this ⊢
    rw [iput_n _ _ _ (by decide), iput_n _ _ _ (by decide), iput_n _ _ _ (by decide), iput_n _ _ _ (by decide), iput_n _ _ _ (by decide), iput_n _ _ _ (by decide), iput_n _ _ _ (by decide), iput_n _ _ _ (by decide), iput_n _ _ _ (by decide), iput_n _ _ _ (by decide), iput_n _ _ _ (by decide)]
    exact this
theorem r_tick (hS : Shp S) {B : aT} (hB : AInv B) (hX : RT I0 J B) : pw S (q_M_tick (some 1282) (J, S)) (fun v K => v = (aTick B).1 ∧ RT I0 K (aTick B).2) := by
  have hM := M_k hS
  rw [aTick_1, aTick_2]
  have e3 : aSnA (aDrA (aTi B) 6) 6 = aT3 B := by unfold aT3; rfl
  have e8 : lpO aMsy (aTlA (lpO aClk (aTkA (aT3 B) (aLsA (aT3 B) 6) 6) 6) 6) 6 = aT8 B := by unfold aT8 aT7 aT6 aT5; rfl
  rw [← e8, ← e3]
  unfold q_M_tick
  refine pw_gE hM hX.1.1.1 (pw_pI hM ?_)
  have c1 : RInv (iput J 1282 15 (B.1 0 0 + 1)) (aTi B) := RInv_ti hX.1 _
  exact t12 hS (AI_T1 hB) 6 mFU 0 _ (by omega) (by unfold mFU; omega) ⟨c1, fun r hr => by rw [iput_n _ _ _ (by omega)]; exact hX.2 r hr⟩
theorem r_run17 (hS : Shp S) {T : aT → Int32 × aT} (hT : ∀ B, AInv B → AInv (T B).2) (one : ∀ (J : mIm) (B : aT), AInv B → RT I0 J B → pw S (q_M_tick (some 1282) (J, S)) (fun v K => v = (T B).1 ∧ RT I0 K (T B).2)) {n : Nat} (hA : AInv A) (hn : n ≤ 1000) : ∀ (f m k : Nat) (J : mIm), k + f = n → f < m → RT I0 J (itN T A k).2 → pw S (q_M_run_17 m (some 1282) (nI n) (itN T A k).1 (nI k) (J, S)) (RP I0 (itN T A n))
  | f, 0, k, J, _, h, _ => by omega
  | 0, m + 1, k, J, hk, hm, hC => by
    show pw S (q_M_run_17_b _ _ _ _ _ _) _
    unfold q_M_run_17_b
    have e : k = n := by omega
    subst e
    exact pw_f (nI_nlt (by omega) (by omega)) (pw_ret ⟨rfl, hC.1, hC.2⟩)
  | f + 1, m + 1, k, J, hk, hm, hC => by
    show pw S (q_M_run_17_b _ _ _ _ _ _) _
    unfold q_M_run_17_b
    refine pw_t (nI_lt (by omega) (by omega)) (pw_cv (M_k hS) (one J _ (AI_itN hT hA k) hC) (fun v K g => ?_))
    obtain ⟨rfl, g⟩ := g
    refine pw_lt ?_
    rw [show nI k + 1 = nI (k + 1) from nI_1 k]
    exact r_run17 hS hT one hA hn f m (k + 1) K (by omega) (by omega) g
theorem p_M_run (hS : Shp S) (hR : RInv I A) (hA : AInv A) (n : Int32) : pw S (q_M_run (some 1282) n (I, S)) (RP I (aRun A n)) := by
  unfold q_M_run aRun
  refine pw_cl (p_M_in _ _ _) (fun v J g => ?_)
  obtain ⟨hJ, rfl⟩ := g
  rw [hJ]
  unfold inV
  by_cases e1 : n < 1
  · rw [if_pos e1, if_pos e1]
    exact pw_t rfl (pw_ret ⟨rfl, hR, fun _ _ => rfl⟩)
  · rw [if_neg e1, if_neg e1]
    by_cases e2 : 1000 < n
    · rw [if_pos e2, if_pos e2]
      exact pw_t rfl (pw_ret ⟨rfl, hR, fun _ _ => rfl⟩)
    · rw [if_neg e2, if_neg e2]
      have e0 : ¬ n < 0 := fun q => e1 (lt1_neg q)
      obtain ⟨j, hj, rfl⟩ := nI_of e0
      have hj1 : j ≤ 1000 := by
        rcases Nat.lt_or_ge 1000 j with q | q
        · exact absurd (nI_lt (a := 1000) q hj) e2
        · exact q
      rw [nI_clamp hj]
      exact pw_f (by decide) (r_run17 hS AI_tick (fun J B hB hCJ => r_tick hS hB hCJ) hA hj1 j mFU 0 I (by omega) (by unfold mFU; omega) ⟨hR, fun _ _ => rfl⟩)
end TM
