/-! what holds of every state, kept by what is TAKEN -/
section AJ
variable {A B : aT} {s o : Nat}
theorem AI_ite {c : Prop} [Decidable c] (ha : AInv A) (hb : AInv B) : AInv (if c then A else B) := by
  by_cases q : c
  · rw [if_pos q]; exact ha
  · rw [if_neg q]; exact hb
theorem AI_inf (h : AInv A) {t : Int32} {p : List Int32} : AInv (aInf A s o t p) := AI_enq h
theorem AI_agN : ∀ (k i : Nat) (A : aT), AInv A → AInv (agN s o k i A)
  | 0, _, _, h => h
  | k + 1, i, A, h => by
    unfold agN
    split
    · exact AI_agN k (i + 1) _ (AI_inf h)
    · exact h
theorem AI_aga (h : AInv A) (hs : s < 6) (hm : A.1 20 (6 * s + o) ≠ 0) : AInv (aAga A s o) := by
  obtain ⟨n, n1, n2, en⟩ := (h.1 s hs).2.1
  unfold aAga
  split
  · exact h
  · exact AI_agN _ _ _ (AI_ck h en n2 (fun q => absurd q hm))
theorem AI_a25 (h : AInv A) {l n w : Nat} {r : Int32} (er : r = nI n) (hn : n < 8) (hw : (r - A.1 25 l) &&& 7 = nI w) (hw8 : w < 8) (hwk : l < 36 → w ≤ (A.2.2 3 l).length) : AInv (aI (aQ A 3 l ((A.2.2 3 l).drop w)) 25 l r) := by
  refine AInv_lk (l := l) h (fun f hf => aI_ff _ _ _ (by omega)) rfl rfl (fun j hj hne => ⟨fun f hf => aI_o _ _ (Or.inr hne), ?_⟩) (fun hl => ?_)
  · rw [aI_2]
    exact aQ_k _ _ _ hne
  · obtain ⟨h1, h2, h3, h4, h5, h6, h7, h8, ⟨v, hv, ev⟩, h10⟩ := h.2.2.2.2.2 l hl
    have e : ∀ f, f ≠ 25 → (aI (aQ A 3 l ((A.2.2 3 l).drop w)) 25 l r).1 f l = A.1 f l := fun f hf => aI_f _ _ _ _ hf
    unfold lOk
    rw [aI_s, e 21 (by omega), e 22 (by omega), e 24 (by omega), e 30 (by omega), e 32 (by omega), e 20 (by omega), e 27 (by omega), e 28 (by omega)]
    have el : ((aI (aQ A 3 l ((A.2.2 3 l).drop w)) 25 l r).2.2 3 l).length = (A.2.2 3 l).length - w := by
      rw [aI_2, aQ_s, List.length_drop]
    rw [el]
    exact ⟨h1, h2, vs_k2 hv ev hn er h3 (by omega) hw hw8 (hwk hl), h4, h5, h6, h7, h8, ⟨v, hv, ev⟩, by omega⟩
theorem AI_ack (h : AInv A) (hl : isLk s o) (hm : A.1 20 (6 * s + o) ≠ 0) {r : Int32} {n : Nat} (er : r = nI n) (hn : n < 8) : AInv (aAck A s o r).2 ∧ ((aAck A s o r).1 ≠ 0 → (aAck A s o r).2.1 20 (6 * s + o) = A.1 20 (6 * s + o)) := by
  obtain ⟨h1, h2, h3⟩ := id hl
  have hl36 : 6 * s + o < 36 := by omega
  obtain ⟨w, hw8, hw⟩ := and_7 (r - A.1 25 (6 * s + o))
  obtain ⟨-, -, hsn, -, -, -, -, -, -, hk4⟩ := h.2.2.2.2.2 _ hl36
  unfold aAck
  rw [hw, nI_clamp (by omega), hsn]
  split
  · exact ⟨AI_dn (AI_say h), fun q => absurd rfl q⟩
  · rename_i hlt
    have hwk : w ≤ (A.2.2 3 (6 * s + o)).length := by
      rcases Nat.lt_or_ge (A.2.2 3 (6 * s + o)).length w with q | q
      · exact absurd (nI_lt q (by omega)) hlt
      · exact q
    have hB := AI_a25 h er hn hw hw8 (fun _ => hwk)
    have hB20 : (aI (aQ A 3 (6 * s + o) ((A.2.2 3 (6 * s + o)).drop w)) 25 (6 * s + o) r).1 20 (6 * s + o) = A.1 20 (6 * s + o) := aI_f _ _ _ _ (by decide)
    generalize aI (aQ A 3 (6 * s + o) ((A.2.2 3 (6 * s + o)).drop w)) 25 (6 * s + o) r = B at hB hB20 ⊢
    split
    · obtain ⟨T, T1, T2, eT⟩ := (hB.1 s h1).2.1
      refine ⟨?_, fun _ => ?_⟩
      · unfold aAc2
        have m0 : (aI B 28 (6 * s + o) 0).1 20 (6 * s + o) ≠ 0 := by rw [aI_f _ _ _ _ (by decide), hB20]; exact hm
        have hC := AI_tr hB (l := 6 * s + o) (n := 0) (v := 0) rfl (by decide)
        split
        · split
          · exact AI_ck hC (n := 0) rfl (by decide) (fun _ => rfl)
          · exact AI_ck hC eT T2 (fun q => absurd q m0)
        · exact AI_ck hC eT T2 (fun q => absurd q m0)
      · show (aAc2 B s o).1 20 (6 * s + o) = _
        unfold aAc2
        rw [aI_f _ _ _ _ (by decide), aI_f _ _ _ _ (by decide), hB20]
    · exact ⟨hB, fun _ => hB20⟩
theorem AI_s79 (h : AInv A) (hs : s < 6) (hm : A.1 20 (6 * s + o) ≠ 0) {k : Int32} : AInv (aS79 A s o k) := by
  unfold aS79
  split
  · split
    · exact AI_aga h hs hm
    · exact h
  · exact h
theorem AI_sup (h : AInv A) (hs : s < 6) (hm : A.1 20 (6 * s + o) ≠ 0) {c p k : Int32} : AInv (aSup A s o c p k) := by
  have h1 : AInv (aI A 31 (6 * s + o) (if k = 5 then 1 else 0)) := AI_aI h rfl
  have m1 : (aI A 31 (6 * s + o) (if k = 5 then 1 else 0)).1 20 (6 * s + o) ≠ 0 := by rw [aI_f _ _ _ _ (by decide)]; exact hm
  unfold aSup
  generalize aI A 31 (6 * s + o) (if k = 5 then 1 else 0) = B at h1 m1 ⊢
  have h2 : AInv (aS33 B s o c p k) := by
    unfold aS33
    split
    · split
      · exact AI_s79 h1 hs m1
      · split
        · exact AI_s79 h1 hs m1
        · refine AI_aga (AI_ck (AI_tr (AI_aI h1 rfl) (n := 0) rfl (by decide)) (n := 0) rfl (by decide) (fun _ => rfl)) hs ?_
          rw [aI_f _ _ _ _ (by decide), aI_f _ _ _ _ (by decide), aI_f _ _ _ _ (by decide)]
          exact m1
    · exact AI_s79 h1 hs m1
  unfold aS102
  split
  · exact h2
  · split
    · exact h2
    · exact AI_num h2
theorem AI_tin (h : AInv A) (hs : s < 6) {D : pD} {l : List Int32} : AInv (aTin A s o D l) := by
  unfold aTin
  split
  · split
    · unfold aRd aTi2
      split
      · exact AI_num (AI_pkt (AI_30 (AI_aI h rfl) (Or.inl rfl)) hs)
      · exact AI_num (AI_aL (AI_30 (AI_aI h rfl) (Or.inl rfl)) (by decide))
    · exact AI_num h
  · split
    · exact AI_30 (AI_say h) (Or.inr rfl)
    · exact h
theorem AI_ans (h : AInv A) {D : pD} {k : Int32} : AInv (aAns A s D k) := AI_enq h
theorem AI_to (h : AInv A) {D : pD} {l : List Int32} (hl : isLk s D.1) (h0 : D.2.2 0 ≠ 6) (h1 : D.2.2 1 ≠ 6) (h6 : ∃ n : Nat, n < 8 ∧ D.2.2 6 = nI n) : AInv (aTo A s D l) := by
  have hdm : AInv (aDm A s D) := by
    unfold aDm
    split
    · exact h
    · exact AI_ans h
  unfold aTo
  split
  · have h3 : ∀ B, AInv B → AInv (aSb3 B s D) := fun B hB => by
      unfold aSb3
      exact AI_ans (AI_aI (AI_21 (AI_21 (AI_aL (AI_rst hB (Or.inr (Or.inr (Or.inl rfl)))) (by decide)) (Or.inl rfl) h0) (Or.inr rfl) h1) rfl)
    have hb1 : AInv (aSb1 A s D) := by
      unfold aSb1
      split
      · exact AI_ans h
      · split
        · exact h
        · split
          · exact h
          · have hB : AInv (aI A 33 (6 * s + D.1) (D.2.2 2 &&& 127)) := AI_aI h rfl
            unfold aSb2
            split
            · split
              · exact AI_ans hB
              · exact h3 _ hB
            · exact h3 _ hB
    unfold aSab
    exact AI_ite hb1 h
  · split
    · split
      · exact hdm
      · rename_i hm0
        split
        · obtain ⟨n, hn, en⟩ := h6
          obtain ⟨a1, a2⟩ := AI_ack h hl hm0 en hn
          unfold aUp
          split
          · split
            · exact a1
            · exact AI_tin a1 hl.1
          · split
            · exact AI_dn h
            · split
              · exact AI_dn (AI_say h)
              · split
                · exact h
                · split
                  · exact a1
                  · rename_i hne
                    exact AI_sup a1 hl.1 (by rw [a2 hne]; exact hm0)
        · unfold aWai
          split
          · exact AI_dn h
          · split
            · split
              · exact AI_dn h
              · exact AI_tr (AI_ck (AI_20 h (Or.inr (Or.inl rfl))) (n := 0) rfl (by decide) (fun _ => rfl)) (n := 0) rfl (by decide)
            · split
              · split
                · exact AI_say h
                · exact h
              · exact h
    · exact hdm
theorem aBy_drop {l : List Int32} {n : Nat} (h : aBy l) : aBy (l.drop n) := by
  intro k hk
  rw [List.length_drop] at hk
  obtain ⟨m, hm, em⟩ := h (n + k) (by omega)
  refine ⟨m, hm, ?_⟩
  unfold pA at em ⊢
  rw [List.getElem?_drop]
  exact em
theorem AI_tkn (h : AInv A) (hs : s < 6) : AInv (aTkn A s) := by
  have hk := (h.2.2.2.1 s (by omega))
  have hb : aBy (A.2.1 3 s) := hk.2.2.1
  unfold aTkn
  generalize A.2.1 3 s = l at hb
  split
  · rename_i hz
    have ok : okF l (nAd l) := @of_decide_eq_true _ (dcF l (nAd l)) hz
    generalize nAd l = n at ok
    have g1 := ok.1.1
    have g2 := ok.1.2.1
    have g7 := ok.1.2.2.1
    unfold aTk1
    split
    · unfold aRep
      split
      · exact AI_enq h
      · exact h
    · obtain ⟨o, ho, eo⟩ : ∃ o : Nat, o < 6 ∧ adN l 7 = nI o := by
        have hg := ok.1.2.2.2.1 1 (by omega)
        rcases adN_in (a := 7) hb (by omega) with q | q | q
        · exact absurd q hg.1
        · exact absurd q (hg.2 (by decide))
        · exact q
      have efr : frN l = o := by unfold frN; rw [eo, nI_clamp (by omega)]
      unfold aTk2
      split
      · split
        · exact h
        · rename_i hne
          obtain ⟨p, p1, p2, ep⟩ := (h.1 s hs).2.2
          have hos : o ≠ s := fun q => hne (by rw [eo, q])
          unfold aLrn
          rw [efr, ep]
          exact AI_lrn hs ho hos (by omega) _ _ (aBy_drop hb) (AI_put2 h hs ho ho hos hos (nI_pos (by omega)))
      · split
        · rename_i e6 et
          have hos : o ≠ s := by
            intro q
            have := ok.2.1 1 (by omega) 0 (by omega)
            rw [show 7 * 0 = 0 from rfl, show 7 * 1 = 7 from rfl, et, eo, q] at this
            exact this rfl
          have h7 := ok.2.2.2.1
          refine AI_to h (D := prD l n) ⟨hs, by rw [show (prD l n).1 = o from efr]; exact ho, by rw [show (prD l n).1 = o from efr]; exact hos⟩ ?_ ?_ ?_
          · show v0A l n ≠ 6
            unfold v0A
            by_cases q : 2 < n
            · rw [if_pos q]
              have := (ok.1.2.2.2.1 (n - 1) (by omega)).2 (by omega)
              rw [show 7 * n - 7 = 7 * (n - 1) by omega]
              exact this
            · rw [if_neg q]; decide
          · show v1A l n ≠ 6
            unfold v1A
            by_cases q : 3 < n
            · rw [if_pos q]
              exact (ok.1.2.2.2.1 2 (by omega)).2 (by decide)
            · rw [if_neg q]; decide
          · obtain ⟨m, hm, em⟩ := hb (7 * n) h7
            refine ⟨m / 32, by omega, ?_⟩
            show pA l (7 * n) >>> ((5 : Int32) &&& 31) = _
            rw [em]
            exact pk_shrN (by omega) _ 5 (by decide)
        · exact h
  · exact AI_cnt h
end AJ
