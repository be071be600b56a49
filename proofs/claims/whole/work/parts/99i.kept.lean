/-! what holds of every state, kept -/
theorem vs_k1 {vs va : Int32} {v k : Nat} (hv : v < 8) (ev : vs = nI v) (hk : (vs - va) &&& 7 = nI k) (hk8 : k < 7) : (((vs + 1) &&& 7) - va) &&& 7 = nI (k + 1) ∧ (vs + 1) &&& 7 = nI ((v + 1) % 8) := by
  have e1 : (vs + 1) &&& 7 = nI ((v + 1) % 8) := by
    rw [ev, show nI v + 1 = nI (v + 1) from nI_1 v]
    exact pk_andN (by omega) 3 (by decide)
  refine ⟨?_, e1⟩
  rw [e1]
  rw [pk_and _ (m := 7) 3 (by decide)] at hk ⊢
  have h1 := (nI_eq (by have := Nat.mod_lt (vs - va).toBitVec.toNat (show 0 < 2 ^ 3 by decide); omega) (by omega)).mp hk
  rw [Int32.toBitVec_sub, BitVec.toNat_sub, ev, show (nI v).toBitVec.toNat = v from pk_tn (by omega)] at h1
  rw [Int32.toBitVec_sub, BitVec.toNat_sub, show (nI ((v + 1) % 8)).toBitVec.toNat = (v + 1) % 8 from pk_tn (by omega)]
  have ha := va.toBitVec.isLt
  congr 1
  omega
theorem vs_k2 {vs va r : Int32} {v n k : Nat} (hv : v < 8) (ev : vs = nI v) (hn : n < 8) (er : r = nI n) (hk : (vs - va) &&& 7 = nI k) (hk8 : k < 8) {w : Nat} (hw : (r - va) &&& 7 = nI w) (hw8 : w < 8) (hwk : w ≤ k) : (vs - r) &&& 7 = nI (k - w) := by
  rw [pk_and _ (m := 7) 3 (by decide)] at hk hw ⊢
  have h1 := (nI_eq (by have := Nat.mod_lt (vs - va).toBitVec.toNat (show 0 < 2 ^ 3 by decide); omega) (by omega)).mp hk
  have h2 := (nI_eq (by have := Nat.mod_lt (r - va).toBitVec.toNat (show 0 < 2 ^ 3 by decide); omega) (by omega)).mp hw
  rw [Int32.toBitVec_sub, BitVec.toNat_sub, ev, show (nI v).toBitVec.toNat = v from pk_tn (by omega)] at h1
  rw [Int32.toBitVec_sub, BitVec.toNat_sub, er, show (nI n).toBitVec.toNat = n from pk_tn (by omega)] at h2
  rw [Int32.toBitVec_sub, BitVec.toNat_sub, ev, er, show (nI v).toBitVec.toNat = v from pk_tn (by omega), show (nI n).toBitVec.toNat = n from pk_tn (by omega)]
  have ha := va.toBitVec.isLt
  congr 1
  omega
section AK
variable {A B : aT} {s o : Nat}
theorem AInv_p (h : AInv A) (p1 : ∀ s, s < 6 → tnOk (B.1 1) s) (p2 : aH01 B) (p3 : aS01 B) (p4 : aRk B) (p5 : aQl B ∧ aRs B ∧ aSe B) (e : ∀ f l, (f = 20 ∨ f = 21 ∨ f = 22 ∨ f = 24 ∨ f = 25 ∨ f = 27 ∨ f = 28 ∨ f = 30 ∨ f = 32) → B.1 f l = A.1 f l) (e4 : ∀ l, (B.2.2 3 l).length = (A.2.2 3 l).length) : AInv B := ⟨p1, p2, p3, p4, p5, fun l hl => lOk_c (h.2.2.2.2.2 l hl) (fun f hf => e f l hf) (e4 l)⟩
theorem AI_snd {s : Nat} (h : AInv A) : AInv (aSnd A s) := by
  obtain ⟨h1, h2, h3, h4, ⟨h5, h6, h7⟩, h8⟩ := id h
  have p3 : aS01 (aSnd A s) := aS01_snd h3
  rcases aSnd_sx A s with e | ⟨v, sd, hd, L, F, ll, c, e, -⟩
  · rw [e]; exact h
  · rw [e] at p3 ⊢
    refine AInv_p h (fun t ht => ?_) (fun k hk i hi => by rw [aSx_1 (by omega)]; exact h2 k hk i hi) p3 (fun k hk => ?_) ⟨fun k hk => by rw [aSx_1 (by omega)]; exact h5 k hk, fun t ht n hn => by rw [aSx_1 (by omega)]; exact h6 t ht n hn, fun t ht d hd => by rw [aSx_1 (by omega)]; exact h7 t ht d hd⟩ (fun f l hf => aSx_1 (by omega)) (fun l => by rw [aSx_3 (by omega)])
    · have := h1 t ht
      unfold tnOk at this ⊢
      rw [aSx_1 (by omega), aSx_1 (by omega), aSx_1 (by omega)]
      exact this
    · rw [aRt_eq (A := A) (fun f hf => aSx_1 (by omega)) (fun f hf => aSx_2 (by omega))]
      exact h4 k hk
theorem AI_snA (h : AInv A) : ∀ k, AInv (aSnA A k)
  | 0 => h
  | k + 1 => AI_snd (AI_snA h k)
theorem AI_drw {s : Nat} (hs : s < 6) (h : AInv A) : AInv (aDrw A s) := by
  unfold aDrw
  split
  · exact h
  · split
    · split
      · unfold aDr1
        split
        · exact AI_aI h rfl
        · have hB : AInv (aI A 1 (9 * s + 3) (A.1 1 (9 * s + 3) * 1103515245 + 12345)) := by
            obtain ⟨h1, h2, h3, h4, ⟨h5, h6, h7⟩, h8⟩ := id h
            refine AInv_p h (fun t ht => ?_) (fun k hk i hi => by rw [aI_f _ _ _ _ (by decide)]; exact h2 k hk i hi) (aS01_c h3 (fun f i hf => aI_f _ _ _ _ (by omega))) (fun k hk => ?_) ⟨fun k hk => by rw [aI_f _ _ _ _ (by decide)]; exact h5 k hk, fun t ht n hn => by rw [aI_f _ _ _ _ (by decide)]; exact h6 t ht n hn, fun t ht d hd => by rw [aI_f _ _ _ _ (by decide)]; exact h7 t ht d hd⟩ (fun f l hf => aI_f _ _ _ _ (by omega)) (fun l => rfl)
            · have := h1 t ht
              unfold tnOk at this ⊢
              rw [aI_k _ _ _ (by omega), aI_k _ _ _ (by omega), aI_k _ _ _ (by omega)]
              exact this
            · rw [aRt_eq (A := A) (fun f hf => aI_f _ _ _ _ (by omega)) (fun f hf => rfl)]
              exact h4 k hk
          generalize aI A 1 (9 * s + 3) (A.1 1 (9 * s + 3) * 1103515245 + 12345) = B at hB ⊢
          unfold aDr2
          split
          · obtain ⟨h1, h2, h3, h4, ⟨h5, h6, h7⟩, h8⟩ := id hB
            unfold aStt
            refine AInv_p hB (fun t ht => ?_) (fun k hk i hi => by rw [aSx_1 (by omega)]; exact h2 k hk i hi) (fun t ht => ?_) (fun k hk => ?_) ⟨fun k hk => by rw [aSx_1 (by omega)]; exact h5 k hk, fun t ht n hn => by rw [aSx_1 (by omega)]; exact h6 t ht n hn, fun t ht d hd => by rw [aSx_1 (by omega)]; exact h7 t ht d hd⟩ (fun f l hf => aSx_1 (by omega)) (fun l => by rw [aSx_3 (by omega)])
            · have := h1 t ht
              unfold tnOk at this ⊢
              rw [aSx_1 (by omega), aSx_1 (by omega), aSx_1 (by omega)]
              exact this
            · by_cases e : t = s
              · subst e
                rw [aSx_5s, aSx_6s, aSx_7s]
                exact ⟨Or.inr rfl, (h3 t ht).2.1, 0, by decide, rfl⟩
              · rw [aSx_1i e (Or.inl (by decide)), aSx_1i e (Or.inl (by decide)), aSx_1i e (Or.inl (by decide))]
                exact h3 t ht
            · rw [aRt_eq (A := B) (fun f hf => aSx_1 (by omega)) (fun f hf => aSx_2 (by omega))]
              exact h4 k hk
          · exact AI_aI hB rfl
      · exact h
    · exact h
theorem AI_drA (h : AInv A) : ∀ k, k ≤ 6 → AInv (aDrA A k)
  | 0, _ => h
  | k + 1, hk => AI_drw (by omega) (AI_drA h k (by omega))
theorem AI_lis {k : Nat} (hk : k < 6) (h : AInv A) : AInv (aLis A k).2 := by
  obtain ⟨h1, h2, h3, h4, ⟨h5, h6, h7⟩, h8⟩ := id h
  refine AInv_p h (fun t ht => ?_) (fun j hj i hi => by rw [aLis_1 (by omega)]; exact h2 j hj i hi) (aS01_c h3 (fun f i hf => aLis_1 (by omega))) (aRk_lis h4 (by omega)) ⟨fun j hj => by rw [aLis_1 (by omega)]; exact h5 j hj, fun t ht n hn => by rw [aLis_1 (by omega)]; exact h6 t ht n hn, fun t ht d hd => by rw [aLis_1 (by omega)]; exact h7 t ht d hd⟩ (fun f l hf => aLis_1 (by omega)) (fun l => by rw [aLis_3])
  have := h1 t ht
  unfold tnOk at this ⊢
  rw [aLis_1 (by omega), aLis_1 (by omega), aLis_1 (by omega)]
  exact this
theorem AI_lsA (h : AInv A) : ∀ k, k ≤ 6 → AInv (aLsA A k)
  | 0, _ => h
  | k + 1, hk => AI_lis (by omega) (AI_lsA h k (by omega))
/-! routes -/
theorem AI_40 (h : AInv A) {k : Nat} {v : Int32} (hv : ¬ v < 0) (h1 : ∀ s, s < 6 → ∀ n, n < 6 → k ≠ 36 * s + (6 * s + n) ∨ v = 0) (h2 : ∀ s, s < 6 → ∀ d, d < 6 → k ≠ 36 * s + (6 * d + s) ∨ v = 0) : AInv (aI A 40 k v) := by
  obtain ⟨g1, g2, g3, g4, ⟨g5, g6, g7⟩, g8⟩ := id h
  refine AInv_p h (fun t ht => ?_) (fun j hj i hi => by rw [aI_f _ _ _ _ (by decide)]; exact g2 j hj i hi) (aS01_c g3 (fun f i hf => aI_f _ _ _ _ (by omega))) (fun j hj => ?_) ⟨fun j hj => ?_, fun t ht n hn => ?_, fun t ht d hd => ?_⟩ (fun f l hf => aI_f _ _ _ _ (by omega)) (fun l => rfl)
  · have := g1 t ht
    unfold tnOk at this ⊢
    rw [aI_f _ _ _ _ (by decide), aI_f _ _ _ _ (by decide), aI_f _ _ _ _ (by decide)]
    exact this
  · rw [aRt_eq (A := A) (fun f hf => aI_f _ _ _ _ (by omega)) (fun f hf => rfl)]
    exact g4 j hj
  · by_cases e : j = k
    · subst e; rw [aI_s]; exact hv
    · rw [aI_k _ _ _ e]; exact g5 j hj
  · by_cases e : 36 * t + (6 * t + n) = k
    · rw [e, aI_s]
      rcases h1 t ht n hn with q | q
      · exact absurd e.symm q
      · exact q
    · rw [aI_k _ _ _ e]; exact g6 t ht n hn
  · by_cases e : 36 * t + (6 * d + t) = k
    · rw [e, aI_s]
      rcases h2 t ht d hd with q | q
      · exact absurd e.symm q
      · exact q
    · rw [aI_k _ _ _ e]; exact g7 t ht d hd
theorem AI_old (h : AInv A) {k : Nat} : AInv (old1 A k) := by
  unfold old1
  split
  · exact h
  · split
    · exact AI_40 (AI_aI h rfl) (by decide) (fun _ _ _ _ => Or.inr rfl) (fun _ _ _ _ => Or.inr rfl)
    · exact AI_aI h rfl
theorem AI_oldN : ∀ (n k : Nat) (A : aT), AInv A → AInv (oldN n k A)
  | 0, _, _, h => h
  | n + 1, k, A, h => AI_oldN n (k + 1) (old1 A k) (AI_old h)
theorem AI_tel (h : AInv A) {s : Nat} : AInv (aTel A s).2 := by
  have h2 := AI_oldN 36 (36 * s) A h
  unfold aTel
  generalize oldN 36 (36 * s) A = B at h2 ⊢
  exact AI_enq h2
theorem AI_put2 (h : AInv A) {s d n : Nat} (hs : s < 6) (hd : d < 6) (hn : n < 6) (hds : d ≠ s) (hns : n ≠ s) {v : Int32} (hv : ¬ v < 0) : AInv (put2 A s d n v) := AI_aI (AI_40 h hv (fun t ht m hm => Or.inl (fun e => by
  have e1 : s = t := by
    have hx : 6 * d + n < 36 := by omega
    have hy : 6 * t + m < 36 := by omega
    generalize 6 * d + n = x at e hx
    generalize 6 * t + m = y at e hy
    omega
  subst e1
  omega)) (fun t ht m hm => Or.inl (fun e => by
  have e1 : s = t := by
    have hx : 6 * d + n < 36 := by omega
    have hy : 6 * m + t < 36 := by omega
    generalize 6 * d + n = x at e hx
    generalize 6 * m + t = y at e hy
    omega
  subst e1
  omega))) rfl
theorem q_nn {q p : Nat} (hq : q < 256) (hp : p < 256) : ¬ (nI q * nI p + 128) / 256 < 0 := by
  have hqp : q * p < 65536 := Nat.lt_of_lt_of_le (Nat.mul_lt_mul'' hq hp) (by decide)
  rw [pk_mul, show nI (q * p) + (128 : Int32) = nI (q * p + 128) from nI_add _ 128, show nI (q * p + 128) / (256 : Int32) = nI ((q * p + 128) / 256) from pk_div (d := 256) (by omega) (by decide) (by decide)]
  exact nI_pos (by omega)
theorem AI_lrn {s n p : Nat} (hs : s < 6) (hn : n < 6) (hns : n ≠ s) (hp : p < 256) : ∀ (l : List Int32) (A : aT), aBy l → AInv A → AInv (lrn s n (nI p) l A)
  | [], A, _, h => h
  | [_], A, _, h => h
  | [_, _], A, _, h => h
  | d :: b :: q :: t, A, hb, h => by
    show AInv (lrn s n (nI p) t (lr1 A s n (nI p) d b q))
    refine AI_lrn hs hn hns hp t _ (fun k hk => hb (k + 3) (by simp; omega)) ?_
    obtain ⟨m, hm, em⟩ := hb 2 (by simp)
    have em : q = nI m := em
    unfold lr1
    split
    · exact h
    · rename_i hd
      split
      · rename_i d' hd'
        obtain ⟨w1, w2⟩ := sta_s hd'
        refine AI_put2 h hs w1 hn (fun e => hd (by rw [w2, e])) hns ?_
        split
        · decide
        · rw [em]
          exact q_nn hm hp
      · exact h
/-! links -/
theorem AI_21 (h : AInv A) {g l : Nat} {v : Int32} (hg : g = 21 ∨ g = 22) (hv : v ≠ 6) : AInv (aI A g l v) := AI_lf h (by omega) (fun hl => by
  obtain ⟨h1, h2, h3, h4, h5, h6, h7, h8, h9⟩ := h.2.2.2.2.2 l hl
  have e : ∀ f, f ≠ g → (aI A g l v).1 f l = A.1 f l := fun f hf => aI_f _ _ _ _ hf
  unfold lOk
  rw [e 32 (by omega), e 24 (by omega), e 25 (by omega), e 30 (by omega), e 20 (by omega), e 27 (by omega), e 28 (by omega)]
  refine ⟨?_, h2, h3, h4, h5, h6, h7, h8, h9⟩
  rcases hg with q | q <;> subst q
  · rw [aI_s, e 22 (by decide)]; exact ⟨hv, h1.2⟩
  · rw [aI_s, e 21 (by decide)]; exact ⟨h1.1, hv⟩)
theorem AI_32 (h : AInv A) {l n : Nat} {v : Int32} (hv : v = nI n) (hn : n < 128) : AInv (aI A 32 l v) := AI_lf h (by omega) (fun hl => by
  obtain ⟨h1, h2, h3, h4, h5, h6, h7, h8, h9⟩ := h.2.2.2.2.2 l hl
  have e : ∀ f, f ≠ 32 → (aI A 32 l v).1 f l = A.1 f l := fun f hf => aI_f _ _ _ _ hf
  unfold lOk
  rw [aI_s, e 21 (by omega), e 22 (by omega), e 24 (by omega), e 25 (by omega), e 30 (by omega), e 20 (by omega), e 27 (by omega), e 28 (by omega)]
  exact ⟨h1, ⟨n, hn, hv⟩, h3, h4, h5, h6, h7, h8, h9⟩)
theorem AI_30 (h : AInv A) {l : Nat} {v : Int32} (hv : v = 0 ∨ v = 1) : AInv (aI A 30 l v) := AI_lf h (by omega) (fun hl => by
  obtain ⟨h1, h2, h3, h4, h5, h6, h7, h8, h9⟩ := h.2.2.2.2.2 l hl
  have e : ∀ f, f ≠ 30 → (aI A 30 l v).1 f l = A.1 f l := fun f hf => aI_f _ _ _ _ hf
  unfold lOk
  rw [aI_s, e 21 (by omega), e 22 (by omega), e 24 (by omega), e 25 (by omega), e 32 (by omega), e 20 (by omega), e 27 (by omega), e 28 (by omega)]
  exact ⟨h1, h2, h3, hv, h5, h6, h7, h8, h9⟩)
theorem AI_20 (h : AInv A) {l : Nat} {v : Int32} (hv : v = 1 ∨ v = 2 ∨ v = 3) : AInv (aI A 20 l v) := AI_lf h (by omega) (fun hl => by
  obtain ⟨h1, h2, h3, h4, h5, h6, h7, h8, h9⟩ := h.2.2.2.2.2 l hl
  have e : ∀ f, f ≠ 20 → (aI A 20 l v).1 f l = A.1 f l := fun f hf => aI_f _ _ _ _ hf
  unfold lOk
  rw [aI_s, e 21 (by omega), e 22 (by omega), e 24 (by omega), e 25 (by omega), e 32 (by omega), e 30 (by omega), e 27 (by omega), e 28 (by omega)]
  refine ⟨h1, h2, h3, h4, Or.inr hv, h6, h7, fun q => ?_, h9⟩
  rcases hv with w | w | w <;> rw [w] at q <;> exact absurd q (by decide))
theorem AI_cal (h : AInv A) (hl : isLk s o) : AInv (aCal A s o) := by
  obtain ⟨h1, h2, h3⟩ := id hl
  obtain ⟨n, n1, n2, en⟩ := (h.1 s h1).2.1
  have h4 : AInv (aCl1 A s o) := by
    unfold aCl1
    obtain ⟨j, hj, ej⟩ := pk_andE (A.1 32 (6 * s + o) + 1) (m := 127) 7 (by decide)
    exact AI_aI (AI_aL (AI_rst (AI_32 h ej hj) (Or.inr (Or.inl rfl))) (by decide)) rfl
  have e20 : (aCl1 A s o).1 20 (6 * s + o) = 1 := by
    unfold aCl1
    rw [aI_f _ _ _ _ (by decide), aL_1, aRst_20]
  unfold aCal
  refine AI_say (AI_ck (AI_tr h4 (n := 1) rfl (by decide)) en n2 (fun q => ?_))
  rw [aI_f _ _ _ _ (by decide), e20] at q
  exact absurd q (by decide)
theorem AI_p1 (h : AInv A) (hl : isLk s o) : AInv (aP1 A s o) := by
  unfold aP1
  split
  · exact AI_cal (AI_21 (AI_21 h (Or.inl rfl) (by decide)) (Or.inr rfl) (by decide)) hl
  · exact h
theorem AI_pkt (h : AInv A) (hs : s < 6) {p : List Int32} : AInv (aPkt A s p) := by
  unfold aPkt
  split
  · split
    · split
      · unfold aPml
        split
        · exact AI_aQ h (by decide)
        · exact AI_cnt h
      · split
        · exact AI_cnt h
        · unfold aPgo
          split
          · rename_i n hn
            split
            · exact AI_cnt h
            · rename_i hne
              have := AI_p1 h (s := s) (o := n) ⟨hs, (sta_s hn).1, hne⟩
              unfold aP2
              split
              · exact AI_aQ this (by decide)
              · exact AI_cnt this
          · exact AI_cnt h
    · exact AI_cnt h
  · exact AI_cnt h
theorem AI_ck4 (h : AInv A) (hs : s < 6) (hm : A.1 20 (6 * s + o) ≠ 0) : AInv (aCk4 A s o) := by
  obtain ⟨n, n1, n2, en⟩ := (h.1 s hs).2.1
  unfold aCk4
  split
  · exact AI_ck h en n2 (fun q => absurd q hm)
  · exact h
theorem AI_cn2 (h : AInv A) (hl : isLk s o) (hB1 : B.1 = A.1) (hB2 : B.2.1 2 = A.2.1 2) (hB3 : B.2.1 3 = A.2.1 3) (hBo : ∀ j, j ≠ 6 * s + o → B.2.2 3 j = A.2.2 3 j) (hBl : (B.2.2 3 (6 * s + o)).length = (A.2.2 3 (6 * s + o)).length + 1) (h4 : (A.2.2 3 (6 * s + o)).length < 4) (hm : A.1 20 (6 * s + o) ≠ 0) {c : List Int32} : AInv (aCn2 B s o c) := by
  obtain ⟨h1, h2, h3⟩ := id hl
  have hl36 : 6 * s + o < 36 := by omega
  unfold aCn2
  have e : ∀ f, f ≠ 24 → f ≠ 8 → (aI (aInf B s o (B.1 24 (6 * s + o)) c) 24 (6 * s + o) ((B.1 24 (6 * s + o) + 1) &&& 7)).1 f = A.1 f := fun f a b => by rw [aI_ff _ _ _ a, aInf_1 b, hB1]
  refine AI_ck4 (AInv_lk (l := 6 * s + o) h (fun f hf => e f (by omega) (by omega)) ?_ ?_ (fun j hj hne => ⟨fun f hf => ?_, ?_⟩) (fun _ => ?_)) h1 (by rw [e 20 (by decide) (by decide)]; exact hm)
  · show (aInf B s o (B.1 24 (6 * s + o)) c).2.1 2 = _
    unfold aInf
    rw [aEnq_21]
    exact hB2
  · show (aInf B s o (B.1 24 (6 * s + o)) c).2.1 3 = _
    unfold aInf
    rw [aEnq_21]
    exact hB3
  · rw [aI_o _ _ (Or.inr hne), aInf_1 (by omega), hB1]
  · show (aInf B s o (B.1 24 (6 * s + o)) c).2.2 3 j = _
    rw [aInf_22 (by decide)]
    exact hBo j hne
  · obtain ⟨g1, g2, g3, g4, g5, g6, g7, g8, ⟨v, hv, ev⟩, -⟩ := h.2.2.2.2.2 _ hl36
    obtain ⟨k1, k2⟩ := vs_k1 hv ev g3 (by omega)
    unfold lOk
    rw [e 21 (by decide) (by decide), e 22 (by decide) (by decide), e 32 (by decide) (by decide), e 25 (by decide) (by decide), e 30 (by decide) (by decide), e 20 (by decide) (by decide), e 27 (by decide) (by decide), e 28 (by decide) (by decide), aI_s, hB1]
    refine ⟨g1, g2, ?_, g4, g5, g6, g7, g8, ⟨(v + 1) % 8, by omega, k2⟩, ?_⟩
    · show _ = nI ((aInf B s o (A.1 24 (6 * s + o)) c).2.2 3 (6 * s + o)).length
      rw [aInf_22 (by decide), hBl]
      exact k1
    · show ((aInf B s o (A.1 24 (6 * s + o)) c).2.2 3 (6 * s + o)).length ≤ 4
      rw [aInf_22 (by decide), hBl]
      omega
theorem AI_msy (h : AInv A) (hl : isLk s o) : AInv (aMsy A s o) := by
  unfold aMsy
  split
  · rename_i em
    have hm : A.1 20 (6 * s + o) ≠ 0 := by rw [em]; decide
    split
    · have h1 : AInv (aMs1 A s o) ∧ (aMs1 A s o).1 20 (6 * s + o) ≠ 0 := by
        have ne : ∀ (B : aT) (c : List Int32), B.1 = A.1 → (aCn2 B s o c).1 20 (6 * s + o) ≠ 0 := by
          intro B c hB
          unfold aCn2 aCk4
          split
          · rw [aI_f _ _ _ _ (by decide), aI_f _ _ _ _ (by decide), aInf_1 (by decide), hB]; exact hm
          · rw [aI_f _ _ _ _ (by decide), aInf_1 (by decide), hB]; exact hm
        unfold aMs1
        split
        · split
          · split
            · unfold aCon
              split
              · rename_i h4
                split
                · refine ⟨?_, ne _ _ rfl⟩
                  refine AI_cn2 (A := A) h hl ?_ ?_ ?_ (fun j hj => ?_) ?_ h4 hm
                  · rfl
                  · rfl
                  · rfl
                  · rw [aQ_f _ _ _ _ (by decide), aQ_k _ _ _ hj]
                  · rw [aQ_f _ _ _ _ (by decide), aQ_s]
                    simp
                · split
                  · exact ⟨h, hm⟩
                  · refine ⟨?_, ne _ _ rfl⟩
                    refine AI_cn2 (A := A) h hl ?_ ?_ ?_ (fun j hj => ?_) ?_ h4 hm
                    · rfl
                    · funext i
                      rw [aL_f _ _ _ _ (by decide)]
                      rfl
                    · funext i
                      rw [aL_f _ _ _ _ (by decide)]
                      rfl
                    · rw [aL_2, aQ_k _ _ _ hj]
                    · rw [aL_2, aQ_s]
                      simp
              · exact ⟨h, hm⟩
            · exact ⟨h, hm⟩
          · exact ⟨h, hm⟩
        · exact ⟨h, hm⟩
      unfold aMs2
      split
      · exact h1.1
      · exact AI_ck4 h1.1 hl.1 h1.2
    · exact h
  · exact h
end AK
