/-! what is said: a FRAME of the class's -/
def nmS : List Int32 := [140, 146, 138, 152, 136, 64]
def nmN : List Int32 := [156, 158, 136, 138, 166, 64]
def cnt (A : aT) (s w : Nat) : aT := aI A 8 (5 * s + w) (A.1 8 (5 * s + w) + 1)
def aEnq (A : aT) (s : Nat) (fr : List Int32) : aT := if (A.2.2 0 s).length < 12 then aQ A 0 s (A.2.2 0 s ++ [fr]) else cnt A s 4
def adr (x : Int32) : List Int32 := nmS ++ [x]
def hdr (t s v w c : Int32) : List Int32 := adr ((96 + 2 * t) + (if c = 0 then 0 else 128)) ++ adr (((96 + 2 * s) + (if c = 0 then 128 else 0)) + (if v = -1 then 1 else 0)) ++ (if v = -1 then [] else adr ((96 + 2 * v) + (if w = -1 then 1 else 0))) ++ (if w = -1 then [] else adr ((96 + 2 * w) + 1))
theorem adr_len (x : Int32) : (adr x).length = 7 := rfl
theorem hdr_len (t s v w c : Int32) : (hdr t s v w c).length ≤ 28 ∧ 14 ≤ (hdr t s v w c).length := by
  unfold hdr
  rw [List.length_append, List.length_append, List.length_append, adr_len, adr_len]
  split <;> split <;> simp [adr_len]
section SY
variable {S : mS} {I I1 : mIm} {A : aT} {b cap : Nat} {l : List Int32}
/-- a row that is being written -/
def bld (I1 : mIm) (b : Nat) (J : mIm) (l : List Int32) : Prop := isL J b l ∧ ∀ r, r ≠ b → r ≠ b + 1 → J r = I1 r
theorem fL_push0 {I : mIm} {r : Nat} {l : List Int32} {v : Int32} {n : Nat} (hn : n = l.length) (h : fL I r 0 l) : fL (iput I r n v) r 0 (l ++ [v]) := by
  have := fL_push (v := v) h
  rw [Nat.zero_add] at this
  rw [hn]
  exact this
theorem p_B_addAddress_18 (hB : isB S b cap) (hc : l.length + 6 < cap) (q : Nat) (nm : List Int32) (hq : mtV q = nm) (hnm : nm.length = 6) (v : Int32) : ∀ (k n i : Nat) (I : mIm), i + k = 6 → k < n → I b 1 = nI l.length → fL I (b + 1) 0 (l ++ nm.take i) → pw S (q_B_addAddress_18 n (some b) (some q) v (nI i) (I, S)) (fun _ J => isL J b (l ++ (nm ++ [v])) ∧ ∀ r, r ≠ b → r ≠ b + 1 → J r = I r)
  | k, 0, i, I, _, h, _, _ => by omega
  | k, n + 1, i, I, hk, hn, h1, h2 => by
    obtain ⟨k1, k2, k3, k4, k5⟩ := hB
    have hq6 : mtN q = 6 := by unfold mtN; rw [hq, hnm]
    show pw S (q_B_addAddress_18_b _ _ _ _ _ _) _
    unfold q_B_addAddress_18_b
    refine pw_sl (n := 6) hq6 (by decide) ?_
    by_cases hi : i < 6
    · refine pw_t (nI_lt hi (by decide)) (pw_gR k1 k2 (pw_gI k1 (pw_sI i rfl (by omega) (by omega) (pw_wI (l.length + i) k3 (by rw [h1, nI_add]) (by omega) (by omega) ?_))))
      rw [show nI i + 1 = nI (i + 1) from nI_1 i]
      have hx : nm[i]? = some (mtF q i) := by
        unfold mtF
        rw [hq, List.getD_eq_getElem?_getD, List.getElem?_eq_getElem (by omega)]
        rfl
      have ht : nm.take (i + 1) = nm.take i ++ [mtF q i] := by
        rw [List.take_succ, hx]
        rfl
      refine pw_mono (p_B_addAddress_18 ⟨k1, k2, k3, k4, k5⟩ hc q nm hq hnm v (k - 1) n (i + 1) _ (by omega) (by omega) (by rw [iput_n _ _ _ (by omega)]; exact h1) ?_) (fun _ J h => ⟨h.1, fun r a c => by rw [h.2 r a c, iput_n _ _ _ c]⟩)
      rw [ht, ← List.append_assoc]
      exact fL_push0 (by rw [List.length_append, List.length_take]; omega) h2
    · have hi6 : i = 6 := by omega
      subst hi6
      rw [List.take_of_length_le (by omega)] at h2
      refine pw_f (nI_nlt (by omega) (by decide)) (pw_gI k1 (pw_sl (n := 6) hq6 (by decide) (pw_pI k1 (pw_gR k1 k2 (pw_gI k1 (pw_wI (l.length + 6) k3 (by rw [iput_s, h1, nI_add]) (by omega) (by omega) (pw_gI k1 (pw_pI k1 (pw_ret ⟨⟨?_, ?_⟩, ?_⟩)))))))))
      · rw [iput_s, iput_n _ _ _ (by omega), iput_s, h1, nI_add, List.length_append, List.length_append, hnm]
        exact nI_1 _
      · intro j x hj
        rw [iput_n _ _ _ (by omega)]
        have h3 : fL (iput I b 1 (I b 1 + nI 6)) (b + 1) 0 (l ++ nm) := by
          intro j x hj
          rw [iput_n _ _ _ (by omega)]
          exact h2 j x hj
        have := fL_push0 (v := v) (n := l.length + 6) (by rw [List.length_append, hnm]) h3
        rw [← List.append_assoc] at hj
        have h4 := this j x hj
        rw [Nat.zero_add] at h4
        exact h4
      · intro r a c
        rw [iput_n _ _ _ a, iput_n _ _ _ c, iput_n _ _ _ a]
theorem p_B_addAddress (hB : isB S b cap) (h : bld I1 b I l) (hc : l.length + 6 < cap) (q : Nat) (nm : List Int32) (hq : mtV q = nm) (hnm : nm.length = 6) (v : Int32) : pw S (q_B_addAddress (some b) (some q) v (I, S)) (fun _ J => bld I1 b J (l ++ (nm ++ [v]))) := by
  obtain ⟨k1, k2, k3, k4, k5⟩ := hB
  unfold q_B_addAddress
  refine pw_gI k1 (pw_sl (n := 6) (by unfold mtN; rw [hq, hnm]) (by decide) (pw_gR k1 k2 (pw_al (n := cap) k3 k4 (pw_t ?_ ?_))))
  · rw [h.1.1, nI_add]
    exact nI_lt hc (by omega)
  · refine pw_mono (p_B_addAddress_18 ⟨k1, k2, k3, k4, k5⟩ hc q nm hq hnm v 6 mFU 0 I (by omega) (by unfold mFU; omega) h.1.1 ?_) (fun _ J g => ⟨g.1, fun r a c => by rw [g.2 r a c, h.2 r a c]⟩)
    intro j x hj
    rw [List.take_zero, List.append_nil] at hj
    rw [Nat.zero_add]
    exact h.1.2 j x hj
theorem b_add (hB : isB S b cap) (h : bld I1 b I l) (hc : l.length < cap) (v : Int32) : pw S (q_B_add (some b) v (I, S)) (fun _ J => bld I1 b J (l ++ [v])) := pw_mono (p_B_add hB h.1 hc v) (fun _ J g => ⟨g.1, fun r a c => by rw [g.2 r a c, h.2 r a c]⟩)
theorem b_addFrom {b2 cap2 : Nat} {l2 : List Int32} (hB : isB S b cap) (h : bld I1 b I l) (hB2 : isB S b2 cap2) (hl2 : isL I1 b2 l2) (hc2 : l2.length ≤ cap2) (hd : b + 2 ≤ b2 ∨ b2 + 2 ≤ b) (s c : Nat) (hs : s + c ≤ l2.length) (hc : l.length + c ≤ cap) : pw S (q_B_addFrom (some b) (some b2) (nI s) (nI c) (I, S)) (fun _ J => bld I1 b J (l ++ (l2.drop s).take c)) := pw_mono (p_B_addFrom hB h.1 hB2 (isL_same hl2 (h.2 _ (by omega) (by omega)) (h.2 _ (by omega) (by omega))) hc2 hd s c hs hc) (fun _ J g => ⟨g.1, fun r a c => by rw [g.2 r a c, h.2 r a c]⟩)
variable {p s : Nat} {t v w m c : Int32}
theorem sy168 (hB : isB S b cap) (h : bld I1 b I l) (hc : l.length + 2 ≤ cap) (hp : S.2.1 p = 13) (hpb : p ≠ b ∧ p ≠ b + 1) (hm : I1 p 3 = m) : pw S (q_C_say_168 (some p) c (some b) (I, S)) (fun a J => a = some b ∧ bld I1 b J (l ++ [c, m])) := by
  unfold q_C_say_168
  refine pw_cv hB.1 (b_add hB h (by omega) c) (fun _ J1 g1 => pw_gI hp ?_)
  rw [g1.2 p hpb.1 hpb.2, hm]
  refine pw_cv hB.1 (b_add hB g1 (by simp; omega) m) (fun _ J2 g2 => pw_ret ⟨rfl, ?_⟩)
  rw [List.append_assoc] at g2
  exact g2
theorem sy141 (hB : isB S b cap) (h : bld I1 b I l) (hc : l.length + 9 ≤ cap) (hp : S.2.1 p = 13) (hpb : p ≠ b ∧ p ≠ b + 1) (hw : I1 p 2 = w) (hm : I1 p 3 = m) : pw S (q_C_say_141 (some p) c (some b) (I, S)) (fun a J => a = some b ∧ bld I1 b J (l ++ (if w = -1 then [] else adr ((96 + 2 * w) + 1)) ++ [c, m])) := by
  unfold q_C_say_141
  refine pw_gI hp ?_
  rw [h.2 p hpb.1 hpb.2, hw]
  by_cases h0 : w = -1
  · rw [if_pos h0, if_pos h0, List.append_nil]
    exact sy168 hB h (by omega) hp hpb hm
  · rw [if_neg h0, if_neg h0]
    refine pw_gI hp ?_
    rw [h.2 p hpb.1 hpb.2, hw]
    refine pw_cv hB.1 (p_B_addAddress hB h (by omega) 3 nmS rfl rfl _) (fun _ J1 g1 => ?_)
    exact sy168 hB g1 (by simp [nmS, adr_len]; omega) hp hpb hm
theorem sy95 (hB : isB S b cap) (h : bld I1 b I l) (hc : l.length + 23 ≤ cap) (hp : S.2.1 p = 13) (hpb : p ≠ b ∧ p ≠ b + 1) (hv : I1 p 1 = v) (hw : I1 p 2 = w) (hm : I1 p 3 = m) (j1 j0 i5 : Int32) : pw S (q_C_say_95 (some p) c (some b) i5 j0 j1 (some 3) (some b) (I, S)) (fun a J => a = some b ∧ bld I1 b J (l ++ adr ((j1 + j0) + i5) ++ (if v = -1 then [] else adr ((96 + 2 * v) + (if w = -1 then 1 else 0))) ++ (if w = -1 then [] else adr ((96 + 2 * w) + 1)) ++ [c, m])) := by
  unfold q_C_say_95
  refine pw_cv hB.1 (p_B_addAddress hB h (by omega) 3 nmS rfl rfl _) (fun _ J1 g1 => pw_gI hp ?_)
  rw [g1.2 p hpb.1 hpb.2, hv]
  by_cases h0 : v = -1
  · rw [if_pos h0, if_pos h0, List.append_nil]
    exact sy141 hB g1 (by simp [nmS, adr_len]; omega) hp hpb hw hm
  · rw [if_neg h0, if_neg h0]
    refine pw_gI hp (pw_gI hp ?_)
    rw [g1.2 p hpb.1 hpb.2, hv, hw]
    unfold q_C_say_137
    by_cases h1 : w = -1
    · rw [if_pos h1, if_pos h1, if_pos h1, List.append_nil]
      refine pw_cv hB.1 (p_B_addAddress hB g1 (by simp [nmS, adr_len]; omega) 3 nmS rfl rfl _) (fun _ J2 g2 => ?_)
      have := sy141 (c := c) hB g2 (by simp [nmS, adr_len]; omega) hp hpb hw hm
      rw [if_pos h1, List.append_nil] at this
      exact this
    · rw [if_neg h1, if_neg h1, if_neg h1]
      refine pw_cv hB.1 (p_B_addAddress hB g1 (by simp [nmS, adr_len]; omega) 3 nmS rfl rfl _) (fun _ J2 g2 => ?_)
      have := sy141 (c := c) hB g2 (by simp [nmS, adr_len]; omega) hp hpb hw hm
      rw [if_neg h1] at this
      exact this
theorem sy39 (hB : isB S b cap) (h : bld I1 b I []) (hc : 30 ≤ cap) (hS : Shp S) (hs : s < 6) (hN : I1 (cN s) 0 = nI s) (hNb : cN s ≠ b ∧ cN s ≠ b + 1) (hp : S.2.1 p = 13) (hpb : p ≠ b ∧ p ≠ b + 1) (ht : I1 p 0 = t) (hv : I1 p 1 = v) (hw : I1 p 2 = w) (hm : I1 p 3 = m) (i3 i5 : Int32) (h5 : i5 = if v = -1 then 1 else 0) : pw S (q_C_say_39 (some (cN s)) (some p) c i3 (some b) i5 (I, S)) (fun a J => a = some b ∧ bld I1 b J (hdr t (nI s) v w i3 ++ [c, m])) := by
  unfold q_C_say_39
  refine pw_gI hp ?_
  rw [h.2 p hpb.1 hpb.2, ht]
  unfold hdr
  rw [← h5]
  unfold q_C_say_66
  by_cases h0 : i3 = 0
  · rw [if_pos h0, if_pos h0, if_pos h0]
    refine pw_cv hB.1 (p_B_addAddress hB h (by simp; omega) 3 nmS rfl rfl _) (fun _ J1 g1 => pw_gI (cN_k hS hs) ?_)
    rw [g1.2 _ hNb.1 hNb.2, hN, if_pos h0]
    rw [List.nil_append] at g1
    exact sy95 hB g1 (by simp [nmS, adr_len]; omega) hp hpb hv hw hm _ _ _
  · rw [if_neg h0, if_neg h0, if_neg h0]
    refine pw_cv hB.1 (p_B_addAddress hB h (by simp; omega) 3 nmS rfl rfl _) (fun _ J1 g1 => pw_gI (cN_k hS hs) ?_)
    rw [g1.2 _ hNb.1 hNb.2, hN, if_neg h0]
    rw [List.nil_append] at g1
    exact sy95 hB g1 (by simp [nmS, adr_len]; omega) hp hpb hv hw hm _ _ _
variable {I0 : mIm}
theorem isW_q (hS : Shp S) (hs : s < 6) : isW S (cN s + 10) 12 90 := (hS.2.1 s hs).2.2.2.2.2.2.2.2.2.2.2.2.2.1
/-- a new row in the queue: whoever writes into it fills the queue -/
theorem c_addRow (hS : Shp S) (hs : s < 6) (hX : CX I0 I A) (hq : (A.2.2 0 s).length < 12) : pw S (q_W_addRow (some (cN s + 10)) (I, S)) (fun a I1 => ∃ b, a = some b ∧ isB S b 90 ∧ cN s + 12 ≤ b ∧ b + 2 ≤ cN s + 36 ∧ bld I1 b I1 [] ∧ (∀ r, (r < cN s + 10 ∨ cN s + 36 ≤ r) → I1 r = I r) ∧ ∀ J l, l.length ≤ 90 → bld I1 b J l → CX I0 J (aQ A 0 s (A.2.2 0 s ++ [l]))) := by
  have hR := (hX.1.2.1 s hs).2.2.2.2.2.1
  refine pw_mono (p_W_addRow (isW_q hS hs) hR hq) (fun a I1 h => ?_)
  obtain ⟨b, rfl, h1, h2, h3, h4, h5, h6⟩ := h
  refine ⟨b, rfl, h2, by omega, by omega, ⟨h1, fun _ _ _ => rfl⟩, fun r hr => h5 r (by omega), fun J l hl hb => ?_⟩
  refine CX_que hX hs (h6 J l hl hb.1 (fun r _ _ a c => hb.2 r a c)) (fun r hr => ?_)
  rw [hb.2 r (by omega) (by omega), h5 r (by omega)]
theorem c_full (hS : Shp S) (hs : s < 6) (hX : CX I0 I A) (hq : ¬ (A.2.2 0 s).length < 12) : pw S (q_W_addRow (some (cN s + 10)) (I, S)) (fun a I1 => a = none ∧ I1 = I) := p_W_full (isW_q hS hs) (hX.1.2.1 s hs).2.2.2.2.2.1 hq
/-- SAY: lost, or a row that holds the FRAME up to its MARK -/
theorem p_C_say (hS : Shp S) (hs : s < 6) (hX : CX I0 I A) (hp : S.2.1 p = 13) (hpq : p < cN s + 10 ∨ cN s + 36 ≤ p) (ht : I p 0 = t) (hv : I p 1 = v) (hw : I p 2 = w) (hm : I p 3 = m) (c i3 : Int32) : pw S (q_C_say (some (cN s)) (some p) c i3 (I, S)) (fun a J => (a = none ∧ ¬ (A.2.2 0 s).length < 12 ∧ CX I0 J (cnt A s 4)) ∨ ∃ b I1, a = some b ∧ (A.2.2 0 s).length < 12 ∧ isB S b 90 ∧ cN s + 12 ≤ b ∧ b + 2 ≤ cN s + 36 ∧ bld I1 b J (hdr t (nI s) v w i3 ++ [c, m]) ∧ (∀ r, (r < cN s + 10 ∨ cN s + 36 ≤ r) → I1 r = I r) ∧ ∀ K l, l.length ≤ 90 → bld I1 b K l → CX I0 K (aQ A 0 s (A.2.2 0 s ++ [l]))) := by
  unfold q_C_say
  refine rN hS hs rfl ?_
  by_cases hq : (A.2.2 0 s).length < 12
  · refine pw_cv (isW_q hS hs).1 (c_addRow hS hs hX hq) (fun a I1 h => ?_)
    obtain ⟨b, rfl, h1, h2, h3, h4, h5, h6⟩ := h
    refine pw_ns (pw_gI hp ?_)
    rw [h5 p hpq, hv]
    have key : ∀ i5 : Int32, i5 = (if v = -1 then 1 else 0) → pw S (q_C_say_39 (some (cN s)) (some p) c i3 (some b) i5 (I1, S)) (fun a J => (a = none ∧ ¬ (A.2.2 0 s).length < 12 ∧ CX I0 J (cnt A s 4)) ∨ ∃ b I1, a = some b ∧ (A.2.2 0 s).length < 12 ∧ isB S b 90 ∧ cN s + 12 ≤ b ∧ b + 2 ≤ cN s + 36 ∧ bld I1 b J (hdr t (nI s) v w i3 ++ [c, m]) ∧ (∀ r, (r < cN s + 10 ∨ cN s + 36 ≤ r) → I1 r = I r) ∧ ∀ K l, l.length ≤ 90 → bld I1 b K l → CX I0 K (aQ A 0 s (A.2.2 0 s ++ [l]))) := fun i5 e5 => by
      refine pw_mono (sy39 h1 h4 (by decide) hS hs ?_ (by omega) hp (by omega) (t := t) (v := v) (w := w) (m := m) ?_ ?_ ?_ ?_ i3 i5 e5) (fun a J g => Or.inr ⟨b, I1, g.1, hq, h1, h2, h3, g.2, h5, h6⟩)
      · rw [h5 _ (by omega)]; exact (hX.1.2.1 s hs).1.1
      · rw [h5 p hpq]; exact ht
      · rw [h5 p hpq]; exact hv
      · rw [h5 p hpq]; exact hw
      · rw [h5 p hpq]; exact hm
    by_cases h0 : v = -1
    · rw [if_pos h0]
      exact key 1 (by rw [if_pos h0])
    · rw [if_neg h0]
      exact key 0 (by rw [if_neg h0])
  · refine pw_cv (isW_q hS hs).1 (c_full hS hs hX hq) (fun a I h => ?_)
    obtain ⟨rfl, rfl⟩ := h
    refine pw_nn (gN hS hs hX rfl (sN hS hs hX rfl (fun J hJ => pw_ret (Or.inl ⟨rfl, hq, hJ⟩))))
/-- SAID, whole -/
theorem p_C_said (hS : Shp S) (hs : s < 6) (hX : CX I0 I A) (hp : S.2.1 p = 13) (hpq : p < cN s + 10 ∨ cN s + 36 ≤ p) (ht : I p 0 = t) (hv : I p 1 = v) (hw : I p 2 = w) (hm : I p 3 = m) (c i3 : Int32) : pw S (q_C_say (some (cN s)) (some p) c i3 (I, S)) (fun _ J => CX I0 J (aEnq A s (hdr t (nI s) v w i3 ++ [c, m]))) := by
  refine pw_mono (p_C_say hS hs hX hp hpq ht hv hw hm c i3) (fun a J h => ?_)
  unfold aEnq
  rcases h with ⟨-, h1, h2⟩ | ⟨b, I1, -, h1, -, -, -, h2, -, h3⟩
  · rw [if_neg h1]; exact h2
  · rw [if_pos h1]
    refine h3 J _ ?_ h2
    have := hdr_len t (nI s) v w i3
    rw [List.length_append]
    show _ + 2 ≤ 90
    omega
/-- what a link says -/
def aSay (A : aT) (s o : Nat) (c i3 : Int32) : aT := aEnq A s (hdr (nI o) (nI s) (A.1 21 (6 * s + o)) (A.1 22 (6 * s + o)) i3 ++ [c, A.1 23 (6 * s + o)])
theorem c_say {o : Nat} (hS : Shp S) (hl : isLk s o) (hX : CX I0 I A) (c i3 : Int32) : pw S (q_C_say (some (cN s)) (some (cK s o + 1)) c i3 (I, S)) (fun _ J => CX I0 J (aSay A s o c i3)) := by
  have hk := cK_lt hl.1 hl.2.1 hl.2.2
  have hc := hX.1.2.2 s hl.1 o hl.2.1 hl.2.2
  exact p_C_said hS hl.1 hX (cP_k hS hl) (by omega) hc.2.2.1.1 (cLk_getp hc rfl) (cLk_getp hc rfl) (cLk_getp hc rfl) c i3
end SY
