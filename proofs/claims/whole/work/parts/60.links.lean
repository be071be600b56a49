/-! the class's state with its frame; a link's numbers -/
def CX (I0 I : mIm) (A : aT) : Prop := CInv I A ∧ (∀ r, 1278 ≤ r → I r = I0 r) ∧ ∀ j, 8 ≤ j → I 16 j = I0 16 j
def CU (I0 : mIm) (A : aT) : Unit → mIm → Prop := fun _ J => CX I0 J A
def CV (I0 : mIm) (R : Int32 × aT) : Int32 → mIm → Prop := fun v J => v = R.1 ∧ CX I0 J R.2
def isLk (s o : Nat) : Prop := s < 6 ∧ o < 6 ∧ o ≠ s
theorem aI_o (A : aT) {f g k i : Nat} (v : Int32) (h : g ≠ f ∨ i ≠ k) : (aI A f k v).1 g i = A.1 g i := by
  by_cases hf : g = f
  · subst hf
    exact aI_k _ _ _ (h.resolve_left (fun q => q rfl))
  · exact aI_f _ _ _ _ hf
theorem aL_o (A : aT) {f g k i : Nat} (v : List Int32) (h : g ≠ f ∨ i ≠ k) : (aL A f k v).2.1 g i = A.2.1 g i := by
  by_cases hf : g = f
  · subst hf
    exact aL_k _ _ _ (h.resolve_left (fun q => q rfl))
  · exact aL_f _ _ _ _ hf
theorem aQ_o (A : aT) {f g k i : Nat} (v : List (List Int32)) (h : g ≠ f ∨ i ≠ k) : (aQ A f k v).2.2 g i = A.2.2 g i := by
  by_cases hf : g = f
  · subst hf
    exact aQ_k _ _ _ (h.resolve_left (fun q => q rfl))
  · exact aQ_f _ _ _ _ hf
theorem cK_dis {s o t p : Nat} (h : isLk s o) (g : isLk t p) (hne : t ≠ s ∨ p ≠ o) : cK t p + 30 ≤ cK s o ∨ cK s o + 30 ≤ cK t p := by
  obtain ⟨h1, h2, h3⟩ := h
  obtain ⟨g1, g2, g3⟩ := g
  unfold cK
  rcases Nat.lt_trichotomy t s with q | q | q
  · split <;> split <;> omega
  · subst q
    split <;> split <;> omega
  · split <;> split <;> omega
theorem CInv_lk {I J : mIm} {A B : aT} (hC : CInv I A) {s o : Nat} (hl : isLk s o) (e : ∀ r, (r < cK s o ∨ cK s o + 30 ≤ r) → J r = I r) (h1 : cLk J B s o) (h2 : ∀ t, t < 6 → eqS A B t) (h3 : ∀ l, l < 36 → l ≠ 6 * s + o → eqK A B l) (h0 : B.1 0 0 = A.1 0 0) (t0 : B.2.1 0 0 = A.2.1 0 0) (t1 : B.2.1 1 0 = A.2.1 1 0) (e10 : B.1 10 6 = A.1 10 6) (e11 : B.1 11 6 = A.1 11 6) (e12 : B.1 12 6 = A.1 12 6) (f2 : B.2.1 2 6 = A.2.1 2 6) (f3 : B.2.1 3 6 = A.2.1 3 6) : CInv J B := by
  have hk := cK_lt hl.1 hl.2.1 hl.2.2
  refine ⟨cGl_A (cGl_same hC.1 (fun r hr => e r ?_)) h0 t0 t1 e10 e11 e12 f2 f3, fun t ht => ?_, fun t ht p hp hne => ?_⟩
  · unfold cN at hk; omega
  · refine cSt_A (cSt_same (hC.2.1 t ht) (fun r a b => e r ?_)) (h2 t ht)
    unfold cN at hk a b
    have := hl.1
    rcases Nat.lt_trichotomy t s with q | q | q
    · omega
    · subst q; omega
    · omega
  · by_cases hts : t = s ∧ p = o
    · obtain ⟨rfl, rfl⟩ := hts; exact h1
    · have hd := cK_dis hl ⟨ht, hp, hne⟩ (by omega)
      refine cLk_A (cLk_same (hC.2.2 t ht p hp hne) (fun r a b => e r (by omega))) (h3 _ (by omega) ?_)
      have := hl.2.1
      omega
theorem CX_lk {I0 I J : mIm} {A B : aT} (hC : CX I0 I A) {s o : Nat} (hl : isLk s o) (e : ∀ r, (r < cK s o ∨ cK s o + 30 ≤ r) → J r = I r) (h1 : cLk J B s o) (h2 : ∀ t, t < 6 → eqS A B t) (h3 : ∀ l, l < 36 → l ≠ 6 * s + o → eqK A B l) (h0 : B.1 0 0 = A.1 0 0) (t0 : B.2.1 0 0 = A.2.1 0 0) (t1 : B.2.1 1 0 = A.2.1 1 0) (e10 : B.1 10 6 = A.1 10 6) (e11 : B.1 11 6 = A.1 11 6) (e12 : B.1 12 6 = A.1 12 6) (f2 : B.2.1 2 6 = A.2.1 2 6) (f3 : B.2.1 3 6 = A.2.1 3 6) : CX I0 J B := by
  have hk := cK_lt hl.1 hl.2.1 hl.2.2
  refine ⟨CInv_lk hC.1 hl e h1 h2 h3 h0 t0 t1 e10 e11 e12 f2 f3, fun r hr => ?_, fun j hj => ?_⟩
  · rw [e r (by unfold cN at hk; omega)]; exact hC.2.1 r hr
  · rw [e 16 (by unfold cN at hk; omega)]; exact hC.2.2 j hj
theorem CX_st {I0 I J : mIm} {A B : aT} (hC : CX I0 I A) {s : Nat} (hs : s < 6) (e : ∀ r, (r < cN s ∨ cN s + 58 ≤ r) → J r = I r) (h1 : cSt J B s) (h2 : ∀ t, t < 6 → t ≠ s → eqS A B t) (h3 : ∀ l, l < 36 → eqK A B l) (h0 : B.1 0 0 = A.1 0 0) (t0 : B.2.1 0 0 = A.2.1 0 0) (t1 : B.2.1 1 0 = A.2.1 1 0) (e10 : B.1 10 6 = A.1 10 6) (e11 : B.1 11 6 = A.1 11 6) (e12 : B.1 12 6 = A.1 12 6) (f2 : B.2.1 2 6 = A.2.1 2 6) (f3 : B.2.1 3 6 = A.2.1 3 6) : CX I0 J B := by
  refine ⟨CInv_st hC.1 hs (fun r a _ => e r a) h1 h2 h3 h0 t0 t1 e10 e11 e12 f2 f3, fun r hr => ?_, fun j hj => ?_⟩
  · rw [e r (by unfold cN; omega)]; exact hC.2.1 r hr
  · rw [e 16 (by unfold cN; omega)]; exact hC.2.2 j hj
/-! which number of a link lies where -/
def kF : Nat → Option Nat
  | 7 => some 20
  | 8 => some 24
  | 9 => some 25
  | 10 => some 26
  | 11 => some 27
  | 12 => some 28
  | 13 => some 29
  | 14 => some 30
  | 15 => some 31
  | 16 => some 32
  | 17 => some 33
  | _ => none
def pF : Nat → Option Nat
  | 1 => some 21
  | 2 => some 22
  | 3 => some 23
  | _ => none
theorem kF_in {j f : Nat} (h : kF j = some f) : (j = 7 ∧ f = 20) ∨ (j = 8 ∧ f = 24) ∨ (j = 9 ∧ f = 25) ∨ (j = 10 ∧ f = 26) ∨ (j = 11 ∧ f = 27) ∨ (j = 12 ∧ f = 28) ∨ (j = 13 ∧ f = 29) ∨ (j = 14 ∧ f = 30) ∨ (j = 15 ∧ f = 31) ∨ (j = 16 ∧ f = 32) ∨ (j = 17 ∧ f = 33) := by
  unfold kF at h
  split at h <;> first | (cases h; done) | (injection h with h; subst h; omega)
theorem pF_in {j f : Nat} (h : pF j = some f) : (j = 1 ∧ f = 21) ∨ (j = 2 ∧ f = 22) ∨ (j = 3 ∧ f = 23) := by
  unfold pF at h
  split at h <;> first | (cases h; done) | (injection h with h; subst h; omega)
theorem eqS_lk {A : aT} {s k f : Nat} {v : Int32} (h : 21 ≤ f) (h2 : f ≤ 33) : eqS A (aI A f k v) s := ⟨⟨fun _ _ => aI_f _ _ _ _ (by omega), fun _ _ => aI_f _ _ _ _ (by omega), aI_f _ _ _ _ (by omega), aI_f _ _ _ _ (by omega), aI_f _ _ _ _ (by omega), aI_f _ _ _ _ (by omega), aI_f _ _ _ _ (by omega), fun _ _ => aI_f _ _ _ _ (by omega), aI_f _ _ _ _ (by omega), aI_f _ _ _ _ (by omega), aI_f _ _ _ _ (by omega), aI_f _ _ _ _ (by omega), fun _ _ => aI_f _ _ _ _ (by omega), fun _ _ => ⟨aI_f _ _ _ _ (by omega), aI_f _ _ _ _ (by omega)⟩⟩, ⟨rfl, rfl, rfl, rfl⟩, rfl, rfl⟩
theorem eqK_lk {A : aT} {l k f : Nat} {v : Int32} (h : l ≠ k) : eqK A (aI A f k v) l := ⟨⟨aI_o _ _ (Or.inr h), aI_o _ _ (Or.inr h), aI_o _ _ (Or.inr h), aI_o _ _ (Or.inr h), aI_o _ _ (Or.inr h), aI_o _ _ (Or.inr h), aI_o _ _ (Or.inr h), aI_o _ _ (Or.inr h), aI_o _ _ (Or.inr h), aI_o _ _ (Or.inr h), aI_o _ _ (Or.inr h), aI_o _ _ (Or.inr h), aI_o _ _ (Or.inr h), aI_o _ _ (Or.inr h)⟩, ⟨rfl, rfl⟩, rfl, rfl⟩
theorem cLk_get {I : mIm} {A : aT} {s o j f : Nat} (h : cLk I A s o) (hj : kF j = some f) : I (cK s o) j = A.1 f (6 * s + o) := by
  obtain ⟨-, ⟨h1, h2, h3, h4, h5, h6, h7, h8, h9, h10, h11⟩, -⟩ := h
  rcases kF_in hj with ⟨rfl, rfl⟩ | ⟨rfl, rfl⟩ | ⟨rfl, rfl⟩ | ⟨rfl, rfl⟩ | ⟨rfl, rfl⟩ | ⟨rfl, rfl⟩ | ⟨rfl, rfl⟩ | ⟨rfl, rfl⟩ | ⟨rfl, rfl⟩ | ⟨rfl, rfl⟩ | ⟨rfl, rfl⟩ <;> assumption
theorem cLk_getp {I : mIm} {A : aT} {s o j f : Nat} (h : cLk I A s o) (hj : pF j = some f) : I (cK s o + 1) j = A.1 f (6 * s + o) := by
  obtain ⟨-, -, ⟨h1, h2, h3, h4⟩, -⟩ := h
  rcases pF_in hj with ⟨rfl, rfl⟩ | ⟨rfl, rfl⟩ | ⟨rfl, rfl⟩ <;> assumption
theorem CX_setK {I0 I : mIm} {A : aT} {s o j f : Nat} {v : Int32} (hX : CX I0 I A) (hl : isLk s o) (hj : kF j = some f) (h7 : j ≠ 7) : CX I0 (iput I (cK s o) j v) (aI A f (6 * s + o) v) := by
  have hf : 21 ≤ f ∧ f ≤ 33 := by have := kF_in hj; omega
  have hc := hX.1.2.2 s hl.1 o hl.2.1 hl.2.2
  refine CX_lk hX hl (fun r hr => iput_n _ _ _ (by omega)) ?_ (fun t ht => eqS_lk hf.1 hf.2) (fun l hl hne => eqK_lk hne) (aI_f _ _ _ _ (by omega)) rfl rfl (aI_f _ _ _ _ (by omega)) (aI_f _ _ _ _ (by omega)) (aI_f _ _ _ _ (by omega)) rfl rfl
  obtain ⟨h0, ⟨h1, h2, h3, h4, h5, h6, h7, h8, h9, h10, h11⟩, ⟨p0, p1, p2, p3⟩, ⟨b1, b2⟩, ⟨b3, b4⟩, b5, b6⟩ := hc
  refine ⟨?_, ?_, ?_, ⟨isL_same b1 (iput_n _ _ _ (by omega)) (iput_n _ _ _ (by omega)), b2⟩, ⟨isL_same b3 (iput_n _ _ _ (by omega)) (iput_n _ _ _ (by omega)), b4⟩, isR_same b5 (fun r a b => iput_n _ _ _ (by omega)), isR_same b6 (fun r a b => iput_n _ _ _ (by omega))⟩
  · rw [iput_j _ _ _ (by have := kF_in hj; omega)]; exact h0
  · rcases kF_in hj with ⟨rfl, rfl⟩ | ⟨rfl, rfl⟩ | ⟨rfl, rfl⟩ | ⟨rfl, rfl⟩ | ⟨rfl, rfl⟩ | ⟨rfl, rfl⟩ | ⟨rfl, rfl⟩ | ⟨rfl, rfl⟩ | ⟨rfl, rfl⟩ | ⟨rfl, rfl⟩ | ⟨rfl, rfl⟩
    · exact absurd rfl h7
    all_goals
      refine ⟨?_, ?_, ?_, ?_, ?_, ?_, ?_, ?_, ?_, ?_, ?_⟩ <;> first | (rw [iput_s, aI_s]; done) | (rw [iput_j _ _ _ (by decide), aI_f _ _ _ _ (by decide)]; assumption)
  · rw [iput_n _ _ _ (by omega), aI_f _ _ _ _ (by have := kF_in hj; omega), aI_f _ _ _ _ (by have := kF_in hj; omega), aI_f _ _ _ _ (by have := kF_in hj; omega)]
    exact ⟨p0, p1, p2, p3⟩
theorem CX_setP {I0 I : mIm} {A : aT} {s o j f : Nat} {v : Int32} (hX : CX I0 I A) (hl : isLk s o) (hj : pF j = some f) : CX I0 (iput I (cK s o + 1) j v) (aI A f (6 * s + o) v) := by
  have hf : 21 ≤ f ∧ f ≤ 23 := by have := pF_in hj; omega
  have hc := hX.1.2.2 s hl.1 o hl.2.1 hl.2.2
  refine CX_lk hX hl (fun r hr => iput_n _ _ _ (by omega)) ?_ (fun t ht => eqS_lk hf.1 (by omega)) (fun l hl hne => eqK_lk hne) (aI_f _ _ _ _ (by omega)) rfl rfl (aI_f _ _ _ _ (by omega)) (aI_f _ _ _ _ (by omega)) (aI_f _ _ _ _ (by omega)) rfl rfl
  obtain ⟨h0, ⟨h1, h2, h3, h4, h5, h6, h7, h8, h9, h10, h11⟩, ⟨p0, p1, p2, p3⟩, ⟨b1, b2⟩, ⟨b3, b4⟩, b5, b6⟩ := hc
  refine ⟨?_, ?_, ?_, ⟨isL_same b1 (iput_n _ _ _ (by omega)) (iput_n _ _ _ (by omega)), b2⟩, ⟨isL_same b3 (iput_n _ _ _ (by omega)) (iput_n _ _ _ (by omega)), b4⟩, isR_same b5 (fun r a b => iput_n _ _ _ (by omega)), isR_same b6 (fun r a b => iput_n _ _ _ (by omega))⟩
  · rw [iput_n _ _ _ (by omega)]; exact h0
  · rw [iput_n _ _ _ (by omega), aI_f _ _ _ _ (by omega), aI_f _ _ _ _ (by omega), aI_f _ _ _ _ (by omega), aI_f _ _ _ _ (by omega), aI_f _ _ _ _ (by omega), aI_f _ _ _ _ (by omega), aI_f _ _ _ _ (by omega), aI_f _ _ _ _ (by omega), aI_f _ _ _ _ (by omega), aI_f _ _ _ _ (by omega), aI_f _ _ _ _ (by omega)]
    exact ⟨h1, h2, h3, h4, h5, h6, h7, h8, h9, h10, h11⟩
  · refine ⟨?_, ?_⟩
    · rw [iput_j _ _ _ (by have := pF_in hj; omega)]; exact p0
    · rcases pF_in hj with ⟨rfl, rfl⟩ | ⟨rfl, rfl⟩ | ⟨rfl, rfl⟩
      all_goals
        refine ⟨?_, ?_, ?_⟩ <;> first | (rw [iput_s, aI_s]; done) | (rw [iput_j _ _ _ (by decide), aI_f _ _ _ _ (by decide)]; assumption)
/-! a link's lists -/
theorem CX_L {I0 I J : mIm} {A : aT} {s o f : Nat} {l : List Int32} (hX : CX I0 I A) (hl : isLk s o) (hf : f = 10 ∨ f = 11) (h1 : f = 10 → isL J (cK s o + 2) l ∧ l.length ≤ 200 ∧ ∀ r, r ≠ cK s o + 2 → r ≠ cK s o + 3 → J r = I r) (h2 : f = 11 → isL J (cK s o + 4) l ∧ l.length ≤ 64 ∧ ∀ r, r ≠ cK s o + 4 → r ≠ cK s o + 5 → J r = I r) : CX I0 J (aL A f (6 * s + o) l) := by
  have hc := hX.1.2.2 s hl.1 o hl.2.1 hl.2.2
  obtain ⟨h0, hk, hp, ⟨b1, b2⟩, ⟨b3, b4⟩, b5, b6⟩ := hc
  rcases hf with rfl | rfl
  · obtain ⟨g1, g2, g3⟩ := h1 rfl
    refine CX_lk hX hl (fun r hr => g3 r (by omega) (by omega)) ⟨?_, ?_, ?_, ⟨?_, ?_⟩, ⟨?_, ?_⟩, ?_, ?_⟩ (fun t ht => eqSL_10) (fun l hl hne => eqKL_10 hne) rfl (aL_f _ _ _ _ (by decide)) (aL_f _ _ _ _ (by decide)) rfl rfl rfl (aL_f _ _ _ _ (by decide)) (aL_f _ _ _ _ (by decide))
    · rw [g3 _ (by omega) (by omega)]; exact h0
    · rw [g3 _ (by omega) (by omega)]; exact hk
    · rw [g3 _ (by omega) (by omega)]; exact hp
    · rw [aL_s]; exact g1
    · rw [aL_s]; exact g2
    · rw [aL_f _ _ _ _ (by decide)]; exact isL_same b3 (g3 _ (by omega) (by omega)) (g3 _ (by omega) (by omega))
    · rw [aL_f _ _ _ _ (by decide)]; exact b4
    · exact isR_same b5 (fun r a b => g3 _ (by omega) (by omega))
    · exact isR_same b6 (fun r a b => g3 _ (by omega) (by omega))
  · obtain ⟨g1, g2, g3⟩ := h2 rfl
    refine CX_lk hX hl (fun r hr => g3 r (by omega) (by omega)) ⟨?_, ?_, ?_, ⟨?_, ?_⟩, ⟨?_, ?_⟩, ?_, ?_⟩ (fun t ht => eqSL_11) (fun l hl hne => eqKL_11 hne) rfl (aL_f _ _ _ _ (by decide)) (aL_f _ _ _ _ (by decide)) rfl rfl rfl (aL_f _ _ _ _ (by decide)) (aL_f _ _ _ _ (by decide))
    · rw [g3 _ (by omega) (by omega)]; exact h0
    · rw [g3 _ (by omega) (by omega)]; exact hk
    · rw [g3 _ (by omega) (by omega)]; exact hp
    · rw [aL_f _ _ _ _ (by decide)]; exact isL_same b1 (g3 _ (by omega) (by omega)) (g3 _ (by omega) (by omega))
    · rw [aL_f _ _ _ _ (by decide)]; exact b2
    · rw [aL_s]; exact g1
    · rw [aL_s]; exact g2
    · exact isR_same b5 (fun r a b => g3 _ (by omega) (by omega))
    · exact isR_same b6 (fun r a b => g3 _ (by omega) (by omega))
theorem CX_Q {I0 I J : mIm} {A : aT} {s o f : Nat} {l : List (List Int32)} (hX : CX I0 I A) (hl : isLk s o) (hf : f = 2 ∨ f = 3) (h1 : f = 2 → isR J (cK s o + 6) 6 16 l ∧ ∀ r, (r < cK s o + 6 ∨ cK s o + 20 ≤ r) → J r = I r) (h2 : f = 3 → isR J (cK s o + 20) 4 17 l ∧ ∀ r, (r < cK s o + 20 ∨ cK s o + 30 ≤ r) → J r = I r) : CX I0 J (aQ A f (6 * s + o) l) := by
  have hc := hX.1.2.2 s hl.1 o hl.2.1 hl.2.2
  obtain ⟨h0, hk, hp, ⟨b1, b2⟩, ⟨b3, b4⟩, b5, b6⟩ := hc
  rcases hf with rfl | rfl
  · obtain ⟨g1, g3⟩ := h1 rfl
    refine CX_lk hX hl (fun r hr => g3 r (by omega)) ⟨?_, ?_, ?_, ⟨?_, b2⟩, ⟨?_, b4⟩, ?_, ?_⟩ (fun t ht => eqSQ_2) (fun l hl hne => eqKQ_2 hne) rfl rfl rfl rfl rfl rfl rfl rfl
    · rw [g3 _ (by omega)]; exact h0
    · rw [g3 _ (by omega)]; exact hk
    · rw [g3 _ (by omega)]; exact hp
    · exact isL_same b1 (g3 _ (by omega)) (g3 _ (by omega))
    · exact isL_same b3 (g3 _ (by omega)) (g3 _ (by omega))
    · rw [aQ_s]; exact g1
    · rw [aQ_f _ _ _ _ (by decide)]; exact isR_same b6 (fun r a b => g3 _ (by omega))
  · obtain ⟨g1, g3⟩ := h2 rfl
    refine CX_lk hX hl (fun r hr => g3 r (by omega)) ⟨?_, ?_, ?_, ⟨?_, b2⟩, ⟨?_, b4⟩, ?_, ?_⟩ (fun t ht => eqSQ_3) (fun l hl hne => eqKQ_3 hne) rfl rfl rfl rfl rfl rfl rfl rfl
    · rw [g3 _ (by omega)]; exact h0
    · rw [g3 _ (by omega)]; exact hk
    · rw [g3 _ (by omega)]; exact hp
    · exact isL_same b1 (g3 _ (by omega)) (g3 _ (by omega))
    · exact isL_same b3 (g3 _ (by omega)) (g3 _ (by omega))
    · rw [aQ_f _ _ _ _ (by decide)]; exact isR_same b5 (fun r a b => g3 _ (by omega))
    · rw [aQ_s]; exact g1
