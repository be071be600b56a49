/-! a station's numbers; rules for the class's words -/
def nF (s : Nat) : Nat → Option (Nat × Nat)
  | 9 => some (3, s)
  | 10 => some (4, s)
  | 12 => some (9, s)
  | 13 => some (8, 5 * s + 0)
  | 14 => some (8, 5 * s + 1)
  | 15 => some (8, 5 * s + 2)
  | 16 => some (8, 5 * s + 3)
  | 17 => some (8, 5 * s + 4)
  | _ => none
theorem nF_in {s j f k : Nat} (h : nF s j = some (f, k)) : (j = 9 ∧ f = 3 ∧ k = s) ∨ (j = 10 ∧ f = 4 ∧ k = s) ∨ (j = 12 ∧ f = 9 ∧ k = s) ∨ ∃ w, w < 5 ∧ j = 13 + w ∧ f = 8 ∧ k = 5 * s + w := by
  unfold nF at h
  split at h
  · injection h with h; injection h with h1 h2; omega
  · injection h with h; injection h with h1 h2; omega
  · injection h with h; injection h with h1 h2; omega
  · injection h with h; injection h with h1 h2; exact Or.inr (Or.inr (Or.inr ⟨0, by omega, by omega, by omega, by omega⟩))
  · injection h with h; injection h with h1 h2; exact Or.inr (Or.inr (Or.inr ⟨1, by omega, by omega, by omega, by omega⟩))
  · injection h with h; injection h with h1 h2; exact Or.inr (Or.inr (Or.inr ⟨2, by omega, by omega, by omega, by omega⟩))
  · injection h with h; injection h with h1 h2; exact Or.inr (Or.inr (Or.inr ⟨3, by omega, by omega, by omega, by omega⟩))
  · injection h with h; injection h with h1 h2; exact Or.inr (Or.inr (Or.inr ⟨4, by omega, by omega, by omega, by omega⟩))
  · cases h
theorem cS1_get {I : mIm} {A : aT} {s j f k : Nat} (h : cS1 I A s) (hj : nF s j = some (f, k)) : I (cN s) j = A.1 f k := by
  obtain ⟨h0, -, h3, h4, -, h6, h7⟩ := h
  rcases nF_in hj with ⟨rfl, rfl, rfl⟩ | ⟨rfl, rfl, rfl⟩ | ⟨rfl, rfl, rfl⟩ | ⟨w, hw, rfl, rfl, rfl⟩
  · exact h3
  · exact h4
  · exact h6
  · exact h7 w hw
theorem CX_setN {I0 I : mIm} {A : aT} {s j f k : Nat} {v : Int32} (hX : CX I0 I A) (hs : s < 6) (hj : nF s j = some (f, k)) : CX I0 (iput I (cN s) j v) (aI A f k v) := by
  obtain ⟨⟨c0, ⟨h, g1, g2, g3⟩, c3, c4, c5, c6, c7⟩, d2, d3, d4, d5, d6, d7⟩ := hX.1.2.1 s hs
  have hf : f = 3 ∨ f = 4 ∨ f = 9 ∨ f = 8 := by
    rcases nF_in hj with q | q | q | ⟨w, q⟩ <;> omega
  have hjj : j ≠ 0 ∧ j ≠ 8 ∧ j ≠ 11 := by
    rcases nF_in hj with q | q | q | ⟨w, q⟩ <;> omega
  have hst : ∀ t, t < 6 → t ≠ s → eqS A (aI A f k v) t := by
    intro t ht hne
    rcases nF_in hj with ⟨rfl, rfl, rfl⟩ | ⟨rfl, rfl, rfl⟩ | ⟨rfl, rfl, rfl⟩ | ⟨w, hw, rfl, rfl, rfl⟩
    · exact eqS_3 hne
    · exact eqS_4 hne
    · exact eqS_9 hne
    · exact eqS_8 (fun z hz => by omega)
  have hk : ∀ l, l < 36 → eqK A (aI A f k v) l := by
    intro l _
    rcases nF_in hj with ⟨rfl, rfl, rfl⟩ | ⟨rfl, rfl, rfl⟩ | ⟨rfl, rfl, rfl⟩ | ⟨w, hw, rfl, rfl, rfl⟩
    · exact eqK_3
    · exact eqK_4
    · exact eqK_9
    · exact eqK_8
  refine CX_st hX hs (fun r hr => iput_n _ _ _ (by omega)) ⟨?_, ?_, ?_, ?_, ?_, ?_, ?_⟩ hst hk (aI_f _ _ _ _ (by omega)) rfl rfl (aI_f _ _ _ _ (by omega)) (aI_f _ _ _ _ (by omega)) (aI_f _ _ _ _ (by omega)) rfl rfl
  · refine ⟨?_, ⟨h, g1, ?_, fun o ho => ?_⟩, ?_⟩
    · rw [iput_j _ _ _ (Ne.symm hjj.1)]; exact c0
    · rw [iput_j _ _ _ (Ne.symm hjj.2.1)]; exact g2
    · rw [aI_f _ _ _ _ (by omega)]; exact g3 o ho
    · have hawk : awk (aI A f k v) s = awk A s := awk_A (fun o ho => aI_f _ _ _ _ (by omega))
      rw [hawk]
      rcases nF_in hj with ⟨rfl, rfl, rfl⟩ | ⟨rfl, rfl, rfl⟩ | ⟨rfl, rfl, rfl⟩ | ⟨w, hw, rfl, rfl, rfl⟩
      · refine ⟨by rw [iput_s, aI_s], ?_, ?_, ?_, fun w hw => ?_⟩
        · rw [iput_j _ _ _ (by decide), aI_f _ _ _ _ (by decide)]; exact c4
        · rw [iput_j _ _ _ (by decide)]; exact c5
        · rw [iput_j _ _ _ (by decide), aI_f _ _ _ _ (by decide)]; exact c6
        · rw [iput_j _ _ _ (by omega), aI_f _ _ _ _ (by decide)]; exact c7 w hw
      · refine ⟨?_, by rw [iput_s, aI_s], ?_, ?_, fun w hw => ?_⟩
        · rw [iput_j _ _ _ (by decide), aI_f _ _ _ _ (by decide)]; exact c3
        · rw [iput_j _ _ _ (by decide)]; exact c5
        · rw [iput_j _ _ _ (by decide), aI_f _ _ _ _ (by decide)]; exact c6
        · rw [iput_j _ _ _ (by omega), aI_f _ _ _ _ (by decide)]; exact c7 w hw
      · refine ⟨?_, ?_, ?_, by rw [iput_s, aI_s], fun w hw => ?_⟩
        · rw [iput_j _ _ _ (by decide), aI_f _ _ _ _ (by decide)]; exact c3
        · rw [iput_j _ _ _ (by decide), aI_f _ _ _ _ (by decide)]; exact c4
        · rw [iput_j _ _ _ (by decide)]; exact c5
        · rw [iput_j _ _ _ (by omega), aI_f _ _ _ _ (by decide)]; exact c7 w hw
      · refine ⟨?_, ?_, ?_, ?_, fun z hz => ?_⟩
        · rw [iput_j _ _ _ (by omega), aI_f _ _ _ _ (by decide)]; exact c3
        · rw [iput_j _ _ _ (by omega), aI_f _ _ _ _ (by decide)]; exact c4
        · rw [iput_j _ _ _ (by omega)]; exact c5
        · rw [iput_j _ _ _ (by omega), aI_f _ _ _ _ (by decide)]; exact c6
        · by_cases e : z = w
          · subst e
            rw [iput_s, aI_s]
          · rw [iput_j _ _ _ (by omega), aI_k _ _ _ (by omega)]; exact c7 z hz
  · exact cS2_A (cS2_same d2 (iput_n _ _ _ (by omega))) (fun _ _ => aI_f _ _ _ _ (by omega))
  · exact cS3_A (cS3_same d3 (fun r a b => iput_n _ _ _ (by omega))) (fun _ _ => ⟨aI_f _ _ _ _ (by omega), aI_f _ _ _ _ (by omega)⟩)
  · exact cSn_A (cSn_same d4 (fun r a b => iput_n _ _ _ (by omega))) (aI_f _ _ _ _ (by omega)) (aI_f _ _ _ _ (by omega)) (aI_f _ _ _ _ (by omega)) rfl rfl
  · exact cRv_A (cRv_same d5 (fun r a b => iput_n _ _ _ (by omega))) (aI_f _ _ _ _ (by omega)) (aI_f _ _ _ _ (by omega)) (aI_f _ _ _ _ (by omega)) rfl rfl
  · exact isR_same d6 (fun r a b => iput_n _ _ _ (by omega))
  · exact cMl_A (cMl_same d7 (fun r a b => iput_n _ _ _ (by omega))) rfl
/-- a station's queue is another one -/
theorem CX_que {I0 I J : mIm} {A : aT} {s : Nat} {l : List (List Int32)} (hX : CX I0 I A) (hs : s < 6) (h1 : isR J (cN s + 10) 12 90 l) (e : ∀ r, (r < cN s + 10 ∨ cN s + 36 ≤ r) → J r = I r) : CX I0 J (aQ A 0 s l) := by
  obtain ⟨d1, d2, d3, d4, d5, d6, d7⟩ := hX.1.2.1 s hs
  refine CX_st hX hs (fun r hr => e r (by omega)) ⟨?_, ?_, ?_, ?_, ?_, ?_, ?_⟩ (fun t ht hne => eqSQ_0 hne) (fun l hl => eqKQ_0) rfl rfl rfl rfl rfl rfl rfl rfl
  · exact cS1_same d1 (e _ (by omega))
  · exact cS2_same d2 (e _ (by omega))
  · exact cS3_same d3 (fun r a b => e _ (by omega))
  · exact cSn_same d4 (fun r a b => e _ (by omega))
  · exact cRv_same d5 (fun r a b => e _ (by omega))
  · rw [aQ_s]; exact h1
  · exact cMl_A (cMl_same d7 (fun r a b => e _ (by omega))) (aQ_f _ _ _ _ (by decide))
/-- a station's mailbox is another one -/
theorem CX_mai {I0 I J : mIm} {A : aT} {s : Nat} {l : List (List Int32)} (hX : CX I0 I A) (hs : s < 6) (h1 : isR J (cN s + 36) 8 16 l) (h2 : ∀ p ∈ l, 4 < p.length) (e : ∀ r, (r < cN s + 36 ∨ cN s + 54 ≤ r) → J r = I r) : CX I0 J (aQ A 1 s (l.map mlOf)) := by
  obtain ⟨d1, d2, d3, d4, d5, d6, d7⟩ := hX.1.2.1 s hs
  refine CX_st hX hs (fun r hr => e r (by omega)) ⟨?_, ?_, ?_, ?_, ?_, ?_, ?_⟩ (fun t ht hne => eqSQ_1 hne) (fun l hl => eqKQ_1) rfl rfl rfl rfl rfl rfl rfl rfl
  · exact cS1_same d1 (e _ (by omega))
  · exact cS2_same d2 (e _ (by omega))
  · exact cS3_same d3 (fun r a b => e _ (by omega))
  · exact cSn_same d4 (fun r a b => e _ (by omega))
  · exact cRv_same d5 (fun r a b => e _ (by omega))
  · rw [aQ_f _ _ _ _ (by decide)]; exact isR_same d6 (fun r a b => e _ (by omega))
  · exact ⟨l, h1, by rw [aQ_s], h2⟩
theorem CX_tun {I0 I : mIm} {A : aT} (hX : CX I0 I A) {s k : Nat} (hs : s < 6) (hk : k < 9) (v : Int32) : CX I0 (iput I (cN s + 1) k v) (aI A 1 (9 * s + k) v) := ⟨CInv_tun hX.1 hs hk v, fun r hr => by rw [iput_n _ _ _ (by unfold cN; omega)]; exact hX.2.1 r hr, fun j hj => by rw [iput_n _ _ _ (by unfold cN; omega)]; exact hX.2.2 j hj⟩
theorem CX_tape {I0 I J : mIm} {A : aT} {l : List Int32} (h : CX I0 I A) (e : ∀ r, r ≠ 1266 → r ≠ 1267 → J r = I r) (hl : isL J 1266 l) (hc : l.length ≤ 260) : CX I0 J (aL A 0 0 l) := ⟨CInv_tape h.1 e hl hc, fun r hr => by rw [e r (by omega) (by omega)]; exact h.2.1 r hr, fun j hj => by rw [e 16 (by omega) (by omega)]; exact h.2.2 j hj⟩
theorem CX_out {I0 I J : mIm} {A : aT} {l : List Int32} (h : CX I0 I A) (e : ∀ r, r ≠ 1268 → r ≠ 1269 → J r = I r) (hl : isL J 1268 l) (hc : l.length ≤ 907) : CX I0 J (aL A 1 0 l) := ⟨CInv_out h.1 (fun r a b _ => e r a b) hl hc, fun r hr => by rw [e r (by omega) (by omega)]; exact h.2.1 r hr, fun j hj => by rw [e 16 (by omega) (by omega)]; exact h.2.2 j hj⟩
/-! the rules -/
section CR
variable {S : mS} {β : Type} {Q : β → mIm → Prop} {I0 I : mIm} {A : aT} {s o j : Nat}
def kR (s o : Nat) : Nat → Option Nat
  | 0 => some (cN s)
  | 2 => some (cK s o + 1)
  | 3 => some (cK s o + 2)
  | 4 => some (cK s o + 4)
  | 5 => some (cK s o + 6)
  | 6 => some (cK s o + 20)
  | _ => none
def nR (s : Nat) : Nat → Option Nat
  | 1 => some (cN s + 1)
  | 2 => some (cN s + 2)
  | 3 => some (cN s + 5)
  | 4 => some (cN s + 10)
  | 5 => some (cN s + 36)
  | 6 => some (cN s + 54)
  | 7 => some (cN s + 55)
  | _ => none
theorem cK_k (hS : Shp S) (hl : isLk s o) : S.2.1 (cK s o) = 12 := (hS.2.2.1 s hl.1 o hl.2.1 hl.2.2).2.1
theorem cP_k (hS : Shp S) (hl : isLk s o) : S.2.1 (cK s o + 1) = 13 := (hS.2.2.1 s hl.1 o hl.2.1 hl.2.2).2.2.2.2.2.2.2.2.1
theorem cN_k (hS : Shp S) (hs : s < 6) : S.2.1 (cN s) = 18 := (hS.2.1 s hs).1
theorem rK (hS : Shp S) (hl : isLk s o) {q : Nat} {k : Option Nat → Option (β × mM)} (hj : kR s o j = some q) (h : pw S (k (some q)) Q) : pw S (x_gR (I, S) 2 (some (cK s o)) j k) Q := by
  obtain ⟨a1, a2, a3, a4, a5, a6, a7, a8, a9⟩ := hS.2.2.1 s hl.1 o hl.2.1 hl.2.2
  unfold kR at hj
  split at hj
  all_goals first | (cases hj; done) | (injection hj with hj; subst hj; exact pw_gR a2 (by assumption) h)
theorem rN (hS : Shp S) (hs : s < 6) {q : Nat} {k : Option Nat → Option (β × mM)} (hj : nR s j = some q) (h : pw S (k (some q)) Q) : pw S (x_gR (I, S) 8 (some (cN s)) j k) Q := by
  obtain ⟨a1, a2, a3, a4, a5, a6, a7, a8, a9, a10, a11⟩ := hS.2.1 s hs
  unfold nR at hj
  split at hj
  all_goals first | (cases hj; done) | (injection hj with hj; subst hj; exact pw_gR a1 (by assumption) h)
theorem gK (hS : Shp S) (hl : isLk s o) (hX : CX I0 I A) {f : Nat} {k : Int32 → Option (β × mM)} (hj : kF j = some f) (h : pw S (k (A.1 f (6 * s + o))) Q) : pw S (x_gI (I, S) 2 (some (cK s o)) j k) Q := by
  refine pw_gI (cK_k hS hl) ?_
  rw [cLk_get (hX.1.2.2 s hl.1 o hl.2.1 hl.2.2) hj]
  exact h
theorem gK1 (hS : Shp S) (hl : isLk s o) (hX : CX I0 I A) {k : Int32 → Option (β × mM)} (h : pw S (k (nI o)) Q) : pw S (x_gI (I, S) 2 (some (cK s o)) 1 k) Q := by
  refine pw_gI (cK_k hS hl) ?_
  rw [(hX.1.2.2 s hl.1 o hl.2.1 hl.2.2).1]
  exact h
theorem sK (hS : Shp S) (hl : isLk s o) (hX : CX I0 I A) {f : Nat} {v : Int32} {k : mM → Option (β × mM)} (hj : kF j = some f) (h7 : j ≠ 7) (h : ∀ J, CX I0 J (aI A f (6 * s + o) v) → pw S (k (J, S)) Q) : pw S (x_pI (I, S) 2 (some (cK s o)) j v k) Q := pw_pI (cK_k hS hl) (h _ (CX_setK hX hl hj h7))
theorem sKz (hS : Shp S) (hl : isLk s o) (hX : CX I0 I A) {f : Nat} {v : Int32} {k : mM → Option (β × mM)} (hj : kF j = some f) (h7 : j ≠ 7) (hv : v = 0 ∨ v = 1) (h : ∀ J, CX I0 J (aI A f (6 * s + o) v) → pw S (k (J, S)) Q) : pw S (x_pZ (I, S) 2 (some (cK s o)) j v k) Q := pw_pZ (cK_k hS hl) hv (h _ (CX_setK hX hl hj h7))
theorem gP (hS : Shp S) (hl : isLk s o) (hX : CX I0 I A) {f : Nat} {k : Int32 → Option (β × mM)} (hj : pF j = some f) (h : pw S (k (A.1 f (6 * s + o))) Q) : pw S (x_gI (I, S) 3 (some (cK s o + 1)) j k) Q := by
  refine pw_gI (cP_k hS hl) ?_
  rw [cLk_getp (hX.1.2.2 s hl.1 o hl.2.1 hl.2.2) hj]
  exact h
theorem gP0 (hS : Shp S) (hl : isLk s o) (hX : CX I0 I A) {k : Int32 → Option (β × mM)} (h : pw S (k (nI o)) Q) : pw S (x_gI (I, S) 3 (some (cK s o + 1)) 0 k) Q := by
  refine pw_gI (cP_k hS hl) ?_
  rw [(hX.1.2.2 s hl.1 o hl.2.1 hl.2.2).2.2.1.1]
  exact h
theorem sP (hS : Shp S) (hl : isLk s o) (hX : CX I0 I A) {f : Nat} {v : Int32} {k : mM → Option (β × mM)} (hj : pF j = some f) (h : ∀ J, CX I0 J (aI A f (6 * s + o) v) → pw S (k (J, S)) Q) : pw S (x_pI (I, S) 3 (some (cK s o + 1)) j v k) Q := pw_pI (cP_k hS hl) (h _ (CX_setP hX hl hj))
theorem gN (hS : Shp S) (hs : s < 6) (hX : CX I0 I A) {f n : Nat} {k : Int32 → Option (β × mM)} (hj : nF s j = some (f, n)) (h : pw S (k (A.1 f n)) Q) : pw S (x_gI (I, S) 8 (some (cN s)) j k) Q := by
  refine pw_gI (cN_k hS hs) ?_
  rw [cS1_get (hX.1.2.1 s hs).1 hj]
  exact h
theorem gN0 (hS : Shp S) (hs : s < 6) (hX : CX I0 I A) {k : Int32 → Option (β × mM)} (h : pw S (k (nI s)) Q) : pw S (x_gI (I, S) 8 (some (cN s)) 0 k) Q := by
  refine pw_gI (cN_k hS hs) ?_
  rw [(hX.1.2.1 s hs).1.1]
  exact h
theorem gN11 (hS : Shp S) (hs : s < 6) (hX : CX I0 I A) {k : Int32 → Option (β × mM)} (h : pw S (k (nI (awk A s))) Q) : pw S (x_gI (I, S) 8 (some (cN s)) 11 k) Q := by
  refine pw_gI (cN_k hS hs) ?_
  rw [(hX.1.2.1 s hs).1.2.2.2.2.1]
  exact h
theorem sN (hS : Shp S) (hs : s < 6) (hX : CX I0 I A) {f n : Nat} {v : Int32} {k : mM → Option (β × mM)} (hj : nF s j = some (f, n)) (h : ∀ J, CX I0 J (aI A f n v) → pw S (k (J, S)) Q) : pw S (x_pI (I, S) 8 (some (cN s)) j v k) Q := pw_pI (cN_k hS hs) (h _ (CX_setN hX hs hj))
theorem sNz (hS : Shp S) (hs : s < 6) (hX : CX I0 I A) {f n : Nat} {v : Int32} {k : mM → Option (β × mM)} (hj : nF s j = some (f, n)) (hv : v = 0 ∨ v = 1) (h : ∀ J, CX I0 J (aI A f n v) → pw S (k (J, S)) Q) : pw S (x_pZ (I, S) 8 (some (cN s)) j v k) Q := pw_pZ (cN_k hS hs) hv (h _ (CX_setN hX hs hj))
theorem gT (hS : Shp S) (hs : s < 6) (hX : CX I0 I A) (n : Nat) {i : Int32} {k : Int32 → Option (β × mM)} (hi : i = nI n) (hn : n < 9) (h : pw S (k (A.1 1 (9 * s + n))) Q) : pw S (x_aI (I, S) 0 (some (cN s + 1)) i k) Q := by
  have hA := (hS.2.1 s hs).2.2.2.2.2.2.2.2.2.2.1
  refine pw_aI n hA.1 hi (by rw [hA.2]; exact hn) (by rw [hA.2]; decide) ?_
  rw [(hX.1.2.1 s hs).2.1 n hn]
  exact h
theorem sT (hS : Shp S) (hs : s < 6) (hX : CX I0 I A) (n : Nat) {i v : Int32} {k : mM → Option (β × mM)} (hi : i = nI n) (hn : n < 9) (h : ∀ J, CX I0 J (aI A 1 (9 * s + n) v) → pw S (k (J, S)) Q) : pw S (x_wI (I, S) (some (cN s + 1)) i v k) Q := by
  have hA := (hS.2.1 s hs).2.2.2.2.2.2.2.2.2.2.1
  exact pw_wI n hA.1 hi (by rw [hA.2]; exact hn) (by rw [hA.2]; decide) (h _ (CX_tun hX hs hn v))
theorem gB {b cap : Nat} {l : List Int32} {k : Int32 → Option (β × mM)} (hB : isB S b cap) (hl : isL I b l) (h : pw S (k (nI l.length)) Q) : pw S (x_gI (I, S) 0 (some b) 1 k) Q := by
  refine pw_gI hB.1 ?_
  rw [hl.1]
  exact h
theorem gW {w n cap : Nat} {ll : List (List Int32)} {k : Int32 → Option (β × mM)} (hW : isW S w n cap) (hl : isR I w n cap ll) (h : pw S (k (nI ll.length)) Q) : pw S (x_gI (I, S) 6 (some w) 2 k) Q := by
  refine pw_gI hW.1 ?_
  rw [(isR_len hl).2.1]
  exact h
/-- a choice, in the code as in what is told of it -/
theorem pw_ite {γ : Type} {c : Prop} [Decidable c] {o1 o2 : Option (β × mM)} {a b : γ} {P : γ → β → mIm → Prop} (h1 : c → pw S o1 (P a)) (h2 : ¬ c → pw S o2 (P b)) : pw S (if c then o1 else o2) (P (if c then a else b)) := by
  by_cases h : c
  · rw [if_pos h, if_pos h]; exact h1 h
  · rw [if_neg h, if_neg h]; exact h2 h
end CR
