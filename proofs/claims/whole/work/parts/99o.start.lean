/-! the first state; all of it -/
def A0 : aT := (fun f k => if f = 1 then (match k % 9 with
  | 0 => 80
  | 1 => 20
  | 2 => 2
  | 3 => nI (k / 9 + 1)
  | 4 => 1500
  | 5 => 192
  | _ => 0) else if f = 2 then (if k / 6 = k % 6 then 0 else 1) else if f = 21 ∨ f = 22 then -1 else 0, fun _ _ => [], fun _ _ => [])
def v0 (r j : Nat) : Int32 := MQ1.1 r j
theorem A0_z {f k : Nat} (h : f ≠ 1 ∧ f ≠ 2 ∧ f ≠ 21 ∧ f ≠ 22) : A0.1 f k = 0 := by
  show (if f = 1 then _ else if f = 2 then _ else if f = 21 ∨ f = 22 then _ else (0 : Int32)) = 0
  rw [if_neg h.1, if_neg h.2.1, if_neg (by omega)]
theorem A0_21 {k : Nat} : A0.1 21 k = -1 := rfl
theorem A0_22 {k : Nat} : A0.1 22 k = -1 := rfl
def bA1 : Bool := (List.range 6).all (fun s => decide (A0.1 1 (9 * s + 2) = 2 ∧ A0.1 1 (9 * s + 4) = 1500 ∧ A0.1 1 (9 * s + 5) = 192) && (List.range 6).all (fun i => decide (A0.1 2 (6 * s + i) = 0 ∨ A0.1 2 (6 * s + i) = 1)))
theorem bA1_ok : bA1 = true := by decide +kernel
theorem AI_0 : AInv A0 := by
  have hb : ∀ s, s < 6 → (A0.1 1 (9 * s + 2) = 2 ∧ A0.1 1 (9 * s + 4) = 1500 ∧ A0.1 1 (9 * s + 5) = 192) ∧ ∀ i, i < 6 → (A0.1 2 (6 * s + i) = 0 ∨ A0.1 2 (6 * s + i) = 1) := fun s hs => by
    have := List.all_eq_true.mp bA1_ok s (List.mem_range.mpr hs)
    rw [Bool.and_eq_true] at this
    exact ⟨of_decide_eq_true this.1, fun i hi => of_decide_eq_true (List.all_eq_true.mp this.2 i (List.mem_range.mpr hi))⟩
  refine ⟨fun s hs => ?_, fun k hk i hi => (hb k hk).2 i hi, fun s hs => ?_, fun k hk => ?_, ⟨fun k hk => ?_, fun s hs n hn => A0_z (by decide), fun s hs d hd => A0_z (by decide)⟩, fun l hl => ?_⟩
  · obtain ⟨⟨h1, h2, h3⟩, -⟩ := hb s hs
    exact ⟨⟨2, by decide, by decide, h1⟩, ⟨1500, by decide, by decide, h2⟩, ⟨192, by decide, by decide, h3⟩⟩
  · rw [A0_z (f := 6) (by decide), A0_z (f := 5) (by decide), A0_z (f := 7) (by decide)]
    exact ⟨Or.inl rfl, Or.inl rfl, 0, by decide, rfl⟩
  · refine ⟨Or.inl (A0_z (f := 12) (k := k) (by decide)), fun x hx => ?_, fun j hj => ?_, Or.inl rfl, ?_⟩
    · exact absurd hx (by show ¬ x ∈ ([] : List Int32); simp)
    · exact absurd hj (by show ¬ j < ([] : List Int32).length; simp)
    · show ([] : List Int32).length ≤ 90
      decide
  · rw [A0_z (f := 40) (by decide)]
    decide
  · unfold lOk
    rw [A0_z (f := 20) (by decide), A0_z (f := 24) (by decide), A0_z (f := 25) (by decide), A0_z (f := 27) (by decide), A0_z (f := 28) (by decide), A0_z (f := 30) (by decide), A0_z (f := 32) (by decide), A0_21, A0_22]
    refine ⟨⟨by decide, by decide⟩, ⟨0, by decide, rfl⟩, ?_, Or.inl rfl, Or.inl rfl, ⟨0, by decide, rfl⟩, ⟨0, by decide, rfl⟩, fun _ => rfl, ⟨0, by decide, rfl⟩, ?_⟩
    · show ((0 : Int32) - 0) &&& 7 = nI 0
      decide
    · show (0 : Nat) ≤ 4
      decide
/-! the class -/
def isL0 (b : Nat) : Bool := decide (v0 b 1 = 0)
def isR0 (w : Nat) : Bool := decide (v0 w 1 = 0 ∧ v0 w 2 = 0)
def bC1 : Bool := decide (v0 16 7 = 0 ∧ v0 1273 2 = 0 ∧ v0 1273 3 = 0 ∧ v0 1273 4 = 0) && (isL0 1266 && (isL0 1268 && isL0 1276))
def bC2 : Bool := (List.range 6).all (fun s => decide (v0 (cN s) 0 = nI s ∧ v0 (cN s) 8 = nI (63 - 2 ^ s) ∧ v0 (cN s) 9 = 0 ∧ v0 (cN s) 10 = 0 ∧ v0 (cN s) 11 = 0 ∧ v0 (cN s) 12 = 0 ∧ v0 (cN s + 55) 0 = nI s) && ((List.range 5).all (fun w => decide (v0 (cN s) (13 + w) = 0)) && ((List.range 6).all (fun o => decide (A0.1 2 (6 * s + o) = nI ((63 - 2 ^ s) / 2 ^ o % 2))) && ((List.range 9).all (fun w => decide (v0 (cN s + 1) w = A0.1 1 (9 * s + w))) && (List.range 36).all (fun d => decide (v0 (cN s + 56) d = 0 ∧ v0 (cN s + 57) d = 0))))))
def bC3 : Bool := (List.range 6).all (fun s => decide (v0 (cN s + 2) 1 = 0 ∧ v0 (cN s + 2) 2 = 0 ∧ v0 (cN s + 2) 3 = 0 ∧ v0 (cN s + 2) 4 = 0 ∧ v0 (cN s + 2) 5 = 0 ∧ v0 (cN s + 2) 6 = 0 ∧ v0 (cN s + 5) 2 = 0 ∧ v0 (cN s + 5) 3 = 0 ∧ v0 (cN s + 5) 4 = 0) && (isL0 (cN s + 3) && (isL0 (cN s + 8) && (isR0 (cN s + 10) && isR0 (cN s + 36)))))
def bC4 : Bool := (List.range 6).all (fun s => (List.range 6).all (fun o => o == s || (decide (v0 (cK s o) 1 = nI o ∧ v0 (cK s o + 1) 0 = nI o ∧ v0 (cK s o + 1) 1 = -1 ∧ v0 (cK s o + 1) 2 = -1 ∧ v0 (cK s o + 1) 3 = 0) && ((List.range 11).all (fun j => decide (v0 (cK s o) (7 + j) = 0)) && (isL0 (cK s o + 2) && (isL0 (cK s o + 4) && (isR0 (cK s o + 6) && isR0 (cK s o + 20))))))))
theorem bC1_ok : bC1 = true := by decide +kernel
theorem bC2_ok : bC2 = true := by decide +kernel
theorem bC3_ok : bC3 = true := by decide +kernel
theorem bC4_ok : bC4 = true := by decide +kernel
theorem isL_0 {b : Nat} (h : isL0 b = true) : isL MQ1.1 b [] := ⟨of_decide_eq_true h, fun j x hj => by simp at hj⟩
theorem isR_0 {w n cap : Nat} (hn : 0 < n) (h : isR0 w = true) : isR MQ1.1 w n cap [] := by
  have h := of_decide_eq_true h
  exact ⟨0, hn, h.1, h.2, by simp, fun i l hl => by simp at hl⟩
theorem awk_0 (s : Nat) : awk A0 s = 0 := by
  unfold awk
  rw [List.length_eq_zero_iff, List.filter_eq_nil_iff]
  intro o _ q
  rw [decide_eq_true_eq] at q
  exact q (A0_z (by decide))
theorem C_0 : CInv MQ1.1 A0 := by
  refine ⟨?_, fun s hs => ?_, fun s hs o ho hne => ?_⟩
  · have h := bC1_ok
    unfold bC1 at h
    rw [Bool.and_eq_true, Bool.and_eq_true, Bool.and_eq_true] at h
    obtain ⟨h1, h2, h3, h4⟩ := h
    obtain ⟨g1, g2, g3, g4⟩ := of_decide_eq_true h1
    refine ⟨by rw [A0_z (by decide)]; exact g1, ⟨isL_0 h2, by show (0 : Nat) ≤ 260; decide⟩, ⟨isL_0 h3, by show (0 : Nat) ≤ 907; decide⟩, ?_⟩
    unfold cRv
    rw [A0_z (f := 12) (by decide), A0_z (f := 10) (by decide), A0_z (f := 11) (by decide)]
    exact ⟨g2, g3, g4, isL_0 h4, by show (0 : Nat) ≤ 90; decide, fun q => absurd q (by decide)⟩
  · have h2 := List.all_eq_true.mp bC2_ok s (List.mem_range.mpr hs)
    have h3 := List.all_eq_true.mp bC3_ok s (List.mem_range.mpr hs)
    rw [Bool.and_eq_true, Bool.and_eq_true, Bool.and_eq_true, Bool.and_eq_true] at h2 h3
    obtain ⟨a1, a2, a3, a4, a5⟩ := h2
    obtain ⟨b1, b2, b3, b4, b5⟩ := h3
    obtain ⟨p1, p2, p3, p4, p5, p6, p7⟩ := of_decide_eq_true a1
    obtain ⟨q1, q2, q3, q4, q5, q6, q7, q8, q9⟩ := of_decide_eq_true b1
    refine ⟨?_, fun w hw => of_decide_eq_true (List.all_eq_true.mp a4 w (List.mem_range.mpr hw)), ?_, ?_, ?_, isR_0 (by decide) b4, ⟨[], isR_0 (by decide) b5, rfl, fun p hp => by simp at hp⟩⟩
    · unfold cS1
      rw [awk_0, A0_z (f := 3) (by decide), A0_z (f := 4) (by decide), A0_z (f := 9) (by decide)]
      refine ⟨p1, ⟨63 - 2 ^ s, Nat.lt_of_le_of_lt (Nat.sub_le _ _) (by decide), p2, fun o ho => of_decide_eq_true (List.all_eq_true.mp a3 o (List.mem_range.mpr ho))⟩, p3, p4, p5, p6, fun w hw => ?_⟩
      rw [A0_z (f := 8) (by decide)]
      exact of_decide_eq_true (List.all_eq_true.mp a2 w (List.mem_range.mpr hw))
    · refine ⟨p7, fun d hd => ?_⟩
      rw [A0_z (f := 40) (by decide), A0_z (f := 41) (by decide)]
      exact of_decide_eq_true (List.all_eq_true.mp a5 d (List.mem_range.mpr hd))
    · unfold cSn
      rw [A0_z (f := 5) (by decide), A0_z (f := 6) (by decide), A0_z (f := 7) (by decide)]
      exact ⟨q4, q5, q6, [], 0, 0, 0, isL_0 b2, by decide, q1, q2, q3, by decide, by decide, by decide, fun _ => ⟨rfl, by decide⟩, fun q => absurd q (by decide)⟩
    · unfold cRv
      rw [A0_z (f := 12) (by decide), A0_z (f := 10) (by decide), A0_z (f := 11) (by decide)]
      exact ⟨q7, q8, q9, isL_0 b3, by show (0 : Nat) ≤ 90; decide, fun q => absurd q (by decide)⟩
  · have h4 := List.all_eq_true.mp (List.all_eq_true.mp bC4_ok s (List.mem_range.mpr hs)) o (List.mem_range.mpr ho)
    simp only [Bool.or_eq_true, beq_iff_eq] at h4
    have h4 := h4.resolve_left hne
    rw [Bool.and_eq_true, Bool.and_eq_true, Bool.and_eq_true, Bool.and_eq_true, Bool.and_eq_true] at h4
    obtain ⟨a1, a2, a3, a4, a5, a6⟩ := h4
    obtain ⟨p1, p2, p3, p4, p5⟩ := of_decide_eq_true a1
    have z : ∀ j, j < 11 → MQ1.1 (cK s o) (7 + j) = 0 := fun j hj => of_decide_eq_true (List.all_eq_true.mp a2 j (List.mem_range.mpr hj))
    unfold cLk
    rw [A0_z (f := 20) (by decide), A0_z (f := 24) (by decide), A0_z (f := 25) (by decide), A0_z (f := 26) (by decide), A0_z (f := 27) (by decide), A0_z (f := 28) (by decide), A0_z (f := 29) (by decide), A0_z (f := 30) (by decide), A0_z (f := 31) (by decide), A0_z (f := 32) (by decide), A0_z (f := 33) (by decide), A0_z (f := 23) (by decide), A0_21, A0_22]
    exact ⟨p1, ⟨z 0 (by decide), z 1 (by decide), z 2 (by decide), z 3 (by decide), z 4 (by decide), z 5 (by decide), z 6 (by decide), z 7 (by decide), z 8 (by decide), z 9 (by decide), z 10 (by decide)⟩, ⟨p2, p3, p4, p5⟩, ⟨isL_0 a3, by show (0 : Nat) ≤ 200; decide⟩, ⟨isL_0 a4, by show (0 : Nat) ≤ 64; decide⟩, isR_0 (by decide) a5, isR_0 (by decide) a6⟩
/-! the reference -/
def bR1 : Bool := decide (v0 1282 15 = 0 ∧ v0 1282 1 = 0 ∧ v0 1282 3 = 0) && ((List.range 7).all (fun k => decide (v0 1291 k = 0)) && ((List.range 6).all (fun s => decide (v0 1296 s = 0 ∧ v0 1344 s = 0)) && (List.range 36).all (fun l => decide (v0 1331 l = 0 ∧ v0 1333 l = 0 ∧ v0 1336 l = 0 ∧ v0 1340 l = 0))))
def bR2 : Bool := rTab.all (fun q => (List.range q.2.2).all (fun k => decide (v0 q.1 k = A0.1 q.2.1 k)))
theorem bR1_ok : bR1 = true := by decide +kernel
theorem bR2_ok : bR2 = true := by decide +kernel
theorem R_0 : RInv MQ1.1 A0 := by
  have h := bR1_ok
  unfold bR1 at h
  rw [Bool.and_eq_true, Bool.and_eq_true, Bool.and_eq_true] at h
  obtain ⟨h1, h2, h3, h4⟩ := h
  obtain ⟨g1, g2, g3⟩ := of_decide_eq_true h1
  have nf : ∀ r a, fL MQ1.1 r a [] := fun r a j x hj => by simp at hj
  refine ⟨⟨by rw [A0_z (by decide)]; exact g1, ⟨g2, nf _ _, by show (0 : Nat) ≤ 260; decide⟩, ⟨g3, nf _ _, by show (0 : Nat) ≤ 907; decide⟩⟩, fun q hq k hk => of_decide_eq_true (List.all_eq_true.mp (List.all_eq_true.mp bR2_ok q hq) k (List.mem_range.mpr hk)), fun k hk => ⟨⟨of_decide_eq_true (List.all_eq_true.mp h2 k (List.mem_range.mpr hk)), by show (0 : Nat) ≤ 90; decide, nf _ _⟩, fun q => ?_⟩, fun s hs => ⟨⟨?_, by show (0 : Nat) ≤ 12; decide, fun i l hl => ?_⟩, ⟨?_, by show (0 : Nat) ≤ 8; decide, fun i l hl => ?_⟩, fun q => ?_⟩, fun l hl => ?_⟩
  · rw [A0_z (f := 12) (by decide)] at q
    exact absurd q (by decide)
  · exact (of_decide_eq_true (List.all_eq_true.mp h3 s (List.mem_range.mpr hs))).1
  · have hl : ([] : List (List Int32))[i]? = some l := hl
    simp at hl
  · exact (of_decide_eq_true (List.all_eq_true.mp h3 s (List.mem_range.mpr hs))).2
  · have hl : ([] : List (List Int32))[i]? = some l := hl
    simp at hl
  · rw [A0_z (f := 6) (by decide)] at q
    exact absurd q (by decide)
  · obtain ⟨k1, k2, k3, k4⟩ := of_decide_eq_true (List.all_eq_true.mp h4 l (List.mem_range.mpr hl))
    refine ⟨⟨k1, by show (0 : Nat) ≤ 200; decide, nf _ _⟩, ⟨k2, by show (0 : Nat) ≤ 64; decide, nf _ _⟩, ⟨k3, by show (0 : Nat) ≤ 6; decide, fun i p hp => ?_⟩, ⟨k4, by show (0 : Nat) ≤ 4; decide, fun i p hp => ?_⟩⟩
    · have hp : ([] : List (List Int32))[i]? = some p := hp
      simp at hp
    · have hp : ([] : List (List Int32))[i]? = some p := hp
      simp at hp
theorem hpure (L : Nat) (xs : Nat → Int32) (hL : L ≤ 384) : ∃ Mf : mM, q_L_law L xs mM0 = some (1, Mf) ∧ mN Mf ≤ 600000 ∧ mSl Mf ≤ 7302250 := by
  unfold q_L_law
  rw [made (fun a1 a2 M => q_L_law_18 L xs mFU a1 a2 (0 : Int32) M)]
  have hS := shp_1
  rw [M1_eq] at hS ⊢
  obtain ⟨b, I, h1, h2⟩ := law18 hS hL xs 65 mFU 0 MQ1.1 A0 (by omega) (by unfold mFU; omega) C_0 R_0 AI_0
  refine ⟨(I, MQ1.2), ?_, ?_, ?_⟩
  · have h1 : q_L_law_18 L xs mFU (some 16) (some 1282) (nI (6 * 0)) (MQ1.1, MQ1.2) = some (b, (I, MQ1.2)) := h1
    rw [h2] at h1
    exact h1
  · show (1331 : Nat) ≤ 600000
    decide
  · show (65821 : Nat) ≤ 7302250
    decide
