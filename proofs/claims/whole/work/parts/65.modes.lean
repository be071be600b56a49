/-! MODES: enter, restart, goDown, called -/
theorem aL_1 (A : aT) (f k : Nat) (l : List Int32) : (aL A f k l).1 = A.1 := rfl
theorem aL_2 (A : aT) (f k : Nat) (l : List Int32) : (aL A f k l).2.2 = A.2.2 := rfl
theorem aQ_1 (A : aT) (f k : Nat) (l : List (List Int32)) : (aQ A f k l).1 = A.1 := rfl
theorem aQ_2 (A : aT) (f k : Nat) (l : List (List Int32)) : (aQ A f k l).2.1 = A.2.1 := rfl
theorem aI_2 (A : aT) (f k : Nat) (v : Int32) : (aI A f k v).2 = A.2 := rfl
theorem mrow_c {α : Type} (I : Nat → α) {r q : Nat} (v w : α) (h : r ≠ q) : mrow (mrow I r v) q w = mrow (mrow I q w) r v := by
  funext x
  unfold mrow
  by_cases h1 : x = q
  · have : x ≠ r := fun e => h (by rw [← e, h1])
    simp [h1, this, Ne.symm h]
  · simp [h1]
theorem mrow_o {α : Type} (I : Nat → α) (r : Nat) (v w : α) : mrow (mrow I r v) r w = mrow I r w := by
  funext x
  unfold mrow
  by_cases h1 : x = r <;> simp [h1]
/-- the order of two changes is all one -/
theorem aI_in (A : aT) {f g : Nat} (k j : Nat) (v w : Int32) (h : g ≠ f) : aI (aI A g j w) f k v = aI (aI A f k v) g j w := by
  unfold aI
  refine Prod.ext ?_ rfl
  dsimp only
  rw [mrow_n _ _ (Ne.symm h), mrow_n _ _ h]
  exact mrow_c _ _ _ h
theorem aI_i (A : aT) (f k : Nat) (v w : Int32) : aI (aI A f k w) f k v = aI A f k v := by
  unfold aI
  refine Prod.ext ?_ rfl
  dsimp only
  rw [mrow_s, mrow_o, mrow_o]
theorem aI_L (A : aT) (f k g j : Nat) (v : Int32) (l : List Int32) : aI (aL A g j l) f k v = aL (aI A f k v) g j l := rfl
theorem aI_Q (A : aT) (f k g j : Nat) (v : Int32) (l : List (List Int32)) : aI (aQ A g j l) f k v = aQ (aI A f k v) g j l := rfl
theorem aL_Q (A : aT) (f k g j : Nat) (v : List Int32) (l : List (List Int32)) : aL (aQ A g j l) f k v = aQ (aL A f k v) g j l := rfl
/-- CLEARED, all but INBOX and PACKETS, and a MODE -/
def aRst (A : aT) (l : Nat) (m : Int32) : aT := aQ (aL (aI (aI (aI (aI (aI (aI (aI (aI (aI A 20 l m) 24 l 0) 25 l 0) 26 l 0) 27 l 0) 28 l 0) 29 l 0) 30 l 0) 31 l 0) 10 l []) 3 l []
def aDn (A : aT) (l : Nat) : aT := aQ (aRst A l 0) 2 l []
theorem aRst_m (A : aT) (l : Nat) (m m2 : Int32) : aI (aRst A l m) 20 l m2 = aRst A l m2 := by
  unfold aRst
  rw [aI_Q, aI_L, aI_in (f := 20) (g := 31) _ _ _ _ _ (by decide), aI_in (f := 20) (g := 30) _ _ _ _ _ (by decide), aI_in (f := 20) (g := 29) _ _ _ _ _ (by decide), aI_in (f := 20) (g := 28) _ _ _ _ _ (by decide), aI_in (f := 20) (g := 27) _ _ _ _ _ (by decide), aI_in (f := 20) (g := 26) _ _ _ _ _ (by decide), aI_in (f := 20) (g := 25) _ _ _ _ _ (by decide), aI_in (f := 20) (g := 24) _ _ _ _ _ (by decide), aI_i]
def b1 (x : Int32) : Nat := if x = 0 then 0 else 1
theorem awk_eq (A : aT) (s : Nat) : awk A s = b1 (A.1 20 (6 * s + 0)) + b1 (A.1 20 (6 * s + 1)) + b1 (A.1 20 (6 * s + 2)) + b1 (A.1 20 (6 * s + 3)) + b1 (A.1 20 (6 * s + 4)) + b1 (A.1 20 (6 * s + 5)) := by
  have h : ∀ (p : Nat → Bool), ((List.range 6).filter p).length = (p 0).toNat + (p 1).toNat + (p 2).toNat + (p 3).toNat + (p 4).toNat + (p 5).toNat := by
    intro p
    show (List.filter p [0, 1, 2, 3, 4, 5]).length = _
    simp only [List.filter]
    cases p 0 <;> cases p 1 <;> cases p 2 <;> cases p 3 <;> cases p 4 <;> cases p 5 <;> rfl
  unfold awk
  rw [h]
  have e : ∀ x : Int32, (decide (x ≠ 0)).toNat = b1 x := fun x => by
    unfold b1
    by_cases hx : x = 0
    · rw [if_pos hx, hx]; rfl
    · rw [if_neg hx, decide_eq_true hx]; rfl
  rw [e, e, e, e, e, e]
theorem awk_set (A : aT) {s o : Nat} (ho : o < 6) (v : Int32) : awk (aI A 20 (6 * s + o) v) s + b1 (A.1 20 (6 * s + o)) = awk A s + b1 v := by
  rw [awk_eq, awk_eq]
  have e : ∀ z, z ≠ o → (aI A 20 (6 * s + o) v).1 20 (6 * s + z) = A.1 20 (6 * s + z) := fun z hz => aI_k _ _ _ (by omega)
  rcases (show o = 0 ∨ o = 1 ∨ o = 2 ∨ o = 3 ∨ o = 4 ∨ o = 5 by omega) with rfl | rfl | rfl | rfl | rfl | rfl
  · rw [aI_s, e 1 (by decide), e 2 (by decide), e 3 (by decide), e 4 (by decide), e 5 (by decide)]; omega
  · rw [aI_s, e 0 (by decide), e 2 (by decide), e 3 (by decide), e 4 (by decide), e 5 (by decide)]; omega
  · rw [aI_s, e 0 (by decide), e 1 (by decide), e 3 (by decide), e 4 (by decide), e 5 (by decide)]; omega
  · rw [aI_s, e 0 (by decide), e 1 (by decide), e 2 (by decide), e 4 (by decide), e 5 (by decide)]; omega
  · rw [aI_s, e 0 (by decide), e 1 (by decide), e 2 (by decide), e 3 (by decide), e 5 (by decide)]; omega
  · rw [aI_s, e 0 (by decide), e 1 (by decide), e 2 (by decide), e 3 (by decide), e 4 (by decide)]; omega
theorem CX_mode {I0 I J : mIm} {A : aT} {s o : Nat} {v : Int32} (hX : CX I0 I A) (hl : isLk s o) (e : ∀ r, r ≠ cN s → r ≠ cK s o → J r = I r) (e1 : ∀ j, j ≠ 11 → J (cN s) j = I (cN s) j) (e2 : J (cN s) 11 = nI (awk (aI A 20 (6 * s + o) v) s)) (e3 : ∀ j, j ≠ 7 → J (cK s o) j = I (cK s o) j) (e4 : J (cK s o) 7 = v) : CX I0 J (aI A 20 (6 * s + o) v) := by
  have hk := cK_lt hl.1 hl.2.1 hl.2.2
  have hs := hl.1
  have ho := hl.2.1
  refine ⟨⟨?_, fun t ht => ?_, fun t ht p hp hne => ?_⟩, fun r hr => ?_, fun j hj => ?_⟩
  · exact cGl_A (cGl_same hX.1.1 (fun r hr => e r (by unfold cN; omega) (by unfold cN at hk; omega))) (aI_f _ _ _ _ (by decide)) rfl rfl (aI_f _ _ _ _ (by decide)) (aI_f _ _ _ _ (by decide)) (aI_f _ _ _ _ (by decide)) rfl rfl
  · by_cases hts : t = s
    · subst hts
      obtain ⟨⟨c0, ⟨h, g1, g2, g3⟩, c3, c4, c5, c6, c7⟩, d2, d3, d4, d5, d6, d7⟩ := hX.1.2.1 t ht
      refine ⟨⟨?_, ⟨h, g1, ?_, fun o ho => ?_⟩, ?_, ?_, e2, ?_, fun w hw => ?_⟩, ?_, ?_, ?_, ?_, ?_, ?_⟩
      · rw [e1 _ (by decide)]; exact c0
      · rw [e1 _ (by decide)]; exact g2
      · rw [aI_f _ _ _ _ (by decide)]; exact g3 o ho
      · rw [e1 _ (by decide), aI_f _ _ _ _ (by decide)]; exact c3
      · rw [e1 _ (by decide), aI_f _ _ _ _ (by decide)]; exact c4
      · rw [e1 _ (by decide), aI_f _ _ _ _ (by decide)]; exact c6
      · rw [e1 _ (by omega), aI_f _ _ _ _ (by decide)]; exact c7 w hw
      · exact cS2_A (cS2_same d2 (e _ (by omega) (by omega))) (fun _ _ => aI_f _ _ _ _ (by decide))
      · exact cS3_A (cS3_same d3 (fun r a b => e _ (by omega) (by omega))) (fun _ _ => ⟨aI_f _ _ _ _ (by decide), aI_f _ _ _ _ (by decide)⟩)
      · exact cSn_A (cSn_same d4 (fun r a b => e _ (by omega) (by omega))) (aI_f _ _ _ _ (by decide)) (aI_f _ _ _ _ (by decide)) (aI_f _ _ _ _ (by decide)) rfl rfl
      · exact cRv_A (cRv_same d5 (fun r a b => e _ (by omega) (by omega))) (aI_f _ _ _ _ (by decide)) (aI_f _ _ _ _ (by decide)) (aI_f _ _ _ _ (by decide)) rfl rfl
      · exact isR_same d6 (fun r a b => e _ (by omega) (by omega))
      · exact cMl_A (cMl_same d7 (fun r a b => e _ (by omega) (by omega))) rfl
    · refine cSt_A (cSt_same (hX.1.2.1 t ht) (fun r a b => e r ?_ ?_)) (eqS_20 (fun z hz => by omega))
      · unfold cN at a b ⊢; omega
      · unfold cN at a b hk; omega
  · by_cases hts : t = s ∧ p = o
    · obtain ⟨rfl, rfl⟩ := hts
      obtain ⟨h0, ⟨h1, h2, h3, h4, h5, h6, h7, h8, h9, h10, h11⟩, ⟨p0, p1, p2, p3⟩, ⟨b1, b2⟩, ⟨b3, b4⟩, b5, b6⟩ := hX.1.2.2 t ht p hp hne
      refine ⟨?_, ⟨by rw [e4, aI_s], ?_, ?_, ?_, ?_, ?_, ?_, ?_, ?_, ?_, ?_⟩, ?_, ⟨isL_same b1 (e _ (by omega) (by omega)) (e _ (by omega) (by omega)), b2⟩, ⟨isL_same b3 (e _ (by omega) (by omega)) (e _ (by omega) (by omega)), b4⟩, isR_same b5 (fun r a b => e _ (by omega) (by omega)), isR_same b6 (fun r a b => e _ (by omega) (by omega))⟩
      · rw [e3 _ (by decide)]; exact h0
      · rw [e3 _ (by decide), aI_f _ _ _ _ (by decide)]; exact h2
      · rw [e3 _ (by decide), aI_f _ _ _ _ (by decide)]; exact h3
      · rw [e3 _ (by decide), aI_f _ _ _ _ (by decide)]; exact h4
      · rw [e3 _ (by decide), aI_f _ _ _ _ (by decide)]; exact h5
      · rw [e3 _ (by decide), aI_f _ _ _ _ (by decide)]; exact h6
      · rw [e3 _ (by decide), aI_f _ _ _ _ (by decide)]; exact h7
      · rw [e3 _ (by decide), aI_f _ _ _ _ (by decide)]; exact h8
      · rw [e3 _ (by decide), aI_f _ _ _ _ (by decide)]; exact h9
      · rw [e3 _ (by decide), aI_f _ _ _ _ (by decide)]; exact h10
      · rw [e3 _ (by decide), aI_f _ _ _ _ (by decide)]; exact h11
      · rw [e _ (by omega) (by omega), aI_f _ _ _ _ (by decide), aI_f _ _ _ _ (by decide), aI_f _ _ _ _ (by decide)]
        exact ⟨p0, p1, p2, p3⟩
    · have hd := cK_dis hl ⟨ht, hp, hne⟩ (by omega)
      have hk2 := cK_lt ht hp hne
      refine cLk_A (cLk_same (hX.1.2.2 t ht p hp hne) (fun r a b => e r ?_ (by omega))) (eqK_20 (by omega))
      rcases Nat.lt_trichotomy t s with q | q | q
      · unfold cN at hk2 ⊢; omega
      · subst q; omega
      · unfold cN at hk2 ⊢; omega
  · rw [e r (by unfold cN; omega) (by omega)]; exact hX.2.1 r hr
  · rw [e 16 (by unfold cN; omega) (by unfold cN at hk; omega)]; exact hX.2.2 j hj
section MO
variable {S : mS} {I I0 : mIm} {A : aT} {s o : Nat}
theorem c_enter (hS : Shp S) (hl : isLk s o) (hX : CX I0 I A) (v : Int32) : pw S (q_K_enter (some (cK s o)) v (I, S)) (CU I0 (aI A 20 (6 * s + o) v)) := by
  have hk := cK_lt hl.1 hl.2.1 hl.2.2
  have hn : cK s o ≠ cN s := by omega
  have hw := awk_set A (s := s) hl.2.1 v
  have ha : I (cN s) 11 = nI (awk A s) := (hX.1.2.1 s hl.1).1.2.2.2.2.1
  have fin : ∀ J : mIm, (∀ r, r ≠ cN s → J r = I r) → (∀ j, j ≠ 11 → J (cN s) j = I (cN s) j) → J (cN s) 11 = nI (awk (aI A 20 (6 * s + o) v) s) → pw S (q_K_enter_37 (some (cK s o)) v (J, S)) (CU I0 (aI A 20 (6 * s + o) v)) := by
    intro J j1 j2 j3
    unfold q_K_enter_37
    refine pw_pI (cK_k hS hl) (pw_ret ?_)
    refine CX_mode hX hl (fun r a b => by rw [iput_n _ _ _ b, j1 r a]) (fun j hj => by rw [iput_n _ _ _ (Ne.symm hn), j2 j hj]) (by rw [iput_n _ _ _ (Ne.symm hn), j3]) (fun j hj => by rw [iput_j _ _ _ hj, j1 _ hn]) (iput_s _ _ _ _)
  unfold q_K_enter
  refine gK hS hl hX (f := 20) rfl ?_
  by_cases h0 : A.1 20 (6 * s + o) = 0
  · rw [if_pos h0]
    unfold q_K_enter_20
    have hb : b1 (A.1 20 (6 * s + o)) = 0 := by unfold b1; rw [if_pos h0]
    by_cases hv : v = 0
    · rw [if_pos hv]
      have hb2 : b1 v = 0 := by unfold b1; rw [if_pos hv]
      exact fin I (fun _ _ => rfl) (fun _ _ => rfl) (by rw [ha]; congr 1; omega)
    · rw [if_neg hv]
      have hb2 : b1 v = 1 := by unfold b1; rw [if_neg hv]
      refine rK hS hl (q := cN s) rfl (pw_gI (cN_k hS hl.1) (pw_pI (cN_k hS hl.1) (fin _ (fun r hr => iput_n _ _ _ hr) (fun j hj => iput_j _ _ _ hj) ?_)))
      rw [iput_s, ha, show nI (awk A s) + 1 = nI (awk A s + 1) from nI_1 _]
      congr 1
      omega
  · rw [if_neg h0]
    have hb : b1 (A.1 20 (6 * s + o)) = 1 := by unfold b1; rw [if_neg h0]
    have hpos : 1 ≤ awk A s := by
      have h2 := awk_set A (s := s) hl.2.1 0
      have : b1 (0 : Int32) = 0 := rfl
      omega
    refine rK hS hl (q := cN s) rfl (pw_gI (cN_k hS hl.1) (pw_pI (cN_k hS hl.1) ?_))
    have e9 : nI (awk A s) - 1 = nI (awk A s - 1) := pk_sub (b := 1) hpos
    unfold q_K_enter_20
    by_cases hv : v = 0
    · rw [if_pos hv]
      have hb2 : b1 v = 0 := by unfold b1; rw [if_pos hv]
      refine fin _ (fun r hr => iput_n _ _ _ hr) (fun j hj => iput_j _ _ _ hj) ?_
      rw [iput_s, ha, e9]
      congr 1
      omega
    · rw [if_neg hv]
      have hb2 : b1 v = 1 := by unfold b1; rw [if_neg hv]
      refine rK hS hl (q := cN s) rfl (pw_gI (cN_k hS hl.1) (pw_pI (cN_k hS hl.1) (fin _ (fun r hr => by rw [iput_n _ _ _ hr, iput_n _ _ _ hr]) (fun j hj => by rw [iput_j _ _ _ hj, iput_j _ _ _ hj]) ?_)))
      rw [iput_s, iput_s, ha, e9, show nI (awk A s - 1) + 1 = nI (awk A s - 1 + 1) from nI_1 _]
      congr 1
      omega
theorem isB_o (hS : Shp S) (hl : isLk s o) : isB S (cK s o + 2) 200 := (hS.2.2.1 s hl.1 o hl.2.1 hl.2.2).2.2.2.2.2.2.2.2.2.1
theorem isB_i (hS : Shp S) (hl : isLk s o) : isB S (cK s o + 4) 64 := (hS.2.2.1 s hl.1 o hl.2.1 hl.2.2).2.2.2.2.2.2.2.2.2.2.1
theorem isW_p (hS : Shp S) (hl : isLk s o) : isW S (cK s o + 6) 6 16 := (hS.2.2.1 s hl.1 o hl.2.1 hl.2.2).2.2.2.2.2.2.2.2.2.2.2.1
theorem isW_s (hS : Shp S) (hl : isLk s o) : isW S (cK s o + 20) 4 17 := (hS.2.2.1 s hl.1 o hl.2.1 hl.2.2).2.2.2.2.2.2.2.2.2.2.2.2
theorem c_outClear (hS : Shp S) (hl : isLk s o) (hX : CX I0 I A) : pw S (q_B_clear (some (cK s o + 2)) (I, S)) (CU I0 (aL A 10 (6 * s + o) [])) := pw_mono (p_B_clear (isB_o hS hl)) (fun _ J g => CX_L hX hl (Or.inl rfl) (fun _ => ⟨g.1, by decide, fun r a _ => g.2.2 r a⟩) (fun e => by omega))
theorem c_inClear (hS : Shp S) (hl : isLk s o) (hX : CX I0 I A) : pw S (q_B_clear (some (cK s o + 4)) (I, S)) (CU I0 (aL A 11 (6 * s + o) [])) := pw_mono (p_B_clear (isB_i hS hl)) (fun _ J g => CX_L hX hl (Or.inr rfl) (fun e => by omega) (fun _ => ⟨g.1, by decide, fun r a _ => g.2.2 r a⟩))
theorem c_packClear (hS : Shp S) (hl : isLk s o) (hX : CX I0 I A) : pw S (q_W_clear (some (cK s o + 6)) (I, S)) (CU I0 (aQ A 2 (6 * s + o) [])) := pw_mono (p_W_clear (isW_p hS hl) (hX.1.2.2 s hl.1 o hl.2.1 hl.2.2).2.2.2.2.2.1) (fun _ J g => CX_Q hX hl (Or.inl rfl) (fun _ => ⟨g.1, fun r a => g.2 r (by omega)⟩) (fun e => by omega))
theorem c_sentClear (hS : Shp S) (hl : isLk s o) (hX : CX I0 I A) : pw S (q_W_clear (some (cK s o + 20)) (I, S)) (CU I0 (aQ A 3 (6 * s + o) [])) := pw_mono (p_W_clear (isW_s hS hl) (hX.1.2.2 s hl.1 o hl.2.1 hl.2.2).2.2.2.2.2.2) (fun _ J g => CX_Q hX hl (Or.inr rfl) (fun e => by omega) (fun _ => ⟨g.1, fun r a => g.2 r (by omega)⟩))
theorem c_restart (hS : Shp S) (hl : isLk s o) (hX : CX I0 I A) (v : Int32) : pw S (q_K_restart (some (cK s o)) v (I, S)) (CU I0 (aRst A (6 * s + o) v)) := by
  unfold q_K_restart aRst
  refine pw_cv (cK_k hS hl) (c_enter hS hl hX v) (fun _ J1 g1 => ?_)
  refine sK hS hl g1 rfl (by decide) (fun J2 g2 => sK hS hl g2 rfl (by decide) (fun J3 g3 => sK hS hl g3 rfl (by decide) (fun J4 g4 => sK hS hl g4 rfl (by decide) (fun J5 g5 => sK hS hl g5 rfl (by decide) (fun J6 g6 => sKz hS hl g6 rfl (by decide) (Or.inl rfl) (fun J7 g7 => sKz hS hl g7 rfl (by decide) (Or.inl rfl) (fun J8 g8 => sKz hS hl g8 rfl (by decide) (Or.inl rfl) (fun J9 g9 => ?_))))))))
  refine rK hS hl (q := cK s o + 2) rfl (pw_cv (isB_o hS hl).1 (c_outClear hS hl g9) (fun _ J10 g10 => ?_))
  refine rK hS hl (q := cK s o + 20) rfl (pw_cv (isW_s hS hl).1 (c_sentClear hS hl g10) (fun _ J11 g11 => pw_ret g11))
theorem c_goDown (hS : Shp S) (hl : isLk s o) (hX : CX I0 I A) : pw S (q_K_goDown (some (cK s o)) (I, S)) (CU I0 (aDn A (6 * s + o))) := by
  unfold q_K_goDown aDn
  refine pw_cv (cK_k hS hl) (c_restart hS hl hX 0) (fun _ J1 g1 => ?_)
  exact rK hS hl (q := cK s o + 6) rfl (pw_cv (isW_p hS hl).1 (c_packClear hS hl g1) (fun _ J2 g2 => pw_ret g2))
/-! CALLED -/
def aCl1 (A : aT) (s o : Nat) : aT := aI (aL (aRst (aI A 32 (6 * s + o) ((A.1 32 (6 * s + o) + 1) &&& 127)) (6 * s + o) 1) 11 (6 * s + o) []) 23 (6 * s + o) (((A.1 32 (6 * s + o) + 1) &&& 127) + if nI o < nI s then 128 else 0)
def aCal (A : aT) (s o : Nat) : aT := aSay (aI (aI (aCl1 A s o) 28 (6 * s + o) 1) 27 (6 * s + o) (A.1 1 (9 * s + 4))) s o 63 1
theorem aRst_f (A : aT) {l g i : Nat} {m : Int32} (h : g < 20 ∨ 31 < g) : (aRst A l m).1 g i = A.1 g i := by
  unfold aRst
  rw [aQ_1, aL_1, aI_f _ _ _ _ (by omega), aI_f _ _ _ _ (by omega), aI_f _ _ _ _ (by omega), aI_f _ _ _ _ (by omega), aI_f _ _ _ _ (by omega), aI_f _ _ _ _ (by omega), aI_f _ _ _ _ (by omega), aI_f _ _ _ _ (by omega), aI_f _ _ _ _ (by omega)]
theorem aCl1_T (A : aT) (s o : Nat) : (aI (aCl1 A s o) 28 (6 * s + o) 1).1 1 (9 * s + 4) = A.1 1 (9 * s + 4) := by
  unfold aCl1
  rw [aI_f _ _ _ _ (by decide), aI_f _ _ _ _ (by decide), aL_1, aRst_f _ (by decide), aI_f _ _ _ _ (by decide)]
theorem c_callOther (hS : Shp S) (hl : isLk s o) (hX : CX I0 I A) : pw S (q_C_callOther (some (cK s o)) (I, S)) (CU I0 (aCal A s o)) := by
  unfold q_C_callOther aCal
  refine gK hS hl hX (f := 32) rfl (sK hS hl hX rfl (by decide) (fun J1 g1 => pw_cv (cK_k hS hl) (c_restart hS hl g1 1) (fun _ J2 g2 => ?_)))
  refine rK hS hl (q := cK s o + 4) rfl (pw_cv (isB_i hS hl).1 (c_inClear hS hl g2) (fun _ J3 g3 => ?_))
  refine rK hS hl (q := cK s o + 1) rfl (gK hS hl g3 (f := 32) rfl (rK hS hl (q := cN s) rfl (gN0 hS hl.1 g3 (gK1 hS hl g3 ?_))))
  rw [aL_1, aRst_f _ (by decide), aI_s]
  have fin : ∀ j0 : Int32, j0 = (if nI o < nI s then 128 else 0) → pw S (q_C_callOther_54 (some (cK s o)) j0 ((A.1 32 (6 * s + o) + 1) &&& 127) (some (cK s o + 1)) (J3, S)) (CU I0 (aSay (aI (aI (aCl1 A s o) 28 (6 * s + o) 1) 27 (6 * s + o) (A.1 1 (9 * s + 4))) s o 63 1)) := by
    intro j0 hj
    subst hj
    unfold q_C_callOther_54
    refine sP hS hl g3 (f := 23) rfl (fun J4 g4 => sK hS hl g4 (f := 28) rfl (by decide) (fun J5 g5 => rK hS hl (q := cN s) rfl (rN hS hl.1 (q := cN s + 1) rfl (gT hS hl.1 g5 4 rfl (by decide) (sK hS hl g5 (f := 27) rfl (by decide) (fun J6 g6 => ?_))))))
    refine rK hS hl (q := cN s) rfl (rK hS hl (q := cK s o + 1) rfl (pw_cl (c_say hS hl g6 63 1) (fun _ J7 g7 => pw_ret ?_)))
    have e := aCl1_T A s o
    unfold aCl1 at e ⊢
    rw [e] at g7
    exact g7
  by_cases h : nI o < nI s
  · rw [if_pos h]
    exact fin 128 (by rw [if_pos h])
  · rw [if_neg h]
    exact fin 0 (by rw [if_neg h])
end MO
