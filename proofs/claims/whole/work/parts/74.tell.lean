/-! BEACONS -/
def old1 (A : aT) (k : Nat) : aT := if A.1 40 k = 0 then A else if A.1 41 k - 1 = 0 then aI (aI A 41 k (A.1 41 k - 1)) 40 k 0 else aI A 41 k (A.1 41 k - 1)
def oldN : Nat → Nat → aT → aT
  | 0, _, A => A
  | n + 1, k, A => oldN n (k + 1) (old1 A k)
def tel (A : aT) (s : Nat) : Nat → Nat → List Int32
  | 0, _ => []
  | k + 1, d => (if bst A s d = -1 then [] else [nI d, bst A s d, A.1 40 (36 * s + (6 * d + (bst A s d).toNatClampNeg))]) ++ tel A s k (d + 1)
def cbs (A : aT) (s : Nat) : Nat → Nat → Int32 → Int32
  | 0, _, c => c
  | k + 1, d, c => cbs A s k (d + 1) (if bst A s d = -1 then c else c + 1)
def hdN (s : Nat) : List Int32 := nmN ++ [224] ++ (nmS ++ [(96 + 2 * nI s) + 1]) ++ [3, 207, 255]
def aTel (A : aT) (s : Nat) : Int32 × aT := (cbs (oldN 36 (36 * s) A) s 6 0 0, aEnq (oldN 36 (36 * s) A) s (hdN s ++ tel (oldN 36 (36 * s) A) s 6 0))
theorem tel_len (A : aT) (s : Nat) : ∀ k d, (tel A s k d).length ≤ 3 * k
  | 0, _ => by simp [tel]
  | k + 1, d => by
    have := tel_len A s k (d + 1)
    show ((if bst A s d = -1 then [] else [nI d, bst A s d, A.1 40 (36 * s + (6 * d + (bst A s d).toNatClampNeg))]) ++ tel A s k (d + 1)).length ≤ _
    rw [List.length_append]
    split <;> simp <;> omega
theorem aQl_old1 {A : aT} (h : aQl A) (k : Nat) : aQl (old1 A k) := by
  unfold old1
  split
  · exact h
  · split
    · intro j hj
      by_cases e : j = k
      · subst e; rw [aI_s]; decide
      · rw [aI_k _ _ _ e, aI_f _ _ _ _ (by decide)]; exact h j hj
    · intro j hj
      rw [aI_f _ _ _ _ (by decide)]; exact h j hj
theorem aQl_oldN : ∀ (n k : Nat) (A : aT), aQl A → aQl (oldN n k A)
  | 0, _, _, h => h
  | n + 1, k, A, h => aQl_oldN n (k + 1) (old1 A k) (aQl_old1 h k)
theorem aSe_old1 {A : aT} (h : aSe A) (k : Nat) : aSe (old1 A k) := by
  unfold old1
  split
  · exact h
  · split
    · intro s hs d hd
      by_cases e : 36 * s + (6 * d + s) = k
      · rw [e, aI_s]
      · rw [aI_k _ _ _ e, aI_f _ _ _ _ (by decide)]; exact h s hs d hd
    · intro s hs d hd
      rw [aI_f _ _ _ _ (by decide)]; exact h s hs d hd
theorem aSe_oldN : ∀ (n k : Nat) (A : aT), aSe A → aSe (oldN n k A)
  | 0, _, _, h => h
  | n + 1, k, A, h => aSe_oldN n (k + 1) (old1 A k) (aSe_old1 h k)
section TE
variable {S : mS} {I I0 : mIm} {A : aT} {s : Nat}
theorem CX_setT (hX : CX I0 I A) (hs : s < 6) {z f d : Nat} {v : Int32} (hz : (z = 56 ∧ f = 40) ∨ (z = 57 ∧ f = 41)) (hd : d < 36) : CX I0 (iput I (cN s + z) d v) (aI A f (36 * s + d) v) := by
  obtain ⟨d1, d2, d3, d4, d5, d6, d7⟩ := hX.1.2.1 s hs
  have hst : ∀ t, t < 6 → t ≠ s → eqS A (aI A f (36 * s + d) v) t := by
    intro t ht hne
    rcases hz with ⟨-, rfl⟩ | ⟨-, rfl⟩
    · exact eqS_40 (fun z hz => by omega)
    · exact eqS_41 (fun z hz => by omega)
  have hk : ∀ l, l < 36 → eqK A (aI A f (36 * s + d) v) l := by
    intro l _
    rcases hz with ⟨-, rfl⟩ | ⟨-, rfl⟩
    · exact eqK_40
    · exact eqK_41
  refine CX_st hX hs (fun r hr => iput_n _ _ _ (by omega)) ⟨?_, ?_, ?_, ?_, ?_, ?_, ?_⟩ hst hk (aI_f _ _ _ _ (by omega)) rfl rfl (aI_f _ _ _ _ (by omega)) (aI_f _ _ _ _ (by omega)) (aI_f _ _ _ _ (by omega)) rfl rfl
  · exact cS1_A (cS1_same d1 (iput_n _ _ _ (by omega))) (fun _ _ => aI_f _ _ _ _ (by omega)) (aI_f _ _ _ _ (by omega)) (aI_f _ _ _ _ (by omega)) (fun _ _ => aI_f _ _ _ _ (by omega)) (aI_f _ _ _ _ (by omega)) (fun _ _ => aI_f _ _ _ _ (by omega))
  · exact cS2_A (cS2_same d2 (iput_n _ _ _ (by omega))) (fun _ _ => aI_f _ _ _ _ (by omega))
  · refine ⟨by rw [iput_n _ _ _ (by omega)]; exact d3.1, fun e he => ?_⟩
    obtain ⟨q1, q2⟩ := d3.2 e he
    rcases hz with ⟨rfl, rfl⟩ | ⟨rfl, rfl⟩
    · refine ⟨?_, by rw [iput_n _ _ _ (by omega), aI_f _ _ _ _ (by decide)]; exact q2⟩
      by_cases ee : e = d
      · subst ee; rw [iput_s, aI_s]
      · rw [iput_j _ _ _ ee, aI_k _ _ _ (by omega)]; exact q1
    · refine ⟨by rw [iput_n _ _ _ (by omega), aI_f _ _ _ _ (by decide)]; exact q1, ?_⟩
      by_cases ee : e = d
      · subst ee; rw [iput_s, aI_s]
      · rw [iput_j _ _ _ ee, aI_k _ _ _ (by omega)]; exact q2
  · exact cSn_A (cSn_same d4 (fun r a b => iput_n _ _ _ (by omega))) (aI_f _ _ _ _ (by omega)) (aI_f _ _ _ _ (by omega)) (aI_f _ _ _ _ (by omega)) rfl rfl
  · exact cRv_A (cRv_same d5 (fun r a b => iput_n _ _ _ (by omega))) (aI_f _ _ _ _ (by omega)) (aI_f _ _ _ _ (by omega)) (aI_f _ _ _ _ (by omega)) rfl rfl
  · exact isR_same d6 (fun r a b => iput_n _ _ _ (by omega))
  · exact cMl_A (cMl_same d7 (fun r a b => iput_n _ _ _ (by omega))) rfl
theorem cT_k (hS : Shp S) (hs : s < 6) : S.2.1 (cN s + 55) = 15 ∧ S.1 (cN s + 55) 1 = some (cN s + 56) ∧ S.1 (cN s + 55) 2 = some (cN s + 57) ∧ isA S (cN s + 56) 1 36 ∧ isA S (cN s + 57) 1 36 := (hS.2.1 s hs).2.2.2.2.2.2.2.2.2.2.2.2.2.2.2.2
theorem c_growOld_2 (hS : Shp S) (hs : s < 6) : ∀ (k n i : Nat) (I : mIm) (A : aT), i + k = 36 → k < n → CX I0 I A → aQl A → pw S (q_T_growOld_2 n (some (cN s + 55)) (nI i) (I, S)) (CU I0 (oldN k (36 * s + i) A))
  | k, 0, i, I, A, _, h, _, _ => by omega
  | 0, n + 1, i, I, A, hk, hn, hX, hQ => by
    obtain ⟨t1, t2, t3, t4, t5⟩ := cT_k hS hs
    show pw S (q_T_growOld_2_b _ _ _ _) _
    unfold q_T_growOld_2_b
    exact pw_gR t1 t2 (pw_al (n := 36) t4.1 t4.2 (pw_f (nI_nlt (by omega) (by omega)) (pw_ret hX)))
  | k + 1, n + 1, i, I, A, hk, hn, hX, hQ => by
    obtain ⟨t1, t2, t3, t4, t5⟩ := cT_k hS hs
    have hi : i < 36 := by omega
    obtain ⟨q1, q2⟩ := (hX.1.2.1 s hs).2.2.1.2 i hi
    show pw S (q_T_growOld_2_b _ _ _ _) (CU I0 (oldN k (36 * s + i + 1) (old1 A (36 * s + i))))
    unfold q_T_growOld_2_b q_T_growOld_55
    rw [show nI i + 1 = nI (i + 1) from nI_1 i]
    refine pw_gR t1 t2 (pw_al (n := 36) t4.1 t4.2 (pw_t (nI_lt hi (by decide)) (pw_gR t1 t3 (pw_al (n := 36) t5.1 t5.2 (pw_t (nI_lt hi (by decide)) (pw_gR t1 t2 (pw_aI i t4.1 rfl (by rw [t4.2]; exact hi) (by rw [t4.2]; decide) ?_)))))))
    rw [q1]
    have go : ∀ (J : mIm) (B : aT), B = old1 A (36 * s + i) → CX I0 J B → pw S (q_T_growOld_2 n (some (cN s + 55)) (nI (i + 1)) (J, S)) (CU I0 (oldN k (36 * s + i + 1) (old1 A (36 * s + i)))) := fun J B hB hJ => by
      subst hB
      exact c_growOld_2 hS hs k n (i + 1) J _ (by omega) (by omega) hJ (aQl_old1 hQ _)
    by_cases e0 : A.1 40 (36 * s + i) = 0
    · rw [if_neg (by rw [e0]; decide)]
      exact go I A (by unfold old1; rw [if_pos e0]) hX
    · have hpos : 0 < A.1 40 (36 * s + i) := by
        rcases Int32.lt_or_eq_of_le (Int32.not_lt.mp (hQ (36 * s + i) (by omega))) with q | q
        · exact q
        · exact absurd q.symm e0
      refine pw_t hpos (pw_gR t1 t3 (pw_aI i t5.1 rfl (by rw [t5.2]; exact hi) (by rw [t5.2]; decide) (pw_wI i t5.1 rfl (by rw [t5.2]; exact hi) (by rw [t5.2]; decide) (pw_gR t1 t3 (pw_aI i t5.1 rfl (by rw [t5.2]; exact hi) (by rw [t5.2]; decide) ?_)))))
      rw [iput_s, q2]
      have h1 := CX_setT (v := A.1 41 (36 * s + i) - 1) hX hs (Or.inr ⟨rfl, rfl⟩) hi
      refine pw_if (fun e1 => ?_) (fun e1 => ?_)
      · refine pw_gR t1 t2 (pw_wI i t4.1 rfl (by rw [t4.2]; exact hi) (by rw [t4.2]; decide) ?_)
        exact go _ _ (by unfold old1; rw [if_neg e0, if_pos e1]) (CX_setT h1 hs (Or.inl ⟨rfl, rfl⟩) hi)
      · exact go _ _ (by unfold old1; rw [if_neg e0, if_neg e1]) h1
theorem bstI_n {d : Nat} (hd : d < 6) : bstI A s (nI d) = bst A s d := by unfold bstI; rw [sta_nI hd]
theorem c_countBest_4 (hS : Shp S) (hs : s < 6) (hC : CInv I A) : ∀ (k n i : Nat) (c : Int32), i + k = 6 → k < n → pw S (q_T_countBest_4 n (some (cN s + 55)) c (nI i) (I, S)) (fun v J => J = I ∧ v = cbs A s k i c)
  | k, 0, i, c, _, h => by omega
  | 0, n + 1, i, c, hk, hn => by
    show pw S (q_T_countBest_4_b _ _ _ _ _) _
    unfold q_T_countBest_4_b
    exact pw_f (nI_nlt (b := 6) (by omega) (by omega)) (pw_ret ⟨rfl, rfl⟩)
  | k + 1, n + 1, i, c, hk, hn => by
    show pw S (q_T_countBest_4_b _ _ _ _ _) (fun v J => J = I ∧ v = cbs A s k (i + 1) (if bst A s i = -1 then c else c + 1))
    unfold q_T_countBest_4_b q_T_countBest_22
    rw [show nI i + 1 = nI (i + 1) from nI_1 i]
    refine pw_t (nI_lt (b := 6) (by omega) (by decide)) (pw_cv (cT_k hS hs).1 (p_T_bestTo hS hC hs (nI i)) (fun v J h => ?_))
    obtain ⟨hJ, rfl⟩ := h
    rw [hJ, bstI_n (by omega)]
    by_cases e : bst A s i = -1
    · rw [if_pos e, if_pos e]
      exact c_countBest_4 hS hs hC k n (i + 1) c (by omega) (by omega)
    · rw [if_neg e, if_neg e]
      exact c_countBest_4 hS hs hC k n (i + 1) (c + 1) (by omega) (by omega)
theorem c_countBest (hS : Shp S) (hs : s < 6) (hC : CInv I A) : pw S (q_T_countBest (some (cN s + 55)) (I, S)) (fun v J => J = I ∧ v = cbs A s 6 0 0) := c_countBest_4 hS hs hC 6 mFU 0 0 (by omega) (by unfold mFU; omega)
/-- tell: the row b is written, all else is as it was -/
theorem c_tell_2 (hS : Shp S) (hs : s < 6) (hE : aSe A) {b cap : Nat} {I1 : mIm} (hB : isB S b cap) (hC : ∀ J l, l.length ≤ cap → bld I1 b J l → ∀ d : Int32, pw S (q_T_bestTo (some (cN s + 55)) d (J, S)) (fun v I' => I' = J ∧ v = bstI A s d) ∧ ∀ n : Int32, pw S (q_T_qualityOf (some (cN s + 55)) d n (J, S)) (fun v I' => I' = J ∧ v = match sta d, sta n with | some a, some b => A.1 40 (36 * s + (6 * a + b)) | _, _ => 0)) : ∀ (k n i : Nat) (I : mIm) (l : List Int32), i + k = 6 → k < n → l.length + 3 * k ≤ cap → bld I1 b I l → pw S (q_T_tell_2 n (some (cN s + 55)) (some b) (nI i) (I, S)) (fun _ J => bld I1 b J (l ++ tel A s k i))
  | k, 0, i, I, l, _, h, _, _ => by omega
  | 0, n + 1, i, I, l, hk, hn, hl, hb => by
    show pw S (q_T_tell_2_b _ _ _ _ _) _
    unfold q_T_tell_2_b
    refine pw_f (nI_nlt (b := 6) (by omega) (by omega)) (pw_ret ?_)
    show bld I1 b I (l ++ [])
    rw [List.append_nil]
    exact hb
  | k + 1, n + 1, i, I, l, hk, hn, hl, hb => by
    show pw S (q_T_tell_2_b _ _ _ _ _) (fun _ J => bld I1 b J (l ++ ((if bst A s i = -1 then [] else [nI i, bst A s i, A.1 40 (36 * s + (6 * i + (bst A s i).toNatClampNeg))]) ++ tel A s k (i + 1))))
    unfold q_T_tell_2_b q_T_tell_39
    rw [show nI i + 1 = nI (i + 1) from nI_1 i]
    have hi : i < 6 := by omega
    refine pw_t (nI_lt (b := 6) hi (by decide)) (pw_cv (cT_k hS hs).1 (hC I l (by omega) hb (nI i)).1 (fun v J h => ?_))
    obtain ⟨rfl, rfl⟩ := h
    rw [bstI_n hi]
    by_cases e : bst A s i = -1
    · rw [if_pos e, if_pos e, List.nil_append]
      exact c_tell_2 hS hs hE hB hC k n (i + 1) _ l (by omega) (by omega) (by omega) hb
    · rw [if_neg e, if_neg e]
      refine pw_cv hB.1 (b_add hB hb (by omega) _) (fun _ J1 b1 => pw_cv hB.1 (b_add hB b1 (by simp; omega) _) (fun _ J2 b2 => pw_cv (cT_k hS hs).1 ((hC J2 _ (by simp; omega) b2 (nI i)).2 _) (fun v J3 h3 => ?_)))
      obtain ⟨rfl, rfl⟩ := h3
      obtain ⟨m, hm, hms, em⟩ := (bst_in hE hs hi).resolve_left e
      rw [em, sta_nI hi, sta_nI hm, nI_clamp (by omega)]
      dsimp only
      rw [em] at b2
      refine pw_cv hB.1 (b_add hB b2 (by simp; omega) _) (fun _ J4 b4 => ?_)
      have e9 : l ++ [nI i] ++ [nI m] ++ [A.1 40 (36 * s + (6 * i + m))] = l ++ [nI i, nI m, A.1 40 (36 * s + (6 * i + m))] := by simp
      rw [e9] at b4
      rw [← List.append_assoc]
      exact c_tell_2 hS hs hE hB hC k n (i + 1) _ _ (by omega) (by omega) (by simp; omega) b4
theorem c_tellRoutes (hS : Shp S) (hs : s < 6) (hX : CX I0 I A) (hQ : aQl A) (hE : aSe A) : pw S (q_C_tellRoutes (some (cN s)) (I, S)) (CV I0 (aTel A s)) := by
  unfold q_C_tellRoutes aTel
  have ho := c_growOld_2 (I0 := I0) hS hs 36 mFU 0 I A (by omega) (by unfold mFU; omega) hX hQ
  have hE2 := aSe_oldN 36 (36 * s) A hE
  refine rN hS hs (q := cN s + 55) rfl (pw_cv (cT_k hS hs).1 (P := CU I0 (oldN 36 (36 * s) A)) ho (fun _ J1 g1 => ?_))
  generalize oldN 36 (36 * s) A = B at *
  refine rN hS hs (q := cN s + 10) rfl ?_
  unfold aEnq
  by_cases hq : (B.2.2 0 s).length < 12
  · rw [if_pos hq]
    refine pw_cv (isW_q hS hs).1 (c_addRow hS hs g1 hq) (fun a J2 g => ?_)
    obtain ⟨b, rfl, b1, b2, b3, b4, b5, b6⟩ := g
    refine pw_ns (pw_cv b1.1 (p_B_addAddress b1 b4 (by simp) 4 nmN rfl rfl _) (fun _ J3 g3 => pw_gI (cN_k hS hs) ?_))
    rw [g3.2 _ (by omega) (by omega), b5 _ (by omega), (g1.1.2.1 s hs).1.1]
    refine pw_cv b1.1 (p_B_addAddress b1 g3 (by simp [nmN]) 3 nmS rfl rfl _) (fun _ J4 g4 => ?_)
    refine pw_cv b1.1 (b_add b1 g4 (by simp [nmN, nmS]) _) (fun _ J5 g5 => pw_cv b1.1 (b_add b1 g5 (by simp [nmN, nmS]) _) (fun _ J6 g6 => pw_cv b1.1 (b_add b1 g6 (by simp [nmN, nmS]) _) (fun _ J7 g7 => ?_)))
    have e7 : [] ++ (nmN ++ [224]) ++ (nmS ++ [(96 + 2 * nI s) + 1]) ++ [3] ++ [207] ++ [255] = hdN s := by
      unfold hdN
      simp
    rw [e7] at g7
    have h17 : (hdN s).length = 17 := rfl
    have hCb : ∀ J l, l.length ≤ 90 → bld J2 b J l → ∀ d : Int32, pw S (q_T_bestTo (some (cN s + 55)) d (J, S)) (fun v I' => I' = J ∧ v = bstI B s d) ∧ ∀ n : Int32, pw S (q_T_qualityOf (some (cN s + 55)) d n (J, S)) (fun v I' => I' = J ∧ v = match sta d, sta n with | some a, some b => B.1 40 (36 * s + (6 * a + b)) | _, _ => 0) := by
      intro J l hl hb d
      have hJ := (b6 J l hl hb).1
      exact ⟨p_T_bestTo hS hJ hs d, fun n => p_T_qualityOf hS hJ hs d n⟩
    refine rN hS hs (q := cN s + 55) rfl (pw_cv (cT_k hS hs).1 (c_tell_2 hS hs hE2 b1 hCb 6 mFU 0 J7 (hdN s) (by omega) (by unfold mFU; omega) (by rw [h17]; omega) g7) (fun _ J8 g8 => ?_))
    have hlen := tel_len B s 6 0
    have hX8 := b6 J8 _ (by rw [List.length_append, h17]; omega) g8
    refine rN hS hs (q := cN s + 55) rfl (pw_cv (cT_k hS hs).1 (c_countBest hS hs hX8.1) (fun v J h => pw_ret ?_))
    obtain ⟨rfl, rfl⟩ := h
    exact ⟨rfl, hX8⟩
  · rw [if_neg hq]
    refine pw_cv (isW_q hS hs).1 (c_full hS hs g1 hq) (fun a J2 g => ?_)
    obtain ⟨rfl, rfl⟩ := g
    refine pw_nn (gN hS hs g1 (j := 17) rfl (sN hS hs g1 (j := 17) rfl (fun J3 g3 => ?_)))
    refine rN hS hs (q := cN s + 55) rfl (pw_cv (cT_k hS hs).1 (c_countBest hS hs g3.1) (fun v J h => pw_ret ?_))
    obtain ⟨rfl, rfl⟩ := h
    exact ⟨rfl, g3⟩
end TE
