/-! end, feed, tune, hears -/
def CP (I : mIm) (R : Int32 × aT) : Int32 → mIm → Prop := fun v J => v = R.1 ∧ CInv J R.2 ∧ ∀ r, 1282 ≤ r → J r = I r
def RP (I : mIm) (R : Int32 × aT) : Int32 → mIm → Prop := fun v J => v = R.1 ∧ RInv J R.2 ∧ ∀ r, r < 1282 → J r = I r
theorem isL_take {I J : mIm} {b n : Nat} {l : List Int32} (h : isL I b l) (hn : n ≤ l.length) (e1 : J b 1 = nI n) (e2 : J (b + 1) = I (b + 1)) : isL J b (l.take n) := by
  refine ⟨by rw [e1, List.length_take, Nat.min_eq_left hn], fun j x hj => ?_⟩
  rw [e2]
  refine h.2 j x ?_
  have := (List.getElem?_eq_some_iff.mp hj).1
  rw [List.length_take] at this
  rw [List.getElem?_take_of_lt (by omega)] at hj
  exact hj
def aEnd (A : aT) (n : Int32) : Int32 × aT := if n < 0 then (0, A) else if (A.2.1 0 0).length < n.toNatClampNeg then (0, A) else (1, aL A 0 0 ((A.2.1 0 0).take n.toNatClampNeg))
section P8
variable {S : mS} {I : mIm} {A : aT}
theorem aEnd_1 {n : Int32} (h : n < 0) : aEnd A n = (0, A) := by unfold aEnd; rw [if_pos h]
theorem aEnd_2 {m : Nat} (hm : m < 2 ^ 31) (h : (A.2.1 0 0).length < m) : aEnd A (nI m) = (0, A) := by unfold aEnd; rw [if_neg (nI_pos hm), nI_clamp hm, if_pos h]
theorem aEnd_3 {m : Nat} (hm : m < 2 ^ 31) (h : m ≤ (A.2.1 0 0).length) : aEnd A (nI m) = (1, aL A 0 0 ((A.2.1 0 0).take m)) := by unfold aEnd; rw [if_neg (nI_pos hm), nI_clamp hm, if_neg (by omega)]
theorem p_C_end (hS : Shp S) (hC : CInv I A) (n : Int32) : pw S (q_C_end (some 16) n (I, S)) (CP I (aEnd A n)) := by
  obtain ⟨k1, k2, k3, k4, k5, k6, k7, k8, k9, k10, k11, k12⟩ := hS.1
  obtain ⟨-, ⟨h1, h2⟩, -⟩ := hC.1
  unfold q_C_end
  by_cases h0 : n < 0
  · rw [aEnd_1 h0]
    exact pw_t h0 (pw_rz (Or.inl rfl) ⟨rfl, hC, fun _ _ => rfl⟩)
  · obtain ⟨m, hm, rfl⟩ := nI_of h0
    refine pw_f h0 (pw_gR k1 k3 (pw_gI k10.1 ?_))
    rw [h1.1]
    rcases Nat.lt_or_ge (A.2.1 0 0).length m with q | q
    · rw [aEnd_2 hm q]
      exact pw_t (nI_lt q hm) (pw_rz (Or.inl rfl) ⟨rfl, hC, fun _ _ => rfl⟩)
    · rw [aEnd_3 hm q]
      refine pw_f (nI_nlt q (by omega)) (pw_gR k1 k3 (pw_pI k10.1 (pw_rz (Or.inr rfl) ⟨rfl, CInv_tape hC (fun r a b => iput_n _ _ _ a) (isL_take h1 q (iput_s _ _ _ _) (iput_n _ _ _ (by decide))) ?_, fun r hr => iput_n _ _ _ (by omega)⟩)))
      rw [List.length_take]
      omega
theorem p_M_end (hS : Shp S) (hR : RInv I A) (n : Int32) : pw S (q_M_end (some 1282) n (I, S)) (RP I (aEnd A n)) := by
  have hm1 := hS.2.2.2.1
  obtain ⟨-, ⟨h1, h2, h3⟩, -⟩ := hR.1
  unfold q_M_end
  refine pw_gI hm1 (pw_cl (p_M_in _ _ _) (fun v J h => ?_))
  obtain ⟨hJ, rfl⟩ := h
  rw [hJ, h1]
  by_cases h0 : n < 0
  · rw [aEnd_1 h0]
    exact pw_t (by unfold inV; rw [if_pos h0]) (pw_rz (Or.inl rfl) ⟨rfl, hR, fun _ _ => rfl⟩)
  · obtain ⟨m, hm, rfl⟩ := nI_of h0
    rcases Nat.lt_or_ge (A.2.1 0 0).length m with q | q
    · rw [aEnd_2 hm q]
      exact pw_t (by unfold inV; rw [if_neg h0, if_pos (nI_lt q hm)]) (pw_rz (Or.inl rfl) ⟨rfl, hR, fun _ _ => rfl⟩)
    · rw [aEnd_3 hm q]
      refine pw_f (by unfold inV; rw [if_neg h0, if_neg (nI_nlt q (by omega))]; decide) (pw_pI hm1 (pw_rz (Or.inr rfl) ⟨rfl, RInv_tape hR (fun r a b => iput_n _ _ _ a) (iput_j _ _ _ (by decide)) (iput_j _ _ _ (by decide)) ?_ (fun j x hj => ?_) ?_, fun r hr => iput_n _ _ _ (by omega)⟩))
      · rw [iput_s, List.length_take, Nat.min_eq_left q]
      · rw [iput_n _ _ _ (by decide)]
        refine h2 j x ?_
        have := (List.getElem?_eq_some_iff.mp hj).1
        rw [List.length_take] at this
        rw [List.getElem?_take_of_lt (by omega)] at hj
        exact hj
      · rw [List.length_take]
        omega
/-! feed -/
theorem shr_255 (x : Int32) (k : Nat) (hk : k = 24 ∨ k = 16 ∨ k = 8 ∨ k = 0) : mush x (nI k) &&& 255 = (x >>> (nI k &&& 31)) &&& 255 := by
  rw [pk_and (mush x (nI k)) (m := 255) 8 (by decide), pk_and (x >>> (nI k &&& 31)) (m := 255) 8 (by decide)]
  congr 1
  have h1 : (mush x (nI k)).toBitVec.toNat = x.toBitVec.toNat / 2 ^ k := by
    unfold mush
    refine pk_ushr x (nI k) k ?_
    rcases hk with rfl | rfl | rfl | rfl <;> decide
  have h2 : (x >>> (nI k &&& 31)).toInt = x.toInt >>> k := by
    refine pk_shr x (nI k &&& 31) k ?_
    rcases hk with rfl | rfl | rfl | rfl <;> decide
  have e1 : ∀ y : Int32, y.toInt = if 2 * y.toBitVec.toNat < 2 ^ 32 then (y.toBitVec.toNat : Int) else (y.toBitVec.toNat : Int) - 2 ^ 32 := fun y => BitVec.toInt_eq_toNat_cond y.toBitVec
  rw [e1, e1 x, Int.shiftRight_eq_div_pow] at h2
  rw [h1]
  have b1 : (x >>> (nI k &&& 31)).toBitVec.toNat < 2 ^ 32 := (x >>> (nI k &&& 31)).toBitVec.isLt
  have b2 : x.toBitVec.toNat < 2 ^ 32 := x.toBitVec.isLt
  generalize (x >>> (nI k &&& 31)).toBitVec.toNat = a at *
  generalize x.toBitVec.toNat = b at *
  rcases hk with rfl | rfl | rfl | rfl
  all_goals
    simp only [Nat.reducePow] at h2 b1 b2 ⊢
    split at h2 <;> split at h2 <;> omega
/-- a number's four BYTES, the highest first -/
def by4 (x : Int32) : List Int32 := [(x >>> (nI 24 &&& 31)) &&& 255, (x >>> (nI 16 &&& 31)) &&& 255, (x >>> (nI 8 &&& 31)) &&& 255, (x >>> (nI 0 &&& 31)) &&& 255]
theorem p_B_addNumber {b cap : Nat} {l : List Int32} (hB : isB S b cap) (hl : isL I b l) (hc : l.length + 4 ≤ cap) (x : Int32) : pw S (q_B_addNumber (some b) x (I, S)) (fun _ J => isL J b (l ++ by4 x) ∧ ∀ r, r ≠ b → r ≠ b + 1 → J r = I r) := by
  unfold q_B_addNumber
  obtain ⟨n, hn⟩ : ∃ n, mFU = n + 1 + 1 + 1 + 1 + 1 := ⟨mFU - 5, rfl⟩
  rw [hn]
  show pw S (q_B_addNumber_3_b _ _ _ _ _) _
  unfold q_B_addNumber_3_b
  refine pw_f (by decide) (pw_cv hB.1 (p_B_add hB hl (by omega) _) (fun _ J1 g1 => ?_))
  show pw S (q_B_addNumber_3_b _ _ _ _ _) _
  unfold q_B_addNumber_3_b
  refine pw_f (by decide) (pw_cv hB.1 (p_B_add hB g1.1 (by simp; omega) _) (fun _ J2 g2 => ?_))
  show pw S (q_B_addNumber_3_b _ _ _ _ _) _
  unfold q_B_addNumber_3_b
  refine pw_f (by decide) (pw_cv hB.1 (p_B_add hB g2.1 (by simp; omega) _) (fun _ J3 g3 => ?_))
  show pw S (q_B_addNumber_3_b _ _ _ _ _) _
  unfold q_B_addNumber_3_b
  refine pw_f (by decide) (pw_cv hB.1 (p_B_add hB g3.1 (by simp; omega) _) (fun _ J4 g4 => ?_))
  show pw S (q_B_addNumber_3_b _ _ _ _ _) _
  unfold q_B_addNumber_3_b
  refine pw_t (by decide) (pw_ret ⟨?_, fun r a c => ?_⟩)
  · have e : l ++ by4 x = l ++ [mush x 24 &&& 255] ++ [mush x (24 + -8) &&& 255] ++ [mush x (24 + -8 + -8) &&& 255] ++ [mush x (24 + -8 + -8 + -8) &&& 255] := by
      have e1 := shr_255 x 24 (by omega)
      have e2 := shr_255 x 16 (by omega)
      have e3 := shr_255 x 8 (by omega)
      have e4 := shr_255 x 0 (by omega)
      unfold by4
      rw [← e1, ← e2, ← e3, ← e4]
      simp only [List.append_assoc, List.cons_append, List.nil_append]
      rfl
    rw [e]
    exact g4.1
  · rw [g4.2 r a c, g3.2 r a c, g2.2 r a c, g1.2 r a c]
def aFee (A : aT) (a b c d e : Int32) : Int32 × aT := if 260 < (A.2.1 0 0).length + 20 then (0, A) else (1, aL A 0 0 (A.2.1 0 0 ++ by4 a ++ by4 b ++ by4 c ++ by4 d ++ by4 e))
theorem aFee_1 {A : aT} {a b c d e : Int32} (h : 260 < (A.2.1 0 0).length + 20) : aFee A a b c d e = (0, A) := by unfold aFee; rw [if_pos h]
theorem aFee_2 {A : aT} {a b c d e : Int32} (h : (A.2.1 0 0).length + 20 ≤ 260) : aFee A a b c d e = (1, aL A 0 0 (A.2.1 0 0 ++ by4 a ++ by4 b ++ by4 c ++ by4 d ++ by4 e)) := by unfold aFee; rw [if_neg (by omega)]
theorem by4_len (x : Int32) : (by4 x).length = 4 := rfl
theorem p_C_feed (hS : Shp S) (hC : CInv I A) (a b c d e : Int32) : pw S (q_C_feed (some 16) a b c d e (I, S)) (CP I (aFee A a b c d e)) := by
  obtain ⟨k1, k2, k3, k4, k5, k6, k7, k8, k9, k10, k11, k12⟩ := hS.1
  obtain ⟨-, ⟨h1, h2⟩, -⟩ := hC.1
  unfold q_C_feed
  refine pw_gR k1 k3 (pw_gI k10.1 ?_)
  rw [h1.1, show nI (A.2.1 0 0).length + 20 = nI ((A.2.1 0 0).length + 20) from nI_add _ 20]
  rcases Nat.lt_or_ge 260 ((A.2.1 0 0).length + 20) with q | q
  · rw [aFee_1 q]
    exact pw_t (nI_lt (a := 260) q (by omega)) (pw_rz (Or.inl rfl) ⟨rfl, hC, fun _ _ => rfl⟩)
  · rw [aFee_2 q]
    refine pw_f (nI_nlt (a := 260) q (by decide)) (pw_gR k1 k3 (pw_cv k10.1 (p_B_addNumber k10 h1 (by omega) a) (fun _ J1 g1 => ?_)))
    refine pw_gR k1 k3 (pw_cv k10.1 (p_B_addNumber k10 g1.1 (by simp [by4_len]; omega) b) (fun _ J2 g2 => ?_))
    refine pw_gR k1 k3 (pw_cv k10.1 (p_B_addNumber k10 g2.1 (by simp [by4_len]; omega) c) (fun _ J3 g3 => ?_))
    refine pw_gR k1 k3 (pw_cv k10.1 (p_B_addNumber k10 g3.1 (by simp [by4_len]; omega) d) (fun _ J4 g4 => ?_))
    refine pw_gR k1 k3 (pw_cv k10.1 (p_B_addNumber k10 g4.1 (by simp [by4_len]; omega) e) (fun _ J5 g5 => ?_))
    have fr : ∀ r, r ≠ 1266 → r ≠ 1267 → J5 r = I r := fun r x y => by rw [g5.2 r x y, g4.2 r x y, g3.2 r x y, g2.2 r x y, g1.2 r x y]
    exact pw_rz (Or.inr rfl) ⟨rfl, CInv_tape hC fr g5.1 (by simp [by4_len]; omega), fun r hr => fr r (by omega) (by omega)⟩
/-- the reference's tape holds l -/
def rTp (J : mIm) (l : List Int32) : Prop := J 1282 1 = nI l.length ∧ fL J 1283 0 l
theorem fL_push {I : mIm} {r a : Nat} {l : List Int32} {v : Int32} (h : fL I r a l) : fL (iput I r (a + l.length) v) r a (l ++ [v]) := by
  intro j x hj
  by_cases hl : j < l.length
  · rw [List.getElem?_append_left hl] at hj
    rw [iput_j _ _ _ (by omega)]
    exact h j x hj
  · rw [List.getElem?_append_right (by omega)] at hj
    have hz := (List.getElem?_eq_some_iff.mp hj).1
    simp at hz
    have hje : j = l.length := by omega
    subst hje
    rw [Nat.sub_self] at hj
    cases hj
    exact iput_s _ _ _ _
theorem p_M_lay_1 (hS : Shp S) {l : List Int32} (n : Nat) (x v : Int32) (hv : ¬ v < 0) (h : rTp I l) (hc : l.length < 260) {Q : Unit → mIm → Prop} (hk : ∀ J, rTp J (l ++ [(x >>> (v &&& 31)) &&& 255]) → J 1282 15 = I 1282 15 → J 1282 3 = I 1282 3 → (∀ r, r ≠ 1282 → r ≠ 1283 → J r = I r) → pw S (q_M_lay_3 n (some 1282) x (v + (-8)) (J, S)) Q) : pw S (q_M_lay_3 (n + 1) (some 1282) x v (I, S)) Q := by
  have hm := hS.2.2.2
  obtain ⟨a1, a2, a3⟩ := sm_tape hm
  show pw S (q_M_lay_3_b _ _ _ _ _) _
  unfold q_M_lay_3_b
  refine pw_f hv (pw_gR hm.1 a1 (pw_gI hm.1 (pw_wI l.length a2 h.1 (by omega) (by omega) (pw_gI hm.1 (pw_pI hm.1 (hk _ ⟨?_, ?_⟩ ?_ ?_ ?_))))))
  · rw [iput_s, iput_n _ _ _ (by decide), h.1, List.length_append]
    exact nI_1 _
  · have := fL_push (v := (x >>> (v &&& 31)) &&& 255) h.2
    rw [Nat.zero_add] at this
    unfold fL at this ⊢
    rw [iput_n _ _ _ (by decide)]
    exact this
  · rw [iput_j _ _ _ (by decide), iput_n _ _ _ (by decide)]
  · rw [iput_j _ _ _ (by decide), iput_n _ _ _ (by decide)]
  · intro r g1 g2
    rw [iput_n _ _ _ g1, iput_n _ _ _ g2]
theorem p_M_lay (hS : Shp S) {l : List Int32} (x : Int32) (h : rTp I l) (hc : l.length + 4 ≤ 260) : pw S (q_M_lay (some 1282) x (I, S)) (fun _ J => rTp J (l ++ by4 x) ∧ J 1282 15 = I 1282 15 ∧ J 1282 3 = I 1282 3 ∧ ∀ r, r ≠ 1282 → r ≠ 1283 → J r = I r) := by
  unfold q_M_lay
  obtain ⟨n, hn⟩ : ∃ n, mFU = n + 1 + 1 + 1 + 1 + 1 := ⟨mFU - 5, rfl⟩
  rw [hn]
  refine p_M_lay_1 hS _ x 24 (by decide) h (by omega) (fun J1 g1 a1 b1 c1 => ?_)
  refine p_M_lay_1 hS _ x _ (by decide) g1 (by simp; omega) (fun J2 g2 a2 b2 c2 => ?_)
  refine p_M_lay_1 hS _ x _ (by decide) g2 (by simp; omega) (fun J3 g3 a3 b3 c3 => ?_)
  refine p_M_lay_1 hS _ x _ (by decide) g3 (by simp; omega) (fun J4 g4 a4 b4 c4 => ?_)
  show pw S (q_M_lay_3_b _ _ _ _ _) _
  unfold q_M_lay_3_b
  refine pw_t (by decide) (pw_ret ⟨?_, ?_, ?_, fun r u w => ?_⟩)
  · have e : l ++ by4 x = l ++ [(x >>> ((24 : Int32) &&& 31)) &&& 255] ++ [(x >>> (((24 : Int32) + -8) &&& 31)) &&& 255] ++ [(x >>> (((24 : Int32) + -8 + -8) &&& 31)) &&& 255] ++ [(x >>> (((24 : Int32) + -8 + -8 + -8) &&& 31)) &&& 255] := by
      unfold by4
      simp only [List.append_assoc, List.cons_append, List.nil_append]
      rfl
    rw [e]
    exact g4
  · rw [a4, a3, a2, a1]
  · rw [b4, b3, b2, b1]
  · rw [c4 r u w, c3 r u w, c2 r u w, c1 r u w]
theorem p_M_feed (hS : Shp S) (hR : RInv I A) (a b c d e : Int32) : pw S (q_M_feed (some 1282) a b c d e (I, S)) (RP I (aFee A a b c d e)) := by
  have hm1 := hS.2.2.2.1
  obtain ⟨-, ⟨h1, h2, h3⟩, -⟩ := hR.1
  unfold q_M_feed
  refine pw_gI hm1 ?_
  rw [h1, show nI (A.2.1 0 0).length + 20 = nI ((A.2.1 0 0).length + 20) from nI_add _ 20]
  rcases Nat.lt_or_ge 260 ((A.2.1 0 0).length + 20) with q | q
  · rw [aFee_1 q]
    exact pw_t (nI_lt (a := 260) q (by omega)) (pw_rz (Or.inl rfl) ⟨rfl, hR, fun _ _ => rfl⟩)
  · rw [aFee_2 q]
    refine pw_f (nI_nlt (a := 260) q (by decide)) (pw_cv hm1 (p_M_lay hS a ⟨h1, h2⟩ (by omega)) (fun _ J1 g1 => ?_))
    refine pw_cv hm1 (p_M_lay hS b g1.1 (by simp [by4_len]; omega)) (fun _ J2 g2 => ?_)
    refine pw_cv hm1 (p_M_lay hS c g2.1 (by simp [by4_len]; omega)) (fun _ J3 g3 => ?_)
    refine pw_cv hm1 (p_M_lay hS d g3.1 (by simp [by4_len]; omega)) (fun _ J4 g4 => ?_)
    refine pw_cv hm1 (p_M_lay hS e g4.1 (by simp [by4_len]; omega)) (fun _ J5 g5 => ?_)
    have fr : ∀ r, r ≠ 1282 → r ≠ 1283 → J5 r = I r := fun r x y => by rw [g5.2.2.2 r x y, g4.2.2.2 r x y, g3.2.2.2 r x y, g2.2.2.2 r x y, g1.2.2.2 r x y]
    exact pw_rz (Or.inr rfl) ⟨rfl, RInv_tape hR fr (by rw [g5.2.1, g4.2.1, g3.2.1, g2.2.1, g1.2.1]) (by rw [g5.2.2.1, g4.2.2.1, g3.2.2.1, g2.2.2.1, g1.2.2.1]) g5.1.1 g5.1.2 (by simp [by4_len]; omega), fun r hr => fr r (by omega) (by omega)⟩
end P8
