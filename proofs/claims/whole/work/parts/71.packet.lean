/-! a PACKET comes: the class -/
theorem aEnq_1 {A : aT} {s g : Nat} {fr : List Int32} (h : g ≠ 8) : (aEnq A s fr).1 g = A.1 g := by
  unfold aEnq
  split
  · rfl
  · exact aI_ff _ _ _ h
theorem aEnq_21 {A : aT} {s : Nat} {fr : List Int32} : (aEnq A s fr).2.1 = A.2.1 := by
  unfold aEnq
  split <;> rfl
theorem aEnq_22 {A : aT} {s g : Nat} {fr : List Int32} (h : g ≠ 0) : (aEnq A s fr).2.2 g = A.2.2 g := by
  unfold aEnq
  split
  · exact mrow_n _ _ h
  · rfl
theorem aRst_21 {A : aT} {l g : Nat} {m : Int32} (h : g ≠ 10) : (aRst A l m).2.1 g = A.2.1 g := by
  unfold aRst
  rw [aQ_2]
  exact mrow_n _ _ h
theorem aRst_22 {A : aT} {l g : Nat} {m : Int32} (h : g ≠ 3) : (aRst A l m).2.2 g = A.2.2 g := by
  unfold aRst
  exact mrow_n _ _ h
theorem aCal_1 {A : aT} {s o g : Nat} (h : g < 8 ∨ (8 < g ∧ g < 20) ∨ g = 21 ∨ g = 22 ∨ 32 < g) : (aCal A s o).1 g = A.1 g := by
  unfold aCal aSay aCl1
  rw [aEnq_1 (by omega), aI_ff _ _ _ (by omega), aI_ff _ _ _ (by omega), aI_ff _ _ _ (by omega), aL_1, aRst_ff _ (by omega), aI_ff _ _ _ (by omega)]
theorem aCal_21 {A : aT} {s o g : Nat} (h : g ≠ 10) (h2 : g ≠ 11) : (aCal A s o).2.1 g = A.2.1 g := by
  unfold aCal aSay aCl1
  rw [aEnq_21, aI_2, aI_2, aI_2]
  show (aL _ _ _ _).2.1 g = _
  rw [show (aL (aRst (aI A 32 (6 * s + o) ((A.1 32 (6 * s + o) + 1) &&& 127)) (6 * s + o) 1) 11 (6 * s + o) []).2.1 g = (aRst (aI A 32 (6 * s + o) ((A.1 32 (6 * s + o) + 1) &&& 127)) (6 * s + o) 1).2.1 g from mrow_n _ _ h2, aRst_21 h]
  rfl
theorem aCal_22 {A : aT} {s o g : Nat} (h : g ≠ 0) (h2 : g ≠ 3) : (aCal A s o).2.2 g = A.2.2 g := by
  unfold aCal aSay aCl1
  rw [aEnq_22 h, aI_2, aI_2, aI_2, aL_2, aRst_22 h2]
  rfl
def pA (p : List Int32) (k : Nat) : Int32 := (p[k]?).getD (-1)
def aP1 (A : aT) (s n : Nat) : aT := if A.1 20 (6 * s + n) = 0 then aCal (aI (aI A 21 (6 * s + n) (-1)) 22 (6 * s + n) (-1)) s n else A
def aP2 (A : aT) (s n : Nat) (p : List Int32) : aT := if (A.2.2 2 (6 * s + n)).length < 6 then aQ A 2 (6 * s + n) (A.2.2 2 (6 * s + n) ++ [p.set 2 (pA p 2 + -1)]) else cnt A s 4
def aPml (A : aT) (s : Nat) (p : List Int32) : aT := if (A.2.2 1 s).length < 8 then aQ A 1 s (A.2.2 1 s ++ [mlOf p]) else cnt A s 4
def aPgo (A : aT) (s : Nat) (b : Int32) (p : List Int32) : aT := match sta b with
  | some n => if n = s then cnt A s 4 else aP2 (aP1 A s n) s n p
  | none => cnt A s 4
def aPkt (A : aT) (s : Nat) (p : List Int32) : aT := if 4 < p.length ∧ p.length ≤ 16 then (match sta (pA p 0), sta (pA p 1) with
    | some _, some d => if d = s then aPml A s p else if pA p 2 = 0 then cnt A s 4 else aPgo A s (bst A s d) p
    | _, _ => cnt A s 3) else cnt A s 3
theorem aP1_3 {A : aT} {s n : Nat} : (aP1 A s n).2.1 3 = A.2.1 3 := by
  unfold aP1
  split
  · rw [aCal_21 (by decide) (by decide)]
    rfl
  · rfl
theorem lAt_nI {l : List Int32} {n : Nat} (h : n < 2 ^ 31) : lAt l (nI n) = (l[n]?).getD (-1) := by
  unfold lAt
  rw [if_neg (nI_pos h), nI_clamp h]
section PK
variable {S : mS} {I I0 : mIm} {A B : aT} {s o : Nat} {l : List Int32} {b cap x : Nat}
theorem c_mlRow (hS : Shp S) (hs : s < 6) (hX : CX I0 I A) : pw S (q_W_addRow (some (cN s + 36)) (I, S)) (fun a I1 => ((a = none ∧ I1 = I ∧ ¬ (A.2.2 1 s).length < 8) ∨ ∃ b, a = some b ∧ (A.2.2 1 s).length < 8 ∧ isB S b 16 ∧ cN s + 38 ≤ b ∧ b + 2 ≤ cN s + 54 ∧ bld I1 b I1 [] ∧ (∀ r, (r < cN s + 36 ∨ cN s + 54 ≤ r) → I1 r = I r) ∧ ∀ J l, 4 < l.length → l.length ≤ 16 → bld I1 b J l → CX I0 J (aQ A 1 s (A.2.2 1 s ++ [mlOf l])))) := by
  obtain ⟨ll, m1, m2, m3⟩ := (hX.1.2.1 s hs).2.2.2.2.2.2
  rw [m2, List.length_map]
  by_cases hq : ll.length < 8
  · refine pw_mono (p_W_addRow (isW_m hS hs) m1 hq) (fun a I1 h => Or.inr ?_)
    obtain ⟨b, rfl, h1, h2, h3, h4, h5, h6⟩ := h
    refine ⟨b, rfl, hq, h2, by omega, by omega, ⟨h1, fun _ _ _ => rfl⟩, fun r hr => h5 r (by omega), fun J l hl hl2 hb => ?_⟩
    have := CX_mai hX hs (h6 J l hl2 hb.1 (fun r _ _ a c => hb.2 r a c)) (fun p hp => ?_) (fun r hr => ?_)
    · rw [List.map_append] at this
      exact this
    · rcases List.mem_append.mp hp with q | q
      · exact m3 p q
      · rw [List.mem_singleton.mp q]; exact hl
    · rw [hb.2 r (by omega) (by omega), h5 r (by omega)]
  · exact pw_mono (p_W_full (isW_m hS hs) m1 hq) (fun a I1 h => Or.inl ⟨h.1, h.2, hq⟩)
theorem c_pkRow (hS : Shp S) (hl : isLk s o) (hX : CX I0 I A) : pw S (q_W_addRow (some (cK s o + 6)) (I, S)) (fun a I1 => ((a = none ∧ I1 = I ∧ ¬ (A.2.2 2 (6 * s + o)).length < 6) ∨ ∃ b, a = some b ∧ (A.2.2 2 (6 * s + o)).length < 6 ∧ isB S b 16 ∧ cK s o + 8 ≤ b ∧ b + 2 ≤ cK s o + 20 ∧ bld I1 b I1 [] ∧ (∀ r, (r < cK s o + 6 ∨ cK s o + 20 ≤ r) → I1 r = I r) ∧ ∀ J l, l.length ≤ 16 → bld I1 b J l → CX I0 J (aQ A 2 (6 * s + o) (A.2.2 2 (6 * s + o) ++ [l])))) := by
  have m1 := (hX.1.2.2 s hl.1 o hl.2.1 hl.2.2).2.2.2.2.2.1
  by_cases hq : (A.2.2 2 (6 * s + o)).length < 6
  · refine pw_mono (p_W_addRow (isW_p hS hl) m1 hq) (fun a I1 h => Or.inr ?_)
    obtain ⟨b, rfl, h1, h2, h3, h4, h5, h6⟩ := h
    refine ⟨b, rfl, hq, h2, by omega, by omega, ⟨h1, fun _ _ _ => rfl⟩, fun r hr => h5 r (by omega), fun J l hl2 hb => ?_⟩
    refine CX_Q hX hl (Or.inl rfl) (fun _ => ⟨h6 J l hl2 hb.1 (fun r _ _ a c => hb.2 r a c), fun r hr => ?_⟩) (fun e => by omega)
    rw [hb.2 r (by omega) (by omega), h5 r (by omega)]
  · exact pw_mono (p_W_full (isW_p hS hl) m1 hq) (fun a I1 h => Or.inl ⟨h.1, h.2, hq⟩)
theorem b_raise (hB : isB S b cap) {I1 : mIm} (h : bld I1 b I l) (hc : l.length ≤ cap) (n : Nat) (v x : Int32) (hx : l[n]? = some x) : pw S (q_B_raise (some b) (nI n) v (I, S)) (fun _ J => bld I1 b J (l.set n (x + v))) := pw_mono (p_B_raise hB h.1 hc n v x hx) (fun _ J g => ⟨g.1, fun r a c => by rw [g.2 r c, h.2 r a c]⟩)
theorem k179 (hS : Shp S) (hs : s < 6) (hX : CX I0 I A) (t1 : Option Nat) (i2 i3 i5 : Int32) : pw S (q_C_receivePacket_179 (some (cN s)) t1 i2 i3 i5 none (I, S)) (CU I0 (cnt A s 4)) := by
  unfold q_C_receivePacket_179
  exact pw_nn (gN hS hs hX (j := 17) rfl (sN hS hs hX (j := 17) rfl (fun J g => pw_ret g)))
theorem k147m (hS : Shp S) (hs : s < 6) (hX : CX I0 I A) (hB : isB S b cap) (hL : isL I b l) (hc : l.length ≤ cap) (hb : b = 1278 ∨ b = cN s + 8) (hx : x ≤ l.length) (hp : 4 < (l.drop x).length ∧ (l.drop x).length ≤ 16) (t7 : Option Nat) : pw S (q_C_receivePacket_147 (some (cN s)) (some b) (nI x) (nI (l.drop x).length) 1 t7 (I, S)) (CU I0 (aPml A s (l.drop x))) := by
  unfold q_C_receivePacket_147 aPml
  refine pw_f (by decide) (rN hS hs (q := cN s + 36) rfl (pw_cv (isW_m hS hs).1 (c_mlRow hS hs hX) (fun a I1 g => ?_)))
  rcases g with ⟨rfl, rfl, hq⟩ | ⟨b1, rfl, hq, g1, g2, g3, g4, g5, g6⟩
  · rw [if_neg hq]
    exact k179 hS hs hX _ _ _ _
  · rw [if_pos hq]
    unfold q_C_receivePacket_179
    have hL1 : isL I1 b l := isL_same hL (g5 _ (by unfold cN at hb ⊢; omega)) (g5 _ (by unfold cN at hb ⊢; omega))
    rw [List.length_drop] at hp ⊢
    refine pw_ns (pw_cv g1.1 (b_addFrom g1 g4 hB hL1 hc (by unfold cN at hb g2 g3; omega) x (l.length - x) (by omega) (by simp; omega)) (fun _ J g => pw_f (by decide) (pw_ret ?_)))
    rw [List.nil_append, List.take_of_length_le (by rw [List.length_drop]; omega)] at g
    exact g6 J _ (by rw [List.length_drop]; omega) (by rw [List.length_drop]; omega) g
theorem k147p (hS : Shp S) (hl : isLk s o) (hX : CX I0 I A) (hB : isB S b cap) (hL : isL I b l) (hc : l.length ≤ cap) (hb : b = 1278 ∨ b = cN s + 8) (hx : x ≤ l.length) (hp : 4 < (l.drop x).length ∧ (l.drop x).length ≤ 16) : pw S (q_C_receivePacket_147 (some (cN s)) (some b) (nI x) (nI (l.drop x).length) 0 (some (cK s o)) (I, S)) (CU I0 (aP2 A s o (l.drop x))) := by
  have hk := cK_lt hl.1 hl.2.1 hl.2.2
  unfold q_C_receivePacket_147 aP2
  refine pw_t rfl (pw_ns (rK hS hl (q := cK s o + 6) rfl (pw_cv (isW_p hS hl).1 (c_pkRow hS hl hX) (fun a I1 g => ?_))))
  rcases g with ⟨rfl, rfl, hq⟩ | ⟨b1, rfl, hq, g1, g2, g3, g4, g5, g6⟩
  · rw [if_neg hq]
    exact k179 hS hl.1 hX _ _ _ _
  · rw [if_pos hq]
    unfold q_C_receivePacket_179
    have hL1 : isL I1 b l := isL_same hL (g5 _ (by unfold cN at hb hk; omega)) (g5 _ (by unfold cN at hb hk; omega))
    have hp2 : (l.drop x)[2]? = some (pA (l.drop x) 2) := by
      unfold pA
      rw [List.getElem?_eq_getElem (by omega)]
      rfl
    have hpl : (l.drop x).length = l.length - x := List.length_drop
    refine pw_ns (pw_cv g1.1 (b_addFrom g1 g4 hB hL1 hc (by unfold cN at hb hk; omega) x _ (by omega) (by simp; omega)) (fun _ J g => pw_t rfl ?_))
    rw [List.nil_append, List.take_length] at g
    refine pw_cv g1.1 (b_raise g1 g (by omega) 2 (-1) _ hp2) (fun _ J2 g2 => pw_ret ?_)
    exact g6 J2 _ (by rw [List.length_set]; omega) g2
theorem c_receivePacket (hS : Shp S) (hs : s < 6) (hX : CX I0 I A) (hB : isB S b cap) (hc : l.length ≤ cap) (hrow : ∀ J B, CX I0 J B → B.2.1 3 = A.2.1 3 → isL J b l) (hb : b = 1278 ∨ b = cN s + 8) (hx : x ≤ l.length) : pw S (q_C_receivePacket (some (cN s)) (some b) (nI x) (I, S)) (CU I0 (aPkt A s (l.drop x))) := by
  have hL := hrow I A hX rfl
  have h5 := hB.2.2.2.2
  have hpl : (l.drop x).length = l.length - x := List.length_drop
  have hpa : ∀ k, k < 100 → lAt l (nI (x + k)) = pA (l.drop x) k := fun k hk => by
    rw [lAt_nI (by omega)]
    unfold pA
    rw [List.getElem?_drop]
  have bad : ∀ R, R = cnt A s 3 → pw S (q_C_receivePacket_46 (some (cN s)) (I, S)) (CU I0 R) := by
    intro R hR
    subst hR
    unfold q_C_receivePacket_46
    exact gN hS hs hX (j := 16) rfl (sN hS hs hX (j := 16) rfl (fun J g => pw_ret g))
  unfold q_C_receivePacket aPkt
  refine gB hB hL (pw_lt ?_)
  rw [show nI l.length - nI x = nI (l.drop x).length from by rw [hpl]; exact pk_sub hx]
  rw [show nI x + 1 = nI (x + 1) from nI_1 x]
  refine pw_cv hB.1 (p_B_at hB hL hc _) (fun v I2 h => ?_)
  obtain ⟨rfl, rfl⟩ := h
  rw [hpa 1 (by decide)]
  by_cases e1 : 4 < (l.drop x).length
  · refine pw_t (nI_lt (a := 4) e1 (by omega)) ?_
    by_cases e2 : 16 < (l.drop x).length
    · exact pw_t (nI_lt (a := 16) e2 (by omega)) (bad _ (by rw [if_neg (by omega)]))
    · rw [if_pos (show 4 < (l.drop x).length ∧ (l.drop x).length ≤ 16 from ⟨e1, by omega⟩)]
      refine pw_f (nI_nlt (a := 16) (by omega) (by decide)) (pw_cv hB.1 (p_B_at hB hL hc _) (fun v I2 h => ?_))
      obtain ⟨rfl, rfl⟩ := h
      have h0 := hpa 0 (by decide)
      rw [Nat.add_zero] at h0
      rw [h0]
      refine pw_cl (p_C_isStation _) (fun v I2 h => ?_)
      obtain ⟨rfl, rfl⟩ := h
      cases hs0 : sta (pA (l.drop x) 0) with
      | none => exact pw_t rfl (bad _ rfl)
      | some d0 =>
        refine pw_f (by simp) (pw_cl (p_C_isStation _) (fun v I2 h => ?_))
        obtain ⟨rfl, rfl⟩ := h
        cases hs1 : sta (pA (l.drop x) 1) with
        | none => exact pw_t rfl (bad _ rfl)
        | some d =>
          obtain ⟨hd, ed⟩ := sta_s hs1
          dsimp only
          refine pw_f (by simp) (gN0 hS hs hX ?_)
          rw [ed]
          have no : ∀ (J : mIm) (B : aT) (t7 : Option Nat), CX I0 J B → t7 = none → pw S (q_C_receivePacket_109 (some (cN s)) (some b) (nI x) (nI (l.drop x).length) 0 t7 (J, S)) (CU I0 (cnt B s 4)) := by
            intro J B t7 hJ ht
            subst ht
            unfold q_C_receivePacket_109 q_C_receivePacket_147
            exact pw_nn (pw_t rfl (pw_nn (k179 hS hs hJ _ _ _ _)))
          unfold q_C_receivePacket_71 q_C_receivePacket_92
          by_cases e3 : d = s
          · rw [if_pos e3, if_pos (show nI d = nI s by rw [e3])]
            refine pw_cv hB.1 (p_B_at hB hL hc _) (fun v I2 h => ?_)
            obtain ⟨rfl, rfl⟩ := h
            unfold q_C_receivePacket_109
            exact pw_f (by decide) (pw_nn (k147m hS hs hX hB hL hc hb hx ⟨e1, by omega⟩ none))
          · rw [if_neg e3, if_neg (show ¬ nI d = nI s from fun q => e3 ((nI_eq (by omega) (by omega)).mp q))]
            rw [show nI x + 2 = nI (x + 2) from nI_add x 2]
            refine pw_cv hB.1 (p_B_at hB hL hc _) (fun v I2 h => ?_)
            obtain ⟨rfl, rfl⟩ := h
            rw [hpa 2 (by decide)]
            refine pw_t rfl (pw_if (fun e4 => ?_) (fun e4 => ?_))
            · rw [if_pos e4]
              exact no _ A none hX rfl
            · rw [if_neg e4]
              have hT : S.2.1 (cN s + 55) = 15 := (hS.2.1 s hs).2.2.2.2.2.2.2.2.2.2.2.2.2.2.2.2.1
              refine rN hS hs (q := cN s + 55) rfl (pw_cv hT (p_T_bestTo hS hX.1 hs (nI d)) (fun v I2 h => ?_))
              obtain ⟨rfl, rfl⟩ := h
              have ebs : bstI A s (nI d) = bst A s d := by unfold bstI; rw [sta_nI hd]
              rw [ebs]
              refine pw_cv (cN_k hS hs) (p_N_linkTo hS hs _) (fun v I2 h => ?_)
              obtain ⟨rfl, rfl⟩ := h
              unfold aPgo
              cases hs2 : sta (bst A s d) with
              | none => exact no _ A none hX rfl
              | some n =>
                obtain ⟨hn, -⟩ := sta_s hs2
                dsimp only
                by_cases e5 : n = s
                · rw [if_pos e5, if_pos e5]
                  exact no _ A none hX rfl
                · rw [if_neg e5, if_neg e5]
                  have hl : isLk s n := ⟨hs, hn, e5⟩
                  unfold q_C_receivePacket_109
                  refine pw_ns (gK hS hl hX (f := 20) rfl ?_)
                  have fin : ∀ J B, CX I0 J B → B.2.1 3 = A.2.1 3 → pw S (q_C_receivePacket_147 (some (cN s)) (some b) (nI x) (nI (l.drop x).length) 0 (some (cK s n)) (J, S)) (CU I0 (aP2 B s n (l.drop x))) := fun J B hJ h3 => k147p hS hl hJ hB (hrow J B hJ h3) hc hb hx ⟨e1, by omega⟩
                  have h3 := aP1_3 (A := A) (s := s) (n := n)
                  unfold aP1 at h3 ⊢
                  by_cases e6 : A.1 20 (6 * s + n) = 0
                  · rw [if_pos e6] at h3
                    rw [if_pos e6, if_pos e6]
                    refine rK hS hl (q := cK s n + 1) rfl (sP hS hl hX (f := 21) rfl (fun J1 g1 => rK hS hl (q := cK s n + 1) rfl (sP hS hl g1 (f := 22) rfl (fun J2 g2 => pw_cl (c_callOther hS hl g2) (fun _ J3 g3 => ?_)))))
                    exact fin J3 _ g3 h3
                  · rw [if_neg e6, if_neg e6]
                    exact fin _ A hX rfl
  · exact pw_f (nI_nlt (a := 4) (by omega) (by decide)) (bad _ (by rw [if_neg (by omega)]))
end PK
