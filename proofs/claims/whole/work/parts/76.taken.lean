/-! TAKEN: what the class answers -/
abbrev pD : Type := Nat × Nat × (Nat → Int32)
/-- who sent it, where its text begins; 0 1 the VIAS of an answer, 2 MARK, 3 COMMAND, 4 kind, 5 P or F, 6 r, 7 t, 8 240 or 207 -/
def cCx (I : mIm) (D : pD) : Prop := I 1280 1 = nI D.1 ∧ I 1280 4 = D.2.2 3 ∧ I 1280 5 = D.2.2 4 ∧ I 1280 6 = D.2.2 5 ∧ I 1280 7 = D.2.2 6 ∧ I 1280 8 = D.2.2 7 ∧ I 1280 9 = D.2.2 8 ∧ I 1280 10 = nI D.2.1 ∧ I 1281 0 = nI D.1 ∧ I 1281 1 = D.2.2 0 ∧ I 1281 2 = D.2.2 1 ∧ I 1281 3 = D.2.2 2
def aInf (A : aT) (s o : Nat) (t : Int32) (p : List Int32) : aT := aEnq A s (hdr (nI o) (nI s) (A.1 21 (6 * s + o)) (A.1 22 (6 * s + o)) 1 ++ [(0 + 2 * t) + 32 * A.1 26 (6 * s + o), A.1 23 (6 * s + o)] ++ p)
def agN (s o : Nat) : Nat → Nat → aT → aT
  | 0, _, A => A
  | k + 1, i, A => if A.1 31 (6 * s + o) = 0 then agN s o k (i + 1) (aInf A s o ((A.1 25 (6 * s + o) + nI i) &&& 7) (((A.2.2 3 (6 * s + o))[i]?).getD [])) else A
def aAga (A : aT) (s o : Nat) : aT := if (A.2.2 3 (6 * s + o)).length = 0 then A else agN s o (A.2.2 3 (6 * s + o)).length 0 (aI A 27 (6 * s + o) (A.1 1 (9 * s + 4)))
def aAns (A : aT) (s : Nat) (D : pD) (k : Int32) : aT := aEnq A s (hdr (nI D.1) (nI s) (D.2.2 0) (D.2.2 1) 0 ++ [k + D.2.2 5, D.2.2 2])
def aSb3 (A : aT) (s : Nat) (D : pD) : aT := aAns (aI (aI (aI (aL (aRst A (6 * s + D.1) 2) 11 (6 * s + D.1) []) 21 (6 * s + D.1) (D.2.2 0)) 22 (6 * s + D.1) (D.2.2 1)) 23 (6 * s + D.1) (D.2.2 2)) s D 99
def aSb2 (A : aT) (s : Nat) (D : pD) : aT := if A.1 20 (6 * s + D.1) = 1 then (if nI s < nI D.1 then aAns A s D 15 else aSb3 A s D) else aSb3 A s D
def aSb1 (A : aT) (s : Nat) (D : pD) : aT := if D.2.2 2 = A.1 23 (6 * s + D.1) then aAns A s D (if A.1 20 (6 * s + D.1) = 2 then 99 else 15) else if ((D.2.2 2 &&& 127) - A.1 33 (6 * s + D.1)) &&& 127 < 1 then A else if 63 < ((D.2.2 2 &&& 127) - A.1 33 (6 * s + D.1)) &&& 127 then A else aSb2 (aI A 33 (6 * s + D.1) (D.2.2 2 &&& 127)) s D
def aSab (A : aT) (s : Nat) (D : pD) : aT := if (if nI s < nI D.1 then (1 : Int32) else 0) = (if D.2.2 2 < 128 then 0 else 1) then aSb1 A s D else A
def aWai (A : aT) (s : Nat) (D : pD) : aT := if D.2.2 4 = 15 then aDn A (6 * s + D.1) else if D.2.2 4 = 99 then (if A.1 20 (6 * s + D.1) = 3 then aDn A (6 * s + D.1) else aI (aI (aI A 20 (6 * s + D.1) 2) 27 (6 * s + D.1) 0) 28 (6 * s + D.1) 0) else if D.2.2 4 = 67 then (if A.1 20 (6 * s + D.1) = 3 then aSay A s D.1 (99 + D.2.2 5) 0 else A) else A
section TA
variable {S : mS} {I I0 : mIm} {A : aT} {s o : Nat} {D : pD}
theorem c_sayInf (hS : Shp S) (hl : isLk s o) (hX : CX I0 I A) (t : Int32) {b2 : Nat} {p : List Int32} (hB : isB S b2 17) (hL : isL I b2 p) (hp : p.length ≤ 17) (hb : cK s o ≤ b2) : pw S (q_C_sayInformation (some (cK s o)) t (some b2) (I, S)) (CU I0 (aInf A s o t p)) := by
  have hk := cK_lt hl.1 hl.2.1 hl.2.2
  have hc := hX.1.2.2 s hl.1 o hl.2.1 hl.2.2
  unfold q_C_sayInformation aInf
  refine rK hS hl (q := cN s) rfl (rK hS hl (q := cK s o + 1) rfl (gK hS hl hX (f := 26) rfl ?_))
  have sy := p_C_say hS hl.1 hX (cP_k hS hl) (by omega) hc.2.2.1.1 (cLk_getp hc (j := 1) rfl) (cLk_getp hc (j := 2) rfl) (cLk_getp hc (j := 3) rfl) ((0 + 2 * t) + 32 * A.1 26 (6 * s + o)) 1
  refine pw_cl sy (fun a J g => ?_)
  unfold aEnq
  rcases g with ⟨rfl, h1, h2⟩ | ⟨b, I1, rfl, h1, h2, h3, h4, h5, h6, h7⟩
  · rw [if_neg h1]
    exact pw_nn (pw_ret h2)
  · rw [if_pos h1]
    have hd := hdr_len (nI o) (nI s) (A.1 21 (6 * s + o)) (A.1 22 (6 * s + o)) 1
    have hL1 : isL I1 b2 p := isL_same hL (h6 _ (by omega)) (h6 _ (by omega))
    have hL2 : isL J b2 p := isL_same hL1 (h5.2 _ (by omega) (by omega)) (h5.2 _ (by omega) (by omega))
    refine pw_ns (pw_ns (gB hB hL2 (pw_cv h2.1 (b_addFrom h2 h5 hB hL1 hp (by omega) 0 _ (by omega) ?_) (fun _ J2 g2 => pw_ret ?_))))
    · rw [List.length_append]
      show _ + 2 + _ ≤ 90
      omega
    · rw [List.drop_zero, List.take_length] at g2
      refine h7 J2 _ ?_ g2
      rw [List.length_append, List.length_append]
      show _ + 2 + _ ≤ 90
      omega
theorem aInf_1 {t : Int32} {p : List Int32} {g : Nat} (h : g ≠ 8) : (aInf A s o t p).1 g = A.1 g := aEnq_1 h
theorem aInf_22 {t : Int32} {p : List Int32} {g : Nat} (h : g ≠ 0) : (aInf A s o t p).2.2 g = A.2.2 g := aEnq_22 h
theorem c_sayAgain_26 (hS : Shp S) (hl : isLk s o) : ∀ (k n i : Nat) (I : mIm) (A : aT), i + k = (A.2.2 3 (6 * s + o)).length → k < n → CX I0 I A → pw S (q_C_sayAgain_26 n (some (cK s o)) (nI i) (I, S)) (CU I0 (agN s o k i A))
  | k, 0, i, I, A, _, h, _ => by omega
  | 0, n + 1, i, I, A, hk, hn, hX => by
    have hR := (hX.1.2.2 s hl.1 o hl.2.1 hl.2.2).2.2.2.2.2.2
    have h4 := (isR_len hR).1
    show pw S (q_C_sayAgain_26_b _ _ _ _) _
    unfold q_C_sayAgain_26_b
    exact rK hS hl (q := cK s o + 20) rfl (gW (isW_s hS hl) hR (pw_f (nI_nlt (by omega) (by omega)) (pw_ret hX)))
  | k + 1, n + 1, i, I, A, hk, hn, hX => by
    have hR := (hX.1.2.2 s hl.1 o hl.2.1 hl.2.2).2.2.2.2.2.2
    have h4 := (isR_len hR).1
    have hki := cK_lt hl.1 hl.2.1 hl.2.2
    show pw S (q_C_sayAgain_26_b _ _ _ _) (CU I0 (if A.1 31 (6 * s + o) = 0 then agN s o k (i + 1) (aInf A s o ((A.1 25 (6 * s + o) + nI i) &&& 7) (((A.2.2 3 (6 * s + o))[i]?).getD [])) else A))
    unfold q_C_sayAgain_26_b
    refine rK hS hl (q := cK s o + 20) rfl (gW (isW_s hS hl) hR (pw_t (nI_lt (by omega) (by omega)) (gK hS hl hX (f := 31) rfl ?_)))
    by_cases e : A.1 31 (6 * s + o) = 0
    · rw [if_pos e, if_pos e]
      refine gK hS hl hX (f := 25) rfl (rK hS hl (q := cK s o + 20) rfl (pw_cv (isW_s hS hl).1 (p_W_rowAt (isW_s hS hl) hR (nI i)) (fun a J g => ?_)))
      obtain ⟨rfl, g⟩ := g
      rw [nI_clamp (by omega)] at g
      rcases g with ⟨-, q⟩ | ⟨b, p, rfl, q1, q2, q3, q4, q5, q6, q7⟩
      · rcases q with q | q
        · exact absurd q (nI_pos (by omega))
        · rw [List.getElem?_eq_getElem (by omega)] at q
          cases q
      · rw [q2]
        refine pw_cl (c_sayInf hS hl hX _ q5 q4 q3 (by omega)) (fun _ J2 g2 => ?_)
        rw [show nI i + 1 = nI (i + 1) from nI_1 i]
        exact c_sayAgain_26 hS hl k n (i + 1) J2 _ (by rw [aInf_22 (by decide)]; omega) (by omega) g2
    · rw [if_neg e, if_neg e]
      exact pw_ret hX
theorem c_sayAgain (hS : Shp S) (hl : isLk s o) (hX : CX I0 I A) : pw S (q_C_sayAgain (some (cK s o)) (I, S)) (CU I0 (aAga A s o)) := by
  have hR := (hX.1.2.2 s hl.1 o hl.2.1 hl.2.2).2.2.2.2.2.2
  have h4 := (isR_len hR).1
  unfold q_C_sayAgain aAga
  refine rK hS hl (q := cK s o + 20) rfl (gW (isW_s hS hl) hR ?_)
  by_cases e : (A.2.2 3 (6 * s + o)).length = 0
  · rw [if_pos e, e]
    exact pw_t rfl (pw_ret hX)
  · rw [if_neg e]
    refine pw_f (nI_ne0 (by omega) (by omega)) (rK hS hl (q := cN s) rfl (rN hS hl.1 (q := cN s + 1) rfl (gT hS hl.1 hX 4 rfl (by decide) (sK hS hl hX (f := 27) rfl (by decide) (fun J g => ?_)))))
    exact c_sayAgain_26 hS hl _ mFU 0 J _ (by rw [aI_2]; omega) (by unfold mFU; omega) g
theorem cF_k (hS : Shp S) : S.2.1 16 = 19 ∧ S.1 16 6 = some 1280 ∧ S.2.1 1280 = 11 ∧ S.1 1280 11 = some 1281 ∧ S.2.1 1281 = 13 := by
  obtain ⟨k1, k2, k3, k4, k5, k6, k7, k8, k9, k10, k11, k12, k13, k14, k15, k16, k17⟩ := hS.1
  exact ⟨k1, k8, k15, k16, k17⟩
theorem cx80 {J : mIm} {B : aT} (hX : CX I0 J B) : J 1280 = I0 1280 := hX.2.1 1280 (by decide)
theorem cx81 {J : mIm} {B : aT} (hX : CX I0 J B) : J 1281 = I0 1281 := hX.2.1 1281 (by decide)
theorem c_answer (hS : Shp S) (hs : s < 6) (hX : CX I0 I A) (hD : cCx I0 D) (k : Int32) : pw S (q_C_answer (some 16) (some (cN s)) k (I, S)) (CU I0 (aAns A s D k)) := by
  obtain ⟨f1, f2, f3, f4, f5⟩ := cF_k hS
  obtain ⟨d1, d2, d3, d4, d5, d6, d7, d8, d9, d10, d11, d12⟩ := hD
  unfold q_C_answer aAns
  refine pw_gR f1 f2 (pw_gR f3 f4 (pw_gR f1 f2 (pw_gI f3 ?_)))
  rw [cx80 hX, d4]
  exact pw_cl (p_C_said hS hs hX f5 (by unfold cN; omega) (by rw [cx81 hX]; exact d9) (by rw [cx81 hX]; exact d10) (by rw [cx81 hX]; exact d11) (by rw [cx81 hX]; exact d12) _ 0) (fun _ J g => pw_ret g)
theorem c_sb3 (hS : Shp S) (hl : isLk s D.1) (hX : CX I0 I A) (hD : cCx I0 D) : pw S (q_C_takeSabm_149 (some 16) (some (cK s D.1)) (some (cN s)) (I, S)) (CU I0 (aSb3 A s D)) := by
  obtain ⟨f1, f2, f3, f4, f5⟩ := cF_k hS
  obtain ⟨d1, d2, d3, d4, d5, d6, d7, d8, d9, d10, d11, d12⟩ := id hD
  unfold q_C_takeSabm_149 aSb3
  refine pw_cv (cK_k hS hl) (c_restart hS hl hX 2) (fun _ J1 g1 => rK hS hl (q := cK s D.1 + 4) rfl (pw_cv (isB_i hS hl).1 (c_inClear hS hl g1) (fun _ J2 g2 => ?_)))
  refine rK hS hl (q := cK s D.1 + 1) rfl (pw_gR f1 f2 (pw_gR f3 f4 ?_))
  have hbec : pw S (q_P_become (some (cK s D.1 + 1)) (some 1281) (J2, S)) (CU I0 (aI (aI (aI (aL (aRst A (6 * s + D.1) 2) 11 (6 * s + D.1) []) 21 (6 * s + D.1) (D.2.2 0)) 22 (6 * s + D.1) (D.2.2 1)) 23 (6 * s + D.1) (D.2.2 2))) := by
    unfold q_P_become
    refine pw_gI f5 (pw_pI (cP_k hS hl) ?_)
    have g2' : CX I0 (iput J2 (cK s D.1 + 1) 0 (J2 1281 0)) (aL (aRst A (6 * s + D.1) 2) 11 (6 * s + D.1) []) := by
      have e : iput J2 (cK s D.1 + 1) 0 (J2 1281 0) = J2 := by
        funext x y
        by_cases hx : x = cK s D.1 + 1
        · subst hx
          by_cases hy : y = 0
          · subst hy
            rw [iput_s, cx81 g2, d9]
            exact (g2.1.2.2 s hl.1 D.1 hl.2.1 hl.2.2).2.2.1.1.symm
          · rw [iput_j _ _ _ hy]
        · rw [iput_n _ _ _ hx]
      rw [e]
      exact g2
    refine pw_gI f5 ?_
    rw [cx81 g2', d10]
    refine sP hS hl g2' (f := 21) rfl (fun J3 g3 => pw_gI f5 ?_)
    rw [cx81 g3, d11]
    refine sP hS hl g3 (f := 22) rfl (fun J4 g4 => pw_gI f5 ?_)
    rw [cx81 g4, d12]
    exact sP hS hl g4 (f := 23) rfl (fun J5 g5 => pw_ret g5)
  exact pw_cv (cP_k hS hl) hbec (fun _ J6 g6 => pw_cv f1 (c_answer hS hl.1 g6 hD 99) (fun _ J7 g7 => pw_ret g7))
theorem c_takeSabm (hS : Shp S) (hl : isLk s D.1) (hX : CX I0 I A) (hD : cCx I0 D) : pw S (q_C_takeSabm (some 16) (some (cK s D.1)) (I, S)) (CU I0 (aSab A s D)) := by
  obtain ⟨f1, f2, f3, f4, f5⟩ := cF_k hS
  obtain ⟨d1, d2, d3, d4, d5, d6, d7, d8, d9, d10, d11, d12⟩ := id hD
  unfold q_C_takeSabm
  refine rK hS hl (q := cN s) rfl (pw_gR f1 f2 (pw_gR f3 f4 (pw_gI f5 ?_)))
  rw [cx81 hX, d12]
  refine gK1 hS hl hX (gN0 hS hl.1 hX ?_)
  have m48 : ∀ j0 j1 : Int32, j1 = j0 → pw S (q_C_takeSabm_48 (some 16) (some (cK s D.1)) (some (cN s)) (D.2.2 2) j0 j1 (I, S)) (CU I0 (aSb1 A s D)) := by
    intro j0 j1 hj
    unfold q_C_takeSabm_48 aSb1
    refine pw_t hj (rK hS hl (q := cK s D.1 + 1) rfl (gP hS hl hX (f := 23) rfl ?_))
    by_cases e1 : D.2.2 2 = A.1 23 (6 * s + D.1)
    · rw [if_pos e1, if_pos e1]
      refine gK hS hl hX (f := 20) rfl ?_
      unfold q_C_takeSabm_80
      by_cases e2 : A.1 20 (6 * s + D.1) = 2
      · rw [if_pos e2, if_pos e2]
        exact pw_cv f1 (c_answer hS hl.1 hX hD 99) (fun _ J g => pw_ret g)
      · rw [if_neg e2, if_neg e2]
        exact pw_cv f1 (c_answer hS hl.1 hX hD 15) (fun _ J g => pw_ret g)
    · rw [if_neg e1, if_neg e1]
      refine pw_lt (gK hS hl hX (f := 33) rfl (pw_lt ?_))
      by_cases e2 : ((D.2.2 2 &&& 127) - A.1 33 (6 * s + D.1)) &&& 127 < 1
      · rw [if_pos e2, if_pos e2]
        exact pw_ret hX
      · rw [if_neg e2, if_neg e2]
        by_cases e3 : 63 < ((D.2.2 2 &&& 127) - A.1 33 (6 * s + D.1)) &&& 127
        · rw [if_pos e3, if_pos e3]
          exact pw_ret hX
        · rw [if_neg e3, if_neg e3]
          refine sK hS hl hX (f := 33) rfl (by decide) (fun J1 g1 => gK hS hl g1 (f := 20) rfl ?_)
          unfold aSb2
          refine pw_ite (P := CU I0) (fun e4 => gN0 hS hl.1 g1 (gK1 hS hl g1 (pw_ite (P := CU I0) (fun e5 => ?_) (fun e5 => ?_)))) (fun e4 => ?_)
          · exact pw_cv f1 (c_answer hS hl.1 g1 hD 15) (fun _ J g => pw_ret g)
          · exact c_sb3 hS hl g1 hD
          · exact c_sb3 hS hl g1 hD
  have n48 : ∀ j0 j1 : Int32, ¬ j1 = j0 → pw S (q_C_takeSabm_48 (some 16) (some (cK s D.1)) (some (cN s)) (D.2.2 2) j0 j1 (I, S)) (CU I0 A) := by
    intro j0 j1 hj
    unfold q_C_takeSabm_48
    exact pw_f hj (pw_ret hX)
  have m32 : ∀ j1 : Int32, pw S (q_C_takeSabm_32 (some 16) (some (cK s D.1)) (some (cN s)) (D.2.2 2) j1 (I, S)) (CU I0 (if j1 = (if D.2.2 2 < 128 then 0 else 1) then aSb1 A s D else A)) := by
    intro j1
    unfold q_C_takeSabm_32
    by_cases e : D.2.2 2 < 128
    · rw [if_pos e, if_pos e]
      by_cases e2 : j1 = 0
      · rw [if_pos e2]; exact m48 0 j1 e2
      · rw [if_neg e2]; exact n48 0 j1 e2
    · rw [if_neg e, if_neg e]
      by_cases e2 : j1 = 1
      · rw [if_pos e2]; exact m48 1 j1 e2
      · rw [if_neg e2]; exact n48 1 j1 e2
  unfold aSab
  by_cases e : nI s < nI D.1
  · rw [if_pos e, if_pos e]; exact m32 1
  · rw [if_neg e, if_neg e]; exact m32 0
theorem c_takeWhileWaiting (hS : Shp S) (hl : isLk s D.1) (hX : CX I0 I A) (hD : cCx I0 D) : pw S (q_C_takeWhileWaiting (some 16) (some (cK s D.1)) (I, S)) (CU I0 (aWai A s D)) := by
  obtain ⟨f1, f2, f3, f4, f5⟩ := cF_k hS
  obtain ⟨d1, d2, d3, d4, d5, d6, d7, d8, d9, d10, d11, d12⟩ := id hD
  unfold q_C_takeWhileWaiting aWai
  refine pw_gR f1 f2 (pw_gI f3 ?_)
  rw [cx80 hX, d3]
  have dn : pw S (q_C_takeWhileWaiting_28 (some (cK s D.1)) (I, S)) (CU I0 (aDn A (6 * s + D.1))) := by
    unfold q_C_takeWhileWaiting_28
    exact pw_cv (cK_k hS hl) (c_goDown hS hl hX) (fun _ J g => pw_ret g)
  refine pw_ite (P := CU I0) (fun _ => dn) (fun e1 => ?_)
  by_cases e2 : D.2.2 4 = 99
  · rw [if_pos e2, if_pos e2]
    refine gK hS hl hX (f := 20) rfl (pw_ite (P := CU I0) (fun _ => dn) (fun e3 => ?_))
    unfold q_C_takeWhileWaiting_35
    exact pw_t e2 (pw_cv (cK_k hS hl) (c_enter hS hl hX 2) (fun _ J1 g1 => sK hS hl g1 (f := 27) rfl (by decide) (fun J2 g2 => sK hS hl g2 (f := 28) rfl (by decide) (fun J3 g3 => pw_ret g3))))
  · rw [if_neg e2, if_neg e2]
    unfold q_C_takeWhileWaiting_35
    refine pw_f e2 (pw_ite (P := CU I0) (fun e3 => gK hS hl hX (f := 20) rfl (pw_ite (P := CU I0) (fun e4 => ?_) (fun e4 => pw_ret hX))) (fun e3 => pw_ret hX))
    refine rK hS hl (q := cN s) rfl (rK hS hl (q := cK s D.1 + 1) rfl (pw_gR f1 f2 (pw_gI f3 ?_)))
    rw [cx80 hX, d4]
    exact pw_cl (c_say hS hl hX _ 0) (fun _ J g => pw_ret g)
end TA
