/-! what may be said: what is asked, and the class -/
def wrk (A : aT) (l : Nat) : Prop := 0 < (A.2.1 10 l).length ∨ 0 < (A.2.2 2 l).length ∨ 0 < (A.2.2 3 l).length
def aCk4 (D : aT) (s o : Nat) : aT := if D.1 27 (6 * s + o) = 0 then aI D 27 (6 * s + o) (D.1 1 (9 * s + 4)) else D
def aCn2 (B : aT) (s o : Nat) (c : List Int32) : aT := aCk4 (aI (aInf B s o (B.1 24 (6 * s + o)) c) 24 (6 * s + o) ((B.1 24 (6 * s + o) + 1) &&& 7)) s o
def aCon (A : aT) (s o : Nat) : aT := if (A.2.2 3 (6 * s + o)).length < 4 then (match A.2.2 2 (6 * s + o) with
  | p :: r => aCn2 (aQ (aQ A 3 (6 * s + o) (A.2.2 3 (6 * s + o) ++ [207 :: p])) 2 (6 * s + o) r) s o (207 :: p)
  | [] => if A.2.1 10 (6 * s + o) = [] then A else aCn2 (aL (aQ A 3 (6 * s + o) (A.2.2 3 (6 * s + o) ++ [240 :: (A.2.1 10 (6 * s + o)).take 16])) 10 (6 * s + o) ((A.2.1 10 (6 * s + o)).drop 16)) s o (240 :: (A.2.1 10 (6 * s + o)).take 16)) else A
def aMs1 (A : aT) (s o : Nat) : aT := if A.1 29 (6 * s + o) = 0 then (if A.1 31 (6 * s + o) = 0 then (if (A.2.2 0 s).length < 8 then aCon A s o else A) else A) else A
def aMs2 (B : aT) (s o : Nat) : aT := if B.1 31 (6 * s + o) = 0 then B else aCk4 B s o
def dcW (A : aT) (l : Nat) : Decidable (wrk A l) := by
  unfold wrk
  infer_instance
def aMsy (A : aT) (s o : Nat) : aT := if A.1 20 (6 * s + o) = 2 then (@ite _ (wrk A (6 * s + o)) (dcW A _) (aMs2 (aMs1 A s o) s o) A) else A
section MC
variable {S : mS} {I J I0 : mIm} {A : aT} {s o : Nat}
theorem c_ck4 (hS : Shp S) (hl : isLk s o) (hX : CX I0 I A) : pw S (x_gI (I, S) 2 (some (cK s o)) 11 fun x3 => if x3 = 0 then x_gR (I, S) 2 (some (cK s o)) 0 fun a4 => x_gR (I, S) 8 a4 1 fun a5 => x_aI (I, S) 0 a5 (4 : Int32) fun x6 => x_pI (I, S) 2 (some (cK s o)) 11 x6 fun M => some ((), M) else some ((), (I, S))) (CU I0 (aCk4 A s o)) := by
  unfold aCk4
  refine gK hS hl hX (f := 27) rfl ?_
  by_cases e : A.1 27 (6 * s + o) = 0
  · refine pw_t e ?_
    rw [if_pos e]
    exact rK hS hl (q := cN s) rfl (rN hS hl.1 (q := cN s + 1) rfl (gT hS hl.1 hX 4 rfl (by decide) (sK hS hl hX (f := 27) rfl (by decide) (fun J g => pw_ret g))))
  · refine pw_f e ?_
    rw [if_neg e]
    exact pw_ret hX
theorem c_sc110 (hS : Shp S) (hl : isLk s o) (hX : CX I0 I A) {b : Nat} {c : List Int32} (hB : isB S b 17) (hL : isL I b c) (hc : c.length ≤ 17) (hb : cK s o ≤ b) : pw S (q_C_sayContent_110 (some (cK s o)) (some b) (I, S)) (CU I0 (aCn2 A s o c)) := by
  unfold q_C_sayContent_110 aCn2
  refine gK hS hl hX (f := 24) rfl (pw_cl (c_sayInf hS hl hX (A.1 24 (6 * s + o)) hB hL hc hb) (fun _ J1 g1 => gK hS hl g1 (f := 24) rfl ?_))
  rw [aInf_1 (by decide)]
  exact sK hS hl g1 (f := 24) rfl (by decide) (fun J2 g2 => c_ck4 hS hl g2)
theorem c_sayContent (hS : Shp S) (hl : isLk s o) (hX : CX I0 I A) : pw S (q_C_sayContent (some (cK s o)) (I, S)) (CU I0 (aCon A s o)) := by
  obtain ⟨c0, c1, c2, ⟨c3, c4⟩, c5, c6, c7⟩ := hX.1.2.2 s hl.1 o hl.2.1 hl.2.2
  have hk := cK_lt hl.1 hl.2.1 hl.2.2
  have hWp := isW_p hS hl
  have hWs := isW_s hS hl
  have hBo := isB_o hS hl
  have c9 := isR_len c7
  have c8 := isR_len c6
  unfold q_C_sayContent
  refine rK hS hl (q := cK s o + 6) rfl (pw_cv hWp.1 (p_W_rowAt hWp c6 0) (fun a K g => ?_))
  obtain ⟨hK, g⟩ := g
  rw [hK]
  unfold aCon
  rcases g with ⟨rfl, g⟩ | ⟨b2, p, rfl, g1, g2, g3, g4, g5, g6, g7⟩
  · have hnil : A.2.2 2 (6 * s + o) = [] := by
      rcases g with q | q
      · exact absurd q (by decide)
      · cases hq : A.2.2 2 (6 * s + o) with
        | nil => rfl
        | cons x y => rw [hq] at q; cases q
    rw [hnil]
    dsimp only
    refine pw_nn (rK hS hl (q := cK s o + 2) rfl (gB hBo c3 ?_))
    by_cases e0 : A.2.1 10 (6 * s + o) = []
    · have : (if (A.2.2 3 (6 * s + o)).length < 4 then (if A.2.1 10 (6 * s + o) = [] then A else aCn2 (aL (aQ A 3 (6 * s + o) (A.2.2 3 (6 * s + o) ++ [240 :: (A.2.1 10 (6 * s + o)).take 16])) 10 (6 * s + o) ((A.2.1 10 (6 * s + o)).drop 16)) s o (240 :: (A.2.1 10 (6 * s + o)).take 16)) else A) = A := by
        rw [if_pos e0]
        split <;> rfl
      rw [this]
      unfold q_C_sayContent_34
      exact pw_t (by rw [e0]; rfl) (pw_nn (pw_ret hX))
    · have hpos := List.length_pos_iff.mpr e0
      rw [if_neg e0]
      unfold q_C_sayContent_27 q_C_sayContent_34
      refine pw_f (nI_ne0 hpos (by omega)) (rK hS hl (q := cK s o + 20) rfl ?_)
      by_cases e4 : (A.2.2 3 (6 * s + o)).length < 4
      · rw [if_pos e4]
        refine pw_cv hWs.1 (p_W_addRow hWs c7 e4) (fun a I1 g => ?_)
        obtain ⟨b, rfl, r1, r2, r3, r4, r5, r6⟩ := g
        have ho1 : isL I1 (cK s o + 2) (A.2.1 10 (6 * s + o)) := isL_same c3 (r5 _ (by omega)) (r5 _ (by omega))
        refine pw_ns (pw_nn (rK hS hl (q := cK s o + 2) rfl (gB hBo ho1 (pw_lt ?_))))
        have hmin : (if nI (A.2.1 10 (6 * s + o)).length < (16 : Int32) then nI (A.2.1 10 (6 * s + o)).length else (16 : Int32)) = nI (min 16 (A.2.1 10 (6 * s + o)).length) := by
          by_cases q : (A.2.1 10 (6 * s + o)).length < 16
          · rw [if_pos (show nI (A.2.1 10 (6 * s + o)).length < (16 : Int32) from nI_lt (b := 16) q (by decide))]
            congr 1
            omega
          · rw [if_neg (show ¬ nI (A.2.1 10 (6 * s + o)).length < (16 : Int32) from nI_nlt (b := 16) (by omega) (by omega)), show min 16 (A.2.1 10 (6 * s + o)).length = 16 by omega]
            rfl
        rw [hmin]
        generalize hc : min 16 (A.2.1 10 (6 * s + o)).length = c
        have hc16 : c ≤ 16 ∧ c ≤ (A.2.1 10 (6 * s + o)).length := by omega
        have et : (A.2.1 10 (6 * s + o)).take c = (A.2.1 10 (6 * s + o)).take 16 := by
          rw [← hc]
          by_cases q : 16 ≤ (A.2.1 10 (6 * s + o)).length
          · rw [Nat.min_eq_left q]
          · rw [Nat.min_eq_right (by omega), List.take_length, List.take_of_length_le (by omega)]
        have ed : (A.2.1 10 (6 * s + o)).drop c = (A.2.1 10 (6 * s + o)).drop 16 := by
          rw [← hc]
          by_cases q : 16 ≤ (A.2.1 10 (6 * s + o)).length
          · rw [Nat.min_eq_left q]
          · rw [Nat.min_eq_right (by omega), List.drop_length, List.drop_eq_nil_of_le (by omega)]
        have bl0 : bld I1 b I1 [] := ⟨r1, fun _ _ _ => rfl⟩
        refine pw_cv r2.1 (b_add r2 bl0 (by decide) 240) (fun _ I2 q2 => ?_)
        refine rK hS hl (q := cK s o + 2) rfl (pw_cv r2.1 (b_addFrom r2 q2 hBo ho1 c4 (by omega) 0 c (by omega) (by simp; omega)) (fun _ I3 q3 => ?_))
        have q3 : bld I1 b I3 (240 :: (A.2.1 10 (6 * s + o)).take 16) := by
          have := q3
          rw [List.drop_zero, et] at this
          exact this
        have hlen : (240 :: (A.2.1 10 (6 * s + o)).take 16).length ≤ 17 := by
          rw [List.length_cons, List.length_take]
          omega
        have hX3 : CX I0 I3 (aQ A 3 (6 * s + o) (A.2.2 3 (6 * s + o) ++ [240 :: (A.2.1 10 (6 * s + o)).take 16])) := CX_Q hX hl (Or.inr rfl) (fun q => absurd q (by decide)) (fun _ => ⟨r6 I3 _ hlen q3.1 (fun r a b' x y => q3.2 r x y), fun r hr => by rw [q3.2 r (by omega) (by omega)]; exact r5 r (by omega)⟩)
        have ho3 : isL I3 (cK s o + 2) (A.2.1 10 (6 * s + o)) := isL_same ho1 (q3.2 _ (by omega) (by omega)) (q3.2 _ (by omega) (by omega))
        refine rK hS hl (q := cK s o + 2) rfl (pw_cv hBo.1 (p_B_dropFirst hBo ho3 c4 c (by omega)) (fun _ I4 q4 => ?_))
        have q41 := q4.1
        rw [ed] at q41
        have hX4 := CX_L hX3 hl (f := 10) (Or.inl rfl) (fun _ => ⟨q41, by rw [List.length_drop]; omega, fun r a b' => q4.2 r a b'⟩) (fun q => absurd q (by decide))
        exact c_sc110 hS hl hX4 r2 (isL_same q3.1 (q4.2 _ (by omega) (by omega)) (q4.2 _ (by omega) (by omega))) hlen (by omega)
      · rw [if_neg e4]
        refine pw_cv hWs.1 (p_W_full hWs c7 e4) (fun a I1 g => ?_)
        obtain ⟨rfl, hI1⟩ := g
        rw [hI1]
        exact pw_nn (pw_ret hX)
  · obtain ⟨rest, hq⟩ : ∃ rest, A.2.2 2 (6 * s + o) = p :: rest := by
      cases hq : A.2.2 2 (6 * s + o) with
      | nil => rw [hq] at g2; cases g2
      | cons x y =>
        rw [hq] at g2
        have : x = p := Option.some.inj g2
        rw [this]
        exact ⟨y, rfl⟩
    rw [hq]
    dsimp only
    unfold q_C_sayContent_27 q_C_sayContent_34
    refine pw_ns (rK hS hl (q := cK s o + 20) rfl ?_)
    by_cases e4 : (A.2.2 3 (6 * s + o)).length < 4
    · rw [if_pos e4]
      refine pw_cv hWs.1 (p_W_addRow hWs c7 e4) (fun a I1 g => ?_)
      obtain ⟨b, rfl, r1, r2, r3, r4, r5, r6⟩ := g
      have hp1 : isL I1 b2 p := isL_same g4 (r5 _ (by omega)) (r5 _ (by omega))
      have bl0 : bld I1 b I1 [] := ⟨r1, fun _ _ _ => rfl⟩
      refine pw_ns (pw_ns (pw_cv r2.1 (b_add r2 bl0 (by decide) 207) (fun _ I2 q2 => ?_)))
      have hp2 : isL I2 b2 p := isL_same hp1 (q2.2 _ (by omega) (by omega)) (q2.2 _ (by omega) (by omega))
      refine gB g5 hp2 (pw_cv r2.1 (b_addFrom r2 q2 g5 hp1 g3 (by omega) 0 p.length (by omega) (by simp; omega)) (fun _ I3 q3 => ?_))
      have q3 : bld I1 b I3 (207 :: p) := by
        have := q3
        rw [List.drop_zero, List.take_length] at this
        exact this
      have hlen : (207 :: p).length ≤ 17 := by
        rw [List.length_cons]
        omega
      have hX3 : CX I0 I3 (aQ A 3 (6 * s + o) (A.2.2 3 (6 * s + o) ++ [207 :: p])) := CX_Q hX hl (Or.inr rfl) (fun q => absurd q (by decide)) (fun _ => ⟨r6 I3 _ hlen q3.1 (fun r a b' x y => q3.2 r x y), fun r hr => by rw [q3.2 r (by omega) (by omega)]; exact r5 r (by omega)⟩)
      have hR3 : isR I3 (cK s o + 6) 6 16 (A.2.2 2 (6 * s + o)) := isR_same c6 (fun r a b' => by rw [q3.2 r (by omega) (by omega)]; exact r5 r (by omega))
      refine rK hS hl (q := cK s o + 6) rfl (pw_cv hWp.1 (p_W_dropFirst hWp hR3 1 (by rw [hq]; simp)) (fun _ I4 q4 => ?_))
      have q41 := q4.1
      rw [hq, List.drop_one, List.tail_cons] at q41
      have hX4 := CX_Q hX3 hl (f := 2) (Or.inl rfl) (fun _ => ⟨q41, fun r hr => q4.2 r (by omega)⟩) (fun q => absurd q (by decide))
      exact c_sc110 hS hl hX4 r2 (isL_same q3.1 (q4.2 _ (by omega)) (q4.2 _ (by omega))) hlen (by omega)
    · rw [if_neg e4]
      refine pw_cv hWs.1 (p_W_full hWs c7 e4) (fun a I1 g => ?_)
      obtain ⟨rfl, hI1⟩ := g
      rw [hI1]
      exact pw_nn (pw_ret hX)
theorem c_sayNext (hS : Shp S) (hl : isLk s o) (hX : CX I0 I A) : pw S (q_C_sayNext (some (cK s o)) (I, S)) (CU I0 (aMs2 (aMs1 A s o) s o)) := by
  have h33 : ∀ (J : mIm) (B : aT), CX I0 J B → pw S (q_C_sayNext_33 (some (cK s o)) (J, S)) (CU I0 (aMs2 B s o)) := by
    intro J B g
    unfold q_C_sayNext_33 aMs2
    refine gK hS hl g (f := 31) rfl ?_
    by_cases e : B.1 31 (6 * s + o) = 0
    · refine pw_t e ?_
      rw [if_pos e]
      exact pw_ret g
    · refine pw_f e ?_
      rw [if_neg e]
      exact c_ck4 hS hl g
  unfold q_C_sayNext aMs1
  refine gK hS hl hX (f := 29) rfl ?_
  by_cases e1 : A.1 29 (6 * s + o) = 0
  · refine pw_t e1 (gK hS hl hX (f := 31) rfl ?_)
    rw [if_pos e1]
    by_cases e2 : A.1 31 (6 * s + o) = 0
    · have hq := (hX.1.2.1 s hl.1).2.2.2.2.2.1
      have hq12 := (isR_len hq).1
      refine pw_t e2 (rK hS hl (q := cN s) rfl (rN hS hl.1 (q := cN s + 10) rfl (gW (isW_q hS hl.1) hq ?_)))
      rw [if_pos e2]
      by_cases e3 : (A.2.2 0 s).length < 8
      · rw [if_pos e3]
        exact pw_t (nI_lt (b := 8) e3 (by decide)) (pw_cl (c_sayContent hS hl hX) (fun _ J g => h33 J _ g))
      · rw [if_neg e3]
        exact pw_f (nI_nlt (b := 8) (by omega) (by omega)) (h33 I A hX)
    · refine pw_f e2 ?_
      rw [if_neg e2]
      exact h33 I A hX
  · refine pw_f e1 ?_
    rw [if_neg e1]
    exact h33 I A hX
theorem c_hasWork (hS : Shp S) (hl : isLk s o) (hX : CX I0 I A) : pw S (q_K_hasWork (some (cK s o)) (I, S)) (fun v J => J = I ∧ (v = 0 ∨ v = 1) ∧ (v = 1 ↔ wrk A (6 * s + o))) := by
  obtain ⟨c0, c1, c2, ⟨c3, c4⟩, c5, c6, c7⟩ := hX.1.2.2 s hl.1 o hl.2.1 hl.2.2
  have c8 := isR_len c6
  have c9 := isR_len c7
  have c01 : ¬ (0 : Int32) = 1 := by decide
  unfold q_K_hasWork q_K_hasWork_30 wrk
  refine rK hS hl (q := cK s o + 2) rfl (gB (isB_o hS hl) c3 ?_)
  by_cases e1 : 0 < (A.2.1 10 (6 * s + o)).length
  · exact pw_t (n_gt0 e1 (by omega)) (pw_rz (Or.inr rfl) ⟨rfl, Or.inr rfl, fun _ => Or.inl e1, fun _ => rfl⟩)
  · refine pw_f (by rw [show (A.2.1 10 (6 * s + o)).length = 0 by omega]; decide) (rK hS hl (q := cK s o + 6) rfl (gW (isW_p hS hl) c6 ?_))
    by_cases e2 : 0 < (A.2.2 2 (6 * s + o)).length
    · exact pw_t (n_gt0 e2 (by omega)) (pw_rz (Or.inr rfl) ⟨rfl, Or.inr rfl, fun _ => Or.inr (Or.inl e2), fun _ => rfl⟩)
    · refine pw_f (by rw [show (A.2.2 2 (6 * s + o)).length = 0 by omega]; decide) (rK hS hl (q := cK s o + 20) rfl (gW (isW_s hS hl) c7 ?_))
      by_cases e3 : 0 < (A.2.2 3 (6 * s + o)).length
      · exact pw_t (n_gt0 e3 (by omega)) (pw_rz (Or.inr rfl) ⟨rfl, Or.inr rfl, fun _ => Or.inr (Or.inr e3), fun _ => rfl⟩)
      · refine pw_f (by rw [show (A.2.2 3 (6 * s + o)).length = 0 by omega]; decide) (pw_rz (Or.inl rfl) ⟨rfl, Or.inl rfl, fun q => absurd q c01, fun q => ?_⟩)
        rcases q with q | q | q
        · exact absurd q e1
        · exact absurd q e2
        · exact absurd q e3
end MC
