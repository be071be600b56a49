/-! TAKEN: numbers, and the whole of it; the class -/
/-- SENT are as many as VS is ahead of VA -/
def aSn (A : aT) : Prop := ∀ l, l < 36 → (A.1 24 l - A.1 25 l) &&& 7 = nI (A.2.2 3 l).length
theorem and_7 (x : Int32) : ∃ k : Nat, k < 8 ∧ x &&& 7 = nI k := ⟨x.toBitVec.toNat % 8, Nat.mod_lt _ (by decide), pk_and x (m := 7) 3 (by decide)⟩
def aAc2 (A : aT) (s o : Nat) : aT := aI (aI A 28 (6 * s + o) 0) 27 (6 * s + o) (if (A.2.2 3 (6 * s + o)).length = 0 then (if A.1 29 (6 * s + o) = 0 then 0 else A.1 1 (9 * s + 4)) else A.1 1 (9 * s + 4))
def aAck (A : aT) (s o : Nat) (r : Int32) : Int32 × aT := if ((A.1 24 (6 * s + o) - A.1 25 (6 * s + o)) &&& 7) < ((r - A.1 25 (6 * s + o)) &&& 7) then (0, aDn (aSay A s o 15 0) (6 * s + o)) else if 0 < ((r - A.1 25 (6 * s + o)) &&& 7) then (1, aAc2 (aI (aQ A 3 (6 * s + o) ((A.2.2 3 (6 * s + o)).drop ((r - A.1 25 (6 * s + o)) &&& 7).toNatClampNeg)) 25 (6 * s + o) r) s o) else (1, aI (aQ A 3 (6 * s + o) ((A.2.2 3 (6 * s + o)).drop ((r - A.1 25 (6 * s + o)) &&& 7).toNatClampNeg)) 25 (6 * s + o) r)
def aS79 (A : aT) (s o : Nat) (k : Int32) : aT := if k = 9 then (if A.1 29 (6 * s + o) = 0 then aAga A s o else A) else A
def aS102 (A : aT) (s o : Nat) (c p : Int32) : aT := if c = 0 then A else if p = 0 then A else aNum A s o (rdy A (6 * s + o)) 16 0
def aS33 (A : aT) (s o : Nat) (c p k : Int32) : aT := if c = 0 then (if p = 0 then aS79 A s o k else if A.1 29 (6 * s + o) = 0 then aS79 A s o k else aAga (aI (aI (aI A 29 (6 * s + o) 0) 28 (6 * s + o) 0) 27 (6 * s + o) 0) s o) else aS79 A s o k
def aSup (A : aT) (s o : Nat) (c p k : Int32) : aT := aS102 (aS33 (aI A 31 (6 * s + o) (if k = 5 then 1 else 0)) s o c p k) s o c p
def aTi2 (A : aT) (s o : Nat) (ct : Int32) (p : List Int32) : aT := if ct = 207 then aPkt A s p else aL A 11 (6 * s + o) (A.2.1 11 (6 * s + o) ++ p)
def aRd (A : aT) (s o : Nat) (p : Int32) : aT := aNum A s o (rdy A (6 * s + o)) p 0
def aTin (A : aT) (s o : Nat) (D : pD) (l : List Int32) : aT := if D.2.2 7 = A.1 26 (6 * s + o) then (if bsy A (6 * s + o) = 0 then aRd (aTi2 (aI (aI A 26 (6 * s + o) ((A.1 26 (6 * s + o) + 1) &&& 7)) 30 (6 * s + o) 0) s o (D.2.2 8) (l.drop D.2.1)) s o (D.2.2 5) else aRd A s o (D.2.2 5)) else (if A.1 30 (6 * s + o) = 0 then aI (aSay A s o ((9 + D.2.2 5) + 32 * A.1 26 (6 * s + o)) 0) 30 (6 * s + o) 1 else A)
def aUp (A : aT) (s : Nat) (D : pD) (l : List Int32) : aT := if D.2.2 4 = 0 then (if (aAck A s D.1 (D.2.2 6)).1 = 0 then (aAck A s D.1 (D.2.2 6)).2 else aTin (aAck A s D.1 (D.2.2 6)).2 s D.1 D l) else if D.2.2 4 = 15 then aDn A (6 * s + D.1) else if D.2.2 4 = 67 then aDn (aSay A s D.1 (99 + D.2.2 5) 0) (6 * s + D.1) else if D.2.2 4 = 99 then A else (if (aAck A s D.1 (D.2.2 6)).1 = 0 then (aAck A s D.1 (D.2.2 6)).2 else aSup (aAck A s D.1 (D.2.2 6)).2 s D.1 (D.2.2 3) (D.2.2 5) (D.2.2 4))
def aDm (A : aT) (s : Nat) (D : pD) : aT := if D.2.2 3 = 0 then A else aAns A s D 15
def aTo (A : aT) (s : Nat) (D : pD) (l : List Int32) : aT := if D.2.2 4 = 47 then aSab A s D else if D.2.2 2 = A.1 23 (6 * s + D.1) then (if A.1 20 (6 * s + D.1) = 0 then aDm A s D else if A.1 20 (6 * s + D.1) = 2 then aUp A s D l else aWai A s D) else aDm A s D
section TB
variable {S : mS} {I I0 : mIm} {A : aT} {s o : Nat} {D : pD}
theorem c_acknowledge (hS : Shp S) (hl : isLk s D.1) (hX : CX I0 I A) (hD : cCx I0 D) (hN : aSn A) : pw S (q_C_acknowledge (some 16) (some (cK s D.1)) (I, S)) (CV I0 (aAck A s D.1 (D.2.2 6))) := by
  obtain ⟨f1, f2, f3, f4, f5⟩ := cF_k hS
  obtain ⟨d1, d2, d3, d4, d5, d6, d7, d8, d9, d10, d11, d12⟩ := id hD
  have h1 := hl.1
  have h2 := hl.2.1
  have hsn := hN (6 * s + D.1) (by omega)
  have hR := (hX.1.2.2 s hl.1 D.1 hl.2.1 hl.2.2).2.2.2.2.2.2
  have h4 := (isR_len hR).1
  unfold q_C_acknowledge aAck
  refine pw_gR f1 f2 (pw_gI f3 ?_)
  rw [cx80 hX, d5]
  refine gK hS hl hX (f := 25) rfl (pw_lt (gK hS hl hX (f := 24) rfl (gK hS hl hX (f := 25) rfl ?_)))
  by_cases e1 : ((A.1 24 (6 * s + D.1) - A.1 25 (6 * s + D.1)) &&& 7) < ((D.2.2 6 - A.1 25 (6 * s + D.1)) &&& 7)
  · rw [if_pos e1, if_pos e1]
    refine rK hS hl (q := cN s) rfl (rK hS hl (q := cK s D.1 + 1) rfl (pw_cl (c_say hS hl hX 15 0) (fun _ J1 g1 => ?_)))
    exact pw_cv (cK_k hS hl) (c_goDown hS hl g1) (fun _ J2 g2 => pw_rz (Or.inl rfl) ⟨rfl, g2⟩)
  · rw [if_neg e1, if_neg e1]
    obtain ⟨m, hm, em⟩ := and_7 (D.2.2 6 - A.1 25 (6 * s + D.1))
    rw [em] at e1 ⊢
    rw [hsn] at e1
    have hml : m ≤ (A.2.2 3 (6 * s + D.1)).length := by
      rcases Nat.lt_or_ge (A.2.2 3 (6 * s + D.1)).length m with q | q
      · exact absurd (nI_lt q (by omega)) e1
      · exact q
    rw [nI_clamp (by omega)]
    refine rK hS hl (q := cK s D.1 + 20) rfl (pw_cv (isW_s hS hl).1 (p_W_dropFirst (isW_s hS hl) hR m hml) (fun _ J1 g1 => ?_))
    have hX1 : CX I0 J1 (aQ A 3 (6 * s + D.1) ((A.2.2 3 (6 * s + D.1)).drop m)) := CX_Q hX hl (Or.inr rfl) (fun e => by omega) (fun _ => ⟨g1.1, fun r hr => g1.2 r (by omega)⟩)
    refine pw_gR f1 f2 (pw_gI f3 ?_)
    rw [cx80 hX1, d5]
    refine sK hS hl hX1 (f := 25) rfl (by decide) (fun J2 g2 => ?_)
    refine pw_ite (P := CV I0) (fun e2 => ?_) (fun e2 => pw_rz (Or.inr rfl) ⟨rfl, g2⟩)
    refine sK hS hl g2 (f := 28) rfl (by decide) (fun J3 g3 => ?_)
    have hR3 := (g3.1.2.2 s hl.1 D.1 hl.2.1 hl.2.2).2.2.2.2.2.2
    have h43 := (isR_len hR3).1
    refine rK hS hl (q := cK s D.1 + 20) rfl (gW (isW_s hS hl) hR3 ?_)
    rw [aI_2, aI_2] at h43
    rw [aI_2, aI_2]
    unfold aAc2
    rw [aI_2]
    have fin : pw S (q_C_acknowledge_103 (some (cK s D.1)) (some (cK s D.1)) (J3, S)) (CV I0 (1, aI (aI (aI (aQ A 3 (6 * s + D.1) ((A.2.2 3 (6 * s + D.1)).drop m)) 25 (6 * s + D.1) (D.2.2 6)) 28 (6 * s + D.1) 0) 27 (6 * s + D.1) ((aI (aQ A 3 (6 * s + D.1) ((A.2.2 3 (6 * s + D.1)).drop m)) 25 (6 * s + D.1) (D.2.2 6)).1 1 (9 * s + 4)))) := by
      unfold q_C_acknowledge_103
      refine rK hS hl (q := cN s) rfl (rN hS hl.1 (q := cN s + 1) rfl (gT hS hl.1 g3 4 rfl (by decide) (sK hS hl g3 (f := 27) rfl (by decide) (fun J4 g4 => pw_rz (Or.inr rfl) ⟨rfl, ?_⟩))))
      rw [aI_f _ _ _ _ (by decide)] at g4
      exact g4
    by_cases e3 : ((aQ A 3 (6 * s + D.1) ((A.2.2 3 (6 * s + D.1)).drop m)).2.2 3 (6 * s + D.1)).length = 0
    · rw [if_pos e3, e3]
      refine pw_t rfl (gK hS hl g3 (f := 29) rfl ?_)
      rw [aI_f (f := 28) (g := 29) _ _ _ _ (by decide)]
      by_cases e4 : (aI (aQ A 3 (6 * s + D.1) ((A.2.2 3 (6 * s + D.1)).drop m)) 25 (6 * s + D.1) (D.2.2 6)).1 29 (6 * s + D.1) = 0
      · rw [if_pos e4, if_pos e4]
        exact sK hS hl g3 (f := 27) rfl (by decide) (fun J4 g4 => pw_rz (Or.inr rfl) ⟨rfl, g4⟩)
      · rw [if_neg e4, if_neg e4]
        exact fin
    · rw [if_neg e3]
      exact pw_f (nI_ne0 (by omega) (by omega)) fin
theorem c_s102 (hS : Shp S) (hl : isLk s D.1) (hX : CX I0 I A) (hD : cCx I0 D) (i2 : Int32) (hi : i2 = 0 ↔ D.2.2 5 = 0) : pw S (q_C_takeSupervision_102 (some 16) (some (cK s D.1)) i2 (I, S)) (CU I0 (aS102 A s D.1 (D.2.2 3) (D.2.2 5))) := by
  obtain ⟨f1, f2, f3, f4, f5⟩ := cF_k hS
  unfold q_C_takeSupervision_102 aS102
  refine pw_gR f1 f2 (pw_gI f3 ?_)
  rw [cx80 hX, hD.2.1]
  refine pw_ite (P := CU I0) (fun _ => pw_ret hX) (fun e1 => ?_)
  by_cases e2 : D.2.2 5 = 0
  · rw [if_pos e2]; exact pw_t (hi.mpr e2) (pw_ret hX)
  · rw [if_neg e2]
    exact pw_f (fun q => e2 (hi.mp q)) (pw_cl (c_sayReady hS hl hX 16 0) (fun _ J g => pw_ret g))
theorem c_s79 (hS : Shp S) (hl : isLk s D.1) (hX : CX I0 I A) (hD : cCx I0 D) (i2 : Int32) (hi : i2 = 0 ↔ D.2.2 5 = 0) : pw S (q_C_takeSupervision_79 (some 16) (some (cK s D.1)) i2 (I, S)) (CU I0 (aS102 (aS79 A s D.1 (D.2.2 4)) s D.1 (D.2.2 3) (D.2.2 5))) := by
  obtain ⟨f1, f2, f3, f4, f5⟩ := cF_k hS
  unfold q_C_takeSupervision_79 aS79
  refine pw_gR f1 f2 (pw_gI f3 ?_)
  rw [cx80 hX, hD.2.2.1]
  by_cases e1 : D.2.2 4 = 9
  · rw [if_pos e1, if_pos e1]
    refine gK hS hl hX (f := 29) rfl ?_
    by_cases e2 : A.1 29 (6 * s + D.1) = 0
    · rw [if_pos e2, if_pos e2]
      exact pw_cl (c_sayAgain hS hl hX) (fun _ J g => c_s102 hS hl g hD i2 hi)
    · rw [if_neg e2, if_neg e2]
      exact c_s102 hS hl hX hD i2 hi
  · rw [if_neg e1, if_neg e1]
    exact c_s102 hS hl hX hD i2 hi
theorem c_takeSupervision (hS : Shp S) (hl : isLk s D.1) (hX : CX I0 I A) (hD : cCx I0 D) : pw S (q_C_takeSupervision (some 16) (some (cK s D.1)) (I, S)) (CU I0 (aSup A s D.1 (D.2.2 3) (D.2.2 5) (D.2.2 4))) := by
  obtain ⟨f1, f2, f3, f4, f5⟩ := cF_k hS
  unfold q_C_takeSupervision aSup
  refine pw_gR f1 f2 (pw_gI f3 ?_)
  rw [cx80 hX, hD.2.2.2.1]
  have m33 : ∀ (i2 j0 : Int32), (i2 = 0 ↔ D.2.2 5 = 0) → (j0 = 0 ∨ j0 = 1) → pw S (q_C_takeSupervision_33 (some 16) (some (cK s D.1)) i2 j0 (some (cK s D.1)) (I, S)) (CU I0 (aS102 (aS33 (aI A 31 (6 * s + D.1) j0) s D.1 (D.2.2 3) (D.2.2 5) (D.2.2 4)) s D.1 (D.2.2 3) (D.2.2 5))) := by
    intro i2 j0 hi hj
    unfold q_C_takeSupervision_33 aS33
    refine sKz hS hl hX (f := 31) rfl (by decide) hj (fun J1 g1 => pw_gR f1 f2 (pw_gI f3 ?_))
    rw [cx80 g1, hD.2.1]
    by_cases e1 : D.2.2 3 = 0
    · rw [if_pos e1, if_pos e1]
      by_cases e2 : D.2.2 5 = 0
      · rw [if_pos e2]
        exact pw_t (hi.mpr e2) (c_s79 hS hl g1 hD i2 hi)
      · rw [if_neg e2]
        refine pw_f (fun q => e2 (hi.mp q)) (gK hS hl g1 (f := 29) rfl ?_)
        by_cases e3 : (aI A 31 (6 * s + D.1) j0).1 29 (6 * s + D.1) = 0
        · rw [if_pos e3, if_pos e3]
          exact c_s79 hS hl g1 hD i2 hi
        · rw [if_neg e3, if_neg e3]
          exact sKz hS hl g1 (f := 29) rfl (by decide) (Or.inl rfl) (fun J2 g2 => sK hS hl g2 (f := 28) rfl (by decide) (fun J3 g3 => sK hS hl g3 (f := 27) rfl (by decide) (fun J4 g4 => pw_cl (c_sayAgain hS hl g4) (fun _ J5 g5 => c_s102 hS hl g5 hD i2 hi))))
    · rw [if_neg e1, if_neg e1]
      exact c_s79 hS hl g1 hD i2 hi
  have m15 : ∀ (i2 : Int32), (i2 = 0 ↔ D.2.2 5 = 0) → pw S (q_C_takeSupervision_15 (some 16) (some (cK s D.1)) i2 (I, S)) (CU I0 (aS102 (aS33 (aI A 31 (6 * s + D.1) (if D.2.2 4 = 5 then 1 else 0)) s D.1 (D.2.2 3) (D.2.2 5) (D.2.2 4)) s D.1 (D.2.2 3) (D.2.2 5))) := by
    intro i2 hi
    unfold q_C_takeSupervision_15
    refine pw_gR f1 f2 (pw_gI f3 ?_)
    rw [cx80 hX, hD.2.2.1]
    by_cases e1 : D.2.2 4 = 5
    · rw [if_pos e1, if_pos e1]; exact m33 i2 1 hi (Or.inr rfl)
    · rw [if_neg e1, if_neg e1]; exact m33 i2 0 hi (Or.inl rfl)
  by_cases e : D.2.2 5 = 0
  · rw [if_pos e]; exact m15 0 ⟨fun _ => e, fun _ => rfl⟩
  · rw [if_neg e]; exact m15 1 ⟨fun q => absurd q (by decide), fun q => absurd q e⟩
theorem isV_s (hS : Shp S) (hs : s < 6) : isV S (cN s + 5) := (hS.2.1 s hs).2.2.2.2.2.2.2.2.2.2.2.2.1
theorem c_takeInformation (hS : Shp S) (hl : isLk s D.1) (hX : CX I0 I A) (hD : cCx I0 D) (h16 : (A.2.1 3 s).length ≤ D.2.1 + 16) (hst : D.2.1 ≤ (A.2.1 3 s).length) : pw S (q_C_takeInformation (some 16) (some (cK s D.1)) (I, S)) (CU I0 (aTin A s D.1 D (A.2.1 3 s))) := by
  obtain ⟨f1, f2, f3, f4, f5⟩ := cF_k hS
  obtain ⟨d1, d2, d3, d4, d5, d6, d7, d8, d9, d10, d11, d12⟩ := id hD
  have hk := cK_lt hl.1 hl.2.1 hl.2.2
  have hv := isV_s hS hl.1
  unfold q_C_takeInformation aTin
  refine pw_gR f1 f2 (pw_gI f3 ?_)
  rw [cx80 hX, d6]
  refine gK hS hl hX (f := 26) rfl ?_
  have fin : ∀ (J : mIm) (B : aT), CX I0 J B → pw S (q_C_takeInformation_152 (some 16) (some (cK s D.1)) (J, S)) (CU I0 (aRd B s D.1 (D.2.2 5))) := by
    intro J B hJ
    unfold q_C_takeInformation_152 aRd
    refine pw_gR f1 f2 (pw_gI f3 ?_)
    rw [cx80 hJ, d4]
    exact pw_cl (c_sayReady hS hl hJ _ 0) (fun _ J g => pw_ret g)
  refine pw_ite (P := CU I0) (fun e1 => ?_) (fun e1 => ?_)
  · refine pw_cv (cK_k hS hl) (c_isBusy hS hl hX) (fun v J h => ?_)
    obtain ⟨rfl, rfl⟩ := h
    refine pw_ite (P := CU I0) (fun e2 => ?_) (fun e2 => fin _ A hX)
    refine rK hS hl (q := cN s) rfl (rN hS hl.1 (q := cN s + 5) rfl (pw_gR hv.1 hv.2.2.2.1 (gK hS hl hX (f := 26) rfl (sK hS hl hX (f := 26) rfl (by decide) (fun J1 g1 => sKz hS hl g1 (f := 30) rfl (by decide) (Or.inl rfl) (fun J2 g2 => pw_gR f1 f2 (pw_gI f3 ?_)))))))
    rw [cx80 g2, d7]
    unfold aTi2
    have h3 : (aI (aI A 26 (6 * s + D.1) ((A.1 26 (6 * s + D.1) + 1) &&& 7)) 30 (6 * s + D.1) 0).2.1 = A.2.1 := rfl
    by_cases e3 : D.2.2 8 = 207
    · rw [if_pos e3, if_pos e3]
      refine rK hS hl (q := cN s) rfl (pw_gR f1 f2 (pw_gI f3 ?_))
      rw [cx80 g2, d8]
      have hLc : (A.2.1 3 s).length ≤ 90 := (g2.1.2.1 s hl.1).2.2.2.2.1.2.2.2.2.1
      refine pw_cl (c_receivePacket (l := A.2.1 3 s) hS hl.1 g2 (isB_f hS hl.1) hLc (fun J B hJ hB => ?_) (Or.inr rfl) hst) (fun _ J3 g3 => fin J3 _ g3)
      have := (hJ.1.2.1 s hl.1).2.2.2.2.1.2.2.2.1
      rw [hB] at this
      exact this
    · rw [if_neg e3, if_neg e3]
      obtain ⟨-, -, -, hL, hLc, -⟩ := (g2.1.2.1 s hl.1).2.2.2.2.1
      rw [h3] at hL hLc
      obtain ⟨-, -, -, -, ⟨i1, i2⟩, -⟩ := g2.1.2.2 s hl.1 D.1 hl.2.1 hl.2.2
      have e2' := bsy_0.mp e2
      rw [h3] at i1 i2 ⊢
      refine rK hS hl (q := cK s D.1 + 4) rfl (pw_gR f1 f2 (pw_gI f3 (gB (isB_f hS hl.1) hL (pw_gR f1 f2 (pw_gI f3 ?_)))))
      rw [cx80 g2, d8, show nI (A.2.1 3 s).length - nI D.2.1 = nI ((A.2.1 3 s).length - D.2.1) from pk_sub hst]
      refine pw_cv (isB_i hS hl).1 (p_B_addFrom (isB_i hS hl) i1 (isB_f hS hl.1) hL hLc (by omega) D.2.1 _ (by omega) (by omega)) (fun _ J3 g3 => ?_)
      rw [List.take_of_length_le (by rw [List.length_drop]; omega)] at g3
      refine fin J3 _ (CX_L g2 hl (Or.inr rfl) (fun e => by omega) (fun _ => ⟨g3.1, ?_, g3.2⟩))
      rw [List.length_append, List.length_drop]
      omega
  · refine gK hS hl hX (f := 30) rfl (pw_ite (P := CU I0) (fun e2 => ?_) (fun e2 => pw_ret hX))
    refine rK hS hl (q := cN s) rfl (rK hS hl (q := cK s D.1 + 1) rfl (pw_gR f1 f2 (pw_gI f3 ?_)))
    rw [cx80 hX, d4]
    exact gK hS hl hX (f := 26) rfl (pw_cl (c_say hS hl hX _ 0) (fun _ J1 g1 => sKz hS hl g1 (f := 30) rfl (by decide) (Or.inr rfl) (fun J2 g2 => pw_ret g2)))
theorem aSay_21 {c i : Int32} : (aSay A s o c i).2.1 = A.2.1 := aEnq_21
theorem aDn_21 {l g : Nat} (h : g ≠ 10) : (aDn A l).2.1 g = A.2.1 g := by
  unfold aDn
  rw [aQ_2]
  exact aRst_21 h
theorem aAck_3 {r : Int32} : (aAck A s o r).2.2.1 3 = A.2.1 3 := by
  unfold aAck
  split
  · rw [aDn_21 (by decide), aSay_21]
  · split <;> rfl
theorem c_takeWhileUp (hS : Shp S) (hl : isLk s D.1) (hX : CX I0 I A) (hD : cCx I0 D) (hN : aSn A) (hst : D.2.2 4 = 0 → D.2.1 ≤ (A.2.1 3 s).length ∧ (A.2.1 3 s).length ≤ D.2.1 + 16) : pw S (q_C_takeWhileUp (some 16) (some (cK s D.1)) (I, S)) (CU I0 (aUp A s D (A.2.1 3 s))) := by
  obtain ⟨f1, f2, f3, f4, f5⟩ := cF_k hS
  obtain ⟨d1, d2, d3, d4, d5, d6, d7, d8, d9, d10, d11, d12⟩ := id hD
  unfold q_C_takeWhileUp aUp
  refine pw_gR f1 f2 (pw_gI f3 ?_)
  rw [cx80 hX, d3]
  have ak := c_acknowledge hS hl hX hD hN
  have a3 := aAck_3 (A := A) (s := s) (o := D.1) (r := D.2.2 6)
  refine pw_sc (fun e => ?_) (fun e0 => pw_sc (fun e => ?_) (fun e1 => pw_sc (fun e => ?_) (fun e2 => pw_sc (fun e => ?_) (fun e3 => pw_sn ?_))))
  · rw [if_pos e]
    refine pw_cv f1 ak (fun v J g => ?_)
    obtain ⟨rfl, g⟩ := g
    refine pw_ite (P := CU I0) (fun _ => pw_ret g) (fun _ => ?_)
    have hh := hst e
    have a4 : (aAck A s D.1 (D.2.2 6)).2.2.1 3 s = A.2.1 3 s := by rw [a3]
    have := c_takeInformation hS hl g hD (by rw [a4]; exact hh.2) (by rw [a4]; exact hh.1)
    rw [a4] at this
    exact pw_cv f1 this (fun _ J2 g2 => pw_ret g2)
  · rw [if_neg e0, if_pos e]
    exact pw_cv (cK_k hS hl) (c_goDown hS hl hX) (fun _ J g => pw_ret g)
  · rw [if_neg e0, if_neg e1, if_pos e]
    refine rK hS hl (q := cN s) rfl (rK hS hl (q := cK s D.1 + 1) rfl (pw_gR f1 f2 (pw_gI f3 ?_)))
    rw [cx80 hX, d4]
    exact pw_cl (c_say hS hl hX _ 0) (fun _ J1 g1 => pw_cv (cK_k hS hl) (c_goDown hS hl g1) (fun _ J2 g2 => pw_ret g2))
  · rw [if_neg e0, if_neg e1, if_neg e2, if_pos e]
    exact pw_ret hX
  · rw [if_neg e0, if_neg e1, if_neg e2, if_neg e3]
    refine pw_cv f1 ak (fun v J g => ?_)
    obtain ⟨rfl, g⟩ := g
    refine pw_ite (P := CU I0) (fun _ => pw_ret g) (fun _ => ?_)
    exact pw_cv f1 (c_takeSupervision hS hl g hD) (fun _ J2 g2 => pw_ret g2)
end TB
