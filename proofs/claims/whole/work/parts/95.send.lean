/-! sending: what is asked, and the class -/
def aSx (A : aT) (s : Nat) (v sd hd : Int32) (L F : List Int32) (ll : List (List Int32)) (c : Int32) : aT := aI (aI (aI (aI (aQ (aL (aL A 4 s L) 5 s F) 0 s ll) 5 s v) 6 s sd) 7 s hd) 8 (5 * s) c
def aStt (B : aT) (s : Nat) : aT := aSx B s (B.1 5 s) 1 0 (flg (8 * (B.1 1 (9 * s + 2)).toNatClampNeg)) (B.2.1 5 s) (B.2.2 0 s) (B.1 8 (5 * s))
def aSto (A : aT) (s : Nat) : aT := aSx A s (A.1 5 s) 0 (A.1 7 s) (A.2.1 4 s) (A.2.1 5 s) (A.2.2 0 s) (A.1 8 (5 * s))
def aDr2 (B : aT) (s : Nat) : aT := if mush (B.1 1 (9 * s + 3)) 24 < B.1 1 (9 * s + 0) then aStt B s else aI B 3 s (B.1 1 (9 * s + 1))
def aDr1 (A : aT) (s : Nat) : aT := if 0 < A.1 3 s then aI A 3 s (A.1 3 s - 1) else aDr2 (aI A 1 (9 * s + 3) (A.1 1 (9 * s + 3) * 1103515245 + 12345)) s
def aDrw (A : aT) (s : Nat) : aT := if (A.2.2 0 s).length = 0 then A else if A.1 6 s = 0 then (if A.1 4 s = 0 then aDr1 A s else A) else A
def aGo (A : aT) (s : Nat) (hd : Int32) (L F : List Int32) (ll : List (List Int32)) (c : Int32) : aT := aSx A s (lvl (A.1 5 s) (L.headD 0)) 1 hd L.tail F ll c
def aSn1 (A : aT) (s : Nat) : aT := if A.1 7 s < 4 then (match A.2.2 0 s with
  | [] => aSto A s
  | fr :: rest => aGo A s (A.1 7 s + 1) (lnL (frm fr) 0 0 8) fr rest (A.1 8 (5 * s) + 1)) else aSto A s
def aSnd (A : aT) (s : Nat) : aT := if A.1 6 s = 0 then A else if A.2.1 4 s = [] then aSn1 A s else aGo A s (A.1 7 s) (A.2.1 4 s) (A.2.1 5 s) (A.2.2 0 s) (A.1 8 (5 * s))
/-- the last bit of the FLAG behind a FRAME -/
def thr (A : aT) (s : Nat) : Prop := A.1 6 s = 1 ∧ 0 < A.1 7 s ∧ A.2.1 4 s = []
section SX
variable {A : aT} {s : Nat} {v sd hd : Int32} {L F : List Int32} {ll : List (List Int32)} {c : Int32}
theorem aSx_1 {f i : Nat} (h : f ≠ 5 ∧ f ≠ 6 ∧ f ≠ 7 ∧ f ≠ 8) : (aSx A s v sd hd L F ll c).1 f i = A.1 f i := by
  unfold aSx
  rw [aI_o _ _ (by omega), aI_o _ _ (by omega), aI_o _ _ (by omega), aI_o _ _ (by omega)]
  rfl
theorem aSx_1i {f i : Nat} (h : i ≠ s) (h8 : f ≠ 8 ∨ i ≠ 5 * s) : (aSx A s v sd hd L F ll c).1 f i = A.1 f i := by
  unfold aSx
  rw [aI_o _ _ (by omega), aI_o _ _ (by omega), aI_o _ _ (by omega), aI_o _ _ (by omega)]
  rfl
theorem aSx_8 {i : Nat} (h : i ≠ 5 * s) : (aSx A s v sd hd L F ll c).1 8 i = A.1 8 i := by
  unfold aSx
  rw [aI_o _ _ (by omega), aI_o _ _ (by omega), aI_o _ _ (by omega), aI_o _ _ (by omega)]
  rfl
theorem aSx_5s : (aSx A s v sd hd L F ll c).1 5 s = v := by unfold aSx; rw [aI_o _ _ (by omega), aI_o _ _ (by omega), aI_o _ _ (by omega), aI_s]
theorem aSx_6s : (aSx A s v sd hd L F ll c).1 6 s = sd := by unfold aSx; rw [aI_o _ _ (by omega), aI_o _ _ (by omega), aI_s]
theorem aSx_7s : (aSx A s v sd hd L F ll c).1 7 s = hd := by unfold aSx; rw [aI_o _ _ (by omega), aI_s]
theorem aSx_8s : (aSx A s v sd hd L F ll c).1 8 (5 * s) = c := by unfold aSx; rw [aI_s]
theorem aSx_2 {f i : Nat} (h : (f ≠ 4 ∧ f ≠ 5) ∨ i ≠ s) : (aSx A s v sd hd L F ll c).2.1 f i = A.2.1 f i := by
  show (aL (aL A 4 s L) 5 s F).2.1 f i = A.2.1 f i
  rw [aL_o _ _ (by omega), aL_o _ _ (by omega)]
theorem aSx_4s : (aSx A s v sd hd L F ll c).2.1 4 s = L := by
  show (aL (aL A 4 s L) 5 s F).2.1 4 s = L
  rw [aL_o _ _ (by omega), aL_s]
theorem aSx_F : (aSx A s v sd hd L F ll c).2.1 5 s = F := by
  show (aL (aL A 4 s L) 5 s F).2.1 5 s = F
  rw [aL_s]
theorem aSx_3 {f i : Nat} (h : f ≠ 0 ∨ i ≠ s) : (aSx A s v sd hd L F ll c).2.2 f i = A.2.2 f i := by
  show (aQ (aL (aL A 4 s L) 5 s F) 0 s ll).2.2 f i = A.2.2 f i
  rw [aQ_o _ _ h]
  rfl
theorem aSx_Q : (aSx A s v sd hd L F ll c).2.2 0 s = ll := by
  show (aQ (aL (aL A 4 s L) 5 s F) 0 s ll).2.2 0 s = ll
  rw [aQ_s]
theorem aSx_S {t : Nat} (ht : t < 6) (hs : s < 6) (h : t ≠ s) : eqS A (aSx A s v sd hd L F ll c) t := ⟨⟨fun _ _ => aSx_1 (by omega), fun _ _ => aSx_1 (by omega), aSx_1 (by omega), aSx_1 (by omega), aSx_1i h (Or.inl (by omega)), aSx_1i h (Or.inl (by omega)), aSx_1i h (Or.inl (by omega)), fun w hw => aSx_8 (by omega), aSx_1 (by omega), aSx_1 (by omega), aSx_1 (by omega), aSx_1 (by omega), fun _ _ => aSx_1 (by omega), fun _ _ => ⟨aSx_1 (by omega), aSx_1 (by omega)⟩⟩, ⟨aSx_2 (by omega), aSx_2 (by omega), aSx_2 (by omega), aSx_2 (by omega)⟩, aSx_3 (by omega), aSx_3 (by omega)⟩
theorem aSx_K {l : Nat} : eqK A (aSx A s v sd hd L F ll c) l := ⟨⟨aSx_1 (by omega), aSx_1 (by omega), aSx_1 (by omega), aSx_1 (by omega), aSx_1 (by omega), aSx_1 (by omega), aSx_1 (by omega), aSx_1 (by omega), aSx_1 (by omega), aSx_1 (by omega), aSx_1 (by omega), aSx_1 (by omega), aSx_1 (by omega), aSx_1 (by omega)⟩, ⟨aSx_2 (by omega), aSx_2 (by omega)⟩, aSx_3 (by omega), aSx_3 (by omega)⟩
/-- the class's sender and queue are others -/
theorem CInv_sx {I J : mIm} (hC : CInv I A) (hs : s < 6) (e : ∀ r, (r < cN s ∨ cN s + 36 ≤ r) → r < 1278 → r ≠ 16 → J r = I r) (e16 : J 16 7 = I 16 7) (e1 : J (cN s + 1) = I (cN s + 1)) (e5 : ∀ r, cN s + 5 ≤ r → r < cN s + 10 → J r = I r) (e0 : ∀ j, j ≠ 13 → J (cN s) j = I (cN s) j) (e13 : J (cN s) 13 = c) (hq : isR J (cN s + 10) 12 90 ll) (h : cSn J (aSx A s v sd hd L F ll c) s) : CInv J (aSx A s v sd hd L F ll c) := by
  obtain ⟨d1, d2, d3, d4, d5, d6, d7⟩ := hC.2.1 s hs
  have hcn : 18 ≤ cN s ∧ cN s + 208 ≤ 1266 := by unfold cN; omega
  refine ⟨?_, fun t ht => ?_, fun t ht o ho hne => ?_⟩
  · obtain ⟨c1, ⟨c2, c3⟩, ⟨c4, c5⟩, c6⟩ := hC.1
    refine ⟨by rw [e16, aSx_1 (by omega)]; exact c1, ?_, ?_, cRv_A (cRv_same c6 (fun r a b => e r (by omega) (by omega) (by omega))) (aSx_1 (by omega)) (aSx_1 (by omega)) (aSx_1 (by omega)) (aSx_2 (by omega)) (aSx_2 (by omega))⟩
    · rw [aSx_2 (by omega)]
      exact ⟨isL_same c2 (e _ (by omega) (by omega) (by omega)) (e _ (by omega) (by omega) (by omega)), c3⟩
    · rw [aSx_2 (by omega)]
      exact ⟨isL_same c4 (e _ (by omega) (by omega) (by omega)) (e _ (by omega) (by omega) (by omega)), c5⟩
  · by_cases hts : t = s
    · subst hts
      refine ⟨?_, cS2_A (cS2_same d2 e1) (fun _ _ => aSx_1 (by omega)), cS3_A (cS3_same d3 (fun r a b => e r (by omega) (by omega) (by omega))) (fun _ _ => ⟨aSx_1 (by omega), aSx_1 (by omega)⟩), h, cRv_A (cRv_same d5 (fun r a b => e5 r (by omega) (by omega))) (aSx_1 (by omega)) (aSx_1 (by omega)) (aSx_1 (by omega)) (aSx_2 (by omega)) (aSx_2 (by omega)), by rw [aSx_Q]; exact hq, cMl_A (cMl_same d7 (fun r a b => e r (by omega) (by omega) (by omega))) (aSx_3 (by omega))⟩
      obtain ⟨b1, ⟨k, g1, g2, g3⟩, b3, b4, b5, b6, b7⟩ := d1
      refine ⟨by rw [e0 0 (by decide)]; exact b1, ⟨k, g1, by rw [e0 8 (by decide)]; exact g2, fun o ho => by rw [aSx_1 (by omega)]; exact g3 o ho⟩, by rw [e0 9 (by decide), aSx_1 (by omega)]; exact b3, by rw [e0 10 (by decide), aSx_1 (by omega)]; exact b4, by rw [e0 11 (by decide), awk_A (A := A) (fun o ho => aSx_1 (by omega))]; exact b5, by rw [e0 12 (by decide), aSx_1 (by omega)]; exact b6, fun w hw => ?_⟩
      by_cases hw0 : w = 0
      · subst hw0
        show J (cN t) 13 = (aSx A t v sd hd L F ll c).1 8 (5 * t)
        rw [e13, aSx_8s]
      · rw [e0 (13 + w) (by omega), aSx_8 (by omega)]
        exact b7 w hw
    · refine cSt_A (cSt_same (hC.2.1 t ht) (fun r a b => e r ?_ ?_ ?_)) (aSx_S ht hs hts)
      · unfold cN at a b ⊢
        rcases Nat.lt_trichotomy t s with q | q | q <;> omega
      · unfold cN at b; omega
      · unfold cN at a; omega
  · have hk := cK_lt ht ho hne
    refine cLk_A (cLk_same (hC.2.2 t ht o ho hne) (fun r a b => e r ?_ ?_ ?_)) aSx_K
    · unfold cN at hk ⊢
      rcases Nat.lt_trichotomy t s with q | q | q
      · omega
      · subst q; omega
      · omega
    · omega
    · unfold cN at hk; omega
end SX
def aLd (A : aT) : Prop := ∀ s, s < 6 → ∃ n : Nat, 1 ≤ n ∧ n ≤ 16 ∧ A.1 1 (9 * s + 2) = nI n
section SC
variable {S : mS} {I J I0 : mIm} {A : aT} {s : Nat}
theorem isS_s (hS : Shp S) (hs : s < 6) : isS S (cN s + 2) := (hS.2.1 s hs).2.2.2.2.2.2.2.2.2.2.2.1
theorem CX_CInv (hX : CX I0 I A) {B : aT} (h : CInv J B) (e : ∀ r, 1278 ≤ r → J r = I r) (e2 : ∀ j, 8 ≤ j → J 16 j = I 16 j) : CX I0 J B := ⟨h, fun r hr => by rw [e r hr]; exact hX.2.1 r hr, fun j hj => by rw [e2 j hj]; exact hX.2.2 j hj⟩
theorem c_waitOrDraw (hS : Shp S) (hs : s < 6) (hX : CX I0 I A) (hl : aLd A) : pw S (q_C_waitOrDraw (some (cN s)) (I, S)) (CU I0 (aDr1 A s)) := by
  have hcn : 18 ≤ cN s ∧ cN s + 208 ≤ 1266 := by unfold cN; omega
  unfold q_C_waitOrDraw aDr1
  refine gN hS hs hX (f := 3) (n := s) rfl ?_
  by_cases e1 : 0 < A.1 3 s
  · rw [if_pos e1, if_pos e1]
    exact gN hS hs hX (f := 3) (n := s) rfl (sN hS hs hX (f := 3) (n := s) rfl (fun J g => pw_ret g))
  · rw [if_neg e1, if_neg e1]
    refine rN hS hs (q := cN s + 1) rfl (gT hS hs hX 3 rfl (by decide) (pw_lt (rN hS hs (q := cN s + 1) rfl (sT hS hs hX 3 rfl (by decide) (fun I1 h1 => ?_)))))
    have hl1 : ∃ n : Nat, 1 ≤ n ∧ n ≤ 16 ∧ (aI A 1 (9 * s + 3) (A.1 1 (9 * s + 3) * 1103515245 + 12345)).1 1 (9 * s + 2) = nI n := by rw [aI_k _ _ _ (by omega)]; exact hl s hs
    have hdr : A.1 1 (9 * s + 3) * 1103515245 + 12345 = (aI A 1 (9 * s + 3) (A.1 1 (9 * s + 3) * 1103515245 + 12345)).1 1 (9 * s + 3) := by rw [aI_s]
    rw [hdr]
    rw [← hdr]
    unfold aDr2
    rw [aI_s]
    generalize hd : A.1 1 (9 * s + 3) * 1103515245 + 12345 = d at h1 hl1 ⊢
    generalize aI A 1 (9 * s + 3) d = B at h1 hl1 ⊢
    obtain ⟨n, n1, n2, en⟩ := hl1
    refine rN hS hs (q := cN s + 1) rfl (gT hS hs h1 0 rfl (by decide) ?_)
    by_cases e2 : mush d 24 < B.1 1 (9 * s + 0)
    · rw [if_pos e2, if_pos e2]
      have hV := isS_s hS hs
      refine rN hS hs (q := cN s + 2) rfl (pw_pZ hV.1 (Or.inr rfl) (rN hS hs (q := cN s + 2) rfl (pw_pI hV.1 (rN hS hs (q := cN s + 2) rfl (rN hS hs (q := cN s + 1) rfl ?_)))))
      have hA := (hS.2.1 s hs).2.2.2.2.2.2.2.2.2.2.1
      refine pw_aI 2 hA.1 rfl (by rw [hA.2]; decide) (by rw [hA.2]; decide) ?_
      rw [iput_n _ _ _ (by omega), iput_n _ _ _ (by omega), (h1.1.2.1 s hs).2.1 2 (by decide), en]
      refine pw_cv hV.1 (s_startFlags hV n2 n1) (fun _ J z => pw_ret ?_)
      obtain ⟨z1, z2, z3⟩ := z
      obtain ⟨d1, d2, d3, d4, d5, d6, d7⟩ := h1.1.2.1 s hs
      have ej : ∀ r, r ≠ cN s + 2 → r ≠ cN s + 3 → J r = I1 r := fun r a b => by rw [z1 r a b, iput_n _ _ _ a, iput_n _ _ _ a]
      unfold aStt
      rw [en, nI_clamp (by omega)]
      refine CX_CInv h1 (CInv_sx h1.1 hs (fun r a b _ => ej r (by omega) (by omega)) (by rw [ej 16 (by omega) (by omega)]) (ej _ (by omega) (by omega)) (fun r a b => ej r (by omega) (by omega)) (fun j hj => by rw [ej _ (by omega) (by omega)]) (by rw [ej _ (by omega) (by omega)]; exact cS1_get d1 (j := 13) rfl) (isR_same d6 (fun r a b => ej r (by omega) (by omega))) ?_) (fun r hr => ej r (by omega) (by omega)) (fun j hj => by rw [ej 16 (by omega) (by omega)])
      unfold cSn
      rw [aSx_5s, aSx_6s, aSx_7s, aSx_4s, aSx_F]
      refine ⟨?_, ?_, ?_, [], 0, 0, 8 * n, z3.1, z3.2.1, z3.2.2.1, z3.2.2.2.1, z3.2.2.2.2.1, z3.2.2.2.2.2.1, z3.2.2.2.2.2.2.1, z3.2.2.2.2.2.2.2.1, z3.2.2.2.2.2.2.2.2, fun _ => ⟨rfl, Or.inl ⟨rfl, rfl⟩⟩⟩
      · rw [z2 4 (by decide), iput_j _ _ _ (by decide), iput_j _ _ _ (by decide)]; exact d4.1
      · rw [z2 5 (by decide), iput_j _ _ _ (by decide), iput_s]
      · rw [z2 6 (by decide), iput_s]
    · rw [if_neg e2, if_neg e2]
      exact rN hS hs (q := cN s + 1) rfl (gT hS hs h1 1 rfl (by decide) (sN hS hs h1 (f := 3) (n := s) rfl (fun J g => pw_ret g)))
end SC
