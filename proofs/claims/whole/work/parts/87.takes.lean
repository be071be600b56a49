/-! TAKEN, all of it: what is asked, and the class -/
def frN (l : List Int32) : Nat := (adN l 7).toNatClampNeg
def prD (l : List Int32) (n : Nat) : pD := (frN l, 7 * n + 3, fun i => match i with
  | 0 => v0A l n
  | 1 => v1A l n
  | 2 => pA l (7 * n + 1)
  | 3 => cmA l
  | 4 => kdA (pA l (7 * n))
  | 5 => pA l (7 * n) &&& 16
  | 6 => pA l (7 * n) >>> ((5 : Int32) &&& 31)
  | 7 => (pA l (7 * n) >>> ((1 : Int32) &&& 31)) &&& 7
  | _ => pA l (7 * n + 2))
def nxA (l : List Int32) (n : Nat) : Option Nat := if 3 ≤ n ∧ pA l 20 < 128 then some 2 else if 4 ≤ n ∧ pA l 27 < 128 then some 3 else none
def nAd (l : List Int32) : Nat := if pA l 13 &&& 1 ≠ 0 then 2 else if pA l 20 &&& 1 ≠ 0 then 3 else 4
def dc1 (l : List Int32) (n : Nat) : Decidable (gdA l n) := by unfold gdA; infer_instance
def dc2 (l : List Int32) (n : Nat) : Decidable (unA l n) := by unfold unA; infer_instance
def dc3 (l : List Int32) (n : Nat) : Decidable (noB l n) := by unfold noB; infer_instance
def dc4 (l : List Int32) (n : Nat) : Decidable (inB l n) := by unfold inB; infer_instance
def dc5 (l : List Int32) (n : Nat) : Decidable (otB l n) := by unfold otB; infer_instance
def dcB (l : List Int32) (n : Nat) : Decidable (okB l n) := by
  unfold okB
  haveI := dc3 l n
  haveI := dc4 l (7 * n)
  haveI := dc5 l (7 * n)
  infer_instance
def dcF (l : List Int32) (n : Nat) : Decidable (okF l n) := by
  unfold okF
  haveI := dc1 l n
  haveI := dc2 l n
  haveI := dcB l n
  infer_instance
def okZ (l : List Int32) : Bool := @decide (okF l (nAd l)) (dcF l (nAd l))
def aRep (A : aT) (s : Nat) (l : List Int32) (k : Nat) : aT := if adN l (7 * k) = nI s then aEnq A s (l.set (7 * k + 6) (pA l (7 * k + 6) + 128)) else A
def aTk2 (A : aT) (s : Nat) (l : List Int32) (n : Nat) : aT := if adN l 0 = 6 then (if adN l 7 = nI s then A else aLrn A s (frN l) l 17) else if adN l 0 = nI s then aTo A s (prD l n) l else A
def aTk1 (A : aT) (s : Nat) (l : List Int32) (n : Nat) : aT := match nxA l n with
  | some k => aRep A s l k
  | none => aTk2 A s l n
def aTkn (A : aT) (s : Nat) : aT := if okZ (A.2.1 3 s) = true then aTk1 A s (A.2.1 3 s) (nAd (A.2.1 3 s)) else cnt A s 3
theorem nAd_eq {l : List Int32} {n : Nat} (g : gdA l n) : nAd l = n := by
  have g1 := g.1
  have g2 := g.2.1
  unfold nAd
  rcases (show n = 2 ∨ n = 3 ∨ n = 4 by omega) with e | e | e <;> subst e
  · rw [if_pos g.2.2.2.2.2]
  · rw [if_neg (fun q => q (g.2.2.2.2.1 1 (by decide))), if_pos g.2.2.2.2.2]
  · rw [if_neg (fun q => q (g.2.2.2.2.1 1 (by decide))), if_neg (fun q => q (g.2.2.2.2.1 2 (by decide)))]
theorem okZ_t {l : List Int32} {n : Nat} (h : okF l n) : okZ l = true ∧ nAd l = n := by
  have e := nAd_eq h.1
  refine ⟨?_, e⟩
  unfold okZ
  rw [e]
  exact @decide_eq_true _ (dcF l n) h
theorem okZ_f {l : List Int32} (h : ∀ n, ¬ okF l n) : ¬ okZ l = true := fun q => h _ (@of_decide_eq_true _ (dcF l (nAd l)) q)
theorem nv_nx {l : List Int32} {n : Nat} (h1 : 2 ≤ n) (h2 : n ≤ 4) : nvA l n = match nxA l n with
    | some k => nI (7 * k)
    | none => -1 := by
  have e1 : nvA l 1 = -1 := if_neg (fun q => absurd q.2.1 (by decide))
  have e2 : nvA l 2 = -1 := (if_neg (fun q => absurd q.2.1 (by decide))).trans e1
  have e3 : nvA l 3 = if pA l 20 < 128 then nI 14 else -1 := by
    show (if nvA l 2 = -1 ∧ 2 ≤ 2 ∧ pA l 20 < 128 then nI 14 else nvA l 2) = _
    rw [e2]
    by_cases q : pA l 20 < 128
    · rw [if_pos ⟨rfl, by omega, q⟩, if_pos q]
    · rw [if_neg (fun z => q z.2.2), if_neg q]
  rcases (show n = 2 ∨ n = 3 ∨ n = 4 by omega) with e | e | e <;> subst e
  · rw [e2]
    unfold nxA
    rw [if_neg (fun q => by omega), if_neg (fun q => by omega)]
  · rw [e3]
    unfold nxA
    by_cases q : pA l 20 < 128
    · rw [if_pos q, if_pos ⟨by omega, q⟩]
    · rw [if_neg q, if_neg (fun z => q z.2), if_neg (fun z => by omega)]
  · show (if nvA l 3 = -1 ∧ 2 ≤ 3 ∧ pA l 27 < 128 then nI 21 else nvA l 3) = _
    rw [e3]
    unfold nxA
    by_cases q : pA l 20 < 128
    · rw [if_pos q, if_neg (fun z => absurd z.1 (by decide)), if_pos ⟨by omega, q⟩]
    · rw [if_neg q, if_neg (show ¬ (3 ≤ 4 ∧ pA l 20 < 128) from fun z => q z.2)]
      by_cases q2 : pA l 27 < 128
      · rw [if_pos ⟨rfl, by omega, q2⟩, if_pos ⟨by omega, q2⟩]
      · rw [if_neg (fun z => q2 z.2.2), if_neg (fun z => q2 z.2)]
theorem nx_in {l : List Int32} {n k : Nat} (h : nxA l n = some k) : 2 ≤ k ∧ k < n ∧ k ≤ 3 ∧ pA l (7 * k + 6) < 128 := by
  unfold nxA at h
  split at h
  · rename_i q
    have := Option.some.inj h
    subst this
    exact ⟨by omega, by omega, by omega, q.2⟩
  · split at h
    · rename_i q
      have := Option.some.inj h
      subst this
      exact ⟨by omega, by omega, by omega, q.2⟩
    · cases h
theorem i32_nat (x : Int32) : x = nI x.toBitVec.toNat := by
  apply Int32.toBitVec_inj.mp
  show x.toBitVec = BitVec.ofNat 32 x.toBitVec.toNat
  simp
theorem kd_ok {l : List Int32} {n : Nat} (ok : okF l n) (e6 : ¬ adN l 0 = 6) : (kdA (pA l (7 * n)) = 0 ↔ pA l (7 * n) &&& 1 = 0) ∧ ¬ kdA (pA l (7 * n)) = 3 := by
  unfold kdA
  split
  · rename_i h
    exact ⟨⟨fun _ => h, fun _ => rfl⟩, by decide⟩
  · rename_i hod
    split
    · rename_i hU
      refine ⟨⟨fun q => ?_, fun q => absurd q hod⟩, fun q => ?_⟩
      · rw [q] at hU
        rcases hU with z | z | z | z <;> exact absurd z (by decide)
      · rw [q] at hU
        rcases hU with z | z | z | z <;> exact absurd z (by decide)
    · rename_i hU
      have hc : pA l (7 * n) &&& 15 = 1 ∨ pA l (7 * n) &&& 15 = 5 ∨ pA l (7 * n) &&& 15 = 9 := by
        rcases (ok.2.2.2.2.2.2 e6 hod).2 with w | w | w
        · rcases w.1 with w | w
          · exact absurd (Or.inl w) hU
          · exact absurd (Or.inr (Or.inl w)) hU
        · rcases w.1 with w | w
          · exact absurd (Or.inr (Or.inr (Or.inl w))) hU
          · exact absurd (Or.inr (Or.inr (Or.inr w))) hU
        · exact w.2
      refine ⟨⟨fun q => ?_, fun q => absurd q hod⟩, fun q => ?_⟩
      · rcases hc with w | w | w <;> rw [q] at w <;> exact absurd w (by decide)
      · rcases hc with w | w | w <;> rw [q] at w <;> exact absurd w (by decide)
/-- what the class has read -/
def kD (K : mIm) (o : Nat) : pD := (o, (K 1280 10).toBitVec.toNat, fun i => match i with
  | 0 => K 1281 1
  | 1 => K 1281 2
  | 2 => K 1281 3
  | 3 => K 1280 4
  | 4 => K 1280 5
  | 5 => K 1280 6
  | 6 => K 1280 7
  | 7 => K 1280 8
  | _ => K 1280 9)
theorem aTo_eq {A : aT} {s : Nat} {D E : pD} {l : List Int32} (h1 : D.1 = E.1) (h : ∀ i, i ≤ 5 → D.2.2 i = E.2.2 i) (h6 : ¬ isU (D.2.2 4) → D.2.2 6 = E.2.2 6) (h0 : D.2.2 4 = 0 → D.2.2 7 = E.2.2 7 ∧ D.2.2 8 = E.2.2 8 ∧ D.2.1 = E.2.1) : aTo A s D l = aTo A s E l := by
  obtain ⟨D1, D2, D3⟩ := D
  obtain ⟨E1, E2, E3⟩ := E
  have h1 : D1 = E1 := h1
  subst h1
  have e0 : D3 0 = E3 0 := h 0 (by decide)
  have e1 : D3 1 = E3 1 := h 1 (by decide)
  have e2 : D3 2 = E3 2 := h 2 (by decide)
  have e3 : D3 3 = E3 3 := h 3 (by decide)
  have e4 : D3 4 = E3 4 := h 4 (by decide)
  have e5 : D3 5 = E3 5 := h 5 (by decide)
  have h6 : ¬ isU (D3 4) → D3 6 = E3 6 := h6
  have h0 : D3 4 = 0 → D3 7 = E3 7 ∧ D3 8 = E3 8 ∧ D2 = E2 := h0
  have hup : ¬ D3 4 = 47 → aUp A s (D1, D2, D3) l = aUp A s (D1, E2, E3) l := by
    intro k4
    unfold aUp
    dsimp only
    have en : ∀ y : Int32, D3 4 = y → E3 4 = y := fun y q => by rw [← e4]; exact q
    have ez : ∀ y : Int32, ¬ D3 4 = y → ¬ E3 4 = y := fun y q => by rw [← e4]; exact q
    by_cases k0 : D3 4 = 0
    · obtain ⟨a1, a2, a3⟩ := h0 k0
      have a6 := h6 (by rw [k0]; decide)
      subst a3
      have hti : ∀ B : aT, aTin B s D1 (D1, D2, D3) l = aTin B s D1 (D1, D2, E3) l := fun B => by
        unfold aTin
        dsimp only
        simp only [a1, a2, e5]
      rw [if_pos k0, if_pos (en _ k0)]
      simp only [a6, hti]
    · rw [if_neg k0, if_neg (ez _ k0)]
      by_cases k1 : D3 4 = 15
      · rw [if_pos k1, if_pos (en _ k1)]
      · rw [if_neg k1, if_neg (ez _ k1)]
        by_cases k2 : D3 4 = 67
        · rw [if_pos k2, if_pos (en _ k2), e5]
        · rw [if_neg k2, if_neg (ez _ k2)]
          by_cases k3 : D3 4 = 99
          · rw [if_pos k3, if_pos (en _ k3)]
          · rw [if_neg k3, if_neg (ez _ k3)]
            have a6 := h6 (fun q => by rcases q with q | q | q | q; exact k4 q; exact k2 q; exact k1 q; exact k3 q)
            simp only [a6, e3, e4, e5]
  unfold aTo
  dsimp only
  by_cases k4 : D3 4 = 47
  · rw [if_pos k4, if_pos (show E3 4 = 47 by rw [← e4]; exact k4)]
    have h3 : ∀ B : aT, aSb3 B s (D1, D2, D3) = aSb3 B s (D1, E2, E3) := fun B => by
      unfold aSb3 aAns
      dsimp only
      simp only [e0, e1, e2, e5]
    have hA : ∀ (B : aT) (k : Int32), aAns B s (D1, D2, D3) k = aAns B s (D1, E2, E3) k := fun B k => by
      unfold aAns
      dsimp only
      simp only [e0, e1, e2, e5]
    have h2 : ∀ B : aT, aSb2 B s (D1, D2, D3) = aSb2 B s (D1, E2, E3) := fun B => by
      unfold aSb2
      dsimp only
      simp only [h3, hA]
    unfold aSab aSb1
    dsimp only
    simp only [e2, h2, hA]
  · rw [if_neg k4, if_neg (show ¬ E3 4 = 47 by rw [← e4]; exact k4)]
    have hdm : aDm A s (D1, D2, D3) = aDm A s (D1, E2, E3) := by
      unfold aDm aAns
      dsimp only
      simp only [e0, e1, e2, e3, e5]
    have hwa : aWai A s (D1, D2, D3) = aWai A s (D1, E2, E3) := by
      unfold aWai
      dsimp only
      simp only [e4, e5]
    rw [hdm, hup k4, hwa]
    simp only [e2]
/-- the class's state, the reference's memory as it was -/
def CY (I0 I : mIm) (A : aT) : Prop := CInv I A ∧ ∀ r, 1282 ≤ r → I r = I0 r
def CZ (I0 : mIm) (A : aT) : Unit → mIm → Prop := fun _ J => CY I0 J A
theorem CX_CY {I0 I : mIm} {A : aT} (h : CX I0 I A) : CY I0 I A := ⟨h.1, fun r hr => h.2.1 r (by omega)⟩
section TF
variable {S : mS} {I J I0 : mIm} {A : aT} {s n : Nat} {l : List Int32}
theorem c_repeat (hS : Shp S) (hs : s < 6) (hX : CX I0 I A) (hb : aBy (A.2.1 3 s)) {k : Nat} (hk : k ≤ 3) (hlen : 7 * k + 7 ≤ (A.2.1 3 s).length) (h3 : I 1280 3 = nI (7 * k)) : pw S (q_C_repeat (some 16) (some (cN s)) (some (cN s + 8)) (I, S)) (CU I0 (aRep A s (A.2.1 3 s) k)) := by
  obtain ⟨f1, f2, f3, f4, f5⟩ := cF_k hS
  have hN := (hS.2.1 s hs)
  have hcn : cN s + 208 ≤ 1266 := by unfold cN; omega
  have hRv := (hX.1.2.1 s hs).2.2.2.2.1
  have hL : isL I (cN s + 8) (A.2.1 3 s) := hRv.2.2.2.1
  have h90 := hRv.2.2.2.2.1
  have hB : isB S (cN s + 8) 90 := (isV_s hS hs).2.2.2.2
  unfold q_C_repeat q_F_viaAt aRep
  refine pw_gR f1 f2 (pw_cv f3 (P := fun v J => J = I ∧ v = adN (A.2.1 3 s) (7 * k)) (pw_gE f3 h3 (pw_cv f3 (c_addressAt hB hL h90 hb (by omega) _) (fun v K h => ?_))) (fun v K h => ?_))
  · obtain ⟨rfl, rfl⟩ := h
    rw [if_pos hlen]
    exact pw_ret ⟨rfl, rfl⟩
  · obtain ⟨rfl, rfl⟩ := h
    refine gN0 hS hs hX ?_
    by_cases e : adN (A.2.1 3 s) (7 * k) = nI s
    · rw [if_pos e, if_pos e]
      unfold aEnq
      refine rN hS hs (q := cN s + 10) rfl ?_
      by_cases hq : (A.2.2 0 s).length < 12
      · rw [if_pos hq]
        refine pw_cv (isW_q hS hs).1 (c_addRow hS hs hX hq) (fun a I1 g => ?_)
        obtain ⟨b, rfl, g2, g3, g4, g5, g6, g7⟩ := g
        have hL1 : isL I1 (cN s + 8) (A.2.1 3 s) := isL_same hL (g6 _ (by omega)) (g6 _ (by omega))
        refine pw_ns (gB hB hL1 (pw_cv g2.1 (b_addFrom g2 g5 hB hL1 h90 (by omega) 0 _ (by omega) (by simp; exact h90)) (fun _ J2 q2 => ?_)))
        rw [List.drop_zero, List.take_length, List.nil_append] at q2
        refine pw_gR f1 f2 (pw_gE f3 (v := nI (7 * k)) (by rw [q2.2 1280 (by omega) (by omega), g6 1280 (by omega)]; exact h3) ?_)
        rw [show nI (7 * k) + (6 : Int32) = nI (7 * k + 6) from nI_add _ 6]
        have hx : (A.2.1 3 s)[7 * k + 6]? = some (pA (A.2.1 3 s) (7 * k + 6)) := by
          unfold pA
          rw [List.getElem?_eq_getElem (by omega)]
          rfl
        refine pw_cv g2.1 (p_B_raise g2 q2.1 h90 (7 * k + 6) 128 _ hx) (fun _ J3 q3 => pw_ret ?_)
        refine g7 J3 _ (by rw [List.length_set]; exact h90) ⟨q3.1, fun r r1 r2 => ?_⟩
        rw [q3.2 r r2, q2.2 r r1 r2]
      · rw [if_neg hq]
        refine pw_cv (isW_q hS hs).1 (c_full hS hs hX hq) (fun a I1 g => ?_)
        obtain ⟨rfl, rfl⟩ := g
        exact pw_nn (gN hS hs hX (f := 8) (n := 5 * s + 4) rfl (sN hS hs hX (f := 8) (n := 5 * s + 4) rfl (fun J g => pw_ret g)))
    · rw [if_neg e, if_neg e]
      exact pw_ret hX
theorem c_takeFrame (hS : Shp S) (hs : s < 6) (hC : CY I0 I A) (hb : aBy (A.2.1 3 s)) (hN : aSn A) : pw S (q_C_takeFrame (some 16) (some (cN s)) (I, S)) (CZ I0 (aTkn A s)) := by
  obtain ⟨f1, f2, f3, f4, f5⟩ := cF_k hS
  have hcn : cN s + 208 ≤ 1266 := by unfold cN; omega
  have hRv := (hC.1.2.1 s hs).2.2.2.2.1
  have hL : isL I (cN s + 8) (A.2.1 3 s) := hRv.2.2.2.1
  have h90 := hRv.2.2.2.2.1
  have hV := isV_s hS hs
  have hB : isB S (cN s + 8) 90 := hV.2.2.2.2
  unfold q_C_takeFrame
  refine rN hS hs (q := cN s + 5) rfl (pw_gR hV.1 hV.2.2.2.1 (pw_gR f1 f2 (pw_cv f3 (c_understand hS hB h90 h90 hb (by omega) hL) (fun v J h => ?_))))
  obtain ⟨hfr, h⟩ := h
  have hX : CX J J A := ⟨CInv_same hC.1 (fun r hr => hfr r (by omega) (by omega)), fun _ _ => rfl, fun _ _ => rfl⟩
  have up : ∀ {o : Option (Unit × mM)} {B : aT}, pw S o (CU J B) → pw S o (CZ I0 B) := fun h => pw_mono h (fun _ K g => ⟨g.1, fun r hr => by rw [g.2.1 r (by omega), hfr r (by omega) (by omega)]; exact hC.2 r hr⟩)
  unfold aTkn
  generalize hl : A.2.1 3 s = l at hb hL h90 h
  rcases h with ⟨rfl, h⟩ | ⟨rfl, n, ok, hD, hBd⟩
  · rw [if_neg (okZ_f h)]
    exact up (pw_t rfl (gN hS hs hX (f := 8) (n := 5 * s + 3) rfl (sN hS hs hX (f := 8) (n := 5 * s + 3) rfl (fun J g => pw_ret g))))
  · obtain ⟨z1, z2⟩ := okZ_t ok
    rw [if_pos z1, z2]
    obtain ⟨d0, d1, d2, d3, d4, d5, d6, d7⟩ := id hD
    have g1 := ok.1.1
    have g2 := ok.1.2.1
    have g7 := ok.1.2.2.1
    obtain ⟨o, ho, eo⟩ : ∃ o : Nat, o < 6 ∧ adN l 7 = nI o := by
      have hg := ok.1.2.2.2.1 1 (by omega)
      rcases adN_in (a := 7) hb (by omega) with q | q | q
      · exact absurd q hg.1
      · exact absurd q (hg.2 (by decide))
      · exact q
    have efr : frN l = o := by unfold frN; rw [eo, nI_clamp (by omega)]
    refine up (pw_f (by decide) (pw_gR f1 f2 (pw_gE f3 d3 ?_)))
    rw [nv_nx g1 g2]
    unfold aTk1
    cases hnx : nxA l n with
    | some k =>
      obtain ⟨x1, x2, x3, x4⟩ := nx_in hnx
      dsimp only
      refine pw_f (fun q => ?_) ?_
      · have : nI (7 * k) < 0 := by rw [q]; decide
        exact nI_pos (by omega) this
      · have h3 : J 1280 3 = nI (7 * k) := by rw [d3, nv_nx g1 g2, hnx]
        have := c_repeat hS hs hX (by rw [hl]; exact hb) x3 (by rw [hl]; omega) h3
        rw [hl] at this
        exact pw_cv f1 this (fun _ K g => pw_ret g)
    | none =>
      dsimp only
      refine pw_t rfl (pw_gR f1 f2 ?_)
      unfold aTk2
      by_cases e6 : adN l 0 = 6
      · obtain ⟨b1, b2⟩ := hBd.1 e6
        have n2 : n = 2 := (ok.2.2.2.2.1 e6).2.1
        subst n2
        rw [if_pos e6]
        refine pw_gE f3 b1 (pw_t rfl (pw_gR f1 f2 (pw_gE f3 d1 (gN0 hS hs hX ?_))))
        by_cases es : adN l 7 = nI s
        · rw [if_pos es, if_pos es]
          exact pw_ret hX
        · rw [if_neg es, if_neg es]
          refine rN hS hs (q := cN s + 55) rfl (pw_gR f1 f2 (pw_gE f3 d1 (rN hS hs (q := cN s + 1) rfl (gT hS hs hX 5 rfl (by decide) (pw_gR f1 f2 (pw_gE f3 b2 ?_))))))
          rw [eo, efr]
          have := c_learn hS hs ho hX (x := 17) (by decide)
          rw [hl] at this
          exact pw_cv (hS.2.1 s hs).2.2.2.2.2.2.2.2.2.2.2.2.2.2.2.2.1 this (fun _ K g => pw_ret g)
      · obtain ⟨b1, b2, b3, b4, b5⟩ := hBd.2 e6
        rw [if_neg e6]
        have c3 := (kd_ok ok e6).2
        refine pw_gE f3 b2 (pw_f c3 (pw_gR f1 f2 (pw_gE f3 d1 ?_)))
        rw [eo]
        refine pw_cv (cN_k hS hs) (p_N_linkTo hS hs (nI o)) (fun a K h => ?_)
        obtain ⟨rfl, rfl⟩ := h
        rw [sta_nI ho]
        refine pw_gR f1 f2 (pw_gE f3 d0 (gN0 hS hs hX ?_))
        by_cases et : adN l 0 = nI s
        · rw [if_pos et, if_pos et]
          have hos : o ≠ s := by
            intro q
            have := ok.2.1 1 (by omega) 0 (by omega)
            rw [show 7 * 0 = 0 from rfl, show 7 * 1 = 7 from rfl, et, eo, q] at this
            exact this rfl
          dsimp only
          rw [if_neg hos]
          have hlk : isLk s o := ⟨hs, ho, hos⟩
          have hDD : cCx K (kD K o) := ⟨by rw [d1]; exact eo, rfl, rfl, rfl, rfl, rfl, rfl, i32_nat _, by rw [d5]; exact eo, rfl, rfl, rfl⟩
          have hDE : aTo A s (prD l n) l = aTo A s (kD K o) l := by
            refine aTo_eq (show frN l = o from efr) (fun i hi => ?_) (fun q => ?_) (fun q => ?_)
            · rcases (show i = 0 ∨ i = 1 ∨ i = 2 ∨ i = 3 ∨ i = 4 ∨ i = 5 by omega) with e | e | e | e | e | e <;> subst e
              · exact d6.symm
              · exact d7.symm
              · exact b1.symm
              · exact d4.symm
              · exact b2.symm
              · exact b3.symm
            · exact (b4 q).symm
            · obtain ⟨y1, y2, y3⟩ := b5 q
              refine ⟨y1.symm, y2.symm, ?_⟩
              show 7 * n + 3 = (K 1280 10).toBitVec.toNat
              rw [y3, pk_tn (by omega)]
          rw [hDE]
          refine pw_ns (pw_gR f1 f2 (pw_gI f3 ?_))
          have m180 : pw S (q_C_takeFrame_180 (some 16) (some (cN s)) (K, S)) (CU K (aDm A s (kD K o))) := by
            unfold q_C_takeFrame_180 aDm
            refine pw_gR f1 f2 (pw_gI f3 ?_)
            by_cases kc : K 1280 4 = 0
            · rw [if_pos kc, if_pos (show (kD K o).2.2 3 = 0 from kc)]
              exact pw_ret hX
            · rw [if_neg kc, if_neg (show ¬ (kD K o).2.2 3 = 0 from kc)]
              exact pw_cv f1 (c_answer hS hs hX hDD 15) (fun _ K2 g => pw_ret g)
          unfold aTo
          by_cases k47 : K 1280 5 = 47
          · rw [if_pos k47, if_pos (show (kD K o).2.2 4 = 47 from k47)]
            exact pw_cv f1 (c_takeSabm (D := kD K o) hS hlk hX hDD) (fun _ K2 g => pw_ret g)
          · rw [if_neg k47, if_neg (show ¬ (kD K o).2.2 4 = 47 from k47)]
            refine pw_gR f1 f2 (pw_gR f3 f4 (pw_gI f5 (rK hS hlk (q := cK s o + 1) rfl (gP hS hlk hX (f := 23) rfl ?_))))
            by_cases km : K 1281 3 = A.1 23 (6 * s + o)
            · rw [if_pos km, if_pos (show (kD K o).2.2 2 = A.1 23 (6 * s + (kD K o).1) from km)]
              refine gK hS hlk hX (f := 20) rfl ?_
              by_cases k0 : A.1 20 (6 * s + o) = 0
              · rw [if_pos k0, if_pos (show A.1 20 (6 * s + (kD K o).1) = 0 from k0)]
                exact m180
              · rw [if_neg k0, if_neg (show ¬ A.1 20 (6 * s + (kD K o).1) = 0 from k0)]
                refine gK hS hlk hX (f := 20) rfl ?_
                by_cases k2 : A.1 20 (6 * s + o) = 2
                · rw [if_pos k2, if_pos (show A.1 20 (6 * s + (kD K o).1) = 2 from k2)]
                  have := c_takeWhileUp (D := kD K o) hS hlk hX hDD hN (fun q => ?_)
                  · rw [hl] at this
                    exact pw_cv f1 this (fun _ K2 g => pw_ret g)
                  · have q0 : kdA (pA l (7 * n)) = 0 := by rw [← b2]; exact q
                    obtain ⟨y1, y2, y3⟩ := b5 q0
                    have hin := ok.2.2.2.2.2.1 e6 ((kd_ok ok e6).1.mp q0)
                    rw [hl, show (kD K o).2.1 = 7 * n + 3 from by show (K 1280 10).toBitVec.toNat = _; rw [y3, pk_tn (by omega)]]
                    exact ⟨by omega, by omega⟩
                · rw [if_neg k2, if_neg (show ¬ A.1 20 (6 * s + (kD K o).1) = 2 from k2)]
                  exact pw_cv f1 (c_takeWhileWaiting (D := kD K o) hS hlk hX hDD) (fun _ K2 g => pw_ret g)
            · rw [if_neg km, if_neg (show ¬ (kD K o).2.2 2 = A.1 23 (6 * s + (kD K o).1) from km)]
              exact m180
        · rw [if_neg et, if_neg et]
          exact pw_ret hX
end TF
