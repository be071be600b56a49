/-! sending: the class's loops -/
def aDrA (A : aT) : Nat → aT
  | 0 => A
  | k + 1 => aDrw (aDrA A k) k
def snQ (I : mIm) (s : Nat) (B : aT) : Unit → mIm → Prop := fun _ K => CInv K B ∧ (∀ r, 1278 ≤ r → K r = I r) ∧ (B.1 6 s = 0 → ∀ j, 8 ≤ j → K 16 j = I 16 j) ∧ (B.1 6 s = 1 → K 16 8 = I 16 8 ||| ((1 : Int32) <<< (nI s &&& 31)) ∧ K 16 9 = I 16 9 ||| (B.1 5 s <<< (nI s &&& 31)) ∧ (thr B s → K 16 10 = I 16 10 ||| ((1 : Int32) <<< (nI s &&& 31))) ∧ (¬ thr B s → K 16 10 = I 16 10))
theorem aDr1_1 {A : aT} {s t : Nat} (h : t ≠ 9 * s + 3) : (aDr1 A s).1 1 t = A.1 1 t := by
  unfold aDr1
  split
  · rw [aI_f _ _ _ _ (by decide)]
  · unfold aDr2
    split
    · unfold aStt
      rw [aSx_1 (by omega), aI_k _ _ _ h]
    · rw [aI_f _ _ _ _ (by decide), aI_k _ _ _ h]
theorem aDrw_1 {A : aT} {s t : Nat} (h : t ≠ 9 * s + 3) : (aDrw A s).1 1 t = A.1 1 t := by
  unfold aDrw
  split
  · rfl
  · split
    · split
      · exact aDr1_1 h
      · rfl
    · rfl
theorem aLd_drw {A : aT} {s : Nat} (h : aLd A) : aLd (aDrw A s) := fun t ht => by rw [aDrw_1 (by omega)]; exact h t ht
theorem aLd_drA {A : aT} (h : aLd A) : ∀ k, aLd (aDrA A k)
  | 0 => h
  | k + 1 => aLd_drw (aLd_drA h k)
section SD
variable {S : mS} {I J I0 : mIm} {A : aT} {s : Nat}
theorem rSt (hS : Shp S) {β : Type} {Q : β → mIm → Prop} {i : Nat} (hi : i < 6) {k : Option Nat → Option (β × mM)} (h : pw S (k (some (cN i))) Q) : pw S (x_gR (I, S) 9 (some 16) 0 fun a1 => x_aR (I, S) 2 a1 (nI i) k) Q := by
  obtain ⟨k1, k2, k3, k4, k5, k6, k7, k8, k9, k10⟩ := hS.1
  exact pw_gR k1 k2 (pw_aR i k9.1 rfl (by rw [k9.2]; exact hi) (by rw [k9.2]; decide) (hS.2.1 i hi).2.1 h)
theorem c_draws2 (hS : Shp S) (hl : aLd A) : ∀ (f m k : Nat) (J : mIm), k + f = 6 → f < m → CX I0 J (aDrA A k) → pw S (q_C_drawForChannel_2 m (some 16) (nI k) (J, S)) (CU I0 (aDrA A 6))
  | f, 0, k, J, _, h, _ => by omega
  | 0, m + 1, k, J, hk, hm, hX => by
    show pw S (q_C_drawForChannel_2_b _ _ _ _) _
    unfold q_C_drawForChannel_2_b
    have e : k = 6 := by omega
    subst e
    exact pw_f (nI_nlt (a := 6) (b := 6) (by omega) (by decide)) (pw_ret hX)
  | f + 1, m + 1, k, J, hk, hm, hX => by
    have hs : k < 6 := by omega
    obtain ⟨d1, d2, d3, d4, d5, d6, d7⟩ := hX.1.2.1 k hs
    show pw S (q_C_drawForChannel_2_b _ _ _ _) _
    unfold q_C_drawForChannel_2_b q_C_drawForChannel_46
    refine pw_t (nI_lt (b := 6) hs (by decide)) (rSt hS hs (rN hS hs (q := cN k + 10) rfl (gW (isW_q hS hs) d6 ?_)))
    rw [show nI k + 1 = nI (k + 1) from nI_1 k]
    have hq := (isR_len d6).1
    have no : aDrA A (k + 1) = aDrA A k → pw S (q_C_drawForChannel_2 m (some 16) (nI (k + 1)) (J, S)) (CU I0 (aDrA A 6)) := fun e => c_draws2 hS hl f m (k + 1) J (by omega) (by omega) (by rw [e]; exact hX)
    have ea : aDrA A (k + 1) = aDrw (aDrA A k) k := rfl
    unfold aDrw at ea
    by_cases e0 : ((aDrA A k).2.2 0 k).length = 0
    · rw [if_pos e0] at ea
      exact pw_f (by rw [e0]; decide) (no ea)
    · rw [if_neg e0] at ea
      refine pw_t (n_gt0 (by omega) (by omega)) (rN hS hs (q := cN k + 2) rfl (pw_gE (isS_s hS hs).1 d4.2.1 ?_))
      by_cases e1 : (aDrA A k).1 6 k = 0
      · rw [if_pos e1] at ea
        refine pw_t e1 (gN hS hs hX (f := 4) (n := k) rfl ?_)
        by_cases e2 : (aDrA A k).1 4 k = 0
        · rw [if_pos e2] at ea
          refine pw_t e2 (pw_cl (c_waitOrDraw hS hs hX (aLd_drA hl k)) (fun _ J2 g => ?_))
          exact c_draws2 hS hl f m (k + 1) J2 (by omega) (by omega) (by rw [ea]; exact g)
        · rw [if_neg e2] at ea
          exact pw_f e2 (no ea)
      · rw [if_neg e1] at ea
        exact pw_f e1 (no ea)
theorem c_draws (hS : Shp S) (hX : CX I0 I A) (hl : aLd A) : pw S (q_C_drawForChannel (some 16) (I, S)) (CU I0 (aDrA A 6)) := c_draws2 hS hl 6 mFU 0 I (by omega) (by unfold mFU; omega) hX
theorem c_76 (hS : Shp S) (hs : s < 6) (hC : CInv I A) {l F : List Int32} {p o fb : Nat} {v hd c : Int32} {ll : List (List Int32)} (h0 : 0 < fb) (hsn : sndr J (cN s + 2) l p o fb) (j4 : J (cN s + 2) 4 = v) (j5 : J (cN s + 2) 5 = 1) (j6 : J (cN s + 2) 6 = hd) (hlF : (hd = 0 ∧ l = []) ∨ (0 < hd ∧ l = frm F)) (e : ∀ r, (r < cN s ∨ cN s + 36 ≤ r) → J r = I r) (e1 : J (cN s + 1) = I (cN s + 1)) (e5 : ∀ r, cN s + 5 ≤ r → r < cN s + 10 → J r = I r) (e0 : ∀ j, j ≠ 13 → J (cN s) j = I (cN s) j) (e13 : J (cN s) 13 = c) (hq : isR J (cN s + 10) 12 90 ll) : pw S (q_C_sendNext_76 (some 16) (some (cN s)) (some (cN s + 2)) (J, S)) (snQ I s (aSx A s (lvl v ((lnL l p o fb).headD 0)) 1 hd (lnL l p o fb).tail F ll c)) := by
  have hcn : 18 ≤ cN s ∧ cN s + 208 ≤ 1266 := by unfold cN; omega
  have hV := isS_s hS hs
  have k1 := hS.1.1
  have hN := cN_k hS hs
  have hnum : J (cN s) 0 = nI s := by rw [e0 0 (by decide)]; exact (hC.2.1 s hs).1.1
  unfold q_C_sendNext_76
  refine pw_cv hV.1 (s_sendBit hV hsn h0) (fun _ K g => ?_)
  obtain ⟨g1, g5, g6, b, p', o', fb', gb, g4, gs, gl⟩ := g
  rw [gl]
  show pw S _ (snQ I s (aSx A s (lvl v b) 1 hd (lnL l p' o' fb') F ll c))
  rw [j4] at g4
  have hK : ∀ r, (r < cN s ∨ cN s + 36 ≤ r) → K r = I r := fun r hr => by rw [g1 r (by omega)]; exact e r hr
  refine pw_gI k1 (pw_gE hN (v := nI s) (by rw [g1 _ (by omega)]; exact hnum) (pw_pI k1 (pw_gI k1 (pw_gE hV.1 (v := lvl v b) (by rw [iput_n _ _ _ (by omega)]; exact g4) (pw_gE hN (v := nI s) (by rw [iput_n _ _ _ (by omega), g1 _ (by omega)]; exact hnum) (pw_pI k1 ?_))))))
  rw [iput_j _ _ _ (show 9 ≠ 8 by decide), hK 16 (by omega)]
  -- what the class's masks are now, the rest as before
  have eP : ∀ (K2 : mIm), (∀ r, r ≠ 16 → K2 r = K r) → (∀ j, j < 8 → K2 16 j = I 16 j) → CInv K2 (aSx A s (lvl v b) 1 hd (lnL l p' o' fb') F ll c) ∧ ∀ r, 1278 ≤ r → K2 r = I r := by
    intro K2 q1 q2
    have es : ∀ r, r ≠ 16 → (r < cN s ∨ cN s + 36 ≤ r) → K2 r = I r := fun r a b => by rw [q1 r a]; exact hK r b
    refine ⟨CInv_sx hC hs (fun r a _ b => es r b a) (q2 7 (by decide)) (by rw [q1 _ (by omega), g1 _ (by omega)]; exact e1) (fun r a b => by rw [q1 _ (by omega), g1 _ (by omega)]; exact e5 r a b) (fun j hj => by rw [q1 _ (by omega), g1 _ (by omega)]; exact e0 j hj) (by rw [q1 _ (by omega), g1 _ (by omega)]; exact e13) (isR_same hq (fun r a b => by rw [q1 _ (by omega), g1 _ (by omega)])) ?_, fun r hr => es r (by omega) (by omega)⟩
    unfold cSn
    rw [aSx_5s, aSx_6s, aSx_7s, aSx_4s, aSx_F, q1 (cN s + 2) (by omega)]
    exact ⟨g4, by rw [g5]; exact j5, by rw [g6]; exact j6, l, p', o', fb', isL_same gs.1 (q1 _ (by omega)) (q1 _ (by omega)), gs.2.1, gs.2.2.1, gs.2.2.2.1, gs.2.2.2.2.1, gs.2.2.2.2.2.1, gs.2.2.2.2.2.2.1, gs.2.2.2.2.2.2.2.1, gs.2.2.2.2.2.2.2.2, fun _ => ⟨rfl, hlF⟩⟩
  have hl92 := gs.2.1
  have hnil := ln_nil (l := l) (p := p') (o := o') (fb := fb') gs.2.2.2.2.2.2.2.2
  have hth : thr (aSx A s (lvl v b) 1 hd (lnL l p' o' fb') F ll c) s ↔ (fb' = 0 ∧ l ≠ []) := by
    unfold thr
    rw [aSx_6s, aSx_7s, aSx_4s, hnil]
    constructor
    · intro ⟨_, q2, q3⟩
      refine ⟨q3, fun q => ?_⟩
      rcases hlF with w | w
      · rw [w.1] at q2; exact absurd q2 (by decide)
      · rw [w.2] at q
        have := frm_len (l := F)
        rw [q] at this
        simp at this
    · intro ⟨q1, q2⟩
      rcases hlF with w | w
      · exact absurd w.2 q2
      · exact ⟨rfl, w.1, q1⟩
  have c10 : ¬ (1 : Int32) = 0 := by decide
  unfold q_S_endsFrame
  have fin : ∀ (x : Int32), (x = 1 ∧ (fb' = 0 ∧ l ≠ [])) ∨ (x = 0 ∧ ¬ (fb' = 0 ∧ l ≠ [])) → pw S (if x = 0 then some ((), (iput (iput K 16 8 (I 16 8 ||| ((1 : Int32) <<< (nI s &&& 31)))) 16 9 (I 16 9 ||| (lvl v b <<< (nI s &&& 31))), S)) else x_gI (iput (iput K 16 8 (I 16 8 ||| ((1 : Int32) <<< (nI s &&& 31)))) 16 9 (I 16 9 ||| (lvl v b <<< (nI s &&& 31))), S) 9 (some 16) 10 fun x7 => x_gI (iput (iput K 16 8 (I 16 8 ||| ((1 : Int32) <<< (nI s &&& 31)))) 16 9 (I 16 9 ||| (lvl v b <<< (nI s &&& 31))), S) 8 (some (cN s)) 0 fun x8 => x_pI (iput (iput K 16 8 (I 16 8 ||| ((1 : Int32) <<< (nI s &&& 31)))) 16 9 (I 16 9 ||| (lvl v b <<< (nI s &&& 31))), S) 9 (some 16) 10 (x7 ||| ((1 : Int32) <<< (x8 &&& 31))) fun M => some ((), M)) (snQ I s (aSx A s (lvl v b) 1 hd (lnL l p' o' fb') F ll c)) := by
    intro x hx
    rcases hx with ⟨rfl, hx⟩ | ⟨rfl, hx⟩
    · refine pw_f c10 (pw_gI k1 (pw_gE hN (v := nI s) (by rw [iput_n _ _ _ (by omega), iput_n _ _ _ (by omega), g1 _ (by omega)]; exact hnum) (pw_pI k1 (pw_ret ?_))))
      have w := eP (iput (iput (iput K 16 8 (I 16 8 ||| ((1 : Int32) <<< (nI s &&& 31)))) 16 9 (I 16 9 ||| (lvl v b <<< (nI s &&& 31)))) 16 10 ((iput (iput K 16 8 (I 16 8 ||| ((1 : Int32) <<< (nI s &&& 31)))) 16 9 (I 16 9 ||| (lvl v b <<< (nI s &&& 31)))) 16 10 ||| ((1 : Int32) <<< (nI s &&& 31)))) (fun r hr => by rw [iput_n _ _ _ hr, iput_n _ _ _ hr, iput_n _ _ _ hr]) (fun j hj => by rw [iput_j _ _ _ (by omega), iput_j _ _ _ (by omega), iput_j _ _ _ (by omega), hK 16 (by omega)])
      refine ⟨w.1, w.2, fun q => ?_, fun _ => ⟨?_, ?_, fun _ => ?_, fun q => absurd (hth.mpr hx) q⟩⟩
      · rw [aSx_6s] at q; exact absurd q c10
      · rw [iput_j _ _ _ (by decide), iput_j _ _ _ (by decide), iput_s]
      · rw [iput_j _ _ _ (by decide), iput_s, aSx_5s]
      · rw [iput_s, iput_j _ _ _ (by decide), iput_j _ _ _ (by decide), hK 16 (by omega)]
    · refine pw_t rfl (pw_ret ?_)
      have w := eP (iput (iput K 16 8 (I 16 8 ||| ((1 : Int32) <<< (nI s &&& 31)))) 16 9 (I 16 9 ||| (lvl v b <<< (nI s &&& 31)))) (fun r hr => by rw [iput_n _ _ _ hr, iput_n _ _ _ hr]) (fun j hj => by rw [iput_j _ _ _ (by omega), iput_j _ _ _ (by omega), hK 16 (by omega)])
      refine ⟨w.1, w.2, fun q => ?_, fun _ => ⟨?_, ?_, fun q => absurd (hth.mp q) hx, fun _ => ?_⟩⟩
      · rw [aSx_6s] at q; exact absurd q c10
      · rw [iput_j _ _ _ (by decide), iput_s]
      · rw [iput_s, aSx_5s]
      · rw [iput_j _ _ _ (by decide), iput_j _ _ _ (by decide), hK 16 (by omega)]
  have h3 : (iput (iput K 16 8 (I 16 8 ||| ((1 : Int32) <<< (nI s &&& 31)))) 16 9 (I 16 9 ||| (lvl v b <<< (nI s &&& 31)))) (cN s + 2) 3 = nI fb' := by rw [iput_n _ _ _ (by omega), iput_n _ _ _ (by omega)]; exact gs.2.2.2.2.1
  have hL : isL (iput (iput K 16 8 (I 16 8 ||| ((1 : Int32) <<< (nI s &&& 31)))) 16 9 (I 16 9 ||| (lvl v b <<< (nI s &&& 31)))) (cN s + 3) l := isL_same gs.1 (by rw [iput_n _ _ _ (by omega), iput_n _ _ _ (by omega)]) (by rw [iput_n _ _ _ (by omega), iput_n _ _ _ (by omega)])
  have hfb := gs.2.2.2.2.2.2.2.1
  have hen : pw S (x_gI (iput (iput K 16 8 (I 16 8 ||| ((1 : Int32) <<< (nI s &&& 31)))) 16 9 (I 16 9 ||| (lvl v b <<< (nI s &&& 31))), S) 7 (some (cN s + 2)) 3 fun x1 => if x1 = 0 then x_gR (iput (iput K 16 8 (I 16 8 ||| ((1 : Int32) <<< (nI s &&& 31)))) 16 9 (I 16 9 ||| (lvl v b <<< (nI s &&& 31))), S) 7 (some (cN s + 2)) 0 fun a2 => x_gI (iput (iput K 16 8 (I 16 8 ||| ((1 : Int32) <<< (nI s &&& 31)))) 16 9 (I 16 9 ||| (lvl v b <<< (nI s &&& 31))), S) 0 a2 1 fun x3 => if 0 < x3 then x_rz (1 : Int32) (iput (iput K 16 8 (I 16 8 ||| ((1 : Int32) <<< (nI s &&& 31)))) 16 9 (I 16 9 ||| (lvl v b <<< (nI s &&& 31))), S) else x_rz (0 : Int32) (iput (iput K 16 8 (I 16 8 ||| ((1 : Int32) <<< (nI s &&& 31)))) 16 9 (I 16 9 ||| (lvl v b <<< (nI s &&& 31))), S) else x_rz (0 : Int32) (iput (iput K 16 8 (I 16 8 ||| ((1 : Int32) <<< (nI s &&& 31)))) 16 9 (I 16 9 ||| (lvl v b <<< (nI s &&& 31))), S)) (fun x M => M = (iput (iput K 16 8 (I 16 8 ||| ((1 : Int32) <<< (nI s &&& 31)))) 16 9 (I 16 9 ||| (lvl v b <<< (nI s &&& 31)))) ∧ ((x = 1 ∧ (fb' = 0 ∧ l ≠ [])) ∨ (x = 0 ∧ ¬ (fb' = 0 ∧ l ≠ [])))) := by
    refine pw_gE hV.1 h3 ?_
    by_cases e2 : fb' = 0
    · refine pw_t (by rw [e2]; rfl) (pw_gR hV.1 hV.2.1 (gB hV.2.2 hL ?_))
      by_cases e3 : l = []
      · exact pw_f (by rw [e3]; decide) (pw_rz (Or.inl rfl) ⟨rfl, Or.inr ⟨rfl, fun q => q.2 e3⟩⟩)
      · exact pw_t (n_gt0 (List.length_pos_iff.mpr e3) (by omega)) (pw_rz (Or.inr rfl) ⟨rfl, Or.inl ⟨rfl, e2, e3⟩⟩)
    · exact pw_f (nI_ne0 (by omega) (by omega)) (pw_rz (Or.inl rfl) ⟨rfl, Or.inr ⟨rfl, fun q => e2 q.1⟩⟩)
  refine pw_cv hV.1 hen (fun x K3 q => ?_)
  obtain ⟨q1, q2⟩ := q
  rw [q1]
  exact fin x q2
theorem c_sendNext (hS : Shp S) (hs : s < 6) (hC : CInv I A) (h6 : A.1 6 s = 1) (h7 : ∃ n : Nat, n ≤ 4 ∧ A.1 7 s = nI n) : pw S (q_C_sendNext (some 16) (some (cN s)) (I, S)) (snQ I s (aSnd A s)) := by
  have hcn : 18 ≤ cN s ∧ cN s + 208 ≤ 1266 := by unfold cN; omega
  have hV := isS_s hS hs
  have hN := cN_k hS hs
  have hW := isW_q hS hs
  have c10 : ¬ (1 : Int32) = 0 := by decide
  obtain ⟨hd, hd4, ehd⟩ := h7
  obtain ⟨d1, d2, d3, d4, d5, d6, d7⟩ := hC.2.1 s hs
  obtain ⟨s4, s5, s6, l, p, o, fb, t1, t2, t3, t4, t5, t6, t7, t8, t9, t10⟩ := d4
  have hsn : sndr I (cN s + 2) l p o fb := ⟨t1, t2, t3, t4, t5, t6, t7, t8, t9⟩
  obtain ⟨u1, u2⟩ := t10 h6
  have hnil := ln_nil (l := l) (p := p) (o := o) (fb := fb) t9
  have eL : A.2.1 4 s = lnL l p o fb := u1
  rw [h6] at s5
  have hlF : (A.1 7 s = 0 ∧ l = []) ∨ (0 < A.1 7 s ∧ l = frm (A.2.1 5 s)) := u2
  unfold q_C_sendNext aSnd
  rw [if_neg (show ¬ A.1 6 s = 0 by rw [h6]; exact c10)]
  refine rN hS hs (q := cN s + 2) rfl (pw_cv hV.1 (s_isThrough hV hsn) (fun x K g => ?_))
  obtain ⟨hK, rfl⟩ := g
  rw [hK]
  have e13 : I (cN s) 13 = A.1 8 (5 * s) := cS1_get d1 (j := 13) rfl
  by_cases ef : fb = 0
  · rw [if_pos ef, if_pos (show A.2.1 4 s = [] by rw [eL]; exact hnil.mpr ef)]
    unfold aSn1
    refine pw_f c10 (pw_gE hV.1 s6 ?_)
    have stop : pw S (x_pZ (I, S) 7 (some (cN s + 2)) 5 0 fun M => some ((), M)) (snQ I s (aSto A s)) := by
      refine pw_pZ hV.1 (Or.inl rfl) (pw_ret ⟨?_, fun r hr => iput_n _ _ _ (by omega), fun _ j hj => by rw [iput_n _ _ _ (by omega)], fun q => ?_⟩)
      · unfold aSto
        refine CInv_sx hC hs (fun r a _ _ => iput_n _ _ _ (by omega)) (by rw [iput_n _ _ _ (by omega)]) (iput_n _ _ _ (by omega)) (fun r a b => iput_n _ _ _ (by omega)) (fun j hj => by rw [iput_n _ _ _ (by omega)]) (by rw [iput_n _ _ _ (by omega)]; exact e13) (isR_same d6 (fun r a b => iput_n _ _ _ (by omega))) ?_
        unfold cSn
        rw [aSx_5s, aSx_6s, aSx_7s, aSx_4s, aSx_F]
        exact ⟨by rw [iput_j _ _ _ (by decide)]; exact s4, iput_s _ _ _ _, by rw [iput_j _ _ _ (by decide)]; exact s6, l, p, o, fb, isL_same t1 (iput_n _ _ _ (by omega)) (iput_n _ _ _ (by omega)), t2, by rw [iput_j _ _ _ (by decide)]; exact t3, by rw [iput_j _ _ _ (by decide)]; exact t4, by rw [iput_j _ _ _ (by decide)]; exact t5, t6, t7, t8, t9, fun q => absurd q (by decide)⟩
      · unfold aSto at q
        rw [aSx_6s] at q
        exact absurd q (by decide)
    by_cases e4 : A.1 7 s < 4
    · refine pw_t e4 ?_
      rw [if_pos e4]
      refine (rN hS hs (q := cN s + 10) rfl (pw_cv hW.1 (p_W_rowAt hW d6 0) (fun a K2 g => ?_)))
      obtain ⟨hK2, g⟩ := g
      rw [hK2]
      unfold q_C_sendNext_32
      rcases g with ⟨rfl, g⟩ | ⟨b, fr, rfl, g1, g2, g3, g4, g5, g6, g7⟩
      · have : A.2.2 0 s = [] := by
          rcases g with q | q
          · exact absurd q (by decide)
          · cases hq : A.2.2 0 s with
            | nil => rfl
            | cons x y => rw [hq] at q; cases q
        rw [this]
        exact pw_nn stop
      · obtain ⟨rest, hq⟩ : ∃ rest, A.2.2 0 s = fr :: rest := by
          cases hq : A.2.2 0 s with
          | nil => rw [hq] at g2; cases g2
          | cons x y =>
            rw [hq] at g2
            have : x = fr := Option.some.inj g2
            rw [this]
            exact ⟨y, rfl⟩
        rw [hq]
        dsimp only
        refine pw_ns (pw_cv hV.1 (s_startFrame hV g5 g4 g3 g3 (by omega)) (fun _ J z => ?_))
        obtain ⟨z1, z2, z3⟩ := z
        refine pw_gE hV.1 (v := A.1 7 s) (by rw [z2 6 (by decide)]; exact s6) (pw_pI hV.1 (rN hS hs (q := cN s + 10) rfl ?_))
        have hq1 : isR (iput J (cN s + 2) 6 (A.1 7 s + 1)) (cN s + 10) 12 90 (A.2.2 0 s) := isR_same d6 (fun r a b => by rw [iput_n _ _ _ (by omega), z1 r (by omega) (by omega) (by omega)])
        refine pw_cv hW.1 (p_W_dropFirst hW hq1 1 (by rw [hq]; simp)) (fun _ J2 w => ?_)
        obtain ⟨w1, w2⟩ := w
        rw [hq, List.drop_one, List.tail_cons] at w1
        refine pw_gE hN (v := A.1 8 (5 * s)) (by rw [w2 _ (by omega), iput_n _ _ _ (by omega), z1 _ (by omega) (by omega) (by omega)]; exact e13) (pw_pI hN ?_)
        have hsn3 : sndr (iput J2 (cN s) 13 (A.1 8 (5 * s) + 1)) (cN s + 2) (frm fr) 0 0 8 := by
          obtain ⟨y1, y2, y3, y4, y5, y6⟩ := z3
          have eb : ∀ j, j ≠ 6 → (iput J2 (cN s) 13 (A.1 8 (5 * s) + 1)) (cN s + 2) j = J (cN s + 2) j := fun j hj => by rw [iput_n _ _ _ (by omega), w2 _ (by omega), iput_j _ _ _ hj]
          exact ⟨isL_same y1 (by rw [iput_n _ _ _ (by omega), w2 _ (by omega), iput_n _ _ _ (by omega)]) (by rw [iput_n _ _ _ (by omega), w2 _ (by omega), iput_n _ _ _ (by omega)]), y2, by rw [eb 1 (by decide)]; exact y3, by rw [eb 2 (by decide)]; exact y4, by rw [eb 3 (by decide)]; exact y5, y6⟩
        refine c_76 hS hs hC (v := A.1 5 s) (hd := A.1 7 s + 1) (c := A.1 8 (5 * s) + 1) (ll := rest) (F := fr) (by decide) hsn3 ?_ ?_ ?_ (Or.inr ⟨?_, rfl⟩) (fun r hr => ?_) ?_ (fun r a b => ?_) (fun j hj => ?_) (iput_s _ _ _ _) (isR_same w1 (fun r a b => iput_n _ _ _ (by omega)))
        · rw [iput_n _ _ _ (by omega), w2 _ (by omega), iput_j _ _ _ (by decide), z2 4 (by decide)]; exact s4
        · rw [iput_n _ _ _ (by omega), w2 _ (by omega), iput_j _ _ _ (by decide), z2 5 (by decide)]; exact s5
        · rw [iput_n _ _ _ (by omega), w2 _ (by omega), iput_s]
        · rw [ehd, show nI hd + 1 = nI (hd + 1) from nI_1 hd]
          exact n_gt0 (by omega) (by omega)
        · rw [iput_n _ _ _ (by omega), w2 _ (by omega), iput_n _ _ _ (by omega), z1 _ (by omega) (by omega) (by omega)]
        · rw [iput_n _ _ _ (by omega), w2 _ (by omega), iput_n _ _ _ (by omega), z1 _ (by omega) (by omega) (by omega)]
        · rw [iput_n _ _ _ (by omega), w2 _ (by omega), iput_n _ _ _ (by omega), z1 _ (by omega) (by omega) (by omega)]
        · rw [iput_j _ _ _ hj, w2 _ (by omega), iput_n _ _ _ (by omega), z1 _ (by omega) (by omega) (by omega)]
    · refine pw_f e4 ?_
      rw [if_neg e4]
      unfold q_C_sendNext_32
      exact pw_nn stop
  · rw [if_neg ef, if_neg (show ¬ A.2.1 4 s = [] by rw [eL]; exact fun q => ef (hnil.mp q))]
    refine pw_t rfl ?_
    unfold aGo
    rw [eL]
    exact c_76 hS hs hC (by omega) hsn s4 s5 s6 hlF (fun r hr => rfl) rfl (fun r a b => rfl) (fun j hj => rfl) e13 d6
end SD
