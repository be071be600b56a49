/-! letter -/
theorem aL_in (A : aT) {f g : Nat} (k j : Nat) (v w : List Int32) (h : g ≠ f) : aL (aL A g j w) f k v = aL (aL A f k v) g j w := by
  unfold aL
  refine Prod.ext rfl (Prod.ext ?_ rfl)
  dsimp only
  rw [mrow_n _ _ (Ne.symm h), mrow_n _ _ h]
  exact mrow_c _ _ _ h
section L0
variable {A : aT} {x : List Int32} {s o l : Nat}
theorem aEnq_L0 {fr : List Int32} : aEnq (aL A 0 0 x) s fr = aL (aEnq A s fr) 0 0 x := by
  unfold aEnq
  rw [aL_2]
  split <;> rfl
theorem aSay_L0 {c i : Int32} : aSay (aL A 0 0 x) s o c i = aL (aSay A s o c i) 0 0 x := by
  unfold aSay
  exact aEnq_L0
theorem aRst_L0 {m : Int32} : aRst (aL A 0 0 x) l m = aL (aRst A l m) 0 0 x := by
  unfold aRst
  rw [aI_L, aI_L, aI_L, aI_L, aI_L, aI_L, aI_L, aI_L, aI_L, aL_in (f := 10) (g := 0) _ _ _ _ _ (by decide)]
  rfl
theorem aCl1_L0 : aCl1 (aL A 0 0 x) s o = aL (aCl1 A s o) 0 0 x := by
  unfold aCl1
  rw [show aI (aL A 0 0 x) 32 (6 * s + o) (((aL A 0 0 x).1 32 (6 * s + o) + 1) &&& 127) = aL (aI A 32 (6 * s + o) ((A.1 32 (6 * s + o) + 1) &&& 127)) 0 0 x from rfl, aRst_L0, aL_in (f := 11) (g := 0) _ _ _ _ _ (by decide), aI_L, aL_1]
theorem aCal_L0 : aCal (aL A 0 0 x) s o = aL (aCal A s o) 0 0 x := by
  unfold aCal
  rw [← aSay_L0, aCl1_L0, aI_L, aI_L, aL_1]
theorem cnt_L0 {w : Nat} : cnt (aL A 0 0 x) s w = aL (cnt A s w) 0 0 x := rfl
theorem aP1_L0 {n : Nat} : aP1 (aL A 0 0 x) s n = aL (aP1 A s n) 0 0 x := by
  unfold aP1
  rw [aL_1]
  split
  · rw [aI_L, aI_L, aCal_L0]
  · rfl
theorem aP2_L0 {n : Nat} {p : List Int32} : aP2 (aL A 0 0 x) s n p = aL (aP2 A s n p) 0 0 x := by
  unfold aP2
  rw [aL_2]
  split <;> rfl
theorem aPkt_L0 {p : List Int32} : aPkt (aL A 0 0 x) s p = aL (aPkt A s p) 0 0 x := by
  unfold aPkt
  split
  · split
    · split
      · unfold aPml
        rw [aL_2]
        split <;> rfl
      · split
        · rfl
        · have e : ∀ d, bst (aL A 0 0 x) s d = bst A s d := fun _ => rfl
          rw [e]
          unfold aPgo
          split
          · split
            · rfl
            · rw [aP1_L0, aP2_L0]
          · rfl
    · rfl
  · rfl
end L0
def aLet (A : aT) (i j : Int32) : Int32 × aT := match sta i, sta j with
  | some s, some _ => if 1 ≤ (A.2.1 0 0).length ∧ (A.2.1 0 0).length ≤ 12 then (A.1 9 s &&& 255, aL (aPkt (aI A 9 s (A.1 9 s + 1)) s ([i, j, 8, A.1 9 s &&& 255] ++ A.2.1 0 0)) 0 0 []) else (-1, aL A 0 0 [])
  | _, _ => (-1, aL A 0 0 [])
section LE
variable {S : mS} {I I0 : mIm} {A : aT} {s o : Nat}
theorem p_C_letter (hS : Shp S) (hC : CInv I A) (i j : Int32) : pw S (q_C_letter (some 16) i j (I, S)) (CP I (aLet A i j)) := by
  have hX := CX_0 hC
  obtain ⟨k1, k2, k3, k4, k5, k6, k7, k8, k9, k10, k11, k12, k13, k14, k15⟩ := hS.1
  unfold q_C_letter aLet
  have no : ∀ (a : Option Nat) (R : Int32 × aT), R = (-1, aL A 0 0 []) → pw S (q_C_letter_44 (some 16) i j a (I, S)) (CP I R) := by
    intro a R hR
    subst hR
    refine CV_CP ?_
    unfold q_C_letter_44 q_C_letter_45 q_C_letter_64 q_C_letter_150
    exact pw_t rfl (pw_t rfl (pw_gR k1 k3 (pw_cv k10.1 (c_tapeClear hS hX) (fun _ J g => pw_ret ⟨rfl, g⟩))))
  refine pw_cv k1 (p_C_stationAt hS i) (fun a I2 h => ?_)
  obtain ⟨rfl, rfl⟩ := h
  cases h : sta i with
  | none => exact pw_nn (no _ _ rfl)
  | some s =>
    obtain ⟨hs, ei⟩ := sta_s h
    refine pw_ns (pw_cl (p_C_isStation j) (fun v I2 h2 => ?_))
    obtain ⟨rfl, rfl⟩ := h2
    cases h2 : sta j with
    | none => exact pw_t (by simp) (no _ _ rfl)
    | some d =>
      obtain ⟨t1, t2⟩ := hX.1.1.2.1
      dsimp only
      refine pw_f (by simp) (pw_gR k1 k3 (gB k10 t1 ?_))
      by_cases e1 : 1 ≤ (A.2.1 0 0).length
      · refine pw_f (nI_nlt (b := 1) (by omega) (by omega)) (pw_gR k1 k3 (gB k10 t1 ?_))
        by_cases e2 : (A.2.1 0 0).length ≤ 12
        · rw [if_pos (show 1 ≤ (A.2.1 0 0).length ∧ (A.2.1 0 0).length ≤ 12 from ⟨e1, e2⟩)]
          refine pw_f (nI_nlt (a := 12) (by omega) (by decide)) ?_
          unfold q_C_letter_45 q_C_letter_64
          refine pw_f (by decide) (gN hS hs hX (j := 12) rfl (pw_f (by decide) (gN hS hs hX (j := 12) rfl (sN hS hs hX (j := 12) rfl (fun J1 g1 => ?_)))))
          refine pw_gR k1 k7 (pw_cv k14.1 (p_B_clear k14) (fun _ J2 g2 => ?_))
          have b0 : bld J2 1278 J2 [] := ⟨g2.1, fun _ _ _ => rfl⟩
          refine pw_gR k1 k7 (pw_cv k14.1 (b_add k14 b0 (by simp) _) (fun _ J3 b1 => ?_))
          refine pw_gR k1 k7 (pw_cv k14.1 (b_add k14 b1 (by simp) _) (fun _ J4 b2 => ?_))
          refine pw_gR k1 k7 (pw_cv k14.1 (b_add k14 b2 (by simp) _) (fun _ J5 b3 => ?_))
          refine pw_gR k1 k7 (pw_cv k14.1 (b_add k14 b3 (by simp) _) (fun _ J6 b4 => ?_))
          have ht2 : isL J2 1266 (A.2.1 0 0) := isL_same g1.1.1.2.1.1 (g2.2.2 _ (by decide)) (g2.2.2 _ (by decide))
          have ht6 : isL J6 1266 (A.2.1 0 0) := isL_same ht2 (b4.2 _ (by decide) (by decide)) (b4.2 _ (by decide) (by decide))
          refine pw_gR k1 k7 (pw_gR k1 k3 (pw_gR k1 k3 (gB k10 ht6 ?_)))
          refine pw_cv k14.1 (b_addFrom k14 b4 k10 ht2 t2 (by decide) 0 _ (by omega) (by simp; omega)) (fun _ J7 b5 => ?_)
          rw [List.drop_zero, List.take_length] at b5
          have e7 : [] ++ [i] ++ [j] ++ [8] ++ [A.1 9 s &&& 255] ++ A.2.1 0 0 = [i, j, 8, A.1 9 s &&& 255] ++ A.2.1 0 0 := rfl
          rw [e7] at b5
          have fr : ∀ r, r ≠ 1278 → r ≠ 1279 → J7 r = J1 r := fun r a b => by rw [b5.2 r a b, g2.2.2 r a]
          have hC7 : CInv J7 (aI A 9 s (A.1 9 s + 1)) := CInv_same g1.1 (fun r hr => fr r (by omega) (by omega))
          have h0 : ([i, j, 8, A.1 9 s &&& 255] ++ A.2.1 0 0).drop 0 = [i, j, 8, A.1 9 s &&& 255] ++ A.2.1 0 0 := rfl
          have rp := c_receivePacket (x := 0) (l := [i, j, 8, A.1 9 s &&& 255] ++ A.2.1 0 0) hS hs (CX_0 hC7) k14 (by simp; omega) (fun J B hJ _ => isL_same b5.1 (hJ.2.1 _ (by decide)) (hJ.2.1 _ (by decide))) (Or.inl rfl) (by omega)
          rw [h0] at rp
          refine pw_gR k1 k7 (pw_cl rp (fun _ J8 g8 => ?_))
          unfold q_C_letter_150
          refine pw_gR k1 k3 (pw_cv k10.1 (c_tapeClear hS g8) (fun _ J9 g9 => pw_ret ⟨rfl, g9.1, fun r hr => ?_⟩))
          rw [g9.2.1 r (by omega), fr r (by omega) (by omega), g1.2.1 r (by omega)]
        · rw [if_neg (show ¬ (1 ≤ (A.2.1 0 0).length ∧ (A.2.1 0 0).length ≤ 12) from fun q => e2 q.2)]
          exact pw_t (nI_lt (a := 12) (by omega) (by omega)) (no _ _ rfl)
      · rw [if_neg (show ¬ (1 ≤ (A.2.1 0 0).length ∧ (A.2.1 0 0).length ≤ 12) from fun q => e1 q.1)]
        exact pw_t (nI_lt (b := 1) (by omega) (by decide)) (no _ _ rfl)
theorem lp_letter (hS : Shp S) {Q : Int32 → mIm → Prop} (Ib : mIm) {n0 : Nat} (h12 : n0 ≤ 12) (a v : Int32) (fin : pw S (x_pI (xcp Ib 1283 0 1343 4 n0, S) 10 (some 1282) 77 (nI n0 + (4 : Int32)) fun M => x_cv M 10 (some 1282) (q_M_packetComes (some 1282) a M) fun _ M => some (v, M)) Q) : ∀ (k n i : Nat), i + k = n0 → k < n → pw S (q_M_letter2_91 n (some 1282) a (nI n0) v (nI i) (xcp Ib 1283 0 1343 4 i, S)) Q
  | k, 0, i, _, h => by omega
  | k, n + 1, i, hk, hn => by
    have hp := aK_in hS (r := 1343) (t := 0) (n := 16) rfl
    have ht := aK_in hS (r := 1283) (t := 0) (n := 260) rfl
    show pw S (q_M_letter2_91_b _ _ _ _ _ _ _) _
    unfold q_M_letter2_91_b
    by_cases hi : i < n0
    · refine pw_t (nI_lt hi (by omega)) (rM hS (r := 1343) rfl (rM hS (r := 1283) rfl (pw_aI i ht.1 rfl (by omega) (by omega) (pw_wI (4 + i) hp.1 (nI_add 4 i) (by omega) (by omega) ?_))))
      rw [show nI i + 1 = nI (i + 1) from nI_1 i]
      have := xcp_rd (I := Ib) (r0 := 1283) (a0 := 0) (r1 := 1343) (a1 := 4) (n := i) (Or.inl (by decide))
      rw [Nat.zero_add] at this
      rw [xcp_s (by rw [Nat.zero_add]; exact this)]
      exact lp_letter hS Ib h12 a v fin (k - 1) n (i + 1) (by omega) (by omega)
    · have : i = n0 := by omega
      subst this
      exact pw_f (nI_nlt (by omega) (by omega)) fin
theorem p_M_letter2 (hS : Shp S) (hR : RInv I A) (hV : aVi A) (hC : aCs A) (hE : aSe A) (i j : Int32) : pw S (q_M_letter2 (some 1282) i j (I, S)) (RP I (aLet A i j)) := by
  have hX := RX_0 hR
  have hm := M_k hS
  have hp := aK_in hS (r := 1343) (t := 0) (n := 16) rfl
  obtain ⟨t1, t2, t3⟩ := hR.1.2.1
  unfold q_M_letter2 aLet
  refine pw_gI hm (pw_pI hm ?_)
  rw [t1]
  have hX1 := RX_tape0 hX
  have no : ∀ R : Int32 × aT, R = (-1, aL A 0 0 []) → pw S (some ((-1 : Int32), (iput I 1282 1 0, S))) (RP I R) := by
    intro R hR
    subst hR
    exact pw_ret ⟨rfl, hX1.1, fun r hr => hX1.2.1 r (Or.inl hr)⟩
  refine pw_cl (p_M_isStation i) (fun a I2 h => ?_)
  obtain ⟨rfl, rfl⟩ := h
  cases h : sta i with
  | none => exact pw_t (by simp) (no _ rfl)
  | some s =>
    obtain ⟨hs, rfl⟩ := sta_s h
    refine pw_f (by simp) (pw_cl (p_M_isStation j) (fun a I2 h2 => ?_))
    obtain ⟨rfl, rfl⟩ := h2
    cases h2 : sta j with
    | none => exact pw_t (by simp) (no _ rfl)
    | some d =>
      refine pw_f (by simp) (pw_cl (p_M_in _ _ _) (fun v I2 h => ?_))
      obtain ⟨rfl, rfl⟩ := h
      rw [show inV (nI (A.2.1 0 0).length) 1 12 = _ from inV_nat (a := 1) (b := 12) (by omega) (by decide) (by decide)]
      dsimp only
      by_cases e1 : 1 ≤ (A.2.1 0 0).length ∧ (A.2.1 0 0).length ≤ 12
      · rw [if_pos e1, if_pos e1]
        refine pw_f (by decide) (rM hS (r := 1346) rfl (gA hS hX1 s rfl rfl hs (pw_lt (rM hS (r := 1346) rfl (gA hS hX1 s rfl rfl hs ?_)))))
        refine pw_wI s (aK_in hS (r := 1346) (t := 0) (n := 6) rfl).1 rfl (by rw [(aK_in hS (r := 1346) (t := 0) (n := 6) rfl).2]; exact hs) (by rw [(aK_in hS (r := 1346) (t := 0) (n := 6) rfl).2]; decide) ?_
        have g2 := RX_set (v := (aL A 0 0 []).1 9 s + 1) (m := s) hX1 (r := 1346) rfl (by decide)
        have eT : iput (iput I 1282 1 0) 1346 s ((aL A 0 0 []).1 9 s + 1) 1283 = I 1283 := by rw [iput_n _ _ _ (by decide), iput_n _ _ _ (by decide)]
        have eF : ∀ r, r < 1282 → iput (iput I 1282 1 0) 1346 s ((aL A 0 0 []).1 9 s + 1) r = I r := fun r hr => by rw [iput_n _ _ _ (by omega), iput_n _ _ _ (by omega)]
        generalize iput (iput I 1282 1 0) 1346 s ((aL A 0 0 []).1 9 s + 1) = I2 at *
        rw [aL_1] at g2 ⊢
        refine rM hS (r := 1343) rfl (pw_wI 0 hp.1 rfl (by omega) (by omega) (rM hS (r := 1343) rfl (pw_wI 1 hp.1 rfl (by omega) (by omega) (rM hS (r := 1343) rfl (pw_wI 2 hp.1 rfl (by omega) (by omega) (rM hS (r := 1343) rfl (pw_wI 3 hp.1 rfl (by omega) (by omega) ?_)))))))
        have e3 : ∀ r, r ≠ 1343 → iput (iput (iput (iput I2 1343 0 (nI s)) 1343 1 j) 1343 2 8) 1343 3 (A.1 9 s &&& 255) r = I2 r := fun r hr => by rw [iput_n _ _ _ hr, iput_n _ _ _ hr, iput_n _ _ _ hr, iput_n _ _ _ hr]
        have e4 : ∀ k, k < 4 → iput (iput (iput (iput I2 1343 0 (nI s)) 1343 1 j) 1343 2 8) 1343 3 (A.1 9 s &&& 255) 1343 k = ([nI s, j, 8, A.1 9 s &&& 255][k]?).getD 0 := by
          intro k hk
          rcases (show k = 0 ∨ k = 1 ∨ k = 2 ∨ k = 3 by omega) with rfl | rfl | rfl | rfl
          · rw [iput_j _ _ _ (by decide), iput_j _ _ _ (by decide), iput_j _ _ _ (by decide), iput_s]; rfl
          · rw [iput_j _ _ _ (by decide), iput_j _ _ _ (by decide), iput_s]; rfl
          · rw [iput_j _ _ _ (by decide), iput_s]; rfl
          · rw [iput_s]; rfl
        generalize iput (iput (iput (iput I2 1343 0 (nI s)) 1343 1 j) 1343 2 8) 1343 3 (A.1 9 s &&& 255) = I3 at *
        have lp := lp_letter (Q := RP I (A.1 9 s &&& 255, aL (aPkt (aI A 9 s (A.1 9 s + 1)) s ([nI s, j, 8, A.1 9 s &&& 255] ++ A.2.1 0 0)) 0 0 [])) hS I3 (n0 := (A.2.1 0 0).length) e1.2 (nI s) (A.1 9 s &&& 255) ?_ (A.2.1 0 0).length mFU 0 (by omega) (by unfold mFU; omega)
        · rw [xcp_0] at lp
          exact lp
        · refine pw_pI hm ?_
          rw [show nI (A.2.1 0 0).length + 4 = nI ((A.2.1 0 0).length + 4) from nI_add _ 4]
          have hI4 : RInv (iput (xcp I3 1283 0 1343 4 (A.2.1 0 0).length) 1282 77 (nI ((A.2.1 0 0).length + 4))) (aI (aL A 0 0 []) 9 s (A.1 9 s + 1)) := by
            refine RInv_eq g2.1 (fun r a _ _ _ _ _ _ _ _ b => by rw [iput_n _ _ _ (by omega), xcp_n b, e3 r b]) ?_ ?_ ?_
            · rw [iput_j _ _ _ (by decide), xcp_n (by decide), e3 _ (by decide)]
            · rw [iput_j _ _ _ (by decide), xcp_n (by decide), e3 _ (by decide)]
            · rw [iput_j _ _ _ (by decide), xcp_n (by decide), e3 _ (by decide)]
          have hpk : rPk (iput (xcp I3 1283 0 1343 4 (A.2.1 0 0).length) 1282 77 (nI ((A.2.1 0 0).length + 4))) ([nI s, j, 8, A.1 9 s &&& 255] ++ A.2.1 0 0) := by
            refine ⟨?_, fun k x hk => ?_, ?_⟩
            · rw [iput_s, List.length_append]
              congr 1
              show _ = 4 + _
              omega
            · rw [iput_n _ _ _ (by decide), Nat.zero_add]
              by_cases h4 : k < 4
              · rw [List.getElem?_append_left (by exact h4)] at hk
                rw [xcp_out (by omega), e4 k h4, hk]
                rfl
              · rw [List.getElem?_append_right (by simp; omega)] at hk
                have hkl := (List.getElem?_eq_some_iff.mp hk).1
                have hk4 : [nI s, j, 8, A.1 9 s &&& 255].length = 4 := rfl
                rw [hk4] at hk hkl
                have hq : k = 4 + (k - 4) := by omega
                rw [hq, xcp_in hkl, e3 1283 (by decide), eT]
                exact t2 _ x hk
            · rw [List.length_append]
              show 4 + _ ≤ 16
              omega
          have fr : ∀ r, r < 1282 → iput (xcp I3 1283 0 1343 4 (A.2.1 0 0).length) 1282 77 (nI ((A.2.1 0 0).length + 4)) r = I r := fun r hr => by rw [iput_n _ _ _ (by omega), xcp_n (by omega), e3 r (by omega), eF r hr]
          generalize iput (xcp I3 1283 0 1343 4 (A.2.1 0 0).length) 1282 77 (nI ((A.2.1 0 0).length + 4)) = I4 at *
          refine pw_cv hm (r_packetComes hS hs (RX_0 hI4) (aVi_same hV (aI_ff _ _ _ (by decide)) (aI_ff _ _ _ (by decide))) ?_ ?_ hpk) (fun _ J g => pw_ret ⟨rfl, ?_, fun r hr => ?_⟩)
          · intro l hl
            rw [aI_f _ _ _ _ (by decide)]
            exact hC l hl
          · intro s' hs' d' hd'
            rw [aI_f _ _ _ _ (by decide)]
            exact hE s' hs' d' hd'
          · have := g.1
            rw [aI_L, aPkt_L0] at this
            exact this
          · rw [g.2.1 r (Or.inl hr), fr r hr]
      · rw [if_neg e1, if_neg e1]
        exact pw_t rfl (no _ rfl)
end LE
