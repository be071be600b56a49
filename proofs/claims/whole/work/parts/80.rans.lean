/-! TAKEN: told, numbered, answers; the reference -/
section RO
variable {S : mS} {I I0 : mIm} {A : aT} {s o : Nat} {D : pD} {l : List Int32} {x nv : Nat}
theorem lp128 (hS : Shp S) {Q : Unit → mIm → Prop} (Ib : mIm) {lk z n0 : Nat} (hlk : lk < 36) (hz : z + n0 ≤ 64) (hzI : Ib 1333 lk = nI z) (hx : Ib 1282 43 = nI x) (hxl : x + 3 + n0 ≤ 90) (a b w : Int32) (fin : pw S (x_gR (xcp Ib 1313 (x + 3) 1332 (64 * lk + z) n0, S) 10 (some 1282) 66 fun a7 => x_aI (xcp Ib 1313 (x + 3) 1332 (64 * lk + z) n0, S) 0 a7 (nI lk) fun x8 => x_wI (xcp Ib 1313 (x + 3) 1332 (64 * lk + z) n0, S) a7 (nI lk) (x8 + nI n0) fun M => q_M_told_236 (some 1282) a b (nI lk) w M) Q) : ∀ (k n i : Nat), i + k = n0 → k < n → pw S (q_M_told_128 n (some 1282) a b (nI lk) w (nI n0) (nI i) (xcp Ib 1313 (x + 3) 1332 (64 * lk + z) i, S)) Q
  | k, 0, i, _, h => by omega
  | k, n + 1, i, hk, hn => by
    have hb := aK_in hS (r := 1332) (t := 0) (n := 2304) rfl
    have hs := aK_in hS (r := 1333) (t := 0) (n := 36) rfl
    have ha := aK_in hS (r := 1313) (t := 0) (n := 90) rfl
    show pw S (q_M_told_128_b _ _ _ _ _ _ _ _ _) _
    unfold q_M_told_128_b
    by_cases hi : i < n0
    · refine pw_t (nI_lt hi (by omega)) (rM hS (r := 1332) rfl (rM hS (r := 1333) rfl (pw_aI lk hs.1 rfl (by omega) (by omega) (rM hS (r := 1313) rfl (pw_gI (M_k hS) ?_)))))
      rw [xcp_n (by decide), xcp_n (by decide), hzI, hx]
      refine pw_aI (x + 3 + i) ha.1 (by rw [show nI x + 3 = nI (x + 3) from nI_add x 3, nI_add]) (by omega) (by omega) (pw_wI (64 * lk + z + i) hb.1 (by rw [show (64 : Int32) * nI lk + nI z = nI (64 * lk + z) from n_lin 64 lk z, nI_add]) (by omega) (by omega) ?_)
      rw [show nI i + 1 = nI (i + 1) from nI_1 i, xcp_s (xcp_rd (Or.inl (by decide)))]
      exact lp128 hS Ib hlk hz hzI hx hxl a b w fin (k - 1) n (i + 1) (by omega) (by omega)
    · have : i = n0 := by omega
      subst this
      exact pw_f (nI_nlt (by omega) (by omega)) fin
theorem lp197 (hS : Shp S) {Q : Unit → mIm → Prop} (Ib : mIm) {n0 : Nat} (hz : n0 ≤ 16) (hx : Ib 1282 43 = nI x) (hxl : x + 3 + n0 ≤ 90) (a b lk w : Int32) (fin : pw S (x_cv (xcp Ib 1313 (x + 3) 1343 0 n0, S) 10 (some 1282) (q_M_packetComes (some 1282) a (xcp Ib 1313 (x + 3) 1343 0 n0, S)) fun _ M => q_M_told_236 (some 1282) a b lk w M) Q) : ∀ (k n i : Nat), i + k = n0 → k < n → pw S (q_M_told_197 n (some 1282) a b lk w (nI n0) (nI i) (xcp Ib 1313 (x + 3) 1343 0 i, S)) Q
  | k, 0, i, _, h => by omega
  | k, n + 1, i, hk, hn => by
    have hb := aK_in hS (r := 1343) (t := 0) (n := 16) rfl
    have ha := aK_in hS (r := 1313) (t := 0) (n := 90) rfl
    show pw S (q_M_told_197_b _ _ _ _ _ _ _ _ _) _
    unfold q_M_told_197_b
    by_cases hi : i < n0
    · refine pw_t (nI_lt hi (by omega)) (rM hS (r := 1343) rfl (rM hS (r := 1313) rfl (pw_gI (M_k hS) ?_)))
      rw [xcp_n (by decide), hx]
      refine pw_aI (x + 3 + i) ha.1 (by rw [show nI x + 3 = nI (x + 3) from nI_add x 3, nI_add]) (by omega) (by omega) (pw_wI i hb.1 rfl (by omega) (by omega) ?_)
      rw [show nI i + 1 = nI (i + 1) from nI_1 i]
      have := xcp_s (I := Ib) (r0 := 1313) (a0 := x + 3) (r1 := 1343) (a1 := 0) (n := i) (v := xcp Ib 1313 (x + 3) 1343 0 i 1313 (x + 3 + i)) (xcp_rd (Or.inl (by decide)))
      rw [Nat.zero_add] at this
      rw [this]
      exact lp197 hS Ib hz hx hxl a b lk w fin (k - 1) n (i + 1) (by omega) (by omega)
    · have : i = n0 := by omega
      subst this
      exact pw_f (nI_nlt (by omega) (by omega)) fin
theorem r_rd (hS : Shp S) (hl : isLk s o) (hX : RX I0 I A) (hV : aVi A) (w : Int32) : pw S (q_M_told_236 (some 1282) (nI s) (nI o) (nI (6 * s + o)) w (I, S)) (RU I0 (aRd A s o (if w = 0 then 0 else 16))) := by
  obtain ⟨h1, h2, h3⟩ := id hl
  unfold q_M_told_236 aRd
  refine pw_cv (M_k hS) (r_ready hS (by omega) hX) (fun v J h => ?_)
  obtain ⟨rfl, rfl⟩ := h
  exact pw_cv (M_k hS) (r_sayNumber hS hl hX hV 0 _ w) (fun _ J g => pw_ret g)
theorem aVi_cnt {w : Nat} (hV : aVi A) : aVi (cnt A s w) := aVi_same hV (aI_ff _ _ _ (by decide)) (aI_ff _ _ _ (by decide))
theorem aVi_Cal (hV : aVi A) : aVi (aCal A s o) := aVi_same hV (aCal_1 (by decide)) (aCal_1 (by decide))
theorem aVi_Pkt {p : List Int32} (hV : aVi A) : aVi (aPkt A s p) := by
  unfold aPkt
  split
  · split
    · split
      · unfold aPml
        split
        · exact hV
        · exact aVi_cnt hV
      · split
        · exact aVi_cnt hV
        · unfold aPgo
          split
          · split
            · exact aVi_cnt hV
            · have h1 : ∀ n, aVi (aP1 A s n) := by
                intro n
                unfold aP1
                split
                · exact aVi_Cal (aVi_I (aVi_I hV (Or.inr (by decide))) (Or.inr (by decide)))
                · exact hV
              unfold aP2
              split
              · exact h1 _
              · exact aVi_cnt (h1 _)
          · exact aVi_cnt hV
    · exact aVi_cnt hV
  · exact aVi_cnt hV
theorem r_told (hS : Shp S) (hl : isLk s D.1) (hX : RX I0 I A) (hD : rCx I0 D l x nv) (hV : aVi A) (hC : aCs A) (hE : aSe A) (hB : aBo A) (h0 : D.2.2 4 = 0) : pw S (q_M_told (some 1282) (nI s) (nI D.1) (nI (6 * s + D.1)) (I, S)) (RZ I0 (aTin A s D.1 D l)) := by
  obtain ⟨c1, c2, c3, c4, c5, c6, c7, c8, c9, c10, c11, ⟨c12, c13⟩, c14⟩ := id hD
  obtain ⟨⟨m0, hm0, k1⟩, k2, k3, k4, k5, k6, k7⟩ := c14.1 h0
  have hm := M_k hS
  obtain ⟨h1, h2, h3⟩ := id hl
  have hl36 : 6 * s + D.1 < 36 := by omega
  have up : ∀ {o : Option (Unit × mM)} {B : aT}, pw S o (RU I0 B) → pw S o (RZ I0 B) := fun h => pw_mono h (fun _ _ g => RX_RY g)
  unfold q_M_told aTin
  refine pw_gI hm (pw_gI hm (rM hS (r := 1322) rfl (gA hS hX (6 * s + D.1) rfl rfl (by omega) ?_)))
  rw [rx82 hX (j := 45) (by decide), rx82 hX (j := 41) (by decide), k2]
  refine pw_ite (P := RZ I0) (fun e1 => ?_) (fun e1 => ?_)
  · refine pw_cv hm (r_isBusy hS hl36 hX) (fun v J h => ?_)
    obtain ⟨rfl, rfl⟩ := h
    refine pw_ite (P := RZ I0) (fun e2 => ?_) (fun e2 => up ?_)
    · refine rM hS (r := 1322) rfl (rM hS (r := 1322) rfl (gA hS hX (6 * s + D.1) rfl rfl (by omega) (sA hS hX (6 * s + D.1) rfl (by decide) rfl (by omega) (fun J1 g1 => rM hS (r := 1326) rfl (sZ hS g1 (6 * s + D.1) rfl (by decide) (Or.inl rfl) rfl (by omega) (fun J2 g2 => ?_))))))
      obtain ⟨a1, a2⟩ := rAt_x c1 g2
      have h90 := c1.2.2
      refine pw_gI hm (pw_gI hm (pw_lt ?_))
      rw [a1, rx82 g2 (j := 43) (by decide), c4]
      have en : nI l.length - nI x - 3 = nI (l.length - (x + 3)) := by
        rw [pk_sub (by omega), show nI (l.length - x) - 3 = nI (l.length - x - 3) from pk_sub (b := 3) (by omega)]
        congr 1
      rw [en]
      refine rM hS (r := 1313) rfl (pw_gI hm ?_)
      rw [rx82 g2 (j := 43) (by decide), c4]
      refine rAt_g hS c1 g2 (x + 2) (nI_add x 2) (by omega) ?_
      rw [k6]
      have hV2 : aVi (aI (aI A 26 (6 * s + D.1) ((A.1 26 (6 * s + D.1) + 1) &&& 7)) 30 (6 * s + D.1) 0) := aVi_I (aVi_I hV (Or.inl (by decide))) (Or.inl (by decide))
      have hdl : (l.drop D.2.1).length = l.length - (x + 3) := by rw [List.length_drop, k3]
      unfold aTi2
      have e2' := bsy_0.mp e2
      by_cases e3 : D.2.2 8 = 240
      · rw [if_pos e3, if_neg (by rw [e3]; decide)]
        have i1 := (g2.1.2.2.2.2 _ hl36).2.1
        have hz : J2 1333 (6 * s + D.1) = nI (A.2.1 11 (6 * s + D.1)).length := i1.1
        have hi2 : (A.2.1 11 (6 * s + D.1)).length ≤ 64 := i1.2.1
        have hi3 : fL J2 1332 (64 * (6 * s + D.1)) (A.2.1 11 (6 * s + D.1)) := i1.2.2
        have hzk := aK_in hS (r := 1333) (t := 0) (n := 36) rfl
        have lp := lp128 (Q := RZ I0 (aRd (aL (aI (aI A 26 (6 * s + D.1) ((A.1 26 (6 * s + D.1) + 1) &&& 7)) 30 (6 * s + D.1) 0) 11 (6 * s + D.1) (A.2.1 11 (6 * s + D.1) ++ l.drop D.2.1)) s D.1 (D.2.2 5))) hS J2 (lk := 6 * s + D.1) (z := (A.2.1 11 (6 * s + D.1)).length) (n0 := l.length - (x + 3)) (x := x) hl36 (by omega) hz (by rw [rx82 g2 (by decide)]; exact c4) (by omega) (nI s) (nI D.1) (I0 1282 45) ?_ (l.length - (x + 3)) mFU 0 (by omega) (by unfold mFU; omega)
        · rw [xcp_0] at lp
          exact lp
        · refine rM hS (r := 1333) rfl (pw_aI (6 * s + D.1) hzk.1 rfl (by omega) (by omega) (pw_wI (6 * s + D.1) hzk.1 rfl (by omega) (by omega) ?_))
          rw [xcp_n (by decide), hz, nI_add]
          have hX3 : RX I0 (iput (xcp J2 1313 (x + 3) 1332 (64 * (6 * s + D.1) + (A.2.1 11 (6 * s + D.1)).length) (l.length - (x + 3))) 1333 (6 * s + D.1) (nI ((A.2.1 11 (6 * s + D.1)).length + (l.length - (x + 3))))) (aL (aI (aI A 26 (6 * s + D.1) ((A.1 26 (6 * s + D.1) + 1) &&& 7)) 30 (6 * s + D.1) 0) 11 (6 * s + D.1) (A.2.1 11 (6 * s + D.1) ++ l.drop D.2.1)) := by
            refine RX_11 g2 hl36 (fun r q1 q2 => by rw [iput_n _ _ _ q2, xcp_n q1]) (fun k hk => by rw [iput_j _ _ _ hk, xcp_n (by decide)]) (fun j hj => by rw [iput_n _ _ _ (by decide), xcp_out (by omega)]) (by rw [iput_s, List.length_append, hdl]) (by rw [List.length_append, hdl]; omega) (fun j y hj => ?_)
            rw [iput_n _ _ _ (by decide)]
            by_cases hj2 : j < (A.2.1 11 (6 * s + D.1)).length
            · rw [List.getElem?_append_left hj2] at hj
              rw [xcp_out (by omega)]
              exact hi3 j y hj
            · rw [List.getElem?_append_right (by omega), List.getElem?_drop, k3] at hj
              have hjl := (List.getElem?_eq_some_iff.mp hj).1
              have e9 : 64 * (6 * s + D.1) + j = 64 * (6 * s + D.1) + (A.2.1 11 (6 * s + D.1)).length + (j - (A.2.1 11 (6 * s + D.1)).length) := by omega
              rw [e9, xcp_in (by omega)]
              have := a2 _ y hj
              rw [Nat.zero_add] at this
              exact this
          rw [c7]
          exact up (r_rd hS hl hX3 (aVi_same hV2 rfl rfl) _)
      · have e4 : D.2.2 8 = 207 := k7.resolve_left e3
        rw [if_neg e3, if_pos e4]
        refine pw_pI hm ?_
        have hx43 : iput J2 1282 77 (nI (l.length - (x + 3))) 1282 43 = nI x := by rw [iput_j _ _ _ (by decide), rx82 g2 (by decide)]; exact c4
        have lp := lp197 (Q := RZ I0 (aRd (aPkt (aI (aI A 26 (6 * s + D.1) ((A.1 26 (6 * s + D.1) + 1) &&& 7)) 30 (6 * s + D.1) 0) s (l.drop D.2.1)) s D.1 (D.2.2 5))) hS (iput J2 1282 77 (nI (l.length - (x + 3)))) (n0 := l.length - (x + 3)) (x := x) (by omega) hx43 (by omega) (nI s) (nI D.1) (nI (6 * s + D.1)) (I0 1282 45) ?_ (l.length - (x + 3)) mFU 0 (by omega) (by unfold mFU; omega)
        · rw [xcp_0] at lp
          exact lp
        · have hR3 : RInv (xcp (iput J2 1282 77 (nI (l.length - (x + 3)))) 1313 (x + 3) 1343 0 (l.length - (x + 3))) (aI (aI A 26 (6 * s + D.1) ((A.1 26 (6 * s + D.1) + 1) &&& 7)) 30 (6 * s + D.1) 0) := by
            refine RInv_eq g2.1 (fun r q1 _ _ _ _ _ _ _ _ q2 => by rw [xcp_n q2, iput_n _ _ _ (by omega)]) ?_ ?_ ?_
            · rw [xcp_n (by decide), iput_j _ _ _ (by decide)]
            · rw [xcp_n (by decide), iput_j _ _ _ (by decide)]
            · rw [xcp_n (by decide), iput_j _ _ _ (by decide)]
          have hpk : rPk (xcp (iput J2 1282 77 (nI (l.length - (x + 3)))) 1313 (x + 3) 1343 0 (l.length - (x + 3))) (l.drop D.2.1) := by
            refine ⟨by rw [xcp_n (by decide), iput_s, hdl], ?_, by omega⟩
            have h5 : fL (iput J2 1282 77 (nI (l.length - (x + 3)))) 1313 (x + 3) (l.drop D.2.1) := by
              have := fL_drop (c := D.2.1) a2
              rw [Nat.zero_add, k3] at this
              rw [k3]
              unfold fL at this ⊢
              rw [iput_n _ _ _ (by decide)]
              exact this
            have := xcp_fL (r1 := 1343) (a1 := 0) (n := l.length - (x + 3)) h5
            rw [List.take_of_length_le (by omega)] at this
            exact this
          have fr : ∀ r, (r < 1282 ∨ r = 1312) → xcp (iput J2 1282 77 (nI (l.length - (x + 3)))) 1313 (x + 3) 1343 0 (l.length - (x + 3)) r = I0 r := fun r hr => by
            rw [xcp_n (by omega), iput_n _ _ _ (by omega)]
            exact g2.2.1 r (by unfold kp; omega)
          generalize xcp (iput J2 1282 77 (nI (l.length - (x + 3)))) 1313 (x + 3) 1343 0 (l.length - (x + 3)) = I4 at *
          have hC2 : aCs (aI (aI A 26 (6 * s + D.1) ((A.1 26 (6 * s + D.1) + 1) &&& 7)) 30 (6 * s + D.1) 0) := aCs_I (aCs_I hC (Or.inl (by decide))) (Or.inl (by decide))
          have hE2 : aSe (aI (aI A 26 (6 * s + D.1) ((A.1 26 (6 * s + D.1) + 1) &&& 7)) 30 (6 * s + D.1) 0) := fun s' hs' d' hd' => by
            rw [aI_f _ _ _ _ (by decide), aI_f _ _ _ _ (by decide)]
            exact hE s' hs' d' hd'
          refine pw_cv hm (r_packetComes hS h1 (RX_0 hR3) hV2 hC2 hE2 hpk) (fun _ J5 g5 => ?_)
          rw [c7]
          refine pw_mono (r_rd hS hl g5 (aVi_Pkt hV2) _) (fun _ J6 g6 => ⟨g6.1, fun r hr => ?_⟩)
          rw [g6.2.1 r (by unfold kp; omega), fr r hr]
    · unfold aRd
      have er : rdy A (6 * s + D.1) = 5 := by rw [rdy_b, if_neg e2]
      rw [er, c7]
      exact pw_cv hm (r_sayNumber hS hl hX hV 0 5 _) (fun _ J g => pw_ret g)
  · refine rM hS (r := 1326) rfl (gA hS hX (6 * s + D.1) rfl rfl (by omega) ?_)
    unfold q_M_told_44
    refine pw_ite (P := RZ I0) (fun e2 => up ?_) (fun e2 => up ?_)
    · rw [c7]
      exact pw_cv hm (r_sayNumber hS hl hX hV 0 9 _) (fun _ J1 g1 => rM hS (r := 1326) rfl (sZ hS g1 (6 * s + D.1) rfl (by decide) (Or.inr rfl) rfl (by omega) (fun J2 g2 => pw_ret g2)))
    · refine rM hS (r := 1326) rfl (sZ hS hX (6 * s + D.1) rfl (by decide) (Or.inr rfl) rfl (by omega) (fun J2 g2 => pw_ret ?_))
      rw [aI_self A ((hB _ hl36).resolve_left e2)] at g2
      exact g2
theorem r_numbered (hS : Shp S) (hl : isLk s D.1) (hX : RX I0 I A) (hD : rCx I0 D l x nv) (hV : aVi A) (hC : aCs A) (hE : aSe A) (hB : aBo A) (hN : aSn A) (hk4 : D.2.2 4 ≠ 47 ∧ D.2.2 4 ≠ 67 ∧ D.2.2 4 ≠ 15 ∧ D.2.2 4 ≠ 99) : pw S (q_M_numbered (some 1282) (nI s) (nI D.1) (nI (6 * s + D.1)) (I, S)) (RZ I0 (if (aAck A s D.1 (D.2.2 6)).1 = 0 then (aAck A s D.1 (D.2.2 6)).2 else if D.2.2 4 = 0 then aTin (aAck A s D.1 (D.2.2 6)).2 s D.1 D l else aSup (aAck A s D.1 (D.2.2 6)).2 s D.1 (D.2.2 3) (D.2.2 5) (D.2.2 4))) := by
  obtain ⟨c1, c2, c3, c4, c5, c6, c7, c8, c9, c10, c11, ⟨c12, c13⟩, c14⟩ := id hD
  obtain ⟨n0, n1, n2, n3, n4, n5, n6, n7⟩ := id c14
  have hm := M_k hS
  obtain ⟨h1, h2, h3⟩ := id hl
  have hl36 : 6 * s + D.1 < 36 := by omega
  have hsn := hN (6 * s + D.1) hl36
  have hr := n7 hk4.1 hk4.2.1 hk4.2.2.1 hk4.2.2.2
  have up : ∀ {o : Option (Unit × mM)} {B : aT}, pw S o (RU I0 B) → pw S o (RZ I0 B) := fun h => pw_mono h (fun _ _ g => RX_RY g)
  have a1 : ∀ {g : Nat}, ((g < 20 ∧ g ≠ 8) ∨ 31 < g ∨ g = 21 ∨ g = 22 ∨ g = 23) → (aAck A s D.1 (D.2.2 6)).2.1 g = A.1 g := fun h => aAck_1 h
  have hV2 : aVi (aAck A s D.1 (D.2.2 6)).2 := aVi_same hV (a1 (by decide)) (a1 (by decide))
  have hC2 : aCs (aAck A s D.1 (D.2.2 6)).2 := fun l hl => by rw [a1 (by decide)]; exact hC l hl
  have hE2 : aSe (aAck A s D.1 (D.2.2 6)).2 := fun s' hs' d' hd' => by rw [a1 (by decide)]; exact hE s' hs' d' hd'
  have hq : ∀ (J : mIm), (aAck A s D.1 (D.2.2 6)).1 ≠ 0 → aBo (aAck A s D.1 (D.2.2 6)).2 → RX I0 J (aAck A s D.1 (D.2.2 6)).2 → pw S (q_M_numbered_259 (some 1282) (nI s) (nI D.1) (nI (6 * s + D.1)) (J, S)) (RZ I0 (if (aAck A s D.1 (D.2.2 6)).1 = 0 then (aAck A s D.1 (D.2.2 6)).2 else if D.2.2 4 = 0 then aTin (aAck A s D.1 (D.2.2 6)).2 s D.1 D l else aSup (aAck A s D.1 (D.2.2 6)).2 s D.1 (D.2.2 3) (D.2.2 5) (D.2.2 4))) := by
    intro J hne hB2 hJ
    rw [if_neg hne]
    unfold q_M_numbered_259
    refine pw_gI hm ?_
    rw [rx82 hJ (by decide)]
    by_cases e0 : D.2.2 4 = 0
    · rw [if_pos e0]
      obtain ⟨⟨m, hm1, hm2⟩, -⟩ := n0 e0
      refine pw_rm (n := 2 * m) (d := 2) hm2 rfl (by omega) (by decide) (by decide) ?_
      rw [show 2 * m % 2 = 0 by omega]
      exact pw_t rfl (pw_cv hm (r_told hS hl hJ hD hV2 hC2 hE2 hB2 e0) (fun _ J g => pw_ret g))
    · rw [if_neg e0]
      obtain ⟨m, hm1, hm2⟩ := n1 e0
      refine pw_rm (n := 2 * m + 1) (d := 2) hm2 rfl (by omega) (by decide) (by decide) ?_
      rw [show (2 * m + 1) % 2 = 1 by omega]
      refine pw_f (by decide) (pw_gI hm ?_)
      rw [rx82 hJ (by decide), n6 e0 hk4.1 hk4.2.1 hk4.2.2.1 hk4.2.2.2]
      exact up (pw_cv hm (r_supervised hS hl hJ hD hV2) (fun _ J g => pw_ret g))
  unfold q_M_numbered
  refine rM hS (r := 1313) rfl (pw_gI hm ?_)
  rw [rx82 hX (by decide), c4]
  refine rAt_g hS c1 hX x rfl c5 (pw_lt ?_)
  rw [hr]
  refine rM hS (r := 1321) rfl (gA hS hX (6 * s + D.1) rfl rfl (by omega) (pw_lt (rM hS (r := 1320) rfl (gA hS hX (6 * s + D.1) rfl rfl (by omega) (rM hS (r := 1321) rfl (gA hS hX (6 * s + D.1) rfl rfl (by omega) ?_))))))
  by_cases e1 : ((A.1 24 (6 * s + D.1) - A.1 25 (6 * s + D.1)) &&& 7) < ((D.2.2 6 - A.1 25 (6 * s + D.1)) &&& 7)
  · have ea : aAck A s D.1 (D.2.2 6) = (0, aDn (aSay A s D.1 15 0) (6 * s + D.1)) := by unfold aAck; rw [if_pos e1]
    rw [if_pos e1, ea]
    rw [if_pos (show ((0 : Int32), aDn (aSay A s D.1 15 0) (6 * s + D.1)).1 = 0 from rfl)]
    exact up (pw_cv hm (r_say hS hl hX hV 15 0) (fun _ J1 g1 => pw_cv hm (r_goDown hS hl36 g1) (fun _ J2 g2 => pw_ret g2)))
  · rw [if_neg e1]
    obtain ⟨g, hg8, eg⟩ := and_7 (D.2.2 6 - A.1 25 (6 * s + D.1))
    obtain ⟨z1, z2, z3⟩ := (hX.1.2.2.2.2 _ hl36).2.2.2
    have hgz : g ≤ (A.2.2 3 (6 * s + D.1)).length := by
      rw [eg, hsn] at e1
      rcases Nat.lt_or_ge (A.2.2 3 (6 * s + D.1)).length g with q | q
      · exact absurd (nI_lt q (by omega)) e1
      · exact q
    rw [eg]
    have lp := lp67 (Q := RZ I0 (if (aAck A s D.1 (D.2.2 6)).1 = 0 then (aAck A s D.1 (D.2.2 6)).2 else if D.2.2 4 = 0 then aTin (aAck A s D.1 (D.2.2 6)).2 s D.1 D l else aSup (aAck A s D.1 (D.2.2 6)).2 s D.1 (D.2.2 3) (D.2.2 5) (D.2.2 4))) hS I (lk := 6 * s + D.1) (g := g) (z := (A.2.2 3 (6 * s + D.1)).length) hl36 z2 hgz z1 (nI s) (nI D.1) (D.2.2 6) ?_ ((A.2.2 3 (6 * s + D.1)).length - g) mFU 0 I (by omega) (by unfold mFU; omega) (fun _ _ _ _ => rfl) (by rw [Nat.mul_zero, xcp_0]) (by rw [xcp_0]) (by rw [xcp_0])
    · exact lp
    · intro J j1 j2 j3 j4
      have hsk := aK_in hS (r := 1340) (t := 0) (n := 36) rfl
      refine rM hS (r := 1340) rfl (pw_aI (6 * s + D.1) hsk.1 rfl (by omega) (by omega) (pw_wI (6 * s + D.1) hsk.1 rfl (by omega) (by omega) ?_))
      rw [j1 1340 (by decide) (by decide) (by decide), z1, show nI (A.2.2 3 (6 * s + D.1)).length - nI g = nI ((A.2.2 3 (6 * s + D.1)).length - g) from pk_sub hgz]
      have hX1 : RX I0 (iput J 1340 (6 * s + D.1) (nI ((A.2.2 3 (6 * s + D.1)).length - g))) (aQ A 3 (6 * s + D.1) ((A.2.2 3 (6 * s + D.1)).drop g)) := by
        refine RX_3 hX hl36 (fun r q1 q2 q3 q4 => by rw [iput_n _ _ _ q4, j1 r q1 q2 q3]) (fun k hk => by rw [iput_j _ _ _ hk, j1 1340 (by decide) (by decide) (by decide)]) (fun j hj => ⟨?_, ?_⟩) (fun j hj => ?_) ?_ ?_ (fun i p hp => ?_)
        · rw [iput_n _ _ _ (by decide), j3, xcp_out (by omega)]
        · rw [iput_n _ _ _ (by decide), j4, xcp_out (by omega)]
        · rw [iput_n _ _ _ (by decide), j2, xcp_out (by omega)]
        · rw [iput_s, List.length_drop]
        · rw [List.length_drop]; omega
        · rw [List.getElem?_drop] at hp
          have hil := (List.getElem?_eq_some_iff.mp hp).1
          obtain ⟨a, t, p0, p1, p2, p3, p4⟩ := z3 _ p hp
          refine ⟨a, t, p0, p1, ?_, ?_, fun j y hj => ?_⟩
          · rw [iput_n _ _ _ (by decide), j4, xcp_in (by omega), Nat.add_assoc]; exact p2
          · rw [iput_n _ _ _ (by decide), j3, xcp_in (by omega), Nat.add_assoc]; exact p3
          · have hjl := (List.getElem?_eq_some_iff.mp hj).1
            have e9 : 64 * (6 * s + D.1) + 16 * i + j = 64 * (6 * s + D.1) + (16 * i + j) := by omega
            have e8 : 64 * (6 * s + D.1) + 16 * g + (16 * i + j) = 64 * (6 * s + D.1) + 16 * (g + i) + j := by omega
            rw [iput_n _ _ _ (by decide), j2, e9, xcp_in (by omega), e8]
            exact p4 j y hj
      generalize iput J 1340 (6 * s + D.1) (nI ((A.2.2 3 (6 * s + D.1)).length - g)) = J1 at hX1
      refine rM hS (r := 1321) rfl (sA hS hX1 (6 * s + D.1) rfl (by decide) rfl (by omega) (fun J2 g2 => ?_))
      by_cases e2 : 0 < nI g
      · have ea : aAck A s D.1 (D.2.2 6) = (1, aAc2 (aI (aQ A 3 (6 * s + D.1) ((A.2.2 3 (6 * s + D.1)).drop g)) 25 (6 * s + D.1) (D.2.2 6)) s D.1) := by
          unfold aAck
          rw [if_neg e1, eg, if_pos e2, nI_clamp (by omega)]
        have hB2 : aBo (aAck A s D.1 (D.2.2 6)).2 := by
          rw [ea]
          intro l hl
          show (aAc2 _ _ _).1 30 l = 0 ∨ (aAc2 _ _ _).1 30 l = 1
          unfold aAc2
          rw [aI_f _ _ _ _ (by decide), aI_f _ _ _ _ (by decide), aI_f _ _ _ _ (by decide), aQ_1]
          exact hB l hl
        refine pw_t e2 (rM hS (r := 1324) rfl (sA hS g2 (6 * s + D.1) rfl (by decide) rfl (by omega) (fun J3 g3' => ?_)))
        refine rM hS (r := 1323) rfl (rM hS (r := 1340) rfl (g3 hS g3' hl36 ?_))
        rw [aI_2, aI_2]
        have h4 : ((aQ A 3 (6 * s + D.1) ((A.2.2 3 (6 * s + D.1)).drop g)).2.2 3 (6 * s + D.1)).length ≤ 4 := by rw [aQ_s, List.length_drop]; omega
        have m258 : ∀ v : Int32, v = (if ((aQ A 3 (6 * s + D.1) ((A.2.2 3 (6 * s + D.1)).drop g)).2.2 3 (6 * s + D.1)).length = 0 then (if (aI (aQ A 3 (6 * s + D.1) ((A.2.2 3 (6 * s + D.1)).drop g)) 25 (6 * s + D.1) (D.2.2 6)).1 29 (6 * s + D.1) = 0 then 0 else (aI (aQ A 3 (6 * s + D.1) ((A.2.2 3 (6 * s + D.1)).drop g)) 25 (6 * s + D.1) (D.2.2 6)).1 1 (9 * s + 4)) else (aI (aQ A 3 (6 * s + D.1) ((A.2.2 3 (6 * s + D.1)).drop g)) 25 (6 * s + D.1) (D.2.2 6)).1 1 (9 * s + 4)) → pw S (q_M_numbered_258 (some 1282) (nI s) (nI D.1) (nI (6 * s + D.1)) v (nI (6 * s + D.1)) (some 1323) (J3, S)) (RZ I0 (if (aAck A s D.1 (D.2.2 6)).1 = 0 then (aAck A s D.1 (D.2.2 6)).2 else if D.2.2 4 = 0 then aTin (aAck A s D.1 (D.2.2 6)).2 s D.1 D l else aSup (aAck A s D.1 (D.2.2 6)).2 s D.1 (D.2.2 3) (D.2.2 5) (D.2.2 4))) := by
          intro v hv
          unfold q_M_numbered_258
          refine sA hS g3' (6 * s + D.1) rfl (by decide) rfl (by omega) (fun J4 g4 => hq J4 (by rw [ea]; exact (by decide : (1 : Int32) ≠ 0)) hB2 ?_)
          rw [ea]
          show RX I0 J4 (aAc2 _ _ _)
          unfold aAc2
          rw [hv] at g4
          exact g4
        have m243 : ((aQ A 3 (6 * s + D.1) ((A.2.2 3 (6 * s + D.1)).drop g)).2.2 3 (6 * s + D.1)).length ≠ 0 ∨ (aI (aQ A 3 (6 * s + D.1) ((A.2.2 3 (6 * s + D.1)).drop g)) 25 (6 * s + D.1) (D.2.2 6)).1 29 (6 * s + D.1) ≠ 0 → pw S (q_M_numbered_243 (some 1282) (nI s) (nI D.1) (nI (6 * s + D.1)) (nI (6 * s + D.1)) (some 1323) (J3, S)) (RZ I0 (if (aAck A s D.1 (D.2.2 6)).1 = 0 then (aAck A s D.1 (D.2.2 6)).2 else if D.2.2 4 = 0 then aTin (aAck A s D.1 (D.2.2 6)).2 s D.1 D l else aSup (aAck A s D.1 (D.2.2 6)).2 s D.1 (D.2.2 3) (D.2.2 5) (D.2.2 4))) := by
          intro hor
          unfold q_M_numbered_243
          refine rM hS (r := 1294) rfl (gA hS g3' (9 * s + 4) rfl (n_lin 9 s 4) (by omega) (m258 _ ?_))
          rw [aI_f (f := 28) (g := 1) _ _ _ _ (by decide)]
          by_cases q1 : ((aQ A 3 (6 * s + D.1) ((A.2.2 3 (6 * s + D.1)).drop g)).2.2 3 (6 * s + D.1)).length = 0
          · rw [if_pos q1, if_neg (hor.resolve_left (fun q => q q1))]
          · rw [if_neg q1]
        by_cases e3 : ((aQ A 3 (6 * s + D.1) ((A.2.2 3 (6 * s + D.1)).drop g)).2.2 3 (6 * s + D.1)).length = 0
        · rw [e3]
          refine pw_f (by decide) (rM hS (r := 1325) rfl (gA hS g3' (6 * s + D.1) rfl rfl (by omega) ?_))
          rw [aI_f (f := 28) (g := 29) _ _ _ _ (by decide)]
          by_cases e4 : (aI (aQ A 3 (6 * s + D.1) ((A.2.2 3 (6 * s + D.1)).drop g)) 25 (6 * s + D.1) (D.2.2 6)).1 29 (6 * s + D.1) = 0
          · exact pw_t e4 (m258 0 (by rw [if_pos e3, if_pos e4]))
          · exact pw_f e4 (m243 (Or.inr e4))
        · exact pw_t (by rw [← nI_0]; exact nI_lt (by omega) (by omega)) (m243 (Or.inl e3))
      · have ea : aAck A s D.1 (D.2.2 6) = (1, aI (aQ A 3 (6 * s + D.1) ((A.2.2 3 (6 * s + D.1)).drop g)) 25 (6 * s + D.1) (D.2.2 6)) := by
          unfold aAck
          rw [if_neg e1, eg, if_neg e2, nI_clamp (by omega)]
        have hB2 : aBo (aAck A s D.1 (D.2.2 6)).2 := by
          rw [ea]
          intro l hl
          show (aI _ _ _ _).1 30 l = 0 ∨ (aI _ _ _ _).1 30 l = 1
          rw [aI_f _ _ _ _ (by decide), aQ_1]
          exact hB l hl
        refine pw_f e2 (hq J2 (by rw [ea]; exact (by decide : (1 : Int32) ≠ 0)) hB2 ?_)
        rw [ea]
        exact g2
/-- MODES are these four -/
def aMo (A : aT) : Prop := ∀ l, l < 36 → A.1 20 l = 0 ∨ A.1 20 l = 1 ∨ A.1 20 l = 2 ∨ A.1 20 l = 3
theorem r_answers (hS : Shp S) (hl : isLk s D.1) (hX : RX I0 I A) (hD : rCx I0 D l x nv) (hV : aVi A) (hC : aCs A) (hE : aSe A) (hB : aBo A) (hN : aSn A) (hM : aMo A) : pw S (q_M_answers (some 1282) (nI s) (I, S)) (RZ I0 (aTo A s D l)) := by
  obtain ⟨c1, c2, c3, c4, c5, c6, c7, c8, c9, c10, c11, ⟨c12, c13⟩, c14⟩ := id hD
  obtain ⟨n0, n1, n2, n3, n4, n5, n6, n7⟩ := id c14
  have hm := M_k hS
  obtain ⟨h1, h2, h3⟩ := id hl
  have hl36 : 6 * s + D.1 < 36 := by omega
  have up : ∀ {o : Option (Unit × mM)} {B : aT}, pw S o (RU I0 B) → pw S o (RZ I0 B) := fun h => pw_mono h (fun _ _ g => RX_RY g)
  unfold q_M_answers aTo
  refine pw_gI hm (pw_lt (pw_gI hm ?_))
  rw [rx82 hX (j := 39) (by decide), rx82 hX (j := 41) (by decide), c2, show (6 : Int32) * nI s + nI D.1 = nI (6 * s + D.1) from n_lin 6 s _]
  have c41 : I 1282 41 = I0 1282 41 := rx82 hX (by decide)
  by_cases e47 : D.2.2 4 = 47
  · rw [if_pos (n2.mpr e47), if_pos e47]
    exact up (pw_cv hm (r_comesUp hS hl hX hD) (fun _ J g => pw_ret g))
  · rw [if_neg (fun q => e47 (n2.mp q)), if_neg e47]
    have dm : pw S (q_M_answers_50 (some 1282) (nI s) (I, S)) (RZ I0 (aDm A s D)) := by
      unfold q_M_answers_50 aDm
      refine pw_gI hm ?_
      rw [rx82 hX (by decide), c6]
      refine pw_ite (P := RZ I0) (fun _ => pw_ret (RX_RY hX)) (fun _ => up (pw_cv hm (r_answer hS hl hX hD 15) (fun _ J g => pw_ret g)))
    refine pw_gI hm (rM hS (r := 1319) rfl (gA hS hX (6 * s + D.1) rfl rfl (by omega) ?_))
    rw [rx82 hX (by decide), c3]
    refine pw_ite (P := RZ I0) (fun e1 => ?_) (fun _ => dm)
    refine rM hS (r := 1316) rfl (gA hS hX (6 * s + D.1) rfl rfl (by omega) ?_)
    refine pw_ite (P := RZ I0) (fun _ => dm) (fun e2 => ?_)
    refine rM hS (r := 1316) rfl (gA hS hX (6 * s + D.1) rfl rfl (by omega) ?_)
    by_cases em1 : A.1 20 (6 * s + D.1) = 1
    · rw [if_pos em1, if_neg (by rw [em1]; decide)]
      unfold aWai
      refine pw_gI hm ?_
      rw [c41]
      by_cases k99 : D.2.2 4 = 99
      · rw [if_pos (n5.mpr k99), if_neg (by rw [k99]; decide), if_pos k99, if_neg (by rw [em1]; decide)]
        exact up (rM hS (r := 1316) rfl (sA hS hX (6 * s + D.1) rfl (by decide) rfl (by omega) (fun J1 g1 => rM hS (r := 1323) rfl (sA hS g1 (6 * s + D.1) rfl (by decide) rfl (by omega) (fun J2 g2 => rM hS (r := 1324) rfl (sA hS g2 (6 * s + D.1) rfl (by decide) rfl (by omega) (fun J3 g3 => pw_ret g3)))))))
      · rw [if_neg (fun q => k99 (n5.mp q))]
        refine pw_gI hm ?_
        rw [c41]
        by_cases k15 : D.2.2 4 = 15
        · rw [if_pos (n4.mpr k15), if_pos k15]
          exact up (pw_cv hm (r_goDown hS hl36 hX) (fun _ J g => pw_ret g))
        · rw [if_neg (fun q => k15 (n4.mp q)), if_neg k15, if_neg k99, if_neg (show ¬ A.1 20 (6 * s + D.1) = 3 by rw [em1]; decide)]
          rw [ite_self]
          exact pw_ret (RX_RY hX)
    · rw [if_neg em1]
      refine rM hS (r := 1316) rfl (gA hS hX (6 * s + D.1) rfl rfl (by omega) ?_)
      by_cases em3 : A.1 20 (6 * s + D.1) = 3
      · rw [if_pos em3, if_neg (by rw [em3]; decide)]
        unfold aWai
        refine pw_gI hm ?_
        rw [c41]
        unfold q_M_answers_155
        by_cases k99 : D.2.2 4 = 99
        · rw [if_pos (n5.mpr k99), if_neg (by rw [k99]; decide), if_pos k99, if_pos em3]
          exact up (pw_cv hm (r_goDown hS hl36 hX) (fun _ J g => pw_ret g))
        · rw [if_neg (fun q => k99 (n5.mp q))]
          refine pw_gI hm ?_
          rw [c41]
          by_cases k15 : D.2.2 4 = 15
          · rw [if_pos (n4.mpr k15), if_pos k15]
            exact up (pw_cv hm (r_goDown hS hl36 hX) (fun _ J g => pw_ret g))
          · rw [if_neg (fun q => k15 (n4.mp q)), if_neg k15, if_neg k99]
            refine pw_gI hm ?_
            rw [c41]
            by_cases k67 : D.2.2 4 = 67
            · rw [if_pos (n3.mpr k67), if_pos k67, if_pos em3]
              refine pw_gI hm (pw_gI hm ?_)
              rw [rx82 hX (j := 39) (by decide), rx82 hX (j := 45) (by decide), c2, c7]
              unfold q_M_answers_194
              by_cases e45 : I0 1282 45 = 0
              · rw [if_pos e45, if_pos e45]
                exact up (pw_cv hm (r_say hS hl hX hV _ 0) (fun _ J g => pw_ret g))
              · rw [if_neg e45, if_neg e45]
                exact up (pw_cv hm (r_say hS hl hX hV _ 0) (fun _ J g => pw_ret g))
            · rw [if_neg (fun q => k67 (n3.mp q)), if_neg k67]
              exact pw_ret (RX_RY hX)
      · rw [if_neg em3]
        have em2 : A.1 20 (6 * s + D.1) = 2 := by
          rcases hM _ hl36 with q | q | q | q
          · exact absurd q e2
          · exact absurd q em1
          · exact q
          · exact absurd q em3
        rw [if_pos em2]
        unfold aUp
        refine pw_gI hm ?_
        rw [c41]
        by_cases k67 : D.2.2 4 = 67
        · rw [if_pos (n3.mpr k67), if_neg (by rw [k67]; decide), if_neg (by rw [k67]; decide), if_pos k67]
          refine pw_gI hm (pw_gI hm ?_)
          rw [rx82 hX (j := 39) (by decide), rx82 hX (j := 45) (by decide), c2, c7]
          unfold q_M_answers_232
          by_cases e45 : I0 1282 45 = 0
          · rw [if_pos e45, if_pos e45]
            exact up (pw_cv hm (r_say hS hl hX hV _ 0) (fun _ J1 g1 => pw_cv hm (r_goDown hS hl36 g1) (fun _ J g => pw_ret g)))
          · rw [if_neg e45, if_neg e45]
            exact up (pw_cv hm (r_say hS hl hX hV _ 0) (fun _ J1 g1 => pw_cv hm (r_goDown hS hl36 g1) (fun _ J g => pw_ret g)))
        · rw [if_neg (fun q => k67 (n3.mp q))]
          refine pw_gI hm ?_
          rw [c41]
          by_cases k15 : D.2.2 4 = 15
          · rw [if_pos (n4.mpr k15), if_neg (by rw [k15]; decide), if_pos k15]
            exact up (pw_cv hm (r_goDown hS hl36 hX) (fun _ J g => pw_ret g))
          · rw [if_neg (fun q => k15 (n4.mp q))]
            refine pw_gI hm ?_
            rw [c41]
            by_cases k99 : D.2.2 4 = 99
            · rw [if_pos (n5.mpr k99), if_neg (by rw [k99]; decide), if_neg k15, if_neg k67, if_pos k99]
              exact pw_ret (RX_RY hX)
            · rw [if_neg (fun q => k99 (n5.mp q))]
              refine pw_gI hm ?_
              rw [rx82 hX (by decide), c2]
              have hn := r_numbered hS hl hX hD hV hC hE hB hN ⟨e47, k67, k15, k99⟩
              refine pw_cv hm hn (fun _ J g => pw_ret ?_)
              by_cases e0 : D.2.2 4 = 0
              · rw [if_pos e0] at g ⊢
                exact g
              · rw [if_neg e0] at g
                rw [if_neg e0, if_neg k15, if_neg k67, if_neg k99]
                exact g
end RO
