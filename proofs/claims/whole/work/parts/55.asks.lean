/-! station, link, queued, route, best: the answers -/
def b01 (x : Int32) : Int32 := if x = 0 then 0 else 1
def aSta (A : aT) (s : Nat) (w : Int32) : Int32 := x_sw w [(0, b01 (A.1 6 s)), (1, nI (A.2.2 0 s).length), (2, b01 (A.1 4 s)), (3, A.1 5 s), (4, A.1 3 s), (5, A.1 8 (5 * s + 0)), (6, A.1 8 (5 * s + 1)), (7, A.1 8 (5 * s + 2)), (8, A.1 8 (5 * s + 3)), (9, A.1 8 (5 * s + 4)), (10, nI (A.2.2 1 s).length)] (-1)
def aLnk (A : aT) (l : Nat) (w : Int32) : Int32 := x_sw w [(0, A.1 20 l), (1, A.1 24 l), (2, A.1 25 l), (3, A.1 26 l), (4, A.1 27 l), (5, A.1 28 l), (6, b01 (A.1 29 l)), (7, b01 (A.1 30 l)), (8, b01 (A.1 31 l)), (9, nI (A.2.1 10 l).length), (10, nI (A.2.1 11 l).length), (11, nI (A.2.2 2 l).length), (12, nI (A.2.2 3 l).length), (13, A.1 23 l), (14, A.1 21 l), (15, A.1 22 l)] (-1)
theorem n_lin (a s o : Nat) : Int32.ofNat a * nI s + nI o = nI (a * s + o) := by
  show nI a * nI s + nI o = _
  rw [pk_mul, nI_add]
section P6
variable {S : mS} {I : mIm} {A : aT} {β : Type} {Q : β → mIm → Prop}
theorem pw_ra {j r t n : Nat} {i : Int32} {k : Int32 → Option (β × mM)} (h : S.1 1282 j = some r ∧ S.2.1 r = t + 1 ∧ S.2.2.1 r = n) (hm : ShM S) (m : Nat) (hi : i = nI m) (hmn : m < n) (hn : n < 2 ^ 31) (hk : pw S (k (I r m)) Q) : pw S (x_gR (I, S) 10 (some 1282) j fun a => x_aI (I, S) t a i k) Q := pw_gR hm.1 h.1 (pw_aI m h.2.1 hi (by rw [h.2.2]; exact hmn) (by rw [h.2.2]; exact hn) hk)
theorem pw_b01 {x y : Int32} {Q : Int32 → mIm → Prop} (e : x = y) (h : Q (b01 y) I) : pw S (if x = 0 then some ((0 : Int32), (I, S)) else some ((1 : Int32), (I, S))) Q := by
  subst e
  unfold b01 at h
  by_cases hx : x = 0
  · rw [if_pos hx] at h ⊢; exact pw_ret h
  · rw [if_neg hx] at h ⊢; exact pw_ret h
theorem rsc {I : mIm} {A : aT} (h : RInv I A) (i : Nat) {r f n k : Nat} (hq : rTab[i]? = some (r, f, n)) (hk : k < n) : I r k = A.1 f k := h.2.1 (r, f, n) (List.mem_of_getElem? hq) k hk
theorem p_C_station (hS : Shp S) (hC : CInv I A) (i w : Int32) : pw S (q_C_station (some 16) i w (I, S)) (fun v I' => I' = I ∧ v = match sta i with | some s => aSta A s w | none => -1) := by
  unfold q_C_station
  refine pw_cv hS.1.1 (p_C_stationAt hS i) (fun a I h => ?_)
  obtain ⟨rfl, rfl⟩ := h
  cases h : sta i with
  | none => exact pw_nn (pw_ret ⟨rfl, rfl⟩)
  | some s =>
    obtain ⟨hs, -⟩ := sta_s h
    obtain ⟨n1, n2, n3, n4, n5, n6, n7, n8, n9, n10, n11, n12, n13, n14, n15, n16, n17⟩ := hS.2.1 s hs
    obtain ⟨c1, c2, c3, c4, c5, c6, c7⟩ := hC.2.1 s hs
    obtain ⟨d1, d2, d3, d4, d5, d6, d7⟩ := c1
    have e6 := (isR_len c6).2.1
    have e7 : I (cN s + 36) 2 = nI (A.2.2 1 s).length := by
      obtain ⟨ll, g1, g2, -⟩ := c7
      rw [(isR_len g1).2.1, g2, List.length_map]
    refine pw_ns ?_
    refine pw_sc (fun h0 => ?_) (fun h0 => ?_)
    · subst h0
      exact pw_gR n1 n5 (pw_gI n12.1 (pw_b01 c4.2.1 ⟨rfl, rfl⟩))
    refine pw_sc (fun h1 => ?_) (fun h1 => ?_)
    · subst h1
      exact pw_gR n1 n7 (pw_gI n14.1 (pw_ret ⟨rfl, e6⟩))
    refine pw_sc (fun h2 => ?_) (fun h2 => ?_)
    · subst h2
      exact pw_gI n1 (pw_b01 d4 ⟨rfl, rfl⟩)
    refine pw_sc (fun h3 => ?_) (fun h3 => ?_)
    · subst h3
      exact pw_gR n1 n5 (pw_gI n12.1 (pw_ret ⟨rfl, c4.1⟩))
    refine pw_sc (fun h4 => ?_) (fun h4 => ?_)
    · subst h4
      exact pw_gI n1 (pw_ret ⟨rfl, d3⟩)
    refine pw_sc (fun h5 => ?_) (fun h5 => ?_)
    · subst h5
      exact pw_gI n1 (pw_ret ⟨rfl, d7 0 (by omega)⟩)
    refine pw_sc (fun h6 => ?_) (fun h6 => ?_)
    · subst h6
      exact pw_gI n1 (pw_ret ⟨rfl, d7 1 (by omega)⟩)
    refine pw_sc (fun h7 => ?_) (fun h7 => ?_)
    · subst h7
      exact pw_gI n1 (pw_ret ⟨rfl, d7 2 (by omega)⟩)
    refine pw_sc (fun h8 => ?_) (fun h8 => ?_)
    · subst h8
      exact pw_gI n1 (pw_ret ⟨rfl, d7 3 (by omega)⟩)
    refine pw_sc (fun h9 => ?_) (fun h9 => ?_)
    · subst h9
      exact pw_gI n1 (pw_ret ⟨rfl, d7 4 (by omega)⟩)
    refine pw_sc (fun h10 => ?_) (fun h10 => ?_)
    · subst h10
      exact pw_gR n1 n8 (pw_gI n15.1 (pw_ret ⟨rfl, e7⟩))
    exact pw_sn (pw_ret ⟨rfl, by simp [aSta, x_sw, h0, h1, h2, h3, h4, h5, h6, h7, h8, h9, h10]⟩)
theorem p_C_link (hS : Shp S) (hC : CInv I A) (i j w : Int32) : pw S (q_C_link (some 16) i j w (I, S)) (fun v I' => I' = I ∧ v = match lnk i j with | some q => aLnk A (6 * q.1 + q.2) w | none => -1) := by
  unfold q_C_link
  refine pw_cv hS.1.1 (p_C_linkAt hS i j) (fun a I h => ?_)
  obtain ⟨rfl, rfl⟩ := h
  cases h : lnk i j with
  | none => exact pw_nn (pw_ret ⟨rfl, rfl⟩)
  | some q =>
    obtain ⟨s, u⟩ := q
    obtain ⟨hs, hu, hne, -, -⟩ := lnk_s h
    obtain ⟨n1, n2, n3, n4, n5, n6, n7, n8, n9, n10, n11, n12, n13⟩ := hS.2.2.1 s hs u hu hne
    obtain ⟨d1, ⟨f1, f2, f3, f4, f5, f6, f7, f8, f9, f10, f11⟩, ⟨g1, g2, g3, g4⟩, d4, d5, d6, d7⟩ := hC.2.2 s hs u hu hne
    refine pw_ns ?_
    refine pw_sc (fun h0 => ?_) (fun h0 => ?_)
    · subst h0
      exact pw_gI n2 (pw_ret ⟨rfl, f1⟩)
    refine pw_sc (fun h1 => ?_) (fun h1 => ?_)
    · subst h1
      exact pw_gI n2 (pw_ret ⟨rfl, f2⟩)
    refine pw_sc (fun h2 => ?_) (fun h2 => ?_)
    · subst h2
      exact pw_gI n2 (pw_ret ⟨rfl, f3⟩)
    refine pw_sc (fun h3 => ?_) (fun h3 => ?_)
    · subst h3
      exact pw_gI n2 (pw_ret ⟨rfl, f4⟩)
    refine pw_sc (fun h4 => ?_) (fun h4 => ?_)
    · subst h4
      exact pw_gI n2 (pw_ret ⟨rfl, f5⟩)
    refine pw_sc (fun h5 => ?_) (fun h5 => ?_)
    · subst h5
      exact pw_gI n2 (pw_ret ⟨rfl, f6⟩)
    refine pw_sc (fun h6 => ?_) (fun h6 => ?_)
    · subst h6
      exact pw_gI n2 (pw_b01 f7 ⟨rfl, rfl⟩)
    refine pw_sc (fun h7 => ?_) (fun h7 => ?_)
    · subst h7
      exact pw_gI n2 (pw_b01 f8 ⟨rfl, rfl⟩)
    refine pw_sc (fun h8 => ?_) (fun h8 => ?_)
    · subst h8
      exact pw_gI n2 (pw_b01 f9 ⟨rfl, rfl⟩)
    refine pw_sc (fun h9 => ?_) (fun h9 => ?_)
    · subst h9
      exact pw_gR n2 n5 (pw_gI n10.1 (pw_ret ⟨rfl, d4.1.1⟩))
    refine pw_sc (fun h10 => ?_) (fun h10 => ?_)
    · subst h10
      exact pw_gR n2 n6 (pw_gI n11.1 (pw_ret ⟨rfl, d5.1.1⟩))
    refine pw_sc (fun h11 => ?_) (fun h11 => ?_)
    · subst h11
      exact pw_gR n2 n7 (pw_gI n12.1 (pw_ret ⟨rfl, (isR_len d6).2.1⟩))
    refine pw_sc (fun h12 => ?_) (fun h12 => ?_)
    · subst h12
      exact pw_gR n2 n8 (pw_gI n13.1 (pw_ret ⟨rfl, (isR_len d7).2.1⟩))
    refine pw_sc (fun h13 => ?_) (fun h13 => ?_)
    · subst h13
      exact pw_gR n2 n4 (pw_gI n9 (pw_ret ⟨rfl, g4⟩))
    refine pw_sc (fun h14 => ?_) (fun h14 => ?_)
    · subst h14
      exact pw_gR n2 n4 (pw_gI n9 (pw_ret ⟨rfl, g2⟩))
    refine pw_sc (fun h15 => ?_) (fun h15 => ?_)
    · subst h15
      exact pw_gR n2 n4 (pw_gI n9 (pw_ret ⟨rfl, g3⟩))
    exact pw_sn (pw_ret ⟨rfl, by simp [aLnk, x_sw, h0, h1, h2, h3, h4, h5, h6, h7, h8, h9, h10, h11, h12, h13, h14, h15]⟩)
theorem p_M_station (hS : Shp S) (hR : RInv I A) (i w : Int32) : pw S (q_M_station (some 1282) i w (I, S)) (fun v I' => I' = I ∧ v = match sta i with | some s => aSta A s w | none => -1) := by
  have hm := hS.2.2.2
  unfold q_M_station
  refine pw_cl (p_M_isStation i) (fun v I h => ?_)
  obtain ⟨rfl, rfl⟩ := h
  cases h : sta i with
  | none => exact pw_t (by simp) (pw_ret ⟨rfl, rfl⟩)
  | some s =>
    obtain ⟨hs, rfl⟩ := sta_s h
    refine pw_f (by simp) ?_
    have hq := hR.2.2.2.1 s hs
    have key : ∀ n : Nat, n < 5 → pw S (q_M_station_126 (some 1282) (nI s) (nI (5 + n)) (I, S)) (fun v I' => I' = I ∧ v = A.1 8 (5 * s + n)) := by
      intro n hn
      unfold q_M_station_126
      refine pw_cl (p_M_in _ _ _) (fun v I h => ?_)
      obtain ⟨rfl, rfl⟩ := h
      refine pw_f ?_ (pw_ra (sm_counts hm) hm (5 * s + n) ?_ (by omega) (by decide) (pw_ret ⟨rfl, rsc hR 7 (n := 30) rfl (by omega)⟩))
      · unfold inV
        rw [if_neg (show ¬ nI (5 + n) < (5 : Int32) from nI_nlt (b := 5) (by omega) (by omega)), if_neg (show ¬ (9 : Int32) < nI (5 + n) from nI_nlt (a := 9) (by omega) (by omega))]
        decide
      · show Int32.ofNat 5 * nI s + nI (5 + n) - nI 5 = _
        rw [n_lin, pk_sub (by omega)]
        congr 1
        omega
    refine pw_sc (fun h0 => ?_) (fun h0 => ?_)
    · subst h0
      exact pw_ra (sm_sending hm) hm s rfl hs (by decide) (pw_b01 (rsc hR 5 rfl hs) ⟨rfl, rfl⟩)
    refine pw_sc (fun h1 => ?_) (fun h1 => ?_)
    · subst h1
      exact pw_ra (sm_queueSize hm) hm s rfl hs (by decide) (pw_ret ⟨rfl, hq.1.1⟩)
    refine pw_sc (fun h2 => ?_) (fun h2 => ?_)
    · subst h2
      exact pw_ra (sm_carrier hm) hm s rfl hs (by decide) (pw_b01 (rsc hR 3 rfl hs) ⟨rfl, rfl⟩)
    refine pw_sc (fun h3 => ?_) (fun h3 => ?_)
    · subst h3
      exact pw_ra (sm_level hm) hm s rfl hs (by decide) (pw_ret ⟨rfl, rsc hR 4 rfl hs⟩)
    refine pw_sc (fun h4 => ?_) (fun h4 => ?_)
    · subst h4
      exact pw_ra (sm_wait hm) hm s rfl hs (by decide) (pw_ret ⟨rfl, rsc hR 2 rfl hs⟩)
    refine pw_sc (fun h5 => ?_) (fun h5 => ?_)
    · subst h5
      exact key 0 (by omega)
    refine pw_sc (fun h6 => ?_) (fun h6 => ?_)
    · subst h6
      exact key 1 (by omega)
    refine pw_sc (fun h7 => ?_) (fun h7 => ?_)
    · subst h7
      exact key 2 (by omega)
    refine pw_sc (fun h8 => ?_) (fun h8 => ?_)
    · subst h8
      exact key 3 (by omega)
    refine pw_sc (fun h9 => ?_) (fun h9 => ?_)
    · subst h9
      exact key 4 (by omega)
    refine pw_sc (fun h10 => ?_) (fun h10 => ?_)
    · subst h10
      exact pw_ra (sm_mails hm) hm s rfl hs (by decide) (pw_ret ⟨rfl, hq.2.1.1⟩)
    refine pw_sn ?_
    unfold q_M_station_126
    refine pw_cl (p_M_in _ _ _) (fun v I h => ?_)
    obtain ⟨rfl, rfl⟩ := h
    have hz : inV w 5 9 = 0 := by
      unfold inV
      by_cases g : w < 5
      · rw [if_pos g]
      · rw [if_neg g]
        by_cases g2 : 9 < w
        · rw [if_pos g2]
        · exfalso
          have g3 : ¬ w < 0 := fun q => g (Int32.lt_of_lt_of_le q (by decide))
          obtain ⟨n, hn, rfl⟩ := nI_of g3
          have a1 : 5 ≤ n := by
            rcases Nat.lt_or_ge n 5 with q | q
            · exact absurd (nI_lt (b := 5) q (by decide)) g
            · exact q
          have a2 : n ≤ 9 := by
            rcases Nat.lt_or_ge 9 n with q | q
            · exact absurd (nI_lt (a := 9) q hn) g2
            · exact q
          rcases (show n = 5 ∨ n = 6 ∨ n = 7 ∨ n = 8 ∨ n = 9 by omega) with q | q | q | q | q
          · exact h5 (by rw [q]; rfl)
          · exact h6 (by rw [q]; rfl)
          · exact h7 (by rw [q]; rfl)
          · exact h8 (by rw [q]; rfl)
          · exact h9 (by rw [q]; rfl)
    exact pw_t hz (pw_ret ⟨rfl, by simp [aSta, x_sw, h0, h1, h2, h3, h4, h5, h6, h7, h8, h9, h10]⟩)
theorem p_M_link (hS : Shp S) (hR : RInv I A) (i j w : Int32) : pw S (q_M_link (some 1282) i j w (I, S)) (fun v I' => I' = I ∧ v = match lnk i j with | some q => aLnk A (6 * q.1 + q.2) w | none => -1) := by
  have hm := hS.2.2.2
  unfold q_M_link
  refine pw_cl (p_M_isLink i j) (fun v I h => ?_)
  obtain ⟨rfl, rfl⟩ := h
  cases h : lnk i j with
  | none => exact pw_t (by simp) (pw_ret ⟨rfl, rfl⟩)
  | some q =>
    obtain ⟨s, u⟩ := q
    obtain ⟨hs, hu, hne, rfl, rfl⟩ := lnk_s h
    refine pw_f (by simp) (pw_lt ?_)
    rw [show (6 : Int32) * nI s + nI u = nI (6 * s + u) from n_lin 6 s u]
    have hl : 6 * s + u < 36 := by omega
    obtain ⟨r1, r2, r3, r4⟩ := hR.2.2.2.2 (6 * s + u) hl
    show pw S _ (fun v I' => I' = I ∧ v = aLnk A (6 * s + u) w)
    generalize 6 * s + u = l at hl r1 r2 r3 r4 ⊢
    refine pw_sc (fun h0 => ?_) (fun h0 => ?_)
    · subst h0
      exact pw_ra (sm_mode hm) hm l rfl hl (by decide) (pw_ret ⟨rfl, rsc hR 12 rfl hl⟩)
    refine pw_sc (fun h1 => ?_) (fun h1 => ?_)
    · subst h1
      exact pw_ra (sm_vs hm) hm l rfl hl (by decide) (pw_ret ⟨rfl, rsc hR 16 rfl hl⟩)
    refine pw_sc (fun h2 => ?_) (fun h2 => ?_)
    · subst h2
      exact pw_ra (sm_va hm) hm l rfl hl (by decide) (pw_ret ⟨rfl, rsc hR 17 rfl hl⟩)
    refine pw_sc (fun h3 => ?_) (fun h3 => ?_)
    · subst h3
      exact pw_ra (sm_vr hm) hm l rfl hl (by decide) (pw_ret ⟨rfl, rsc hR 18 rfl hl⟩)
    refine pw_sc (fun h4 => ?_) (fun h4 => ?_)
    · subst h4
      exact pw_ra (sm_clock hm) hm l rfl hl (by decide) (pw_ret ⟨rfl, rsc hR 19 rfl hl⟩)
    refine pw_sc (fun h5 => ?_) (fun h5 => ?_)
    · subst h5
      exact pw_ra (sm_tries hm) hm l rfl hl (by decide) (pw_ret ⟨rfl, rsc hR 20 rfl hl⟩)
    refine pw_sc (fun h6 => ?_) (fun h6 => ?_)
    · subst h6
      exact pw_ra (sm_polls hm) hm l rfl hl (by decide) (pw_b01 (rsc hR 21 rfl hl) ⟨rfl, rfl⟩)
    refine pw_sc (fun h7 => ?_) (fun h7 => ?_)
    · subst h7
      exact pw_ra (sm_rejects hm) hm l rfl hl (by decide) (pw_b01 (rsc hR 22 rfl hl) ⟨rfl, rfl⟩)
    refine pw_sc (fun h8 => ?_) (fun h8 => ?_)
    · subst h8
      exact pw_ra (sm_held hm) hm l rfl hl (by decide) (pw_b01 (rsc hR 23 rfl hl) ⟨rfl, rfl⟩)
    refine pw_sc (fun h9 => ?_) (fun h9 => ?_)
    · subst h9
      exact pw_ra (sm_outboxSize hm) hm l rfl hl (by decide) (pw_ret ⟨rfl, r1.1⟩)
    refine pw_sc (fun h10 => ?_) (fun h10 => ?_)
    · subst h10
      exact pw_ra (sm_inboxSize hm) hm l rfl hl (by decide) (pw_ret ⟨rfl, r2.1⟩)
    refine pw_sc (fun h11 => ?_) (fun h11 => ?_)
    · subst h11
      exact pw_ra (sm_packetMany hm) hm l rfl hl (by decide) (pw_ret ⟨rfl, r3.1⟩)
    refine pw_sc (fun h12 => ?_) (fun h12 => ?_)
    · subst h12
      exact pw_ra (sm_saidMany hm) hm l rfl hl (by decide) (pw_ret ⟨rfl, r4.1⟩)
    refine pw_sc (fun h13 => ?_) (fun h13 => ?_)
    · subst h13
      exact pw_ra (sm_mark hm) hm l rfl hl (by decide) (pw_ret ⟨rfl, rsc hR 15 rfl hl⟩)
    refine pw_sc (fun h14 => ?_) (fun h14 => ?_)
    · subst h14
      exact pw_ra (sm_viaOne hm) hm l rfl hl (by decide) (pw_ret ⟨rfl, rsc hR 13 rfl hl⟩)
    refine pw_sc (fun h15 => ?_) (fun h15 => ?_)
    · subst h15
      exact pw_ra (sm_viaTwo hm) hm l rfl hl (by decide) (pw_ret ⟨rfl, rsc hR 14 rfl hl⟩)
    exact pw_sn (pw_ret ⟨rfl, by simp [aLnk, x_sw, h0, h1, h2, h3, h4, h5, h6, h7, h8, h9, h10, h11, h12, h13, h14, h15]⟩)
end P6
