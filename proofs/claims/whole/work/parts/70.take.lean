/-! letters: take, and what is kept -/
section TK
variable {S : mS} {I I0 : mIm} {A : aT} {s o l : Nat}
theorem RX_ml {J : mIm} {ll : List (List Int32)} (hX : RX I0 I A) (e : ∀ r, r ≠ 1344 → r ≠ 1345 → J r = I r) (h : ∀ t, t < 6 → rMl J (aQ A 1 s ll) t) : RX I0 J (aQ A 1 s ll) := by
  obtain ⟨⟨h1, h2, h3, h4, h5⟩, h6, h7⟩ := hX
  refine ⟨⟨?_, fun q hq k hk => ?_, fun k hk => ?_, fun t ht => ⟨?_, h t ht, ?_⟩, fun l hl => ?_⟩, fun r hr => ?_, fun j hj => ?_⟩
  · unfold rGl fL at h1 ⊢
    rw [e 1282 (by decide) (by decide), e 1283 (by decide) (by decide), e 1284 (by decide) (by decide)]
    exact h1
  · obtain ⟨o1, o2, o3, o4, o5, o6, o7, o8, o9, o10, o11, o12, o13, o14, o15, o16, o17, o18, o19, o20, o21, o22, o23, o24, o25, o26, o27, o28⟩ := rTab_o q hq
    rw [e q.1 o27 o28]
    exact h2 q hq k hk
  · have := h3 k hk
    unfold rRv fL at this ⊢
    rw [e 1291 (by decide) (by decide), e 1292 (by decide) (by decide), e 1289 (by decide) (by decide), e 1290 (by decide) (by decide)]
    exact this
  · have := (h4 t ht).1
    unfold rQu fL at this ⊢
    rw [aQ_f _ _ _ _ (by decide), e 1296 (by decide) (by decide), e 1297 (by decide) (by decide), e 1298 (by decide) (by decide)]
    exact this
  · have := (h4 t ht).2.2
    unfold rSn fL at this ⊢
    rw [e 1303 (by decide) (by decide), e 1304 (by decide) (by decide), e 1305 (by decide) (by decide), e 1307 (by decide) (by decide), e 1308 (by decide) (by decide)]
    exact this
  · have := h5 l hl
    unfold rLk fL at this ⊢
    rw [aQ_f _ _ _ _ (by decide), aQ_f _ _ _ _ (by decide), e 1331 (by decide) (by decide), e 1330 (by decide) (by decide), e 1333 (by decide) (by decide), e 1332 (by decide) (by decide), e 1336 (by decide) (by decide), e 1335 (by decide) (by decide), e 1334 (by decide) (by decide), e 1340 (by decide) (by decide), e 1339 (by decide) (by decide), e 1338 (by decide) (by decide), e 1337 (by decide) (by decide)]
    exact this
  · rw [e r (by unfold kp at hr; omega) (by unfold kp at hr; omega)]
    exact h6 r hr
  · rw [e 1282 (by decide) (by decide)]
    exact h7 j hj
def aTak (A : aT) (i : Int32) : Int32 × aT := match sta i with
  | none => (-1, A)
  | some s => match A.2.2 1 s with
    | [] => (-1, A)
    | m :: ms => (256 * (m[0]?).getD 0 + (m[1]?).getD 0, aQ (aL A 1 0 (m.drop 2)) 1 s ms)
theorem isW_m (hS : Shp S) (hs : s < 6) : isW S (cN s + 36) 8 16 := (hS.2.1 s hs).2.2.2.2.2.2.2.2.2.2.2.2.2.2.1
theorem p_C_take (hS : Shp S) (hC : CInv I A) (i : Int32) : pw S (q_C_take (some 16) i (I, S)) (CP I (aTak A i)) := by
  refine CV_CP ?_
  have hX := CX_0 hC
  obtain ⟨k1, k2, k3, k4, k5, k6, k7, k8, k9, k10, k11, k12⟩ := hS.1
  unfold q_C_take aTak
  refine pw_cv k1 (p_C_stationAt hS i) (fun a I h => ?_)
  obtain ⟨rfl, rfl⟩ := h
  cases h : sta i with
  | none => exact pw_nn (pw_nn (pw_ret ⟨rfl, hX⟩))
  | some s =>
    obtain ⟨hs, rfl⟩ := sta_s h
    obtain ⟨ll, m1, m2, m3⟩ := (hX.1.2.1 s hs).2.2.2.2.2.2
    refine pw_ns (rN hS hs (q := cN s + 36) rfl (pw_cv (isW_m hS hs).1 (p_W_rowAt (isW_m hS hs) m1 0) (fun a I2 h => ?_)))
    obtain ⟨rfl, h⟩ := h
    dsimp only
    rw [m2]
    rcases h with ⟨rfl, h⟩ | ⟨b, p, rfl, -, h4, h5, h6, h7, h8, h9⟩
    · have : ll = [] := by
        cases ll with
        | nil => rfl
        | cons p ps => exact absurd (h.resolve_left (by decide)) (by simp)
      subst this
      exact pw_nn (pw_ret ⟨rfl, hX⟩)
    · cases ll with
      | nil => simp at h4
      | cons p' ps =>
        have e : p' = p := by simpa using h4
        subst e
        have hp := m3 p' List.mem_cons_self
        unfold q_C_take_22
        dsimp only [List.map]
        refine pw_ns (gB h7 h6 ?_)
        rw [show nI p'.length - 4 = nI (p'.length - 4) from pk_sub (b := 4) (by omega)]
        refine pw_cv k1 (c_putOut hS hX h7 h6 h5 (by unfold cN at h9; omega) 4 (p'.length - 4) (by omega) (by omega)) (fun _ J1 g1 => ?_)
        have m4 : isR J1 (cN s + 36) 8 16 (p' :: ps) := isR_same m1 (fun r a b => g1.2 r (by unfold cN at b; omega) (by unfold cN at b; omega))
        refine rN hS hs (q := cN s + 36) rfl (pw_cv (isW_m hS hs).1 (p_W_dropFirst (isW_m hS hs) m4 1 (by simp)) (fun _ J2 g2 => ?_))
        have hL2 : isL J2 b p' := isL_same h6 (by rw [g2.2 _ (by omega), g1.2 _ (by unfold cN at h9; omega) (by unfold cN at h9; omega)]) (by rw [g2.2 _ (by omega), g1.2 _ (by unfold cN at h9; omega) (by unfold cN at h9; omega)])
        have hX2 := CX_mai g1.1 hs g2.1 (fun p hp => m3 p (List.mem_of_mem_drop hp)) (fun r hr => g2.2 r (by omega))
        refine pw_cv h7.1 (p_B_at h7 hL2 h5 0) (fun v J h => ?_)
        obtain ⟨rfl, rfl⟩ := h
        refine pw_cv h7.1 (p_B_at h7 hL2 h5 3) (fun v J h => ?_)
        obtain ⟨rfl, rfl⟩ := h
        refine pw_ret ⟨?_, ?_⟩
        · have e0 : lAt p' 0 = (p'[0]?).getD 0 := by
            show (p'[0]?).getD (-1) = _
            rw [List.getElem?_eq_getElem (by omega)]
            rfl
          have e3 : lAt p' 3 = (p'[3]?).getD 0 := by
            show (p'[3]?).getD (-1) = _
            rw [List.getElem?_eq_getElem (by omega)]
            rfl
          rw [e0, e3]
          rfl
        · rw [List.take_of_length_le (by rw [List.length_drop]; omega)] at hX2
          exact hX2
theorem lp_take58 (hS : Shp S) {Q : Int32 → mIm → Prop} (Ib : mIm) {c : Nat} (hs : s < 6) (hc : c ≤ 12) (h3 : Ib 1282 3 = nI c) (v : Int32) (fin : pw S (x_gR (xcp Ib 1345 (120 * s + 3) 1284 0 c, S) 10 (some 1282) 78 fun a5 => x_aI (xcp Ib 1345 (120 * s + 3) 1284 0 c, S) 0 a5 (nI s) fun x6 => x_wI (xcp Ib 1345 (120 * s + 3) 1284 0 c, S) a5 (nI s) (x6 - (1 : Int32)) fun M => q_M_take_104 mFU (some 1282) (nI s) (nI (120 * s)) v (0 : Int32) M) Q) : ∀ (k n i : Nat), i + k = c → k < n → pw S (q_M_take_58 n (some 1282) (nI s) (nI (120 * s)) v (nI i) (xcp Ib 1345 (120 * s + 3) 1284 0 i, S)) Q
  | k, 0, i, _, h => by omega
  | k, n + 1, i, hk, hn => by
    have ho := aK_in hS (r := 1284) (t := 0) (n := 1024) rfl
    have hb := aK_in hS (r := 1345) (t := 0) (n := 720) rfl
    show pw S (q_M_take_58_b _ _ _ _ _ _ _) _
    unfold q_M_take_58_b
    refine pw_gI (M_k hS) ?_
    rw [xcp_n (by decide), h3]
    by_cases hi : i < c
    · refine pw_t (nI_lt hi (by omega)) (rM hS (r := 1284) rfl (rM hS (r := 1345) rfl (pw_aI (120 * s + 3 + i) hb.1 ?_ (by omega) (by omega) (pw_wI i ho.1 rfl (by omega) (by omega) ?_))))
      · rw [show nI (120 * s) + 3 = nI (120 * s + 3) from nI_add _ 3, nI_add]
      · rw [show nI i + 1 = nI (i + 1) from nI_1 i]
        have := xcp_s (I := Ib) (r0 := 1345) (a0 := 120 * s + 3) (r1 := 1284) (a1 := 0) (n := i) (v := xcp Ib 1345 (120 * s + 3) 1284 0 i 1345 (120 * s + 3 + i)) (xcp_rd (Or.inl (by decide)))
        rw [Nat.zero_add] at this
        rw [this]
        exact lp_take58 hS Ib hs hc h3 v fin (k - 1) n (i + 1) (by omega) (by omega)
    · have : i = c := by omega
      subst this
      exact pw_f (nI_nlt (by omega) (by omega)) fin
theorem lp_take104 (hS : Shp S) {Q : Int32 → mIm → Prop} (Ib : mIm) {z : Nat} (hs : s < 6) (hz : z < 8) (h3 : Ib 1344 s = nI z) (v : Int32) (fin : Q v (xcp Ib 1345 (120 * s + 15) 1345 (120 * s) (15 * z))) : ∀ (k n i : Nat), i + k = 15 * z → k < n → pw S (q_M_take_104 n (some 1282) (nI s) (nI (120 * s)) v (nI i) (xcp Ib 1345 (120 * s + 15) 1345 (120 * s) i, S)) Q
  | k, 0, i, _, h => by omega
  | k, n + 1, i, hk, hn => by
    have ho := aK_in hS (r := 1344) (t := 0) (n := 6) rfl
    have hb := aK_in hS (r := 1345) (t := 0) (n := 720) rfl
    show pw S (q_M_take_104_b _ _ _ _ _ _ _) _
    unfold q_M_take_104_b
    refine rM hS (r := 1344) rfl (pw_aI s ho.1 rfl (by omega) (by omega) ?_)
    rw [xcp_n (by decide), h3, show (15 : Int32) * nI z = nI (15 * z) from pk_mul 15 z]
    by_cases hi : i < 15 * z
    · refine pw_t (nI_lt hi (by omega)) (rM hS (r := 1345) rfl (rM hS (r := 1345) rfl (pw_aI (120 * s + 15 + i) hb.1 ?_ (by omega) (by omega) (pw_wI (120 * s + i) hb.1 (nI_add _ _) (by omega) (by omega) ?_))))
      · rw [nI_add, show nI (120 * s + i) + 15 = nI (120 * s + i + 15) from nI_add _ 15]
        congr 1
        omega
      · rw [show nI i + 1 = nI (i + 1) from nI_1 i, xcp_s (xcp_rd (Or.inr (by omega)))]
        exact lp_take104 hS Ib hs hz h3 v fin (k - 1) n (i + 1) (by omega) (by omega)
    · have : i = 15 * z := by omega
      subst this
      exact pw_f (nI_nlt (by omega) (by omega)) (pw_ret fin)
theorem p_M_take (hS : Shp S) (hR : RInv I A) (i : Int32) : pw S (q_M_take (some 1282) i (I, S)) (RP I (aTak A i)) := by
  refine RV_RP ?_
  have hX := RX_0 hR
  have hm := M_k hS
  unfold q_M_take aTak
  refine pw_cl (p_M_isStation i) (fun a I h => ?_)
  obtain ⟨rfl, rfl⟩ := h
  cases h : sta i with
  | none => exact pw_t (by simp) (pw_ret ⟨rfl, hX⟩)
  | some s =>
    obtain ⟨hs, rfl⟩ := sta_s h
    have hz := aK_in hS (r := 1344) (t := 0) (n := 6) rfl
    have hb := aK_in hS (r := 1345) (t := 0) (n := 720) rfl
    obtain ⟨m1, m2, m3⟩ := (hX.1.2.2.2.1 s hs).2.1
    refine pw_f (by simp) (rM hS (r := 1344) rfl (pw_aI s hz.1 rfl (by omega) (by omega) ?_))
    rw [m1]
    dsimp only
    cases hM : A.2.2 1 s with
    | nil => exact pw_t rfl (pw_ret ⟨rfl, hX⟩)
    | cons m ms =>
      rw [hM] at m1 m2 m3
      obtain ⟨a, b, t, rfl, t1, t2, t3, t4, t5⟩ := m3 0 m rfl
      rw [Nat.mul_zero, Nat.add_zero] at t2 t3 t4 t5
      have hmm : ms.length < 8 := by
        have : (List.cons (a :: b :: t) ms).length ≤ 8 := m2
        simp at this
        omega
      refine pw_f (nI_ne0 (by simp) (by omega)) (pw_lt ?_)
      rw [show (120 : Int32) * nI s = nI (120 * s) from pk_mul 120 s]
      refine rM hS (r := 1345) rfl (pw_aI (120 * s) hb.1 rfl (by omega) (by omega) (rM hS (r := 1345) rfl (pw_aI (120 * s + 1) hb.1 (nI_add _ 1) (by omega) (by omega) (pw_lt (rM hS (r := 1345) rfl (pw_aI (120 * s + 2) hb.1 (nI_add _ 2) (by omega) (by omega) (pw_pI hm ?_)))))))
      rw [t2, t3, t4]
      have lp := lp_take58 (Q := RV I (256 * a + b, aQ (aL A 1 0 t) 1 s ms)) hS (iput I 1282 3 (nI t.length)) (c := t.length) hs t1 (iput_s _ _ _ _) (256 * a + b) ?_ t.length mFU 0 (by omega) (by unfold mFU; omega)
      · rw [xcp_0] at lp
        exact lp
      · refine rM hS (r := 1344) rfl (pw_aI s hz.1 rfl (by omega) (by omega) (pw_wI s hz.1 rfl (by omega) (by omega) ?_))
        have t6 : fL (iput I 1282 3 (nI t.length)) 1345 (120 * s + 3) t := by
          unfold fL at t5 ⊢
          rw [iput_n _ _ _ (by decide)]
          exact t5
        have hX1 : RX I (xcp (iput I 1282 3 (nI t.length)) 1345 (120 * s + 3) 1284 0 t.length) (aL A 1 0 t) := by
          refine RX_1 hX (fun r x y => by rw [xcp_n y, iput_n _ _ _ x]) (fun j hj => by rw [xcp_n (by decide), iput_j _ _ _ hj]) (by rw [xcp_n (by decide), iput_s]) ?_ (by omega)
          have := xcp_fL (r1 := 1284) (a1 := 0) (n := t.length) t6
          rw [List.take_length] at this
          exact this
        have e5 : ∀ r, r ≠ 1282 → r ≠ 1284 → xcp (iput I 1282 3 (nI t.length)) 1345 (120 * s + 3) 1284 0 t.length r = I r := fun r x y => by rw [xcp_n y, iput_n _ _ _ x]
        generalize xcp (iput I 1282 3 (nI t.length)) 1345 (120 * s + 3) 1284 0 t.length = I1 at hX1 e5
        rw [e5 1344 (by decide) (by decide), m1, show nI (List.cons (a :: b :: t) ms).length - 1 = nI ms.length from by
          rw [List.length_cons]
          exact pk_sub (b := 1) (by omega)]
        have lp2 := lp_take104 (Q := RV I (256 * a + b, aQ (aL A 1 0 t) 1 s ms)) hS (iput I1 1344 s (nI ms.length)) (z := ms.length) hs hmm (iput_s _ _ _ _) (256 * a + b) ?_ (15 * ms.length) mFU 0 (by omega) (by unfold mFU; omega)
        · rw [xcp_0] at lp2
          exact lp2
        · refine ⟨rfl, RX_ml hX1 (fun r x y => by rw [xcp_n y, iput_n _ _ _ x]) (fun t' ht' => ?_)⟩
          by_cases hts : t' = s
          · rw [hts]
            unfold rMl
            rw [aQ_s, xcp_n (by decide), iput_s]
            refine ⟨rfl, by omega, fun i l hl => ?_⟩
            have hi := (List.getElem?_eq_some_iff.mp hl).1
            obtain ⟨a', b', t', e', u1, u2, u3, u4, u5⟩ := m3 (i + 1) l (by rw [List.getElem?_cons_succ]; exact hl)
            have rd : ∀ j, j < 15 → xcp (iput I1 1344 s (nI ms.length)) 1345 (120 * s + 15) 1345 (120 * s) (15 * ms.length) 1345 (120 * s + (15 * i + j)) = I 1345 (120 * s + 15 * (i + 1) + j) := fun j hj => by
              rw [xcp_in (by omega), iput_n _ _ _ (by decide), e5 1345 (by decide) (by decide)]
              congr 1
              omega
            refine ⟨a', b', t', e', u1, ?_, ?_, ?_, fun j x hj => ?_⟩
            · exact (rd 0 (by decide)).trans u2
            · rw [Nat.add_assoc, rd 1 (by decide)]
              exact u3
            · rw [Nat.add_assoc, rd 2 (by decide)]
              exact u4
            · have hj2 := (List.getElem?_eq_some_iff.mp hj).1
              rw [Nat.add_assoc, Nat.add_assoc, rd (3 + j) (by omega), ← Nat.add_assoc]
              exact u5 j x hj
          · obtain ⟨w1, w2, w3⟩ := (hX.1.2.2.2.1 t' ht').2.1
            unfold rMl
            rw [aQ_k _ _ _ hts, aL_2, xcp_n (by decide), iput_j _ _ _ hts, e5 1344 (by decide) (by decide)]
            refine ⟨w1, w2, fun i l hl => ?_⟩
            have hi := (List.getElem?_eq_some_iff.mp hl).1
            obtain ⟨a', b', t'', e', u1, u2, u3, u4, u5⟩ := w3 i l hl
            have rd : ∀ j, j < 15 → xcp (iput I1 1344 s (nI ms.length)) 1345 (120 * s + 15) 1345 (120 * s) (15 * ms.length) 1345 (120 * t' + 15 * i + j) = I 1345 (120 * t' + 15 * i + j) := fun j hj => by
              rw [xcp_out (by omega), iput_n _ _ _ (by decide), e5 1345 (by decide) (by decide)]
            refine ⟨a', b', t'', e', u1, ?_, ?_, ?_, fun j x hj => ?_⟩
            · exact (rd 0 (by decide)).trans u2
            · rw [rd 1 (by decide)]
              exact u3
            · rw [rd 2 (by decide)]
              exact u4
            · have hj2 := (List.getElem?_eq_some_iff.mp hj).1
              rw [Nat.add_assoc, rd (3 + j) (by omega), ← Nat.add_assoc]
              exact u5 j x hj
end TK
