/-! copies by loops; read -/
def xcp (I : mIm) (r0 a0 r1 a1 n : Nat) : mIm := mrow I r1 (fun j => if a1 ≤ j ∧ j < a1 + n then I r0 (a0 + (j - a1)) else I r1 j)
section XC
variable {I : mIm} {r0 a0 r1 a1 n j r : Nat}
theorem xcp_0 : xcp I r0 a0 r1 a1 0 = I := by
  unfold xcp
  funext x y
  by_cases h : x = r1
  · subst h
    rw [mrow_s, if_neg (by omega)]
  · rw [mrow_n _ _ h]
theorem xcp_n (h : r ≠ r1) : xcp I r0 a0 r1 a1 n r = I r := mrow_n _ _ h
theorem xcp_in (h : j < n) : xcp I r0 a0 r1 a1 n r1 (a1 + j) = I r0 (a0 + j) := by
  unfold xcp
  rw [mrow_s, if_pos (by omega)]
  congr 1
  omega
theorem xcp_out (h : j < a1 ∨ a1 + n ≤ j) : xcp I r0 a0 r1 a1 n r1 j = I r1 j := by
  unfold xcp
  rw [mrow_s, if_neg (by omega)]
theorem xcp_rd (h : r0 ≠ r1 ∨ a1 ≤ a0) : xcp I r0 a0 r1 a1 n r0 (a0 + n) = I r0 (a0 + n) := by
  by_cases e : r0 = r1
  · subst e
    exact xcp_out (by omega)
  · rw [xcp_n e]
theorem xcp_s {v : Int32} (hv : v = I r0 (a0 + n)) : iput (xcp I r0 a0 r1 a1 n) r1 (a1 + n) v = xcp I r0 a0 r1 a1 (n + 1) := by
  subst hv
  funext x y
  by_cases hx : x = r1
  · subst hx
    by_cases hy : y = a1 + n
    · subst hy
      rw [iput_s, xcp_in (by omega)]
    · rw [iput_j _ _ _ hy]
      unfold xcp
      rw [mrow_s, mrow_s]
      by_cases h1 : a1 ≤ y ∧ y < a1 + n
      · rw [if_pos h1, if_pos (by omega)]
      · rw [if_neg h1, if_neg (by omega)]
  · rw [iput_n _ _ _ hx, xcp_n hx, xcp_n hx]
theorem xcp_fL {l : List Int32} (h : fL I r0 a0 l) : fL (xcp I r0 a0 r1 a1 n) r1 a1 (l.take n) := by
  intro j x hj
  have hl := (List.getElem?_eq_some_iff.mp hj).1
  rw [List.length_take] at hl
  rw [List.getElem?_take_of_lt (by omega)] at hj
  rw [xcp_in (by omega)]
  exact h j x hj
theorem fL_drop {l : List Int32} {r a c : Nat} (h : fL I r a l) : fL I r (a + c) (l.drop c) := by
  intro j x hj
  rw [List.getElem?_drop] at hj
  rw [Nat.add_assoc]
  exact h _ x hj
end XC
def aNum (A : aT) (s o : Nat) (k b c : Int32) : aT := aSay A s o ((k + b) + 32 * A.1 26 (6 * s + o)) c
def rdy (A : aT) (l : Nat) : Int32 := if 48 < (A.2.1 11 l).length then 5 else 1
def bsy (A : aT) (l : Nat) : Int32 := if 48 < (A.2.1 11 l).length then 1 else 0
section RE
variable {S : mS} {I I0 : mIm} {A : aT} {s o l : Nat}
theorem c_isBusy (hS : Shp S) (hl : isLk s o) (hX : CX I0 I A) : pw S (q_K_isBusy (some (cK s o)) (I, S)) (fun v J => J = I ∧ v = bsy A (6 * s + o)) := by
  obtain ⟨-, -, -, -, ⟨i1, i2⟩, -⟩ := hX.1.2.2 s hl.1 o hl.2.1 hl.2.2
  unfold q_K_isBusy bsy
  refine rK hS hl (q := cK s o + 4) rfl (gB (isB_i hS hl) i1 (pw_if (fun h => ?_) (fun h => ?_)))
  · have : 48 < (A.2.1 11 (6 * s + o)).length := (nI_ltI (a := 48) (by decide) (by omega)).mp h
    rw [if_pos this]; exact pw_rz (Or.inr rfl) ⟨rfl, rfl⟩
  · have : ¬ 48 < (A.2.1 11 (6 * s + o)).length := fun q => h (nI_lt (a := 48) q (by omega))
    rw [if_neg this]; exact pw_rz (Or.inl rfl) ⟨rfl, rfl⟩
theorem r_isBusy (hS : Shp S) (hl : l < 36) (hX : RX I0 I A) : pw S (q_M_isBusy (some 1282) (nI l) (I, S)) (fun v J => J = I ∧ v = bsy A l) := by
  have i2 := (hX.1.2.2.2.2 l hl).2.1.2.1
  unfold q_M_isBusy bsy
  refine rM hS (r := 1333) rfl (g11 hS hX hl (pw_if (fun h => ?_) (fun h => ?_)))
  · have : 48 < (A.2.1 11 l).length := (nI_ltI (a := 48) (by decide) (by omega)).mp h
    rw [if_pos this]; exact pw_rz (Or.inr rfl) ⟨rfl, rfl⟩
  · have : ¬ 48 < (A.2.1 11 l).length := fun q => h (nI_lt (a := 48) q (by omega))
    rw [if_neg this]; exact pw_rz (Or.inl rfl) ⟨rfl, rfl⟩
theorem bsy_0 {A : aT} {l : Nat} : bsy A l = 0 ↔ ¬ 48 < (A.2.1 11 l).length := by
  unfold bsy
  by_cases h : 48 < (A.2.1 11 l).length
  · rw [if_pos h]; exact ⟨fun e => absurd e (by decide), fun e => absurd h e⟩
  · rw [if_neg h]; exact ⟨fun _ => h, fun _ => rfl⟩
theorem rdy_b (A : aT) (l : Nat) : rdy A l = if bsy A l = 0 then 1 else 5 := by
  unfold rdy
  by_cases h : 48 < (A.2.1 11 l).length
  · rw [if_pos h, if_neg (fun e => bsy_0.mp e h)]
  · rw [if_neg h, if_pos (bsy_0.mpr h)]
theorem c_sayReady (hS : Shp S) (hl : isLk s o) (hX : CX I0 I A) (b c : Int32) : pw S (q_C_sayReady (some (cK s o)) b c (I, S)) (CU I0 (aNum A s o (rdy A (6 * s + o)) b c)) := by
  unfold q_C_sayReady
  rw [rdy_b]
  refine pw_cv (cK_k hS hl) (c_isBusy hS hl hX) (fun v J h => ?_)
  obtain ⟨hJ, rfl⟩ := h
  rw [hJ]
  have fin : ∀ j0 : Int32, pw S (q_C_sayReady_12 (some (cK s o)) b c j0 (I, S)) (CU I0 (aNum A s o j0 b c)) := by
    intro j0
    unfold q_C_sayReady_12 aNum
    exact rK hS hl (q := cN s) rfl (rK hS hl (q := cK s o + 1) rfl (gK hS hl hX (f := 26) rfl (pw_cl (c_say hS hl hX _ c) (fun _ J g => pw_ret g))))
  refine pw_if (fun e => ?_) (fun e => ?_)
  · rw [if_pos e]; exact fin 1
  · rw [if_neg e]; exact fin 5
theorem r_ready (hS : Shp S) (hl : l < 36) (hX : RX I0 I A) : pw S (q_M_ready (some 1282) (nI l) (I, S)) (fun v J => J = I ∧ v = rdy A l) := by
  unfold q_M_ready
  rw [rdy_b]
  refine pw_cv (M_k hS) (r_isBusy hS hl hX) (fun v J h => ?_)
  obtain ⟨rfl, rfl⟩ := h
  refine pw_if (fun e => ?_) (fun e => ?_)
  · rw [if_pos e]; exact pw_ret ⟨rfl, rfl⟩
  · rw [if_neg e]; exact pw_ret ⟨rfl, rfl⟩
theorem r_sayNumber (hS : Shp S) (hl : isLk s o) (hX : RX I0 I A) (hV : aVi A) (c k f : Int32) : pw S (q_M_sayNumber (some 1282) (nI s) (nI o) c k f (I, S)) (RU I0 (aNum A s o k (if f = 0 then 0 else 16) c)) := by
  obtain ⟨h1, h2, h3⟩ := hl
  unfold q_M_sayNumber
  refine rM hS (r := 1322) rfl (gA hS hX (6 * s + o) rfl (n_lin 6 s o) (by omega) ?_)
  have fin : ∀ b : Int32, pw S (q_M_sayNumber_32 b (k + 32 * A.1 26 (6 * s + o)) c (nI o) (nI s) (some 1282) (I, S)) (RU I0 (aNum A s o k b c)) := by
    intro b
    unfold q_M_sayNumber_32 aNum
    have e : k + 32 * A.1 26 (6 * s + o) + b = (k + b) + 32 * A.1 26 (6 * s + o) := by
      rw [Int32.add_assoc, Int32.add_comm (32 * _) b, ← Int32.add_assoc]
    rw [e]
    exact pw_cv (M_k hS) (r_say hS ⟨h1, h2, h3⟩ hX hV _ c) (fun _ J g => pw_ret g)
  refine pw_if (fun e => ?_) (fun e => ?_)
  · rw [if_pos e]; exact fin 0
  · rw [if_neg e]; exact fin 16
/-! the OUT -/
theorem c_putOut (hS : Shp S) (hX : CX I0 I A) {b cap : Nat} {l : List Int32} (hB : isB S b cap) (hl : isL I b l) (hc : l.length ≤ cap) (hd : b + 2 ≤ 1268 ∨ 1270 ≤ b) (x c : Nat) (hx : x + c ≤ l.length) (h9 : c ≤ 907) : pw S (q_C_putOut (some 16) (some b) (nI x) (nI c) (I, S)) (fun _ J => CX I0 J (aL A 1 0 ((l.drop x).take c)) ∧ ∀ r, r ≠ 1268 → r ≠ 1269 → J r = I r) := by
  obtain ⟨k1, k2, k3, k4, k5, k6, k7, k8, k9, k10, k11, k12⟩ := hS.1
  unfold q_C_putOut
  refine pw_gR k1 k4 (pw_cv k11.1 (p_B_clear k11) (fun _ J1 g1 => pw_gR k1 k4 (pw_cv k11.1 (p_B_addFrom k11 g1.1 hB (isL_same hl ?_ ?_) hc (by omega) x c hx (by simp; omega)) (fun _ J2 g2 => ?_))))
  · exact g1.2.2 _ (by omega)
  · exact g1.2.2 _ (by omega)
  · have e : ∀ r, r ≠ 1268 → r ≠ 1269 → J2 r = I r := fun r a b => by rw [g2.2 r a b, g1.2.2 r a]
    rw [List.nil_append] at g2
    refine pw_ret ⟨CX_out hX e g2.1 ?_, e⟩
    rw [List.length_take]
    omega
theorem RX_1 {J : mIm} {x : List Int32} (hX : RX I0 I A) (e : ∀ r, r ≠ 1282 → r ≠ 1284 → J r = I r) (e2 : ∀ j, j ≠ 3 → J 1282 j = I 1282 j) (h1 : J 1282 3 = nI x.length) (h2 : fL J 1284 0 x) (hc : x.length ≤ 907) : RX I0 J (aL A 1 0 x) := by
  obtain ⟨⟨a1, a2, a3, a4, a5⟩, a6, a7⟩ := hX
  refine ⟨⟨?_, fun q hq k hk => ?_, fun k hk => ?_, fun s hs => ?_, fun l hl => ?_⟩, fun r hr => ?_, fun j hj => ?_⟩
  · obtain ⟨b1, ⟨b2, b3, b4⟩, -⟩ := a1
    refine ⟨by rw [e2 15 (by decide)]; exact b1, ⟨by rw [aL_f _ _ _ _ (by decide), e2 1 (by decide)]; exact b2, ?_, by rw [aL_f _ _ _ _ (by decide)]; exact b4⟩, by rw [aL_s]; exact h1, by rw [aL_s]; exact h2, by rw [aL_s]; exact hc⟩
    rw [aL_f _ _ _ _ (by decide)]
    unfold fL at b3 ⊢
    rw [e 1283 (by decide) (by decide)]
    exact b3
  · obtain ⟨o1, o2, o3, o4⟩ := rTab_o q hq
    rw [e q.1 o1 o3]
    exact a2 q hq k hk
  · have := a3 k hk
    unfold rRv fL at this ⊢
    rw [aL_f _ _ _ _ (by decide), aL_f _ _ _ _ (by decide), e 1289 (by decide) (by decide), e 1290 (by decide) (by decide), e 1291 (by decide) (by decide), e 1292 (by decide) (by decide)]
    exact this
  · have := a4 s hs
    unfold rQu rMl rSn fL at this ⊢
    rw [aL_f _ _ _ _ (by decide), aL_f _ _ _ _ (by decide), e 1296 (by decide) (by decide), e 1297 (by decide) (by decide), e 1298 (by decide) (by decide), e 1303 (by decide) (by decide), e 1304 (by decide) (by decide), e 1305 (by decide) (by decide), e 1307 (by decide) (by decide), e 1308 (by decide) (by decide), e 1344 (by decide) (by decide), e 1345 (by decide) (by decide)]
    exact this
  · have := a5 l hl
    unfold rLk fL at this ⊢
    rw [aL_f _ _ _ _ (by decide), aL_f _ _ _ _ (by decide), e 1330 (by decide) (by decide), e 1331 (by decide) (by decide), e 1332 (by decide) (by decide), e 1333 (by decide) (by decide), e 1334 (by decide) (by decide), e 1335 (by decide) (by decide), e 1336 (by decide) (by decide), e 1337 (by decide) (by decide), e 1338 (by decide) (by decide), e 1339 (by decide) (by decide), e 1340 (by decide) (by decide)]
    exact this
  · rw [e r (by unfold kp at hr; omega) (by unfold kp at hr; omega)]
    exact a6 r hr
  · rw [e2 j (by omega)]
    exact a7 j hj
/-! read -/
def aRe1 (A : aT) (l c : Nat) : aT := aL (aL A 1 0 ((A.2.1 11 l).take c)) 11 l ((A.2.1 11 l).drop c)
def aRe2 (A : aT) (s o c : Nat) : aT := if 48 < (A.2.1 11 (6 * s + o)).length ∧ ¬ 48 < (A.2.1 11 (6 * s + o)).length - c ∧ A.1 20 (6 * s + o) = 2 then aNum (aRe1 A (6 * s + o) c) s o 1 0 0 else aRe1 A (6 * s + o) c
def aRea (A : aT) (i j n : Int32) : Int32 × aT := match lnk i j with
  | none => (-1, A)
  | some q => if n < 1 ∨ 64 < n then (-1, A) else (nI (min n.toNatClampNeg (A.2.1 11 (6 * q.1 + q.2)).length), aRe2 A q.1 q.2 (min n.toNatClampNeg (A.2.1 11 (6 * q.1 + q.2)).length))
theorem aRe1_11 (A : aT) (l c : Nat) : (aRe1 A l c).2.1 11 l = (A.2.1 11 l).drop c := by unfold aRe1; rw [aL_s]
theorem p_C_read (hS : Shp S) (hC : CInv I A) (i j n : Int32) : pw S (q_C_read (some 16) i j n (I, S)) (CP I (aRea A i j n)) := by
  refine CV_CP ?_
  have hX := CX_0 hC
  obtain ⟨k1, k2, k3, k4, k5, k6, k7, k8, k9, k10, k11, k12⟩ := hS.1
  unfold q_C_read aRea
  refine pw_cv k1 (p_C_linkAt hS i j) (fun a I h => ?_)
  obtain ⟨rfl, rfl⟩ := h
  cases h : lnk i j with
  | none => exact pw_nn (pw_ret ⟨rfl, hX⟩)
  | some q =>
    obtain ⟨s, o⟩ := q
    obtain ⟨h1, h2, h3, rfl, rfl⟩ := lnk_s h
    have hl : isLk s o := ⟨h1, h2, h3⟩
    have hk := cK_lt h1 h2 h3
    dsimp only
    refine pw_ns (pw_if (fun e1 => ?_) (fun e1 => pw_if (fun e2 => ?_) (fun e2 => ?_)))
    · rw [if_pos (Or.inl e1)]; exact pw_ret ⟨rfl, hX⟩
    · rw [if_pos (Or.inr e2)]; exact pw_ret ⟨rfl, hX⟩
    · rw [if_neg (fun q => q.elim e1 e2)]
      have hn0 : ¬ n < 0 := fun q => e1 (Int32.lt_trans q (by decide))
      obtain ⟨m, hm, rfl⟩ := nI_of hn0
      rw [nI_clamp hm]
      obtain ⟨-, -, -, -, ⟨i1, i2⟩, -⟩ := hX.1.2.2 s h1 o h2 h3
      refine pw_cv (cK_k hS hl) (c_isBusy hS hl hX) (fun v I2 h => ?_)
      obtain ⟨rfl, rfl⟩ := h
      refine rK hS hl (q := cK s o + 4) rfl (gB (isB_i hS hl) i1 (pw_lt ?_))
      have hmin : (if nI (A.2.1 11 (6 * s + o)).length < nI m then nI (A.2.1 11 (6 * s + o)).length else nI m) = nI (min m (A.2.1 11 (6 * s + o)).length) := by
        by_cases e : (A.2.1 11 (6 * s + o)).length < m
        · rw [if_pos (nI_lt e hm), Nat.min_eq_right (by omega)]
        · rw [if_neg (nI_nlt (by omega) (by omega)), Nat.min_eq_left (by omega)]
      rw [hmin]
      have hcl : min m (A.2.1 11 (6 * s + o)).length ≤ (A.2.1 11 (6 * s + o)).length := Nat.min_le_right _ _
      generalize min m (A.2.1 11 (6 * s + o)).length = c at hcl
      refine rK hS hl (q := cK s o + 4) rfl (pw_cv k1 (c_putOut hS hX (isB_i hS hl) i1 i2 (by unfold cN at hk; omega) 0 c (by omega) (by omega)) (fun _ J1 g1 => ?_))
      rw [List.drop_zero] at g1
      have i3 : isL J1 (cK s o + 4) (A.2.1 11 (6 * s + o)) := isL_same i1 (g1.2 _ (by unfold cN at hk; omega) (by unfold cN at hk; omega)) (g1.2 _ (by unfold cN at hk; omega) (by unfold cN at hk; omega))
      refine rK hS hl (q := cK s o + 4) rfl (pw_cv (isB_i hS hl).1 (p_B_dropFirst (isB_i hS hl) i3 i2 c hcl) (fun _ J2 g2 => ?_))
      have hX2 : CX I2 J2 (aRe1 A (6 * s + o) c) := CX_L g1.1 hl (Or.inr rfl) (fun e => by omega) (fun _ => ⟨g2.1, by rw [List.length_drop]; omega, g2.2⟩)
      have hm20 : (aRe1 A (6 * s + o) c).1 20 (6 * s + o) = A.1 20 (6 * s + o) := rfl
      unfold aRe2
      refine pw_if (fun e3 => ?_) (fun e3 => ?_)
      · rw [if_neg (fun q => bsy_0.mp e3 q.1)]; exact pw_ret ⟨rfl, hX2⟩
      · refine pw_cv (cK_k hS hl) (c_isBusy hS hl hX2) (fun v J h => ?_)
        obtain ⟨rfl, rfl⟩ := h
        refine pw_if (fun e4 => gK hS hl hX2 (f := 20) rfl (pw_if (fun e5 => ?_) (fun e5 => ?_))) (fun e4 => ?_)
        · have e4' := bsy_0.mp e4
          rw [aRe1_11, List.length_drop] at e4'
          rw [if_pos ⟨Decidable.byContradiction (fun q => e3 (bsy_0.mpr q)), e4', e5⟩]
          refine pw_cl (c_sayReady hS hl hX2 0 0) (fun _ J g => pw_ret ⟨rfl, ?_⟩)
          have : rdy (aRe1 A (6 * s + o) c) (6 * s + o) = 1 := by rw [rdy_b, if_pos e4]
          rw [this] at g
          exact g
        · rw [if_neg (fun q => e5 q.2.2)]; exact pw_ret ⟨rfl, hX2⟩
        · rw [if_neg (fun q => e4 (bsy_0.mpr (by rw [aRe1_11, List.length_drop]; exact q.2.1)))]
          exact pw_ret ⟨rfl, hX2⟩
theorem lp_read63 (hS : Shp S) {Q : Int32 → mIm → Prop} (Ib : mIm) {c : Nat} (hl : l < 36) (hc : c ≤ 64) (a b w : Int32) (fin : pw S (x_pI (xcp Ib 1332 (64 * l) 1284 0 c, S) 10 (some 1282) 3 (nI c) fun M => x_gR M 10 (some 1282) 66 fun a4 => x_aI M 0 a4 (nI l) fun x5 => x_wI M a4 (nI l) (x5 - nI c) fun M => q_M_read_117 mFU (some 1282) a b (nI l) w (nI c) (0 : Int32) M) Q) : ∀ (k n i : Nat), i + k = c → k < n → pw S (q_M_read_63 n (some 1282) a b (nI l) w (nI c) (nI i) (xcp Ib 1332 (64 * l) 1284 0 i, S)) Q
  | k, 0, i, _, h => by omega
  | k, n + 1, i, hk, hn => by
    have ho := aK_in hS (r := 1284) (t := 0) (n := 1024) rfl
    have hb := aK_in hS (r := 1332) (t := 0) (n := 2304) rfl
    show pw S (q_M_read_63_b _ _ _ _ _ _ _ _ _) _
    unfold q_M_read_63_b
    by_cases hi : i < c
    · refine pw_t (nI_lt hi (by omega)) (rM hS (r := 1284) rfl (rM hS (r := 1332) rfl (pw_aI (64 * l + i) hb.1 (n_lin 64 l i) (by omega) (by omega) (pw_wI i ho.1 rfl (by omega) (by omega) ?_))))
      rw [show nI i + 1 = nI (i + 1) from nI_1 i]
      have := xcp_s (I := Ib) (r0 := 1332) (a0 := 64 * l) (r1 := 1284) (a1 := 0) (n := i) (v := xcp Ib 1332 (64 * l) 1284 0 i 1332 (64 * l + i)) (xcp_rd (Or.inl (by decide)))
      rw [Nat.zero_add] at this
      rw [this]
      exact lp_read63 hS Ib hl hc a b w fin (k - 1) n (i + 1) (by omega) (by omega)
    · have : i = c := by omega
      subst this
      exact pw_f (nI_nlt (by omega) (by omega)) fin
theorem lp_read117 (hS : Shp S) {Q : Int32 → mIm → Prop} (Ib : mIm) {c z : Nat} (hl : l < 36) (hc : z + c ≤ 64) (hz : Ib 1333 l = nI z) (a b w : Int32) (fin : pw S (if w = 0 then some (nI c, (xcp Ib 1332 (64 * l + c) 1332 (64 * l) z, S)) else x_cv (xcp Ib 1332 (64 * l + c) 1332 (64 * l) z, S) 10 (some 1282) (q_M_isBusy (some 1282) (nI l) (xcp Ib 1332 (64 * l + c) 1332 (64 * l) z, S)) fun x6 M => if x6 = 0 then x_gR M 10 (some 1282) 49 fun a7 => x_aI M 0 a7 (nI l) fun x8 => if x8 = (2 : Int32) then x_cv M 10 (some 1282) (q_M_sayNumber (some 1282) a b (0 : Int32) (1 : Int32) (0 : Int32) M) fun _ M => some (nI c, M) else some (nI c, M) else some (nI c, M)) Q) : ∀ (k n i : Nat), i + k = z → k < n → pw S (q_M_read_117 n (some 1282) a b (nI l) w (nI c) (nI i) (xcp Ib 1332 (64 * l + c) 1332 (64 * l) i, S)) Q
  | k, 0, i, _, h => by omega
  | k, n + 1, i, hk, hn => by
    have hb := aK_in hS (r := 1332) (t := 0) (n := 2304) rfl
    have hs := aK_in hS (r := 1333) (t := 0) (n := 36) rfl
    show pw S (q_M_read_117_b _ _ _ _ _ _ _ _ _) _
    unfold q_M_read_117_b
    refine rM hS (r := 1333) rfl (pw_aI l hs.1 rfl (by omega) (by omega) ?_)
    rw [xcp_n (by decide), hz]
    by_cases hi : i < z
    · refine pw_t (nI_lt hi (by omega)) (rM hS (r := 1332) rfl (rM hS (r := 1332) rfl (pw_aI (64 * l + c + i) hb.1 ?_ (by omega) (by omega) (pw_wI (64 * l + i) hb.1 (n_lin 64 l i) (by omega) (by omega) ?_))))
      · rw [show (64 : Int32) * nI l + nI i = nI (64 * l + i) from n_lin 64 l i, nI_add]
        congr 1
        omega
      · rw [show nI i + 1 = nI (i + 1) from nI_1 i, xcp_s (xcp_rd (Or.inr (by omega)))]
        exact lp_read117 hS Ib hl hc hz a b w fin (k - 1) n (i + 1) (by omega) (by omega)
    · have : i = z := by omega
      subst this
      exact pw_f (nI_nlt (by omega) (by omega)) fin
theorem p_M_read (hS : Shp S) (hR : RInv I A) (hV : aVi A) (i j n : Int32) : pw S (q_M_read (some 1282) i j n (I, S)) (RP I (aRea A i j n)) := by
  refine RV_RP ?_
  have hX := RX_0 hR
  have hm := M_k hS
  unfold q_M_read aRea
  refine pw_cl (p_M_isLink i j) (fun a I h => ?_)
  obtain ⟨rfl, rfl⟩ := h
  cases h : lnk i j with
  | none => exact pw_t (by simp) (pw_ret ⟨rfl, hX⟩)
  | some q =>
    obtain ⟨s, o⟩ := q
    obtain ⟨h1, h2, h3, rfl, rfl⟩ := lnk_s h
    have hl : 6 * s + o < 36 := by omega
    refine pw_f (by simp) (pw_cl (p_M_in _ _ _) (fun v I2 h => ?_))
    obtain ⟨rfl, rfl⟩ := h
    rw [inV_or]
    dsimp only
    by_cases e1 : n < 1 ∨ 64 < n
    · rw [if_pos e1, if_pos e1]
      exact pw_t rfl (pw_ret ⟨rfl, hX⟩)
    · rw [if_neg e1, if_neg e1]
      refine pw_f (by decide) (pw_lt ?_)
      rw [show (6 : Int32) * nI s + nI o = nI (6 * s + o) from n_lin 6 s o]
      have hn0 : ¬ n < 0 := fun q => e1 (Or.inl (Int32.lt_trans q (by decide)))
      obtain ⟨m, hm2, rfl⟩ := nI_of hn0
      rw [nI_clamp hm2]
      obtain ⟨i1, i2, i3⟩ := (hX.1.2.2.2.2 _ hl).2.1
      refine pw_cv hm (r_isBusy hS hl hX) (fun v I h => ?_)
      obtain ⟨rfl, rfl⟩ := h
      refine rM hS (r := 1333) rfl (g11 hS hX hl ?_)
      have fin : ∀ c, c ≤ (A.2.1 11 (6 * s + o)).length → pw S (q_M_read_58 (some 1282) (nI s) (nI o) (nI (6 * s + o)) (bsy A (6 * s + o)) (nI c) (I, S)) (RV I (nI c, aRe2 A s o c)) := by
        intro c hc
        have hzk := aK_in hS (r := 1333) (t := 0) (n := 36) rfl
        unfold q_M_read_58
        have := lp_read63 (Q := RV I (nI c, aRe2 A s o c)) hS I (l := 6 * s + o) (c := c) hl (by omega) (nI s) (nI o) (bsy A (6 * s + o)) ?_ c mFU 0 (by omega) (by unfold mFU; omega)
        · rw [xcp_0] at this
          exact this
        · refine pw_pI hm (rM hS (r := 1333) rfl (pw_aI (6 * s + o) hzk.1 rfl (by omega) (by omega) (pw_wI (6 * s + o) hzk.1 rfl (by omega) (by omega) ?_)))
          have hX1 : RX I (iput (xcp I 1332 (64 * (6 * s + o)) 1284 0 c) 1282 3 (nI c)) (aL A 1 0 ((A.2.1 11 (6 * s + o)).take c)) := by
            refine RX_1 hX (fun r a b => by rw [iput_n _ _ _ a, xcp_n b]) (fun j hj => by rw [iput_j _ _ _ hj, xcp_n (by decide)]) (by rw [iput_s, List.length_take, Nat.min_eq_left hc]) ?_ (by rw [List.length_take]; omega)
            have := xcp_fL (r1 := 1284) (a1 := 0) (n := c) i3
            unfold fL at this ⊢
            rw [iput_n _ _ _ (by decide)]
            exact this
          have e9 : iput (xcp I 1332 (64 * (6 * s + o)) 1284 0 c) 1282 3 (nI c) 1333 (6 * s + o) = nI (A.2.1 11 (6 * s + o)).length := by
            rw [iput_n _ _ _ (by decide), xcp_n (by decide), i1]
          rw [e9, show nI (A.2.1 11 (6 * s + o)).length - nI c = nI ((A.2.1 11 (6 * s + o)).length - c) from pk_sub hc]
          have i4 : fL (iput (xcp I 1332 (64 * (6 * s + o)) 1284 0 c) 1282 3 (nI c)) 1332 (64 * (6 * s + o)) (A.2.1 11 (6 * s + o)) := by
            unfold fL at i3 ⊢
            rw [iput_n _ _ _ (by decide), xcp_n (by decide)]
            exact i3
          generalize iput (xcp I 1332 (64 * (6 * s + o)) 1284 0 c) 1282 3 (nI c) = I1 at hX1 i4 e9
          have := lp_read117 (Q := RV I (nI c, aRe2 A s o c)) hS (iput I1 1333 (6 * s + o) (nI ((A.2.1 11 (6 * s + o)).length - c))) (l := 6 * s + o) (c := c) (z := (A.2.1 11 (6 * s + o)).length - c) hl (by omega) (iput_s _ _ _ _) (nI s) (nI o) (bsy A (6 * s + o)) ?_ ((A.2.1 11 (6 * s + o)).length - c) mFU 0 (by omega) (by unfold mFU; omega)
          · rw [xcp_0] at this
            exact this
          · have hX2 : RX I (xcp (iput I1 1333 (6 * s + o) (nI ((A.2.1 11 (6 * s + o)).length - c))) 1332 (64 * (6 * s + o) + c) 1332 (64 * (6 * s + o)) ((A.2.1 11 (6 * s + o)).length - c)) (aRe1 A (6 * s + o) c) := by
              refine RX_11 hX1 hl (fun r a b => by rw [xcp_n a, iput_n _ _ _ b]) (fun k hk => by rw [xcp_n (by decide), iput_j _ _ _ hk]) (fun j hj => by rw [xcp_out (by omega), iput_n _ _ _ (by decide)]) (by rw [xcp_n (by decide), iput_s, List.length_drop]) (by rw [List.length_drop]; omega) ?_
              have h5 : fL (iput I1 1333 (6 * s + o) (nI ((A.2.1 11 (6 * s + o)).length - c))) 1332 (64 * (6 * s + o) + c) ((A.2.1 11 (6 * s + o)).drop c) := by
                have := fL_drop (c := c) i4
                unfold fL at this ⊢
                rw [iput_n _ _ _ (by decide)]
                exact this
              have := xcp_fL (r1 := 1332) (a1 := 64 * (6 * s + o)) (n := (A.2.1 11 (6 * s + o)).length - c) h5
              rw [List.take_of_length_le (by rw [List.length_drop]; omega)] at this
              exact this
            generalize xcp (iput I1 1333 (6 * s + o) (nI ((A.2.1 11 (6 * s + o)).length - c))) 1332 (64 * (6 * s + o) + c) 1332 (64 * (6 * s + o)) ((A.2.1 11 (6 * s + o)).length - c) = J2 at hX2
            unfold aRe2
            refine pw_if (fun e3 => ?_) (fun e3 => ?_)
            · rw [if_neg (fun q => bsy_0.mp e3 q.1)]; exact pw_ret ⟨rfl, hX2⟩
            · refine pw_cv hm (r_isBusy hS hl hX2) (fun v J h => ?_)
              obtain ⟨rfl, rfl⟩ := h
              refine pw_if (fun e4 => rM hS (r := 1316) rfl (gA hS hX2 (6 * s + o) rfl rfl (by omega) (pw_if (fun e5 => ?_) (fun e5 => ?_)))) (fun e4 => ?_)
              · have e4' := bsy_0.mp e4
                rw [aRe1_11, List.length_drop] at e4'
                rw [if_pos ⟨Decidable.byContradiction (fun q => e3 (bsy_0.mpr q)), e4', e5⟩]
                exact pw_cv hm (r_sayNumber hS ⟨h1, h2, h3⟩ hX2 (aVi_same hV rfl rfl) 0 1 0) (fun _ J g => pw_ret ⟨rfl, g⟩)
              · rw [if_neg (fun q => e5 q.2.2)]; exact pw_ret ⟨rfl, hX2⟩
              · rw [if_neg (fun q => e4 (bsy_0.mpr (by rw [aRe1_11, List.length_drop]; exact q.2.1)))]
                exact pw_ret ⟨rfl, hX2⟩
      by_cases e2 : m < (A.2.1 11 (6 * s + o)).length
      · rw [Nat.min_eq_left (by omega)]
        exact pw_t (nI_lt e2 (by omega)) (fin m (by omega))
      · rw [Nat.min_eq_right (by omega)]
        exact pw_f (nI_nlt (by omega) (by omega)) (rM hS (r := 1333) rfl (g11 hS hX hl (fin _ (by omega))))
end RE
