/-! hears, raw, give -/
def aHea (A : aT) (i j on : Int32) : Int32 × aT := match lnk i j with
  | none => (0, A)
  | some q => (1, aI A 2 (6 * q.1 + q.2) on)
def hOr : Bool := (List.range 64).all (fun h => (List.range 6).all (fun b => decide (nI h ||| ((1 : Int32) <<< (nI b &&& 31)) = nI (h ||| 2 ^ b)) && decide (h ||| 2 ^ b < 64) && (List.range 6).all (fun o => decide ((h ||| 2 ^ b) / 2 ^ o % 2 = if o = b then 1 else h / 2 ^ o % 2))))
theorem hOr_ok : hOr = true := by decide +kernel
def hAn : Bool := (List.range 64).all (fun h => (List.range 6).all (fun b => decide (nI h &&& (((1 : Int32) <<< (nI b &&& 31)) ^^^ (-1 : Int32)) = nI (h &&& (63 - 2 ^ b))) && decide (h &&& (63 - 2 ^ b) < 64) && (List.range 6).all (fun o => decide ((h &&& (63 - 2 ^ b)) / 2 ^ o % 2 = if o = b then 0 else h / 2 ^ o % 2))))
theorem hAn_ok : hAn = true := by decide +kernel
theorem hOr_in {h b : Nat} (hh : h < 64) (hb : b < 6) : nI h ||| ((1 : Int32) <<< (nI b &&& 31)) = nI (h ||| 2 ^ b) ∧ h ||| 2 ^ b < 64 ∧ ∀ o, o < 6 → (h ||| 2 ^ b) / 2 ^ o % 2 = if o = b then 1 else h / 2 ^ o % 2 := by
  have := List.all_eq_true.mp (List.all_eq_true.mp hOr_ok h (List.mem_range.mpr hh)) b (List.mem_range.mpr hb)
  simp only [Bool.and_eq_true, decide_eq_true_eq] at this
  exact ⟨this.1.1, this.1.2, fun o ho => by simpa using List.all_eq_true.mp this.2 o (List.mem_range.mpr ho)⟩
theorem hAn_in {h b : Nat} (hh : h < 64) (hb : b < 6) : nI h &&& (((1 : Int32) <<< (nI b &&& 31)) ^^^ (-1 : Int32)) = nI (h &&& (63 - 2 ^ b)) ∧ h &&& (63 - 2 ^ b) < 64 ∧ ∀ o, o < 6 → (h &&& (63 - 2 ^ b)) / 2 ^ o % 2 = if o = b then 0 else h / 2 ^ o % 2 := by
  have := List.all_eq_true.mp (List.all_eq_true.mp hAn_ok h (List.mem_range.mpr hh)) b (List.mem_range.mpr hb)
  simp only [Bool.and_eq_true, decide_eq_true_eq] at this
  exact ⟨this.1.1, this.1.2, fun o ho => by simpa using List.all_eq_true.mp this.2 o (List.mem_range.mpr ho)⟩
section HE
variable {S : mS} {I I0 : mIm} {A : aT} {s o : Nat}
theorem CX_hea (hX : CX I0 I A) (hs : s < 6) (ho : o < 6) {v x : Int32} {h : Nat} (hh : h < 64) (hx : x = nI h) (hb : ∀ z, z < 6 → (aI A 2 (6 * s + o) v).1 2 (6 * s + z) = nI (h / 2 ^ z % 2)) : CX I0 (iput I (cN s) 8 x) (aI A 2 (6 * s + o) v) := by
  obtain ⟨⟨c0, ⟨h', g1, g2, g3⟩, c3, c4, c5, c6, c7⟩, d2, d3, d4, d5, d6, d7⟩ := hX.1.2.1 s hs
  refine CX_st hX hs (fun r hr => iput_n _ _ _ (by omega)) ⟨?_, ?_, ?_, ?_, ?_, ?_, ?_⟩ (fun t ht hne => eqS_2 (fun z hz => by omega)) (fun l hl => eqK_2) (aI_f _ _ _ _ (by decide)) rfl rfl (aI_f _ _ _ _ (by decide)) (aI_f _ _ _ _ (by decide)) (aI_f _ _ _ _ (by decide)) rfl rfl
  · refine ⟨?_, ⟨h, hh, by rw [iput_s, hx], hb⟩, ?_, ?_, ?_, ?_, fun w hw => ?_⟩
    · rw [iput_j _ _ _ (by decide)]; exact c0
    · rw [iput_j _ _ _ (by decide), aI_f _ _ _ _ (by decide)]; exact c3
    · rw [iput_j _ _ _ (by decide), aI_f _ _ _ _ (by decide)]; exact c4
    · rw [iput_j _ _ _ (by decide), awk_A (fun o ho => aI_f _ _ _ _ (by decide))]; exact c5
    · rw [iput_j _ _ _ (by decide), aI_f _ _ _ _ (by decide)]; exact c6
    · rw [iput_j _ _ _ (by omega), aI_f _ _ _ _ (by decide)]; exact c7 w hw
  · exact cS2_A (cS2_same d2 (iput_n _ _ _ (by omega))) (fun _ _ => aI_f _ _ _ _ (by decide))
  · exact cS3_A (cS3_same d3 (fun r a b => iput_n _ _ _ (by omega))) (fun _ _ => ⟨aI_f _ _ _ _ (by decide), aI_f _ _ _ _ (by decide)⟩)
  · exact cSn_A (cSn_same d4 (fun r a b => iput_n _ _ _ (by omega))) (aI_f _ _ _ _ (by decide)) (aI_f _ _ _ _ (by decide)) (aI_f _ _ _ _ (by decide)) rfl rfl
  · exact cRv_A (cRv_same d5 (fun r a b => iput_n _ _ _ (by omega))) (aI_f _ _ _ _ (by decide)) (aI_f _ _ _ _ (by decide)) (aI_f _ _ _ _ (by decide)) rfl rfl
  · exact isR_same d6 (fun r a b => iput_n _ _ _ (by omega))
  · exact cMl_A (cMl_same d7 (fun r a b => iput_n _ _ _ (by omega))) rfl
theorem p_C_hears (hS : Shp S) (hC : CInv I A) (i j on : Int32) (hon : on = 0 ∨ on = 1) : pw S (q_C_hears (some 16) i j on (I, S)) (CP I (aHea A i j on)) := by
  refine CV_CP ?_
  have hX := CX_0 hC
  unfold q_C_hears aHea lnk
  refine pw_cv hS.1.1 (p_C_stationAt hS i) (fun a I h => ?_)
  obtain ⟨rfl, rfl⟩ := h
  cases h : sta i with
  | none => exact pw_nn (pw_rz (Or.inl rfl) ⟨rfl, hX⟩)
  | some s =>
    obtain ⟨hs, rfl⟩ := sta_s h
    refine pw_ns (pw_cl (p_C_isStation j) (fun x I h2 => ?_))
    obtain ⟨rfl, rfl⟩ := h2
    cases h3 : sta j with
    | none => exact pw_t rfl (pw_rz (Or.inl rfl) ⟨rfl, hX⟩)
    | some o =>
      obtain ⟨ho, rfl⟩ := sta_s h3
      dsimp only
      refine pw_f (by simp) (pw_if (fun e => ?_) (fun e => ?_))
      · have : s = o := (nI_eq (by omega) (by omega)).mp e
        rw [if_pos this.symm]
        exact pw_rz (Or.inl rfl) ⟨rfl, hX⟩
      · have hne : ¬ o = s := fun q => e (by rw [q])
        rw [if_neg hne]
        obtain ⟨h, hh, hh2, hh3⟩ := (hX.1.2.1 s hs).1.2.1
        rcases hon with rfl | rfl
        · rw [if_pos rfl]
          obtain ⟨q1, q2, q3⟩ := hAn_in hh ho
          refine pw_gI (cN_k hS hs) (pw_pI (cN_k hS hs) (pw_rz (Or.inr rfl) ⟨rfl, CX_hea hX hs ho q2 (by rw [hh2]; exact q1) (fun z hz => ?_)⟩))
          rw [q3 z hz]
          by_cases e2 : z = o
          · subst e2; rw [aI_s, if_pos rfl]; rfl
          · rw [aI_k _ _ _ (by omega), if_neg e2]; exact hh3 z hz
        · rw [if_neg (by decide)]
          obtain ⟨q1, q2, q3⟩ := hOr_in hh ho
          refine pw_gI (cN_k hS hs) (pw_pI (cN_k hS hs) (pw_rz (Or.inr rfl) ⟨rfl, CX_hea hX hs ho q2 (by rw [hh2]; exact q1) (fun z hz => ?_)⟩))
          rw [q3 z hz]
          by_cases e2 : z = o
          · subst e2; rw [aI_s, if_pos rfl]; rfl
          · rw [aI_k _ _ _ (by omega), if_neg e2]; exact hh3 z hz
theorem p_M_hears (hS : Shp S) (hR : RInv I A) (i j on : Int32) (hon : on = 0 ∨ on = 1) : pw S (q_M_hears (some 1282) i j on (I, S)) (RP I (aHea A i j on)) := by
  refine RV_RP ?_
  have hX := RX_0 hR
  unfold q_M_hears aHea
  refine pw_cl (p_M_isLink i j) (fun a I h => ?_)
  obtain ⟨rfl, rfl⟩ := h
  cases h : lnk i j with
  | none => exact pw_t (by simp) (pw_rz (Or.inl rfl) ⟨rfl, hX⟩)
  | some q =>
    obtain ⟨s, o⟩ := q
    obtain ⟨h1, h2, h3, rfl, rfl⟩ := lnk_s h
    exact pw_f (by simp) (rM hS (r := 1295) rfl (sZ hS hX (6 * s + o) rfl (by decide) hon (n_lin 6 s o) (by omega) (fun J1 g1 => pw_rz (Or.inr rfl) ⟨rfl, g1⟩)))
/-! raw -/
def aRaw (A : aT) (i : Int32) : Int32 × aT := match sta i with
  | none => (0, aL A 0 0 [])
  | some s => if (15 ≤ (A.2.1 0 0).length ∧ (A.2.1 0 0).length ≤ 90) ∧ (A.2.2 0 s).length < 12 then (1, aQ (aL A 0 0 []) 0 s (A.2.2 0 s ++ [A.2.1 0 0])) else (0, aL A 0 0 [])
theorem c_isFrame {b cap : Nat} {l : List Int32} (hB : isB S b cap) (hl : isL I b l) (hc : l.length ≤ cap) : pw S (q_C_isFrame (some b) (I, S)) (fun v J => J = I ∧ v = if 15 ≤ l.length ∧ l.length ≤ 90 then 1 else 0) := by
  have h5 := hB.2.2.2.2
  unfold q_C_isFrame
  refine gB hB hl (pw_if (fun h => ?_) (fun h => gB hB hl (pw_if (fun h2 => ?_) (fun h2 => ?_))))
  · have : l.length < 15 := (nI_ltI (b := 15) (by omega) (by decide)).mp h
    rw [if_neg (by omega)]; exact pw_rz (Or.inl rfl) ⟨rfl, rfl⟩
  · have : 90 < l.length := (nI_ltI (a := 90) (by decide) (by omega)).mp h2
    rw [if_neg (by omega)]; exact pw_rz (Or.inl rfl) ⟨rfl, rfl⟩
  · have h3 : ¬ l.length < 15 := fun q => h (nI_lt (b := 15) q (by decide))
    have h4 : ¬ 90 < l.length := fun q => h2 (nI_lt (a := 90) q (by omega))
    rw [if_pos (by omega)]; exact pw_rz (Or.inr rfl) ⟨rfl, rfl⟩
theorem c_tapeClear (hS : Shp S) (hX : CX I0 I A) : pw S (q_B_clear (some 1266) (I, S)) (CU I0 (aL A 0 0 [])) := pw_mono (p_B_clear hS.1.2.2.2.2.2.2.2.2.2.1) (fun _ J g => CX_tape hX (fun r a _ => g.2.2 r a) g.1 (by decide))
theorem p_C_raw (hS : Shp S) (hC : CInv I A) (i : Int32) : pw S (q_C_raw (some 16) i (I, S)) (CP I (aRaw A i)) := by
  refine CV_CP ?_
  have hX := CX_0 hC
  obtain ⟨k1, k2, k3, k4, k5, k6, k7, k8, k9, k10, k11, k12⟩ := hS.1
  unfold q_C_raw aRaw
  have no : ∀ R : Int32 × aT, R = (0, aL A 0 0 []) → pw S (q_C_raw_30 (some 16) (I, S)) (CV I R) := by
    intro R hR
    subst hR
    unfold q_C_raw_30 q_C_raw_31 q_C_raw_52
    exact pw_nn (pw_gR k1 k3 (pw_cv k10.1 (c_tapeClear hS hX) (fun _ J g => pw_nn (pw_rz (Or.inl rfl) ⟨rfl, g⟩))))
  refine pw_cv hS.1.1 (p_C_stationAt hS i) (fun a I2 h => ?_)
  obtain ⟨rfl, rfl⟩ := h
  cases h : sta i with
  | none => exact pw_nn (no _ rfl)
  | some s =>
    obtain ⟨hs, rfl⟩ := sta_s h
    obtain ⟨h1, h2⟩ := hX.1.1.2.1
    refine pw_ns (pw_gR k1 k3 (pw_cl (c_isFrame k10 h1 h2) (fun v I2 h => ?_)))
    obtain ⟨rfl, rfl⟩ := h
    dsimp only
    by_cases hf : 15 ≤ (A.2.1 0 0).length ∧ (A.2.1 0 0).length ≤ 90
    · rw [if_pos hf, if_neg (by decide)]
      refine rN hS hs (q := cN s + 10) rfl ?_
      by_cases hq : (A.2.2 0 s).length < 12
      · rw [if_pos ⟨hf, hq⟩]
        refine pw_cv (isW_q hS hs).1 (c_addRow hS hs hX hq) (fun a I1 g => ?_)
        obtain ⟨b, rfl, g1, g2, g3, g4, g5, g6⟩ := g
        unfold q_C_raw_31 q_C_raw_52
        have hL1 : isL I1 1266 (A.2.1 0 0) := isL_same h1 (g5 _ (by unfold cN; omega)) (g5 _ (by unfold cN; omega))
        refine pw_ns (pw_gR k1 k3 (pw_gR k1 k3 (gB k10 hL1 (pw_cv g1.1 (b_addFrom g1 g4 k10 hL1 h2 (by unfold cN at g3; omega) 0 _ (by omega) (by simp; omega)) (fun _ J g => ?_)))))
        rw [List.nil_append, List.drop_zero, List.take_length] at g
        exact pw_gR k1 k3 (pw_cv k10.1 (c_tapeClear hS (g6 J _ hf.2 g)) (fun _ J g => pw_ns (pw_rz (Or.inr rfl) ⟨rfl, g⟩)))
      · rw [if_neg (fun q => hq q.2)]
        refine pw_cv (isW_q hS hs).1 (c_full hS hs hX hq) (fun a I1 g => ?_)
        obtain ⟨rfl, rfl⟩ := g
        exact no _ rfl
    · rw [if_neg hf, if_pos rfl, if_neg (fun q => hf q.1)]
      exact no _ rfl
theorem RX_tape0 (hX : RX I0 I A) : RX I0 (iput I 1282 1 0) (aL A 0 0 []) := ⟨RInv_tape hX.1 (fun r a _ => iput_n _ _ _ a) (iput_j _ _ _ (by decide)) (iput_j _ _ _ (by decide)) (iput_s _ _ _ _) (fun j x hj => by simp at hj) (by decide), fun r hr => by rw [iput_n _ _ _ (by unfold kp at hr; omega)]; exact hX.2.1 r hr, fun j hj => by rw [iput_j _ _ _ (by omega)]; exact hX.2.2 j hj⟩
theorem p_M_put2 (hS : Shp S) {l : List Int32} (hX : RX I0 I A) (hf : rFr I l) (hl : l.length < 90) (v : Int32) : pw S (q_M_put (some 1282) v (I, S)) (fun _ J => RX I0 J A ∧ rFr J (l ++ [v]) ∧ ∀ r, r ≠ 1282 → r ≠ 1311 → J r = I r) := by
  have hk := aK_in hS (r := 1311) (t := 0) (n := 90) rfl
  have hm := M_k hS
  unfold q_M_put
  refine rM hS (r := 1311) rfl (pw_gI hm (pw_wI l.length hk.1 hf.1 (by omega) (by omega) (pw_gI hm (pw_pI hm (pw_ret ⟨RX_fr hX (fun r a b => ?_) (fun j hj => ?_), ⟨?_, ?_⟩, fun r a b => ?_⟩)))))
  · rw [iput_n _ _ _ a, iput_n _ _ _ b]
  · rw [iput_j _ _ _ hj, iput_n _ _ _ (by decide)]
  · rw [iput_s, iput_n _ _ _ (by decide), hf.1, List.length_append]
    exact nI_1 _
  · have := fL_push0 (v := v) (n := l.length) rfl hf.2
    unfold fL at this ⊢
    rw [iput_n _ _ _ (by decide)]
    exact this
  · rw [iput_n _ _ _ a, iput_n _ _ _ b]
theorem p_M_raw_48 (hS : Shp S) {l : List Int32} (hs : s < 6) (hl : l.length ≤ 90) : ∀ (k n i : Nat) (I : mIm), i + k = l.length → k < n → RX I0 I A → rFr I (l.take i) → fL I 1283 0 l → pw S (q_M_raw_48 n (some 1282) (nI s) (nI l.length) (nI i) (I, S)) (RV I0 (1, aEnq A s l))
  | k, 0, i, I, _, h, _, _, _ => by omega
  | k, n + 1, i, I, hk, hn, hX, g1, g2 => by
    have hm := M_k hS
    have ht := aK_in hS (r := 1283) (t := 0) (n := 260) rfl
    show pw S (q_M_raw_48_b _ _ _ _ _ _) _
    unfold q_M_raw_48_b
    by_cases hi : i < l.length
    · refine pw_t (nI_lt hi (by omega)) (rM hS (r := 1283) rfl (pw_aI i ht.1 rfl (by omega) (by omega) ?_))
      have hx : I 1283 i = l[i] := by
        have := g2 i l[i] (List.getElem?_eq_getElem hi)
        rw [Nat.zero_add] at this
        exact this
      rw [hx]
      refine pw_cv hm (p_M_put2 hS hX g1 (by rw [List.length_take]; omega) _) (fun _ J g => ?_)
      rw [show nI i + 1 = nI (i + 1) from nI_1 i]
      refine p_M_raw_48 hS hs hl (k - 1) n (i + 1) J (by omega) (by omega) g.1 ?_ ?_
      · rw [List.take_succ, List.getElem?_eq_getElem hi]
        exact g.2.1
      · unfold fL at g2 ⊢
        rw [g.2.2 1283 (by decide) (by decide)]
        exact g2
    · have : i = l.length := by omega
      subst this
      rw [List.take_length] at g1
      exact pw_f (nI_nlt (by omega) (by omega)) (pw_cv hm (p_M_enqueue hS hX g1 hs hl) (fun _ J g => pw_rz (Or.inr rfl) ⟨rfl, g⟩))
theorem inV_nat {n a b : Nat} (hn : n < 2 ^ 31) (ha : a < 2 ^ 31) (hb : b < 2 ^ 31) : inV (nI n) (nI a) (nI b) = if a ≤ n ∧ n ≤ b then 1 else 0 := by
  unfold inV
  by_cases h1 : n < a
  · rw [if_pos (nI_lt h1 ha), if_neg (by omega)]
  · rw [if_neg (nI_nlt (by omega) hn)]
    by_cases h2 : b < n
    · rw [if_pos (nI_lt h2 hn), if_neg (by omega)]
    · rw [if_neg (nI_nlt (by omega) hb), if_pos (by omega)]
theorem p_M_raw (hS : Shp S) (hR : RInv I A) (i : Int32) : pw S (q_M_raw (some 1282) i (I, S)) (RP I (aRaw A i)) := by
  refine RV_RP ?_
  have hX := RX_0 hR
  have hm := M_k hS
  obtain ⟨t1, t2, t3⟩ := hR.1.2.1
  unfold q_M_raw aRaw
  refine pw_gI hm (pw_pI hm ?_)
  rw [t1]
  have hX1 := RX_tape0 hX
  refine pw_cl (p_M_isStation i) (fun a I2 h => ?_)
  obtain ⟨rfl, rfl⟩ := h
  cases h : sta i with
  | none => exact pw_t (by simp) (pw_rz (Or.inl rfl) ⟨rfl, hX1⟩)
  | some s =>
    obtain ⟨hs, rfl⟩ := sta_s h
    refine pw_f (by simp) (pw_cl (p_M_in _ _ _) (fun v I2 h => ?_))
    obtain ⟨rfl, rfl⟩ := h
    rw [show inV (nI (A.2.1 0 0).length) 15 90 = _ from inV_nat (a := 15) (b := 90) (by omega) (by decide) (by decide)]
    dsimp only
    by_cases hf : 15 ≤ (A.2.1 0 0).length ∧ (A.2.1 0 0).length ≤ 90
    · rw [if_pos hf, if_neg (by decide)]
      refine rM hS (r := 1296) rfl (g0 hS hX1 hs ?_)
      rw [aL_2]
      have q2 := (hX.1.2.2.2.1 s hs).1.2.1
      by_cases hq : (A.2.2 0 s).length < 12
      · rw [if_pos (show (15 ≤ (A.2.1 0 0).length ∧ (A.2.1 0 0).length ≤ 90) ∧ (A.2.2 0 s).length < 12 from ⟨hf, hq⟩)]
        refine pw_f (fun e => by have := (nI_eq (b := 12) (by omega) (by decide)).mp e; omega) (pw_pI hm ?_)
        have hX2 : RX I (iput (iput I 1282 1 0) 1282 34 0) (aL A 0 0 []) := RX_fr hX1 (fun r a _ => iput_n _ _ _ a) (fun j hj => iput_j _ _ _ hj)
        have := p_M_raw_48 (I0 := I) hS hs hf.2 (A.2.1 0 0).length mFU 0 _ (by omega) (by unfold mFU; omega) hX2 ⟨by rw [iput_s]; rfl, fun j x hj => by simp at hj⟩ (by
          unfold fL at t2 ⊢
          rw [iput_n _ _ _ (by decide), iput_n _ _ _ (by decide)]
          exact t2)
        unfold aEnq at this
        rw [aL_2, if_pos hq] at this
        exact this
      · rw [if_neg (show ¬ ((15 ≤ (A.2.1 0 0).length ∧ (A.2.1 0 0).length ≤ 90) ∧ (A.2.2 0 s).length < 12) from fun q => hq q.2)]
        exact pw_t (by rw [show (A.2.2 0 s).length = 12 by omega]; rfl) (pw_rz (Or.inl rfl) ⟨rfl, hX1⟩)
    · rw [if_neg hf, if_pos rfl, if_neg (fun q => hf q.1)]
      exact pw_rz (Or.inl rfl) ⟨rfl, hX1⟩
/-! give -/
def aGiv (A : aT) (i j : Int32) : Int32 × aT := match lnk i j with
  | none => (-1, aL A 0 0 [])
  | some q => if A.1 20 (6 * q.1 + q.2) = 2 then (if 200 < (A.2.1 10 (6 * q.1 + q.2)).length + (A.2.1 0 0).length then (-2, aL A 0 0 []) else (nI ((A.2.1 10 (6 * q.1 + q.2)).length + (A.2.1 0 0).length), aL (aL A 10 (6 * q.1 + q.2) (A.2.1 10 (6 * q.1 + q.2) ++ A.2.1 0 0)) 0 0 [])) else (-3, aL A 0 0 [])
theorem p_C_give (hS : Shp S) (hC : CInv I A) (i j : Int32) : pw S (q_C_give (some 16) i j (I, S)) (CP I (aGiv A i j)) := by
  refine CV_CP ?_
  have hX := CX_0 hC
  obtain ⟨k1, k2, k3, k4, k5, k6, k7, k8, k9, k10, k11, k12⟩ := hS.1
  unfold q_C_give aGiv
  refine pw_cv k1 (p_C_linkAt hS i j) (fun a I h => ?_)
  obtain ⟨rfl, rfl⟩ := h
  have fin : ∀ {o : Option (Int32 × mM)} (v : Int32) (B : aT), pw S o (CV I (v, B)) → pw S (x_cv (I, S) 9 (some 16) o fun x2 M => x_gR M 9 (some 16) 1 fun a3 => x_cv M 0 a3 (q_B_clear a3 M) fun _ M => some (x2, M)) (CV I (v, aL B 0 0 [])) := by
    intro o v B h
    refine pw_cv k1 h (fun x J g => pw_gR k1 k3 (pw_cv k10.1 (c_tapeClear hS g.2) (fun _ J2 g2 => pw_ret ⟨g.1, g2⟩)))
  unfold q_C_giveTape
  cases h : lnk i j with
  | none => exact fin (-1) A (pw_nn (pw_ret ⟨rfl, hX⟩))
  | some q =>
    obtain ⟨s, o⟩ := q
    obtain ⟨h1, h2, h3, rfl, rfl⟩ := lnk_s h
    have hl : isLk s o := ⟨h1, h2, h3⟩
    obtain ⟨t1, t2⟩ := hX.1.1.2.1
    obtain ⟨-, -, -, ⟨o1, o2⟩, -⟩ := hX.1.2.2 s h1 o h2 h3
    have hk := cK_lt h1 h2 h3
    dsimp only
    by_cases e1 : A.1 20 (6 * s + o) = 2
    · rw [if_pos e1]
      by_cases e2 : 200 < (A.2.1 10 (6 * s + o)).length + (A.2.1 0 0).length
      · rw [if_pos e2]
        refine fin (-2) A (pw_ns (gK hS hl hX (f := 20) rfl ?_))
        refine pw_t e1 (rK hS hl (q := cK s o + 2) rfl (gB (isB_o hS hl) o1 (pw_gR k1 k3 (gB k10 t1 (pw_t ?_ (pw_ret ⟨rfl, hX⟩))))))
        rw [nI_add]
        exact nI_lt (a := 200) e2 (by omega)
      · rw [if_neg e2]
        refine fin _ (aL A 10 (6 * s + o) (A.2.1 10 (6 * s + o) ++ A.2.1 0 0)) (pw_ns (gK hS hl hX (f := 20) rfl ?_))
        refine pw_t e1 (rK hS hl (q := cK s o + 2) rfl (gB (isB_o hS hl) o1 (pw_gR k1 k3 (gB k10 t1 (pw_f ?_ ?_)))))
        · rw [nI_add]
          exact nI_nlt (a := 200) (by omega) (by decide)
        · refine rK hS hl (q := cK s o + 2) rfl (pw_gR k1 k3 (pw_gR k1 k3 (gB k10 t1 ?_)))
          refine pw_cv (isB_o hS hl).1 (p_B_addFrom (isB_o hS hl) o1 k10 t1 t2 (by unfold cN at hk; omega) 0 _ (by omega) (by omega)) (fun _ J g => ?_)
          rw [List.drop_zero, List.take_length] at g
          have hJ : CX I J (aL A 10 (6 * s + o) (A.2.1 10 (6 * s + o) ++ A.2.1 0 0)) := CX_L hX hl (Or.inl rfl) (fun _ => ⟨g.1, by rw [List.length_append]; omega, g.2⟩) (fun e => by omega)
          refine rK hS hl (q := cK s o + 2) rfl (gB (isB_o hS hl) g.1 (pw_ret ⟨?_, hJ⟩))
          rw [List.length_append]
    · rw [if_neg e1]
      exact fin (-3) A (pw_ns (gK hS hl hX (f := 20) rfl (pw_f e1 (pw_ret ⟨rfl, hX⟩))))
theorem p_M_give_63 (hS : Shp S) {l : Nat} (hl : l < 36) (t : List Int32) (hc : (A.2.1 10 l).length + t.length ≤ 200) (ht260 : t.length ≤ 260) (Ib : mIm) (hX : RX I0 Ib A) (hT : fL Ib 1283 0 t) : ∀ (k n i : Nat) (I : mIm), i + k = t.length → k < n → fL I 1330 (200 * l) (A.2.1 10 l ++ t.take i) → (∀ j, (j < 200 * l ∨ 200 * l + 200 ≤ j) → I 1330 j = Ib 1330 j) → (∀ r, r ≠ 1330 → I r = Ib r) → pw S (q_M_give_63 n (some 1282) (nI t.length) (nI l) (nI i) (I, S)) (RV I0 (nI ((A.2.1 10 l).length + t.length), aL A 10 l (A.2.1 10 l ++ t)))
  | k, 0, i, I, _, h, _, _, _ => by omega
  | k, n + 1, i, I, hk, hn, j1, j2, j3 => by
    have hm := M_k hS
    have ho := aK_in hS (r := 1330) (t := 0) (n := 7200) rfl
    have hz := aK_in hS (r := 1331) (t := 0) (n := 36) rfl
    have hp := aK_in hS (r := 1283) (t := 0) (n := 260) rfl
    obtain ⟨a1, a2, a3⟩ := (hX.1.2.2.2.2 l hl).1
    show pw S (q_M_give_63_b _ _ _ _ _ _) _
    unfold q_M_give_63_b
    by_cases hi : i < t.length
    · refine pw_t (nI_lt hi (by omega)) (rM hS (r := 1330) rfl (rM hS (r := 1331) rfl (pw_aI l hz.1 rfl (by omega) (by omega) (rM hS (r := 1283) rfl (pw_aI i hp.1 rfl (by omega) (by omega) ?_)))))
      rw [j3 1331 (by decide), a1, j3 1283 (by decide)]
      have hx : Ib 1283 i = t[i] := by
        have := hT i t[i] (List.getElem?_eq_getElem hi)
        rw [Nat.zero_add] at this
        exact this
      rw [hx]
      refine pw_wI (200 * l + ((A.2.1 10 l).length + i)) ho.1 (by rw [show (200 : Int32) * nI l + nI (A.2.1 10 l).length = nI (200 * l + (A.2.1 10 l).length) from n_lin 200 l _, nI_add, Nat.add_assoc]) (by omega) (by omega) ?_
      rw [show nI i + 1 = nI (i + 1) from nI_1 i]
      refine p_M_give_63 hS hl t hc ht260 Ib hX hT (k - 1) n (i + 1) _ (by omega) (by omega) ?_ (fun j hj => ?_) (fun r hr => ?_)
      · rw [List.take_succ, List.getElem?_eq_getElem hi, ← List.append_assoc]
        have := fL_push (v := t[i]) j1
        rw [List.length_append, List.length_take, Nat.min_eq_left (by omega)] at this
        exact this
      · rw [iput_j _ _ _ (by omega)]; exact j2 j hj
      · rw [iput_n _ _ _ hr]; exact j3 r hr
    · have : i = t.length := by omega
      subst this
      rw [List.take_length] at j1
      refine pw_f (nI_nlt (by omega) (by omega)) (rM hS (r := 1331) rfl (pw_aI l hz.1 rfl (by omega) (by omega) (pw_wI l hz.1 rfl (by omega) (by omega) (rM hS (r := 1331) rfl (pw_aI l hz.1 rfl (by omega) (by omega) (pw_ret ⟨?_, ?_⟩))))))
      · rw [iput_s, j3 1331 (by decide), a1, nI_add]
      · refine RX_10 hX hl (fun r a b => ?_) (fun k hk => ?_) (fun j hj => ?_) ?_ ?_ ?_
        · rw [iput_n _ _ _ b, j3 r a]
        · rw [iput_j _ _ _ hk, j3 1331 (by decide)]
        · rw [iput_n _ _ _ (by decide)]; exact j2 j hj
        · rw [iput_s, j3 1331 (by decide), a1, nI_add, List.length_append]
        · rw [List.length_append]; exact hc
        · unfold fL at j1 ⊢
          rw [iput_n _ _ _ (by decide)]
          exact j1
theorem p_M_give (hS : Shp S) (hR : RInv I A) (i j : Int32) : pw S (q_M_give (some 1282) i j (I, S)) (RP I (aGiv A i j)) := by
  refine RV_RP ?_
  have hX := RX_0 hR
  have hm := M_k hS
  obtain ⟨t1, t2, t3⟩ := hR.1.2.1
  unfold q_M_give aGiv
  refine pw_gI hm (pw_pI hm ?_)
  rw [t1]
  have hX1 := RX_tape0 hX
  refine pw_cl (p_M_isLink i j) (fun a I2 h => ?_)
  obtain ⟨rfl, rfl⟩ := h
  cases h : lnk i j with
  | none => exact pw_t (by simp) (pw_ret ⟨rfl, hX1⟩)
  | some q =>
    obtain ⟨s, o⟩ := q
    obtain ⟨h1, h2, h3, rfl, rfl⟩ := lnk_s h
    refine pw_f (by simp) (pw_lt ?_)
    rw [show (6 : Int32) * nI s + nI o = nI (6 * s + o) from n_lin 6 s o]
    have hl : 6 * s + o < 36 := by omega
    have hc := (hX.1.2.2.2.2 _ hl).1.2.1
    refine rM hS (r := 1316) rfl (gA hS hX1 (6 * s + o) rfl rfl (by omega) ?_)
    dsimp only
    rw [aL_1]
    refine pw_if (fun e1 => ?_) (fun e1 => ?_)
    · rw [if_pos e1]
      refine rM hS (r := 1331) rfl (g10 hS hX1 hl ?_)
      rw [aL_f _ _ _ _ (by decide), nI_add]
      by_cases e2 : 200 < (A.2.1 10 (6 * s + o)).length + (A.2.1 0 0).length
      · rw [if_pos e2]
        exact pw_t (nI_lt (a := 200) e2 (by omega)) (pw_ret ⟨rfl, hX1⟩)
      · rw [if_neg e2]
        refine pw_f (nI_nlt (a := 200) (by omega) (by decide)) ?_
        have hX10 := (hX1.1.2.2.2.2 _ hl).1.2.2
        have e10 : (aL A 0 0 []).2.1 10 (6 * s + o) = A.2.1 10 (6 * s + o) := aL_f _ _ _ _ (by decide)
        rw [e10] at hX10
        have := p_M_give_63 (A := aL A 0 0 []) hS hl (A.2.1 0 0) (by rw [e10]; omega) t3 (iput I 1282 1 0) hX1 (by
          unfold fL at t2 ⊢
          rw [iput_n _ _ _ (by decide)]
          exact t2) (A.2.1 0 0).length mFU 0 _ (by omega) (by unfold mFU; omega) (by rw [List.take_zero, List.append_nil, e10]; exact hX10) (fun _ _ => rfl) (fun _ _ => rfl)
        rw [e10] at this
        have e11 : aL (aL A 0 0 []) 10 (6 * s + o) (A.2.1 10 (6 * s + o) ++ A.2.1 0 0) = aL (aL A 10 (6 * s + o) (A.2.1 10 (6 * s + o) ++ A.2.1 0 0)) 0 0 [] := by
          unfold aL
          refine Prod.ext rfl (Prod.ext ?_ rfl)
          dsimp only
          rw [mrow_n _ _ (by decide), mrow_n _ _ (by decide)]
          exact mrow_c _ _ _ (by decide)
        rw [e11] at this
        exact this
    · rw [if_neg e1]
      exact pw_ret ⟨rfl, hX1⟩
end HE
