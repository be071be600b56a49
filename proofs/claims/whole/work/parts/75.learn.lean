/-! BEACONS: the reference; beacon; what is learned -/
def aBea (A : aT) (i : Int32) : Int32 × aT := match sta i with
  | none => (-1, A)
  | some s => aTel A s
def put2 (A : aT) (s d n : Nat) (v : Int32) : aT := aI (aI A 40 (36 * s + (6 * d + n)) v) 41 (36 * s + (6 * d + n)) 5
def lr1 (A : aT) (s n : Nat) (path d b q : Int32) : aT := if d = nI s then A else match sta d with
  | some d' => put2 A s d' n (if b = nI s then 0 else (q * path + 128) / 256)
  | none => A
def lrn (s n : Nat) (path : Int32) : List Int32 → aT → aT
  | d :: b :: q :: t, A => lrn s n path t (lr1 A s n path d b q)
  | _, A => A
def aLrn (A : aT) (s n : Nat) (l : List Int32) (x : Nat) : aT := lrn s n (A.1 1 (9 * s + 5)) (l.drop x) (put2 A s n n (A.1 1 (9 * s + 5)))
def rAt (I : mIm) (l : List Int32) : Prop := I 1282 37 = nI l.length ∧ fL I 1313 0 l ∧ l.length ≤ 90
section RT
variable {S : mS} {I I0 : mIm} {A : aT} {s : Nat} {l : List Int32}
theorem p_C_beacon (hS : Shp S) (hC : CInv I A) (hQ : aQl A) (hE : aSe A) (i : Int32) : pw S (q_C_beacon (some 16) i (I, S)) (CP I (aBea A i)) := by
  refine CV_CP ?_
  have hX := CX_0 hC
  unfold q_C_beacon aBea
  refine pw_cv hS.1.1 (p_C_stationAt hS i) (fun a I h => ?_)
  obtain ⟨rfl, rfl⟩ := h
  cases h : sta i with
  | none => exact pw_nn (pw_ret ⟨rfl, hX⟩)
  | some s =>
    obtain ⟨hs, rfl⟩ := sta_s h
    exact pw_ns (pw_cl (c_tellRoutes hS hs hX hQ hE) (fun v J g => pw_ret g))
theorem r_beginN (hS : Shp S) (hs : s < 6) (hX : RX I0 I A) : pw S (q_M_begin (some 1282) 6 (nI s) (-1) (-1) 1 (I, S)) (fun _ J => RX I0 J A ∧ rFr J (nmN ++ [224] ++ (nmS ++ [(96 + 2 * nI s) + 1]))) := by
  have hm := M_k hS
  unfold q_M_begin q_M_begin_19 q_M_begin_36 q_M_begin_46 q_M_begin_71
  refine pw_pI hm ?_
  have hX2 : RX I0 (iput I 1282 34 0) A := RX_fr hX (fun r a _ => iput_n _ _ _ a) (fun j hj => iput_j _ _ _ hj)
  have hf2 : rFr (iput I 1282 34 0) [] := ⟨by rw [iput_s]; rfl, fun j x hj => by simp at hj⟩
  refine pw_f (by decide) (pw_cv hm (p_M_addressN hS hX2 hf2 (by decide) 128) (fun _ J g => pw_f (by decide) (pw_t rfl (pw_cv hm (p_M_address hS g.1 g.2 (by simp [nmN]) (nI s) _ (nI_ne6 hs)) (fun _ J2 g2 => pw_t rfl (pw_t rfl (pw_ret ⟨g2.1, ?_⟩)))))))
  exact g2.2
theorem r_tells_93 (hS : Shp S) (hs : s < 6) (hE : aSe A) : ∀ (k n i : Nat) (I : mIm) (l : List Int32) (c : Int32), i + k = 6 → k < n → l.length + 3 * k ≤ 90 → RX I0 I A → rFr I l → pw S (q_M_tells_93 n (some 1282) (nI s) c (nI i) (I, S)) (RV I0 (cbs A s k i c, aEnq A s (l ++ tel A s k i)))
  | k, 0, i, I, l, c, _, h, _, _, _ => by omega
  | 0, n + 1, i, I, l, c, hk, hn, hl, hX, hf => by
    show pw S (q_M_tells_93_b _ _ _ _ _ _) _
    unfold q_M_tells_93_b
    refine pw_f (nI_nlt (b := 6) (by omega) (by omega)) (pw_cv (M_k hS) (p_M_enqueue hS hX hf hs (by omega)) (fun _ J g => pw_ret ⟨rfl, ?_⟩))
    show RX I0 J (aEnq A s (l ++ []))
    rw [List.append_nil]
    exact g
  | k + 1, n + 1, i, I, l, c, hk, hn, hl, hX, hf => by
    show pw S (q_M_tells_93_b _ _ _ _ _ _) (RV I0 (cbs A s k (i + 1) (if bst A s i = -1 then c else c + 1), aEnq A s (l ++ ((if bst A s i = -1 then [] else [nI i, bst A s i, A.1 40 (36 * s + (6 * i + (bst A s i).toNatClampNeg))]) ++ tel A s k (i + 1)))))
    have hm := M_k hS
    have hi : i < 6 := by omega
    unfold q_M_tells_93_b q_M_tells_151
    rw [show nI i + 1 = nI (i + 1) from nI_1 i]
    refine pw_t (nI_lt (b := 6) hi (by decide)) (pw_cv hm (p_M_bestTo hS hX.1 hs hi) (fun v J h => ?_))
    obtain ⟨rfl, rfl⟩ := h
    by_cases e : bst A s i = -1
    · rw [if_pos e, if_pos e, if_pos e, List.nil_append]
      exact r_tells_93 hS hs hE k n (i + 1) _ l c (by omega) (by omega) (by omega) hX hf
    · rw [if_neg e, if_neg e, if_neg e]
      obtain ⟨m, hm6, hms, em⟩ := (bst_in hE hs hi).resolve_left e
      rw [em, nI_clamp (by omega)]
      refine pw_cv hm (p_M_put hS hX hf (by omega) _) (fun _ J1 g1 => pw_cv hm (p_M_put hS g1.1 g1.2 (by simp; omega) _) (fun _ J2 g2 => rM hS (r := 1341) rfl (gA hS g2.1 (36 * s + (6 * i + m)) rfl ?_ (by omega) ?_)))
      · rw [show (6 : Int32) * nI i = nI (6 * i) from pk_mul 6 i, show (36 : Int32) * nI s + nI (6 * i) = nI (36 * s + 6 * i) from n_lin 36 s _, nI_add, Nat.add_assoc]
      · refine pw_cv hm (p_M_put hS g2.1 g2.2 (by simp; omega) _) (fun _ J3 g3 => ?_)
        have e9 : l ++ [nI i] ++ [nI m] ++ [A.1 40 (36 * s + (6 * i + m))] = l ++ [nI i, nI m, A.1 40 (36 * s + (6 * i + m))] := by simp
        rw [e9] at g3
        rw [← List.append_assoc]
        exact r_tells_93 hS hs hE k n (i + 1) _ _ (c + 1) (by omega) (by omega) (by simp; omega) g3.1 g3.2
theorem r_tells_5 (hS : Shp S) (hs : s < 6) : ∀ (k n i : Nat) (I : mIm) (A : aT), i + k = 36 → k < n → RX I0 I A → aSe A → pw S (q_M_tells_5 n (some 1282) (nI s) (nI (36 * s + i)) (I, S)) (RV I0 (cbs (oldN k (36 * s + i) A) s 6 0 0, aEnq (oldN k (36 * s + i) A) s (hdN s ++ tel (oldN k (36 * s + i) A) s 6 0)))
  | k, 0, i, I, A, _, h, _, _ => by omega
  | 0, n + 1, i, I, A, hk, hn, hX, hE => by
    have hm := M_k hS
    show pw S (q_M_tells_5_b _ _ _ _ _) (RV I0 (cbs A s 6 0 0, aEnq A s (hdN s ++ tel A s 6 0)))
    unfold q_M_tells_5_b
    rw [show (36 : Int32) * nI s + 36 = nI (36 * s + 36) from n_lin 36 s 36]
    refine pw_f (nI_nlt (by omega) (by omega)) (pw_cv hm (r_beginN hS hs hX) (fun _ J g => ?_))
    refine pw_cv hm (p_M_put hS g.1 g.2 (by simp [nmN, nmS]) _) (fun _ J1 g1 => pw_cv hm (p_M_put hS g1.1 g1.2 (by simp [nmN, nmS]) _) (fun _ J2 g2 => pw_cv hm (p_M_put hS g2.1 g2.2 (by simp [nmN, nmS]) _) (fun _ J3 g3 => ?_)))
    have e7 : nmN ++ [224] ++ (nmS ++ [(96 + 2 * nI s) + 1]) ++ [3] ++ [207] ++ [255] = hdN s := by
      unfold hdN
      simp
    rw [e7] at g3
    exact r_tells_93 hS hs hE 6 mFU 0 J3 (hdN s) 0 (by omega) (by unfold mFU; omega) (by show 17 + 18 ≤ 90; omega) g3.1 g3.2
  | k + 1, n + 1, i, I, A, hk, hn, hX, hE => by
    have hm := M_k hS
    show pw S (q_M_tells_5_b _ _ _ _ _) (RV I0 (cbs (oldN k (36 * s + i + 1) (old1 A (36 * s + i))) s 6 0 0, aEnq (oldN k (36 * s + i + 1) (old1 A (36 * s + i))) s (hdN s ++ tel (oldN k (36 * s + i + 1) (old1 A (36 * s + i))) s 6 0)))
    unfold q_M_tells_5_b q_M_tells_54
    rw [show (36 : Int32) * nI s + 36 = nI (36 * s + 36) from n_lin 36 s 36, show nI (36 * s + i) + 1 = nI (36 * s + (i + 1)) from nI_1 _]
    refine pw_t (nI_lt (by omega) (by omega)) (rM hS (r := 1341) rfl (gA hS hX (36 * s + i) rfl rfl (by omega) ?_))
    have go : ∀ (J : mIm) (B : aT), B = old1 A (36 * s + i) → RX I0 J B → pw S (q_M_tells_5 n (some 1282) (nI s) (nI (36 * s + (i + 1))) (J, S)) (RV I0 (cbs (oldN k (36 * s + i + 1) (old1 A (36 * s + i))) s 6 0 0, aEnq (oldN k (36 * s + i + 1) (old1 A (36 * s + i))) s (hdN s ++ tel (oldN k (36 * s + i + 1) (old1 A (36 * s + i))) s 6 0))) := fun J B hB hJ => by
      subst hB
      exact r_tells_5 hS hs k n (i + 1) J _ (by omega) (by omega) hJ (aSe_old1 hE _)
    by_cases e0 : A.1 40 (36 * s + i) = 0
    · rw [if_pos e0]
      exact go I A (by unfold old1; rw [if_pos e0]) hX
    · rw [if_neg e0]
      refine rM hS (r := 1342) rfl (gA hS hX (36 * s + i) rfl rfl (by omega) (sA hS hX (36 * s + i) rfl (by decide) rfl (by omega) (fun J1 g1 => rM hS (r := 1342) rfl (gA hS g1 (36 * s + i) rfl rfl (by omega) ?_))))
      rw [aI_s]
      refine pw_if (fun e1 => ?_) (fun e1 => ?_)
      · refine rM hS (r := 1341) rfl (sA hS g1 (36 * s + i) rfl (by decide) rfl (by omega) (fun J2 g2 => ?_))
        exact go _ _ (by unfold old1; rw [if_neg e0, if_pos e1]) g2
      · exact go _ _ (by unfold old1; rw [if_neg e0, if_neg e1]) g1
theorem r_tells (hS : Shp S) (hs : s < 6) (hX : RX I0 I A) (hE : aSe A) : pw S (q_M_tells (some 1282) (nI s) (I, S)) (RV I0 (aTel A s)) := by
  unfold q_M_tells
  refine pw_lt ?_
  rw [show (36 : Int32) * nI s = nI (36 * s + 0) from pk_mul 36 s]
  exact r_tells_5 hS hs 36 mFU 0 I A (by omega) (by unfold mFU; omega) hX hE
theorem p_M_beacon (hS : Shp S) (hR : RInv I A) (hE : aSe A) (i : Int32) : pw S (q_M_beacon (some 1282) i (I, S)) (RP I (aBea A i)) := by
  refine RV_RP ?_
  have hX := RX_0 hR
  unfold q_M_beacon aBea
  refine pw_cl (p_M_isStation i) (fun a I h => ?_)
  obtain ⟨rfl, rfl⟩ := h
  cases h : sta i with
  | none => exact pw_t (by simp) (pw_ret ⟨rfl, hX⟩)
  | some s =>
    obtain ⟨hs, rfl⟩ := sta_s h
    exact pw_f (by simp) (pw_cv (M_k hS) (r_tells hS hs hX hE) (fun v J g => pw_ret g))
/-! learn -/
theorem lrn_short {n : Nat} {path : Int32} {t : List Int32} (h : t.length < 3) : lrn s n path t A = A := by
  match t, h with
  | [], _ => rfl
  | [_], _ => rfl
  | [_, _], _ => rfl
  | _ :: _ :: _ :: _, h => simp at h; omega
theorem drop3 {i : Nat} (h : i + 2 < l.length) : l.drop i = pA l i :: pA l (i + 1) :: pA l (i + 2) :: l.drop (i + 3) := by
  have e : ∀ j, j < l.length → l.drop j = pA l j :: l.drop (j + 1) := fun j hj => by
    rw [List.drop_eq_getElem_cons hj]
    unfold pA
    rw [List.getElem?_eq_getElem hj]
    rfl
  rw [e i (by omega), e (i + 1) (by omega), e (i + 2) (by omega)]
theorem c_put (hS : Shp S) (hs : s < 6) (hX : CX I0 I A) {d n : Nat} (hd : d < 6) (hn : n < 6) (v : Int32) : pw S (q_T_put (some (cN s + 55)) (nI d) (nI n) v (I, S)) (CU I0 (put2 A s d n v)) := by
  obtain ⟨t1, t2, t3, t4, t5⟩ := cT_k hS hs
  unfold q_T_put put2
  refine pw_cl (p_C_isStation _) (fun x I2 h => ?_)
  obtain ⟨rfl, rfl⟩ := h
  rw [sta_nI hd]
  refine pw_f (by simp) (pw_cl (p_C_isStation _) (fun x I2 h => ?_))
  obtain ⟨rfl, rfl⟩ := h
  rw [sta_nI hn]
  refine pw_f (by simp) (pw_gR t1 t2 (pw_wI (6 * d + n) t4.1 (n_lin 6 d n) (by rw [t4.2]; omega) (by rw [t4.2]; decide) (pw_gR t1 t3 (pw_wI (6 * d + n) t5.1 (n_lin 6 d n) (by rw [t5.2]; omega) (by rw [t5.2]; decide) (pw_ret ?_)))))
  exact CX_setT (CX_setT hX hs (Or.inl ⟨rfl, rfl⟩) (by omega)) hs (Or.inr ⟨rfl, rfl⟩) (by omega)
theorem c_put_n (i2 v : Int32) {d : Int32} (hd : sta d = none) : pw S (q_T_put (some (cN s + 55)) d i2 v (I, S)) (fun _ J => J = I) := by
  unfold q_T_put
  refine pw_cl (p_C_isStation _) (fun x I2 h => ?_)
  obtain ⟨rfl, rfl⟩ := h
  rw [hd]
  exact pw_t (by simp) (pw_ret rfl)
theorem isB_f (hS : Shp S) (hs : s < 6) : isB S (cN s + 8) 90 := (hS.2.1 s hs).2.2.2.2.2.2.2.2.2.2.2.2.1.2.2.2.2
theorem lr1_3 {n : Nat} {path d b q : Int32} : (lr1 A s n path d b q).2.1 = A.2.1 := by
  unfold lr1
  split
  · rfl
  · split <;> rfl
theorem c_learn_11 (hS : Shp S) (hs : s < 6) {n0 : Nat} (hn0 : n0 < 6) (path : Int32) : ∀ (k n i : Nat) (I : mIm) (A : aT), A.2.1 3 s = l → l.length ≤ i + 3 * k → k < n → i ≤ 1000 → CX I0 I A → pw S (q_T_learn_11 n (some (cN s + 55)) (nI n0) path (some (cN s + 8)) (nI i) (I, S)) (CU I0 (lrn s n0 path (l.drop i) A))
  | k, 0, i, I, A, _, _, h, _, _ => by omega
  | k, n + 1, i, I, A, h3, hk, hn, hi, hX => by
    have hB := isB_f hS hs
    have ht := cT_k hS hs
    obtain ⟨-, -, -, hL, hLc, -⟩ := (hX.1.2.1 s hs).2.2.2.2.1
    have hL2 : isL I (cN s + 8) l := by rw [← h3]; exact hL
    rw [h3] at hLc
    have hN : I (cN s + 55) 0 = nI s := (hX.1.2.1 s hs).2.2.1.1
    show pw S (q_T_learn_11_b _ _ _ _ _ _ _) _
    unfold q_T_learn_11_b
    refine gB hB hL2 ?_
    rw [show nI i + 2 = nI (i + 2) from nI_add i 2]
    by_cases h : i + 2 < l.length
    · refine pw_t (nI_lt h (by omega)) ?_
      rw [drop3 h]
      show pw S _ (CU I0 (lrn s n0 path (l.drop (i + 3)) (lr1 A s n0 path (pA l i) (pA l (i + 1)) (pA l (i + 2)))))
      refine pw_cv hB.1 (p_B_at hB hL2 hLc _) (fun v I2 h => ?_)
      obtain ⟨rfl, rfl⟩ := h
      refine pw_cv hB.1 (p_B_at hB hL2 hLc _) (fun v I2 h => ?_)
      obtain ⟨rfl, rfl⟩ := h
      rw [lAt_nI (by omega), lAt_nI (by omega)]
      refine pw_gI ht.1 ?_
      rw [hN]
      have go : ∀ (J : mIm), CX I0 J (lr1 A s n0 path (pA l i) (pA l (i + 1)) (pA l (i + 2))) → pw S (q_T_learn_87 (q_T_learn_11 n) (some (cN s + 55)) (nI n0) path (some (cN s + 8)) (nI i) (J, S)) (CU I0 (lrn s n0 path (l.drop (i + 3)) (lr1 A s n0 path (pA l i) (pA l (i + 1)) (pA l (i + 2))))) := fun J hJ => by
        unfold q_T_learn_87
        rw [show nI i + 3 = nI (i + 3) from nI_add i 3]
        exact c_learn_11 hS hs hn0 path (k - 1) n (i + 3) J _ (by rw [lr1_3]; exact h3) (by omega) (by omega) (by omega) hJ
      have e0 : ∀ x : Int32, (pA l i = x) → ((l[i]?).getD (-1) = x) := fun x hx => hx
      refine pw_if (fun e1 => ?_) (fun e1 => ?_)
      · refine go _ ?_
        have e1' : pA l i = nI s := e1
        unfold lr1
        rw [if_pos e1']
        exact hX
      · have e1' : ¬ pA l i = nI s := e1
        rw [show nI i + 1 = nI (i + 1) from nI_1 i]
        refine pw_cv hB.1 (p_B_at hB hL2 hLc _) (fun v I2 h => pw_gI ht.1 ?_)
        obtain ⟨rfl, rfl⟩ := h
        rw [hN, lAt_nI (by omega)]
        have fin : ∀ (v : Int32), v = (if pA l (i + 1) = nI s then 0 else (pA l (i + 2) * path + 128) / 256) → pw S (q_T_learn_84 (q_T_learn_11 n) (some (cN s + 55)) (nI n0) path (some (cN s + 8)) (nI i) v (nI n0) (pA l i) (some (cN s + 55)) (I2, S)) (CU I0 (lrn s n0 path (l.drop (i + 3)) (lr1 A s n0 path (pA l i) (pA l (i + 1)) (pA l (i + 2))))) := by
          intro v hv
          subst hv
          unfold q_T_learn_84
          cases hd : sta (pA l i) with
          | none =>
            refine pw_cv ht.1 (c_put_n _ _ hd) (fun _ J h => ?_)
            subst h
            refine go _ ?_
            unfold lr1
            rw [if_neg e1', hd]
            exact hX
          | some d' =>
            obtain ⟨hd6, ed⟩ := sta_s hd
            rw [ed]
            refine pw_cv ht.1 (c_put hS hs hX hd6 hn0 _) (fun _ J h => ?_)
            rw [← ed]
            refine go _ ?_
            unfold lr1
            rw [if_neg e1', hd]
            exact h
        refine pw_if (fun e2 => ?_) (fun e2 => ?_)
        · exact fin 0 (by rw [if_pos (show pA l (i + 1) = nI s from e2)])
        · have e2' : ¬ pA l (i + 1) = nI s := e2
          unfold x_dv
          rw [if_neg (by decide)]
          exact fin _ (by rw [if_neg e2']; rfl)
    · refine pw_f (nI_nlt (by omega) (by omega)) (pw_ret ?_)
      rw [lrn_short (by rw [List.length_drop]; omega)]
      exact hX
theorem c_learn (hS : Shp S) (hs : s < 6) {n0 x : Nat} (hn0 : n0 < 6) (hX : CX I0 I A) (hx : x ≤ 100) : pw S (q_T_learn (some (cN s + 55)) (nI n0) (A.1 1 (9 * s + 5)) (some (cN s + 8)) (nI x) (I, S)) (CU I0 (aLrn A s n0 (A.2.1 3 s) x)) := by
  unfold q_T_learn aLrn
  obtain ⟨-, -, -, hL, hLc, -⟩ := (hX.1.2.1 s hs).2.2.2.2.1
  refine pw_cv (cT_k hS hs).1 (c_put hS hs hX hn0 hn0 _) (fun _ J g => ?_)
  exact c_learn_11 hS hs hn0 _ 100 mFU x J _ rfl (by omega) (by unfold mFU; omega) (by omega) g
theorem r_learn (hS : Shp S) (hs : s < 6) (hX : RX I0 I A) {d n : Nat} (hd : d < 6) (hn : n < 6) (v : Int32) : pw S (q_M_learn (some 1282) (nI s) (nI d) (nI n) v (I, S)) (RU I0 (put2 A s d n v)) := by
  have e : (36 : Int32) * nI s + 6 * nI d + nI n = nI (36 * s + (6 * d + n)) := by
    rw [show (6 : Int32) * nI d = nI (6 * d) from pk_mul 6 d, show (36 : Int32) * nI s + nI (6 * d) = nI (36 * s + 6 * d) from n_lin 36 s _, nI_add, Nat.add_assoc]
  unfold q_M_learn put2
  exact rM hS (r := 1341) rfl (sA hS hX (36 * s + (6 * d + n)) rfl (by decide) e (by omega) (fun J1 g1 => rM hS (r := 1342) rfl (sA hS g1 (36 * s + (6 * d + n)) rfl (by decide) e (by omega) (fun J2 g2 => pw_ret g2))))
theorem rAt_x {J : mIm} {B : aT} (h : rAt I0 l) (hX : RX I0 J B) : J 1282 37 = nI l.length ∧ fL J 1313 0 l := by
  refine ⟨by rw [hX.2.2 37 (by decide)]; exact h.1, ?_⟩
  have := h.2.1
  unfold fL at this ⊢
  rw [hX.2.1 1313 (by unfold kp; omega)]
  exact this
theorem rAt_g (hS : Shp S) (h : rAt I0 l) (hX : RX I0 I A) {β : Type} {Q : β → mIm → Prop} {k : Int32 → Option (β × mM)} (m : Nat) {i : Int32} (hi : i = nI m) (hm : m < l.length) (hk : pw S (k (pA l m)) Q) : pw S (x_aI (I, S) 0 (some 1313) i k) Q := by
  have ha := aK_in hS (r := 1313) (t := 0) (n := 90) rfl
  have h9 := h.2.2
  refine pw_aI m ha.1 hi (by omega) (by omega) ?_
  have := (rAt_x h hX).2 m l[m] (List.getElem?_eq_getElem hm)
  rw [Nat.zero_add] at this
  rw [this]
  unfold pA at hk
  rw [List.getElem?_eq_getElem hm] at hk
  exact hk
theorem r_learns_33 (hS : Shp S) (hs : s < 6) {n0 : Nat} (hn0 : n0 < 6) (path : Int32) (hA : rAt I0 l) (h39 : I0 1282 39 = nI n0) : ∀ (k n i : Nat) (I : mIm) (A : aT), l.length = i + 3 * k → k < n → (∀ m, m < k → (sta (pA l (i + 3 * m))).isSome = true) → RX I0 I A → pw S (q_M_learns_33 n (some 1282) (nI s) path (nI i) (I, S)) (RU I0 (lrn s n0 path (l.drop i) A))
  | k, 0, i, I, A, _, h, _, _ => by omega
  | k, n + 1, i, I, A, hk, hn, hv, hX => by
    have hm := M_k hS
    have h9 := hA.2.2
    obtain ⟨a1, a2⟩ := rAt_x hA hX
    show pw S (q_M_learns_33_b _ _ _ _ _ _) _
    unfold q_M_learns_33_b
    refine pw_gI hm ?_
    rw [a1]
    by_cases h : i < l.length
    · have h2 : i + 2 < l.length := by omega
      have hsta := hv 0 (by omega)
      rw [Nat.mul_zero, Nat.add_zero] at hsta
      obtain ⟨d', hd⟩ := Option.isSome_iff_exists.mp hsta
      obtain ⟨hd6, ed⟩ := sta_s hd
      refine pw_t (nI_lt h (by omega)) ?_
      rw [drop3 h2]
      show pw S _ (RU I0 (lrn s n0 path (l.drop (i + 3)) (lr1 A s n0 path (pA l i) (pA l (i + 1)) (pA l (i + 2)))))
      have go : ∀ (J : mIm), RX I0 J (lr1 A s n0 path (pA l i) (pA l (i + 1)) (pA l (i + 2))) → pw S (q_M_learns_100 (q_M_learns_33 n) (some 1282) (nI s) path (nI i) (J, S)) (RU I0 (lrn s n0 path (l.drop (i + 3)) (lr1 A s n0 path (pA l i) (pA l (i + 1)) (pA l (i + 2))))) := fun J hJ => by
        unfold q_M_learns_100
        rw [show nI i + 3 = nI (i + 3) from nI_add i 3]
        refine r_learns_33 hS hs hn0 path hA h39 (k - 1) n (i + 3) J _ (by omega) (by omega) (fun m hm => ?_) hJ
        have := hv (m + 1) (by omega)
        rw [show i + 3 * (m + 1) = i + 3 + 3 * m by omega] at this
        exact this
      refine rM hS (r := 1313) rfl (rAt_g hS hA hX i rfl h ?_)
      refine pw_if (fun e1 => ?_) (fun e1 => ?_)
      · refine go _ ?_
        unfold lr1
        rw [if_pos e1]
        exact hX
      · refine rM hS (r := 1313) rfl (rAt_g hS hA hX i rfl h (pw_gI hm (rM hS (r := 1313) rfl (rAt_g hS hA hX (i + 1) (nI_1 i) (by omega) ?_))))
        rw [hX.2.2 39 (by decide), h39]
        have fin : ∀ (v : Int32), v = (if pA l (i + 1) = nI s then 0 else (pA l (i + 2) * path + 128) / 256) → pw S (q_M_learns_97 (q_M_learns_33 n) (some 1282) (nI s) path (nI i) v (nI n0) (pA l i) (nI s) (some 1282) (I, S)) (RU I0 (lrn s n0 path (l.drop (i + 3)) (lr1 A s n0 path (pA l i) (pA l (i + 1)) (pA l (i + 2))))) := by
          intro v hv
          subst hv
          unfold q_M_learns_97
          rw [ed]
          refine pw_cv hm (r_learn hS hs hX hd6 hn0 _) (fun _ J h => ?_)
          rw [← ed]
          refine go _ ?_
          unfold lr1
          rw [if_neg e1, hd]
          exact h
        refine pw_if (fun e2 => ?_) (fun e2 => ?_)
        · exact fin 0 (by rw [if_pos e2])
        · refine rM hS (r := 1313) rfl (rAt_g hS hA hX (i + 2) (nI_add i 2) (by omega) ?_)
          unfold x_dv
          rw [if_neg (by decide)]
          exact fin _ (by rw [if_neg e2])
    · refine pw_f (nI_nlt (by omega) (by omega)) (pw_ret ?_)
      rw [lrn_short (by rw [List.length_drop]; omega)]
      exact hX
theorem r_learns (hS : Shp S) (hs : s < 6) {n0 x : Nat} (hn0 : n0 < 6) (hA : rAt I0 l) (h39 : I0 1282 39 = nI n0) (h43 : I0 1282 43 = nI x) (hX : RX I0 I A) (hx : x + 3 ≤ l.length) (h3 : (l.length - (x + 3)) % 3 = 0) (hv : ∀ m, x + 3 + 3 * m < l.length → (sta (pA l (x + 3 + 3 * m))).isSome = true) : pw S (q_M_learns (some 1282) (nI s) (I, S)) (RU I0 (aLrn A s n0 l (x + 3))) := by
  have hm := M_k hS
  have h9 := hA.2.2
  unfold q_M_learns aLrn
  refine rM hS (r := 1294) rfl (gA hS hX (9 * s + 5) rfl (n_lin 9 s 5) (by omega) (pw_gI hm (pw_gI hm ?_)))
  rw [hX.2.2 39 (by decide), h39]
  refine pw_cv hm (r_learn hS hs hX hn0 hn0 _) (fun _ J g => pw_gI hm (pw_lt ?_))
  rw [g.2.2 43 (by decide), h43, show nI x + 3 = nI (x + 3) from nI_add x 3]
  exact r_learns_33 hS hs hn0 _ hA h39 ((l.length - (x + 3)) / 3) mFU (x + 3) J _ (by omega) (by unfold mFU; omega) (fun m hm => hv m (by omega)) g
end RT
