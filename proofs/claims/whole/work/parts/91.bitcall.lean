/-! bits -/
def lvs (v : Int32) : List Int32 → List Int32
  | [] => []
  | b :: l => lvl v b :: lvs (lvl v b) l
def lve (v : Int32) : List Int32 → Int32
  | [] => v
  | b :: l => lve (lvl v b) l
theorem lvs_app : ∀ (a : List Int32) (v : Int32) (b : List Int32), lvs v (a ++ b) = lvs v a ++ lvs (lve v a) b
  | [], v, b => rfl
  | x :: a, v, b => by
    show lvl v x :: lvs (lvl v x) (a ++ b) = lvl v x :: (lvs (lvl v x) a ++ lvs (lve (lvl v x) a) b)
    rw [lvs_app a]
theorem lve_app : ∀ (a : List Int32) (v : Int32) (b : List Int32), lve v (a ++ b) = lve (lve v a) b
  | [], v, b => rfl
  | x :: a, v, b => lve_app a (lvl v x) b
theorem lvs_len : ∀ (a : List Int32) (v : Int32), (lvs v a).length = a.length
  | [], v => rfl
  | x :: a, v => by
    show (lvs (lvl v x) a).length + 1 = a.length + 1
    rw [lvs_len a]
theorem aL_tw (A : aT) (f k : Nat) (x y : List Int32) : aL (aL A f k x) f k y = aL A f k y := by
  unfold aL mrow
  simp
  funext a
  by_cases h : a = f
  · subst h
    simp
    funext b
    by_cases h2 : b = k
    · simp [h2]
    · simp [h2]
  · simp [h]
def bLn (l : List Int32) : List Int32 := flg 16 ++ (stf (bitsFrom (frm l) 0) 0 ++ flg 8)
def aBit (A : aT) (v : Int32) : Int32 × aT := if (15 ≤ (A.2.1 0 0).length ∧ (A.2.1 0 0).length ≤ 90) ∧ (v = 0 ∨ v = 1) then (nI (bLn (A.2.1 0 0)).length, aL (aL A 1 0 (lvs v (bLn (A.2.1 0 0)))) 0 0 []) else (-1, aL A 0 0 [])
theorem flg_len : ∀ n, (flg n).length = n
  | 0 => rfl
  | n + 1 => by
    show (flg n).length + 1 = n + 1
    rw [flg_len n]
theorem ln_len {l : List Int32} (h : l.length ≤ 90) : (stf (bitsFrom (frm l) 0) 0).length ≤ 883 := by
  have h1 := stf_len (bitsFrom (frm l) 0)
  have h2 : (bitsFrom (frm l) 0).length = 8 * (l.length + 2) := by rw [bits_all, bmap_len, frm_len]
  omega
section BI
variable {S : mS} {I J I0 : mIm} {A : aT} {l : List Int32}
theorem CX_own (h : CX I0 I A) (e : ∀ r, r ≠ 1270 → r ≠ 1271 → r ≠ 1272 → J r = I r) : CX I0 J A := by
  obtain ⟨⟨⟨c1, ⟨c2, c3⟩, ⟨c4, c5⟩, c6⟩, h2, h3⟩, h4, h5⟩ := h
  refine ⟨⟨⟨?_, ⟨isL_same c2 (e _ (by decide) (by decide) (by decide)) (e _ (by decide) (by decide) (by decide)), c3⟩, ⟨isL_same c4 (e _ (by decide) (by decide) (by decide)) (e _ (by decide) (by decide) (by decide)), c5⟩, cRv_same c6 (fun r a b => e r (by omega) (by omega) (by omega))⟩, fun s hs => cSt_same (h2 s hs) (fun r a b => ?_), fun s hs o ho hne => cLk_same (h3 s hs o ho hne) (fun r a b => ?_)⟩, fun r hr => ?_, fun j hj => ?_⟩
  · rw [e 16 (by decide) (by decide) (by decide)]; exact c1
  · unfold cN at b; exact e r (by omega) (by omega) (by omega)
  · have := cK_lt hs ho hne; exact e r (by omega) (by omega) (by omega)
  · rw [e r (by omega) (by omega) (by omega)]; exact h4 r hr
  · rw [e 16 (by decide) (by decide) (by decide)]; exact h5 j hj
theorem pl2 (hS : Shp S) : ∀ (f m k : Nat) (J : mIm) (out : List Int32) (p o fb : Nat) (v : Int32), (lnL l p o fb).length = f → f < m → k + f ≤ 907 → out.length + f ≤ 907 → CX I0 J (aL A 1 0 out) → sndr J 1270 l p o fb → J 1270 4 = v → pw S (q_C_putLevels_2 m (some 16) (nI k) (J, S)) (fun _ K => CX I0 K (aL A 1 0 (out ++ lvs v (lnL l p o fb))) ∧ K 1270 4 = lve v (lnL l p o fb))
  | f, 0, k, J, out, p, o, fb, v, _, h, _, _, _, _, _ => by omega
  | f, m + 1, k, J, out, p, o, fb, v, hf, hm, hk, ho, hX, hs, hv => by
    obtain ⟨k1, k2, k3, k4, k5, k6, k7, k8, k9, k10, k11, k12, k13⟩ := hS.1
    show pw S (q_C_putLevels_2_b _ _ _ _) _
    unfold q_C_putLevels_2_b
    have hnil := ln_nil (l := l) (p := p) (o := o) (fb := fb) hs.2.2.2.2.2.2.2.2
    by_cases e : fb = 0
    · have hL := hnil.mpr e
      have fin : pw S (some ((), (J, S))) (fun _ K => CX I0 K (aL A 1 0 (out ++ lvs v (lnL l p o fb))) ∧ K 1270 4 = lve v (lnL l p o fb)) := by
        rw [hL]
        refine pw_ret ⟨?_, hv⟩
        show CX I0 J (aL A 1 0 (out ++ []))
        rw [List.append_nil]
        exact hX
      by_cases hk9 : k < 907
      · refine pw_t (nI_lt (b := 907) hk9 (by decide)) (pw_gR k1 k5 (pw_cv k12.1 (s_isThrough k12 hs) (fun x J2 g => ?_)))
        obtain ⟨hJ2, rfl⟩ := g
        rw [hJ2, if_pos e]
        exact pw_f (by decide) fin
      · exact pw_f (nI_nlt (b := 907) (by omega) (by omega)) fin
    · have hne : lnL l p o fb ≠ [] := fun q => e (hnil.mp q)
      obtain ⟨f, rfl⟩ : ∃ q, f = q + 1 := ⟨f - 1, by have := List.length_pos_iff.mpr hne; omega⟩
      refine pw_t (nI_lt (b := 907) (by omega) (by decide)) (pw_gR k1 k5 (pw_cv k12.1 (s_isThrough k12 hs) (fun x J2 g => ?_)))
      obtain ⟨hJ2, rfl⟩ := g
      rw [hJ2, if_neg e]
      refine pw_t rfl (pw_gR k1 k5 (pw_cv k12.1 (s_sendBit k12 hs (by omega)) (fun _ J3 g => ?_)))
      obtain ⟨g1, -, -, b, p', o', fb', g2, g3, g4, g5⟩ := g
      have hX3 : CX I0 J3 (aL A 1 0 out) := CX_own hX (fun r a _ _ => g1 r a)
      have hO := hX3.1.1.2.2.1
      rw [aL_s] at hO
      refine pw_gR k1 k4 (pw_gR k1 k5 (pw_gE k12.1 g3 (pw_cv k11.1 (p_B_add k11 hO.1 (by omega) _) (fun _ J4 z => ?_))))
      obtain ⟨z1, z2⟩ := z
      have hX4 : CX I0 J4 (aL A 1 0 (out ++ [lvl (J 1270 4) b])) := by
        have := CX_out hX3 (fun r a b => z2 r a b) z1 (by simp; omega)
        rw [aL_tw] at this
        exact this
      have hs4 : sndr J4 1270 l p' o' fb' := by
        obtain ⟨a1, a2, a3, a4, a5, a6⟩ := g4
        have e0 := z2 1270 (by decide) (by decide)
        exact ⟨isL_same a1 (z2 _ (by decide) (by decide)) (z2 _ (by decide) (by decide)), a2, by rw [e0]; exact a3, by rw [e0]; exact a4, by rw [e0]; exact a5, a6⟩
      rw [g5] at hf ⊢
      rw [List.length_cons] at hf
      rw [show nI k + 1 = nI (k + 1) from nI_1 k]
      refine pw_mono (pl2 hS f m (k + 1) J4 _ p' o' fb' (lvl v b) (by omega) (by omega) (by omega) (by simp; omega) hX4 hs4 (by rw [z2 1270 (by decide) (by decide), g3, hv])) (fun _ K q => ⟨?_, q.2⟩)
      have q1 := q.1
      rw [List.append_assoc, hv] at q1
      exact q1
theorem p_C_bits (hS : Shp S) (hC : CInv I A) (v : Int32) : pw S (q_C_bits (some 16) v (I, S)) (CP I (aBit A v)) := by
  refine CV_CP ?_
  have hX := CX_0 hC
  obtain ⟨k1, k2, k3, k4, k5, k6, k7, k8, k9, k10, k11, k12, k13⟩ := hS.1
  obtain ⟨h1, h2⟩ := hX.1.1.2.1
  unfold q_C_bits q_C_bits_19 q_C_bits_23 aBit
  have no : ¬ ((15 ≤ (A.2.1 0 0).length ∧ (A.2.1 0 0).length ≤ 90) ∧ (v = 0 ∨ v = 1)) → pw S (q_C_bits_24 (some 16) v 0 (I, S)) (CV I (if (15 ≤ (A.2.1 0 0).length ∧ (A.2.1 0 0).length ≤ 90) ∧ (v = 0 ∨ v = 1) then (nI (bLn (A.2.1 0 0)).length, aL (aL A 1 0 (lvs v (bLn (A.2.1 0 0)))) 0 0 []) else (-1, aL A 0 0 []))) := by
    intro q
    rw [if_neg q]
    unfold q_C_bits_24 q_C_bits_71
    exact pw_t rfl (pw_gR k1 k3 (pw_cv k10.1 (c_tapeClear hS hX) (fun _ J g => pw_t rfl (pw_ret ⟨rfl, g⟩))))
  refine pw_gR k1 k3 (pw_cl (c_isFrame k10 h1 h2) (fun x I2 h => ?_))
  obtain ⟨rfl, rfl⟩ := h
  by_cases hf : 15 ≤ (A.2.1 0 0).length ∧ (A.2.1 0 0).length ≤ 90
  · have yes : (v = 0 ∨ v = 1) → pw S (q_C_bits_24 (some 16) v 1 (I2, S)) (CV I2 (if (15 ≤ (A.2.1 0 0).length ∧ (A.2.1 0 0).length ≤ 90) ∧ (v = 0 ∨ v = 1) then (nI (bLn (A.2.1 0 0)).length, aL (aL A 1 0 (lvs v (bLn (A.2.1 0 0)))) 0 0 []) else (-1, aL A 0 0 []))) := by
      intro hv
      rw [if_pos ⟨hf, hv⟩]
      unfold q_C_bits_24 q_C_bits_71 q_C_putLevels
      refine pw_f (by decide) (pw_gR k1 k4 (pw_cv k11.1 (p_B_clear k11) (fun _ J1 g => ?_)))
      have hX1 : CX I2 J1 (aL A 1 0 []) := CX_out hX (fun r a _ => g.2.2 r a) g.1 (by decide)
      refine pw_gR k1 k5 (pw_pI k12.1 (pw_gR k1 k5 (pw_cv k12.1 (s_startFlags k12 (n := 2) (by decide) (by decide)) (fun _ J2 z => ?_))))
      obtain ⟨z1, z2, z3⟩ := z
      have hX2 : CX I2 J2 (aL A 1 0 []) := CX_own hX1 (fun r a b _ => by rw [z1 r a b, iput_n _ _ _ a])
      have lv2 : J2 1270 4 = v := by rw [z2 4 (by decide), iput_s]
      have hln : lnL [] 0 0 (8 * 2) = flg 16 := rfl
      refine pw_cv k1 (pl2 hS (l := []) 16 mFU 0 J2 [] 0 0 (8 * 2) v rfl (by unfold mFU; omega) (by omega) (by decide) hX2 z3 lv2) (fun _ J3 w => ?_)
      obtain ⟨w1, w2⟩ := w
      rw [hln] at w1 w2
      rw [List.nil_append] at w1
      have ht : isL J3 1266 (A.2.1 0 0) := by
        have := w1.1.1.2.1.1
        rw [aL_f _ _ _ _ (by decide)] at this
        exact this
      refine pw_gR k1 k5 (pw_gR k1 k3 (pw_cv k12.1 (s_startFrame k12 k10 ht h2 hf.2 (by decide)) (fun _ J4 q => ?_)))
      obtain ⟨q1, q2, q3⟩ := q
      have hX4 : CX I2 J4 (aL A 1 0 (lvs v (flg 16))) := CX_own w1 (fun r a b c => q1 r a b c)
      have hll := ln_len hf.2
      have hl2 : (lnL (frm (A.2.1 0 0)) 0 0 8).length = (stf (bitsFrom (frm (A.2.1 0 0)) 0) 0).length + 8 := by
        unfold lnL
        rw [List.length_append]
        rfl
      refine pw_cv k1 (pl2 hS (l := frm (A.2.1 0 0)) _ mFU 0 J4 (lvs v (flg 16)) 0 0 8 (lve v (flg 16)) rfl (by rw [hl2]; unfold mFU; omega) (by omega) (by rw [hl2, lvs_len, flg_len]; omega) hX4 q3 (by rw [q2 4 (by decide)]; exact w2)) (fun _ J5 y => ?_)
      obtain ⟨y1, -⟩ := y
      rw [← lvs_app] at y1
      have y1 : CX I2 J5 (aL A 1 0 (lvs v (bLn (A.2.1 0 0)))) := y1
      refine pw_gR k1 k3 (pw_cv k10.1 (c_tapeClear hS y1) (fun _ J6 y2 => pw_f (by decide) (pw_gR k1 k4 ?_)))
      have hO := y2.1.1.2.2.1.1
      rw [aL_f _ _ _ _ (by decide), aL_s] at hO
      refine gB k11 hO (pw_ret ⟨?_, y2⟩)
      rw [lvs_len]
    rw [if_pos hf]
    refine pw_f (by decide) (pw_if (fun q => yes (Or.inl q)) (fun q1 => pw_if (fun q => yes (Or.inr q)) (fun q2 => no (fun z => by rcases z.2 with z | z; exact q1 z; exact q2 z))))
  · rw [if_neg hf]
    exact pw_t rfl (no (fun q => hf q.1))
theorem rb64 (hS : Shp S) {L : List Int32} {v : Int32} (Ib : mIm) (h5 : Ib 1282 5 = nI L.length) (h85 : fL Ib 1285 0 L) (hl : L.length ≤ 907) (hX : RX I0 Ib A) : ∀ (f m k : Nat) (J : mIm), k + f = L.length → f < m → (∀ r, r ≠ 1284 → J r = Ib r) → fL J 1284 0 (lvs v (L.take k)) → pw S (q_M_bits_64 m (some 1282) (lve v (L.take k)) (nI k) (J, S)) (RV I0 (nI L.length, aL A 1 0 (lvs v L)))
  | f, 0, k, J, _, h, _, _ => by omega
  | 0, m + 1, k, J, hk, hm, hJ, hF => by
    have hM := M_k hS
    show pw S (q_M_bits_64_b _ _ _ _ _) _
    unfold q_M_bits_64_b
    have e : k = L.length := by omega
    subst e
    rw [List.take_length] at hF ⊢
    have e5 : J 1282 5 = nI L.length := by rw [hJ 1282 (by decide)]; exact h5
    refine pw_gE hM e5 (pw_f (nI_nlt (by omega) (by omega)) (pw_gE hM e5 (pw_pI hM (pw_gE hM (iput_s _ _ _ _) (pw_ret ⟨rfl, ?_⟩)))))
    refine RX_1 hX (fun r a b => by rw [iput_n _ _ _ a]; exact hJ r b) (fun j hj => by rw [iput_j _ _ _ hj, hJ 1282 (by decide)]) (by rw [iput_s, lvs_len]) (fun j x hj => by rw [iput_n _ _ _ (by decide)]; exact hF j x hj) (by rw [lvs_len]; exact hl)
  | f + 1, m + 1, k, J, hk, hm, hJ, hF => by
    have hM := M_k hS
    have a84 := aK_in hS (r := 1284) (t := 0) (n := 1024) rfl
    have a85 := aK_in hS (r := 1285) (t := 0) (n := 1024) rfl
    show pw S (q_M_bits_64_b _ _ _ _ _) _
    unfold q_M_bits_64_b
    have e5 : J 1282 5 = nI L.length := by rw [hJ 1282 (by decide)]; exact h5
    refine pw_gE hM e5 (pw_t (nI_lt (by omega) (by omega)) (rM hS (r := 1285) rfl (pw_aI k a85.1 rfl (by omega) (by omega) ?_)))
    have eb : J 1285 k = L[k] := by
      have := h85 k L[k] (List.getElem?_eq_getElem (by omega))
      rw [Nat.zero_add] at this
      rw [hJ 1285 (by decide)]
      exact this
    rw [eb]
    have et : L.take (k + 1) = L.take k ++ [L[k]] := List.take_succ_eq_append_getElem (by omega)
    have go : ∀ x : Int32, x = lvl (lve v (L.take k)) L[k] → pw S (q_M_bits_90 (q_M_bits_64 m) (some 1282) (nI k) x (J, S)) (RV I0 (nI L.length, aL A 1 0 (lvs v L))) := by
      intro x hx
      unfold q_M_bits_90
      refine rM hS (r := 1284) rfl (pw_wI k a84.1 rfl (by omega) (by omega) ?_)
      rw [show nI k + 1 = nI (k + 1) from nI_1 k]
      have el : lve v (L.take (k + 1)) = x := by rw [et, lve_app, hx]; rfl
      have es : lvs v (L.take (k + 1)) = lvs v (L.take k) ++ [x] := by rw [et, lvs_app, hx]; rfl
      have := rb64 hS Ib h5 h85 hl hX f m (k + 1) (iput J 1284 k x) (by omega) (by omega) (fun r hr => by rw [iput_n _ _ _ hr]; exact hJ r hr) (by
        rw [es]
        exact fL_push0 (by rw [lvs_len, List.length_take]; omega) hF)
      rw [el] at this
      exact this
    by_cases e0 : L[k] = 0
    · exact pw_t e0 (go _ (by unfold lvl; rw [if_pos e0]))
    · exact pw_f e0 (go _ (by unfold lvl; rw [if_neg e0]))
theorem p_M_bits (hS : Shp S) (hR : RInv I A) (v : Int32) : pw S (q_M_bits (some 1282) v (I, S)) (RP I (aBit A v)) := by
  refine RV_RP ?_
  have hX := RX_0 hR
  have hM := M_k hS
  obtain ⟨h1, h2, h3⟩ := hR.1.2.1
  have a83 := aK_in hS (r := 1283) (t := 0) (n := 260) rfl
  unfold q_M_bits aBit
  have hX1 := RX_tape0 hX
  refine pw_gE hM h1 (pw_pI hM (pw_cl (p_M_in _ _ _) (fun x J g => ?_)))
  obtain ⟨rfl, rfl⟩ := g
  have t83 : fL (iput I 1282 1 0) 1283 0 (A.2.1 0 0) := fun j x hj => by rw [iput_n _ _ _ (by decide)]; exact h2 j x hj
  generalize iput I 1282 1 0 = I1 at hX1 t83 ⊢
  have e15 : inV (nI (A.2.1 0 0).length) 15 90 = if 15 ≤ (A.2.1 0 0).length ∧ (A.2.1 0 0).length ≤ 90 then 1 else 0 := inV_nat (by omega) (by decide) (by decide)
  rw [e15]
  by_cases hf : 15 ≤ (A.2.1 0 0).length ∧ (A.2.1 0 0).length ≤ 90
  · rw [if_pos hf]
    refine pw_f (by decide) (pw_cl (p_M_in _ _ _) (fun x J g => ?_))
    obtain ⟨rfl, rfl⟩ := g
    by_cases hv : v = 0 ∨ v = 1
    · rw [show inV v 0 1 = 1 from by rcases hv with q | q <;> rw [q] <;> decide, if_pos (show ((15 ≤ (A.2.1 0 0).length ∧ (A.2.1 0 0).length ≤ 90) ∧ (v = 0 ∨ v = 1)) from ⟨hf, hv⟩)]
      refine pw_f (by decide) (pw_pI hM ?_)
      have d0 : rMd (iput J 1282 5 0) [] (iput J 1282 5 0 1282 6).toBitVec.toNat := ⟨by rw [iput_s]; rfl, fun j x hj => by simp at hj, i32_nat _⟩
      have m0 : fM J (iput J 1282 5 0) := fM_p (Or.inl rfl)
      refine pw_cv hM (r_makeFlag hS d0 (by decide)) (fun _ J2 g2 => pw_cv hM (r_makeFlag hS g2.2 (by decide)) (fun _ J3 g3 => ?_))
      have m3 : fM J J3 := fM_t m0 (fM_t g2.1 g3.1)
      have t3 : fL J3 1283 0 (A.2.1 0 0) := fun j x hj => by rw [m3.1 1283 (by decide) (by decide)]; exact t83 j x hj
      refine rM hS (r := 1283) rfl (pw_cv hM (r_makeFrame hS (a := 0) a83.1 a83.2 (by decide) (by decide) t3 (by omega) hf.2 (by decide) g3.2) (fun _ J4 g4 => ?_))
      obtain ⟨g41, o4, ho4, g42⟩ := g4
      have hll := ln_len hf.2
      refine pw_cv hM (r_makeFlag hS g42 ?_) (fun _ J5 g5 => ?_)
      · rw [List.length_append]
        show 16 + _ + 8 ≤ 1024
        omega
      · have m5 : fM J J5 := fM_t m3 (fM_t g41 g5.1)
        have hX5 := RX_fM hX1 m5
        have d5 : rMd J5 (bLn (A.2.1 0 0)) 0 := by
          have := g5.2
          rw [List.append_assoc] at this
          exact this
        have hlb : (bLn (A.2.1 0 0)).length ≤ 907 := by
          unfold bLn
          rw [List.length_append, List.length_append, flg_len, flg_len]
          omega
        have := rb64 hS (L := bLn (A.2.1 0 0)) (v := v) J5 d5.1 d5.2.1 hlb hX5 (bLn (A.2.1 0 0)).length mFU 0 J5 (by omega) (by unfold mFU; omega) (fun _ _ => rfl) (fun j x hj => by rw [List.take_zero] at hj; simp [lvs] at hj)
        refine pw_mono this (fun x K q => ⟨q.1, ?_⟩)
        have e : aL (aL A 0 0 []) 1 0 (lvs v (bLn (A.2.1 0 0))) = aL (aL A 1 0 (lvs v (bLn (A.2.1 0 0)))) 0 0 [] := by
          unfold aL mrow
          simp
          funext a
          by_cases h : a = 0
          · simp [h]
          · by_cases h2 : a = 1
            · simp [h2]
            · simp [h, h2]
        rw [← e]
        exact q.2
    · rw [show inV v 0 1 = 0 from ?_, if_neg (show ¬ ((15 ≤ (A.2.1 0 0).length ∧ (A.2.1 0 0).length ≤ 90) ∧ (v = 0 ∨ v = 1)) from fun q => hv q.2)]
      · exact pw_t rfl (pw_ret ⟨rfl, hX1⟩)
      · unfold inV
        by_cases q1 : v < 0
        · rw [if_pos q1]
        · rw [if_neg q1]
          by_cases q2 : 1 < v
          · rw [if_pos q2]
          · exfalso
            obtain ⟨m, hm, rfl⟩ := nI_of q1
            rcases Nat.lt_or_ge 1 m with w | w
            · exact q2 (nI_lt (a := 1) w hm)
            · rcases (show m = 0 ∨ m = 1 by omega) with z | z <;> subst z
              · exact hv (Or.inl rfl)
              · exact hv (Or.inr rfl)
  · rw [if_neg hf, if_neg (show ¬ ((15 ≤ (A.2.1 0 0).length ∧ (A.2.1 0 0).length ≤ 90) ∧ (v = 0 ∨ v = 1)) from fun q => hf q.1)]
    exact pw_t rfl (pw_ret ⟨rfl, hX1⟩)
end BI
