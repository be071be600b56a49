/-! sending: the reference takes a FRAME and sends -/
def shf (Ib J : mIm) (s f : Nat) : Prop := (∀ r, r ≠ 1297 → r ≠ 1298 → J r = Ib r) ∧ (∀ g, g + 1 < f → J 1297 (12 * s + g) = Ib 1297 (12 * s + g + 1)) ∧ (∀ j, (j < 12 * s ∨ 12 * s + f ≤ j + 1) → J 1297 j = Ib 1297 j) ∧ (∀ g i, g + 1 < f → i < 90 → J 1298 (1080 * s + 90 * g + i) = Ib 1298 (1080 * s + 90 * (g + 1) + i)) ∧ (∀ j, (j < 1080 * s ∨ 1080 * s + 90 * f ≤ j + 90) → J 1298 j = Ib 1298 j)
def tfQ (I : mIm) (s : Nat) (fr : List Int32) (rest : List (List Int32)) : Unit → mIm → Prop := fun _ K => fSx I K s ∧ K 1301 s = I 1301 s ∧ K 1302 s = I 1302 s ∧ K 1309 s = I 1309 s ∧ K 1306 s = I 1306 s + 1 ∧ K 1310 (5 * s) = I 1310 (5 * s) + 1 ∧ qOf K s rest ∧ lnOf K s (lnL (frm fr) 0 0 8) ∧ fmS K s fr
section TK
variable {S : mS} {I J I0 Ib : mIm} {A : aT} {s : Nat} {fr : List Int32} {rest : List (List Int32)}
theorem tf102 (hS : Shp S) (hs : s < 6) {f : Nat} (hf1 : 1 ≤ f) (hf : f < 12) {Q : Unit → mIm → Prop} {r62 : Option Nat → Int32 → Int32 → Int32 → Int32 → mM → Option (Unit × mM)} (n : Int32) (J : mIm) (cont : ∀ K, (∀ r, r ≠ 1298 → K r = J r) → (∀ j, j < 90 → K 1298 (1080 * s + 90 * (f - 1) + j) = J 1298 (1080 * s + 90 * f + j)) → (∀ j, (j < 1080 * s + 90 * (f - 1) ∨ 1080 * s + 90 * f ≤ j) → K 1298 j = J 1298 j) → pw S (r62 (some 1282) (nI s) (nI (1080 * s)) n (nI (f + 1)) (K, S)) Q) : ∀ (d m i : Nat) (K : mIm), i + d = 90 → d < m → (∀ r, r ≠ 1298 → K r = J r) → (∀ j, j < i → K 1298 (1080 * s + 90 * (f - 1) + j) = J 1298 (1080 * s + 90 * f + j)) → (∀ j, (j < 1080 * s + 90 * (f - 1) ∨ 1080 * s + 90 * f ≤ j) → K 1298 j = J 1298 j) → pw S (q_M_takesFrame_102 r62 m (some 1282) (nI s) (nI (1080 * s)) n (nI f) (nI i) (K, S)) Q
  | d, 0, i, K, _, h, _, _, _ => by omega
  | 0, m + 1, i, K, hi, hm, h1, h2, h3 => by
    show pw S (q_M_takesFrame_102_b _ _ _ _ _ _ _ _ _) _
    unfold q_M_takesFrame_102_b
    have e : i = 90 := by omega
    subst e
    rw [show nI f + 1 = nI (f + 1) from nI_1 f]
    exact pw_f (nI_nlt (a := 90) (b := 90) (by omega) (by decide)) (cont K h1 h2 h3)
  | d + 1, m + 1, i, K, hi, hm, h1, h2, h3 => by
    have a98 := aK_in hS (r := 1298) (t := 0) (n := 6480) rfl
    show pw S (q_M_takesFrame_102_b _ _ _ _ _ _ _ _ _) _
    unfold q_M_takesFrame_102_b
    have ix1 : (nI (1080 * s) + (90 : Int32) * nI f) + nI i = nI (1080 * s + 90 * f + i) := by rw [show (90 : Int32) * nI f = nI (90 * f) from pk_mul 90 f, nI_add, nI_add]
    have ix2 : (nI (1080 * s) + (90 : Int32) * (nI f - 1)) + nI i = nI (1080 * s + 90 * (f - 1) + i) := by rw [show nI f - (1 : Int32) = nI (f - 1) from pk_sub (b := 1) hf1, show (90 : Int32) * nI (f - 1) = nI (90 * (f - 1)) from pk_mul 90 (f - 1), nI_add, nI_add]
    refine pw_t (nI_lt (b := 90) (by omega) (by decide)) (rM hS (r := 1298) rfl (rM hS (r := 1298) rfl (pw_aI (1080 * s + 90 * f + i) a98.1 ix1 (by omega) (by omega) (pw_wI (1080 * s + 90 * (f - 1) + i) a98.1 ix2 (by omega) (by omega) ?_))))
    rw [h3 (1080 * s + 90 * f + i) (by omega), show nI i + 1 = nI (i + 1) from nI_1 i]
    refine tf102 hS hs hf1 hf n J cont d m (i + 1) _ (by omega) (by omega) (fun r hr => by rw [iput_n _ _ _ hr]; exact h1 r hr) (fun j hj => ?_) (fun j hj => by rw [iput_j _ _ _ (by omega)]; exact h3 j hj)
    by_cases e : j = i
    · subst e; rw [iput_s]
    · rw [iput_j _ _ _ (by omega)]; exact h2 j (by omega)
theorem tf62 (hS : Shp S) (hs : s < 6) {c : Nat} (hc : c ≤ 12) (h96 : Ib 1296 s = nI c) {Q : Unit → mIm → Prop} (n : Int32) (fin : ∀ K, shf Ib K s c → pw S (x_gR (K, S) 10 (some 1282) 18 fun a6 => x_aI (K, S) 0 a6 (nI s) fun x7 => x_wI (K, S) a6 (nI s) (x7 - (1 : Int32)) fun M => x_cv M 10 (some 1282) (q_M_count (some 1282) (nI s) (0 : Int32) M) fun _ M => x_gR M 10 (some 1282) 28 fun a8 => x_aI M 0 a8 (nI s) fun x9 => x_wI M a8 (nI s) (x9 + (1 : Int32)) fun M => x_pI M 10 (some 1282) 5 (0 : Int32) fun M => x_gR M 10 (some 1282) 30 fun a10 => x_cv M 10 (some 1282) (q_M_makeFrame (some 1282) a10 ((90 : Int32) * nI s) n M) fun _ M => x_cv M 10 (some 1282) (q_M_makeFlag (some 1282) M) fun _ M => x_cv M 10 (some 1282) (q_M_lineIs (some 1282) (nI s) M) fun _ M => some ((), M)) Q) : ∀ (d m f : Nat) (J : mIm), f + d = c → 1 ≤ f → d < m → shf Ib J s f → pw S (q_M_takesFrame_62 m (some 1282) (nI s) (nI (1080 * s)) n (nI f) (J, S)) Q
  | d, 0, f, J, _, _, h, _ => by omega
  | 0, m + 1, f, J, hf, hf1, hm, h => by
    have a96 := aK_in hS (r := 1296) (t := 0) (n := 6) rfl
    show pw S (q_M_takesFrame_62_b _ _ _ _ _ _ _) _
    unfold q_M_takesFrame_62_b
    have e : f = c := by omega
    subst e
    refine rM hS (r := 1296) rfl (pw_aI s a96.1 rfl (by omega) (by omega) ?_)
    rw [h.1 1296 (by decide) (by decide), h96]
    exact pw_f (nI_nlt (by omega) (by omega)) (fin J h)
  | d + 1, m + 1, f, J, hf, hf1, hm, h => by
    have a96 := aK_in hS (r := 1296) (t := 0) (n := 6) rfl
    have a97 := aK_in hS (r := 1297) (t := 0) (n := 72) rfl
    obtain ⟨h1, h2, h3, h4, h5⟩ := id h
    show pw S (q_M_takesFrame_62_b _ _ _ _ _ _ _) _
    unfold q_M_takesFrame_62_b
    refine rM hS (r := 1296) rfl (pw_aI s a96.1 rfl (by omega) (by omega) ?_)
    rw [h1 1296 (by decide) (by decide), h96]
    have ix : ((12 : Int32) * nI s) + nI f = nI (12 * s + f) := by rw [show (12 : Int32) * nI s = nI (12 * s) from pk_mul 12 s, nI_add]
    rw [ix, show nI (12 * s + f) - (1 : Int32) = nI (12 * s + f - 1) from pk_sub (b := 1) (by omega)]
    refine pw_t (nI_lt (by omega) (by omega)) (rM hS (r := 1297) rfl (rM hS (r := 1297) rfl (pw_aI (12 * s + f) a97.1 rfl (by omega) (by omega) (pw_wI (12 * s + f - 1) a97.1 rfl (by omega) (by omega) ?_))))
    rw [h3 (12 * s + f) (by omega)]
    refine tf102 hS hs hf1 (by omega) n _ (fun K k1 k2 k3 => ?_) 90 mFU 0 _ (by omega) (by unfold mFU; omega) (fun _ _ => rfl) (fun j hj => by omega) (fun _ _ => rfl)
    refine tf62 hS hs hc h96 n fin d m (f + 1) K (by omega) (by omega) (by omega) ⟨fun r a b => by rw [k1 r b, iput_n _ _ _ a]; exact h1 r a b, fun g hg => ?_, fun j hj => ?_, fun g i hg hi => ?_, fun j hj => ?_⟩
    · rw [k1 1297 (by decide)]
      by_cases e : g + 1 = f
      · rw [show 12 * s + g = 12 * s + f - 1 by omega, iput_s]
        congr 1
        omega
      · rw [iput_j _ _ _ (by omega)]
        exact h2 g (by omega)
    · rw [k1 1297 (by decide), iput_j _ _ _ (by omega)]
      exact h3 j (by omega)
    · by_cases e : g + 1 = f
      · have := k2 i hi
        rw [iput_n _ _ _ (by decide), h5 _ (by omega)] at this
        rw [show 1080 * s + 90 * g + i = 1080 * s + 90 * (f - 1) + i by omega, this]
        congr 1
        omega
      · rw [k3 _ (by omega), iput_n _ _ _ (by decide)]
        exact h4 g i (by omega) hi
    · rw [k3 _ (by omega), iput_n _ _ _ (by decide)]
      exact h5 j (by omega)
theorem tf26 (hS : Shp S) (hs : s < 6) (h90 : fr.length ≤ 90) (hq : fL I 1298 (1080 * s) fr) {Q : Unit → mIm → Prop} (fin : ∀ K, (∀ r, r ≠ 1308 → K r = I r) → fL K 1308 (90 * s) fr → (∀ j, (j < 90 * s ∨ 90 * s + 90 ≤ j) → K 1308 j = I 1308 j) → pw S (q_M_takesFrame_62 mFU (some 1282) (nI s) (nI (1080 * s)) (nI fr.length) (1 : Int32) (K, S)) Q) : ∀ (d m i : Nat) (J : mIm), i + d = fr.length → d < m → (∀ r, r ≠ 1308 → J r = I r) → (∀ j, j < i → J 1308 (90 * s + j) = pA fr j) → (∀ j, (j < 90 * s ∨ 90 * s + 90 ≤ j) → J 1308 j = I 1308 j) → pw S (q_M_takesFrame_26 m (some 1282) (nI s) (nI (1080 * s)) (nI fr.length) (nI i) (J, S)) Q
  | d, 0, i, J, _, h, _, _, _ => by omega
  | 0, m + 1, i, J, hi, hm, h1, h2, h3 => by
    show pw S (q_M_takesFrame_26_b _ _ _ _ _ _ _) _
    unfold q_M_takesFrame_26_b
    refine pw_f (nI_nlt (by omega) (by omega)) (fin J h1 (fun j x hj => ?_) h3)
    have hlt := (List.getElem?_eq_some_iff.mp hj).1
    rw [h2 j (by omega)]
    unfold pA
    rw [hj]
    rfl
  | d + 1, m + 1, i, J, hi, hm, h1, h2, h3 => by
    have a98 := aK_in hS (r := 1298) (t := 0) (n := 6480) rfl
    have a08 := aK_in hS (r := 1308) (t := 0) (n := 540) rfl
    show pw S (q_M_takesFrame_26_b _ _ _ _ _ _ _) _
    unfold q_M_takesFrame_26_b
    refine pw_t (nI_lt (by omega) (by omega)) (rM hS (r := 1308) rfl (rM hS (r := 1298) rfl (pw_aI (1080 * s + i) a98.1 (nI_add _ _) (by omega) (by omega) (pw_wI (90 * s + i) a08.1 (by rw [show (90 : Int32) * nI s = nI (90 * s) from pk_mul 90 s, nI_add]) (by omega) (by omega) ?_))))
    have ex : J 1298 (1080 * s + i) = pA fr i := by
      rw [h1 1298 (by decide), hq i fr[i] (List.getElem?_eq_getElem (by omega))]
      unfold pA
      rw [List.getElem?_eq_getElem (by omega)]
      rfl
    rw [ex, show nI i + 1 = nI (i + 1) from nI_1 i]
    refine tf26 hS hs h90 hq fin d m (i + 1) _ (by omega) (by omega) (fun r hr => by rw [iput_n _ _ _ hr]; exact h1 r hr) (fun j hj => ?_) (fun j hj => by rw [iput_j _ _ _ (by omega)]; exact h3 j hj)
    by_cases e : j = i
    · subst e; rw [iput_s]
    · rw [iput_j _ _ _ (by omega)]; exact h2 j (by omega)
theorem r_takesFrame (hS : Shp S) (hs : s < 6) (hq : qOf I s (fr :: rest)) : pw S (q_M_takesFrame (some 1282) (nI s) (I, S)) (tfQ I s fr rest) := by
  have hM := M_k hS
  have a96 := aK_in hS (r := 1296) (t := 0) (n := 6) rfl
  have a97 := aK_in hS (r := 1297) (t := 0) (n := 72) rfl
  have a07 := aK_in hS (r := 1307) (t := 0) (n := 6) rfl
  have a06 := aK_in hS (r := 1306) (t := 0) (n := 6) rfl
  have a08 := aK_in hS (r := 1308) (t := 0) (n := 540) rfl
  have a10 := aK_in hS (r := 1310) (t := 0) (n := 30) rfl
  obtain ⟨q1, q2, q3⟩ := hq
  obtain ⟨y1, y2, y3⟩ := q3 0 fr rfl
  rw [Nat.add_zero] at y2 y3
  have y3 : fL I 1298 (1080 * s) fr := by rw [show 1080 * s = 90 * (12 * s) by omega]; exact y3
  have hlen : (fr :: rest).length = rest.length + 1 := rfl
  unfold q_M_takesFrame
  rw [show (1080 : Int32) * nI s = nI (1080 * s) from pk_mul 1080 s]
  refine pw_lt (rM hS (r := 1297) rfl (pw_aI (12 * s) a97.1 (pk_mul 12 s) (by omega) (by omega) ?_))
  rw [y2]
  refine rM hS (r := 1307) rfl (pw_wI s a07.1 rfl (by omega) (by omega) ?_)
  refine tf26 (I := iput I 1307 s (nI fr.length)) hS hs y1 (fun j x hj => by rw [iput_n _ _ _ (by decide)]; exact y3 j x hj) (fun K k1 k2 k3 => ?_) fr.length mFU 0 _ (by omega) (by unfold mFU; omega) (fun _ _ => rfl) (fun j hj => by omega) (fun _ _ => rfl)
  have kI : ∀ r, r ≠ 1307 → r ≠ 1308 → K r = I r := fun r a b => by rw [k1 r b, iput_n _ _ _ a]
  refine tf62 (Ib := K) hS hs (c := rest.length + 1) (by omega) (by rw [kI 1296 (by decide) (by decide)]; exact q1) _ (fun N hN => ?_) rest.length mFU 1 K (by omega) (by omega) (by unfold mFU; omega) ⟨fun _ _ _ => rfl, fun g hg => by omega, fun _ _ => rfl, fun g i hg => by omega, fun _ _ => rfl⟩
  obtain ⟨n1, n2, n3, n4, n5⟩ := hN
  have nI' : ∀ r, r ≠ 1297 → r ≠ 1298 → r ≠ 1307 → r ≠ 1308 → N r = I r := fun r a b c d => by rw [n1 r a b, kI r c d]
  refine rM hS (r := 1296) rfl (pw_aI s a96.1 rfl (by omega) (by omega) (pw_wI s a96.1 rfl (by omega) (by omega) ?_))
  rw [nI' 1296 (by decide) (by decide) (by decide) (by decide), q1, hlen, show nI (rest.length + 1) - (1 : Int32) = nI rest.length from nI_pred _]
  have hcount : ∀ (N2 : mIm), pw S (q_M_count (some 1282) (nI s) (0 : Int32) (N2, S)) (fun _ N3 => N3 = iput N2 1310 (5 * s) (N2 1310 (5 * s) + 1)) := by
    intro N2
    unfold q_M_count
    have ix : ((5 : Int32) * nI s) + 0 = nI (5 * s) := by rw [show (5 : Int32) * nI s = nI (5 * s) from pk_mul 5 s, Int32.add_zero]
    rw [ix]
    exact rM hS (r := 1310) rfl (pw_lt (pw_aI (5 * s) a10.1 rfl (by omega) (by omega) (pw_wI (5 * s) a10.1 rfl (by omega) (by omega) (pw_ret rfl))))
  refine pw_cv hM (hcount _) (fun _ N3 g => ?_)
  rw [g, iput_n _ _ _ (by decide)]
  refine rM hS (r := 1306) rfl (pw_aI s a06.1 rfl (by omega) (by omega) (pw_wI s a06.1 rfl (by omega) (by omega) (pw_pI hM (rM hS (r := 1308) rfl ?_))))
  rw [iput_n _ _ _ (show 1306 ≠ 1310 by decide), iput_n _ _ _ (show 1306 ≠ 1296 by decide), nI' 1306 (by decide) (by decide) (by decide) (by decide), nI' 1310 (by decide) (by decide) (by decide) (by decide)]
  have eT : ∀ r, r ≠ 1296 → r ≠ 1310 → r ≠ 1306 → r ≠ 1282 → (iput (iput (iput (iput N 1296 s (nI rest.length)) 1310 (5 * s) (I 1310 (5 * s) + 1)) 1306 s (I 1306 s + 1)) 1282 5 0) r = N r := fun r a b c d => by rw [iput_n _ _ _ d, iput_n _ _ _ c, iput_n _ _ _ b, iput_n _ _ _ a]
  have e96 : (iput (iput (iput (iput N 1296 s (nI rest.length)) 1310 (5 * s) (I 1310 (5 * s) + 1)) 1306 s (I 1306 s + 1)) 1282 5 0) 1296 = iput N 1296 s (nI rest.length) 1296 := by rw [iput_n _ _ _ (by decide), iput_n _ _ _ (by decide), iput_n _ _ _ (by decide)]
  have e10 : (iput (iput (iput (iput N 1296 s (nI rest.length)) 1310 (5 * s) (I 1310 (5 * s) + 1)) 1306 s (I 1306 s + 1)) 1282 5 0) 1310 = iput N 1310 (5 * s) (I 1310 (5 * s) + 1) 1310 := by
    rw [iput_n _ _ _ (by decide), iput_n _ _ _ (by decide)]
    exact iput_row (iput_n _ _ _ (by decide))
  have e06 : (iput (iput (iput (iput N 1296 s (nI rest.length)) 1310 (5 * s) (I 1310 (5 * s) + 1)) 1306 s (I 1306 s + 1)) 1282 5 0) 1306 = iput N 1306 s (I 1306 s + 1) 1306 := by
    rw [iput_n _ _ _ (by decide)]
    exact iput_row (by rw [iput_n _ _ _ (by decide), iput_n _ _ _ (by decide)])
  have e82 : (iput (iput (iput (iput N 1296 s (nI rest.length)) 1310 (5 * s) (I 1310 (5 * s) + 1)) 1306 s (I 1306 s + 1)) 1282 5 0) 1282 = iput N 1282 5 0 1282 := iput_row (by rw [iput_n _ _ _ (by decide), iput_n _ _ _ (by decide), iput_n _ _ _ (by decide)])
  have d5 : rMd (iput (iput (iput (iput N 1296 s (nI rest.length)) 1310 (5 * s) (I 1310 (5 * s) + 1)) 1306 s (I 1306 s + 1)) 1282 5 0) [] ((iput (iput (iput (iput N 1296 s (nI rest.length)) 1310 (5 * s) (I 1310 (5 * s) + 1)) 1306 s (I 1306 s + 1)) 1282 5 0) 1282 6).toBitVec.toNat := ⟨by rw [iput_s]; rfl, fun j x hj => by simp at hj, i32_nat _⟩
  generalize hT : iput (iput (iput (iput N 1296 s (nI rest.length)) 1310 (5 * s) (I 1310 (5 * s) + 1)) 1306 s (I 1306 s + 1)) 1282 5 0 = T at eT e96 e10 e06 e82 d5 ⊢
  have hsent : fL T 1308 (90 * s) fr := fun j x hj => by
    rw [eT 1308 (by decide) (by decide) (by decide) (by decide), n1 1308 (by decide) (by decide)]
    exact k2 j x hj
  rw [show (90 : Int32) * nI s = nI (90 * s) from pk_mul 90 s]
  refine pw_cv hM (r_makeFrame hS a08.1 a08.2 (by decide) (by decide) hsent (by omega) y1 (by decide) d5) (fun _ T1 g1 => ?_)
  obtain ⟨g11, o1, ho1, g12⟩ := g1
  have hll := ln_len y1
  refine pw_cv hM (r_makeFlag hS g12 (by simp; omega)) (fun _ T2 g2 => ?_)
  have d2 := g2.2
  rw [List.nil_append] at d2
  have hlf : (flg 8).length = 8 := rfl
  refine pw_cv hM (r_lineIs hS hs d2 (by rw [List.length_append]; omega)) (fun _ U g3 => pw_ret ?_)
  obtain ⟨g31, g32, g33⟩ := g3
  have m2 : fM T T2 := fM_t g11 g2.1
  have eU : ∀ r, r ≠ 1282 → r ≠ 1285 → r ≠ 1303 → r ≠ 1304 → r ≠ 1305 → U r = T r := fun r a b c d e => by rw [g33 r c d e]; exact m2.1 r a b
  have eUI : ∀ r, r ≠ 1282 → r ≠ 1285 → r ≠ 1303 → r ≠ 1304 → r ≠ 1305 → r ≠ 1296 → r ≠ 1297 → r ≠ 1298 → r ≠ 1306 → r ≠ 1307 → r ≠ 1308 → r ≠ 1310 → U r = I r := fun r a b c d e f g h i j k l => by rw [eU r a b c d e, eT r f l i a, nI' r g h j k]
  refine ⟨⟨fun r a b c d e f => eUI r a b (by omega) (by omega) (by omega) c d e (by omega) (by omega) (by omega) (by omega), fun j a b => ?_, fun r a j hj => ?_, fun j hj => ?_, fun j hj => ?_, fun j hj => ?_, fun j hj => ?_, fun j hj => ?_⟩, ?_, ?_, ?_, ?_, ?_, ⟨?_, by omega, fun i l hl => ?_⟩, g32, ⟨?_, y1, fun j x hj => ?_⟩⟩
  · rw [g31.2.1 j a b, m2.2 j a b, e82, iput_j _ _ _ a, nI' 1282 (by decide) (by decide) (by decide) (by decide)]
  · rcases a with e | e | e | e | e | e | e | e <;> subst e
    · rw [eU 1296 (by decide) (by decide) (by decide) (by decide) (by decide), e96, iput_j _ _ _ hj, nI' 1296 (by decide) (by decide) (by decide) (by decide)]
    · rw [eUI 1301 (by decide) (by decide) (by decide) (by decide) (by decide) (by decide) (by decide) (by decide) (by decide) (by decide) (by decide) (by decide)]
    · rw [eUI 1302 (by decide) (by decide) (by decide) (by decide) (by decide) (by decide) (by decide) (by decide) (by decide) (by decide) (by decide) (by decide)]
    · rw [g31.2.2.1 1303 (by decide) j hj, m2.1 1303 (by decide) (by decide), eT 1303 (by decide) (by decide) (by decide) (by decide), nI' 1303 (by decide) (by decide) (by decide) (by decide)]
    · rw [g31.2.2.1 1304 (by decide) j hj, m2.1 1304 (by decide) (by decide), eT 1304 (by decide) (by decide) (by decide) (by decide), nI' 1304 (by decide) (by decide) (by decide) (by decide)]
    · rw [eU 1306 (by decide) (by decide) (by decide) (by decide) (by decide), e06, iput_j _ _ _ hj, nI' 1306 (by decide) (by decide) (by decide) (by decide)]
    · rw [eU 1307 (by decide) (by decide) (by decide) (by decide) (by decide), eT 1307 (by decide) (by decide) (by decide) (by decide), n1 1307 (by decide) (by decide), k1 1307 (by decide), iput_j _ _ _ hj]
    · rw [eUI 1309 (by decide) (by decide) (by decide) (by decide) (by decide) (by decide) (by decide) (by decide) (by decide) (by decide) (by decide) (by decide)]
  · rw [eU 1297 (by decide) (by decide) (by decide) (by decide) (by decide), eT 1297 (by decide) (by decide) (by decide) (by decide), n3 j (by omega), kI 1297 (by decide) (by decide)]
  · rw [eU 1298 (by decide) (by decide) (by decide) (by decide) (by decide), eT 1298 (by decide) (by decide) (by decide) (by decide), n5 j (by omega), kI 1298 (by decide) (by decide)]
  · rw [g31.2.2.2.2.2.1 j hj, m2.1 1305 (by decide) (by decide), eT 1305 (by decide) (by decide) (by decide) (by decide), nI' 1305 (by decide) (by decide) (by decide) (by decide)]
  · rw [eU 1308 (by decide) (by decide) (by decide) (by decide) (by decide), eT 1308 (by decide) (by decide) (by decide) (by decide), n1 1308 (by decide) (by decide), k3 j hj, iput_n _ _ _ (by decide)]
  · rw [eU 1310 (by decide) (by decide) (by decide) (by decide) (by decide), e10, iput_j _ _ _ hj, nI' 1310 (by decide) (by decide) (by decide) (by decide)]
  · rw [eUI 1301 (by decide) (by decide) (by decide) (by decide) (by decide) (by decide) (by decide) (by decide) (by decide) (by decide) (by decide) (by decide)]
  · rw [eUI 1302 (by decide) (by decide) (by decide) (by decide) (by decide) (by decide) (by decide) (by decide) (by decide) (by decide) (by decide) (by decide)]
  · rw [eUI 1309 (by decide) (by decide) (by decide) (by decide) (by decide) (by decide) (by decide) (by decide) (by decide) (by decide) (by decide) (by decide)]
  · rw [eU 1306 (by decide) (by decide) (by decide) (by decide) (by decide), e06, iput_s]
  · rw [eU 1310 (by decide) (by decide) (by decide) (by decide) (by decide), e10, iput_s]
  · rw [eU 1296 (by decide) (by decide) (by decide) (by decide) (by decide), e96, iput_s]
  · have hlt := (List.getElem?_eq_some_iff.mp hl).1
    obtain ⟨w1, w2, w3⟩ := q3 (i + 1) l (by rw [List.getElem?_cons_succ]; exact hl)
    refine ⟨w1, ?_, fun j x hj => ?_⟩
    · rw [eU 1297 (by decide) (by decide) (by decide) (by decide) (by decide), eT 1297 (by decide) (by decide) (by decide) (by decide), n2 i (by omega), kI 1297 (by decide) (by decide)]
      exact w2
    · have hlt2 := (List.getElem?_eq_some_iff.mp hj).1
      have := n4 i j (by omega) (by omega)
      rw [eU 1298 (by decide) (by decide) (by decide) (by decide) (by decide), eT 1298 (by decide) (by decide) (by decide) (by decide), show 90 * (12 * s + i) + j = 1080 * s + 90 * i + j by omega, this, kI 1298 (by decide) (by decide), show 1080 * s + 90 * (i + 1) + j = 90 * (12 * s + (i + 1)) + j by omega]
      exact w3 j x hj
  · rw [eU 1307 (by decide) (by decide) (by decide) (by decide) (by decide), eT 1307 (by decide) (by decide) (by decide) (by decide), n1 1307 (by decide) (by decide), k1 1307 (by decide), iput_s]
  · rw [eU 1308 (by decide) (by decide) (by decide) (by decide) (by decide), eT 1308 (by decide) (by decide) (by decide) (by decide), n1 1308 (by decide) (by decide)]
    exact k2 j x hj
end TK
