/-! a PACKET comes: the reference -/
/-- no ROUTE by the station itself -/
def aSe (A : aT) : Prop := ∀ s, s < 6 → ∀ d, d < 6 → A.1 40 (36 * s + (6 * d + s)) = 0
theorem bsr_in (f : Nat → Int32) : ∀ (k i : Nat) (b m : Int32), i + k ≤ 6 → ¬ m < 9 → (b = -1 ∨ ∃ n : Nat, n < 6 ∧ b = nI n ∧ 9 < f n) → (bsr f k i b m = -1 ∨ ∃ n : Nat, n < 6 ∧ bsr f k i b m = nI n ∧ 9 < f n)
  | 0, i, b, m, _, _, h => h
  | k + 1, i, b, m, hi, hm, h => by
    show (if m < f i then bsr f k (i + 1) (nI i) (f i) else bsr f k (i + 1) b m) = -1 ∨ ∃ n : Nat, n < 6 ∧ (if m < f i then bsr f k (i + 1) (nI i) (f i) else bsr f k (i + 1) b m) = nI n ∧ 9 < f n
    by_cases e : m < f i
    · rw [if_pos e]
      have h9 : 9 < f i := Int32.lt_of_le_of_lt (Int32.not_lt.mp hm) e
      exact bsr_in f k (i + 1) (nI i) (f i) (by omega) (fun q => Int32.lt_irrefl (Int32.lt_trans h9 q)) (Or.inr ⟨i, by omega, rfl, h9⟩)
    · rw [if_neg e]
      exact bsr_in f k (i + 1) b m (by omega) hm h
theorem bst_in {A : aT} (hA : aSe A) {s d : Nat} (hs : s < 6) (hd : d < 6) : bst A s d = -1 ∨ ∃ n : Nat, n < 6 ∧ n ≠ s ∧ bst A s d = nI n := by
  rcases bsr_in (fun n => A.1 40 (36 * s + (6 * d + n))) 6 0 (-1) 9 (by omega) (by decide) (Or.inl rfl) with h | ⟨n, h1, h2, h3⟩
  · exact Or.inl h
  · refine Or.inr ⟨n, h1, fun e => ?_, h2⟩
    subst e
    rw [hA n hs d hd] at h3
    exact absurd h3 (by decide)
def rPk (I : mIm) (p : List Int32) : Prop := I 1282 77 = nI p.length ∧ fL I 1343 0 p ∧ p.length ≤ 16
section PM
variable {S : mS} {I I0 : mIm} {A : aT} {s o : Nat} {p : List Int32}
theorem rPk_x {J : mIm} {B : aT} (h : rPk I0 p) (hX : RX I0 J B) : J 1282 77 = nI p.length ∧ fL J 1343 0 p := by
  refine ⟨by rw [hX.2.2 77 (by decide)]; exact h.1, ?_⟩
  have := h.2.1
  unfold fL at this ⊢
  rw [hX.2.1 1343 (by unfold kp; omega)]
  exact this
theorem lp_keep (hS : Shp S) {Q : Unit → mIm → Prop} (Ib : mIm) {at0 : Nat} (hat : at0 + 15 ≤ 720) (h7 : Ib 1282 77 = nI p.length) (h4 : 4 < p.length) (h16 : p.length ≤ 16) (v : Int32) (fin : pw S (x_gR (xcp Ib 1343 4 1345 (at0 + 3) (p.length - 4), S) 10 (some 1282) 78 fun a5 => x_aI (xcp Ib 1343 4 1345 (at0 + 3) (p.length - 4), S) 0 a5 v fun x6 => x_wI (xcp Ib 1343 4 1345 (at0 + 3) (p.length - 4), S) a5 v (x6 + (1 : Int32)) fun M => some ((), M)) Q) : ∀ (k n i : Nat), i + k = p.length - 4 → k < n → pw S (q_M_keepLetter_75 n (some 1282) v (nI at0) (nI i) (xcp Ib 1343 4 1345 (at0 + 3) i, S)) Q
  | k, 0, i, _, h => by omega
  | k, n + 1, i, hk, hn => by
    have hp := aK_in hS (r := 1343) (t := 0) (n := 16) rfl
    have hb := aK_in hS (r := 1345) (t := 0) (n := 720) rfl
    show pw S (q_M_keepLetter_75_b _ _ _ _ _ _) _
    unfold q_M_keepLetter_75_b
    refine pw_gI (M_k hS) ?_
    rw [xcp_n (by decide), h7, show nI i + 4 = nI (i + 4) from nI_add i 4]
    by_cases hi : i + 4 < p.length
    · refine pw_t (nI_lt hi (by omega)) (rM hS (r := 1345) rfl (rM hS (r := 1343) rfl (pw_aI (4 + i) hp.1 (nI_add 4 i) (by omega) (by omega) (pw_wI (at0 + 3 + i) hb.1 ?_ (by omega) (by omega) ?_))))
      · rw [show nI at0 + 3 = nI (at0 + 3) from nI_add at0 3, nI_add]
      · rw [show nI i + 1 = nI (i + 1) from nI_1 i, xcp_s (xcp_rd (Or.inl (by decide)))]
        exact lp_keep hS Ib hat h7 h4 h16 v fin (k - 1) n (i + 1) (by omega) (by omega)
    · have : i = p.length - 4 := by omega
      subst this
      exact pw_f (nI_nlt (by omega) (by omega)) fin
theorem r_keepLetter (hS : Shp S) (hs : s < 6) (hX : RX I0 I A) (hp : rPk I0 p) (h4 : 4 < p.length) : pw S (q_M_keepLetter (some 1282) (nI s) (I, S)) (RU I0 (aPml A s p)) := by
  have hm := M_k hS
  have hz := aK_in hS (r := 1344) (t := 0) (n := 6) rfl
  have hb := aK_in hS (r := 1345) (t := 0) (n := 720) rfl
  have hk := aK_in hS (r := 1343) (t := 0) (n := 16) rfl
  obtain ⟨m1, m2, m3⟩ := (hX.1.2.2.2.1 s hs).2.1
  obtain ⟨p7, pL⟩ := rPk_x hp hX
  have h16 := hp.2.2
  unfold q_M_keepLetter aPml
  refine rM hS (r := 1344) rfl (pw_aI s hz.1 rfl (by omega) (by omega) ?_)
  rw [m1]
  by_cases hq : (A.2.2 1 s).length < 8
  · rw [if_pos hq]
    refine pw_f (fun e => by have := (nI_eq (b := 8) (by omega) (by decide)).mp e; omega) (rM hS (r := 1344) rfl (pw_aI s hz.1 rfl (by omega) (by omega) (pw_lt ?_)))
    rw [m1]
    have hat : (120 : Int32) * nI s + 15 * nI (A.2.2 1 s).length = nI (120 * s + 15 * (A.2.2 1 s).length) := by
      rw [show (15 : Int32) * nI (A.2.2 1 s).length = nI (15 * (A.2.2 1 s).length) from pk_mul 15 _]
      exact n_lin 120 s _
    rw [hat]
    generalize hz0 : (A.2.2 1 s).length = z at *
    generalize hq0 : 120 * s + 15 * z = at0
    have hab : at0 + 15 ≤ 720 := by omega
    have hp0 : ∀ k, k < p.length → I 1343 k = pA p k := fun k hk => by
      have := pL k p[k] (List.getElem?_eq_getElem hk)
      rw [Nat.zero_add] at this
      rw [this]
      unfold pA
      rw [List.getElem?_eq_getElem hk]
      rfl
    refine rM hS (r := 1345) rfl (rM hS (r := 1343) rfl (pw_aI 0 hk.1 rfl (by omega) (by omega) (pw_wI at0 hb.1 rfl (by omega) (by omega) ?_)))
    refine rM hS (r := 1345) rfl (rM hS (r := 1343) rfl (pw_aI 3 hk.1 rfl (by omega) (by omega) (pw_wI (at0 + 1) hb.1 (nI_add at0 1) (by omega) (by omega) ?_)))
    refine rM hS (r := 1345) rfl (pw_gI hm (pw_wI (at0 + 2) hb.1 (nI_add at0 2) (by omega) (by omega) ?_))
    rw [iput_n _ _ _ (by decide), iput_n _ _ _ (by decide), iput_n _ _ _ (by decide), hp0 0 (by omega), hp0 3 (by omega), p7, show nI p.length - 4 = nI (p.length - 4) from pk_sub (b := 4) (by omega)]
    have lp := lp_keep (Q := RU I0 (aQ A 1 s (A.2.2 1 s ++ [mlOf p]))) hS (iput (iput (iput I 1345 at0 (pA p 0)) 1345 (at0 + 1) (pA p 3)) 1345 (at0 + 2) (nI (p.length - 4))) (p := p) (at0 := at0) hab (by rw [iput_n _ _ _ (by decide), iput_n _ _ _ (by decide), iput_n _ _ _ (by decide)]; exact p7) h4 h16 (nI s) ?_ (p.length - 4) mFU 0 (by omega) (by unfold mFU; omega)
    · rw [xcp_0] at lp
      exact lp
    · refine rM hS (r := 1344) rfl (pw_aI s hz.1 rfl (by omega) (by omega) (pw_wI s hz.1 rfl (by omega) (by omega) (pw_ret ?_)))
      have e1 : ∀ r, r ≠ 1345 → xcp (iput (iput (iput I 1345 at0 (pA p 0)) 1345 (at0 + 1) (pA p 3)) 1345 (at0 + 2) (nI (p.length - 4))) 1343 4 1345 (at0 + 3) (p.length - 4) r = I r := fun r hr => by rw [xcp_n hr, iput_n _ _ _ hr, iput_n _ _ _ hr, iput_n _ _ _ hr]
      have e2 : ∀ j, (j < at0 ∨ at0 + 15 ≤ j) → xcp (iput (iput (iput I 1345 at0 (pA p 0)) 1345 (at0 + 1) (pA p 3)) 1345 (at0 + 2) (nI (p.length - 4))) 1343 4 1345 (at0 + 3) (p.length - 4) 1345 j = I 1345 j := fun j hj => by rw [xcp_out (by omega), iput_j _ _ _ (by omega), iput_j _ _ _ (by omega), iput_j _ _ _ (by omega)]
      have e3 : xcp (iput (iput (iput I 1345 at0 (pA p 0)) 1345 (at0 + 1) (pA p 3)) 1345 (at0 + 2) (nI (p.length - 4))) 1343 4 1345 (at0 + 3) (p.length - 4) 1345 at0 = pA p 0 := by rw [xcp_out (by omega), iput_j _ _ _ (by omega), iput_j _ _ _ (by omega), iput_s]
      have e4 : xcp (iput (iput (iput I 1345 at0 (pA p 0)) 1345 (at0 + 1) (pA p 3)) 1345 (at0 + 2) (nI (p.length - 4))) 1343 4 1345 (at0 + 3) (p.length - 4) 1345 (at0 + 1) = pA p 3 := by rw [xcp_out (by omega), iput_j _ _ _ (by omega), iput_s]
      have e5 : xcp (iput (iput (iput I 1345 at0 (pA p 0)) 1345 (at0 + 1) (pA p 3)) 1345 (at0 + 2) (nI (p.length - 4))) 1343 4 1345 (at0 + 3) (p.length - 4) 1345 (at0 + 2) = nI (p.length - 4) := by rw [xcp_out (by omega), iput_s]
      have e6 : fL (xcp (iput (iput (iput I 1345 at0 (pA p 0)) 1345 (at0 + 1) (pA p 3)) 1345 (at0 + 2) (nI (p.length - 4))) 1343 4 1345 (at0 + 3) (p.length - 4)) 1345 (at0 + 3) (p.drop 4) := by
        have h1 : fL (iput (iput (iput I 1345 at0 (pA p 0)) 1345 (at0 + 1) (pA p 3)) 1345 (at0 + 2) (nI (p.length - 4))) 1343 4 (p.drop 4) := by
          have := fL_drop (c := 4) pL
          rw [Nat.zero_add] at this
          unfold fL at this ⊢
          rw [iput_n _ _ _ (by decide), iput_n _ _ _ (by decide), iput_n _ _ _ (by decide)]
          exact this
        have := xcp_fL (r1 := 1345) (a1 := at0 + 3) (n := p.length - 4) h1
        rw [List.take_of_length_le (by rw [List.length_drop]; omega)] at this
        exact this
      generalize xcp (iput (iput (iput I 1345 at0 (pA p 0)) 1345 (at0 + 1) (pA p 3)) 1345 (at0 + 2) (nI (p.length - 4))) 1343 4 1345 (at0 + 3) (p.length - 4) = K at *
      rw [e1 1344 (by decide), m1, show nI z + 1 = nI (z + 1) from nI_1 z]
      refine RX_ml hX (fun r a b => by rw [iput_n _ _ _ a, e1 r b]) (fun t ht => ?_)
      by_cases hts : t = s
      · subst hts
        unfold rMl fL
        rw [aQ_s, iput_s, iput_n _ _ _ (by decide), List.length_append, hz0]
        refine ⟨rfl, by show z + 1 ≤ 8; omega, fun i l hl => ?_⟩
        by_cases hi : i < z
        · rw [List.getElem?_append_left (by omega)] at hl
          obtain ⟨a', b', t', q0, q1, q2, q3, q4, q5⟩ := m3 i l hl
          refine ⟨a', b', t', q0, q1, ?_, ?_, ?_, fun j x hj => ?_⟩
          · rw [e2 _ (by omega)]; exact q2
          · rw [e2 _ (by omega)]; exact q3
          · rw [e2 _ (by omega)]; exact q4
          · have hj2 := (List.getElem?_eq_some_iff.mp hj).1
            rw [e2 _ (by omega)]
            exact q5 j x hj
        · rw [List.getElem?_append_right (by omega)] at hl
          have hzl := (List.getElem?_eq_some_iff.mp hl).1
          simp at hzl
          have hie : i = z := by omega
          subst hie
          rw [hz0, Nat.sub_self] at hl
          cases hl
          have g0 : ∀ k, k < p.length → pA p k = (p[k]?).getD 0 := fun k hk => by
            unfold pA
            rw [List.getElem?_eq_getElem hk]
            rfl
          refine ⟨_, _, _, rfl, by rw [List.length_drop]; omega, ?_, ?_, ?_, ?_⟩
          · rw [hq0, e3, g0 0 (by omega)]
          · rw [hq0, e4, g0 3 (by omega)]
          · rw [hq0, e5, List.length_drop]
          · rw [hq0]; exact e6
      · obtain ⟨w1, w2, w3⟩ := (hX.1.2.2.2.1 t ht).2.1
        unfold rMl fL
        rw [aQ_k _ _ _ hts, iput_j _ _ _ hts, iput_n _ _ _ (by decide), e1 1344 (by decide)]
        refine ⟨w1, w2, fun i l hl => ?_⟩
        have hi := (List.getElem?_eq_some_iff.mp hl).1
        obtain ⟨a', b', t', q0, q1, q2, q3, q4, q5⟩ := w3 i l hl
        refine ⟨a', b', t', q0, q1, ?_, ?_, ?_, fun j x hj => ?_⟩
        · rw [e2 _ (by omega)]; exact q2
        · rw [e2 _ (by omega)]; exact q3
        · rw [e2 _ (by omega)]; exact q4
        · have hj2 := (List.getElem?_eq_some_iff.mp hj).1
          rw [e2 _ (by omega)]
          exact q5 j x hj
  · rw [if_neg hq]
    have h8 : (A.2.2 1 s).length = 8 := by omega
    rw [h8]
    exact pw_t rfl (pw_cv hm (p_M_count hS hX hs 4 (by decide)) (fun _ J g => pw_ret g))
theorem lp_pack (hS : Shp S) {Q : Unit → mIm → Prop} (Ib : mIm) {l k0 : Nat} (hl : l < 36) (hk0 : k0 < 6) (h7 : Ib 1282 77 = nI p.length) (h16 : p.length ≤ 16) (fin : pw S (x_gR (xcp Ib 1343 0 1334 (96 * l + 16 * k0) p.length, S) 10 (some 1282) 67 fun a5 => x_lt ((((96 : Int32) * nI l) + ((16 : Int32) * nI k0)) + (2 : Int32)) fun x6 => x_aI (xcp Ib 1343 0 1334 (96 * l + 16 * k0) p.length, S) 0 a5 x6 fun x7 => x_wI (xcp Ib 1343 0 1334 (96 * l + 16 * k0) p.length, S) a5 x6 (x7 - (1 : Int32)) fun M => x_gR M 10 (some 1282) 69 fun a8 => x_aI M 0 a8 (nI l) fun x9 => x_wI M a8 (nI l) (x9 + (1 : Int32)) fun M => some ((), M)) Q) : ∀ (k n i : Nat), i + k = p.length → k < n → pw S (q_M_packetComes_182 n (some 1282) (nI l) (nI k0) (nI i) (xcp Ib 1343 0 1334 (96 * l + 16 * k0) i, S)) Q
  | k, 0, i, _, h => by omega
  | k, n + 1, i, hk, hn => by
    have hp := aK_in hS (r := 1343) (t := 0) (n := 16) rfl
    have hb := aK_in hS (r := 1334) (t := 0) (n := 3456) rfl
    show pw S (q_M_packetComes_182_b _ _ _ _ _ _) _
    unfold q_M_packetComes_182_b
    refine pw_gI (M_k hS) ?_
    rw [xcp_n (by decide), h7]
    by_cases hi : i < p.length
    · refine pw_t (nI_lt hi (by omega)) (rM hS (r := 1334) rfl (rM hS (r := 1343) rfl (pw_aI i hp.1 rfl (by omega) (by omega) (pw_wI (96 * l + 16 * k0 + i) hb.1 ?_ (by omega) (by omega) ?_))))
      · rw [show (16 : Int32) * nI k0 = nI (16 * k0) from pk_mul 16 k0, show (96 : Int32) * nI l + nI (16 * k0) = nI (96 * l + 16 * k0) from n_lin 96 l _, nI_add]
      · rw [show nI i + 1 = nI (i + 1) from nI_1 i]
        have := xcp_rd (I := Ib) (r0 := 1343) (a0 := 0) (r1 := 1334) (a1 := 96 * l + 16 * k0) (n := i) (Or.inl (by decide))
        rw [Nat.zero_add] at this
        rw [xcp_s (by rw [Nat.zero_add]; exact this)]
        exact lp_pack hS Ib hl hk0 h7 h16 fin (k - 1) n (i + 1) (by omega) (by omega)
    · have : i = p.length := by omega
      subst this
      exact pw_f (nI_nlt (by omega) (by omega)) fin
theorem r_pc134 (hS : Shp S) (hl : isLk s o) (hX : RX I0 I A) (hp : rPk I0 p) (h4 : 4 < p.length) : pw S (q_M_packetComes_134 (some 1282) (nI s) (nI (6 * s + o)) (I, S)) (RU I0 (aP2 A s o p)) := by
  have hm := M_k hS
  obtain ⟨h1, h2, h3⟩ := hl
  have hl : 6 * s + o < 36 := by omega
  have hz := aK_in hS (r := 1336) (t := 0) (n := 36) rfl
  have hg := aK_in hS (r := 1335) (t := 0) (n := 216) rfl
  have hb := aK_in hS (r := 1334) (t := 0) (n := 3456) rfl
  obtain ⟨m1, m2, m3⟩ := (hX.1.2.2.2.2 _ hl).2.2.1
  obtain ⟨p7, pL⟩ := rPk_x hp hX
  have h16 := hp.2.2
  unfold q_M_packetComes_134 aP2
  refine rM hS (r := 1336) rfl (pw_aI (6 * s + o) hz.1 rfl (by omega) (by omega) ?_)
  rw [m1]
  by_cases hq : (A.2.2 2 (6 * s + o)).length < 6
  · rw [if_pos hq]
    refine pw_f (fun e => by have := (nI_eq (b := 6) (by omega) (by decide)).mp e; omega) (rM hS (r := 1336) rfl (pw_aI (6 * s + o) hz.1 rfl (by omega) (by omega) (rM hS (r := 1335) rfl (pw_gI hm ?_))))
    rw [m1, p7]
    generalize hz0 : (A.2.2 2 (6 * s + o)).length = z at *
    generalize hl0 : 6 * s + o = l at *
    refine pw_wI (6 * l + z) hg.1 (n_lin 6 l z) (by omega) (by omega) ?_
    have lp := lp_pack (Q := RU I0 (aQ A 2 l (A.2.2 2 l ++ [p.set 2 (pA p 2 + -1)]))) hS (iput I 1335 (6 * l + z) (nI p.length)) (p := p) (l := l) (k0 := z) hl hq (by rw [iput_n _ _ _ (by decide)]; exact p7) h16 ?_ p.length mFU 0 (by omega) (by unfold mFU; omega)
    · rw [xcp_0] at lp
      exact lp
    · have pL2 : fL (iput I 1335 (6 * l + z) (nI p.length)) 1343 0 p := by
        unfold fL at pL ⊢
        rw [iput_n _ _ _ (by decide)]
        exact pL
      have e3 := xcp_fL (r1 := 1334) (a1 := 96 * l + 16 * z) (n := p.length) pL2
      rw [List.take_length] at e3
      have e1 : ∀ r, r ≠ 1334 → r ≠ 1335 → xcp (iput I 1335 (6 * l + z) (nI p.length)) 1343 0 1334 (96 * l + 16 * z) p.length r = I r := fun r a b => by rw [xcp_n a, iput_n _ _ _ b]
      have e2 : ∀ j, (j < 96 * l + 16 * z ∨ 96 * l + 16 * z + 16 ≤ j) → xcp (iput I 1335 (6 * l + z) (nI p.length)) 1343 0 1334 (96 * l + 16 * z) p.length 1334 j = I 1334 j := fun j hj => by rw [xcp_out (by omega), iput_n _ _ _ (by decide)]
      have e4 : ∀ j, j ≠ 6 * l + z → xcp (iput I 1335 (6 * l + z) (nI p.length)) 1343 0 1334 (96 * l + 16 * z) p.length 1335 j = I 1335 j := fun j hj => by rw [xcp_n (by decide), iput_j _ _ _ hj]
      have e5 : xcp (iput I 1335 (6 * l + z) (nI p.length)) 1343 0 1334 (96 * l + 16 * z) p.length 1335 (6 * l + z) = nI p.length := by rw [xcp_n (by decide), iput_s]
      generalize xcp (iput I 1335 (6 * l + z) (nI p.length)) 1343 0 1334 (96 * l + 16 * z) p.length = K at *
      have ei : ((96 : Int32) * nI l + 16 * nI z) + 2 = nI (96 * l + 16 * z + 2) := by
        rw [show (16 : Int32) * nI z = nI (16 * z) from pk_mul 16 z, show (96 : Int32) * nI l + nI (16 * z) = nI (96 * l + 16 * z) from n_lin 96 l _]
        exact nI_add _ 2
      refine rM hS (r := 1334) rfl (pw_lt (pw_aI (96 * l + 16 * z + 2) hb.1 ei (by omega) (by omega) (pw_wI (96 * l + 16 * z + 2) hb.1 ei (by omega) (by omega) ?_)))
      refine rM hS (r := 1336) rfl (pw_aI l hz.1 rfl (by omega) (by omega) (pw_wI l hz.1 rfl (by omega) (by omega) (pw_ret ?_)))
      have e6 : K 1334 (96 * l + 16 * z + 2) = pA p 2 := by
        rw [e3 2 p[2] (List.getElem?_eq_getElem (by omega))]
        unfold pA
        rw [List.getElem?_eq_getElem (by omega)]
        rfl
      rw [e6, iput_n _ _ _ (by decide), e1 1336 (by decide) (by decide), m1, show nI z + 1 = nI (z + 1) from nI_1 z]
      refine RX_2 hX hl (fun r a b c => ?_) (fun k hk => ?_) (fun j hj => ?_) (fun j hj => ?_) ?_ ?_ (fun i q hq2 => ?_)
      · rw [iput_n _ _ _ c, iput_n _ _ _ a, e1 r a b]
      · rw [iput_j _ _ _ hk, iput_n _ _ _ (by decide), e1 1336 (by decide) (by decide)]
      · rw [iput_n _ _ _ (by decide), iput_n _ _ _ (by decide), e4 j (by omega)]
      · rw [iput_n _ _ _ (by decide), iput_j _ _ _ (by omega), e2 j (by omega)]
      · rw [iput_s, List.length_append, hz0]; rfl
      · rw [List.length_append, hz0]; show z + 1 ≤ 6; omega
      · unfold fL
        rw [iput_n _ _ _ (by decide), iput_n K (96 * l + 16 * z + 2) _ (a := 1335) (by decide), iput_n _ _ _ (by decide)]
        by_cases hi : i < z
        · rw [List.getElem?_append_left (by omega)] at hq2
          obtain ⟨z1, z2, z3⟩ := m3 i q hq2
          refine ⟨z1, by rw [e4 _ (by omega)]; exact z2, fun j x hj => ?_⟩
          have hj2 := (List.getElem?_eq_some_iff.mp hj).1
          rw [iput_j _ _ _ (by omega), e2 _ (by omega)]
          exact z3 j x hj
        · rw [List.getElem?_append_right (by omega)] at hq2
          have hzl := (List.getElem?_eq_some_iff.mp hq2).1
          simp at hzl
          have hie : i = z := by omega
          subst hie
          rw [hz0, Nat.sub_self] at hq2
          cases hq2
          rw [List.length_set]
          refine ⟨h16, e5, fun j x hj => ?_⟩
          by_cases hj2 : j = 2
          · subst hj2
            rw [List.getElem?_set_self (by omega)] at hj
            have e9 := Option.some.inj hj
            rw [iput_s, ← e9, Int32.sub_eq_add_neg]
          · rw [List.getElem?_set_ne (by omega)] at hj
            rw [iput_j _ _ _ (by omega)]
            exact e3 j x hj
  · rw [if_neg hq]
    have h8 : (A.2.2 2 (6 * s + o)).length = 6 := by omega
    rw [h8]
    exact pw_t rfl (pw_cv hm (p_M_count hS hX h1 4 (by decide)) (fun _ J g => pw_ret g))
theorem r_packetComes (hS : Shp S) (hs : s < 6) (hX : RX I0 I A) (hV : aVi A) (hC : aCs A) (hE : aSe A) (hp : rPk I0 p) : pw S (q_M_packetComes (some 1282) (nI s) (I, S)) (RU I0 (aPkt A s p)) := by
  have hm := M_k hS
  have hk := aK_in hS (r := 1343) (t := 0) (n := 16) rfl
  obtain ⟨p7, pL⟩ := rPk_x hp hX
  have h16 := hp.2.2
  have bad : ∀ R, R = cnt A s 3 → pw S (q_M_packetComes_37 (some 1282) (nI s) (I, S)) (RU I0 R) := by
    intro R hR
    subst hR
    exact pw_cv hm (p_M_count hS hX hs 3 (by decide)) (fun _ J g => pw_ret g)
  have hp0 : ∀ k, k < p.length → I 1343 k = pA p k := fun k hk => by
    have := pL k p[k] (List.getElem?_eq_getElem hk)
    rw [Nat.zero_add] at this
    rw [this]
    unfold pA
    rw [List.getElem?_eq_getElem hk]
    rfl
  unfold q_M_packetComes aPkt
  refine pw_gI hm ?_
  rw [p7]
  refine pw_cl (p_M_in _ _ _) (fun v I2 h => ?_)
  obtain ⟨rfl, rfl⟩ := h
  rw [show inV (nI p.length) 5 16 = _ from inV_nat (a := 5) (b := 16) (by omega) (by decide) (by decide)]
  by_cases e1 : 4 < p.length ∧ p.length ≤ 16
  · rw [if_pos e1, if_pos (show 5 ≤ p.length ∧ p.length ≤ 16 by omega)]
    refine pw_f (by decide) (rM hS (r := 1343) rfl (pw_aI 0 hk.1 rfl (by omega) (by omega) ?_))
    rw [hp0 0 (by omega)]
    refine pw_cl (p_M_isStation _) (fun v I2 h => ?_)
    obtain ⟨rfl, rfl⟩ := h
    cases hs0 : sta (pA p 0) with
    | none => exact pw_t (by simp) (bad _ rfl)
    | some d0 =>
      refine pw_f (by simp) (rM hS (r := 1343) rfl (pw_aI 1 hk.1 rfl (by omega) (by omega) ?_))
      rw [hp0 1 (by omega)]
      refine pw_cl (p_M_isStation _) (fun v I2 h => ?_)
      obtain ⟨rfl, rfl⟩ := h
      cases hs1 : sta (pA p 1) with
      | none => exact pw_t (by simp) (bad _ rfl)
      | some d =>
        obtain ⟨hd, ed⟩ := sta_s hs1
        dsimp only
        refine pw_f (by simp) (rM hS (r := 1343) rfl (pw_aI 1 hk.1 rfl (by omega) (by omega) ?_))
        rw [hp0 1 (by omega), ed]
        by_cases e3 : d = s
        · rw [if_pos e3, if_pos (show nI d = nI s by rw [e3])]
          exact pw_cv hm (r_keepLetter hS hs hX hp e1.1) (fun _ J g => pw_ret g)
        · rw [if_neg e3, if_neg (show ¬ nI d = nI s from fun q => e3 ((nI_eq (by omega) (by omega)).mp q))]
          refine rM hS (r := 1343) rfl (pw_aI 2 hk.1 rfl (by omega) (by omega) ?_)
          rw [hp0 2 (by omega)]
          have no : pw S (q_M_packetComes_81 (some 1282) (nI s) (-1) (I2, S)) (RU I0 (cnt A s 4)) := by
            unfold q_M_packetComes_81
            exact pw_t rfl (pw_cv hm (p_M_count hS hX hs 4 (by decide)) (fun _ J g => pw_ret g))
          refine pw_if (fun e4 => ?_) (fun e4 => ?_)
          · rw [if_pos e4]
            exact no
          · rw [if_neg e4]
            refine pw_cv hm (p_M_bestTo hS hX.1 hs hd) (fun v I3 h => ?_)
            obtain ⟨rfl, rfl⟩ := h
            unfold aPgo
            rcases bst_in hE hs hd with eb | ⟨n, hn, hns, eb⟩
            · rw [eb]
              exact no
            · rw [eb, sta_nI hn]
              dsimp only
              rw [if_neg hns]
              have hl : isLk s n := ⟨hs, hn, hns⟩
              unfold q_M_packetComes_81
              refine pw_f (fun e => ?_) (pw_lt ?_)
              · have : nI n < 0 := by rw [e]; decide
                exact nI_pos (by omega) this
              · rw [show (6 : Int32) * nI s + nI n = nI (6 * s + n) from n_lin 6 s n]
                refine rM hS (r := 1316) rfl (gA hS hX (6 * s + n) rfl rfl (by omega) ?_)
                unfold aP1
                by_cases e6 : A.1 20 (6 * s + n) = 0
                · rw [if_pos e6, if_pos e6]
                  refine rM hS (r := 1317) rfl (sA hS hX (6 * s + n) rfl (by decide) rfl (by omega) (fun J1 g1 => rM hS (r := 1318) rfl (sA hS g1 (6 * s + n) rfl (by decide) rfl (by omega) (fun J2 g2 => ?_))))
                  refine pw_cv hm (r_called hS hl g2 (aVi_I (aVi_I hV (Or.inr (by decide))) (Or.inr (by decide))) (aCs_I (aCs_I hC (Or.inl (by decide))) (Or.inl (by decide)))) (fun _ J3 g3 => ?_)
                  exact r_pc134 hS hl g3 hp e1.1
                · rw [if_neg e6, if_neg e6]
                  exact r_pc134 hS hl hX hp e1.1
  · rw [if_neg e1, if_neg (show ¬ (5 ≤ p.length ∧ p.length ≤ 16) by omega)]
    exact pw_t rfl (bad _ rfl)
end PM
