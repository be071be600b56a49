/-! what may be said: the reference -/
theorem aQ_self (A : aT) (f k : Nat) : aQ A f k (A.2.2 f k) = A := by
  unfold aQ
  refine Prod.ext rfl (Prod.ext rfl ?_)
  dsimp only
  funext g i
  by_cases hg : g = f
  · subst hg
    rw [mrow_s]
    by_cases hi : i = k
    · subst hi
      rw [mrow_s]
    · rw [mrow_n _ _ hi]
  · rw [mrow_n _ _ hg]
theorem aQ_comm (A : aT) {f g k i : Nat} (x y : List (List Int32)) (h : f ≠ g) : aQ (aQ A f k x) g i y = aQ (aQ A g i y) f k x := by
  unfold aQ mrow
  simp
  funext a
  by_cases h1 : a = g
  · subst h1
    simp [Ne.symm h]
  · by_cases h2 : a = f
    · subst h2
      simp [h]
    · simp [h1, h2]
section MR
variable {S : mS} {I J I0 : mIm} {A : aT} {s o l : Nat}
theorem do12 (hS : Shp S) (hl : l < 36) (Ib : mIm) {z n : Nat} (hz : z + n ≤ 200) (h31 : Ib 1331 l = nI z) {Q : Unit → mIm → Prop} (fin : Q () (xcp Ib 1330 (200 * l + n) 1330 (200 * l) z)) : ∀ (f m i : Nat), i + f = z → f < m → pw S (q_M_dropOut_12 m (some 1282) (nI l) (nI n) (nI i) (xcp Ib 1330 (200 * l + n) 1330 (200 * l) i, S)) Q
  | f, 0, i, _, h => by omega
  | f, m + 1, i, hi, hm => by
    have a31 := aK_in hS (r := 1331) (t := 0) (n := 36) rfl
    have a30 := aK_in hS (r := 1330) (t := 0) (n := 7200) rfl
    show pw S (q_M_dropOut_12_b _ _ _ _ _ _) _
    unfold q_M_dropOut_12_b
    refine rM hS (r := 1331) rfl (pw_aI l a31.1 rfl (by omega) (by omega) ?_)
    rw [xcp_n (by decide), h31]
    by_cases hlt : i < z
    · have ix : (200 : Int32) * nI l + nI i = nI (200 * l + i) := n_lin 200 l i
      refine pw_t (nI_lt hlt (by omega)) (rM hS (r := 1330) rfl (rM hS (r := 1330) rfl (pw_aI (200 * l + n + i) a30.1 (by rw [ix, nI_add]; congr 1; omega) (by omega) (by omega) (pw_wI (200 * l + i) a30.1 ix (by omega) (by omega) ?_))))
      rw [show nI i + 1 = nI (i + 1) from nI_1 i, xcp_s (xcp_rd (Or.inr (by omega)))]
      exact do12 hS hl Ib hz h31 fin (f - 1) m (i + 1) (by omega) (by omega)
    · have : i = z := by omega
      subst this
      exact pw_f (nI_nlt (by omega) (by omega)) (pw_ret fin)
theorem r_dropOut (hS : Shp S) (hl : l < 36) (hX : RX I0 I A) {n : Nat} (hn : n ≤ (A.2.1 10 l).length) : pw S (q_M_dropOut (some 1282) (nI l) (nI n) (I, S)) (fun _ J => RX I0 J (aL A 10 l ((A.2.1 10 l).drop n)) ∧ ∀ r, r ≠ 1330 → r ≠ 1331 → J r = I r) := by
  have a31 := aK_in hS (r := 1331) (t := 0) (n := 36) rfl
  obtain ⟨⟨i1, i2, i3⟩, -⟩ := hX.1.2.2.2.2 l hl
  unfold q_M_dropOut
  refine rM hS (r := 1331) rfl (pw_aI l a31.1 rfl (by omega) (by omega) (pw_wI l a31.1 rfl (by omega) (by omega) ?_))
  rw [i1, show nI (A.2.1 10 l).length - nI n = nI ((A.2.1 10 l).length - n) from pk_sub hn]
  have := do12 hS hl (iput I 1331 l (nI ((A.2.1 10 l).length - n))) (z := (A.2.1 10 l).length - n) (n := n) (by omega) (iput_s _ _ _ _) (Q := fun _ J => RX I0 J (aL A 10 l ((A.2.1 10 l).drop n)) ∧ ∀ r, r ≠ 1330 → r ≠ 1331 → J r = I r) ?_ ((A.2.1 10 l).length - n) mFU 0 (by omega) (by unfold mFU; omega)
  · rw [xcp_0] at this
    exact this
  · refine ⟨RX_10 hX hl (fun r a b => by rw [xcp_n a, iput_n _ _ _ b]) (fun k hk => by rw [xcp_n (by decide), iput_j _ _ _ hk]) (fun j hj => by rw [xcp_out (by omega), iput_n _ _ _ (by decide)]) (by rw [xcp_n (by decide), iput_s, List.length_drop]) (by rw [List.length_drop]; omega) (fun j x hj => ?_), fun r a b => by rw [xcp_n a, iput_n _ _ _ b]⟩
    have hlt := (List.getElem?_eq_some_iff.mp hj).1
    rw [List.length_drop] at hlt
    rw [List.getElem?_drop] at hj
    rw [xcp_in (by omega), iput_n _ _ _ (by decide), Nat.add_assoc]
    exact i3 _ x hj
theorem dp48 (hS : Shp S) (hl : l < 36) {k : Nat} (hk : k < 5) (K : mIm) {Q : Unit → mIm → Prop} {r12 : Option Nat → Int32 → Int32 → mM → Option (Unit × mM)} (cont : pw S (r12 (some 1282) (nI l) (nI (k + 1)) (xcp K 1334 (96 * l + 16 * k + 16) 1334 (96 * l + 16 * k) 16, S)) Q) : ∀ (f m i : Nat), i + f = 16 → f < m → pw S (q_M_dropPacket_48 r12 m (some 1282) (nI l) (nI k) (nI i) (xcp K 1334 (96 * l + 16 * k + 16) 1334 (96 * l + 16 * k) i, S)) Q
  | f, 0, i, _, h => by omega
  | 0, m + 1, i, hi, hm => by
    show pw S (q_M_dropPacket_48_b _ _ _ _ _ _ _) _
    unfold q_M_dropPacket_48_b
    have e : i = 16 := by omega
    subst e
    rw [show nI k + 1 = nI (k + 1) from nI_1 k]
    exact pw_f (nI_nlt (a := 16) (b := 16) (by omega) (by decide)) cont
  | f + 1, m + 1, i, hi, hm => by
    have a34 := aK_in hS (r := 1334) (t := 0) (n := 3456) rfl
    show pw S (q_M_dropPacket_48_b _ _ _ _ _ _ _) _
    unfold q_M_dropPacket_48_b
    have ix : ((96 : Int32) * nI l) + ((16 : Int32) * nI k) = nI (96 * l + 16 * k) := by rw [show (16 : Int32) * nI k = nI (16 * k) from pk_mul 16 k]; exact n_lin 96 l (16 * k)
    rw [ix, show nI (96 * l + 16 * k) + (16 : Int32) = nI (96 * l + 16 * k + 16) from nI_add _ 16]
    refine pw_t (nI_lt (b := 16) (by omega) (by decide)) (rM hS (r := 1334) rfl (rM hS (r := 1334) rfl (pw_aI (96 * l + 16 * k + 16 + i) a34.1 (nI_add _ _) (by omega) (by omega) (pw_wI (96 * l + 16 * k + i) a34.1 (nI_add _ _) (by omega) (by omega) ?_))))
    rw [show nI i + 1 = nI (i + 1) from nI_1 i, xcp_s (xcp_rd (Or.inr (by omega)))]
    exact dp48 hS hl hk K cont f m (i + 1) (by omega) (by omega)
theorem dp12 (hS : Shp S) (hl : l < 36) (Ib : mIm) {z : Nat} (hz : z ≤ 5) (h36 : Ib 1336 l = nI z) {Q : Unit → mIm → Prop} (fin : ∀ J, (∀ r, r ≠ 1334 → r ≠ 1335 → J r = Ib r) → J 1334 = xcp Ib 1334 (96 * l + 16) 1334 (96 * l) (16 * z) 1334 → J 1335 = xcp Ib 1335 (6 * l + 1) 1335 (6 * l) z 1335 → Q () J) : ∀ (f m i : Nat) (J : mIm), i + f = z → f < m → (∀ r, r ≠ 1334 → r ≠ 1335 → J r = Ib r) → J 1334 = xcp Ib 1334 (96 * l + 16) 1334 (96 * l) (16 * i) 1334 → J 1335 = xcp Ib 1335 (6 * l + 1) 1335 (6 * l) i 1335 → pw S (q_M_dropPacket_12 m (some 1282) (nI l) (nI i) (J, S)) Q
  | f, 0, i, J, _, h, _, _, _ => by omega
  | f, m + 1, i, J, hi, hm, h1, h2, h3 => by
    have a36 := aK_in hS (r := 1336) (t := 0) (n := 36) rfl
    have a35 := aK_in hS (r := 1335) (t := 0) (n := 216) rfl
    show pw S (q_M_dropPacket_12_b _ _ _ _ _) _
    unfold q_M_dropPacket_12_b
    refine rM hS (r := 1336) rfl (pw_aI l a36.1 rfl (by omega) (by omega) ?_)
    rw [h1 1336 (by decide) (by decide), h36]
    by_cases hlt : i < z
    · have ix : (6 : Int32) * nI l + nI i = nI (6 * l + i) := n_lin 6 l i
      refine pw_t (nI_lt hlt (by omega)) (rM hS (r := 1335) rfl (rM hS (r := 1335) rfl (pw_aI (6 * l + 1 + i) a35.1 (by rw [ix, show nI (6 * l + i) + (1 : Int32) = nI (6 * l + i + 1) from nI_1 _]; congr 1; omega) (by omega) (by omega) (pw_wI (6 * l + i) a35.1 ix (by omega) (by omega) ?_))))
      have := dp48 (r12 := q_M_dropPacket_12 m) (k := i) hS hl (by omega) (iput J 1335 (6 * l + i) (J 1335 (6 * l + 1 + i))) (Q := Q) ?_ 16 mFU 0 (by omega) (by unfold mFU; omega)
      · rw [xcp_0] at this
        exact this
      · refine dp12 hS hl Ib hz h36 fin (f - 1) m (i + 1) _ (by omega) (by omega) (fun r a b => by rw [xcp_n a, iput_n _ _ _ b]; exact h1 r a b) ?_ ?_
        · funext j
          by_cases q : j < 96 * l + 16 * i
          · rw [xcp_out (by omega), iput_n _ _ _ (by decide), h2]
            by_cases q2 : j < 96 * l
            · rw [xcp_out (by omega), xcp_out (by omega)]
            · obtain ⟨d, rfl⟩ : ∃ d, j = 96 * l + d := ⟨j - 96 * l, by omega⟩
              rw [xcp_in (by omega), xcp_in (by omega)]
          · by_cases q2 : j < 96 * l + 16 * (i + 1)
            · obtain ⟨d, rfl⟩ : ∃ d, j = 96 * l + 16 * i + d := ⟨j - (96 * l + 16 * i), by omega⟩
              rw [xcp_in (by omega), iput_n _ _ _ (by decide), h2, xcp_out (by omega), show 96 * l + 16 * i + d = 96 * l + (16 * i + d) by omega, xcp_in (by omega)]
              congr 1
              omega
            · rw [xcp_out (by omega), iput_n _ _ _ (by decide), h2, xcp_out (by omega), xcp_out (by omega)]
        · rw [xcp_n (by decide), iput_row (K := xcp Ib 1335 (6 * l + 1) 1335 (6 * l) i) h3, h3, xcp_s (xcp_rd (Or.inr (by omega)))]
    · have : i = z := by omega
      subst this
      exact pw_f (nI_nlt (by omega) (by omega)) (pw_ret (fin J h1 h2 h3))
theorem r_dropPacket (hS : Shp S) (hl : l < 36) (hX : RX I0 I A) {p : List Int32} {rest : List (List Int32)} (hp : A.2.2 2 l = p :: rest) : pw S (q_M_dropPacket (some 1282) (nI l) (I, S)) (fun _ J => RX I0 J (aQ A 2 l rest) ∧ ∀ r, r ≠ 1334 → r ≠ 1335 → r ≠ 1336 → J r = I r) := by
  have a36 := aK_in hS (r := 1336) (t := 0) (n := 36) rfl
  obtain ⟨-, -, ⟨i1, i2, i3⟩, -⟩ := hX.1.2.2.2.2 l hl
  rw [hp, List.length_cons] at i1 i2
  rw [hp] at i3
  unfold q_M_dropPacket
  refine rM hS (r := 1336) rfl (pw_aI l a36.1 rfl (by omega) (by omega) (pw_wI l a36.1 rfl (by omega) (by omega) ?_))
  rw [i1, show nI (rest.length + 1) - (1 : Int32) = nI rest.length from nI_pred _]
  refine dp12 hS hl (iput I 1336 l (nI rest.length)) (z := rest.length) (by omega) (iput_s _ _ _ _) (fun J j1 j2 j3 => ?_) rest.length mFU 0 _ (by omega) (by unfold mFU; omega) (fun _ _ _ => rfl) (by rw [Nat.mul_zero, xcp_0]) (by rw [xcp_0])
  refine ⟨RX_2 hX hl (fun r a b c => by rw [j1 r a b, iput_n _ _ _ c]) (fun k hk => by rw [j1 1336 (by decide) (by decide), iput_j _ _ _ hk]) (fun j hj => by rw [j3, xcp_out (by omega), iput_n _ _ _ (by decide)]) (fun j hj => by rw [j2, xcp_out (by omega), iput_n _ _ _ (by decide)]) (by rw [j1 1336 (by decide) (by decide), iput_s]) (by omega) (fun i q hq => ?_), fun r a b c => by rw [j1 r a b, iput_n _ _ _ c]⟩
  have hlt := (List.getElem?_eq_some_iff.mp hq).1
  obtain ⟨w1, w2, w3⟩ := i3 (i + 1) q (by rw [List.getElem?_cons_succ]; exact hq)
  refine ⟨w1, ?_, fun j x hj => ?_⟩
  · rw [j3, xcp_in (by omega), iput_n _ _ _ (by decide), ← w2]
    congr 1
    omega
  · have hlt2 := (List.getElem?_eq_some_iff.mp hj).1
    rw [j2, show 96 * l + 16 * i + j = 96 * l + (16 * i + j) by omega, xcp_in (by omega), iput_n _ _ _ (by decide), ← w3 j x hj]
    congr 1
    omega
theorem r_338 (hS : Shp S) (hl : isLk s o) (hX : RX I0 I A) : pw S (q_M_maySay_338 (some 1282) (nI s) (nI (6 * s + o)) (I, S)) (RU I0 (if A.1 31 (6 * s + o) = 0 then A else @ite _ (wrk A (6 * s + o)) (dcW A _) (aCk4 A s o) A)) := by
  obtain ⟨h1, h2, h3⟩ := id hl
  have hl36 : 6 * s + o < 36 := by omega
  have c10 : ¬ (1 : Int32) = 0 := by decide
  have i2 := (hX.1.2.2.2.2 _ hl36).1.2.1
  have i4 := (hX.1.2.2.2.2 _ hl36).2.2.1.2.1
  have i6 := (hX.1.2.2.2.2 _ hl36).2.2.2.2.1
  have m370 : ∀ x : Int32, (x = 1 ∧ wrk A (6 * s + o)) ∨ (x = 0 ∧ ¬ wrk A (6 * s + o)) → pw S (q_M_maySay_370 (some 1282) (nI s) (nI (6 * s + o)) x (I, S)) (RU I0 (if A.1 31 (6 * s + o) = 0 then A else @ite _ (wrk A (6 * s + o)) (dcW A _) (aCk4 A s o) A)) := by
    intro x hx
    unfold q_M_maySay_370
    refine rM hS (r := 1327) rfl (gA hS hX (r := 1327) (6 * s + o) rfl rfl hl36 ?_)
    by_cases e1 : A.1 31 (6 * s + o) = 0
    · refine pw_t e1 ?_
      rw [if_pos e1]
      exact pw_ret hX
    · refine pw_f e1 ?_
      rw [if_neg e1]
      refine rM hS (r := 1323) rfl (gA hS hX (r := 1323) (6 * s + o) rfl rfl hl36 ?_)
      rcases hx with ⟨rfl, hw⟩ | ⟨rfl, hw⟩
      · rw [@if_pos _ (dcW A _) hw]
        unfold aCk4
        by_cases e2 : A.1 27 (6 * s + o) = 0
        · refine pw_t e2 (pw_f c10 ?_)
          rw [if_pos e2]
          exact rM hS (r := 1323) rfl (rM hS (r := 1294) rfl (gA hS hX (r := 1294) (9 * s + 4) rfl (n_lin 9 s 4) (by omega) (sA hS hX (r := 1323) (6 * s + o) rfl (by decide) rfl hl36 (fun J g => pw_ret g))))
        · refine pw_f e2 ?_
          rw [if_neg e2]
          exact pw_ret hX
      · rw [@if_neg _ (dcW A _) hw]
        exact pw_if (fun _ => pw_t rfl (pw_ret hX)) (fun _ => pw_ret hX)
  unfold q_M_maySay_338 q_M_maySay_365
  refine rM hS (r := 1336) rfl (g2 hS hX hl36 ?_)
  by_cases e1 : 0 < (A.2.2 2 (6 * s + o)).length
  · exact pw_t (n_gt0 e1 (by omega)) (m370 1 (Or.inl ⟨rfl, Or.inr (Or.inl e1)⟩))
  · refine pw_f (by rw [show (A.2.2 2 (6 * s + o)).length = 0 by omega]; decide) (rM hS (r := 1331) rfl (g10 hS hX hl36 ?_))
    by_cases e2 : 0 < (A.2.1 10 (6 * s + o)).length
    · exact pw_t (n_gt0 e2 (by omega)) (m370 1 (Or.inl ⟨rfl, Or.inl e2⟩))
    · refine pw_f (by rw [show (A.2.1 10 (6 * s + o)).length = 0 by omega]; decide) (rM hS (r := 1340) rfl (g3 hS hX hl36 ?_))
      by_cases e3 : 0 < (A.2.2 3 (6 * s + o)).length
      · exact pw_t (n_gt0 e3 (by omega)) (m370 1 (Or.inl ⟨rfl, Or.inr (Or.inr e3)⟩))
      · refine pw_f (by rw [show (A.2.2 3 (6 * s + o)).length = 0 by omega]; decide) (m370 0 (Or.inr ⟨rfl, fun q => ?_⟩))
        rcases q with q | q | q
        · exact e2 q
        · exact e1 q
        · exact e3 q
/-- what was just laid down is the next of those SENT -/
theorem RX_lay (hX : RX I0 I A) (hl : l < 36) {x : Int32} {t : List Int32} (hn : (A.2.2 3 l).length < 4) (ht : t.length ≤ 16) (e : ∀ r, r ≠ 1340 → J r = I r) (e1 : ∀ k, k ≠ l → J 1340 k = I 1340 k) (h1 : J 1340 l = nI ((A.2.2 3 l).length + 1)) (w9 : I 1339 (4 * l + (A.2.2 3 l).length) = x) (w8 : I 1338 (4 * l + (A.2.2 3 l).length) = nI t.length) (w7 : fL I 1337 (64 * l + 16 * (A.2.2 3 l).length) t) : RX I0 J (aQ A 3 l (A.2.2 3 l ++ [x :: t])) := by
  obtain ⟨-, -, -, ⟨i1, i2, i3⟩⟩ := hX.1.2.2.2.2 l hl
  refine RX_3 hX hl (fun r _ _ _ a => e r a) e1 (fun j _ => ⟨by rw [e 1338 (by decide)], by rw [e 1339 (by decide)]⟩) (fun j _ => by rw [e 1337 (by decide)]) (by rw [h1, List.length_append]; rfl) (by rw [List.length_append]; show _ + 1 ≤ 4; omega) (fun i p hp => ?_)
  unfold fL
  rw [e 1339 (by decide), e 1338 (by decide), e 1337 (by decide)]
  by_cases q : i < (A.2.2 3 l).length
  · rw [List.getElem?_append_left q] at hp
    exact i3 i p hp
  · rw [List.getElem?_append_right (by omega)] at hp
    have hz := (List.getElem?_eq_some_iff.mp hp).1
    simp at hz
    have hie : i = (A.2.2 3 l).length := by omega
    subst hie
    rw [Nat.sub_self] at hp
    have hpe : x :: t = p := Option.some.inj hp
    exact ⟨x, t, hpe.symm, ht, w9, w8, w7⟩
/-- beyond those SENT all may change -/
theorem RX_bey (hX : RX I0 I A) (hl : l < 36) (hn : (A.2.2 3 l).length < 4) (e : ∀ r, r ≠ 1337 → r ≠ 1338 → r ≠ 1339 → J r = I r) (e8 : ∀ j, j ≠ 4 * l + (A.2.2 3 l).length → J 1338 j = I 1338 j ∧ J 1339 j = I 1339 j) (e7 : ∀ j, (j < 64 * l + 16 * (A.2.2 3 l).length ∨ 64 * l + 16 * (A.2.2 3 l).length + 16 ≤ j) → J 1337 j = I 1337 j) : RX I0 J A := by
  obtain ⟨-, -, -, ⟨i1, i2, i3⟩⟩ := hX.1.2.2.2.2 l hl
  have := RX_3 (J := J) (x := A.2.2 3 l) hX hl (fun r a b c _ => e r a b c) (fun k hk => by rw [e 1340 (by decide) (by decide) (by decide)]) (fun j hj => e8 j (by omega)) (fun j hj => e7 j (by omega)) (by rw [e 1340 (by decide) (by decide) (by decide)]; exact i1) i2 (fun i p hp => ?_)
  · rw [aQ_self] at this
    exact this
  · have hlt := (List.getElem?_eq_some_iff.mp hp).1
    obtain ⟨a, t, w1, w2, w3, w4, w5⟩ := i3 i p hp
    refine ⟨a, t, w1, w2, ?_, ?_, fun j x hj => ?_⟩
    · rw [(e8 _ (by omega)).2]; exact w3
    · rw [(e8 _ (by omega)).1]; exact w4
    · have hlt2 := (List.getElem?_eq_some_iff.mp hj).1
      rw [e7 _ (by omega)]
      exact w5 j x hj
theorem ms193 (hS : Shp S) (hl : l < 36) (Ib : mIm) {k n r0 a0 : Nat} (hk : k < 4) (hn : n ≤ 16) {p : Int32} (hp : (p = 0 ∧ r0 = 1330 ∧ a0 = 200 * l) ∨ (p = 1 ∧ r0 = 1334 ∧ a0 = 96 * l)) (a b : Int32) {Q : Unit → mIm → Prop} (fin : pw S (if p = 0 then x_cv (xcp Ib r0 a0 1337 (64 * l + 16 * k) n, S) 10 (some 1282) (q_M_dropOut (some 1282) (nI l) (nI n) (xcp Ib r0 a0 1337 (64 * l + 16 * k) n, S)) fun _ M => q_M_maySay_277 (some 1282) a b (nI l) (nI k) M else x_cv (xcp Ib r0 a0 1337 (64 * l + 16 * k) n, S) 10 (some 1282) (q_M_dropPacket (some 1282) (nI l) (xcp Ib r0 a0 1337 (64 * l + 16 * k) n, S)) fun _ M => q_M_maySay_277 (some 1282) a b (nI l) (nI k) M) Q) : ∀ (f m i : Nat), i + f = n → f < m → pw S (q_M_maySay_193 m (some 1282) a b (nI l) (nI k) p (nI n) (nI i) (xcp Ib r0 a0 1337 (64 * l + 16 * k) i, S)) Q
  | f, 0, i, _, h => by omega
  | f, m + 1, i, hi, hm => by
    have a37 := aK_in hS (r := 1337) (t := 0) (n := 2304) rfl
    have a30 := aK_in hS (r := 1330) (t := 0) (n := 7200) rfl
    have a34 := aK_in hS (r := 1334) (t := 0) (n := 3456) rfl
    have c10 : ¬ (1 : Int32) = 0 := by decide
    show pw S (q_M_maySay_193_b _ _ _ _ _ _ _ _ _ _) _
    unfold q_M_maySay_193_b
    by_cases hlt : i < n
    · have ix : (((64 : Int32) * nI l) + ((16 : Int32) * nI k)) + nI i = nI (64 * l + 16 * k + i) := by
        rw [show (16 : Int32) * nI k = nI (16 * k) from pk_mul 16 k, show (64 : Int32) * nI l + nI (16 * k) = nI (64 * l + 16 * k) from n_lin 64 l (16 * k), nI_add]
      refine pw_t (nI_lt hlt (by omega)) (rM hS (r := 1337) rfl ?_)
      unfold q_M_maySay_250
      rcases hp with ⟨rfl, rfl, rfl⟩ | ⟨rfl, rfl, rfl⟩
      · refine pw_t rfl (rM hS (r := 1330) rfl (pw_aI (200 * l + i) a30.1 (n_lin 200 l i) (by omega) (by omega) (pw_wI (64 * l + 16 * k + i) a37.1 ix (by omega) (by omega) ?_)))
        rw [show nI i + 1 = nI (i + 1) from nI_1 i, xcp_s (xcp_rd (Or.inl (by decide)))]
        exact ms193 hS hl Ib hk hn (Or.inl ⟨rfl, rfl, rfl⟩) a b fin (f - 1) m (i + 1) (by omega) (by omega)
      · refine pw_f c10 (rM hS (r := 1334) rfl (pw_aI (96 * l + i) a34.1 (n_lin 96 l i) (by omega) (by omega) (pw_wI (64 * l + 16 * k + i) a37.1 ix (by omega) (by omega) ?_)))
        rw [show nI i + 1 = nI (i + 1) from nI_1 i, xcp_s (xcp_rd (Or.inl (by decide)))]
        exact ms193 hS hl Ib hk hn (Or.inr ⟨rfl, rfl, rfl⟩) a b fin (f - 1) m (i + 1) (by omega) (by omega)
    · have : i = n := by omega
      subst this
      exact pw_f (nI_nlt (by omega) (by omega)) fin
end MR
