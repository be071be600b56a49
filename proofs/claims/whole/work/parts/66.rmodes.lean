/-! the reference's links: lists, reset, goDown, clear, called -/
section RL
variable {S : mS} {β : Type} {Q : β → mIm → Prop} {I I0 : mIm} {A B : aT} {s o l : Nat}
/-- a link's lists are others -/
theorem RX_lk {J : mIm} (hX : RX I0 I A) (e : ∀ r, (r < 1330 ∨ 1340 < r) → J r = I r) (hB1 : B.1 = A.1) (hB2 : ∀ f, f ≠ 10 → f ≠ 11 → B.2.1 f = A.2.1 f) (hB3 : ∀ f, f ≠ 2 → f ≠ 3 → B.2.2 f = A.2.2 f) (h : ∀ k, k < 36 → rLk J B k) : RX I0 J B := by
  obtain ⟨⟨h1, h2, h3, h4, h5⟩, h6, h7⟩ := hX
  refine ⟨⟨?_, fun q hq k hk => ?_, fun k hk => ?_, fun t ht => ⟨?_, ?_, ?_⟩, h⟩, fun r hr => ?_, fun j hj => ?_⟩
  · unfold rGl fL at h1 ⊢
    rw [hB1, hB2 0 (by decide) (by decide), hB2 1 (by decide) (by decide), e 1282 (by decide), e 1283 (by decide), e 1284 (by decide)]
    exact h1
  · obtain ⟨o1, o2, o3, o4, o5, o6, o7, o8, o9, o10, o11, o12, o13, o14, o15, o16, o17, o18, o19, o20, o21, o22, o23, o24, o25, o26, o27, o28⟩ := rTab_o q hq
    rw [e q.1 (by omega), hB1]
    exact h2 q hq k hk
  · have := h3 k hk
    unfold rRv fL at this ⊢
    rw [hB1, hB2 2 (by decide) (by decide), hB2 3 (by decide) (by decide), e 1291 (by decide), e 1292 (by decide), e 1289 (by decide), e 1290 (by decide)]
    exact this
  · have := (h4 t ht).1
    unfold rQu fL at this ⊢
    rw [hB3 0 (by decide) (by decide), e 1296 (by decide), e 1297 (by decide), e 1298 (by decide)]
    exact this
  · have := (h4 t ht).2.1
    unfold rMl fL at this ⊢
    rw [hB3 1 (by decide) (by decide), e 1344 (by decide), e 1345 (by decide)]
    exact this
  · have := (h4 t ht).2.2
    unfold rSn fL at this ⊢
    rw [hB1, hB2 4 (by decide) (by decide), hB2 5 (by decide) (by decide), e 1303 (by decide), e 1304 (by decide), e 1305 (by decide), e 1307 (by decide), e 1308 (by decide)]
    exact this
  · rw [e r (by unfold kp at hr; omega)]
    exact h6 r hr
  · rw [e 1282 (by decide)]
    exact h7 j hj
/-- an OUTBOX is another one -/
theorem RX_10 {J : mIm} {x : List Int32} (hX : RX I0 I A) (hl : l < 36) (e : ∀ r, r ≠ 1330 → r ≠ 1331 → J r = I r) (e1 : ∀ k, k ≠ l → J 1331 k = I 1331 k) (e2 : ∀ j, (j < 200 * l ∨ 200 * l + 200 ≤ j) → J 1330 j = I 1330 j) (h1 : J 1331 l = nI x.length) (h2 : x.length ≤ 200) (h3 : fL J 1330 (200 * l) x) : RX I0 J (aL A 10 l x) := by
  refine RX_lk hX (fun r hr => e r (by omega) (by omega)) rfl (fun f a _ => mrow_n _ _ a) (fun _ _ _ => rfl) (fun k hk => ?_)
  obtain ⟨⟨a1, a2, a3⟩, a4, a5, a6⟩ := hX.1.2.2.2.2 k hk
  refine ⟨?_, ?_, ?_, ?_⟩
  · by_cases hkl : k = l
    · subst hkl
      rw [aL_s]
      exact ⟨h1, h2, h3⟩
    · rw [aL_k _ _ _ hkl, e1 k hkl]
      refine ⟨a1, a2, fun j y hj => ?_⟩
      have := (List.getElem?_eq_some_iff.mp hj).1
      rw [e2 _ (by omega)]
      exact a3 j y hj
  · unfold fL at a4 ⊢
    rw [aL_f _ _ _ _ (by decide), e 1333 (by decide) (by decide), e 1332 (by decide) (by decide)]
    exact a4
  · unfold fL at a5 ⊢
    rw [e 1336 (by decide) (by decide), e 1335 (by decide) (by decide), e 1334 (by decide) (by decide)]
    exact a5
  · unfold fL at a6 ⊢
    rw [e 1340 (by decide) (by decide), e 1339 (by decide) (by decide), e 1338 (by decide) (by decide), e 1337 (by decide) (by decide)]
    exact a6
/-- an INBOX is another one -/
theorem RX_11 {J : mIm} {x : List Int32} (hX : RX I0 I A) (hl : l < 36) (e : ∀ r, r ≠ 1332 → r ≠ 1333 → J r = I r) (e1 : ∀ k, k ≠ l → J 1333 k = I 1333 k) (e2 : ∀ j, (j < 64 * l ∨ 64 * l + 64 ≤ j) → J 1332 j = I 1332 j) (h1 : J 1333 l = nI x.length) (h2 : x.length ≤ 64) (h3 : fL J 1332 (64 * l) x) : RX I0 J (aL A 11 l x) := by
  refine RX_lk hX (fun r hr => e r (by omega) (by omega)) rfl (fun f _ a => mrow_n _ _ a) (fun _ _ _ => rfl) (fun k hk => ?_)
  obtain ⟨a4, ⟨a1, a2, a3⟩, a5, a6⟩ := hX.1.2.2.2.2 k hk
  refine ⟨?_, ?_, ?_, ?_⟩
  · unfold fL at a4 ⊢
    rw [aL_f _ _ _ _ (by decide), e 1331 (by decide) (by decide), e 1330 (by decide) (by decide)]
    exact a4
  · by_cases hkl : k = l
    · subst hkl
      rw [aL_s]
      exact ⟨h1, h2, h3⟩
    · rw [aL_k _ _ _ hkl, e1 k hkl]
      refine ⟨a1, a2, fun j y hj => ?_⟩
      have := (List.getElem?_eq_some_iff.mp hj).1
      rw [e2 _ (by omega)]
      exact a3 j y hj
  · unfold fL at a5 ⊢
    rw [e 1336 (by decide) (by decide), e 1335 (by decide) (by decide), e 1334 (by decide) (by decide)]
    exact a5
  · unfold fL at a6 ⊢
    rw [e 1340 (by decide) (by decide), e 1339 (by decide) (by decide), e 1338 (by decide) (by decide), e 1337 (by decide) (by decide)]
    exact a6
/-- PACKETS are others -/
theorem RX_2 {J : mIm} {x : List (List Int32)} (hX : RX I0 I A) (hl : l < 36) (e : ∀ r, r ≠ 1334 → r ≠ 1335 → r ≠ 1336 → J r = I r) (e1 : ∀ k, k ≠ l → J 1336 k = I 1336 k) (e2 : ∀ j, (j < 6 * l ∨ 6 * l + 6 ≤ j) → J 1335 j = I 1335 j) (e3 : ∀ j, (j < 96 * l ∨ 96 * l + 96 ≤ j) → J 1334 j = I 1334 j) (h1 : J 1336 l = nI x.length) (h2 : x.length ≤ 6) (h3 : ∀ (i : Nat) (p : List Int32), x[i]? = some p → p.length ≤ 16 ∧ J 1335 (6 * l + i) = nI p.length ∧ fL J 1334 (96 * l + 16 * i) p) : RX I0 J (aQ A 2 l x) := by
  refine RX_lk hX (fun r hr => e r (by omega) (by omega) (by omega)) rfl (fun _ _ _ => rfl) (fun f a _ => mrow_n _ _ a) (fun k hk => ?_)
  obtain ⟨a4, a5, ⟨a1, a2, a3⟩, a6⟩ := hX.1.2.2.2.2 k hk
  refine ⟨?_, ?_, ?_, ?_⟩
  · unfold fL at a4 ⊢
    rw [e 1331 (by decide) (by decide) (by decide), e 1330 (by decide) (by decide) (by decide)]
    exact a4
  · unfold fL at a5 ⊢
    rw [e 1333 (by decide) (by decide) (by decide), e 1332 (by decide) (by decide) (by decide)]
    exact a5
  · by_cases hkl : k = l
    · subst hkl
      rw [aQ_s]
      exact ⟨h1, h2, h3⟩
    · rw [aQ_k _ _ _ hkl, e1 k hkl]
      refine ⟨a1, a2, fun i p hp => ?_⟩
      obtain ⟨z1, z2, z3⟩ := a3 i p hp
      have hi := (List.getElem?_eq_some_iff.mp hp).1
      refine ⟨z1, by rw [e2 _ (by omega)]; exact z2, fun j y hj => ?_⟩
      have := (List.getElem?_eq_some_iff.mp hj).1
      rw [e3 _ (by omega)]
      exact z3 j y hj
  · unfold fL at a6 ⊢
    rw [aQ_f _ _ _ _ (by decide), e 1340 (by decide) (by decide) (by decide), e 1339 (by decide) (by decide) (by decide), e 1338 (by decide) (by decide) (by decide), e 1337 (by decide) (by decide) (by decide)]
    exact a6
/-- SENT are others -/
theorem RX_3 {J : mIm} {x : List (List Int32)} (hX : RX I0 I A) (hl : l < 36) (e : ∀ r, r ≠ 1337 → r ≠ 1338 → r ≠ 1339 → r ≠ 1340 → J r = I r) (e1 : ∀ k, k ≠ l → J 1340 k = I 1340 k) (e2 : ∀ j, (j < 4 * l ∨ 4 * l + 4 ≤ j) → J 1338 j = I 1338 j ∧ J 1339 j = I 1339 j) (e3 : ∀ j, (j < 64 * l ∨ 64 * l + 64 ≤ j) → J 1337 j = I 1337 j) (h1 : J 1340 l = nI x.length) (h2 : x.length ≤ 4) (h3 : ∀ (i : Nat) (p : List Int32), x[i]? = some p → ∃ (a : Int32) (t : List Int32), p = a :: t ∧ t.length ≤ 16 ∧ J 1339 (4 * l + i) = a ∧ J 1338 (4 * l + i) = nI t.length ∧ fL J 1337 (64 * l + 16 * i) t) : RX I0 J (aQ A 3 l x) := by
  refine RX_lk hX (fun r hr => e r (by omega) (by omega) (by omega) (by omega)) rfl (fun _ _ _ => rfl) (fun f _ a => mrow_n _ _ a) (fun k hk => ?_)
  obtain ⟨a4, a5, a6, ⟨a1, a2, a3⟩⟩ := hX.1.2.2.2.2 k hk
  refine ⟨?_, ?_, ?_, ?_⟩
  · unfold fL at a4 ⊢
    rw [e 1331 (by decide) (by decide) (by decide) (by decide), e 1330 (by decide) (by decide) (by decide) (by decide)]
    exact a4
  · unfold fL at a5 ⊢
    rw [e 1333 (by decide) (by decide) (by decide) (by decide), e 1332 (by decide) (by decide) (by decide) (by decide)]
    exact a5
  · unfold fL at a6 ⊢
    rw [aQ_f _ _ _ _ (by decide), e 1336 (by decide) (by decide) (by decide) (by decide), e 1335 (by decide) (by decide) (by decide) (by decide), e 1334 (by decide) (by decide) (by decide) (by decide)]
    exact a6
  · by_cases hkl : k = l
    · subst hkl
      rw [aQ_s]
      exact ⟨h1, h2, h3⟩
    · rw [aQ_k _ _ _ hkl, e1 k hkl]
      refine ⟨a1, a2, fun i p hp => ?_⟩
      obtain ⟨a, t, z0, z1, z2, z3, z4⟩ := a3 i p hp
      have hi := (List.getElem?_eq_some_iff.mp hp).1
      refine ⟨a, t, z0, z1, by rw [(e2 _ (by omega)).2]; exact z2, by rw [(e2 _ (by omega)).1]; exact z3, fun j y hj => ?_⟩
      have := (List.getElem?_eq_some_iff.mp hj).1
      rw [e3 _ (by omega)]
      exact z4 j y hj
theorem z10 (hS : Shp S) (hX : RX I0 I A) (hl : l < 36) {k : mM → Option (β × mM)} (h : ∀ J, RX I0 J (aL A 10 l []) → pw S (k (J, S)) Q) : pw S (x_wI (I, S) (some 1331) (nI l) 0 k) Q := by
  have hk := aK_in hS (r := 1331) (t := 0) (n := 36) rfl
  exact pw_wI l hk.1 rfl (by omega) (by omega) (h _ (RX_10 hX hl (fun r _ a => iput_n _ _ _ a) (fun k hk => iput_j _ _ _ hk) (fun j _ => by rw [iput_n _ _ _ (by decide)]) (iput_s _ _ _ _) (by decide) (fun j y hj => by simp at hj)))
theorem z11 (hS : Shp S) (hX : RX I0 I A) (hl : l < 36) {k : mM → Option (β × mM)} (h : ∀ J, RX I0 J (aL A 11 l []) → pw S (k (J, S)) Q) : pw S (x_wI (I, S) (some 1333) (nI l) 0 k) Q := by
  have hk := aK_in hS (r := 1333) (t := 0) (n := 36) rfl
  exact pw_wI l hk.1 rfl (by omega) (by omega) (h _ (RX_11 hX hl (fun r _ a => iput_n _ _ _ a) (fun k hk => iput_j _ _ _ hk) (fun j _ => by rw [iput_n _ _ _ (by decide)]) (iput_s _ _ _ _) (by decide) (fun j y hj => by simp at hj)))
theorem z2 (hS : Shp S) (hX : RX I0 I A) (hl : l < 36) {k : mM → Option (β × mM)} (h : ∀ J, RX I0 J (aQ A 2 l []) → pw S (k (J, S)) Q) : pw S (x_wI (I, S) (some 1336) (nI l) 0 k) Q := by
  have hk := aK_in hS (r := 1336) (t := 0) (n := 36) rfl
  exact pw_wI l hk.1 rfl (by omega) (by omega) (h _ (RX_2 hX hl (fun r _ _ a => iput_n _ _ _ a) (fun k hk => iput_j _ _ _ hk) (fun j _ => by rw [iput_n _ _ _ (by decide)]) (fun j _ => by rw [iput_n _ _ _ (by decide)]) (iput_s _ _ _ _) (by decide) (fun j y hj => by simp at hj)))
theorem z3 (hS : Shp S) (hX : RX I0 I A) (hl : l < 36) {k : mM → Option (β × mM)} (h : ∀ J, RX I0 J (aQ A 3 l []) → pw S (k (J, S)) Q) : pw S (x_wI (I, S) (some 1340) (nI l) 0 k) Q := by
  have hk := aK_in hS (r := 1340) (t := 0) (n := 36) rfl
  exact pw_wI l hk.1 rfl (by omega) (by omega) (h _ (RX_3 hX hl (fun r _ _ _ a => iput_n _ _ _ a) (fun k hk => iput_j _ _ _ hk) (fun j _ => ⟨by rw [iput_n _ _ _ (by decide)], by rw [iput_n _ _ _ (by decide)]⟩) (fun j _ => by rw [iput_n _ _ _ (by decide)]) (iput_s _ _ _ _) (by decide) (fun j y hj => by simp at hj)))
/-! sizes are read -/
theorem g10 (hS : Shp S) (hX : RX I0 I A) (hl : l < 36) {k : Int32 → Option (β × mM)} (h : pw S (k (nI (A.2.1 10 l).length)) Q) : pw S (x_aI (I, S) 0 (some 1331) (nI l) k) Q := by
  have hk := aK_in hS (r := 1331) (t := 0) (n := 36) rfl
  refine pw_aI l hk.1 rfl (by omega) (by omega) ?_
  rw [(hX.1.2.2.2.2 l hl).1.1]
  exact h
theorem g11 (hS : Shp S) (hX : RX I0 I A) (hl : l < 36) {k : Int32 → Option (β × mM)} (h : pw S (k (nI (A.2.1 11 l).length)) Q) : pw S (x_aI (I, S) 0 (some 1333) (nI l) k) Q := by
  have hk := aK_in hS (r := 1333) (t := 0) (n := 36) rfl
  refine pw_aI l hk.1 rfl (by omega) (by omega) ?_
  rw [(hX.1.2.2.2.2 l hl).2.1.1]
  exact h
theorem g2 (hS : Shp S) (hX : RX I0 I A) (hl : l < 36) {k : Int32 → Option (β × mM)} (h : pw S (k (nI (A.2.2 2 l).length)) Q) : pw S (x_aI (I, S) 0 (some 1336) (nI l) k) Q := by
  have hk := aK_in hS (r := 1336) (t := 0) (n := 36) rfl
  refine pw_aI l hk.1 rfl (by omega) (by omega) ?_
  rw [(hX.1.2.2.2.2 l hl).2.2.1.1]
  exact h
theorem g3 (hS : Shp S) (hX : RX I0 I A) (hl : l < 36) {k : Int32 → Option (β × mM)} (h : pw S (k (nI (A.2.2 3 l).length)) Q) : pw S (x_aI (I, S) 0 (some 1340) (nI l) k) Q := by
  have hk := aK_in hS (r := 1340) (t := 0) (n := 36) rfl
  refine pw_aI l hk.1 rfl (by omega) (by omega) ?_
  rw [(hX.1.2.2.2.2 l hl).2.2.2.1]
  exact h
theorem g0 (hS : Shp S) (hX : RX I0 I A) (hs : s < 6) {k : Int32 → Option (β × mM)} (h : pw S (k (nI (A.2.2 0 s).length)) Q) : pw S (x_aI (I, S) 0 (some 1296) (nI s) k) Q := by
  have hk := aK_in hS (r := 1296) (t := 0) (n := 6) rfl
  refine pw_aI s hk.1 rfl (by omega) (by omega) ?_
  rw [(hX.1.2.2.2.1 s hs).1.1]
  exact h
theorem r_reset (hS : Shp S) (hl : l < 36) (hX : RX I0 I A) : pw S (q_M_reset (some 1282) (nI l) (I, S)) (RU I0 (aRst A l 0)) := by
  unfold q_M_reset aRst
  refine rM hS (r := 1316) rfl (sA hS hX l rfl (by decide) rfl (by omega) (fun J1 g1 => ?_))
  refine rM hS (r := 1320) rfl (sA hS g1 l rfl (by decide) rfl (by omega) (fun J2 g2 => ?_))
  refine rM hS (r := 1321) rfl (sA hS g2 l rfl (by decide) rfl (by omega) (fun J3 g3 => ?_))
  refine rM hS (r := 1322) rfl (sA hS g3 l rfl (by decide) rfl (by omega) (fun J4 g4 => ?_))
  refine rM hS (r := 1323) rfl (sA hS g4 l rfl (by decide) rfl (by omega) (fun J5 g5 => ?_))
  refine rM hS (r := 1324) rfl (sA hS g5 l rfl (by decide) rfl (by omega) (fun J6 g6 => ?_))
  refine rM hS (r := 1325) rfl (sZ hS g6 l rfl (by decide) (Or.inl rfl) rfl (by omega) (fun J7 g7 => ?_))
  refine rM hS (r := 1326) rfl (sZ hS g7 l rfl (by decide) (Or.inl rfl) rfl (by omega) (fun J8 g8 => ?_))
  refine rM hS (r := 1327) rfl (sZ hS g8 l rfl (by decide) (Or.inl rfl) rfl (by omega) (fun J9 g9 => ?_))
  refine rM hS (r := 1331) rfl (z10 hS g9 hl (fun J10 g10 => ?_))
  exact rM hS (r := 1340) rfl (z3 hS g10 hl (fun J11 g11 => pw_ret g11))
theorem r_goDown (hS : Shp S) (hl : l < 36) (hX : RX I0 I A) : pw S (q_M_goDown (some 1282) (nI l) (I, S)) (RU I0 (aDn A l)) := by
  unfold q_M_goDown aDn
  exact pw_cv (M_k hS) (r_reset hS hl hX) (fun _ J g => rM hS (r := 1336) rfl (z2 hS g hl (fun J2 g2 => pw_ret g2)))
theorem r_clear (hS : Shp S) (hl : l < 36) (hX : RX I0 I A) : pw S (q_M_clear (some 1282) (nI l) (I, S)) (RU I0 (aL (aRst A l 0) 11 l [])) := by
  unfold q_M_clear
  exact pw_cv (M_k hS) (r_reset hS hl hX) (fun _ J g => rM hS (r := 1333) rfl (z11 hS g hl (fun J2 g2 => pw_ret g2)))
/-- CALLS is 0 .. 127 -/
def aCs (A : aT) : Prop := ∀ l, l < 36 → ∃ n : Nat, n < 128 ∧ A.1 32 l = nI n
theorem and_127 {n : Nat} (h : n < 256) : nI n &&& 127 = nI (n % 128) := by
  rw [pk_and (nI n) (m := 127) 7 (by decide)]
  congr 1
  rw [show (nI n).toBitVec.toNat = n from by
    show (BitVec.ofNat 32 n).toNat = n
    rw [BitVec.toNat_ofNat]
    exact Nat.mod_eq_of_lt (by omega)]
theorem r_called (hS : Shp S) (hl : isLk s o) (hX : RX I0 I A) (hV : aVi A) (hC : aCs A) : pw S (q_M_called (some 1282) (nI s) (nI o) (I, S)) (RU I0 (aCal A s o)) := by
  have hm := M_k hS
  obtain ⟨h1, h2, h3⟩ := hl
  obtain ⟨n, hn, hcn⟩ := hC (6 * s + o) (by omega)
  unfold q_M_called
  refine pw_lt ?_
  rw [show (6 : Int32) * nI s + nI o = nI (6 * s + o) from n_lin 6 s o]
  refine rM hS (r := 1328) rfl (rM hS (r := 1328) rfl (gA hS hX (6 * s + o) rfl rfl (by omega) ?_))
  have e1 : A.1 32 (6 * s + o) + 1 = nI (n + 1) := by rw [hcn]; exact nI_1 n
  have e2 : (A.1 32 (6 * s + o) + 1) &&& 127 = nI ((n + 1) % 128) := by rw [e1]; exact and_127 (by omega)
  refine pw_rm (n := n + 1) (d := 128) e1 rfl (by omega) (by decide) (by decide) ?_
  rw [← e2]
  refine sA hS hX (6 * s + o) rfl (by decide) rfl (by omega) (fun J1 g1 => pw_cv hm (r_clear hS (by omega) g1) (fun _ J2 g2 => ?_))
  refine rM hS (r := 1319) rfl (rM hS (r := 1328) rfl (gA hS g2 (6 * s + o) rfl rfl (by omega) ?_))
  rw [aL_1, aRst_f _ (by decide), aI_s]
  have fin : ∀ j0 : Int32, j0 = (if nI o < nI s then 128 else 0) → pw S (q_M_called_53 (some 1282) (nI s) (nI o) (nI (6 * s + o)) j0 ((A.1 32 (6 * s + o) + 1) &&& 127) (nI (6 * s + o)) (some 1319) (J2, S)) (RU I0 (aCal A s o)) := by
    intro j0 hj
    subst hj
    unfold q_M_called_53
    refine sA hS g2 (6 * s + o) rfl (by decide) rfl (by omega) (fun J3 g3 => ?_)
    refine rM hS (r := 1316) rfl (sA hS g3 (6 * s + o) rfl (by decide) rfl (by omega) (fun J4 g4 => ?_))
    rw [aI_in (f := 20) (g := 23) _ _ _ _ _ (by decide), aI_L, aRst_m] at g4
    refine rM hS (r := 1324) rfl (sA hS g4 (6 * s + o) rfl (by decide) rfl (by omega) (fun J5 g5 => ?_))
    refine rM hS (r := 1323) rfl (rM hS (r := 1294) rfl (gA hS g5 (9 * s + 4) rfl (n_lin 9 s 4) (by omega) ?_))
    refine sA hS g5 (6 * s + o) rfl (by decide) rfl (by omega) (fun J6 g6 => ?_)
    have e := aCl1_T A s o
    unfold aCl1 at e
    rw [e] at g6
    refine pw_cv hm (r_say hS ⟨h1, h2, h3⟩ g6 (fun l hl => ?_) 63 1) (fun _ J7 g7 => pw_ret g7)
    have := hV l hl
    rw [aI_f _ _ _ _ (by decide), aI_f _ _ _ _ (by decide), aI_f _ _ _ _ (by decide), aL_1]
    rw [aI_f _ _ _ _ (by decide), aI_f _ _ _ _ (by decide), aI_f _ _ _ _ (by decide), aL_1]
    unfold aRst
    rw [aQ_1, aL_1]
    simp only [aI_f _ _ _ _ (show 21 ≠ 31 by decide), aI_f _ _ _ _ (show 21 ≠ 30 by decide), aI_f _ _ _ _ (show 21 ≠ 29 by decide), aI_f _ _ _ _ (show 21 ≠ 28 by decide), aI_f _ _ _ _ (show 21 ≠ 27 by decide), aI_f _ _ _ _ (show 21 ≠ 26 by decide), aI_f _ _ _ _ (show 21 ≠ 25 by decide), aI_f _ _ _ _ (show 21 ≠ 24 by decide), aI_f _ _ _ _ (show 21 ≠ 20 by decide), aI_f _ _ _ _ (show 21 ≠ 32 by decide), aI_f _ _ _ _ (show 22 ≠ 31 by decide), aI_f _ _ _ _ (show 22 ≠ 30 by decide), aI_f _ _ _ _ (show 22 ≠ 29 by decide), aI_f _ _ _ _ (show 22 ≠ 28 by decide), aI_f _ _ _ _ (show 22 ≠ 27 by decide), aI_f _ _ _ _ (show 22 ≠ 26 by decide), aI_f _ _ _ _ (show 22 ≠ 25 by decide), aI_f _ _ _ _ (show 22 ≠ 24 by decide), aI_f _ _ _ _ (show 22 ≠ 20 by decide), aI_f _ _ _ _ (show 22 ≠ 32 by decide)]
    exact this
  by_cases h : nI o < nI s
  · rw [if_pos h]
    exact fin 128 (by rw [if_pos h])
  · rw [if_neg h]
    exact fin 0 (by rw [if_neg h])
end RL
