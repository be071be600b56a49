/-! states that agree -/
def eqS (A B : aT) (s : Nat) : Prop := ((∀ w, w < 9 → B.1 1 (9 * s + w) = A.1 1 (9 * s + w)) ∧ (∀ o, o < 6 → B.1 2 (6 * s + o) = A.1 2 (6 * s + o)) ∧ B.1 3 s = A.1 3 s ∧ B.1 4 s = A.1 4 s ∧ B.1 5 s = A.1 5 s ∧ B.1 6 s = A.1 6 s ∧ B.1 7 s = A.1 7 s ∧ (∀ w, w < 5 → B.1 8 (5 * s + w) = A.1 8 (5 * s + w)) ∧ B.1 9 s = A.1 9 s ∧ B.1 10 s = A.1 10 s ∧ B.1 11 s = A.1 11 s ∧ B.1 12 s = A.1 12 s ∧ (∀ o, o < 6 → B.1 20 (6 * s + o) = A.1 20 (6 * s + o)) ∧ (∀ d, d < 36 → B.1 40 (36 * s + d) = A.1 40 (36 * s + d) ∧ B.1 41 (36 * s + d) = A.1 41 (36 * s + d))) ∧ (B.2.1 2 s = A.2.1 2 s ∧ B.2.1 3 s = A.2.1 3 s ∧ B.2.1 4 s = A.2.1 4 s ∧ B.2.1 5 s = A.2.1 5 s) ∧ B.2.2 0 s = A.2.2 0 s ∧ B.2.2 1 s = A.2.2 1 s
def eqK (A B : aT) (l : Nat) : Prop := (B.1 20 l = A.1 20 l ∧ B.1 21 l = A.1 21 l ∧ B.1 22 l = A.1 22 l ∧ B.1 23 l = A.1 23 l ∧ B.1 24 l = A.1 24 l ∧ B.1 25 l = A.1 25 l ∧ B.1 26 l = A.1 26 l ∧ B.1 27 l = A.1 27 l ∧ B.1 28 l = A.1 28 l ∧ B.1 29 l = A.1 29 l ∧ B.1 30 l = A.1 30 l ∧ B.1 31 l = A.1 31 l ∧ B.1 32 l = A.1 32 l ∧ B.1 33 l = A.1 33 l) ∧ (B.2.1 10 l = A.2.1 10 l ∧ B.2.1 11 l = A.2.1 11 l) ∧ B.2.2 2 l = A.2.2 2 l ∧ B.2.2 3 l = A.2.2 3 l
section CG
variable {I : mIm} {A B : aT} {s : Nat}
theorem awk_A (h : ∀ o, o < 6 → B.1 20 (6 * s + o) = A.1 20 (6 * s + o)) : awk B s = awk A s := by
  unfold awk
  congr 1
  apply List.filter_congr
  intro o ho
  rw [h o (List.mem_range.mp ho)]
theorem cS1_A (h : cS1 I A s) (e2 : ∀ o, o < 6 → B.1 2 (6 * s + o) = A.1 2 (6 * s + o)) (e3 : B.1 3 s = A.1 3 s) (e4 : B.1 4 s = A.1 4 s) (e8 : ∀ w, w < 5 → B.1 8 (5 * s + w) = A.1 8 (5 * s + w)) (e9 : B.1 9 s = A.1 9 s) (e20 : ∀ o, o < 6 → B.1 20 (6 * s + o) = A.1 20 (6 * s + o)) : cS1 I B s := by
  obtain ⟨h1, ⟨k, g1, g2, g3⟩, h3, h4, h5, h6, h7⟩ := h
  exact ⟨h1, ⟨k, g1, g2, fun o ho => by rw [e2 o ho]; exact g3 o ho⟩, by rw [e3]; exact h3, by rw [e4]; exact h4, by rw [awk_A e20]; exact h5, by rw [e9]; exact h6, fun w hw => by rw [e8 w hw]; exact h7 w hw⟩
theorem cS2_A (h : cS2 I A s) (e : ∀ w, w < 9 → B.1 1 (9 * s + w) = A.1 1 (9 * s + w)) : cS2 I B s := fun w hw => by rw [e w hw]; exact h w hw
theorem cS3_A (h : cS3 I A s) (e : ∀ d, d < 36 → B.1 40 (36 * s + d) = A.1 40 (36 * s + d) ∧ B.1 41 (36 * s + d) = A.1 41 (36 * s + d)) : cS3 I B s := ⟨h.1, fun d hd => by rw [(e d hd).1, (e d hd).2]; exact h.2 d hd⟩
theorem cSn_A (h : cSn I A s) (e5 : B.1 5 s = A.1 5 s) (e6 : B.1 6 s = A.1 6 s) (e7 : B.1 7 s = A.1 7 s) (f4 : B.2.1 4 s = A.2.1 4 s) (f5 : B.2.1 5 s = A.2.1 5 s) : cSn I B s := by
  unfold cSn at h ⊢
  rw [e5, e6, e7, f4, f5]
  exact h
theorem cRv_A {b k : Nat} (h : cRv I A b k) (e10 : B.1 10 k = A.1 10 k) (e11 : B.1 11 k = A.1 11 k) (e12 : B.1 12 k = A.1 12 k) (f2 : B.2.1 2 k = A.2.1 2 k) (f3 : B.2.1 3 k = A.2.1 3 k) : cRv I B b k := by
  unfold cRv at h ⊢
  rw [e10, e11, e12, f2, f3]
  exact h
theorem cMl_A (h : cMl I A s) (e : B.2.2 1 s = A.2.2 1 s) : cMl I B s := by
  unfold cMl at h ⊢
  rw [e]
  exact h
theorem cLk_A {o : Nat} (h : cLk I A s o) (e : eqK A B (6 * s + o)) : cLk I B s o := by
  obtain ⟨⟨e1, e2, e3, e4, e5, e6, e7, e8, e9, e10, e11, e12, e13, e14⟩, ⟨e15, e16⟩, e17, e18⟩ := e
  unfold cLk at h ⊢
  rw [e1, e2, e3, e4, e5, e6, e7, e8, e9, e10, e11, e12, e13, e14, e15, e16, e17, e18]
  exact h
theorem cSt_A (h : cSt I A s) (e : eqS A B s) : cSt I B s := by
  obtain ⟨⟨e1, e2, e3, e4, e5, e6, e7, e8, e9, e10, e11, e12, e13, e14⟩, ⟨f1, f2, f3, f4⟩, f5, f6⟩ := e
  obtain ⟨h1, h2, h3, h4, h5, h6, h7⟩ := h
  exact ⟨cS1_A h1 e2 e3 e4 e8 e9 e13, cS2_A h2 e1, cS3_A h3 e14, cSn_A h4 e5 e6 e7 f3 f4, cRv_A h5 e10 e11 e12 f1 f2, by rw [f5]; exact h6, cMl_A h7 f6⟩
theorem cGl_A (h : cGl I A) (e0 : B.1 0 0 = A.1 0 0) (t : B.2.1 0 0 = A.2.1 0 0) (u : B.2.1 1 0 = A.2.1 1 0) (e10 : B.1 10 6 = A.1 10 6) (e11 : B.1 11 6 = A.1 11 6) (e12 : B.1 12 6 = A.1 12 6) (f2 : B.2.1 2 6 = A.2.1 2 6) (f3 : B.2.1 3 6 = A.2.1 3 6) : cGl I B := by
  obtain ⟨h1, h2, h3, h4⟩ := h
  exact ⟨by rw [e0]; exact h1, by rw [t]; exact h2, by rw [u]; exact h3, cRv_A h4 e10 e11 e12 f2 f3⟩
theorem eqS_all (h1 : B.1 = A.1) (h2 : ∀ f, f ≠ 0 → f ≠ 1 → B.2.1 f = A.2.1 f) (h3 : B.2.2 = A.2.2) (s : Nat) : eqS A B s := by
  unfold eqS
  rw [h1, h3, h2 2 (by decide) (by decide), h2 3 (by decide) (by decide), h2 4 (by decide) (by decide), h2 5 (by decide) (by decide)]
  exact ⟨⟨fun _ _ => rfl, fun _ _ => rfl, rfl, rfl, rfl, rfl, rfl, fun _ _ => rfl, rfl, rfl, rfl, rfl, fun _ _ => rfl, fun _ _ => ⟨rfl, rfl⟩⟩, ⟨rfl, rfl, rfl, rfl⟩, rfl, rfl⟩
theorem eqK_all (h1 : B.1 = A.1) (h2 : ∀ f, f ≠ 0 → f ≠ 1 → B.2.1 f = A.2.1 f) (h3 : B.2.2 = A.2.2) (l : Nat) : eqK A B l := by
  unfold eqK
  rw [h1, h3, h2 10 (by decide) (by decide), h2 11 (by decide) (by decide)]
  exact ⟨⟨rfl, rfl, rfl, rfl, rfl, rfl, rfl, rfl, rfl, rfl, rfl, rfl, rfl, rfl⟩, ⟨rfl, rfl⟩, rfl, rfl⟩
end CG
/-! tape and out -/
theorem CInv_tape {I J : mIm} {A : aT} {l : List Int32} (h : CInv I A) (e : ∀ r, r ≠ 1266 → r ≠ 1267 → J r = I r) (hl : isL J 1266 l) (hc : l.length ≤ 260) : CInv J (aL A 0 0 l) := by
  refine ⟨?_, fun s hs => cSt_A (cSt_same (h.2.1 s hs) (fun r a b => e r (by unfold cN at b; omega) (by unfold cN at b; omega))) (eqS_all (A := A) (B := aL A 0 0 l) rfl (fun f h0 h1 => mrow_n _ _ h0) rfl s), fun s hs o ho hne => ?_⟩
  · obtain ⟨h1, h2, h3, h4⟩ := h.1
    refine ⟨by rw [e 16 (by decide) (by decide)]; exact h1, ⟨by rw [aL_s]; exact hl, by rw [aL_s]; exact hc⟩, ?_, cRv_A (cRv_same h4 (fun r a b => e r (by omega) (by omega))) rfl rfl rfl (aL_f A _ _ _ (by decide)) (aL_f A _ _ _ (by decide))⟩
    rw [aL_f A _ _ _ (by decide)]
    exact ⟨isL_same h3.1 (e _ (by decide) (by decide)) (e _ (by decide) (by decide)), h3.2⟩
  · have hk := cK_lt hs ho hne
    exact cLk_A (cLk_same (h.2.2 s hs o ho hne) (fun r a b => e r (by omega) (by omega))) (eqK_all (A := A) (B := aL A 0 0 l) rfl (fun f h0 h1 => mrow_n _ _ h0) rfl _)
theorem CInv_out {I J : mIm} {A : aT} {l : List Int32} (h : CInv I A) (e : ∀ r, r ≠ 1268 → r ≠ 1269 → r < 1278 → J r = I r) (hl : isL J 1268 l) (hc : l.length ≤ 907) : CInv J (aL A 1 0 l) := by
  refine ⟨?_, fun s hs => cSt_A (cSt_same (h.2.1 s hs) (fun r a b => e r (by unfold cN at b; omega) (by unfold cN at b; omega) (by unfold cN at b; omega))) (eqS_all (A := A) (B := aL A 1 0 l) rfl (fun f h0 h1 => mrow_n _ _ h1) rfl s), fun s hs o ho hne => ?_⟩
  · obtain ⟨h1, h2, h3, h4⟩ := h.1
    refine ⟨by rw [e 16 (by decide) (by decide) (by decide)]; exact h1, ?_, ⟨by rw [aL_s]; exact hl, by rw [aL_s]; exact hc⟩, cRv_A (cRv_same h4 (fun r a b => e r (by omega) (by omega) (by omega))) rfl rfl rfl (aL_f A _ _ _ (by decide)) (aL_f A _ _ _ (by decide))⟩
    rw [aL_f A _ _ _ (by decide)]
    exact ⟨isL_same h2.1 (e _ (by decide) (by decide) (by decide)) (e _ (by decide) (by decide) (by decide)), h2.2⟩
  · have hk := cK_lt hs ho hne
    exact cLk_A (cLk_same (h.2.2 s hs o ho hne) (fun r a b => e r (by omega) (by omega) (by omega))) (eqK_all (A := A) (B := aL A 1 0 l) rfl (fun f h0 h1 => mrow_n _ _ h1) rfl _)
/-! the reference's -/
theorem rTab_r : ∀ p ∈ rTab, ∀ q ∈ rTab, p.1 = q.1 → p = q := by decide
theorem rTab_f : ∀ p ∈ rTab, ∀ q ∈ rTab, p.2.1 = q.2.1 → p = q := by decide
theorem rTab_o : ∀ p ∈ rTab, p.1 ≠ 1282 ∧ p.1 ≠ 1283 ∧ p.1 ≠ 1284 ∧ p.1 ≠ 1289 ∧ p.1 ≠ 1290 ∧ p.1 ≠ 1291 ∧ p.1 ≠ 1292 ∧ p.1 ≠ 1296 ∧ p.1 ≠ 1297 ∧ p.1 ≠ 1298 ∧ p.1 ≠ 1303 ∧ p.1 ≠ 1304 ∧ p.1 ≠ 1305 ∧ p.1 ≠ 1307 ∧ p.1 ≠ 1308 ∧ p.1 ≠ 1330 ∧ p.1 ≠ 1331 ∧ p.1 ≠ 1332 ∧ p.1 ≠ 1333 ∧ p.1 ≠ 1334 ∧ p.1 ≠ 1335 ∧ p.1 ≠ 1336 ∧ p.1 ≠ 1337 ∧ p.1 ≠ 1338 ∧ p.1 ≠ 1339 ∧ p.1 ≠ 1340 ∧ p.1 ≠ 1344 ∧ p.1 ≠ 1345 := by decide
theorem rSc_set {I : mIm} {A : aT} {r f n k : Nat} {v : Int32} (h : rSc I A) (hq : (r, f, n) ∈ rTab) : rSc (iput I r k v) (aI A f k v) := by
  intro q hq2 j hj
  by_cases hr : q.1 = r
  · have := rTab_r q hq2 (r, f, n) hq hr
    subst this
    by_cases hk : j = k
    · subst hk
      rw [iput_s, aI_s]
    · rw [iput_j _ _ _ hk, aI_k _ _ _ hk]
      exact h _ hq2 j hj
  · have hf : q.2.1 ≠ f := fun e => hr (by rw [rTab_f q hq2 (r, f, n) hq e])
    rw [iput_n _ _ _ hr, aI_f _ _ _ _ hf]
    exact h q hq2 j hj
/-- a number of the reference's is another one -/
theorem RInv_set {I : mIm} {A : aT} {r f n k : Nat} {v : Int32} (h : RInv I A) (i : Nat) (hi : rTab[i]? = some (r, f, n)) (h0 : f ≠ 0) (h6 : f ≠ 6) (h7 : f ≠ 7) (h12 : f ≠ 12) : RInv (iput I r k v) (aI A f k v) := by
  have hq := List.mem_of_getElem? hi
  obtain ⟨o1, o2, o3, o4, o5, o6, o7, o8, o9, o10, o11, o12, o13, o14, o15, o16, o17, o18, o19, o20, o21, o22, o23, o24, o25, o26, o27, o28⟩ := rTab_o _ hq
  obtain ⟨a1, a2, a3, a4, a5⟩ := h
  refine ⟨?_, rSc_set a2 hq, fun k hk => ?_, fun s hs => ?_, fun l hl => ?_⟩
  · unfold rGl fL at a1 ⊢
    rw [iput_n _ _ _ (Ne.symm o1), iput_n _ _ _ (Ne.symm o2), iput_n _ _ _ (Ne.symm o3), aI_f _ _ _ _ (Ne.symm h0)]
    exact a1
  · have := a3 k hk
    unfold rRv fL at this ⊢
    rw [iput_n _ _ _ (Ne.symm o4), iput_n _ _ _ (Ne.symm o5), iput_n _ _ _ (Ne.symm o6), iput_n _ _ _ (Ne.symm o7), aI_f _ _ _ _ (Ne.symm h12)]
    exact this
  · have := a4 s hs
    unfold rQu rMl rSn fL at this ⊢
    rw [iput_n _ _ _ (Ne.symm o8), iput_n _ _ _ (Ne.symm o9), iput_n _ _ _ (Ne.symm o10), iput_n _ _ _ (Ne.symm o11), iput_n _ _ _ (Ne.symm o12), iput_n _ _ _ (Ne.symm o13), iput_n _ _ _ (Ne.symm o14), iput_n _ _ _ (Ne.symm o15), iput_n _ _ _ (Ne.symm o27), iput_n _ _ _ (Ne.symm o28), aI_f _ _ _ _ (Ne.symm h6), aI_f _ _ _ _ (Ne.symm h7)]
    exact this
  · have := a5 l hl
    unfold rLk fL at this ⊢
    rw [iput_n _ _ _ (Ne.symm o16), iput_n _ _ _ (Ne.symm o17), iput_n _ _ _ (Ne.symm o18), iput_n _ _ _ (Ne.symm o19), iput_n _ _ _ (Ne.symm o20), iput_n _ _ _ (Ne.symm o21), iput_n _ _ _ (Ne.symm o22), iput_n _ _ _ (Ne.symm o23), iput_n _ _ _ (Ne.symm o24), iput_n _ _ _ (Ne.symm o25), iput_n _ _ _ (Ne.symm o26)]
    exact this
theorem RInv_tape {I J : mIm} {A : aT} {l : List Int32} (h : RInv I A) (e : ∀ r, r ≠ 1282 → r ≠ 1283 → J r = I r) (e15 : J 1282 15 = I 1282 15) (e3 : J 1282 3 = I 1282 3) (h1 : J 1282 1 = nI l.length) (h2 : fL J 1283 0 l) (hc : l.length ≤ 260) : RInv J (aL A 0 0 l) := by
  obtain ⟨a1, a2, a3, a4, a5⟩ := h
  refine ⟨?_, fun q hq k hk => ?_, fun k hk => ?_, fun s hs => ?_, fun l hl => ?_⟩
  · obtain ⟨b1, b2, b3, b4, b5⟩ := a1
    refine ⟨by rw [e15]; exact b1, ⟨by rw [aL_s]; exact h1, by rw [aL_s]; exact h2, by rw [aL_s]; exact hc⟩, ?_⟩
    rw [aL_f _ _ _ _ (by decide), e3]
    unfold fL at b4 ⊢
    rw [e 1284 (by decide) (by decide)]
    exact ⟨b3, b4, b5⟩
  · have := rTab_o q hq
    rw [e q.1 this.1 this.2.1]
    exact a2 q hq k hk
  · have := a3 k hk
    unfold rRv fL at this ⊢
    rw [aL_f _ _ _ _ (by decide), aL_f _ _ _ _ (by decide), e 1289 (by decide) (by decide), e 1290 (by decide) (by decide), e 1291 (by decide) (by decide), e 1292 (by decide) (by decide)]
    exact this
  · have := a4 s hs
    unfold rQu rMl rSn fL at this ⊢
    rw [aL_f _ _ _ _ (by decide), aL_f _ _ _ _ (by decide), e 1296 (by decide) (by decide), e 1297 (by decide) (by decide), e 1298 (by decide) (by decide), e 1303 (by decide) (by decide), e 1304 (by decide) (by decide), e 1305 (by decide) (by decide), e 1307 (by decide) (by decide), e 1308 (by decide) (by decide), e 1344 (by decide) (by decide), e 1345 (by decide) (by decide)]
    exact this
  · have := a5 l hl
    unfold rLk fL at this ⊢
    rw [aL_f _ _ _ _ (by decide), aL_f _ _ _ _ (by decide), e 1330 (by decide) (by decide), e 1331 (by decide) (by decide), e 1332 (by decide) (by decide), e 1333 (by decide) (by decide), e 1334 (by decide) (by decide), e 1335 (by decide) (by decide), e 1336 (by decide) (by decide), e 1337 (by decide) (by decide), e 1338 (by decide) (by decide), e 1339 (by decide) (by decide), e 1340 (by decide) (by decide)]
    exact this
