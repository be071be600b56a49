/-! THE STATE, as the document has it: numbers, lists, lists of lists, by field and place.
Numbers: 0 time; 1 tuned (9s+w); 2 hears (6a+b); 3 wait; 4 carrier; 5 level; 6 sending; 7 had; 8 counts (5s+w); 9 written; 10 last, 11 ones, 12 open (0..6); of a link 6s+o: 20 mode, 21 22 vias, 23 mark, 24 vs, 25 va, 26 vr, 27 clock, 28 tries, 29 polls, 30 rejects, 31 held, 32 calls, 33 seen; 40 quality, 41 age (36s+6d+n).
Lists: 0 tape, 1 out, 2 bits of a row, 3 what came (0..6), 4 the bits still to be sent, 5 the frame that is sent; of a link 10 outbox, 11 inbox. Lists of lists: 0 queue, 1 mailbox; of a link 2 packets, 3 said. -/
abbrev aT : Type := (Nat → Nat → Int32) × (Nat → Nat → List Int32) × (Nat → Nat → List (List Int32))
def aI (A : aT) (f k : Nat) (v : Int32) : aT := (mrow A.1 f (mrow (A.1 f) k v), A.2)
def aL (A : aT) (f k : Nat) (l : List Int32) : aT := (A.1, mrow A.2.1 f (mrow (A.2.1 f) k l), A.2.2)
def aQ (A : aT) (f k : Nat) (l : List (List Int32)) : aT := (A.1, A.2.1, mrow A.2.2 f (mrow (A.2.2 f) k l))
theorem aI_s (A : aT) (f k : Nat) (v : Int32) : (aI A f k v).1 f k = v := by simp [aI, mrow]
theorem aI_f (A : aT) {f g : Nat} (k i : Nat) (v : Int32) (h : g ≠ f) : (aI A f k v).1 g i = A.1 g i := by simp [aI, mrow, h]
theorem aI_k (A : aT) (f : Nat) {k i : Nat} (v : Int32) (h : i ≠ k) : (aI A f k v).1 f i = A.1 f i := by simp [aI, mrow, h]
theorem aL_s (A : aT) (f k : Nat) (l : List Int32) : (aL A f k l).2.1 f k = l := by simp [aL, mrow]
theorem aL_f (A : aT) {f g : Nat} (k i : Nat) (l : List Int32) (h : g ≠ f) : (aL A f k l).2.1 g i = A.2.1 g i := by simp [aL, mrow, h]
theorem aL_k (A : aT) (f : Nat) {k i : Nat} (l : List Int32) (h : i ≠ k) : (aL A f k l).2.1 f i = A.2.1 f i := by simp [aL, mrow, h]
theorem aQ_s (A : aT) (f k : Nat) (l : List (List Int32)) : (aQ A f k l).2.2 f k = l := by simp [aQ, mrow]
theorem aQ_f (A : aT) {f g : Nat} (k i : Nat) (l : List (List Int32)) (h : g ≠ f) : (aQ A f k l).2.2 g i = A.2.2 g i := by simp [aQ, mrow, h]
theorem aQ_k (A : aT) (f : Nat) {k i : Nat} (l : List (List Int32)) (h : i ≠ k) : (aQ A f k l).2.2 f i = A.2.2 f i := by simp [aQ, mrow, h]
/-! bits -/
/-- bit n of a list of BYTES -/
def bitAt (l : List Int32) (n : Nat) : Int32 := ((l[n / 8]?).getD (-1) >>> (nI (n % 8) &&& 31)) &&& 1
def bitsFrom (l : List Int32) (p : Nat) : List Int32 := (List.range (8 * l.length - p)).map (fun i => bitAt l (p + i))
/-- the CHECK's c behind the first n bits -/
def chkN (l : List Int32) : Nat → Int32
  | 0 => 65535
  | n + 1 => if chkN l n &&& 1 = bitAt l n then chkN l n >>> (1 &&& 31) else (chkN l n >>> (1 &&& 31)) ^^^ 33800
def chk (l : List Int32) : Int32 := 65535 - chkN l (8 * l.length)
/-- a 0 behind each five 1s -/
def stf : List Int32 → Nat → List Int32
  | [], o => if o = 5 then [0] else []
  | b :: l, o => if o = 5 then 0 :: b :: stf l (if b = 1 then 1 else 0) else b :: stf l (if b = 1 then o + 1 else 0)
/-- what is left of FLAGS -/
def flg : Nat → List Int32
  | 0 => []
  | n + 1 => (if n % 8 = 7 ∨ n % 8 = 0 then 0 else 1) :: flg n
/-- bits in BYTES, the lowest first -/
def pbyte (l : List Int32) (j : Nat) : Nat → Int32
  | 0 => 0
  | k + 1 => pbyte l j k + ((l[8 * j + k]?).getD 0 <<< (nI k &&& 31))
def pack (l : List Int32) : List Int32 := (List.range ((l.length + 7) / 8)).map (fun j => pbyte l j 8)
/-! the class's side: station s at cell cN s, its link to o at cK s o -/
def awk (A : aT) (s : Nat) : Nat := ((List.range 6).filter (fun o => decide (A.1 20 (6 * s + o) ≠ 0))).length
def cS1 (I : mIm) (A : aT) (s : Nat) : Prop := I (cN s) 0 = nI s ∧ (∃ h : Nat, h < 64 ∧ I (cN s) 8 = nI h ∧ ∀ o, o < 6 → A.1 2 (6 * s + o) = nI (h / 2 ^ o % 2)) ∧ I (cN s) 9 = A.1 3 s ∧ I (cN s) 10 = A.1 4 s ∧ I (cN s) 11 = nI (awk A s) ∧ I (cN s) 12 = A.1 9 s ∧ ∀ w, w < 5 → I (cN s) (13 + w) = A.1 8 (5 * s + w)
def cS2 (I : mIm) (A : aT) (s : Nat) : Prop := ∀ w, w < 9 → I (cN s + 1) w = A.1 1 (9 * s + w)
def cS3 (I : mIm) (A : aT) (s : Nat) : Prop := I (cN s + 55) 0 = nI s ∧ ∀ d, d < 36 → I (cN s + 56) d = A.1 40 (36 * s + d) ∧ I (cN s + 57) d = A.1 41 (36 * s + d)
def cSn (I : mIm) (A : aT) (s : Nat) : Prop := I (cN s + 2) 4 = A.1 5 s ∧ I (cN s + 2) 5 = A.1 6 s ∧ I (cN s + 2) 6 = A.1 7 s ∧ ∃ (l : List Int32) (p o fb : Nat), isL I (cN s + 3) l ∧ l.length ≤ 92 ∧ I (cN s + 2) 1 = nI p ∧ I (cN s + 2) 2 = nI o ∧ I (cN s + 2) 3 = nI fb ∧ p ≤ 8 * l.length ∧ o ≤ 5 ∧ fb ≤ 128 ∧ (fb = 0 → p = 8 * l.length ∧ o < 5) ∧ (A.1 6 s = 1 → A.2.1 4 s = stf (bitsFrom l p) o ++ flg fb ∧ ((A.1 7 s = 0 ∧ l = []) ∨ (0 < A.1 7 s ∧ l = A.2.1 5 s ++ [chk (A.2.1 5 s) &&& 255, chk (A.2.1 5 s) >>> (8 &&& 31)])))
def cRv (I : mIm) (A : aT) (b k : Nat) : Prop := I b 2 = A.1 12 k ∧ I b 3 = A.1 10 k ∧ I b 4 = A.1 11 k ∧ isL I (b + 3) (A.2.1 3 k) ∧ (A.2.1 3 k).length ≤ 90 ∧ (A.1 12 k = 1 → I b 1 = nI (A.2.1 2 k).length ∧ (A.2.1 2 k).length ≤ 743 ∧ isL I (b + 1) (pack (A.2.1 2 k)))
def mlOf (p : List Int32) : List Int32 := (p[0]?).getD 0 :: (p[3]?).getD 0 :: p.drop 4
def cMl (I : mIm) (A : aT) (s : Nat) : Prop := ∃ ll : List (List Int32), isR I (cN s + 36) 8 16 ll ∧ A.2.2 1 s = ll.map mlOf ∧ ∀ p ∈ ll, 4 < p.length
def cLk (I : mIm) (A : aT) (s o : Nat) : Prop := I (cK s o) 1 = nI o ∧ (I (cK s o) 7 = A.1 20 (6 * s + o) ∧ I (cK s o) 8 = A.1 24 (6 * s + o) ∧ I (cK s o) 9 = A.1 25 (6 * s + o) ∧ I (cK s o) 10 = A.1 26 (6 * s + o) ∧ I (cK s o) 11 = A.1 27 (6 * s + o) ∧ I (cK s o) 12 = A.1 28 (6 * s + o) ∧ I (cK s o) 13 = A.1 29 (6 * s + o) ∧ I (cK s o) 14 = A.1 30 (6 * s + o) ∧ I (cK s o) 15 = A.1 31 (6 * s + o) ∧ I (cK s o) 16 = A.1 32 (6 * s + o) ∧ I (cK s o) 17 = A.1 33 (6 * s + o)) ∧ (I (cK s o + 1) 0 = nI o ∧ I (cK s o + 1) 1 = A.1 21 (6 * s + o) ∧ I (cK s o + 1) 2 = A.1 22 (6 * s + o) ∧ I (cK s o + 1) 3 = A.1 23 (6 * s + o)) ∧ (isL I (cK s o + 2) (A.2.1 10 (6 * s + o)) ∧ (A.2.1 10 (6 * s + o)).length ≤ 200) ∧ (isL I (cK s o + 4) (A.2.1 11 (6 * s + o)) ∧ (A.2.1 11 (6 * s + o)).length ≤ 64) ∧ isR I (cK s o + 6) 6 16 (A.2.2 2 (6 * s + o)) ∧ isR I (cK s o + 20) 4 17 (A.2.2 3 (6 * s + o))
def cSt (I : mIm) (A : aT) (s : Nat) : Prop := cS1 I A s ∧ cS2 I A s ∧ cS3 I A s ∧ cSn I A s ∧ cRv I A (cN s + 5) s ∧ isR I (cN s + 10) 12 90 (A.2.2 0 s) ∧ cMl I A s
def cGl (I : mIm) (A : aT) : Prop := I 16 7 = A.1 0 0 ∧ (isL I 1266 (A.2.1 0 0) ∧ (A.2.1 0 0).length ≤ 260) ∧ (isL I 1268 (A.2.1 1 0) ∧ (A.2.1 1 0).length ≤ 907) ∧ cRv I A 1273 6
def CInv (I : mIm) (A : aT) : Prop := cGl I A ∧ (∀ s, s < 6 → cSt I A s) ∧ ∀ s, s < 6 → ∀ o, o < 6 → o ≠ s → cLk I A s o
/-! the reference's side: its arrays -/
/-- a list in an array from a place on -/
def fL (I : mIm) (r a : Nat) (l : List Int32) : Prop := ∀ (j : Nat) (x : Int32), l[j]? = some x → I r (a + j) = x
/-- array, field, how many -/
def rTab : List (Nat × Nat × Nat) := [(1294, 1, 54), (1295, 2, 36), (1299, 3, 6), (1300, 4, 6), (1301, 5, 6), (1302, 6, 6), (1306, 7, 6), (1310, 8, 30), (1346, 9, 6), (1286, 10, 7), (1287, 11, 7), (1288, 12, 7), (1316, 20, 36), (1317, 21, 36), (1318, 22, 36), (1319, 23, 36), (1320, 24, 36), (1321, 25, 36), (1322, 26, 36), (1323, 27, 36), (1324, 28, 36), (1325, 29, 36), (1326, 30, 36), (1327, 31, 36), (1328, 32, 36), (1329, 33, 36), (1341, 40, 216), (1342, 41, 216)]
def rSc (I : mIm) (A : aT) : Prop := ∀ q ∈ rTab, ∀ k, k < q.2.2 → I q.1 k = A.1 q.2.1 k
def rGl (I : mIm) (A : aT) : Prop := I 1282 15 = A.1 0 0 ∧ (I 1282 1 = nI (A.2.1 0 0).length ∧ fL I 1283 0 (A.2.1 0 0) ∧ (A.2.1 0 0).length ≤ 260) ∧ (I 1282 3 = nI (A.2.1 1 0).length ∧ fL I 1284 0 (A.2.1 1 0) ∧ (A.2.1 1 0).length ≤ 907)
def rRv (I : mIm) (A : aT) (k : Nat) : Prop := (I 1291 k = nI (A.2.1 3 k).length ∧ (A.2.1 3 k).length ≤ 90 ∧ fL I 1292 (90 * k) (A.2.1 3 k)) ∧ (A.1 12 k = 1 → I 1289 k = nI (A.2.1 2 k).length ∧ (A.2.1 2 k).length ≤ 743 ∧ fL I 1290 (743 * k) (A.2.1 2 k))
def rQu (I : mIm) (A : aT) (s : Nat) : Prop := I 1296 s = nI (A.2.2 0 s).length ∧ (A.2.2 0 s).length ≤ 12 ∧ ∀ (i : Nat) (l : List Int32), (A.2.2 0 s)[i]? = some l → l.length ≤ 90 ∧ I 1297 (12 * s + i) = nI l.length ∧ fL I 1298 (90 * (12 * s + i)) l
def rMl (I : mIm) (A : aT) (s : Nat) : Prop := I 1344 s = nI (A.2.2 1 s).length ∧ (A.2.2 1 s).length ≤ 8 ∧ ∀ (i : Nat) (l : List Int32), (A.2.2 1 s)[i]? = some l → ∃ (a b : Int32) (t : List Int32), l = a :: b :: t ∧ t.length ≤ 12 ∧ I 1345 (120 * s + 15 * i) = a ∧ I 1345 (120 * s + 15 * i + 1) = b ∧ I 1345 (120 * s + 15 * i + 2) = nI t.length ∧ fL I 1345 (120 * s + 15 * i + 3) t
def rSn (I : mIm) (A : aT) (s : Nat) : Prop := A.1 6 s = 1 → (∃ a : Nat, I 1304 s = nI a ∧ I 1303 s = nI (a + (A.2.1 4 s).length) ∧ a + (A.2.1 4 s).length ≤ 1024 ∧ fL I 1305 (1024 * s + a) (A.2.1 4 s)) ∧ (0 < A.1 7 s → I 1307 s = nI (A.2.1 5 s).length ∧ (A.2.1 5 s).length ≤ 90 ∧ fL I 1308 (90 * s) (A.2.1 5 s))
def rLk (I : mIm) (A : aT) (l : Nat) : Prop := (I 1331 l = nI (A.2.1 10 l).length ∧ (A.2.1 10 l).length ≤ 200 ∧ fL I 1330 (200 * l) (A.2.1 10 l)) ∧ (I 1333 l = nI (A.2.1 11 l).length ∧ (A.2.1 11 l).length ≤ 64 ∧ fL I 1332 (64 * l) (A.2.1 11 l)) ∧ (I 1336 l = nI (A.2.2 2 l).length ∧ (A.2.2 2 l).length ≤ 6 ∧ ∀ (i : Nat) (p : List Int32), (A.2.2 2 l)[i]? = some p → p.length ≤ 16 ∧ I 1335 (6 * l + i) = nI p.length ∧ fL I 1334 (96 * l + 16 * i) p) ∧ (I 1340 l = nI (A.2.2 3 l).length ∧ (A.2.2 3 l).length ≤ 4 ∧ ∀ (i : Nat) (p : List Int32), (A.2.2 3 l)[i]? = some p → ∃ (a : Int32) (t : List Int32), p = a :: t ∧ t.length ≤ 16 ∧ I 1339 (4 * l + i) = a ∧ I 1338 (4 * l + i) = nI t.length ∧ fL I 1337 (64 * l + 16 * i) t)
def RInv (I : mIm) (A : aT) : Prop := rGl I A ∧ rSc I A ∧ (∀ k, k < 7 → rRv I A k) ∧ (∀ s, s < 6 → rQu I A s ∧ rMl I A s ∧ rSn I A s) ∧ ∀ l, l < 36 → rLk I A l
/-! the one's cells are not the other's -/
theorem RInv_same {I I' : mIm} {A : aT} (h : RInv I A) (e : ∀ r, 1282 ≤ r → I' r = I r) : RInv I' A := by
  have e1 : ∀ r ∈ [1282, 1283, 1284, 1286, 1287, 1288, 1289, 1290, 1291, 1292, 1294, 1295, 1296, 1297, 1298, 1299, 1300, 1301, 1302, 1303, 1304, 1305, 1306, 1307, 1308, 1310, 1316, 1317, 1318, 1319, 1320, 1321, 1322, 1323, 1324, 1325, 1326, 1327, 1328, 1329, 1330, 1331, 1332, 1333, 1334, 1335, 1336, 1337, 1338, 1339, 1340, 1341, 1342, 1344, 1345, 1346], I' r = I r := fun r hr => e r (by
    have : [1282, 1283, 1284, 1286, 1287, 1288, 1289, 1290, 1291, 1292, 1294, 1295, 1296, 1297, 1298, 1299, 1300, 1301, 1302, 1303, 1304, 1305, 1306, 1307, 1308, 1310, 1316, 1317, 1318, 1319, 1320, 1321, 1322, 1323, 1324, 1325, 1326, 1327, 1328, 1329, 1330, 1331, 1332, 1333, 1334, 1335, 1336, 1337, 1338, 1339, 1340, 1341, 1342, 1344, 1345, 1346].all (fun r => decide (1282 ≤ r)) = true := by decide
    exact of_decide_eq_true (List.all_eq_true.mp this r hr))
  obtain ⟨h1, h2, h3, h4, h5⟩ := h
  refine ⟨?_, fun q hq k hk => ?_, fun k hk => ?_, fun s hs => ?_, fun l hl => ?_⟩
  · unfold rGl fL at h1 ⊢
    rw [e 1282 (by decide), e 1283 (by decide), e 1284 (by decide)]
    exact h1
  · have hr : ∀ q ∈ rTab, 1282 ≤ q.1 := by decide
    rw [e q.1 (hr q hq)]
    exact h2 q hq k hk
  · have := h3 k hk
    unfold rRv fL at this ⊢
    rw [e 1291 (by decide), e 1292 (by decide), e 1289 (by decide), e 1290 (by decide)]
    exact this
  · have := h4 s hs
    unfold rQu rMl rSn fL at this ⊢
    rw [e 1296 (by decide), e 1297 (by decide), e 1298 (by decide), e 1344 (by decide), e 1345 (by decide), e 1303 (by decide), e 1304 (by decide), e 1305 (by decide), e 1307 (by decide), e 1308 (by decide)]
    exact this
  · have := h5 l hl
    unfold rLk fL at this ⊢
    rw [e 1331 (by decide), e 1330 (by decide), e 1333 (by decide), e 1332 (by decide), e 1336 (by decide), e 1335 (by decide), e 1334 (by decide), e 1340 (by decide), e 1339 (by decide), e 1338 (by decide), e 1337 (by decide)]
    exact this
theorem cK_lt {s o : Nat} (hs : s < 6) (ho : o < 6) (h : o ≠ s) : cN s + 58 ≤ cK s o ∧ cK s o + 30 ≤ cN s + 208 ∧ cN s + 208 ≤ 1266 := by
  unfold cN cK
  split <;> omega
theorem cS1_same {I I' : mIm} {A : aT} {s : Nat} (h : cS1 I A s) (e : I' (cN s) = I (cN s)) : cS1 I' A s := by unfold cS1 at h ⊢; rw [e]; exact h
theorem cS2_same {I I' : mIm} {A : aT} {s : Nat} (h : cS2 I A s) (e : I' (cN s + 1) = I (cN s + 1)) : cS2 I' A s := by unfold cS2 at h ⊢; rw [e]; exact h
theorem cS3_same {I I' : mIm} {A : aT} {s : Nat} (h : cS3 I A s) (e : ∀ r, cN s + 55 ≤ r → r < cN s + 58 → I' r = I r) : cS3 I' A s := by unfold cS3 at h ⊢; rw [e (cN s + 55) (by omega) (by omega), e (cN s + 56) (by omega) (by omega), e (cN s + 57) (by omega) (by omega)]; exact h
theorem cSn_same {I I' : mIm} {A : aT} {s : Nat} (h : cSn I A s) (e : ∀ r, cN s + 2 ≤ r → r < cN s + 5 → I' r = I r) : cSn I' A s := by
  obtain ⟨h1, h2, h3, l, p, o, fb, h4, h5⟩ := h
  unfold cSn
  rw [e (cN s + 2) (by omega) (by omega)]
  exact ⟨h1, h2, h3, l, p, o, fb, isL_same h4 (e _ (by omega) (by omega)) (e _ (by omega) (by omega)), h5⟩
theorem cRv_same {I I' : mIm} {A : aT} {b k : Nat} (h : cRv I A b k) (e : ∀ r, b ≤ r → r < b + 5 → I' r = I r) : cRv I' A b k := by
  obtain ⟨h1, h2, h3, h4, h5, h6⟩ := h
  unfold cRv
  rw [e b (by omega) (by omega)]
  exact ⟨h1, h2, h3, isL_same h4 (e _ (by omega) (by omega)) (e _ (by omega) (by omega)), h5, fun q => ⟨(h6 q).1, (h6 q).2.1, isL_same (h6 q).2.2 (e _ (by omega) (by omega)) (e _ (by omega) (by omega))⟩⟩
theorem cMl_same {I I' : mIm} {A : aT} {s : Nat} (h : cMl I A s) (e : ∀ r, cN s + 36 ≤ r → r < cN s + 54 → I' r = I r) : cMl I' A s := by
  obtain ⟨ll, h1, h2⟩ := h
  exact ⟨ll, isR_same h1 (fun r a b => e r (by omega) (by omega)), h2⟩
theorem cLk_same {I I' : mIm} {A : aT} {s o : Nat} (h : cLk I A s o) (e : ∀ r, cK s o ≤ r → r < cK s o + 30 → I' r = I r) : cLk I' A s o := by
  obtain ⟨h1, h2, h3, h4, h5, h6, h7⟩ := h
  unfold cLk
  rw [e (cK s o) (by omega) (by omega), e (cK s o + 1) (by omega) (by omega)]
  exact ⟨h1, h2, h3, ⟨isL_same h4.1 (e _ (by omega) (by omega)) (e _ (by omega) (by omega)), h4.2⟩, ⟨isL_same h5.1 (e _ (by omega) (by omega)) (e _ (by omega) (by omega)), h5.2⟩, isR_same h6 (fun r a b => e r (by omega) (by omega)), isR_same h7 (fun r a b => e r (by omega) (by omega))⟩
theorem cSt_same {I I' : mIm} {A : aT} {s : Nat} (h : cSt I A s) (e : ∀ r, cN s ≤ r → r < cN s + 58 → I' r = I r) : cSt I' A s := by
  obtain ⟨h1, h2, h3, h4, h5, h6, h7⟩ := h
  exact ⟨cS1_same h1 (e _ (by omega) (by omega)), cS2_same h2 (e _ (by omega) (by omega)), cS3_same h3 (fun r a b => e r (by omega) (by omega)), cSn_same h4 (fun r a b => e r (by omega) (by omega)), cRv_same h5 (fun r a b => e r (by omega) (by omega)), isR_same h6 (fun r a b => e r (by omega) (by omega)), cMl_same h7 (fun r a b => e r (by omega) (by omega))⟩
theorem cGl_same {I I' : mIm} {A : aT} (h : cGl I A) (e : ∀ r, r < 18 ∨ (1266 ≤ r ∧ r < 1278) → I' r = I r) : cGl I' A := by
  obtain ⟨h1, h2, h3, h4⟩ := h
  unfold cGl
  rw [e 16 (by omega)]
  exact ⟨h1, ⟨isL_same h2.1 (e _ (by omega)) (e _ (by omega)), h2.2⟩, ⟨isL_same h3.1 (e _ (by omega)) (e _ (by omega)), h3.2⟩, cRv_same h4 (fun r a b => e r (by omega))⟩
theorem CInv_same {I I' : mIm} {A : aT} (h : CInv I A) (e : ∀ r, r < 1278 → I' r = I r) : CInv I' A := by
  refine ⟨cGl_same h.1 (fun r hr => e r (by omega)), fun s hs => cSt_same (h.2.1 s hs) (fun r a b => e r (by unfold cN at b; omega)), fun s hs o ho hne => cLk_same (h.2.2 s hs o ho hne) (fun r a b => e r ?_)⟩
  have := cK_lt hs ho hne
  omega
