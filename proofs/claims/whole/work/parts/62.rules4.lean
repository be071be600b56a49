/-! the reference's state with its frame; rules for its words -/
def kp (r : Nat) : Prop := r < 1282 ∨ r = 1309 ∨ r = 1312 ∨ r = 1313 ∨ r = 1314 ∨ r = 1315 ∨ r = 1343
def RX (I0 I : mIm) (A : aT) : Prop := RInv I A ∧ (∀ r, kp r → I r = I0 r) ∧ ∀ j, 35 ≤ j → I 1282 j = I0 1282 j
def RU (I0 : mIm) (A : aT) : Unit → mIm → Prop := fun _ J => RX I0 J A
def RV (I0 : mIm) (R : Int32 × aT) : Int32 → mIm → Prop := fun v J => v = R.1 ∧ RX I0 J R.2
/-- the reference's arrays of numbers: kind, field, how many -/
def rF : Nat → Option (Nat × Nat × Nat)
  | 1294 => some (0, 1, 54)
  | 1295 => some (1, 2, 36)
  | 1299 => some (0, 3, 6)
  | 1300 => some (1, 4, 6)
  | 1301 => some (0, 5, 6)
  | 1302 => some (1, 6, 6)
  | 1306 => some (0, 7, 6)
  | 1310 => some (0, 8, 30)
  | 1346 => some (0, 9, 6)
  | 1286 => some (0, 10, 7)
  | 1287 => some (0, 11, 7)
  | 1288 => some (1, 12, 7)
  | 1316 => some (0, 20, 36)
  | 1317 => some (0, 21, 36)
  | 1318 => some (0, 22, 36)
  | 1319 => some (0, 23, 36)
  | 1320 => some (0, 24, 36)
  | 1321 => some (0, 25, 36)
  | 1322 => some (0, 26, 36)
  | 1323 => some (0, 27, 36)
  | 1324 => some (0, 28, 36)
  | 1325 => some (1, 29, 36)
  | 1326 => some (1, 30, 36)
  | 1327 => some (1, 31, 36)
  | 1328 => some (0, 32, 36)
  | 1329 => some (0, 33, 36)
  | 1341 => some (0, 40, 216)
  | 1342 => some (0, 41, 216)
  | _ => none
def rFt : Bool := rTab.all (fun q => (rF q.1).any (fun p => p.2.1 == q.2.1 && p.2.2 == q.2.2))
theorem rF_in {r t f n : Nat} (h : rF r = some (t, f, n)) : ∃ i : Nat, rTab[i]? = some (r, f, n) ∧ 1282 < r ∧ r ≠ 1309 ∧ r ≠ 1312 ∧ r ≠ 1313 ∧ r ≠ 1314 ∧ r ≠ 1315 ∧ r ≠ 1343 ∧ f ≠ 0 ∧ n ≤ 216 := by
  unfold rF at h
  split at h
  all_goals first | (cases h; done) | skip
  all_goals
    injection h with h; injection h with h1 h2; injection h2 with h2 h3; subst h1; subst h2; subst h3
  · exact ⟨0, rfl, by omega⟩
  · exact ⟨1, rfl, by omega⟩
  · exact ⟨2, rfl, by omega⟩
  · exact ⟨3, rfl, by omega⟩
  · exact ⟨4, rfl, by omega⟩
  · exact ⟨5, rfl, by omega⟩
  · exact ⟨6, rfl, by omega⟩
  · exact ⟨7, rfl, by omega⟩
  · exact ⟨8, rfl, by omega⟩
  · exact ⟨9, rfl, by omega⟩
  · exact ⟨10, rfl, by omega⟩
  · exact ⟨11, rfl, by omega⟩
  · exact ⟨12, rfl, by omega⟩
  · exact ⟨13, rfl, by omega⟩
  · exact ⟨14, rfl, by omega⟩
  · exact ⟨15, rfl, by omega⟩
  · exact ⟨16, rfl, by omega⟩
  · exact ⟨17, rfl, by omega⟩
  · exact ⟨18, rfl, by omega⟩
  · exact ⟨19, rfl, by omega⟩
  · exact ⟨20, rfl, by omega⟩
  · exact ⟨21, rfl, by omega⟩
  · exact ⟨22, rfl, by omega⟩
  · exact ⟨23, rfl, by omega⟩
  · exact ⟨24, rfl, by omega⟩
  · exact ⟨25, rfl, by omega⟩
  · exact ⟨26, rfl, by omega⟩
  · exact ⟨27, rfl, by omega⟩
def mLk (j : Nat) : Option (Nat × Nat × Nat) := (mTab.find? (fun q => q.1 == j)).map (fun q => q.2)
section RR
variable {S : mS} {β : Type} {Q : β → mIm → Prop} {I0 I : mIm} {A : aT}
theorem mLk_in (hS : Shp S) {j r t n : Nat} (h : mLk j = some (r, t, n)) : S.1 1282 j = some r ∧ S.2.1 r = t ∧ S.2.2.1 r = n := by
  unfold mLk at h
  cases h1 : mTab.find? (fun q => q.1 == j) with
  | none => rw [h1] at h; cases h
  | some q =>
    rw [h1] at h
    have h2 := List.mem_of_find?_eq_some h1
    have h3 := List.find?_some h1
    simp only [beq_iff_eq] at h3
    have h4 := hS.2.2.2.2 q h2
    injection h with h
    have e : q.2 = (r, t, n) := h
    rw [h3] at h4
    rw [e] at h4
    exact h4
/-- the array of a field -/
theorem rM (hS : Shp S) {j r t n : Nat} {k : Option Nat → Option (β × mM)} (hj : mLk j = some (r, t, n)) (h : pw S (k (some r)) Q) : pw S (x_gR (I, S) 10 (some 1282) j k) Q := pw_gR hS.2.2.2.1 (mLk_in hS hj).1 h
/-- an array's kind and length, by its cell -/
def aK : Nat → Nat × Nat := fun r => ((mTab.find? (fun q => q.2.1 == r)).map (fun q => q.2.2)).getD (0, 0)
theorem aK_in (hS : Shp S) {r t n : Nat} (h : aK r = (t + 1, n)) : S.2.1 r = t + 1 ∧ S.2.2.1 r = n := by
  unfold aK at h
  cases h1 : mTab.find? (fun q => q.2.1 == r) with
  | none => rw [h1] at h; injection h with h h2; omega
  | some q =>
    rw [h1] at h
    have h2 := List.mem_of_find?_eq_some h1
    have h3 := List.find?_some h1
    simp only [beq_iff_eq] at h3
    have h4 := hS.2.2.2.2 q h2
    have e : q.2.2 = (t + 1, n) := h
    rw [h3, e] at h4
    exact h4.2
theorem rF_aK {r t f n : Nat} (h : rF r = some (t, f, n)) : aK r = (t + 1, n) := by
  unfold rF at h
  split at h
  all_goals first | (cases h; done) | (injection h with h; injection h with h1 h2; injection h2 with h2 h3; subst h1; subst h2; subst h3; rfl)
/-- a number of the reference's state is read -/
theorem gA (hS : Shp S) (hX : RX I0 I A) {r t f n : Nat} (m : Nat) {i : Int32} {k : Int32 → Option (β × mM)} (hr : rF r = some (t, f, n)) (hi : i = nI m) (hm : m < n) (h : pw S (k (A.1 f m)) Q) : pw S (x_aI (I, S) t (some r) i k) Q := by
  obtain ⟨q, h1, h2⟩ := rF_in hr
  have hk := aK_in hS (rF_aK hr)
  refine pw_aI m hk.1 hi (by rw [hk.2]; exact hm) (by rw [hk.2]; omega) ?_
  rw [rsc hX.1 q h1 hm]
  exact h
theorem RX_set (hX : RX I0 I A) {r t f n m : Nat} {v : Int32} (hr : rF r = some (t, f, n)) (hf : f ≠ 6 ∧ f ≠ 7 ∧ f ≠ 12) : RX I0 (iput I r m v) (aI A f m v) := by
  obtain ⟨q, h1, h2, h3, h4, h5, h6, h7, h8, h9, h10⟩ := rF_in hr
  refine ⟨RInv_set hX.1 q h1 h9 hf.1 hf.2.1 hf.2.2, fun x hx => ?_, fun j hj => ?_⟩
  · rw [iput_n _ _ _ (by unfold kp at hx; omega)]
    exact hX.2.1 x hx
  · rw [iput_n _ _ _ (by omega)]
    exact hX.2.2 j hj
/-- a number of the reference's state is written -/
theorem sA (hS : Shp S) (hX : RX I0 I A) {r f n : Nat} (m : Nat) {i v : Int32} {k : mM → Option (β × mM)} (hr : rF r = some (0, f, n)) (hf : f ≠ 6 ∧ f ≠ 7 ∧ f ≠ 12) (hi : i = nI m) (hm : m < n) (h : ∀ J, RX I0 J (aI A f m v) → pw S (k (J, S)) Q) : pw S (x_wI (I, S) (some r) i v k) Q := by
  obtain ⟨q, h1, h2, h3, h4, h5, h6, h7, h8, h9, h10⟩ := rF_in hr
  have hk := aK_in hS (rF_aK hr)
  exact pw_wI m hk.1 hi (by rw [hk.2]; exact hm) (by rw [hk.2]; omega) (h _ (RX_set hX hr hf))
theorem sZ (hS : Shp S) (hX : RX I0 I A) {r f n : Nat} (m : Nat) {i v : Int32} {k : mM → Option (β × mM)} (hr : rF r = some (1, f, n)) (hf : f ≠ 6 ∧ f ≠ 7 ∧ f ≠ 12) (hv : v = 0 ∨ v = 1) (hi : i = nI m) (hm : m < n) (h : ∀ J, RX I0 J (aI A f m v) → pw S (k (J, S)) Q) : pw S (x_wZ (I, S) (some r) i v k) Q := by
  obtain ⟨q, h1, h2, h3, h4, h5, h6, h7, h8, h9, h10⟩ := rF_in hr
  have hk := aK_in hS (rF_aK hr)
  exact pw_wZ m hk.1 hi (by rw [hk.2]; exact hm) (by rw [hk.2]; omega) hv (h _ (RX_set hX hr hf))
theorem gM (hS : Shp S) {j : Nat} {k : Int32 → Option (β × mM)} (h : pw S (k (I 1282 j)) Q) : pw S (x_gI (I, S) 10 (some 1282) j k) Q := pw_gI hS.2.2.2.1 h
theorem M_k (hS : Shp S) : S.2.1 1282 = 10 + 10 := hS.2.2.2.1
end RR
/-! what RInv reads: rows that are none of its own may change -/
theorem RInv_eq {I J : mIm} {A : aT} (h : RInv I A) (e : ∀ r, 1282 < r → r ≠ 1285 → r ≠ 1293 → r ≠ 1309 → r ≠ 1311 → r ≠ 1312 → r ≠ 1313 → r ≠ 1314 → r ≠ 1315 → r ≠ 1343 → J r = I r) (e1 : J 1282 1 = I 1282 1) (e3 : J 1282 3 = I 1282 3) (e15 : J 1282 15 = I 1282 15) : RInv J A := by
  obtain ⟨h1, h2, h3, h4, h5⟩ := h
  refine ⟨?_, fun q hq k hk => ?_, fun k hk => ?_, fun s hs => ?_, fun l hl => ?_⟩
  · unfold rGl fL at h1 ⊢
    rw [e1, e3, e15, e 1283 (by decide) (by decide) (by decide) (by decide) (by decide) (by decide) (by decide) (by decide) (by decide) (by decide), e 1284 (by decide) (by decide) (by decide) (by decide) (by decide) (by decide) (by decide) (by decide) (by decide) (by decide)]
    exact h1
  · have hr : ∀ q ∈ rTab, 1282 < q.1 ∧ q.1 ≠ 1285 ∧ q.1 ≠ 1293 ∧ q.1 ≠ 1309 ∧ q.1 ≠ 1311 ∧ q.1 ≠ 1312 ∧ q.1 ≠ 1313 ∧ q.1 ≠ 1314 ∧ q.1 ≠ 1315 ∧ q.1 ≠ 1343 := by decide
    obtain ⟨a1, a2, a3, a4, a5, a6, a7, a8, a9, a10⟩ := hr q hq
    rw [e q.1 a1 a2 a3 a4 a5 a6 a7 a8 a9 a10]
    exact h2 q hq k hk
  · have := h3 k hk
    unfold rRv fL at this ⊢
    rw [e 1291 (by decide) (by decide) (by decide) (by decide) (by decide) (by decide) (by decide) (by decide) (by decide) (by decide), e 1292 (by decide) (by decide) (by decide) (by decide) (by decide) (by decide) (by decide) (by decide) (by decide) (by decide), e 1289 (by decide) (by decide) (by decide) (by decide) (by decide) (by decide) (by decide) (by decide) (by decide) (by decide), e 1290 (by decide) (by decide) (by decide) (by decide) (by decide) (by decide) (by decide) (by decide) (by decide) (by decide)]
    exact this
  · have := h4 s hs
    unfold rQu rMl rSn fL at this ⊢
    rw [e 1296 (by decide) (by decide) (by decide) (by decide) (by decide) (by decide) (by decide) (by decide) (by decide) (by decide), e 1297 (by decide) (by decide) (by decide) (by decide) (by decide) (by decide) (by decide) (by decide) (by decide) (by decide), e 1298 (by decide) (by decide) (by decide) (by decide) (by decide) (by decide) (by decide) (by decide) (by decide) (by decide), e 1344 (by decide) (by decide) (by decide) (by decide) (by decide) (by decide) (by decide) (by decide) (by decide) (by decide), e 1345 (by decide) (by decide) (by decide) (by decide) (by decide) (by decide) (by decide) (by decide) (by decide) (by decide), e 1303 (by decide) (by decide) (by decide) (by decide) (by decide) (by decide) (by decide) (by decide) (by decide) (by decide), e 1304 (by decide) (by decide) (by decide) (by decide) (by decide) (by decide) (by decide) (by decide) (by decide) (by decide), e 1305 (by decide) (by decide) (by decide) (by decide) (by decide) (by decide) (by decide) (by decide) (by decide) (by decide), e 1307 (by decide) (by decide) (by decide) (by decide) (by decide) (by decide) (by decide) (by decide) (by decide) (by decide), e 1308 (by decide) (by decide) (by decide) (by decide) (by decide) (by decide) (by decide) (by decide) (by decide) (by decide)]
    exact this
  · have := h5 l hl
    unfold rLk fL at this ⊢
    rw [e 1331 (by decide) (by decide) (by decide) (by decide) (by decide) (by decide) (by decide) (by decide) (by decide) (by decide), e 1330 (by decide) (by decide) (by decide) (by decide) (by decide) (by decide) (by decide) (by decide) (by decide) (by decide), e 1333 (by decide) (by decide) (by decide) (by decide) (by decide) (by decide) (by decide) (by decide) (by decide) (by decide), e 1332 (by decide) (by decide) (by decide) (by decide) (by decide) (by decide) (by decide) (by decide) (by decide) (by decide), e 1336 (by decide) (by decide) (by decide) (by decide) (by decide) (by decide) (by decide) (by decide) (by decide) (by decide), e 1335 (by decide) (by decide) (by decide) (by decide) (by decide) (by decide) (by decide) (by decide) (by decide) (by decide), e 1334 (by decide) (by decide) (by decide) (by decide) (by decide) (by decide) (by decide) (by decide) (by decide) (by decide), e 1340 (by decide) (by decide) (by decide) (by decide) (by decide) (by decide) (by decide) (by decide) (by decide) (by decide), e 1339 (by decide) (by decide) (by decide) (by decide) (by decide) (by decide) (by decide) (by decide) (by decide) (by decide), e 1338 (by decide) (by decide) (by decide) (by decide) (by decide) (by decide) (by decide) (by decide) (by decide) (by decide), e 1337 (by decide) (by decide) (by decide) (by decide) (by decide) (by decide) (by decide) (by decide) (by decide) (by decide)]
    exact this
