/-! the shape of the memory: which cells there are, and what they point at -/
abbrev cN (s : Nat) : Nat := 18 + 208 * s
abbrev cK (s o : Nat) : Nat := 76 + 208 * s + 30 * (if o < s then o else o - 1)
def isS (S : mS) (b : Nat) : Prop := S.2.1 b = 17 ∧ S.1 b 0 = some (b + 1) ∧ isB S (b + 1) 92
def isV (S : mS) (b : Nat) : Prop := S.2.1 b = 14 ∧ S.1 b 0 = some (b + 1) ∧ isB S (b + 1) 93 ∧ S.1 b 5 = some (b + 3) ∧ isB S (b + 3) 90
def isA (S : mS) (r k n : Nat) : Prop := S.2.1 r = k ∧ S.2.2.1 r = n
def ShN (S : mS) (s : Nat) : Prop := S.2.1 (cN s) = 18 ∧ S.1 17 s = some (cN s) ∧ S.1 (cN s + 54) s = none ∧ S.1 (cN s) 1 = some (cN s + 1) ∧ S.1 (cN s) 2 = some (cN s + 2) ∧ S.1 (cN s) 3 = some (cN s + 5) ∧ S.1 (cN s) 4 = some (cN s + 10) ∧ S.1 (cN s) 5 = some (cN s + 36) ∧ S.1 (cN s) 6 = some (cN s + 54) ∧ S.1 (cN s) 7 = some (cN s + 55) ∧ isA S (cN s + 1) 1 9 ∧ isS S (cN s + 2) ∧ isV S (cN s + 5) ∧ isW S (cN s + 10) 12 90 ∧ isW S (cN s + 36) 8 16 ∧ isA S (cN s + 54) 4 6 ∧ S.2.1 (cN s + 55) = 15 ∧ S.1 (cN s + 55) 1 = some (cN s + 56) ∧ S.1 (cN s + 55) 2 = some (cN s + 57) ∧ isA S (cN s + 56) 1 36 ∧ isA S (cN s + 57) 1 36
def ShK (S : mS) (s o : Nat) : Prop := S.1 (cN s + 54) o = some (cK s o) ∧ S.2.1 (cK s o) = 12 ∧ S.1 (cK s o) 0 = some (cN s) ∧ S.1 (cK s o) 2 = some (cK s o + 1) ∧ S.1 (cK s o) 3 = some (cK s o + 2) ∧ S.1 (cK s o) 4 = some (cK s o + 4) ∧ S.1 (cK s o) 5 = some (cK s o + 6) ∧ S.1 (cK s o) 6 = some (cK s o + 20) ∧ S.2.1 (cK s o + 1) = 13 ∧ isB S (cK s o + 2) 200 ∧ isB S (cK s o + 4) 64 ∧ isW S (cK s o + 6) 6 16 ∧ isW S (cK s o + 20) 4 17
def ShC (S : mS) : Prop := S.2.1 16 = 19 ∧ S.1 16 0 = some 17 ∧ S.1 16 1 = some 1266 ∧ S.1 16 2 = some 1268 ∧ S.1 16 3 = some 1270 ∧ S.1 16 4 = some 1273 ∧ S.1 16 5 = some 1278 ∧ S.1 16 6 = some 1280 ∧ isA S 17 5 6 ∧ isB S 1266 260 ∧ isB S 1268 907 ∧ isS S 1270 ∧ isV S 1273 ∧ isB S 1278 16 ∧ S.2.1 1280 = 11 ∧ S.1 1280 11 = some 1281 ∧ S.2.1 1281 = 13
/-- the reference's arrays: field, cell, kind, length -/
def mTab : List (Nat × Nat × Nat × Nat) := [(0, 1283, 1, 260), (2, 1284, 1, 1024), (4, 1285, 1, 1024), (7, 1286, 1, 7), (8, 1287, 1, 7), (9, 1288, 2, 7), (10, 1289, 1, 7), (11, 1290, 1, 5201), (12, 1291, 1, 7), (13, 1292, 1, 630), (14, 1293, 1, 92), (16, 1294, 1, 54), (17, 1295, 2, 36), (18, 1296, 1, 6), (19, 1297, 1, 72), (20, 1298, 1, 6480), (21, 1299, 1, 6), (22, 1300, 2, 6), (23, 1301, 1, 6), (24, 1302, 2, 6), (25, 1303, 1, 6), (26, 1304, 1, 6), (27, 1305, 1, 6144), (28, 1306, 1, 6), (29, 1307, 1, 6), (30, 1308, 1, 540), (31, 1309, 2, 6), (32, 1310, 1, 30), (33, 1311, 1, 90), (35, 1312, 2, 6), (36, 1313, 1, 90), (46, 1314, 1, 2), (47, 1315, 2, 2), (49, 1316, 1, 36), (50, 1317, 1, 36), (51, 1318, 1, 36), (52, 1319, 1, 36), (53, 1320, 1, 36), (54, 1321, 1, 36), (55, 1322, 1, 36), (56, 1323, 1, 36), (57, 1324, 1, 36), (58, 1325, 2, 36), (59, 1326, 2, 36), (60, 1327, 2, 36), (61, 1328, 1, 36), (62, 1329, 1, 36), (63, 1330, 1, 7200), (64, 1331, 1, 36), (65, 1332, 1, 2304), (66, 1333, 1, 36), (67, 1334, 1, 3456), (68, 1335, 1, 216), (69, 1336, 1, 36), (70, 1337, 1, 2304), (71, 1338, 1, 144), (72, 1339, 1, 144), (73, 1340, 1, 36), (74, 1341, 1, 216), (75, 1342, 1, 216), (76, 1343, 1, 16), (78, 1344, 1, 6), (79, 1345, 1, 720), (80, 1346, 1, 6)]
def ShM (S : mS) : Prop := S.2.1 1282 = 20 ∧ ∀ q ∈ mTab, S.1 1282 q.1 = some q.2.1 ∧ isA S q.2.1 q.2.2.1 q.2.2.2
def Shp (S : mS) : Prop := ShC S ∧ (∀ s, s < 6 → ShN S s) ∧ (∀ s, s < 6 → ∀ o, o < 6 → o ≠ s → ShK S s o) ∧ ShM S
def dc_B (S : mS) (b cap : Nat) : Decidable (isB S b cap) := by unfold isB; infer_instance
def dc_A (S : mS) (r k n : Nat) : Decidable (isA S r k n) := by unfold isA; infer_instance
def dc_W (S : mS) (w n cap : Nat) : Decidable (isW S w n cap) := by
  unfold isW
  haveI := fun b => dc_B S b cap
  infer_instance
def dc_S (S : mS) (b : Nat) : Decidable (isS S b) := by
  unfold isS
  haveI := fun b cap => dc_B S b cap
  infer_instance
def dc_V (S : mS) (b : Nat) : Decidable (isV S b) := by
  unfold isV
  haveI := fun b cap => dc_B S b cap
  infer_instance
def dc_C (S : mS) : Decidable (ShC S) := by
  unfold ShC
  haveI := fun b cap => dc_B S b cap
  haveI := fun b => dc_S S b
  haveI := fun b => dc_V S b
  haveI := fun r k n => dc_A S r k n
  infer_instance
def dc_N (S : mS) (s : Nat) : Decidable (ShN S s) := by
  unfold ShN
  haveI := fun w n cap => dc_W S w n cap
  haveI := fun b => dc_S S b
  haveI := fun b => dc_V S b
  haveI := fun r k n => dc_A S r k n
  infer_instance
def dc_K (S : mS) (s o : Nat) : Decidable (ShK S s o) := by
  unfold ShK
  haveI := fun w n cap => dc_W S w n cap
  haveI := fun b cap => dc_B S b cap
  infer_instance
def dc_M (S : mS) : Decidable (ShM S) := by
  unfold ShM
  haveI := fun r k n => dc_A S r k n
  infer_instance
theorem fl_get {β : Type} (n : Nat) (hn : 0 < n) : ∀ (ll : List (List β)), (∀ l ∈ ll, l.length = n) → ∀ k : Nat, ll.flatten[k]? = ((ll[k / n]?).getD [])[k % n]?
  | [], _, k => by simp
  | l :: ll, h, k => by
    have hl := h l List.mem_cons_self
    rw [List.flatten_cons]
    by_cases hk : k < n
    · rw [List.getElem?_append_left (by omega), Nat.div_eq_of_lt hk, Nat.mod_eq_of_lt hk]
      rfl
    · rw [List.getElem?_append_right (by omega), hl, fl_get n hn ll (fun x hx => h x (List.mem_cons_of_mem _ hx)) (k - n)]
      obtain ⟨q, rfl⟩ : ∃ q, k = q + n := ⟨k - n, by omega⟩
      rw [Nat.add_sub_cancel, Nat.add_div_right _ hn, Nat.add_mod_right, List.getElem?_cons_succ]
def ycq (r : Nat) : mD := if 16 ≤ r ∧ r < 1347 then (((((yq[(1346 - r) / 121]?).getD [])[(1346 - r) % 121 / 11]?).getD [])[(1346 - r) % 121 % 11]?).getD yz else yz
def yql : Bool := yq.all (fun l => l.length == 11 && l.all (fun k => k.length == 11))
theorem yql_ok : yql = true := by decide +kernel
theorem ycq_eq (r : Nat) : yc Y1 r = ycq r := by
  have h := yql_ok
  unfold yql at h
  have h1 : ∀ l ∈ yq, l.length = 11 := fun l hl => by
    have := List.all_eq_true.mp h l hl
    simp only [Bool.and_eq_true, beq_iff_eq] at this
    exact this.1
  have h2 : ∀ k ∈ yq.flatten, k.length = 11 := fun k hk => by
    obtain ⟨l, hl, hkl⟩ := List.mem_flatten.mp hk
    have := List.all_eq_true.mp h l hl
    simp only [Bool.and_eq_true, beq_iff_eq] at this
    have h3 := List.all_eq_true.mp this.2 k hkl
    simpa using h3
  unfold yc ycq
  show (if 16 ≤ r ∧ r < 16 + 1331 then (yl[1331 + 15 - r]?).getD yz else yz) = _
  by_cases hr : 16 ≤ r ∧ r < 1347
  · rw [if_pos hr, if_pos (by omega)]
    unfold yl
    rw [fl_get 11 (by decide) _ h2, fl_get 11 (by decide) _ h1]
    have e1 : (1331 + 15 - r) / 11 / 11 = (1346 - r) / 121 := by rw [Nat.div_div_eq_div_mul]
    have e2 : (1331 + 15 - r) / 11 % 11 = (1346 - r) % 121 / 11 := by omega
    have e3 : (1331 + 15 - r) % 11 = (1346 - r) % 121 % 11 := by omega
    rw [e1, e2, e3]
  · rw [if_neg hr, if_neg (by omega)]
/-- the first memory, for quick reading -/
def MQ1 : mM := (fun r j => ((ycq r).2.2.2[j]?).getD 0, fun r j => ((ycq r).2.2.1[j]?).getD none, fun r => (ycq r).1, fun r => (ycq r).2.1, 1331, 65821)
theorem M1_eq : M1 = MQ1 := by
  unfold M1 toM MQ1
  have e : yc Y1 = ycq := funext ycq_eq
  rw [e]
  rfl
def bS_1 : Bool := @decide _ (dc_C MQ1.2) && @decide _ (dc_M MQ1.2)
theorem bS_1_ok : bS_1 = true := by decide +kernel
def bS_2 : Bool := (List.range 6).all (fun s => @decide _ (dc_N MQ1.2 s))
theorem bS_2_ok : bS_2 = true := by decide +kernel
def bS_3 : Bool := (List.range 6).all (fun s => (List.range 6).all (fun o => o == s || @decide _ (dc_K MQ1.2 s o)))
theorem bS_3_ok : bS_3 = true := by decide +kernel
theorem shp_1 : Shp M1.2 := by
  rw [M1_eq]
  have h := bS_1_ok
  unfold bS_1 at h
  simp only [Bool.and_eq_true] at h
  refine ⟨@of_decide_eq_true _ (dc_C MQ1.2) h.1, fun s hs => ?_, fun s hs o ho hne => ?_, @of_decide_eq_true _ (dc_M MQ1.2) h.2⟩
  · exact @of_decide_eq_true _ (dc_N MQ1.2 s) (List.all_eq_true.mp bS_2_ok s (List.mem_range.mpr hs))
  · have h5 := List.all_eq_true.mp (List.all_eq_true.mp bS_3_ok s (List.mem_range.mpr hs)) o (List.mem_range.mpr ho)
    simp only [Bool.or_eq_true, beq_iff_eq] at h5
    exact @of_decide_eq_true _ (dc_K MQ1.2 s o) (h5.resolve_left hne)
theorem sm_tape {S : mS} (h : ShM S) : S.1 1282 0 = some 1283 ∧ S.2.1 1283 = 1 ∧ S.2.2.1 1283 = 260 := h.2 (0, 1283, 1, 260) (List.mem_of_getElem? (i := 0) rfl)
theorem sm_out {S : mS} (h : ShM S) : S.1 1282 2 = some 1284 ∧ S.2.1 1284 = 1 ∧ S.2.2.1 1284 = 1024 := h.2 (2, 1284, 1, 1024) (List.mem_of_getElem? (i := 1) rfl)
theorem sm_made {S : mS} (h : ShM S) : S.1 1282 4 = some 1285 ∧ S.2.1 1285 = 1 ∧ S.2.2.1 1285 = 1024 := h.2 (4, 1285, 1, 1024) (List.mem_of_getElem? (i := 2) rfl)
theorem sm_last {S : mS} (h : ShM S) : S.1 1282 7 = some 1286 ∧ S.2.1 1286 = 1 ∧ S.2.2.1 1286 = 7 := h.2 (7, 1286, 1, 7) (List.mem_of_getElem? (i := 3) rfl)
theorem sm_ones {S : mS} (h : ShM S) : S.1 1282 8 = some 1287 ∧ S.2.1 1287 = 1 ∧ S.2.2.1 1287 = 7 := h.2 (8, 1287, 1, 7) (List.mem_of_getElem? (i := 4) rfl)
theorem sm_open {S : mS} (h : ShM S) : S.1 1282 9 = some 1288 ∧ S.2.1 1288 = 2 ∧ S.2.2.1 1288 = 7 := h.2 (9, 1288, 2, 7) (List.mem_of_getElem? (i := 5) rfl)
theorem sm_rowSize {S : mS} (h : ShM S) : S.1 1282 10 = some 1289 ∧ S.2.1 1289 = 1 ∧ S.2.2.1 1289 = 7 := h.2 (10, 1289, 1, 7) (List.mem_of_getElem? (i := 6) rfl)
theorem sm_row {S : mS} (h : ShM S) : S.1 1282 11 = some 1290 ∧ S.2.1 1290 = 1 ∧ S.2.2.1 1290 = 5201 := h.2 (11, 1290, 1, 5201) (List.mem_of_getElem? (i := 7) rfl)
theorem sm_cameSize {S : mS} (h : ShM S) : S.1 1282 12 = some 1291 ∧ S.2.1 1291 = 1 ∧ S.2.2.1 1291 = 7 := h.2 (12, 1291, 1, 7) (List.mem_of_getElem? (i := 8) rfl)
theorem sm_came {S : mS} (h : ShM S) : S.1 1282 13 = some 1292 ∧ S.2.1 1292 = 1 ∧ S.2.2.1 1292 = 630 := h.2 (13, 1292, 1, 630) (List.mem_of_getElem? (i := 9) rfl)
theorem sm_bytes {S : mS} (h : ShM S) : S.1 1282 14 = some 1293 ∧ S.2.1 1293 = 1 ∧ S.2.2.1 1293 = 92 := h.2 (14, 1293, 1, 92) (List.mem_of_getElem? (i := 10) rfl)
theorem sm_tuned {S : mS} (h : ShM S) : S.1 1282 16 = some 1294 ∧ S.2.1 1294 = 1 ∧ S.2.2.1 1294 = 54 := h.2 (16, 1294, 1, 54) (List.mem_of_getElem? (i := 11) rfl)
theorem sm_hears {S : mS} (h : ShM S) : S.1 1282 17 = some 1295 ∧ S.2.1 1295 = 2 ∧ S.2.2.1 1295 = 36 := h.2 (17, 1295, 2, 36) (List.mem_of_getElem? (i := 12) rfl)
theorem sm_queueSize {S : mS} (h : ShM S) : S.1 1282 18 = some 1296 ∧ S.2.1 1296 = 1 ∧ S.2.2.1 1296 = 6 := h.2 (18, 1296, 1, 6) (List.mem_of_getElem? (i := 13) rfl)
theorem sm_queueLong {S : mS} (h : ShM S) : S.1 1282 19 = some 1297 ∧ S.2.1 1297 = 1 ∧ S.2.2.1 1297 = 72 := h.2 (19, 1297, 1, 72) (List.mem_of_getElem? (i := 14) rfl)
theorem sm_queue {S : mS} (h : ShM S) : S.1 1282 20 = some 1298 ∧ S.2.1 1298 = 1 ∧ S.2.2.1 1298 = 6480 := h.2 (20, 1298, 1, 6480) (List.mem_of_getElem? (i := 15) rfl)
theorem sm_wait {S : mS} (h : ShM S) : S.1 1282 21 = some 1299 ∧ S.2.1 1299 = 1 ∧ S.2.2.1 1299 = 6 := h.2 (21, 1299, 1, 6) (List.mem_of_getElem? (i := 16) rfl)
theorem sm_carrier {S : mS} (h : ShM S) : S.1 1282 22 = some 1300 ∧ S.2.1 1300 = 2 ∧ S.2.2.1 1300 = 6 := h.2 (22, 1300, 2, 6) (List.mem_of_getElem? (i := 17) rfl)
theorem sm_level {S : mS} (h : ShM S) : S.1 1282 23 = some 1301 ∧ S.2.1 1301 = 1 ∧ S.2.2.1 1301 = 6 := h.2 (23, 1301, 1, 6) (List.mem_of_getElem? (i := 18) rfl)
theorem sm_sending {S : mS} (h : ShM S) : S.1 1282 24 = some 1302 ∧ S.2.1 1302 = 2 ∧ S.2.2.1 1302 = 6 := h.2 (24, 1302, 2, 6) (List.mem_of_getElem? (i := 19) rfl)
theorem sm_lineSize {S : mS} (h : ShM S) : S.1 1282 25 = some 1303 ∧ S.2.1 1303 = 1 ∧ S.2.2.1 1303 = 6 := h.2 (25, 1303, 1, 6) (List.mem_of_getElem? (i := 20) rfl)
theorem sm_lineAt {S : mS} (h : ShM S) : S.1 1282 26 = some 1304 ∧ S.2.1 1304 = 1 ∧ S.2.2.1 1304 = 6 := h.2 (26, 1304, 1, 6) (List.mem_of_getElem? (i := 21) rfl)
theorem sm_line {S : mS} (h : ShM S) : S.1 1282 27 = some 1305 ∧ S.2.1 1305 = 1 ∧ S.2.2.1 1305 = 6144 := h.2 (27, 1305, 1, 6144) (List.mem_of_getElem? (i := 22) rfl)
theorem sm_had {S : mS} (h : ShM S) : S.1 1282 28 = some 1306 ∧ S.2.1 1306 = 1 ∧ S.2.2.1 1306 = 6 := h.2 (28, 1306, 1, 6) (List.mem_of_getElem? (i := 23) rfl)
theorem sm_sentLong {S : mS} (h : ShM S) : S.1 1282 29 = some 1307 ∧ S.2.1 1307 = 1 ∧ S.2.2.1 1307 = 6 := h.2 (29, 1307, 1, 6) (List.mem_of_getElem? (i := 24) rfl)
theorem sm_sent {S : mS} (h : ShM S) : S.1 1282 30 = some 1308 ∧ S.2.1 1308 = 1 ∧ S.2.2.1 1308 = 540 := h.2 (30, 1308, 1, 540) (List.mem_of_getElem? (i := 25) rfl)
theorem sm_through {S : mS} (h : ShM S) : S.1 1282 31 = some 1309 ∧ S.2.1 1309 = 2 ∧ S.2.2.1 1309 = 6 := h.2 (31, 1309, 2, 6) (List.mem_of_getElem? (i := 26) rfl)
theorem sm_counts {S : mS} (h : ShM S) : S.1 1282 32 = some 1310 ∧ S.2.1 1310 = 1 ∧ S.2.2.1 1310 = 30 := h.2 (32, 1310, 1, 30) (List.mem_of_getElem? (i := 27) rfl)
theorem sm_frame {S : mS} (h : ShM S) : S.1 1282 33 = some 1311 ∧ S.2.1 1311 = 1 ∧ S.2.2.1 1311 = 90 := h.2 (33, 1311, 1, 90) (List.mem_of_getElem? (i := 28) rfl)
theorem sm_arrived {S : mS} (h : ShM S) : S.1 1282 35 = some 1312 ∧ S.2.1 1312 = 2 ∧ S.2.2.1 1312 = 6 := h.2 (35, 1312, 2, 6) (List.mem_of_getElem? (i := 29) rfl)
theorem sm_at0 {S : mS} (h : ShM S) : S.1 1282 36 = some 1313 ∧ S.2.1 1313 = 1 ∧ S.2.2.1 1313 = 90 := h.2 (36, 1313, 1, 90) (List.mem_of_getElem? (i := 30) rfl)
theorem sm_via {S : mS} (h : ShM S) : S.1 1282 46 = some 1314 ∧ S.2.1 1314 = 1 ∧ S.2.2.1 1314 = 2 := h.2 (46, 1314, 1, 2) (List.mem_of_getElem? (i := 31) rfl)
theorem sm_repeated {S : mS} (h : ShM S) : S.1 1282 47 = some 1315 ∧ S.2.1 1315 = 2 ∧ S.2.2.1 1315 = 2 := h.2 (47, 1315, 2, 2) (List.mem_of_getElem? (i := 32) rfl)
theorem sm_mode {S : mS} (h : ShM S) : S.1 1282 49 = some 1316 ∧ S.2.1 1316 = 1 ∧ S.2.2.1 1316 = 36 := h.2 (49, 1316, 1, 36) (List.mem_of_getElem? (i := 33) rfl)
theorem sm_viaOne {S : mS} (h : ShM S) : S.1 1282 50 = some 1317 ∧ S.2.1 1317 = 1 ∧ S.2.2.1 1317 = 36 := h.2 (50, 1317, 1, 36) (List.mem_of_getElem? (i := 34) rfl)
theorem sm_viaTwo {S : mS} (h : ShM S) : S.1 1282 51 = some 1318 ∧ S.2.1 1318 = 1 ∧ S.2.2.1 1318 = 36 := h.2 (51, 1318, 1, 36) (List.mem_of_getElem? (i := 35) rfl)
theorem sm_mark {S : mS} (h : ShM S) : S.1 1282 52 = some 1319 ∧ S.2.1 1319 = 1 ∧ S.2.2.1 1319 = 36 := h.2 (52, 1319, 1, 36) (List.mem_of_getElem? (i := 36) rfl)
theorem sm_vs {S : mS} (h : ShM S) : S.1 1282 53 = some 1320 ∧ S.2.1 1320 = 1 ∧ S.2.2.1 1320 = 36 := h.2 (53, 1320, 1, 36) (List.mem_of_getElem? (i := 37) rfl)
theorem sm_va {S : mS} (h : ShM S) : S.1 1282 54 = some 1321 ∧ S.2.1 1321 = 1 ∧ S.2.2.1 1321 = 36 := h.2 (54, 1321, 1, 36) (List.mem_of_getElem? (i := 38) rfl)
theorem sm_vr {S : mS} (h : ShM S) : S.1 1282 55 = some 1322 ∧ S.2.1 1322 = 1 ∧ S.2.2.1 1322 = 36 := h.2 (55, 1322, 1, 36) (List.mem_of_getElem? (i := 39) rfl)
theorem sm_clock {S : mS} (h : ShM S) : S.1 1282 56 = some 1323 ∧ S.2.1 1323 = 1 ∧ S.2.2.1 1323 = 36 := h.2 (56, 1323, 1, 36) (List.mem_of_getElem? (i := 40) rfl)
theorem sm_tries {S : mS} (h : ShM S) : S.1 1282 57 = some 1324 ∧ S.2.1 1324 = 1 ∧ S.2.2.1 1324 = 36 := h.2 (57, 1324, 1, 36) (List.mem_of_getElem? (i := 41) rfl)
theorem sm_polls {S : mS} (h : ShM S) : S.1 1282 58 = some 1325 ∧ S.2.1 1325 = 2 ∧ S.2.2.1 1325 = 36 := h.2 (58, 1325, 2, 36) (List.mem_of_getElem? (i := 42) rfl)
theorem sm_rejects {S : mS} (h : ShM S) : S.1 1282 59 = some 1326 ∧ S.2.1 1326 = 2 ∧ S.2.2.1 1326 = 36 := h.2 (59, 1326, 2, 36) (List.mem_of_getElem? (i := 43) rfl)
theorem sm_held {S : mS} (h : ShM S) : S.1 1282 60 = some 1327 ∧ S.2.1 1327 = 2 ∧ S.2.2.1 1327 = 36 := h.2 (60, 1327, 2, 36) (List.mem_of_getElem? (i := 44) rfl)
theorem sm_calls {S : mS} (h : ShM S) : S.1 1282 61 = some 1328 ∧ S.2.1 1328 = 1 ∧ S.2.2.1 1328 = 36 := h.2 (61, 1328, 1, 36) (List.mem_of_getElem? (i := 45) rfl)
theorem sm_seen {S : mS} (h : ShM S) : S.1 1282 62 = some 1329 ∧ S.2.1 1329 = 1 ∧ S.2.2.1 1329 = 36 := h.2 (62, 1329, 1, 36) (List.mem_of_getElem? (i := 46) rfl)
theorem sm_outbox {S : mS} (h : ShM S) : S.1 1282 63 = some 1330 ∧ S.2.1 1330 = 1 ∧ S.2.2.1 1330 = 7200 := h.2 (63, 1330, 1, 7200) (List.mem_of_getElem? (i := 47) rfl)
theorem sm_outboxSize {S : mS} (h : ShM S) : S.1 1282 64 = some 1331 ∧ S.2.1 1331 = 1 ∧ S.2.2.1 1331 = 36 := h.2 (64, 1331, 1, 36) (List.mem_of_getElem? (i := 48) rfl)
theorem sm_inbox {S : mS} (h : ShM S) : S.1 1282 65 = some 1332 ∧ S.2.1 1332 = 1 ∧ S.2.2.1 1332 = 2304 := h.2 (65, 1332, 1, 2304) (List.mem_of_getElem? (i := 49) rfl)
theorem sm_inboxSize {S : mS} (h : ShM S) : S.1 1282 66 = some 1333 ∧ S.2.1 1333 = 1 ∧ S.2.2.1 1333 = 36 := h.2 (66, 1333, 1, 36) (List.mem_of_getElem? (i := 50) rfl)
theorem sm_packets {S : mS} (h : ShM S) : S.1 1282 67 = some 1334 ∧ S.2.1 1334 = 1 ∧ S.2.2.1 1334 = 3456 := h.2 (67, 1334, 1, 3456) (List.mem_of_getElem? (i := 51) rfl)
theorem sm_packetLong {S : mS} (h : ShM S) : S.1 1282 68 = some 1335 ∧ S.2.1 1335 = 1 ∧ S.2.2.1 1335 = 216 := h.2 (68, 1335, 1, 216) (List.mem_of_getElem? (i := 52) rfl)
theorem sm_packetMany {S : mS} (h : ShM S) : S.1 1282 69 = some 1336 ∧ S.2.1 1336 = 1 ∧ S.2.2.1 1336 = 36 := h.2 (69, 1336, 1, 36) (List.mem_of_getElem? (i := 53) rfl)
theorem sm_said {S : mS} (h : ShM S) : S.1 1282 70 = some 1337 ∧ S.2.1 1337 = 1 ∧ S.2.2.1 1337 = 2304 := h.2 (70, 1337, 1, 2304) (List.mem_of_getElem? (i := 54) rfl)
theorem sm_saidLong {S : mS} (h : ShM S) : S.1 1282 71 = some 1338 ∧ S.2.1 1338 = 1 ∧ S.2.2.1 1338 = 144 := h.2 (71, 1338, 1, 144) (List.mem_of_getElem? (i := 55) rfl)
theorem sm_saidKind {S : mS} (h : ShM S) : S.1 1282 72 = some 1339 ∧ S.2.1 1339 = 1 ∧ S.2.2.1 1339 = 144 := h.2 (72, 1339, 1, 144) (List.mem_of_getElem? (i := 56) rfl)
theorem sm_saidMany {S : mS} (h : ShM S) : S.1 1282 73 = some 1340 ∧ S.2.1 1340 = 1 ∧ S.2.2.1 1340 = 36 := h.2 (73, 1340, 1, 36) (List.mem_of_getElem? (i := 57) rfl)
theorem sm_quality {S : mS} (h : ShM S) : S.1 1282 74 = some 1341 ∧ S.2.1 1341 = 1 ∧ S.2.2.1 1341 = 216 := h.2 (74, 1341, 1, 216) (List.mem_of_getElem? (i := 58) rfl)
theorem sm_age {S : mS} (h : ShM S) : S.1 1282 75 = some 1342 ∧ S.2.1 1342 = 1 ∧ S.2.2.1 1342 = 216 := h.2 (75, 1342, 1, 216) (List.mem_of_getElem? (i := 59) rfl)
theorem sm_packet {S : mS} (h : ShM S) : S.1 1282 76 = some 1343 ∧ S.2.1 1343 = 1 ∧ S.2.2.1 1343 = 16 := h.2 (76, 1343, 1, 16) (List.mem_of_getElem? (i := 60) rfl)
theorem sm_mails {S : mS} (h : ShM S) : S.1 1282 78 = some 1344 ∧ S.2.1 1344 = 1 ∧ S.2.2.1 1344 = 6 := h.2 (78, 1344, 1, 6) (List.mem_of_getElem? (i := 61) rfl)
theorem sm_mail {S : mS} (h : ShM S) : S.1 1282 79 = some 1345 ∧ S.2.1 1345 = 1 ∧ S.2.2.1 1345 = 720 := h.2 (79, 1345, 1, 720) (List.mem_of_getElem? (i := 62) rfl)
theorem sm_written {S : mS} (h : ShM S) : S.1 1282 80 = some 1346 ∧ S.2.1 1346 = 1 ∧ S.2.2.1 1346 = 6 := h.2 (80, 1346, 1, 6) (List.mem_of_getElem? (i := 63) rfl)
