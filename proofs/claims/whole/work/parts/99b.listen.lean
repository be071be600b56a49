/-! listening: what is asked, and the class -/
def hsh (a b : Int32) : Int32 := (((a * 1000003 + b) ^^^ mush (a * 1000003 + b) 15) * 1540483477) ^^^ mush (((a * 1000003 + b) ^^^ mush (a * 1000003 + b) 15) * 1540483477) 13
def hrd (A : aT) (k i : Nat) : Prop := A.1 2 (6 * k + i) = 1 ∧ A.1 6 i = 1
def xsm (A : aT) (k : Nat) : Nat → Int32
  | 0 => 0
  | i + 1 => if A.1 2 (6 * k + i) = 0 then xsm A k i else if A.1 6 i = 0 then xsm A k i else xsm A k i ^^^ A.1 5 i
def carN (A : aT) (k : Nat) : Nat → Bool
  | 0 => false
  | i + 1 => carN A k i || (decide (A.1 2 (6 * k + i) = 1) && decide (A.1 6 i = 1))
def aCar (A : aT) (k : Nat) : Bool := decide (A.1 6 k = 0) && carN A k 6
def aLv (A : aT) (k : Nat) : Int32 := if mush (hsh (A.1 1 (9 * k + 8)) (A.1 0 0)) 20 < A.1 1 (9 * k + 7) then 1 - xsm A k 6 else xsm A k 6
def strN (A : aT) (k : Nat) : Nat → Bool
  | 0 => true
  | i + 1 => strN A k i && !(decide (A.1 2 (6 * k + i) = 1) && (decide (A.1 6 i = 1) && (decide (0 < A.1 7 i) && (decide (A.2.1 4 i = []) && decide (A.2.1 5 i = A.2.1 3 k)))))
def aStr (A : aT) (k : Nat) : aT := if strN A k 6 = true then cnt A k 2 else A
def aLs2 (B : aT) (k : Nat) (q : Int32 × rcT) : Int32 × aT := if q.1 = 0 then (0, aRc B k q.2) else (1, aStr (cnt (aRc B k q.2) k 1) k)
def aLis (A : aT) (k : Nat) : Int32 × aT := if aCar A k = true then aLs2 (aI A 4 k 1) k (rHr (aRt A k) (aLv A k)) else (0, aRc (aI A 4 k 0) k (0, A.1 10 k, 0, A.2.1 2 k, A.2.1 3 k))
def aLsA (A : aT) : Nat → aT
  | 0 => A
  | k + 1 => (aLis (aLsA A k) k).2
def arrv (A : aT) (i : Nat) : Int32 := (aLis (aLsA A i) i).1
/-! masks -/
theorem nat_and (a b i : Nat) : (a &&& b) / 2 ^ i % 2 = 1 ↔ (a / 2 ^ i % 2 = 1 ∧ b / 2 ^ i % 2 = 1) := by
  have h := Nat.testBit_and a b i
  rw [Nat.testBit_eq_decide_div_mod_eq, Nat.testBit_eq_decide_div_mod_eq, Nat.testBit_eq_decide_div_mod_eq] at h
  constructor
  · intro q
    rw [decide_eq_true q] at h
    have h := h.symm
    rw [Bool.and_eq_true, decide_eq_true_eq, decide_eq_true_eq] at h
    exact h
  · intro ⟨q1, q2⟩
    rw [decide_eq_true q1, decide_eq_true q2] at h
    exact of_decide_eq_true h
theorem nI_and {a b : Nat} (ha : a < 64) (hb : b < 64) : nI a &&& nI b = nI (a &&& b) := by
  apply Int32.toBitVec_inj.mp
  apply BitVec.eq_of_toNat_eq
  have h1 : (nI a).toBitVec.toNat = a := pk_tn (by omega)
  have h2 : (nI b).toBitVec.toNat = b := pk_tn (by omega)
  have h3 : (nI (a &&& b)).toBitVec.toNat = a &&& b := pk_tn (by have := Nat.and_le_left (n := a) (m := b); omega)
  rw [h3, Int32.toBitVec_and, BitVec.toNat_and, h1, h2]
theorem isMk_and {x y : Int32} {P Q : Nat → Prop} (h : isMk x P) (g : isMk y Q) : isMk (x &&& y) (fun i => P i ∧ Q i) := by
  obtain ⟨m, h1, rfl, h3⟩ := h
  obtain ⟨n, g1, rfl, g3⟩ := g
  refine ⟨m &&& n, by have := Nat.and_le_left (n := m) (m := n); omega, nI_and h1 g1, fun i hi => ?_⟩
  rw [nat_and, h3 i hi, g3 i hi]
theorem m64_0 : ∀ m, m < 64 → (∀ i, i < 6 → ¬ m / 2 ^ i % 2 = 1) → m = 0 := by decide +kernel
theorem isMk_z {x : Int32} {P : Nat → Prop} (h : isMk x P) : x = 0 ↔ ∀ i, i < 6 → ¬ P i := by
  obtain ⟨m, h1, rfl, h3⟩ := h
  constructor
  · intro q i hi hp
    have := (nI_eq (a := m) (b := 0) (by omega) (by decide)).mp q
    subst this
    have := (h3 i hi).mpr hp
    simp at this
  · intro q
    have := m64_0 m h1 (fun i hi w => q i hi ((h3 i hi).mp w))
    subst this
    rfl
theorem m64_b : ∀ m, m < 64 → ∀ i, i < 6 → (nI m >>> (nI i &&& 31)) &&& 1 = nI (m / 2 ^ i % 2) := by decide +kernel
theorem isMk_b {x : Int32} {P : Nat → Prop} (h : isMk x P) {i : Nat} (hi : i < 6) : (x >>> (nI i &&& 31)) &&& 1 = 0 ↔ ¬ P i := by
  obtain ⟨m, h1, rfl, h3⟩ := h
  rw [m64_b m h1 i hi, ← h3 i hi]
  have hm : m / 2 ^ i % 2 < 2 := Nat.mod_lt _ (by decide)
  constructor
  · intro q w
    rw [w] at q
    exact absurd q (by decide)
  · intro q
    rw [show m / 2 ^ i % 2 = 0 by omega]
    rfl
def pcn (m : Nat) : Nat → Nat
  | 0 => 0
  | i + 1 => pcn m i + m / 2 ^ i % 2
def bcV (x : Int32) : Int32 := (((((x - (mush x 1 &&& 1431655765)) &&& 858993459) + (mush (x - (mush x 1 &&& 1431655765)) 2 &&& 858993459) + mush (((x - (mush x 1 &&& 1431655765)) &&& 858993459) + (mush (x - (mush x 1 &&& 1431655765)) 2 &&& 858993459)) 4) &&& 252645135))
def bcW (x : Int32) : Int32 := (bcV x + mush (bcV x) 8 + mush (bcV x + mush (bcV x) 8) 16) &&& 63
theorem m64_c : ∀ m, m < 64 → bcW (nI m) = nI (pcn m 6) := by decide +kernel
theorem p_J_bitCount {S : mS} {I : mIm} (x : Int32) : pw S (q_J_bitCount x (I, S)) (fun v J => J = I ∧ v = bcW x) := by
  unfold q_J_bitCount
  exact pw_lt (pw_lt (pw_lt (pw_lt (pw_lt (pw_ret ⟨rfl, rfl⟩)))))
theorem pcn_le (m : Nat) : ∀ i, pcn m i ≤ i
  | 0 => Nat.le_refl _
  | i + 1 => by
    have := pcn_le m i
    have h2 : m / 2 ^ i % 2 < 2 := Nat.mod_lt _ (by decide)
    show pcn m i + m / 2 ^ i % 2 ≤ i + 1
    omega
/-- the levels, one on another -/
theorem xsm_p {A : aT} {k m : Nat} (h2 : ∀ i, i < 6 → A.1 2 (6 * k + i) = 0 ∨ A.1 2 (6 * k + i) = 1) (h01 : aS01 A) (hm : ∀ i, i < 6 → (m / 2 ^ i % 2 = 1 ↔ (hrd A k i ∧ A.1 5 i = 1))) : ∀ n, n ≤ 6 → xsm A k n = nI (pcn m n % 2)
  | 0, _ => rfl
  | n + 1, hn => by
    have ih := xsm_p h2 h01 hm n (by omega)
    have hb := hm n (by omega)
    have hb2 : m / 2 ^ n % 2 < 2 := Nat.mod_lt _ (by decide)
    obtain ⟨s6, s5, -⟩ := h01 n (by omega)
    have c01 : ¬ (0 : Int32) = 1 := by decide
    have c10 : ¬ (1 : Int32) = 0 := by decide
    show (if A.1 2 (6 * k + n) = 0 then xsm A k n else if A.1 6 n = 0 then xsm A k n else xsm A k n ^^^ A.1 5 n) = nI ((pcn m n + m / 2 ^ n % 2) % 2)
    have z : ¬ (hrd A k n ∧ A.1 5 n = 1) → m / 2 ^ n % 2 = 0 := fun q => by
      have : ¬ m / 2 ^ n % 2 = 1 := fun w => q (hb.mp w)
      omega
    rcases h2 n (by omega) with e | e
    · rw [if_pos e, z (fun q => by have := q.1.1; rw [e] at this; exact c01 this), Nat.add_zero]
      exact ih
    · rw [if_neg (by rw [e]; exact c10)]
      rcases s6 with e2 | e2
      · rw [if_pos e2, z (fun q => by have := q.1.2; rw [e2] at this; exact c01 this), Nat.add_zero]
        exact ih
      · rw [if_neg (by rw [e2]; exact c10), ih]
        rcases s5 with e3 | e3
        · rw [z (fun q => by have := q.2; rw [e3] at this; exact c01 this), Nat.add_zero, e3]
          rcases (show pcn m n % 2 = 0 ∨ pcn m n % 2 = 1 by omega) with w | w <;> rw [w] <;> decide
        · have : m / 2 ^ n % 2 = 1 := hb.mpr ⟨⟨e, e2⟩, e3⟩
          rw [this, e3]
          rcases (show pcn m n % 2 = 0 ∨ pcn m n % 2 = 1 by omega) with w | w
          · rw [w, show (pcn m n + 1) % 2 = 1 by omega]
            decide
          · rw [w, show (pcn m n + 1) % 2 = 0 by omega]
            decide
theorem carN_p {A : aT} {k : Nat} : ∀ n, carN A k n = true ↔ ∃ i, i < n ∧ hrd A k i
  | 0 => ⟨fun h => absurd h (by show ¬ (false = true); decide), fun ⟨i, h, _⟩ => by omega⟩
  | n + 1 => by
    show (carN A k n || (decide (A.1 2 (6 * k + n) = 1) && decide (A.1 6 n = 1))) = true ↔ _
    rw [Bool.or_eq_true, carN_p n, Bool.and_eq_true, decide_eq_true_eq, decide_eq_true_eq]
    constructor
    · intro h
      rcases h with ⟨i, h1, h2⟩ | h
      · exact ⟨i, by omega, h2⟩
      · exact ⟨n, by omega, h⟩
    · intro ⟨i, h1, h2⟩
      by_cases e : i = n
      · subst e; exact Or.inr h2
      · exact Or.inl ⟨i, by omega, h2⟩
theorem strN_p {A : aT} {k : Nat} : ∀ n, strN A k n = true ↔ ∀ i, i < n → ¬ (A.1 2 (6 * k + i) = 1 ∧ thr A i ∧ A.2.1 5 i = A.2.1 3 k)
  | 0 => ⟨fun _ i h => by omega, fun _ => rfl⟩
  | n + 1 => by
    show (strN A k n && !(decide (A.1 2 (6 * k + n) = 1) && (decide (A.1 6 n = 1) && (decide (0 < A.1 7 n) && (decide (A.2.1 4 n = []) && decide (A.2.1 5 n = A.2.1 3 k)))))) = true ↔ _
    rw [Bool.and_eq_true, strN_p n]
    have hn : (!(decide (A.1 2 (6 * k + n) = 1) && (decide (A.1 6 n = 1) && (decide (0 < A.1 7 n) && (decide (A.2.1 4 n = []) && decide (A.2.1 5 n = A.2.1 3 k)))))) = true ↔ ¬ (A.1 2 (6 * k + n) = 1 ∧ thr A n ∧ A.2.1 5 n = A.2.1 3 k) := by
      rw [Bool.not_eq_true', ← Bool.not_eq_true, Bool.and_eq_true, Bool.and_eq_true, Bool.and_eq_true, Bool.and_eq_true, decide_eq_true_eq, decide_eq_true_eq, decide_eq_true_eq, decide_eq_true_eq, decide_eq_true_eq]
      unfold thr
      constructor
      · intro h q
        exact h ⟨q.1, q.2.1.1, q.2.1.2.1, q.2.1.2.2, q.2.2⟩
      · intro h q
        exact h ⟨q.1, ⟨q.2.1, q.2.2.1, q.2.2.2.1⟩, q.2.2.2.2⟩
    rw [hn]
    constructor
    · intro ⟨h1, h2⟩ i hi
      by_cases e : i = n
      · subst e; exact h2
      · exact h1 i (by omega)
    · intro h
      exact ⟨fun i hi => h i (by omega), h n (by omega)⟩
theorem mush_nn {x y : Int32} (h : ¬ 0 < y) : ¬ mush x 20 < y := by
  intro q
  have h1 : (mush x 20).toBitVec.toNat = x.toBitVec.toNat / 2 ^ 20 := pk_ushr x 20 20 (by decide)
  have hx := x.toBitVec.isLt
  have h2 : mush x 20 = nI (x.toBitVec.toNat / 2 ^ 20) := by rw [← h1]; exact i32_nat _
  rw [h2] at q
  have h3 : ¬ nI (x.toBitVec.toNat / 2 ^ 20) < 0 := nI_pos (by omega)
  rw [Int32.lt_iff_toInt_lt] at h q h3
  have e0 : (0 : Int32).toInt = 0 := rfl
  omega
section LC
variable {S : mS} {I J I0 : mIm} {A : aT} {s : Nat}
theorem p_C_hash (a b : Int32) : pw S (q_C_hash a b (I, S)) (fun v J => J = I ∧ v = hsh a b) := by
  unfold q_C_hash
  exact pw_lt (pw_lt (pw_ret ⟨rfl, rfl⟩))
theorem p_M_hash (a b : Int32) : pw S (q_M_hash a b (I, S)) (fun v J => J = I ∧ v = hsh a b) := by
  unfold q_M_hash
  exact pw_lt (pw_lt (pw_ret ⟨rfl, rfl⟩))
theorem c_levelOf (hS : Shp S) (hs : s < 6) (hX : CX I0 I A) (h01 : aS01 A) (h2 : ∀ i, i < 6 → A.1 2 (6 * s + i) = 0 ∨ A.1 2 (6 * s + i) = 1) {hd : Int32} (hh : isMk hd (fun i => hrd A s i)) (h9 : isMk (I 16 9) (fun i => A.1 6 i = 1 ∧ A.1 5 i = 1)) : pw S (q_C_levelOf (some 16) (some (cN s)) hd (I, S)) (fun v J => J = I ∧ v = aLv A s) := by
  have k1 := hS.1.1
  obtain ⟨m, m1, m2, m3⟩ := isMk_and hh h9
  have hx := xsm_p (k := s) (m := m) h2 h01 (fun i hi => by rw [m3 i hi]; exact ⟨fun q => ⟨q.1, q.2.2⟩, fun q => ⟨q.1, q.1.2, q.2⟩⟩) 6 (Nat.le_refl _)
  have hpc := pcn_le m 6
  unfold q_C_levelOf
  refine pw_gI k1 (pw_cl (p_J_bitCount _) (fun v J g => ?_))
  obtain ⟨hJ, rfl⟩ := g
  rw [hJ, m2, m64_c m m1, show nI (pcn m 6) &&& 1 = nI (pcn m 6 % 2) from pk_andN (by omega) 1 (by decide), ← hx]
  unfold q_C_levelOf_53
  have fin : ∀ x : Int32, (x = 0 ∨ x = 1) → (x = 1 ↔ mush (hsh (A.1 1 (9 * s + 8)) (A.1 0 0)) 20 < A.1 1 (9 * s + 7)) → pw S (q_C_levelOf_54 (xsm A s 6) x (I, S)) (fun v J => J = I ∧ v = aLv A s) := by
    intro x hx hiff
    unfold q_C_levelOf_54 aLv
    rcases hx with q | q
    · subst q
      rw [if_neg (show ¬ mush (hsh (A.1 1 (9 * s + 8)) (A.1 0 0)) 20 < A.1 1 (9 * s + 7) from fun w => absurd (hiff.mpr w) (by decide))]
      exact pw_t rfl (pw_ret ⟨rfl, rfl⟩)
    · subst q
      rw [if_pos (hiff.mp rfl)]
      exact pw_f (by decide) (pw_ret ⟨rfl, rfl⟩)
  refine pw_lt (rN hS hs (q := cN s + 1) rfl (gT hS hs hX 7 rfl (by decide) ?_))
  by_cases e0 : 0 < A.1 1 (9 * s + 7)
  · refine pw_t e0 (rN hS hs (q := cN s + 1) rfl (gT hS hs hX 8 rfl (by decide) (pw_gE k1 hX.1.1.1 (pw_cl (p_C_hash _ _) (fun v J g => ?_)))))
    obtain ⟨hJ, rfl⟩ := g
    rw [hJ]
    refine rN hS hs (q := cN s + 1) rfl (gT hS hs hX 7 rfl (by decide) ?_)
    by_cases e1 : mush (hsh (A.1 1 (9 * s + 8)) (A.1 0 0)) 20 < A.1 1 (9 * s + 7)
    · exact pw_t e1 (fin 1 (Or.inr rfl) ⟨fun _ => e1, fun _ => rfl⟩)
    · exact pw_f e1 (fin 0 (Or.inl rfl) ⟨fun q => absurd q (by decide), fun q => absurd q e1⟩)
  · exact pw_f e0 (fin 0 (Or.inl rfl) ⟨fun q => absurd q (by decide), fun q => absurd q (mush_nn e0)⟩)
theorem hs20 {b2 cap2 : Nat} {l c : List Int32} {b : Nat} (hV : isS S b) (hl : isL I (b + 1) l) (hl9 : l.length ≤ 92) (hB : isB S b2 cap2) (hc : isL I b2 c) (hcc : c.length ≤ cap2) : ∀ (f m k : Nat), k + f = c.length → f < m → (∀ j, j < k → pA l j = pA c j) → pw S (q_S_hasSent_20 m (some b) (some b2) (nI k) (I, S)) (fun v J => J = I ∧ (v = 0 ∨ v = 1) ∧ (v = 1 ↔ ∀ j, j < c.length → pA l j = pA c j))
  | f, 0, k, _, h, _ => by omega
  | 0, m + 1, k, hk, hm, h => by
    have h5 := hB.2.2.2.2
    show pw S (q_S_hasSent_20_b _ _ _ _ _) _
    unfold q_S_hasSent_20_b
    exact gB hB hc (pw_f (nI_nlt (by omega) (by omega)) (pw_rz (Or.inr rfl) ⟨rfl, Or.inr rfl, fun _ j hj => h j (by omega), fun _ => rfl⟩))
  | f + 1, m + 1, k, hk, hm, h => by
    have h5 := hB.2.2.2.2
    show pw S (q_S_hasSent_20_b _ _ _ _ _) _
    unfold q_S_hasSent_20_b
    refine gB hB hc (pw_t (nI_lt (by omega) (by omega)) (pw_gR hV.1 hV.2.1 (pw_cv hV.2.2.1 (c_at hV.2.2 hl hl9 (by omega)) (fun v J g => ?_))))
    obtain ⟨rfl, hJ⟩ := g
    rw [hJ]
    refine pw_cv hB.1 (c_at hB hc hcc (by omega)) (fun v J g => ?_)
    obtain ⟨rfl, hJ⟩ := g
    rw [hJ, show nI k + 1 = nI (k + 1) from nI_1 k]
    by_cases e : pA l k = pA c k
    · refine pw_t e (hs20 hV hl hl9 hB hc hcc f m (k + 1) (by omega) (by omega) (fun j hj => ?_))
      by_cases e2 : j = k
      · subst e2; exact e
      · exact h j (by omega)
    · exact pw_f e (pw_rz (Or.inl rfl) ⟨rfl, Or.inl rfl, fun q => absurd q (by decide), fun q => absurd (q k (by omega)) e⟩)
theorem c_hasSent {b2 cap2 : Nat} {F c : List Int32} {b : Nat} (hV : isS S b) (hl : isL I (b + 1) (frm F)) (h90 : F.length ≤ 90) (hB : isB S b2 cap2) (hc : isL I b2 c) (hcc : c.length ≤ cap2) (hc9 : c.length ≤ 90) : pw S (q_S_hasSent (some b) (some b2) (I, S)) (fun v J => J = I ∧ (v = 0 ∨ v = 1) ∧ (v = 1 ↔ F = c)) := by
  have hfl := frm_len (l := F)
  unfold q_S_hasSent
  refine pw_gR hV.1 hV.2.1 (gB hV.2.2 hl (gB hB hc ?_))
  rw [hfl, show nI c.length + (2 : Int32) = nI (c.length + 2) from nI_add _ 2]
  by_cases e : F.length = c.length
  · refine pw_t (by rw [e]) (pw_mono (hs20 hV hl (by omega) hB hc hcc c.length mFU 0 (by omega) (by unfold mFU; omega) (fun j hj => by omega)) (fun v J h => ⟨h.1, h.2.1, ?_⟩))
    rw [h.2.2]
    constructor
    · intro q
      apply List.ext_getElem?
      intro j
      by_cases hj : j < c.length
      · have := q j hj
        rw [frm_A (by omega)] at this
        unfold pA at this
        rw [List.getElem?_eq_getElem (by omega), List.getElem?_eq_getElem hj] at this
        rw [List.getElem?_eq_getElem (by omega), List.getElem?_eq_getElem hj]
        exact congrArg some this
      · rw [List.getElem?_eq_none (by omega), List.getElem?_eq_none (by omega)]
    · intro q j hj
      rw [frm_A (by omega), q]
  · refine pw_f (fun q => e ?_) (pw_rz (Or.inl rfl) ⟨rfl, Or.inl rfl, fun q => absurd q (by decide), fun q => absurd (by rw [q]) e⟩)
    have := (nI_eq (by omega) (by omega)).mp q
    omega
theorem c_stray2 (hS : Shp S) (hs : s < 6) (hC : CInv I A) {sd : Int32} (hm : isMk sd (fun i => A.1 2 (6 * s + i) = 1 ∧ thr A i)) (h90 : ∀ i, i < 6 → thr A i → (A.2.1 5 i).length ≤ 90) : ∀ (f m k : Nat), k + f = 6 → f < m → (∀ i, i < k → ¬ (A.1 2 (6 * s + i) = 1 ∧ thr A i ∧ A.2.1 5 i = A.2.1 3 s)) → pw S (q_C_isStray_2 m (some 16) (some (cN s + 8)) sd (nI k) (I, S)) (fun v J => J = I ∧ v = if strN A s 6 = true then 1 else 0)
  | f, 0, k, _, h, _ => by omega
  | 0, m + 1, k, hk, hm2, h => by
    show pw S (q_C_isStray_2_b _ _ _ _ _ _) _
    unfold q_C_isStray_2_b
    have e : k = 6 := by omega
    subst e
    exact pw_f (nI_nlt (a := 6) (b := 6) (by omega) (by decide)) (pw_rz (Or.inr rfl) ⟨rfl, by rw [if_pos ((strN_p 6).mpr h)]⟩)
  | f + 1, m + 1, k, hk, hm2, h => by
    have hk6 : k < 6 := by omega
    have hb := isMk_b hm hk6
    show pw S (q_C_isStray_2_b _ _ _ _ _ _) _
    unfold q_C_isStray_2_b q_C_isStray_34
    refine pw_t (nI_lt (b := 6) hk6 (by decide)) ?_
    rw [show nI k + 1 = nI (k + 1) from nI_1 k]
    have go : ¬ (A.1 2 (6 * s + k) = 1 ∧ thr A k ∧ A.2.1 5 k = A.2.1 3 s) → pw S (q_C_isStray_2 m (some 16) (some (cN s + 8)) sd (nI (k + 1)) (I, S)) (fun v J => J = I ∧ v = if strN A s 6 = true then 1 else 0) := fun q => c_stray2 hS hs hC hm h90 f m (k + 1) (by omega) (by omega) (fun i hi => by
      by_cases e : i = k
      · subst e; exact q
      · exact h i (by omega))
    by_cases e0 : (sd >>> (nI k &&& 31)) &&& 1 = 0
    · exact pw_t e0 (go (fun q => hb.mp e0 ⟨q.1, q.2.1⟩))
    · have hP : A.1 2 (6 * s + k) = 1 ∧ thr A k := Classical.byContradiction (fun q => e0 (hb.mpr q))
      obtain ⟨d1, d2, d3, d4, d5, d6, d7⟩ := hC.2.1 k hk6
      obtain ⟨s4, s5, s6, l, p, o, fb, t1, t2, t3, t4, t5, t6, t7, t8, t9, t10⟩ := d4
      obtain ⟨u1, u2⟩ := t10 hP.2.1
      have hlF : l = frm (A.2.1 5 k) := by
        rcases u2 with w | w
        · have := hP.2.2.1
          rw [w.1] at this
          exact absurd this (by decide)
        · exact w.2
      rw [hlF] at t1
      have hRv := (hC.2.1 s hs).2.2.2.2.1
      have hVs := isV_s hS hs
      refine pw_f e0 (rSt hS hk6 (rN hS hk6 (q := cN k + 2) rfl (pw_cv (isS_s hS hk6).1 (c_hasSent (isS_s hS hk6) t1 (h90 k hk6 hP.2) hVs.2.2.2.2 hRv.2.2.2.1 hRv.2.2.2.2.1 hRv.2.2.2.2.1) (fun v J g => ?_))))
      obtain ⟨hJ, h01, hiff⟩ := g
      rw [hJ]
      rcases h01 with w | w
      · exact pw_t w (go (fun q => by have := hiff.mpr q.2.2; rw [w] at this; exact absurd this (by decide)))
      · refine pw_f (by rw [w]; decide) (pw_rz (Or.inl rfl) ⟨rfl, ?_⟩)
        rw [if_neg (fun q => (strN_p 6).mp q k hk6 ⟨hP.1, hP.2, hiff.mp w⟩)]
end LC
