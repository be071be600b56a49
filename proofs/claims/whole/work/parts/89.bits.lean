/-! the CHECK, bits, lines: the class -/
def frm (l : List Int32) : List Int32 := l ++ [chk l &&& 255, chk l >>> ((8 : Int32) &&& 31)]
def lnL (l : List Int32) (p o fb : Nat) : List Int32 := stf (bitsFrom l p) o ++ flg fb
theorem bit_01 (l : List Int32) (n : Nat) : bitAt l n = 0 ∨ bitAt l n = 1 := by
  obtain ⟨k, hk, e⟩ := pk_andE ((l[n / 8]?).getD (-1) >>> (nI (n % 8) &&& 31)) (m := 1) 1 (by decide)
  unfold bitAt
  rw [e]
  rcases (show k = 0 ∨ k = 1 by omega) with q | q <;> subst q
  · exact Or.inl rfl
  · exact Or.inr rfl
theorem bits_cons {l : List Int32} {p : Nat} (h : p < 8 * l.length) : bitsFrom l p = bitAt l p :: bitsFrom l (p + 1) := by
  unfold bitsFrom
  obtain ⟨k, hk⟩ : ∃ k, 8 * l.length - p = k + 1 := ⟨8 * l.length - p - 1, by omega⟩
  rw [hk, show 8 * l.length - (p + 1) = k by omega, List.range_succ_eq_map, List.map_cons, List.map_map, Nat.add_zero]
  congr 1
  apply List.map_congr_left
  intro a _
  show bitAt l (p + (a + 1)) = bitAt l (p + 1 + a)
  congr 1
  omega
theorem bits_nil {l : List Int32} {p : Nat} (h : 8 * l.length ≤ p) : bitsFrom l p = [] := by
  unfold bitsFrom
  rw [show 8 * l.length - p = 0 by omega]
  rfl
theorem stf5 (l : List Int32) : stf l 5 = 0 :: stf l 0 := by
  cases l with
  | nil => rfl
  | cons b l =>
    rfl
theorem stf_c {o : Nat} (b : Int32) (l : List Int32) (h : o ≠ 5) : stf (b :: l) o = b :: stf l (if b = 1 then o + 1 else 0) := by
  show (if o = 5 then _ else _) = _
  rw [if_neg h]
theorem stf_n {o : Nat} (h : o ≠ 5) : stf [] o = [] := by
  show (if o = 5 then _ else _) = _
  rw [if_neg h]
theorem chk_in (l : List Int32) : ∀ n, ∃ m : Nat, m < 65536 ∧ chkN l n = nI m
  | 0 => ⟨65535, by decide, rfl⟩
  | n + 1 => by
    obtain ⟨m, hm, em⟩ := chk_in l n
    have e1 : chkN l n >>> ((1 : Int32) &&& 31) = nI (m / 2) := by rw [em]; exact pk_shrN (by omega) _ 1 (by decide)
    show ∃ m : Nat, m < 65536 ∧ (if chkN l n &&& 1 = bitAt l n then chkN l n >>> ((1 : Int32) &&& 31) else (chkN l n >>> ((1 : Int32) &&& 31)) ^^^ 33800) = nI m
    rw [e1]
    split
    · exact ⟨m / 2, by omega, rfl⟩
    · refine ⟨(m / 2) ^^^ 33800, Nat.xor_lt_two_pow (n := 16) (by omega) (by decide), ?_⟩
      apply Int32.toBitVec_inj.mp
      apply BitVec.eq_of_toNat_eq
      have h1 : (nI (m / 2)).toBitVec.toNat = m / 2 := pk_tn (by omega)
      have h2 : (nI ((m / 2) ^^^ 33800)).toBitVec.toNat = (m / 2) ^^^ 33800 := pk_tn (by have := Nat.xor_lt_two_pow (x := m / 2) (y := 33800) (n := 16) (by omega) (by decide); omega)
      rw [h2, Int32.toBitVec_xor, BitVec.toNat_xor, h1]
      rfl
def sndr (I : mIm) (b : Nat) (l : List Int32) (p o fb : Nat) : Prop := isL I (b + 1) l ∧ l.length ≤ 92 ∧ I b 1 = nI p ∧ I b 2 = nI o ∧ I b 3 = nI fb ∧ p ≤ 8 * l.length ∧ o ≤ 5 ∧ fb ≤ 128 ∧ (fb = 0 → p = 8 * l.length ∧ o < 5)
theorem ln_nil {l : List Int32} {p o fb : Nat} (h2 : fb = 0 → p = 8 * l.length ∧ o < 5) : lnL l p o fb = [] ↔ fb = 0 := by
  unfold lnL
  constructor
  · intro h
    have := (List.append_eq_nil_iff.mp h).2
    cases fb with
    | zero => rfl
    | succ n => cases this
  · intro h
    subst h
    obtain ⟨q1, q2⟩ := h2 rfl
    rw [bits_nil (by omega), stf_n (by omega)]
    rfl
section SE
variable {S : mS} {I J I0 : mIm} {b cap n : Nat} {l : List Int32}
theorem sh3 {k : Nat} (h : k < 2 ^ 31) : nI k >>> ((3 : Int32) &&& 31) = nI (k / 8) := pk_shrN h _ 3 (by decide)
theorem an7 {k : Nat} (h : k < 2 ^ 31) : nI k &&& 7 = nI (k % 8) := pk_andN (by omega) 3 (by decide)
theorem c_checkOf_6 (hB : isB S b cap) (hL : isL I b l) (hc : l.length ≤ cap) (hn : n ≤ l.length) : ∀ (f m k : Nat), k + f = 8 * n → f < m → pw S (q_C_checkOf_6 m (some b) (nI n) (chkN l k) (nI k) (I, S)) (fun v J => J = I ∧ v = 65535 - chkN l (8 * n))
  | f, 0, k, _, h => by omega
  | 0, m + 1, k, hk, hm => by
    have h5 := hB.2.2.2.2
    show pw S (q_C_checkOf_6_b _ _ _ _ _ _) _
    unfold q_C_checkOf_6_b
    have e : k = 8 * n := by omega
    subst e
    rw [show (8 : Int32) * nI n = nI (8 * n) from pk_mul 8 n]
    exact pw_f (nI_nlt (by omega) (by omega)) (pw_ret ⟨rfl, rfl⟩)
  | f + 1, m + 1, k, hk, hm => by
    have h5 := hB.2.2.2.2
    show pw S (q_C_checkOf_6_b _ _ _ _ _ _) _
    unfold q_C_checkOf_6_b q_C_checkOf_51
    rw [show (8 : Int32) * nI n = nI (8 * n) from pk_mul 8 n, sh3 (by omega), an7 (by omega)]
    refine pw_t (nI_lt (by omega) (by omega)) (pw_cv hB.1 (c_at hB hL hc (by omega)) (fun v J h => ?_))
    obtain ⟨rfl, hJ⟩ := h
    rw [hJ]
    refine pw_lt ?_
    have eb : (pA l (k / 8) >>> (nI (k % 8) &&& 31)) &&& 1 = bitAt l k := rfl
    rw [eb, show nI k + 1 = nI (k + 1) from nI_1 k]
    have ec : chkN l (k + 1) = if chkN l k &&& 1 = bitAt l k then chkN l k >>> ((1 : Int32) &&& 31) else (chkN l k >>> ((1 : Int32) &&& 31)) ^^^ 33800 := rfl
    have ih := c_checkOf_6 hB hL hc hn f m (k + 1) (by omega) (by omega)
    by_cases e : chkN l k &&& 1 = bitAt l k
    · rw [if_pos e] at ec
      rw [ec] at ih
      exact pw_t e ih
    · rw [if_neg e] at ec
      rw [ec] at ih
      exact pw_f e ih
theorem c_checkOf (hB : isB S b cap) (hL : isL I b l) (hc : l.length ≤ cap) (hn : n ≤ l.length) (hl : l.length ≤ 1000) : pw S (q_C_checkOf (some b) (nI n) (I, S)) (fun v J => J = I ∧ v = 65535 - chkN l (8 * n)) := c_checkOf_6 hB hL hc hn (8 * n) mFU 0 (by omega) (by unfold mFU; omega)
theorem s_nextBit (hS : isS S b) {p o fb : Nat} (h : sndr I b l p o fb) (h0 : 0 < fb) : pw S (q_S_nextBit (some b) (I, S)) (fun v J => (v = 0 ∨ v = 1) ∧ (∀ r, r ≠ b → J r = I r) ∧ (∀ j, 4 ≤ j → J b j = I b j) ∧ ∃ p' o' fb', sndr J b l p' o' fb' ∧ lnL l p o fb = v :: lnL l p' o' fb') := by
  obtain ⟨s1, s2, s3⟩ := hS
  obtain ⟨h1, h2, h3, h4, h5, h6, h7, h8, h9⟩ := id h
  have hL : ∀ {J : mIm}, (∀ r, r ≠ b → J r = I r) → isL J (b + 1) l := fun q => isL_same h1 (q _ (by omega)) (q _ (by omega))
  unfold q_S_nextBit
  refine pw_gE s1 h4 ?_
  by_cases e5 : o = 5
  · subst e5
    refine pw_t rfl (pw_pI s1 (pw_ret ⟨Or.inl rfl, fun r hr => iput_n _ _ _ hr, fun j hj => iput_j _ _ _ (by omega), p, 0, fb, ⟨hL (fun r hr => iput_n _ _ _ hr), h2, ?_, ?_, ?_, h6, by omega, h8, fun q => ⟨(h9 q).1, by omega⟩⟩, ?_⟩))
    · rw [iput_j _ _ _ (by decide)]; exact h3
    · rw [iput_s]; rfl
    · rw [iput_j _ _ _ (by decide)]; exact h5
    · unfold lnL
      rw [stf5]
      rfl
  · refine pw_f (fun q => e5 ((nI_eq (b := 5) (by omega) (by decide)).mp q)) (pw_gE s1 h3 (pw_gR s1 s2 (gB s3 h1 ?_)))
    rw [show (8 : Int32) * nI l.length = nI (8 * l.length) from pk_mul 8 _]
    by_cases hp : p < 8 * l.length
    · refine pw_t (nI_lt hp (by omega)) (pw_gR s1 s2 (pw_gE s1 h3 ?_))
      rw [sh3 (by omega)]
      refine pw_cv s3.1 (c_at s3 h1 h2 (by omega)) (fun v J g => ?_)
      obtain ⟨rfl, rfl⟩ := g
      refine pw_gE s1 h3 (pw_lt (pw_gE s1 h3 ?_))
      rw [an7 (by omega)]
      have eb : (pA l (p / 8) >>> (nI (p % 8) &&& 31)) &&& 1 = bitAt l p := rfl
      rw [eb, show nI p + 1 = nI (p + 1) from nI_1 p]
      have eln : lnL l p o fb = bitAt l p :: (stf (bitsFrom l (p + 1)) (if bitAt l p = 1 then o + 1 else 0) ++ flg fb) := by
        unfold lnL
        rw [bits_cons hp, stf_c _ _ e5]
        rfl
      refine pw_pI s1 ?_
      by_cases e1 : bitAt l p = 1
      · refine pw_t e1 (pw_gE s1 (v := nI o) (by rw [iput_j _ _ _ (by decide)]; exact h4) (pw_pI s1 (pw_ret ⟨bit_01 l p, fun r hr => by rw [iput_n _ _ _ hr, iput_n _ _ _ hr], fun j hj => by rw [iput_j _ _ _ (by omega), iput_j _ _ _ (by omega)], p + 1, o + 1, fb, ⟨hL (fun r hr => by rw [iput_n _ _ _ hr, iput_n _ _ _ hr]), h2, ?_, ?_, ?_, by omega, by omega, h8, fun q => by omega⟩, ?_⟩)))
        · rw [iput_j _ _ _ (by decide), iput_s]
        · rw [iput_s]; exact nI_1 o
        · rw [iput_j _ _ _ (by decide), iput_j _ _ _ (by decide)]; exact h5
        · rw [eln, if_pos e1]; rfl
      · refine pw_f e1 (pw_pI s1 (pw_ret ⟨bit_01 l p, fun r hr => by rw [iput_n _ _ _ hr, iput_n _ _ _ hr], fun j hj => by rw [iput_j _ _ _ (by omega), iput_j _ _ _ (by omega)], p + 1, 0, fb, ⟨hL (fun r hr => by rw [iput_n _ _ _ hr, iput_n _ _ _ hr]), h2, ?_, ?_, ?_, by omega, by omega, h8, fun q => by omega⟩, ?_⟩))
        · rw [iput_j _ _ _ (by decide), iput_s]
        · rw [iput_s]; rfl
        · rw [iput_j _ _ _ (by decide), iput_j _ _ _ (by decide)]; exact h5
        · rw [eln, if_neg e1]; rfl
    · obtain ⟨m, rfl⟩ : ∃ m, fb = m + 1 := ⟨fb - 1, by omega⟩
      refine pw_f (nI_nlt (by omega) (by omega)) (pw_gE s1 h5 (pw_pI s1 (pw_gE s1 (v := nI m) (by rw [iput_s]; exact nI_pred m) (pw_lt ?_))))
      rw [an7 (by omega)]
      have hs2 : sndr (iput I b 3 (nI (m + 1) - 1)) b l p o m := ⟨hL (fun r hr => iput_n _ _ _ hr), h2, by rw [iput_j _ _ _ (by decide)]; exact h3, by rw [iput_j _ _ _ (by decide)]; exact h4, by rw [iput_s]; exact nI_pred m, h6, h7, by omega, fun _ => ⟨by omega, by omega⟩⟩
      have eln : lnL l p o (m + 1) = (if m % 8 = 7 ∨ m % 8 = 0 then 0 else 1) :: lnL l p o m := by
        unfold lnL
        rw [bits_nil (by omega), stf_n e5]
        rfl
      have fin : ∀ v : Int32, (v = 0 ∨ v = 1) → v = (if m % 8 = 7 ∨ m % 8 = 0 then 0 else 1) → pw S (some (v, (iput I b 3 (nI (m + 1) - 1), S))) (fun v J => (v = 0 ∨ v = 1) ∧ (∀ r, r ≠ b → J r = I r) ∧ (∀ j, 4 ≤ j → J b j = I b j) ∧ ∃ p' o' fb', sndr J b l p' o' fb' ∧ lnL l p o (m + 1) = v :: lnL l p' o' fb') := fun v q1 q2 => pw_ret ⟨q1, fun r hr => iput_n _ _ _ hr, fun j hj => iput_j _ _ _ (by omega), p, o, m, hs2, by rw [eln, q2]⟩
      unfold q_S_nextBit_115
      have hm8 : m % 8 < 8 := Nat.mod_lt _ (by decide)
      by_cases e7 : m % 8 = 7
      · exact pw_t (by rw [e7]; rfl) (fin 0 (Or.inl rfl) (by rw [if_pos (Or.inl e7)]))
      · refine pw_f (fun q => e7 ((nI_eq (b := 7) (by omega) (by decide)).mp q)) ?_
        by_cases e0 : m % 8 = 0
        · exact pw_t (by rw [e0]; rfl) (fin 0 (Or.inl rfl) (by rw [if_pos (Or.inr e0)]))
        · exact pw_f (nI_ne0 (by omega) (by omega)) (fin 1 (Or.inr rfl) (by rw [if_neg (fun q => by omega)]))
/-- the LEVEL behind a bit -/
def lvl (v : Int32) (b : Int32) : Int32 := if b = 0 then 1 - v else v
theorem s_sendBit (hS : isS S b) {p o fb : Nat} (h : sndr I b l p o fb) (h0 : 0 < fb) : pw S (q_S_sendBit (some b) (I, S)) (fun _ J => (∀ r, r ≠ b → J r = I r) ∧ J b 5 = I b 5 ∧ J b 6 = I b 6 ∧ ∃ v p' o' fb', (v = 0 ∨ v = 1) ∧ J b 4 = lvl (I b 4) v ∧ sndr J b l p' o' fb' ∧ lnL l p o fb = v :: lnL l p' o' fb') := by
  unfold q_S_sendBit
  refine pw_cv hS.1 (s_nextBit hS h h0) (fun v J g => ?_)
  obtain ⟨g1, g2, g3, p', o', fb', g4, g5⟩ := g
  by_cases e : v = 0
  · refine pw_t e (pw_gI hS.1 (pw_pI hS.1 (pw_ret ⟨fun r hr => by rw [iput_n _ _ _ hr]; exact g2 r hr, ?_, ?_, v, p', o', fb', g1, ?_, ?_, g5⟩)))
    · rw [iput_j _ _ _ (by decide)]; exact g3 5 (by decide)
    · rw [iput_j _ _ _ (by decide)]; exact g3 6 (by decide)
    · rw [iput_s, g3 4 (by decide)]
      unfold lvl
      rw [if_pos e]
    · obtain ⟨h1, h2, h3, h4, h5, h6⟩ := g4
      exact ⟨isL_same h1 (iput_n _ _ _ (by omega)) (iput_n _ _ _ (by omega)), h2, by rw [iput_j _ _ _ (by decide)]; exact h3, by rw [iput_j _ _ _ (by decide)]; exact h4, by rw [iput_j _ _ _ (by decide)]; exact h5, h6⟩
  · refine pw_f e (pw_ret ⟨g2, g3 5 (by decide), g3 6 (by decide), v, p', o', fb', g1, ?_, g4, g5⟩)
    rw [g3 4 (by decide)]
    unfold lvl
    rw [if_neg e]
theorem s_startFlags (hS : isS S b) {n : Nat} (hn : n ≤ 16) (h1 : 1 ≤ n) : pw S (q_S_startFlags (some b) (nI n) (I, S)) (fun _ J => (∀ r, r ≠ b → r ≠ b + 1 → J r = I r) ∧ (∀ j, 4 ≤ j → J b j = I b j) ∧ sndr J b [] 0 0 (8 * n)) := by
  obtain ⟨s1, s2, s3⟩ := hS
  unfold q_S_startFlags
  refine pw_gR s1 s2 (pw_cv s3.1 (p_B_clear s3) (fun _ J g => pw_pI s1 (pw_pI s1 (pw_pI s1 (pw_ret ?_)))))
  obtain ⟨g1, g2, g3⟩ := g
  rw [show (8 : Int32) * nI n = nI (8 * n) from pk_mul 8 n]
  refine ⟨fun r h1 h2 => by rw [iput_n _ _ _ h1, iput_n _ _ _ h1, iput_n _ _ _ h1]; exact g3 r h2, fun j hj => by rw [iput_j _ _ _ (by omega), iput_j _ _ _ (by omega), iput_j _ _ _ (by omega), g3 b (by omega)], isL_same g1 (by rw [iput_n _ _ _ (by omega), iput_n _ _ _ (by omega), iput_n _ _ _ (by omega)]) (by rw [iput_n _ _ _ (by omega), iput_n _ _ _ (by omega), iput_n _ _ _ (by omega)]), by decide, ?_, ?_, ?_, by simp, by omega, by omega, fun q => by omega⟩
  · rw [iput_j _ _ _ (by decide), iput_j _ _ _ (by decide), iput_s]; rfl
  · rw [iput_j _ _ _ (by decide), iput_s]; rfl
  · rw [iput_s]
theorem s_startFrame (hS : isS S b) {b2 cap2 : Nat} (hB2 : isB S b2 cap2) (hL : isL I b2 l) (hc : l.length ≤ cap2) (h90 : l.length ≤ 90) (hd : b2 + 2 ≤ b ∨ b + 3 ≤ b2) : pw S (q_S_startFrame (some b) (some b2) (I, S)) (fun _ J => (∀ r, r ≠ b → r ≠ b + 1 → r ≠ b + 2 → J r = I r) ∧ (∀ j, 4 ≤ j → J b j = I b j) ∧ sndr J b (frm l) 0 0 8) := by
  obtain ⟨s1, s2, s3⟩ := id hS
  unfold q_S_startFrame
  refine pw_cv s1 (s_startFlags hS (n := 1) (by decide) (by decide)) (fun _ J g => ?_)
  obtain ⟨g1, g2, g3⟩ := g
  have hL1 : isL J b2 l := isL_same hL (g1 _ (by omega) (by omega)) (g1 _ (by omega) (by omega))
  refine pw_gR s1 s2 (gB hB2 hL1 (pw_cv s3.1 (p_B_addFrom s3 g3.1 hB2 hL1 hc (by omega) 0 l.length (by omega) (by simp; omega)) (fun _ J2 q => ?_)))
  obtain ⟨q1, q2⟩ := q
  rw [List.nil_append, List.drop_zero, List.take_length] at q1
  have hL2 : isL J2 b2 l := isL_same hL1 (q2 _ (by omega) (by omega)) (q2 _ (by omega) (by omega))
  refine gB hB2 hL2 (pw_cl (c_checkOf hB2 hL2 hc (Nat.le_refl _) (by omega)) (fun v J3 w => ?_))
  obtain ⟨rfl, rfl⟩ := w
  have ec : 65535 - chkN l (8 * l.length) = chk l := rfl
  rw [ec]
  refine pw_gR s1 s2 (pw_cv s3.1 (p_B_add s3 q1 (by omega) _) (fun _ J4 w => ?_))
  obtain ⟨w1, w2⟩ := w
  refine pw_gR s1 s2 (pw_cv s3.1 (p_B_add s3 w1 (by simp; omega) _) (fun _ J5 z => pw_ret ?_))
  obtain ⟨z1, z2⟩ := z
  rw [List.append_assoc] at z1
  have e5 : ∀ r, r ≠ b + 1 → r ≠ b + 2 → J5 r = J r := fun r r1 r2 => by rw [z2 r r1 r2, w2 r r1 r2, q2 r r1 r2]
  refine ⟨fun r r0 r1 r2 => by rw [e5 r r1 r2]; exact g1 r r0 r1, fun j hj => by rw [e5 b (by omega) (by omega)]; exact g2 j hj, z1, ?_, ?_, ?_, ?_, by omega, by omega, by decide, fun q => by omega⟩
  · show (l ++ _).length ≤ 92
    rw [List.length_append]
    show l.length + 2 ≤ 92
    omega
  · rw [e5 b (by omega) (by omega)]; exact g3.2.2.1
  · rw [e5 b (by omega) (by omega)]; exact g3.2.2.2.1
  · rw [e5 b (by omega) (by omega)]; exact g3.2.2.2.2.1
theorem s_isThrough (hS : isS S b) {p o fb : Nat} (h : sndr I b l p o fb) : pw S (q_S_isThrough (some b) (I, S)) (fun v J => J = I ∧ v = if fb = 0 then 1 else 0) := by
  obtain ⟨h1, h2, h3, h4, h5, h6, h7, h8, h9⟩ := h
  unfold q_S_isThrough
  refine pw_gE hS.1 h5 ?_
  by_cases e : fb = 0
  · subst e
    exact pw_f (by decide) (pw_rz (Or.inr rfl) ⟨rfl, rfl⟩)
  · exact pw_t (n_gt0 (by omega) (by omega)) (pw_rz (Or.inl rfl) ⟨rfl, by rw [if_neg e]⟩)
end SE
