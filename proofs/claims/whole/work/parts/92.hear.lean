/-! hearing: what is asked, and the class -/
/-- open, last, ones, row, came -/
abbrev rcT : Type := Int32 × Int32 × Int32 × List Int32 × List Int32
def rAd (R : rcT) (b : Int32) : rcT := if R.1 = 0 then R else if R.2.2.2.1.length < 743 then (R.1, R.2.1, R.2.2.1, R.2.2.2.1 ++ [b], R.2.2.2.2) else (0, R.2.1, R.2.2.1, R.2.2.2.1, R.2.2.2.2)
def rCn (row : List Int32) : Nat := (row.length - 7) / 8
def rFm (row : List Int32) : Option (List Int32) := if ((7 ≤ row.length ∧ (row.length - 7) % 8 = 0) ∧ 17 ≤ rCn row ∧ rCn row ≤ 92) ∧ pA (pack row) (rCn row - 2) = chk ((pack row).take (rCn row - 2)) &&& 255 ∧ pA (pack row) (rCn row - 1) = chk ((pack row).take (rCn row - 2)) >>> ((8 : Int32) &&& 31) then some ((pack row).take (rCn row - 2)) else none
def rH6 (op v : Int32) (row came : List Int32) : Int32 × rcT := if op = 0 then (0, (1, v, 0, [], came)) else match rFm row with
  | none => (0, (1, v, 0, [], came))
  | some F => (1, (1, v, 0, [], F))
def rHr (R : rcT) (v : Int32) : Int32 × rcT := if v = R.2.1 then (if R.2.2.1 + 1 < 7 then (0, rAd (R.1, v, R.2.2.1 + 1, R.2.2.2.1, R.2.2.2.2) 1) else (0, (0, v, R.2.2.1 + 1, R.2.2.2.1, R.2.2.2.2))) else (if R.2.2.1 = 6 then rH6 R.1 v R.2.2.2.1 R.2.2.2.2 else if R.2.2.1 = 5 then (0, (R.1, v, 0, R.2.2.2.1, R.2.2.2.2)) else (0, rAd (R.1, v, 0, R.2.2.2.1, R.2.2.2.2) 0))
def rOk (R : rcT) : Prop := (R.1 = 0 ∨ R.1 = 1) ∧ (∀ x ∈ R.2.2.2.1, x = 0 ∨ x = 1) ∧ aBy R.2.2.2.2 ∧ (R.2.2.2.2 = [] ∨ 15 ≤ R.2.2.2.2.length) ∧ R.2.2.2.2.length ≤ 90
theorem sh_0 : ∀ k, k < 8 → (0 : Int32) <<< (nI k &&& 31) = 0 := by decide
theorem sh_1 : ∀ k, k < 8 → (1 : Int32) <<< (nI k &&& 31) = nI (2 ^ k) := by decide
theorem pb_push (l : List Int32) (x : Int32) (j : Nat) : ∀ k, k ≤ 8 → pbyte (l ++ [x]) j k = pbyte l j k + (if 8 * j ≤ l.length ∧ l.length < 8 * j + k then x <<< (nI (l.length - 8 * j) &&& 31) else 0)
  | 0, _ => by
    rw [if_neg (fun q => by omega)]
    rfl
  | k + 1, hk => by
    have ih := pb_push l x j k (by omega)
    show pbyte (l ++ [x]) j k + (((l ++ [x])[8 * j + k]?).getD 0 <<< (nI k &&& 31)) = pbyte l j k + ((l[8 * j + k]?).getD 0 <<< (nI k &&& 31)) + _
    rw [ih]
    rcases Nat.lt_trichotomy (8 * j + k) l.length with q | q | q
    · rw [List.getElem?_append_left q, if_neg (fun z => by omega), if_neg (fun z => by omega), Int32.add_zero, Int32.add_zero]
    · rw [List.getElem?_append_right (by omega), List.getElem?_eq_none (Nat.le_of_eq q.symm), if_neg (fun z => by omega), if_pos ⟨by omega, by omega⟩, show 8 * j + k - l.length = 0 by omega, Int32.add_zero]
      show pbyte l j k + x <<< (nI k &&& 31) = pbyte l j k + (0 : Int32) <<< (nI k &&& 31) + _
      rw [sh_0 k (by omega), Int32.add_zero, show l.length - 8 * j = k by omega]
    · rw [List.getElem?_eq_none (by simp; omega), List.getElem?_eq_none (by omega)]
      show _ + (0 : Int32) <<< (nI k &&& 31) = _ + (0 : Int32) <<< (nI k &&& 31) + _
      rw [sh_0 k (by omega), Int32.add_zero, Int32.add_zero]
      by_cases z : 8 * j ≤ l.length
      · rw [if_pos ⟨z, by omega⟩, if_pos ⟨z, by omega⟩]
      · rw [if_neg (fun w => z w.1), if_neg (fun w => z w.1)]
theorem pack_at (l : List Int32) (j : Nat) : (pack l)[j]? = if j < (l.length + 7) / 8 then some (pbyte l j 8) else none := by
  unfold pack
  rw [List.getElem?_map]
  by_cases h : j < (l.length + 7) / 8
  · rw [if_pos h, List.getElem?_range h]
    rfl
  · rw [if_neg h, List.getElem?_eq_none (by simp; omega)]
    rfl
theorem pack_len (l : List Int32) : (pack l).length = (l.length + 7) / 8 := by
  unfold pack
  simp
theorem pb_nil {l : List Int32} {j : Nat} (h : l.length ≤ 8 * j) : ∀ k, k ≤ 8 → pbyte l j k = 0
  | 0, _ => rfl
  | k + 1, hk => by
    show pbyte l j k + ((l[8 * j + k]?).getD 0 <<< (nI k &&& 31)) = 0
    rw [pb_nil h k (by omega), List.getElem?_eq_none (by omega)]
    show 0 + (0 : Int32) <<< (nI k &&& 31) = 0
    rw [sh_0 k (by omega)]
    rfl
theorem sh_x (x : Int32) : x <<< (nI 0 &&& 31) = x := by
  apply Int32.toBitVec_inj.mp
  apply BitVec.eq_of_toNat_eq
  rw [pk_shl x (nI 0 &&& 31) 0 (by decide)]
  have := x.toBitVec.isLt
  omega
theorem pack_p0 {l : List Int32} (x : Int32) (h : l.length % 8 = 0) : pack (l ++ [x]) = pack l ++ [x] := by
  apply List.ext_getElem?
  intro j
  rw [pack_at, List.length_append]
  by_cases q : j < (l.length + 7) / 8
  · rw [if_pos (by simp; omega), List.getElem?_append_left (by rw [pack_len]; exact q), pack_at, if_pos q, pb_push l x j 8 (by omega), if_neg (fun z => by omega), Int32.add_zero]
  · by_cases e : j = l.length / 8
    · have e8 : 8 * j = l.length := by omega
      rw [if_pos (by simp; omega), List.getElem?_append_right (by rw [pack_len]; omega), pack_len, show j - (l.length + 7) / 8 = 0 by omega, pb_push l x j 8 (by omega), if_pos ⟨by omega, by omega⟩, pb_nil (by omega) 8 (by omega), show l.length - 8 * j = 0 by omega, sh_x, Int32.zero_add]
      rfl
    · rw [if_neg (by simp; omega), List.getElem?_append_right (by rw [pack_len]; omega), pack_len, List.getElem?_eq_none (by simp; omega)]
theorem pack_p1 {l : List Int32} (x : Int32) (h : l.length % 8 ≠ 0) : pack (l ++ [x]) = (pack l).set (l.length / 8) (pbyte l (l.length / 8) 8 + x <<< (nI (l.length % 8) &&& 31)) := by
  apply List.ext_getElem?
  intro j
  rw [pack_at, List.length_append]
  by_cases e : j = l.length / 8
  · subst e
    rw [if_pos (by simp; omega), List.getElem?_set_self (by rw [pack_len]; omega), pb_push l x _ 8 (by omega), if_pos ⟨by omega, by omega⟩, show l.length - 8 * (l.length / 8) = l.length % 8 by omega]
  · rw [List.getElem?_set_ne (Ne.symm e), pack_at]
    by_cases q : j < (l.length + 7) / 8
    · rw [if_pos (by simp; omega), if_pos q, pb_push l x j 8 (by omega), if_neg (fun z => by omega), Int32.add_zero]
    · rw [if_neg (by simp; omega), if_neg q]
theorem pb_by {l : List Int32} (h : ∀ x ∈ l, x = 0 ∨ x = 1) (j : Nat) : ∀ k, k ≤ 8 → ∃ m : Nat, m < 2 ^ k ∧ pbyte l j k = nI m
  | 0, _ => ⟨0, by decide, rfl⟩
  | k + 1, hk => by
    obtain ⟨m, hm, em⟩ := pb_by h j k (by omega)
    have hp : 2 ^ (k + 1) = 2 * 2 ^ k := by rw [Nat.pow_succ]; omega
    have hb : (l[8 * j + k]?).getD 0 = 0 ∨ (l[8 * j + k]?).getD 0 = 1 := by
      cases e : l[8 * j + k]? with
      | none => exact Or.inl rfl
      | some x => exact h x (List.mem_of_getElem? e)
    show ∃ m : Nat, m < 2 ^ (k + 1) ∧ pbyte l j k + ((l[8 * j + k]?).getD 0 <<< (nI k &&& 31)) = nI m
    rcases hb with q | q
    · rw [q, sh_0 k (by omega), Int32.add_zero]
      exact ⟨m, by omega, em⟩
    · rw [q, sh_1 k (by omega), em]
      exact ⟨m + 2 ^ k, by omega, nI_add _ _⟩
theorem pack_by {l : List Int32} (h : ∀ x ∈ l, x = 0 ∨ x = 1) : aBy (pack l) := by
  intro k hk
  rw [pack_len] at hk
  obtain ⟨m, hm, em⟩ := pb_by h k 8 (by omega)
  refine ⟨m, hm, ?_⟩
  unfold pA
  rw [pack_at, if_pos hk]
  exact em
theorem aBy_take {l : List Int32} {n : Nat} (h : aBy l) : aBy (l.take n) := by
  intro k hk
  rw [List.length_take] at hk
  obtain ⟨m, hm, em⟩ := h k (by omega)
  refine ⟨m, hm, ?_⟩
  unfold pA at em ⊢
  rw [List.getElem?_take_of_lt (by omega)]
  exact em
theorem chk_take {l : List Int32} {m : Nat} (hm : m ≤ l.length) : ∀ k, k ≤ 8 * m → chkN (l.take m) k = chkN l k
  | 0, _ => rfl
  | k + 1, hk => by
    have ih := chk_take hm k (by omega)
    have eb : bitAt (l.take m) k = bitAt l k := by
      unfold bitAt
      rw [List.getElem?_take_of_lt (by omega)]
    show (if chkN (l.take m) k &&& 1 = bitAt (l.take m) k then _ else _) = (if chkN l k &&& 1 = bitAt l k then _ else _)
    rw [ih, eb]
theorem chk_t {l : List Int32} {m : Nat} (hm : m ≤ l.length) : chk (l.take m) = 65535 - chkN l (8 * m) := by
  unfold chk
  rw [List.length_take, show min m l.length = m by omega, chk_take hm _ (Nat.le_refl _)]
theorem chk_r (l : List Int32) : ∃ m : Nat, m < 65536 ∧ chk l = nI m := by
  obtain ⟨m, hm, em⟩ := chk_in l (8 * l.length)
  refine ⟨65535 - m, by omega, ?_⟩
  unfold chk
  rw [em]
  exact pk_sub (a := 65535) (by omega)
theorem chk_eq {a b : Int32} {c : Int32} (ha : ∃ m : Nat, m < 256 ∧ a = nI m) (hb : ∃ m : Nat, m < 256 ∧ b = nI m) (hc : ∃ m : Nat, m < 65536 ∧ c = nI m) : a + 256 * b = c ↔ (a = c &&& 255 ∧ b = c >>> ((8 : Int32) &&& 31)) := by
  obtain ⟨x, hx, rfl⟩ := ha
  obtain ⟨y, hy, rfl⟩ := hb
  obtain ⟨z, hz, rfl⟩ := hc
  rw [show (256 : Int32) * nI y = nI (256 * y) from pk_mul 256 y, nI_add, pk_andN (by omega) (m := 255) 8 (by decide), pk_shrN (by omega) ((8 : Int32) &&& 31) 8 (by decide)]
  rw [nI_eq (by omega) (by omega), nI_eq (by omega) (by omega), nI_eq (by omega) (by omega)]
  omega
theorem rFm_ok {row F : List Int32} (h : rFm row = some F) (hb : ∀ x ∈ row, x = 0 ∨ x = 1) : aBy F ∧ 15 ≤ F.length ∧ F.length ≤ 90 := by
  unfold rFm at h
  split at h
  · rename_i q
    have e := Option.some.inj h
    subst e
    refine ⟨aBy_take (pack_by hb), ?_⟩
    rw [List.length_take, pack_len]
    have := q.1
    unfold rCn at this ⊢
    omega
  · cases h
theorem rAd_ok {R : rcT} {b : Int32} (h : rOk R) (hb : b = 0 ∨ b = 1) : rOk (rAd R b) := by
  obtain ⟨h1, h2, h3⟩ := h
  unfold rAd
  split
  · exact ⟨h1, h2, h3⟩
  · split
    · refine ⟨h1, fun x hx => ?_, h3⟩
      rcases List.mem_append.mp hx with q | q
      · exact h2 x q
      · rw [List.mem_singleton] at q
        rw [q]
        exact hb
    · exact ⟨Or.inl rfl, h2, h3⟩
theorem rHr_ok {R : rcT} {v : Int32} (h : rOk R) : rOk (rHr R v).2 := by
  obtain ⟨h1, h2, h3⟩ := id h
  have n0 : ∀ x ∈ ([] : List Int32), x = 0 ∨ x = 1 := fun x hx => by cases hx
  unfold rHr
  split
  · split
    · exact rAd_ok (R := (R.1, v, R.2.2.1 + 1, R.2.2.2.1, R.2.2.2.2)) ⟨h1, h2, h3⟩ (Or.inr rfl)
    · exact ⟨Or.inl rfl, h2, h3⟩
  · split
    · unfold rH6
      split
      · exact ⟨Or.inr rfl, n0, h3⟩
      · split
        · exact ⟨Or.inr rfl, n0, h3⟩
        · rename_i F hF
          obtain ⟨f1, f2, f3⟩ := rFm_ok hF h2
          exact ⟨Or.inr rfl, n0, f1, Or.inr f2, f3⟩
    · split
      · exact ⟨h1, h2, h3⟩
      · exact rAd_ok (R := (R.1, v, 0, R.2.2.2.1, R.2.2.2.2)) ⟨h1, h2, h3⟩ (Or.inl rfl)
theorem rHr_01 {R : rcT} {v : Int32} : (rHr R v).1 = 0 ∨ (rHr R v).1 = 1 := by
  unfold rHr
  split
  · split
    · exact Or.inl rfl
    · exact Or.inl rfl
  · split
    · unfold rH6
      split
      · exact Or.inl rfl
      · split
        · exact Or.inl rfl
        · exact Or.inr rfl
    · split
      · exact Or.inl rfl
      · exact Or.inl rfl
def cRt (I : mIm) (b : Nat) (R : rcT) : Prop := I b 2 = R.1 ∧ I b 3 = R.2.1 ∧ I b 4 = R.2.2.1 ∧ isL I (b + 3) R.2.2.2.2 ∧ R.2.2.2.2.length ≤ 90 ∧ (R.1 = 1 → I b 1 = nI R.2.2.2.1.length ∧ R.2.2.2.1.length ≤ 743 ∧ isL I (b + 1) (pack R.2.2.2.1))
def frV (I J : mIm) (b : Nat) : Prop := ∀ r, (r < b ∨ b + 5 ≤ r) → J r = I r
theorem frV_t {I J K : mIm} {b : Nat} (h : frV I J b) (g : frV J K b) : frV I K b := fun r hr => by rw [g r hr, h r hr]
theorem frV_p {I : mIm} {b j : Nat} {v : Int32} : frV I (iput I b j v) b := fun r hr => iput_n _ _ _ (by omega)
section HV
variable {S : mS} {I J I0 : mIm} {b : Nat} {R : rcT}
theorem v_add15 (hV : isV S b) (h : cRt I b R) (h01 : R.1 = 0 ∨ R.1 = 1) (hlt : R.1 = 1 → R.2.2.2.1.length < 743) (x : Int32) : pw S (q_V_addBit_15 (some b) x (I, S)) (fun _ J => frV I J b ∧ cRt J b (rAd R x)) := by
  obtain ⟨op, la, on, row, came⟩ := R
  obtain ⟨v1, v2, v3, v4, v5⟩ := hV
  obtain ⟨h1, h2, h3, h4, h5, h6⟩ := id h
  dsimp only at h1 h2 h3 h4 h5 h6 h01 hlt
  unfold q_V_addBit_15 rAd
  dsimp only
  refine pw_gE v1 h1 ?_
  rcases h01 with q | q
  · subst q
    rw [if_pos rfl, if_pos rfl]
    exact pw_ret ⟨fun _ _ => rfl, h⟩
  · subst q
    obtain ⟨g1, g2, g3⟩ := h6 rfl
    have hl := hlt rfl
    have c10 : ¬ (1 : Int32) = 0 := by decide
    rw [if_neg c10, if_neg c10, if_pos hl]
    refine pw_gE v1 g1 ?_
    rw [an7 (by omega)]
    have fin : ∀ J2, frV I J2 b → (∀ j, J2 b j = I b j) → isL J2 (b + 3) came → isL J2 (b + 1) (pack (row ++ [x])) → pw S (q_V_addBit_66 (some b) (J2, S)) (fun _ J => frV I J b ∧ cRt J b (1, la, on, row ++ [x], came)) := by
      intro J2 k1 k2 k3 k4
      unfold q_V_addBit_66
      refine pw_gE v1 (v := nI row.length) (by rw [k2]; exact g1) (pw_pI v1 (pw_ret ⟨frV_t k1 frV_p, ?_, ?_, ?_, ?_, h5, fun _ => ⟨?_, ?_, ?_⟩⟩))
      · rw [iput_j _ _ _ (by decide), k2]; exact h1
      · rw [iput_j _ _ _ (by decide), k2]; exact h2
      · rw [iput_j _ _ _ (by decide), k2]; exact h3
      · exact isL_same k3 (iput_n _ _ _ (by omega)) (iput_n _ _ _ (by omega))
      · rw [iput_s]
        show _ = nI (row ++ [x]).length
        rw [List.length_append]
        exact nI_1 _
      · show (row ++ [x]).length ≤ 743
        rw [List.length_append]
        show row.length + 1 ≤ 743
        omega
      · exact isL_same k4 (iput_n _ _ _ (by omega)) (iput_n _ _ _ (by omega))
    have hpl := pack_len row
    by_cases e : row.length % 8 = 0
    · refine pw_t (by rw [e]; rfl) (pw_gR v1 v2 (pw_cv v3.1 (p_B_add v3 g3 (by omega) x) (fun _ J2 z => ?_)))
      exact fin J2 (fun r hr => z.2 r (by omega) (by omega)) (fun j => by rw [z.2 b (by omega) (by omega)]) (isL_same h4 (z.2 _ (by omega) (by omega)) (z.2 _ (by omega) (by omega))) (by rw [pack_p0 x e]; exact z.1)
    · refine pw_f (nI_ne0 (by omega) (by omega)) (pw_gR v1 v2 (pw_gE v1 g1 (pw_gE v1 g1 ?_)))
      rw [sh3 (by omega), an7 (by omega)]
      refine pw_cv v3.1 (p_B_raise v3 g3 (by omega) (row.length / 8) _ (pbyte row (row.length / 8) 8) (by rw [pack_at, if_pos (by omega)])) (fun _ J2 z => ?_)
      exact fin J2 (fun r hr => z.2 r (by omega)) (fun j => by rw [z.2 b (by omega)]) (isL_same h4 (z.2 _ (by omega)) (z.2 _ (by omega))) (by rw [pack_p1 x e]; exact z.1)
theorem v_addBit (hV : isV S b) (h : cRt I b R) (h01 : R.1 = 0 ∨ R.1 = 1) (x : Int32) : pw S (q_V_addBit (some b) x (I, S)) (fun _ J => frV I J b ∧ cRt J b (rAd R x)) := by
  obtain ⟨op, la, on, row, came⟩ := R
  obtain ⟨v1, v2, v3, v4, v5⟩ := id hV
  obtain ⟨h1, h2, h3, h4, h5, h6⟩ := id h
  dsimp only at h1 h2 h3 h4 h5 h6 h01
  unfold q_V_addBit
  refine pw_gI v1 ?_
  have hz : pw S (q_V_addBit_15 (some b) x (iput I b 2 0, S)) (fun _ J => frV I J b ∧ cRt J b (0, la, on, row, came)) := by
    have hc : cRt (iput I b 2 0) b (0, la, on, row, came) := ⟨iput_s _ _ _ _, by rw [iput_j _ _ _ (by decide)]; exact h2, by rw [iput_j _ _ _ (by decide)]; exact h3, isL_same h4 (iput_n _ _ _ (by omega)) (iput_n _ _ _ (by omega)), h5, fun q => absurd q (by show ¬ (0 : Int32) = 1; decide)⟩
    refine pw_mono (v_add15 hV hc (Or.inl rfl) (fun q => absurd q (by show ¬ (0 : Int32) = 1; decide)) x) (fun _ J g => ⟨frV_t frV_p g.1, ?_⟩)
    have := g.2
    unfold rAd at this
    rw [if_pos rfl] at this
    exact this
  rcases h01 with q | q
  · subst q
    have e : rAd (0, la, on, row, came) x = (0, la, on, row, came) := by unfold rAd; rw [if_pos rfl]
    refine pw_if (fun _ => v_add15 hV h (Or.inl rfl) (fun q => absurd q (by show ¬ (0 : Int32) = 1; decide)) x) (fun _ => pw_pZ v1 (Or.inl rfl) ?_)
    rw [e]
    exact hz
  · subst q
    obtain ⟨g1, g2, g3⟩ := h6 rfl
    rw [g1]
    by_cases hl : row.length < 743
    · exact pw_t (nI_lt (b := 743) hl (by decide)) (v_add15 hV h (Or.inr rfl) (fun _ => hl) x)
    · have e : rAd (1, la, on, row, came) x = (0, la, on, row, came) := by
        unfold rAd
        rw [if_neg (show ¬ (1 : Int32) = 0 by decide), if_neg hl]
      refine pw_f (nI_nlt (b := 743) (by omega) (by omega)) (pw_pZ v1 (Or.inl rfl) ?_)
      rw [e]
      exact hz
theorem v_holds (hV : isV S b) {la on : Int32} {row came : List Int32} (h : cRt I b (1, la, on, row, came)) (hb : ∀ x ∈ row, x = 0 ∨ x = 1) : pw S (q_V_holdsFrame (some b) (I, S)) (fun v J => frV I J b ∧ match rFm row with
    | none => v = 0 ∧ cRt J b (1, la, on, row, came)
    | some F => v = 1 ∧ cRt J b (1, la, on, row, F)) := by
  obtain ⟨v1, v2, v3, v4, v5⟩ := id hV
  obtain ⟨h1, h2, h3, h4, h5, h6⟩ := id h
  dsimp only at h1 h2 h3 h4 h5 h6
  obtain ⟨g1, g2, g3⟩ := h6 rfl
  have hpl := pack_len row
  have no : rFm row = none → pw S (x_rz (0 : Int32) (I, S)) (fun v J => frV I J b ∧ match rFm row with
      | none => v = 0 ∧ cRt J b (1, la, on, row, came)
      | some F => v = 1 ∧ cRt J b (1, la, on, row, F)) := by
    intro q
    rw [q]
    exact pw_rz (Or.inl rfl) ⟨fun _ _ => rfl, rfl, h⟩
  unfold q_V_holdsFrame
  refine pw_gE v1 g1 (pw_lt ?_)
  by_cases h7 : 7 ≤ row.length
  · rw [show nI row.length - (7 : Int32) = nI (row.length - 7) from pk_sub (b := 7) h7]
    refine pw_rm (n := row.length - 7) (d := 8) rfl rfl (by omega) (by decide) (by decide) ?_
    by_cases e8 : (row.length - 7) % 8 = 0
    · rw [e8]
      refine pw_t rfl ?_
      have hcn : row.length - 7 = 8 * rCn row := by unfold rCn; omega
      by_cases c1 : 17 ≤ rCn row
      · refine pw_f (nI_nlt (b := 136) (by omega) (by omega)) ?_
        by_cases c2 : rCn row ≤ 92
        · refine pw_f (nI_nlt (a := 736) (by omega) (by omega)) (pw_dv (n := row.length - 7) (d := 8) rfl rfl (by omega) (by decide) (by decide) (pw_lt ?_))
          rw [show (row.length - 7) / 8 = rCn row from rfl, show nI (rCn row) - (2 : Int32) = nI (rCn row - 2) from pk_sub (b := 2) (by omega)]
          refine pw_gR v1 v2 (pw_cv v3.1 (c_at v3 g3 (by omega) (by omega)) (fun x J g => ?_))
          obtain ⟨rfl, hJ⟩ := g
          rw [hJ, show nI (rCn row - 2) + (1 : Int32) = nI (rCn row - 1) from by rw [nI_1]; congr 1; omega]
          refine pw_gR v1 v2 (pw_cv v3.1 (c_at v3 g3 (by omega) (by omega)) (fun x J g => ?_))
          obtain ⟨rfl, hJ⟩ := g
          rw [hJ]
          refine pw_gR v1 v2 (pw_cl (c_checkOf v3 g3 (by omega) (n := rCn row - 2) (by omega) (by omega)) (fun x J g => ?_))
          obtain ⟨hJ, rfl⟩ := g
          rw [hJ, ← chk_t (l := pack row) (m := rCn row - 2) (by omega)]
          have hce := chk_eq (pack_by hb (rCn row - 2) (by omega)) (pack_by hb (rCn row - 1) (by omega)) (chk_r ((pack row).take (rCn row - 2)))
          by_cases ec : pA (pack row) (rCn row - 2) + 256 * pA (pack row) (rCn row - 1) = chk ((pack row).take (rCn row - 2))
          · have hF : rFm row = some ((pack row).take (rCn row - 2)) := by
              unfold rFm
              rw [if_pos ⟨⟨⟨h7, e8⟩, c1, c2⟩, hce.mp ec⟩]
            rw [hF]
            dsimp only
            refine pw_t ec (pw_gR v1 v4 (pw_cv v5.1 (p_B_clear v5) (fun _ J2 z => ?_)))
            obtain ⟨z1, z2, z3⟩ := z
            have g3' : isL J2 (b + 1) (pack row) := isL_same g3 (z3 _ (by omega)) (z3 _ (by omega))
            refine pw_gR v1 v4 (pw_gR v1 v2 (pw_cv v5.1 (p_B_addFrom v5 z1 v3 g3' (by omega) (by omega) 0 (rCn row - 2) (by omega) (by simp; omega)) (fun _ J3 w => ?_)))
            obtain ⟨w1, w2⟩ := w
            rw [List.nil_append, List.drop_zero] at w1
            have eb : J3 b = I b := by rw [w2 b (by omega) (by omega), z3 b (by omega)]
            refine pw_rz (Or.inr rfl) ⟨fun r hr => by rw [w2 r (by omega) (by omega), z3 r (by omega)], rfl, by rw [eb]; exact h1, by rw [eb]; exact h2, by rw [eb]; exact h3, w1, ?_, fun _ => ⟨by rw [eb]; exact g1, g2, isL_same g3' (w2 _ (by omega) (by omega)) (w2 _ (by omega) (by omega))⟩⟩
            show ((pack row).take (rCn row - 2)).length ≤ 90
            rw [List.length_take]
            omega
          · refine pw_f ec (no ?_)
            unfold rFm
            rw [if_neg (fun q => ec (hce.mpr q.2))]
        · refine pw_t (nI_lt (a := 736) (by omega) (by omega)) (no ?_)
          unfold rFm
          rw [if_neg (fun q => c2 q.1.2.2)]
      · refine pw_t (nI_lt (b := 136) (by omega) (by decide)) (no ?_)
        unfold rFm
        rw [if_neg (fun q => c1 q.1.2.1)]
    · refine pw_f (nI_ne0 (by omega) (by omega)) (no ?_)
      unfold rFm
      rw [if_neg (fun q => e8 q.1.1.2)]
  · have hn : rFm row = none := by
      unfold rFm
      rw [if_neg (fun q => h7 q.1.1.1)]
    have hneg : nI row.length - (7 : Int32) < 136 := by
      have h0 := pk_sneg (a := row.length) (b := 7) (by decide) (by omega)
      rw [Int32.lt_iff_toInt_lt] at h0 ⊢
      have e0 : (0 : Int32).toInt = 0 := rfl
      have e1 : (136 : Int32).toInt = 136 := rfl
      have h0 : (nI row.length - (7 : Int32)).toInt < (0 : Int32).toInt := h0
      omega
    unfold x_rm
    rw [if_neg (show ¬ (8 : Int32) = 0 by decide)]
    exact pw_if (fun _ => pw_t hneg (no hn)) (fun _ => no hn)
theorem v_hear (hV : isV S b) (h : cRt I b R) (hk : rOk R) (v : Int32) : pw S (q_V_hear (some b) v (I, S)) (fun x J => x = (rHr R v).1 ∧ frV I J b ∧ cRt J b (rHr R v).2) := by
  obtain ⟨op, la, on, row, came⟩ := R
  obtain ⟨v1, v2, v3, v4, v5⟩ := id hV
  obtain ⟨h1, h2, h3, h4, h5, h6⟩ := id h
  obtain ⟨k1, k2, k3⟩ := hk
  dsimp only at h1 h2 h3 h4 h5 h6 k1 k2 k3
  unfold q_V_hear rHr
  dsimp only
  refine pw_gE v1 h2 ?_
  have hcl : cRt (iput I b 3 v) b (op, v, on, row, came) := ⟨by rw [iput_j _ _ _ (by decide)]; exact h1, iput_s _ _ _ _, by rw [iput_j _ _ _ (by decide)]; exact h3, isL_same h4 (iput_n _ _ _ (by omega)) (iput_n _ _ _ (by omega)), h5, fun q => ⟨by rw [iput_j _ _ _ (by decide)]; exact (h6 q).1, (h6 q).2.1, isL_same (h6 q).2.2 (iput_n _ _ _ (by omega)) (iput_n _ _ _ (by omega))⟩⟩
  have hfl : frV I (iput I b 3 v) b := frV_p
  have on4 : ∀ {K : mIm} {o l2 n2 n3 : Int32} {r c : List Int32}, cRt K b (o, l2, n2, r, c) → cRt (iput K b 4 n3) b (o, l2, n3, r, c) := by
    intro K o l2 n2 n3 r c hq
    obtain ⟨q1, q2, q3, q4, q5, q6⟩ := hq
    exact ⟨by rw [iput_j _ _ _ (by decide)]; exact q1, by rw [iput_j _ _ _ (by decide)]; exact q2, iput_s _ _ _ _, isL_same q4 (iput_n _ _ _ (by omega)) (iput_n _ _ _ (by omega)), q5, fun q => ⟨by rw [iput_j _ _ _ (by decide)]; exact (q6 q).1, (q6 q).2.1, isL_same (q6 q).2.2 (iput_n _ _ _ (by omega)) (iput_n _ _ _ (by omega))⟩⟩
  by_cases ev : v = la
  · rw [if_pos ev, if_pos ev]
    unfold q_V_hear_13
    refine pw_pI v1 (pw_f (by decide) ?_)
    unfold q_V_hearOne
    generalize iput I b 3 v = I1 at hcl hfl ⊢
    have hc2 := on4 (n3 := on + 1) hcl
    have f2 : frV I (iput I1 b 4 (on + 1)) b := frV_t hfl frV_p
    refine pw_cv v1 (P := fun _ J => frV I J b ∧ cRt J b (if on + 1 < 7 then (0, rAd (op, v, on + 1, row, came) 1) else (0, (0, v, on + 1, row, came)) : Int32 × rcT).2) (pw_gE v1 hcl.2.2.1 (pw_pI v1 (pw_gE v1 (iput_s _ _ _ _) ?_))) (fun _ J g => ?_)
    · by_cases e7 : on + 1 < 7
      · rw [if_pos e7, if_pos e7]
        exact pw_cv v1 (v_addBit hV hc2 k1 1) (fun _ J g => pw_ret ⟨frV_t f2 g.1, g.2⟩)
      · rw [if_neg e7, if_neg e7]
        refine pw_pZ v1 (Or.inl rfl) (pw_ret ⟨frV_t f2 frV_p, iput_s _ _ _ _, by rw [iput_j _ _ _ (by decide)]; exact hc2.2.1, by rw [iput_j _ _ _ (by decide)]; exact hc2.2.2.1, isL_same hc2.2.2.2.1 (iput_n _ _ _ (by omega)) (iput_n _ _ _ (by omega)), h5, fun q => absurd q (by show ¬ (0 : Int32) = 1; decide)⟩)
    · refine pw_rz (Or.inl rfl) ⟨?_, g.1, g.2⟩
      split <;> rfl
  · rw [if_neg ev, if_neg ev]
    unfold q_V_hear_13
    refine pw_pI v1 (pw_t rfl ?_)
    generalize iput I b 3 v = I1 at hcl hfl ⊢
    refine pw_gE v1 hcl.2.2.1 ?_
    have m93 : ∀ (K : mIm) (x o n2 : Int32) (r c : List Int32), (x = 0 ∨ x = 1) → frV I K b → cRt K b (o, v, n2, r, c) → pw S (q_V_hear_93 (some b) x (K, S)) (fun y J => y = x ∧ frV I J b ∧ cRt J b (o, v, 0, r, c)) := by
      intro K x o n2 r c hx q1 q2
      unfold q_V_hear_93
      exact pw_pI v1 (pw_rz hx ⟨rfl, frV_t q1 frV_p, on4 q2⟩)
    by_cases e6 : on = 6
    · rw [if_pos e6, if_pos e6]
      unfold rH6
      have m59 : ∀ (K : mIm) (x o n2 : Int32) (r c : List Int32), (x = 0 ∨ x = 1) → frV I K b → cRt K b (o, v, n2, r, c) → pw S (q_V_hear_59 (some b) x (K, S)) (fun y J => y = x ∧ frV I J b ∧ cRt J b (1, v, 0, [], c)) := by
        intro K x o n2 r c hx q1 q2
        unfold q_V_hear_59
        obtain ⟨w1, w2, w3, w4, w5, w6⟩ := q2
        refine pw_pZ v1 (Or.inr rfl) (pw_pI v1 (pw_gR v1 v2 (pw_cv v3.1 (p_B_clear v3) (fun _ J2 z => ?_))))
        obtain ⟨z1, z2, z3⟩ := z
        have eb := z3 b (by omega)
        refine m93 J2 x 1 n2 [] c hx (frV_t q1 (fun r hr => by rw [z3 r (by omega), iput_n _ _ _ (by omega), iput_n _ _ _ (by omega)])) ⟨?_, ?_, ?_, ?_, w5, fun _ => ⟨?_, by show (0 : Nat) ≤ 743; decide, by show isL J2 (b + 1) (pack []); rw [show pack ([] : List Int32) = [] from rfl]; exact z1⟩⟩
        · rw [eb, iput_j _ _ _ (by decide), iput_s]
        · rw [eb, iput_j _ _ _ (by decide), iput_j _ _ _ (by decide)]; exact w2
        · rw [eb, iput_j _ _ _ (by decide), iput_j _ _ _ (by decide)]; exact w3
        · exact isL_same w4 (by rw [z3 _ (by omega), iput_n _ _ _ (by omega), iput_n _ _ _ (by omega)]) (by rw [z3 _ (by omega), iput_n _ _ _ (by omega), iput_n _ _ _ (by omega)])
        · rw [eb, iput_s]; rfl
      unfold q_V_hear_58
      refine pw_gE v1 hcl.1 ?_
      rcases k1 with q | q
      · subst q
        refine pw_t rfl ?_
        rw [if_pos rfl]
        exact m59 I1 0 _ _ _ _ (Or.inl rfl) hfl hcl
      · subst q
        have c10 : ¬ (1 : Int32) = 0 := by decide
        refine pw_f c10 ?_
        rw [if_neg c10]
        refine pw_cv v1 (v_holds hV hcl k2) (fun x J g => ?_)
        obtain ⟨g1, g2⟩ := g
        cases hF : rFm row with
        | none =>
          rw [hF] at g2
          dsimp only at g2 ⊢
          obtain ⟨rfl, g2⟩ := g2
          exact pw_t rfl (m59 J 0 _ _ _ _ (Or.inl rfl) (frV_t hfl g1) g2)
        | some F =>
          rw [hF] at g2
          dsimp only at g2 ⊢
          obtain ⟨rfl, g2⟩ := g2
          exact pw_f c10 (m59 J 1 _ _ _ _ (Or.inr rfl) (frV_t hfl g1) g2)
    · rw [if_neg e6, if_neg e6]
      refine pw_gE v1 hcl.2.2.1 ?_
      by_cases e5 : on = 5
      · rw [if_pos e5, if_pos e5]
        exact m93 I1 0 _ _ _ _ (Or.inl rfl) hfl hcl
      · rw [if_neg e5, if_neg e5]
        refine pw_cv v1 (v_addBit hV hcl k1 0) (fun _ J g => ?_)
        have e : ∃ o r c, rAd (op, v, on, row, came) 0 = (o, v, on, r, c) ∧ rAd (op, v, 0, row, came) 0 = (o, v, 0, r, c) := by
          unfold rAd
          dsimp only
          split
          · exact ⟨_, _, _, rfl, rfl⟩
          · split
            · exact ⟨_, _, _, rfl, rfl⟩
            · exact ⟨_, _, _, rfl, rfl⟩
        obtain ⟨o, r, c, ea, eb⟩ := e
        have g2 := g.2
        rw [ea] at g2
        rw [eb]
        exact m93 J 0 o on r c (Or.inl rfl) (frV_t hfl g.1) g2
end HV
