/-! rows of BYTES, in a ring: an object w of class 6, its table, its rows -/
def isW (S : mS) (w n cap : Nat) : Prop := S.2.1 w = 16 ∧ S.1 w 0 = some (w + 1) ∧ S.2.1 (w + 1) = 3 ∧ S.2.2.1 (w + 1) = n ∧ 0 < n ∧ n < 1000 ∧ ∀ i, i < n → S.1 (w + 1) i = some (w + 2 + 2 * i) ∧ isB S (w + 2 + 2 * i) cap
/-- it holds the lists ll -/
def isR (I : mIm) (w n cap : Nat) (ll : List (List Int32)) : Prop := ∃ f : Nat, f < n ∧ I w 1 = nI f ∧ I w 2 = nI ll.length ∧ ll.length ≤ n ∧ ∀ (i : Nat) (l : List Int32), ll[i]? = some l → l.length ≤ cap ∧ isL I (w + 2 + 2 * ((f + i) % n)) l
theorem isR_same {I I' : mIm} {w n cap : Nat} {ll : List (List Int32)} (h : isR I w n cap ll) (h1 : ∀ r, w ≤ r → r < w + 2 + 2 * n → I' r = I r) : isR I' w n cap ll := by
  obtain ⟨f, a1, a2, a3, a4, a5⟩ := h
  refine ⟨f, a1, ?_, ?_, a4, fun i l hl => ?_⟩
  · rw [h1 w (by omega) (by omega)]; exact a2
  · rw [h1 w (by omega) (by omega)]; exact a3
  · obtain ⟨b1, b2⟩ := a5 i l hl
    have hm : (f + i) % n < n := Nat.mod_lt _ (by omega)
    exact ⟨b1, isL_same b2 (h1 _ (by omega) (by omega)) (h1 _ (by omega) (by omega))⟩
theorem isR_len {I : mIm} {w n cap : Nat} {ll : List (List Int32)} (h : isR I w n cap ll) : ll.length ≤ n ∧ I w 2 = nI ll.length ∧ ∀ l ∈ ll, l.length ≤ cap := by
  obtain ⟨f, a1, a2, a3, a4, a5⟩ := h
  refine ⟨a4, a3, fun l hl => ?_⟩
  obtain ⟨i, hi⟩ := List.getElem?_of_mem hl
  exact (a5 i l hi).1
section PW2
variable {S : mS} {I : mIm} {w n cap : Nat} {ll : List (List Int32)}
theorem p_W_clear (hW : isW S w n cap) (h : isR I w n cap ll) : pw S (q_W_clear (some w) (I, S)) (fun _ I' => isR I' w n cap [] ∧ ∀ r, r ≠ w → I' r = I r) := by
  obtain ⟨f, a1, a2, a3, a4, a5⟩ := h
  unfold q_W_clear
  refine pw_pI hW.1 (pw_ret ⟨⟨f, a1, ?_, ?_, by simp, fun i l hl => by simp at hl⟩, fun r hr => iput_n _ _ _ hr⟩)
  · rw [iput_j _ _ _ (by omega)]; exact a2
  · rw [iput_s]; rfl
/-- row k: the cell's number b, where it is there -/
theorem p_W_rowAt (hW : isW S w n cap) (h : isR I w n cap ll) (k : Int32) : pw S (q_W_rowAt (some w) k (I, S)) (fun a I' => I' = I ∧ ((a = none ∧ (k < 0 ∨ ll[k.toNatClampNeg]? = none)) ∨ ∃ (b : Nat) (l : List Int32), a = some b ∧ ¬ k < 0 ∧ ll[k.toNatClampNeg]? = some l ∧ l.length ≤ cap ∧ isL I b l ∧ isB S b cap ∧ w + 2 ≤ b ∧ b + 2 ≤ w + 2 + 2 * n)) := by
  obtain ⟨f, a1, a2, a3, a4, a5⟩ := h
  obtain ⟨k1, k2, k3, k4, k5, k6, k7⟩ := hW
  unfold q_W_rowAt
  refine pw_if (fun h => pw_ret ⟨rfl, Or.inl ⟨rfl, Or.inl h⟩⟩) (fun h => ?_)
  obtain ⟨m, hm, rfl⟩ := nI_of h
  rw [nI_clamp hm]
  refine pw_gI k1 ?_
  rw [a3]
  refine pw_if (fun h2 => ?_) (fun h2 => ?_)
  · have h3 : m < ll.length := (nI_ltI hm (by omega)).mp h2
    have hlt : (f + m) % n < n := Nat.mod_lt _ k5
    obtain ⟨g1, g2⟩ := k7 _ hlt
    obtain ⟨b1, b2⟩ := a5 m _ (List.getElem?_eq_getElem h3)
    refine pw_gR k1 k2 (pw_gI k1 (pw_gR k1 k2 (pw_al (n := n) k3 k4 (pw_rm (n := f + m) (d := n) (by rw [a2, nI_add]) rfl (by omega) k5 (by omega) (pw_aR ((f + m) % n) k3 rfl (by omega) (by omega) g1 (pw_ret ⟨rfl, Or.inr ⟨_, _, rfl, h, List.getElem?_eq_getElem h3, b1, b2, g2, by omega, by omega⟩⟩))))))
  · have h3 : ll.length ≤ m := by
      rcases Nat.lt_or_ge m ll.length with q | q
      · exact absurd ((nI_ltI hm (by omega)).mpr q) h2
      · exact q
    exact pw_ret ⟨rfl, Or.inl ⟨rfl, Or.inr (List.getElem?_eq_none h3)⟩⟩
/-- a new row: it is empty; whoever fills it fills the ring -/
theorem p_W_addRow (hW : isW S w n cap) (h : isR I w n cap ll) (hl : ll.length < n) : pw S (q_W_addRow (some w) (I, S)) (fun a I' => ∃ b : Nat, a = some b ∧ isL I' b [] ∧ isB S b cap ∧ w + 2 ≤ b ∧ b + 2 ≤ w + 2 + 2 * n ∧ (∀ r, (r < w ∨ w + 2 + 2 * n ≤ r) → I' r = I r) ∧ ∀ (J : mIm) (l : List Int32), l.length ≤ cap → isL J b l → (∀ r, w ≤ r → r < w + 2 + 2 * n → r ≠ b → r ≠ b + 1 → J r = I' r) → isR J w n cap (ll ++ [l])) := by
  obtain ⟨f, a1, a2, a3, a4, a5⟩ := h
  obtain ⟨k1, k2, k3, k4, k5, k6, k7⟩ := hW
  have hlt : (f + ll.length) % n < n := Nat.mod_lt _ k5
  obtain ⟨g1, g2⟩ := k7 _ hlt
  unfold q_W_addRow
  refine pw_gI k1 (pw_gR k1 k2 (pw_al (n := n) k3 k4 (pw_t (by rw [a3]; exact nI_lt hl (by omega)) (pw_gR k1 k2 (pw_gI k1 (pw_gI k1 (pw_gR k1 k2 (pw_al (n := n) k3 k4 (pw_rm (n := f + ll.length) (d := n) (by rw [a2, a3, nI_add]) rfl (by omega) k5 (by omega) (pw_aR ((f + ll.length) % n) k3 rfl (by omega) (by omega) g1 (pw_pI g2.1 (pw_gI k1 (pw_pI k1 (pw_ret ⟨_, rfl, ⟨?_, fun j x hj => by simp at hj⟩, g2, by omega, by omega, fun r hr => ?_, fun J l h1 h2 h3 => ?_⟩))))))))))))))
  · rw [iput_n _ _ _ (by omega), iput_s]
    rfl
  · rw [iput_n _ _ _ (by omega), iput_n _ _ _ (by omega)]
  · refine ⟨f, a1, ?_, ?_, by simp; omega, fun i z hz => ?_⟩
    · rw [h3 w (by omega) (by omega) (by omega) (by omega), iput_j _ _ _ (by omega), iput_n _ _ _ (by omega)]
      exact a2
    · rw [h3 w (by omega) (by omega) (by omega) (by omega), iput_s, iput_n _ _ _ (by omega), a3, List.length_append]
      exact nI_1 _
    · by_cases hi : i < ll.length
      · rw [List.getElem?_append_left hi] at hz
        obtain ⟨b1, b2⟩ := a5 i z hz
        have hm : (f + i) % n < n := Nat.mod_lt _ k5
        have hne : (f + i) % n ≠ (f + ll.length) % n := by
          intro e
          have h5 : (f + i) / n = (f + ll.length) / n ∨ (f + i) / n + 1 ≤ (f + ll.length) / n := by
            have : (f + i) / n ≤ (f + ll.length) / n := Nat.div_le_div_right (by omega)
            omega
          have e1 := Nat.div_add_mod (f + i) n
          have e2 := Nat.div_add_mod (f + ll.length) n
          rcases h5 with h5 | h5
          · rw [h5] at e1
            omega
          · have : n * ((f + i) / n + 1) ≤ n * ((f + ll.length) / n) := Nat.mul_le_mul_left _ h5
            rw [Nat.mul_add, Nat.mul_one] at this
            omega
        refine ⟨b1, isL_same b2 ?_ ?_⟩
        · rw [h3 _ (by omega) (by omega) (by omega) (by omega), iput_n _ _ _ (by omega), iput_n _ _ _ (by omega)]
        · rw [h3 _ (by omega) (by omega) (by omega) (by omega), iput_n _ _ _ (by omega), iput_n _ _ _ (by omega)]
      · rw [List.getElem?_append_right (by omega)] at hz
        have hq := (List.getElem?_eq_some_iff.mp hz).1
        simp at hq
        have hie : i = ll.length := by omega
        subst hie
        rw [Nat.sub_self] at hz
        cases hz
        exact ⟨h1, h2⟩
theorem p_W_full (hW : isW S w n cap) (h : isR I w n cap ll) (hl : ¬ ll.length < n) : pw S (q_W_addRow (some w) (I, S)) (fun a I' => a = none ∧ I' = I) := by
  obtain ⟨f, a1, a2, a3, a4, a5⟩ := h
  obtain ⟨k1, k2, k3, k4, k5, k6, k7⟩ := hW
  unfold q_W_addRow
  exact pw_gI k1 (pw_gR k1 k2 (pw_al (n := n) k3 k4 (pw_f (by rw [a3]; exact nI_nlt (by omega) (by omega)) (pw_ret ⟨rfl, rfl⟩))))
theorem p_W_dropFirst (hW : isW S w n cap) (h : isR I w n cap ll) (m : Nat) (hm : m ≤ ll.length) : pw S (q_W_dropFirst (some w) (nI m) (I, S)) (fun _ I' => isR I' w n cap (ll.drop m) ∧ ∀ r, r ≠ w → I' r = I r) := by
  obtain ⟨f, a1, a2, a3, a4, a5⟩ := h
  obtain ⟨k1, k2, k3, k4, k5, k6, k7⟩ := hW
  unfold q_W_dropFirst
  refine pw_gI k1 ?_
  have h9 : (if (0 : Int32) < (if I w 2 < nI m then I w 2 else nI m) then (if I w 2 < nI m then I w 2 else nI m) else (0 : Int32)) = nI m := by
    rw [a3, if_neg (nI_nlt hm (by omega))]
    by_cases h0 : m = 0
    · subst h0
      rw [if_neg (by rw [nI_0]; decide), nI_0]
    · rw [if_pos (by rw [← nI_0]; exact nI_lt (by omega) (by omega))]
  rw [h9]
  unfold x_lt
  refine pw_gI k1 (pw_gR k1 k2 (pw_al (n := n) k3 k4 (pw_rm (n := f + m) (d := n) (by rw [a2, nI_add]) rfl (by omega) k5 (by omega) (pw_pI k1 (pw_gI k1 (pw_pI k1 (pw_ret ⟨⟨(f + m) % n, Nat.mod_lt _ k5, ?_, ?_, by simp; omega, fun i l hl => ?_⟩, fun r hr => ?_⟩)))))))
  · rw [iput_j _ _ _ (by omega), iput_s]
  · rw [iput_s, iput_j _ _ _ (by omega), a3, List.length_drop]
    exact pk_sub hm
  · rw [List.getElem?_drop] at hl
    obtain ⟨b1, b2⟩ := a5 _ l hl
    have he : ((f + m) % n + i) % n = (f + (m + i)) % n := by
      rw [← Nat.add_assoc, Nat.add_mod ((f + m) % n), Nat.mod_mod, ← Nat.add_mod]
    rw [he]
    have hlt : (f + (m + i)) % n < n := Nat.mod_lt _ k5
    refine ⟨b1, isL_same b2 ?_ ?_⟩
    · rw [iput_n _ _ _ (by omega), iput_n _ _ _ (by omega)]
    · rw [iput_n _ _ _ (by omega), iput_n _ _ _ (by omega)]
  · rw [iput_n _ _ _ hr, iput_n _ _ _ hr]
end PW2
