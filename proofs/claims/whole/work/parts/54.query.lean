/-! who is a station, what is a link; the calls that only ask -/
section P4
variable {S : mS} {β : Type} {Q : β → mIm → Prop} {I : mIm}
theorem pw_nn {o1 o2 : Option (β × mM)} (h : pw S o1 Q) : pw S (x_nl none o1 o2) Q := h
theorem pw_ns {r : Nat} {o1 o2 : Option (β × mM)} (h : pw S o2 Q) : pw S (x_nl (some r) o1 o2) Q := h
theorem pw_sc {x k : Int32} {o z : Option (β × mM)} {cs : List (Int32 × Option (β × mM))} (h1 : x = k → pw S o Q) (h2 : ¬ x = k → pw S (x_sw x cs z) Q) : pw S (x_sw x ((k, o) :: cs) z) Q := by
  show pw S (if x = k then o else x_sw x cs z) Q
  exact pw_if h1 h2
theorem pw_sn {x : Int32} {z : Option (β × mM)} (h : pw S z Q) : pw S (x_sw x [] z) Q := h
theorem pw_lt {v : Int32} {k : Int32 → Option (β × mM)} (h : pw S (k v) Q) : pw S (x_lt v k) Q := h
end P4
/-- the station's number, where there is one -/
def sta (i : Int32) : Option Nat := if i < 0 then none else if i.toNatClampNeg < 6 then some i.toNatClampNeg else none
theorem sta_s {i : Int32} {s : Nat} (h : sta i = some s) : s < 6 ∧ i = nI s := by
  unfold sta at h
  split at h
  · cases h
  · rename_i h0
    split at h
    · rename_i h1
      cases h
      obtain ⟨n, hn, rfl⟩ := nI_of h0
      rw [nI_clamp hn] at h1 ⊢
      exact ⟨h1, rfl⟩
    · cases h
theorem sta_n {i : Int32} (h : sta i = none) : i < 0 ∨ (¬ i < 0 ∧ ¬ i < 6) := by
  unfold sta at h
  split at h
  · rename_i h0; exact Or.inl h0
  · rename_i h0
    split at h
    · cases h
    · rename_i h1
      refine Or.inr ⟨h0, fun q => h1 ?_⟩
      obtain ⟨n, hn, rfl⟩ := nI_of h0
      rw [nI_clamp hn]
      exact (nI_ltI (b := 6) hn (by decide)).mp q
theorem sta_nI {s : Nat} (h : s < 6) : sta (nI s) = some s := by
  unfold sta
  rw [if_neg (nI_pos (by omega)), nI_clamp (by omega), if_pos h]
/-- the link's place: station and other end -/
def lnk (i j : Int32) : Option (Nat × Nat) := match sta i, sta j with
  | some s, some o => if o = s then none else some (s, o)
  | _, _ => none
theorem lnk_s {i j : Int32} {s o : Nat} (h : lnk i j = some (s, o)) : s < 6 ∧ o < 6 ∧ o ≠ s ∧ i = nI s ∧ j = nI o := by
  unfold lnk at h
  cases h1 : sta i with
  | none => rw [h1] at h; cases h
  | some a =>
    cases h2 : sta j with
    | none => rw [h1, h2] at h; cases h
    | some b =>
      rw [h1, h2] at h
      dsimp only at h
      split at h
      · cases h
      · rename_i hne
        cases h
        exact ⟨(sta_s h1).1, (sta_s h2).1, hne, (sta_s h1).2, (sta_s h2).2⟩
section P5
variable {S : mS} {I : mIm} {A : aT}
theorem p_C_isStation (i : Int32) : pw S (q_C_isStation i (I, S)) (fun v I' => I' = I ∧ v = if (sta i).isSome then 1 else 0) := by
  unfold q_C_isStation
  cases h : sta i with
  | none =>
    rcases sta_n h with h1 | ⟨h1, h2⟩
    · exact pw_t h1 (pw_rz (Or.inl rfl) ⟨rfl, rfl⟩)
    · exact pw_f h1 (pw_f h2 (pw_rz (Or.inl rfl) ⟨rfl, rfl⟩))
  | some s =>
    obtain ⟨h1, rfl⟩ := sta_s h
    exact pw_f (nI_pos (by omega)) (pw_t (nI_lt (b := 6) h1 (by decide)) (pw_rz (Or.inr rfl) ⟨rfl, rfl⟩))
theorem p_C_stationAt (hS : Shp S) (i : Int32) : pw S (q_C_stationAt (some 16) i (I, S)) (fun a I' => I' = I ∧ a = (sta i).map cN) := by
  unfold q_C_stationAt
  refine pw_cl (p_C_isStation i) (fun v J h => ?_)
  obtain ⟨rfl, rfl⟩ := h
  cases h : sta i with
  | none => exact pw_t rfl (pw_ret ⟨rfl, rfl⟩)
  | some s =>
    obtain ⟨h1, rfl⟩ := sta_s h
    obtain ⟨k1, k2, k3, k4, k5, k6, k7, k8, k9, k10⟩ := hS.1
    have hN := hS.2.1 s h1
    exact pw_f (by simp) (pw_gR k1 k2 (pw_aR s k9.1 rfl (by rw [k9.2]; exact h1) (by rw [k9.2]; decide) hN.2.1 (pw_ret ⟨rfl, rfl⟩)))
theorem p_N_linkTo (hS : Shp S) {s : Nat} (hs : s < 6) (j : Int32) : pw S (q_N_linkTo (some (cN s)) j (I, S)) (fun a I' => I' = I ∧ a = match sta j with | some o => (if o = s then none else some (cK s o)) | none => none) := by
  unfold q_N_linkTo
  obtain ⟨n1, n2, n3, n4, n5, n6, n7, n8, n9, n10, n11, n12, n13, n14, n15, n16, n17⟩ := hS.2.1 s hs
  cases h : sta j with
  | none =>
    rcases sta_n h with h1 | ⟨h1, h2⟩
    · exact pw_t h1 (pw_ret ⟨rfl, rfl⟩)
    · exact pw_f h1 (pw_gR n1 n9 (pw_al (n := 6) n16.1 n16.2 (pw_f h2 (pw_ret ⟨rfl, rfl⟩))))
  | some o =>
    obtain ⟨h1, rfl⟩ := sta_s h
    refine pw_f (nI_pos (by omega)) (pw_gR n1 n9 (pw_al (n := 6) n16.1 n16.2 (pw_t (nI_lt h1 (by decide)) (pw_gR n1 n9 ?_))))
    by_cases ho : o = s
    · refine pw_aR o (q := none) n16.1 rfl (by rw [n16.2]; exact h1) (by rw [n16.2]; decide) (by rw [ho]; exact n3) (pw_ret ⟨rfl, ?_⟩)
      dsimp only
      rw [if_pos ho]
    · refine pw_aR o n16.1 rfl (by rw [n16.2]; exact h1) (by rw [n16.2]; decide) (hS.2.2.1 s hs o h1 ho).1 (pw_ret ⟨rfl, ?_⟩)
      dsimp only
      rw [if_neg ho]
theorem p_C_linkAt (hS : Shp S) (i j : Int32) : pw S (q_C_linkAt (some 16) i j (I, S)) (fun a I' => I' = I ∧ a = (lnk i j).map (fun q => cK q.1 q.2)) := by
  unfold q_C_linkAt
  refine pw_cv hS.1.1 (p_C_stationAt hS i) (fun a J h => ?_)
  obtain ⟨rfl, rfl⟩ := h
  cases h : sta i with
  | none =>
    refine pw_nn (pw_ret ⟨rfl, ?_⟩)
    unfold lnk
    rw [h]
    rfl
  | some s =>
    obtain ⟨h1, -⟩ := sta_s h
    refine pw_ns (pw_cv (hS.2.1 s h1).1 (p_N_linkTo hS h1 j) (fun a J h2 => ?_))
    obtain ⟨rfl, rfl⟩ := h2
    refine pw_ret ⟨rfl, ?_⟩
    unfold lnk
    rw [h]
    cases h3 : sta j with
    | none => rfl
    | some o =>
      dsimp only
      by_cases ho : o = s
      · rw [if_pos ho, if_pos ho]; rfl
      · rw [if_neg ho, if_neg ho]; rfl
/-! the same of the reference -/
def inV (v a b : Int32) : Int32 := if v < a then 0 else if b < v then 0 else 1
theorem p_M_in (v a b : Int32) : pw S (q_M_in v a b (I, S)) (fun x I' => I' = I ∧ x = inV v a b) := by
  unfold q_M_in inV
  refine pw_if (fun h => pw_rz (Or.inl rfl) ⟨rfl, by rw [if_pos h]⟩) (fun h => pw_if (fun h2 => pw_rz (Or.inl rfl) ⟨rfl, by rw [if_neg h, if_pos h2]⟩) (fun h2 => pw_rz (Or.inr rfl) ⟨rfl, by rw [if_neg h, if_neg h2]⟩))
theorem inV_01 (v a b : Int32) : inV v a b = 0 ∨ inV v a b = 1 := by
  unfold inV
  split
  · exact Or.inl rfl
  · split
    · exact Or.inl rfl
    · exact Or.inr rfl
theorem inV_sta (i : Int32) : inV i 0 5 = if (sta i).isSome then 1 else 0 := by
  unfold inV
  cases h : sta i with
  | none =>
    rcases sta_n h with h1 | ⟨h1, h2⟩
    · rw [if_pos h1]; rfl
    · rw [if_neg h1, if_pos]
      · rfl
      · obtain ⟨n, hn, rfl⟩ := nI_of h1
        refine nI_lt (a := 5) ?_ hn
        rcases Nat.lt_or_ge n 6 with q | q
        · exact absurd (nI_lt (b := 6) q (by decide)) h2
        · omega
  | some s =>
    obtain ⟨h1, rfl⟩ := sta_s h
    rw [if_neg (nI_pos (by omega)), if_neg (show ¬ (5 : Int32) < nI s from nI_nlt (a := 5) (b := s) (by omega) (by decide))]
    rfl
theorem p_M_isStation (i : Int32) : pw S (q_M_isStation i (I, S)) (fun x I' => I' = I ∧ x = if (sta i).isSome then 1 else 0) := by
  unfold q_M_isStation
  refine pw_cl (p_M_in i 0 5) (fun v J h => ?_)
  obtain ⟨rfl, rfl⟩ := h
  exact pw_rz (inV_01 _ _ _) ⟨rfl, inV_sta i⟩
theorem p_M_isLink (i j : Int32) : pw S (q_M_isLink i j (I, S)) (fun x I' => I' = I ∧ x = if (lnk i j).isSome then 1 else 0) := by
  unfold q_M_isLink
  refine pw_cl (p_M_isStation i) (fun v J h => ?_)
  obtain ⟨rfl, rfl⟩ := h
  unfold lnk
  cases h : sta i with
  | none => exact pw_t rfl (pw_rz (Or.inl rfl) ⟨rfl, rfl⟩)
  | some s =>
    refine pw_f (by simp) (pw_cl (p_M_isStation j) (fun v J h2 => ?_))
    obtain ⟨rfl, rfl⟩ := h2
    cases h3 : sta j with
    | none => exact pw_t rfl (pw_rz (Or.inl rfl) ⟨rfl, rfl⟩)
    | some o =>
      obtain ⟨h4, rfl⟩ := sta_s h
      obtain ⟨h5, rfl⟩ := sta_s h3
      refine pw_f (by simp) (pw_if (fun h6 => pw_rz (Or.inl rfl) ⟨rfl, ?_⟩) (fun h6 => pw_rz (Or.inr rfl) ⟨rfl, ?_⟩))
      · have : s = o := (nI_eq (by omega) (by omega)).mp h6
        simp [this]
      · have : ¬ o = s := fun q => h6 (by rw [q])
        simp [this]
/-! time -/
theorem p_C_time (hS : Shp S) (hC : CInv I A) : pw S (q_C_time (some 16) (I, S)) (fun v I' => I' = I ∧ v = A.1 0 0) := pw_gI hS.1.1 (pw_ret ⟨rfl, hC.1.1⟩)
theorem p_M_time (hS : Shp S) (hR : RInv I A) : pw S (q_M_time (some 1282) (I, S)) (fun v I' => I' = I ∧ v = A.1 0 0) := pw_gI hS.2.2.2.1 (pw_ret ⟨rfl, hR.1.1⟩)
/-! out -/
theorem lAt_in {l : List Int32} {i : Int32} (hl : l.length < 2 ^ 31) : (inV i 0 (nI l.length - 1) = 0 ∧ lAt l i = -1) ∨ ∃ n : Nat, inV i 0 (nI l.length - 1) = 1 ∧ i = nI n ∧ n < l.length ∧ l[n]? = some (lAt l i) := by
  unfold inV lAt
  by_cases h : i < 0
  · rw [if_pos h, if_pos h]
    exact Or.inl ⟨rfl, rfl⟩
  · obtain ⟨n, hn, rfl⟩ := nI_of h
    rw [if_neg h, if_neg h, nI_clamp hn]
    rcases Nat.lt_or_ge n l.length with q | q
    · refine Or.inr ⟨n, ?_, rfl, q, ?_⟩
      · rw [if_neg]
        have h1 : nI l.length - 1 = nI (l.length - 1) := pk_sub (b := 1) (by omega)
        rw [h1]
        exact nI_nlt (by omega) (by omega)
      · rw [List.getElem?_eq_getElem q]
        rfl
    · refine Or.inl ⟨?_, ?_⟩
      · rw [if_pos]
        by_cases h0 : l.length = 0
        · rw [h0, nI_0]
          have h2 : ¬ nI n < 0 := h
          have h3 : ((0 : Int32) - 1) < 0 := by decide
          exact Int32.lt_of_lt_of_le h3 (Int32.not_lt.mp h2)
        · have h1 : nI l.length - 1 = nI (l.length - 1) := pk_sub (b := 1) (by omega)
          rw [h1]
          exact nI_lt (by omega) hn
      · rw [List.getElem?_eq_none q]
        rfl
theorem p_C_out (hS : Shp S) (hC : CInv I A) (i : Int32) : pw S (q_C_out (some 16) i (I, S)) (fun v I' => I' = I ∧ v = lAt (A.2.1 1 0) i) := by
  obtain ⟨k1, k2, k3, k4, k5, k6, k7, k8, k9, k10, k11, k12⟩ := hS.1
  obtain ⟨-, -, ⟨h1, h2⟩, -⟩ := hC.1
  unfold q_C_out
  refine pw_gR k1 k4 (pw_cv k11.1 (p_B_at k11 h1 h2 i) (fun v J h => ?_))
  obtain ⟨rfl, rfl⟩ := h
  exact pw_ret ⟨rfl, rfl⟩
theorem p_M_out (hS : Shp S) (hR : RInv I A) (i : Int32) : pw S (q_M_out (some 1282) i (I, S)) (fun v I' => I' = I ∧ v = lAt (A.2.1 1 0) i) := by
  obtain ⟨a1, a2, a3⟩ := sm_out hS.2.2.2
  obtain ⟨-, -, h1, h2, h3⟩ := hR.1
  unfold q_M_out
  refine pw_gI hS.2.2.2.1 (pw_cl (p_M_in _ _ _) (fun v J h => ?_))
  obtain ⟨rfl, rfl⟩ := h
  rw [h1]
  rcases lAt_in (l := A.2.1 1 0) (i := i) (by omega) with ⟨g1, g2⟩ | ⟨n, g1, rfl, g3, g4⟩
  · exact pw_t g1 (pw_ret ⟨rfl, g2.symm⟩)
  · refine pw_f (by rw [g1]; decide) (pw_gR hS.2.2.2.1 a1 (pw_aI n a2 rfl (by omega) (by omega) (pw_ret ⟨rfl, ?_⟩)))
    have := h2 n _ g4
    rw [Nat.zero_add] at this
    exact this
end P5
