/-! hearing: the reference -/
def rRt (I : mIm) (k : Nat) (R : rcT) : Prop := I 1288 k = R.1 ∧ I 1286 k = R.2.1 ∧ I 1287 k = R.2.2.1 ∧ (I 1291 k = nI R.2.2.2.2.length ∧ R.2.2.2.2.length ≤ 90 ∧ fL I 1292 (90 * k) R.2.2.2.2) ∧ (R.1 = 1 → I 1289 k = nI R.2.2.2.1.length ∧ R.2.2.2.1.length ≤ 743 ∧ fL I 1290 (743 * k) R.2.2.2.1)
def fRk (I J : mIm) (k : Nat) : Prop := (∀ r, r < 1286 ∨ 1293 < r → J r = I r) ∧ (∀ r, 1286 ≤ r → r ≤ 1291 → r ≠ 1290 → ∀ j, j ≠ k → J r j = I r j) ∧ (∀ j, (j < 743 * k ∨ 743 * k + 743 ≤ j) → J 1290 j = I 1290 j) ∧ (∀ j, (j < 90 * k ∨ 90 * k + 90 ≤ j) → J 1292 j = I 1292 j)
theorem fRk_0 {I : mIm} {k : Nat} : fRk I I k := ⟨fun _ _ => rfl, fun _ _ _ _ _ _ => rfl, fun _ _ => rfl, fun _ _ => rfl⟩
theorem fRk_t {I J K : mIm} {k : Nat} (h : fRk I J k) (g : fRk J K k) : fRk I K k := ⟨fun r hr => by rw [g.1 r hr, h.1 r hr], fun r h1 h2 h3 j hj => by rw [g.2.1 r h1 h2 h3 j hj, h.2.1 r h1 h2 h3 j hj], fun j hj => by rw [g.2.2.1 j hj, h.2.2.1 j hj], fun j hj => by rw [g.2.2.2 j hj, h.2.2.2 j hj]⟩
theorem fRk_w {I : mIm} {r k : Nat} {v : Int32} (h : r = 1286 ∨ r = 1287 ∨ r = 1288 ∨ r = 1289 ∨ r = 1291) : fRk I (iput I r k v) k := ⟨fun x hx => iput_n _ _ _ (by omega), fun x h1 h2 h3 j hj => by
  by_cases e : x = r
  · subst e; exact iput_j _ _ _ hj
  · rw [iput_n _ _ _ e], fun j hj => by rw [iput_n _ _ _ (by omega)], fun j hj => by rw [iput_n _ _ _ (by omega)]⟩
theorem fRk_93 {I J : mIm} {k : Nat} (h : ∀ r, r ≠ 1293 → J r = I r) : fRk I J k := ⟨fun x hx => h x (by omega), fun x h1 h2 h3 j hj => by rw [h x (by omega)], fun j hj => by rw [h 1290 (by decide)], fun j hj => by rw [h 1292 (by decide)]⟩
section HR
variable {S : mS} {I J I0 : mIm} {k : Nat} {R : rcT}
theorem r_comes (hS : Shp S) (hk : k < 7) (h : rRt I k R) (h01 : R.1 = 0 ∨ R.1 = 1) (x : Int32) : pw S (q_M_comes (some 1282) (nI k) x (I, S)) (fun _ J => fRk I J k ∧ rRt J k (rAd R x)) := by
  obtain ⟨op, la, on, row, came⟩ := R
  obtain ⟨h1, h2, h3, ⟨h4, h5, h6⟩, h7⟩ := id h
  dsimp only at h1 h2 h3 h4 h5 h6 h7 h01
  have a88 := aK_in hS (r := 1288) (t := 1) (n := 7) rfl
  have a89 := aK_in hS (r := 1289) (t := 0) (n := 7) rfl
  have a90 := aK_in hS (r := 1290) (t := 0) (n := 5201) rfl
  unfold q_M_comes rAd
  dsimp only
  refine rM hS (r := 1288) rfl (pw_aI k a88.1 rfl (by omega) (by omega) ?_)
  rw [h1]
  rcases h01 with q | q
  · subst q
    rw [if_pos rfl, if_pos rfl]
    exact pw_ret ⟨fRk_0, h⟩
  · subst q
    obtain ⟨g1, g2, g3⟩ := h7 rfl
    have c10 : ¬ (1 : Int32) = 0 := by decide
    rw [if_neg c10, if_neg c10]
    refine rM hS (r := 1289) rfl (pw_aI k a89.1 rfl (by omega) (by omega) ?_)
    rw [g1]
    by_cases hl : row.length < 743
    · rw [if_pos hl]
      refine pw_f (fun q => by have := (nI_eq (b := 743) (by omega) (by decide)).mp q; omega) (rM hS (r := 1290) rfl (rM hS (r := 1289) rfl (pw_aI k a89.1 rfl (by omega) (by omega) ?_)))
      rw [g1]
      refine pw_wI (743 * k + row.length) a90.1 (by rw [show (743 : Int32) * nI k = nI (743 * k) from pk_mul 743 k, nI_add]) (by omega) (by omega) (rM hS (r := 1289) rfl (pw_aI k a89.1 rfl (by omega) (by omega) (pw_wI k a89.1 rfl (by omega) (by omega) (pw_ret ?_))))
      rw [iput_n _ _ _ (by decide), g1, show nI row.length + 1 = nI (row.length + 1) from nI_1 _]
      refine ⟨fRk_t (J := iput I 1290 (743 * k + row.length) x) ⟨fun r hr => iput_n _ _ _ (by omega), fun r a b c j hj => by rw [iput_n _ _ _ c], fun j hj => iput_j _ _ _ (by omega), fun j hj => by rw [iput_n _ _ _ (by decide)]⟩ (fRk_w (Or.inr (Or.inr (Or.inr (Or.inl rfl))))), ?_, ?_, ?_, ⟨?_, h5, fun j y hj => ?_⟩, fun _ => ⟨?_, ?_, ?_⟩⟩
      · rw [iput_n _ _ _ (by decide), iput_n _ _ _ (by decide)]; exact h1
      · rw [iput_n _ _ _ (by decide), iput_n _ _ _ (by decide)]; exact h2
      · rw [iput_n _ _ _ (by decide), iput_n _ _ _ (by decide)]; exact h3
      · rw [iput_n _ _ _ (by decide), iput_n _ _ _ (by decide)]; exact h4
      · rw [iput_n _ _ _ (by decide), iput_n _ _ _ (by decide)]; exact h6 j y hj
      · rw [iput_s]
        show _ = nI (row ++ [x]).length
        rw [List.length_append]
        rfl
      · show (row ++ [x]).length ≤ 743
        rw [List.length_append]
        show row.length + 1 ≤ 743
        omega
      · intro j y hj
        rw [iput_n _ _ _ (by decide)]
        exact fL_push g3 j y hj
    · rw [if_neg hl]
      refine pw_t (by rw [show row.length = 743 by omega]; rfl) (rM hS (r := 1288) rfl (pw_wZ k a88.1 rfl (by omega) (by omega) (Or.inl rfl) (pw_ret ⟨fRk_w (Or.inr (Or.inr (Or.inl rfl))), iput_s _ _ _ _, ?_, ?_, ⟨?_, h5, fun j y hj => ?_⟩, fun q => absurd q (by show ¬ (0 : Int32) = 1; decide)⟩)))
      · rw [iput_n _ _ _ (by decide)]; exact h2
      · rw [iput_n _ _ _ (by decide)]; exact h3
      · rw [iput_n _ _ _ (by decide)]; exact h4
      · rw [iput_n _ _ _ (by decide)]; exact h6 j y hj
theorem ri69 (hS : Shp S) (hk : k < 7) {row : List Int32} (hr : fL I 1290 (743 * k) row) {c i : Nat} (hc : c ≤ 92) (hi : i < c) (hl : 8 * c ≤ row.length) {r54 : Option Nat → Int32 → Int32 → Int32 → mM → Option (Int32 × mM)} {Q : Int32 → mIm → Prop} (cont : ∀ J', (∀ r, r ≠ 1293 → J' r = I r) → (∀ i', i' < i + 1 → J' 1293 i' = pbyte row i' 8) → pw S (r54 (some 1282) (nI k) (nI c) (nI (i + 1)) (J', S)) Q) : ∀ (f m j : Nat) (J : mIm), j + f = 8 → f < m → (∀ r, r ≠ 1293 → J r = I r) → (∀ i', i' < i → J 1293 i' = pbyte row i' 8) → J 1293 i = pbyte row i j → pw S (q_M_isFrame_69 r54 m (some 1282) (nI k) (nI c) (nI i) (nI j) (J, S)) Q
  | f, 0, j, J, _, h, _, _, _ => by omega
  | 0, m + 1, j, J, hj, hm, h1, h2, h3 => by
    show pw S (q_M_isFrame_69_b _ _ _ _ _ _ _ _) _
    unfold q_M_isFrame_69_b
    have e : j = 8 := by omega
    subst e
    rw [show nI i + 1 = nI (i + 1) from nI_1 i]
    refine pw_f (nI_nlt (a := 8) (b := 8) (by omega) (by decide)) (cont J h1 (fun i' hi' => ?_))
    by_cases e : i' = i
    · subst e; exact h3
    · exact h2 i' (by omega)
  | f + 1, m + 1, j, J, hj, hm, h1, h2, h3 => by
    have a93 := aK_in hS (r := 1293) (t := 0) (n := 92) rfl
    have a90 := aK_in hS (r := 1290) (t := 0) (n := 5201) rfl
    show pw S (q_M_isFrame_69_b _ _ _ _ _ _ _ _) _
    unfold q_M_isFrame_69_b
    refine pw_t (nI_lt (b := 8) (by omega) (by decide)) (rM hS (r := 1293) rfl (pw_aI i a93.1 rfl (by omega) (by omega) (rM hS (r := 1290) rfl (pw_aI (743 * k + (8 * i + j)) a90.1 ?_ (by omega) (by omega) (pw_wI i a93.1 rfl (by omega) (by omega) ?_)))))
    · rw [show (743 : Int32) * nI k = nI (743 * k) from pk_mul 743 k, show (8 : Int32) * nI i = nI (8 * i) from pk_mul 8 i, nI_add, nI_add]
      congr 1
      omega
    · have ex : J 1290 (743 * k + (8 * i + j)) = (row[8 * i + j]?).getD 0 := by
        rw [h1 1290 (by decide), hr (8 * i + j) row[8 * i + j] (List.getElem?_eq_getElem (by omega)), List.getElem?_eq_getElem (by omega)]
        rfl
      rw [ex, h3, show nI j + 1 = nI (j + 1) from nI_1 j]
      refine ri69 hS hk hr hc hi hl cont f m (j + 1) _ (by omega) (by omega) (fun r hr2 => by rw [iput_n _ _ _ hr2]; exact h1 r hr2) (fun i' hi' => by rw [iput_j _ _ _ (by omega)]; exact h2 i' hi') ?_
      rw [iput_s]
      rfl
theorem ri175 (hS : Shp S) (hk : k < 7) {F : List Int32} {c : Nat} (hc : c ≤ 92) (h2 : 2 ≤ c) (hF : F.length = c - 2) (h93 : ∀ j, j < F.length → I 1293 j = pA F j) {Q : Int32 → mIm → Prop} (fin : ∀ J, (∀ r, r ≠ 1292 → J r = I r) → fL J 1292 (90 * k) F → (∀ j, (j < 90 * k ∨ 90 * k + 90 ≤ j) → J 1292 j = I 1292 j) → Q 1 J) : ∀ (f m i : Nat) (J : mIm), i + f = F.length → f < m → (∀ r, r ≠ 1292 → J r = I r) → (∀ j, j < i → J 1292 (90 * k + j) = pA F j) → (∀ j, (j < 90 * k ∨ 90 * k + 90 ≤ j) → J 1292 j = I 1292 j) → pw S (q_M_isFrame_175 m (some 1282) (nI k) (nI c) (nI i) (J, S)) Q
  | f, 0, i, J, _, h, _, _, _ => by omega
  | 0, m + 1, i, J, hj, hm, h1, h3, h4 => by
    show pw S (q_M_isFrame_175_b _ _ _ _ _ _) _
    unfold q_M_isFrame_175_b
    rw [show nI c - (2 : Int32) = nI (c - 2) from pk_sub (b := 2) h2]
    refine pw_f (nI_nlt (by omega) (by omega)) (pw_rz (Or.inr rfl) (fin J h1 (fun j x hj => ?_) h4))
    have hlt := (List.getElem?_eq_some_iff.mp hj).1
    rw [h3 j (by omega)]
    unfold pA
    rw [hj]
    rfl
  | f + 1, m + 1, i, J, hj, hm, h1, h3, h4 => by
    have a93 := aK_in hS (r := 1293) (t := 0) (n := 92) rfl
    have a92 := aK_in hS (r := 1292) (t := 0) (n := 630) rfl
    show pw S (q_M_isFrame_175_b _ _ _ _ _ _) _
    unfold q_M_isFrame_175_b
    rw [show nI c - (2 : Int32) = nI (c - 2) from pk_sub (b := 2) h2]
    refine pw_t (nI_lt (by omega) (by omega)) (rM hS (r := 1292) rfl (rM hS (r := 1293) rfl (pw_aI i a93.1 rfl (by omega) (by omega) (pw_wI (90 * k + i) a92.1 (by rw [show (90 : Int32) * nI k = nI (90 * k) from pk_mul 90 k, nI_add]) (by omega) (by omega) ?_))))
    rw [h1 1293 (by decide), h93 i (by omega), show nI i + 1 = nI (i + 1) from nI_1 i]
    refine ri175 hS hk hc h2 hF h93 fin f m (i + 1) _ (by omega) (by omega) (fun r hr => by rw [iput_n _ _ _ hr]; exact h1 r hr) (fun j hj => ?_) (fun j hj => ?_)
    · by_cases e : j = i
      · subst e; rw [iput_s]
      · rw [iput_j _ _ _ (by omega)]; exact h3 j (by omega)
    · rw [iput_j _ _ _ (by omega)]; exact h4 j hj
def isQ (I : mIm) (k : Nat) (la on : Int32) (row came : List Int32) : Int32 → mIm → Prop := fun v J => fRk I J k ∧ match rFm row with
  | none => v = 0 ∧ rRt J k (1, la, on, row, came)
  | some F => v = 1 ∧ rRt J k (1, la, on, row, F)
theorem ri54 (hS : Shp S) (hk : k < 7) {la on : Int32} {row came : List Int32} (h : rRt I k (1, la, on, row, came)) (h7 : 7 ≤ row.length) (h8 : (row.length - 7) % 8 = 0) (hc1 : 17 ≤ rCn row) (hc : rCn row ≤ 92) : ∀ (f m i : Nat) (J : mIm), i + f = rCn row → f < m → (∀ r, r ≠ 1293 → J r = I r) → (∀ i', i' < i → J 1293 i' = pbyte row i' 8) → pw S (q_M_isFrame_54 m (some 1282) (nI k) (nI (rCn row)) (nI i) (J, S)) (isQ I k la on row came)
  | f, 0, i, J, _, h, _, _ => by omega
  | 0, m + 1, i, J, hi, hm, h1, h2 => by
    obtain ⟨q1, q2, q3, ⟨q4, q5, q6⟩, q7⟩ := id h
    dsimp only at q1 q2 q3 q4 q5 q6 q7
    obtain ⟨g1, g2, g3⟩ := q7 rfl
    have hlen : row.length = 8 * rCn row + 7 := by unfold rCn; omega
    have hpl := pack_len row
    have a93 := aK_in hS (r := 1293) (t := 0) (n := 92) rfl
    have a91 := aK_in hS (r := 1291) (t := 0) (n := 7) rfl
    have e : i = rCn row := by omega
    subst e
    have hby : ∀ j, j < rCn row → J 1293 j = pA (pack row) j := fun j hj => by
      rw [h2 j hj]
      unfold pA
      rw [pack_at, if_pos (by omega)]
      rfl
    have hL : fL J 1293 0 ((pack row).take (rCn row)) := fun j x hj => by
      have hlt := (List.getElem?_eq_some_iff.mp hj).1
      rw [List.length_take] at hlt
      rw [List.getElem?_take_of_lt (by omega)] at hj
      rw [Nat.zero_add, hby j (by omega)]
      unfold pA
      rw [hj]
      rfl
    show pw S (q_M_isFrame_54_b _ _ _ _ _ _) _
    unfold q_M_isFrame_54_b
    rw [show nI (rCn row) - (2 : Int32) = nI (rCn row - 2) from pk_sub (b := 2) (by omega), show nI (rCn row) - (1 : Int32) = nI (rCn row - 1) from pk_sub (b := 1) (by omega)]
    refine pw_f (nI_nlt (by omega) (by omega)) (rM hS (r := 1293) rfl (pw_cl (r_checkOf (a := 0) (n := rCn row - 2) a93.1 a93.2 (by decide) hL (by omega) (by rw [List.length_take]; omega) (by omega)) (fun x J2 g => ?_)))
    obtain ⟨hJ2, rfl⟩ := g
    rw [hJ2, chk_take (l := pack row) (m := rCn row) (by omega) _ (by omega), ← chk_t (l := pack row) (m := rCn row - 2) (by omega)]
    have hno : rFm row = none → isQ I k la on row came 0 J := fun q => ⟨fRk_93 h1, by
      rw [q]
      refine ⟨rfl, by rw [h1 1288 (by decide)]; exact q1, by rw [h1 1286 (by decide)]; exact q2, by rw [h1 1287 (by decide)]; exact q3, ⟨by rw [h1 1291 (by decide)]; exact q4, q5, fun j x hj => by rw [h1 1292 (by decide)]; exact q6 j x hj⟩, fun _ => ⟨by rw [h1 1289 (by decide)]; exact g1, g2, fun j x hj => by rw [h1 1290 (by decide)]; exact g3 j x hj⟩⟩⟩
    refine rM hS (r := 1293) rfl (pw_aI (rCn row - 2) a93.1 rfl (by omega) (by omega) ?_)
    rw [hby _ (by omega)]
    by_cases e1 : pA (pack row) (rCn row - 2) = chk ((pack row).take (rCn row - 2)) &&& 255
    · refine pw_t e1 (rM hS (r := 1293) rfl (pw_aI (rCn row - 1) a93.1 rfl (by omega) (by omega) ?_))
      rw [hby _ (by omega)]
      by_cases e2 : pA (pack row) (rCn row - 1) = chk ((pack row).take (rCn row - 2)) >>> ((8 : Int32) &&& 31)
      · have hF : rFm row = some ((pack row).take (rCn row - 2)) := by
          unfold rFm
          rw [if_pos ⟨⟨⟨h7, h8⟩, hc1, hc⟩, e1, e2⟩]
        have hFl : ((pack row).take (rCn row - 2)).length = rCn row - 2 := by rw [List.length_take]; omega
        refine pw_t e2 (rM hS (r := 1291) rfl (pw_wI k a91.1 rfl (by omega) (by omega) ?_))
        refine ri175 hS hk (F := (pack row).take (rCn row - 2)) hc (by omega) hFl (fun j hj => ?_) (fun K k1 k2 k3 => ?_) (rCn row - 2) mFU 0 _ (by omega) (by unfold mFU; omega) (fun _ _ => rfl) (fun j hj => by omega) (fun _ _ => rfl)
        · rw [iput_n _ _ _ (by decide), hby j (by omega)]
          unfold pA
          rw [List.getElem?_take_of_lt (by omega)]
        · refine ⟨fRk_t (fRk_93 h1) (fRk_t (fRk_w (Or.inr (Or.inr (Or.inr (Or.inr rfl))))) ⟨fun r hr => k1 r (by omega), fun r a b c j hj => by rw [k1 r (by omega)], fun j hj => by rw [k1 1290 (by decide)], k3⟩), ?_⟩
          rw [hF]
          refine ⟨rfl, ?_, ?_, ?_, ⟨?_, by show _ ≤ 90; rw [hFl]; omega, k2⟩, fun _ => ⟨?_, g2, fun j x hj => ?_⟩⟩
          · rw [k1 1288 (by decide), iput_n _ _ _ (by decide), h1 1288 (by decide)]; exact q1
          · rw [k1 1286 (by decide), iput_n _ _ _ (by decide), h1 1286 (by decide)]; exact q2
          · rw [k1 1287 (by decide), iput_n _ _ _ (by decide), h1 1287 (by decide)]; exact q3
          · rw [k1 1291 (by decide), iput_s]
            show _ = nI ((pack row).take (rCn row - 2)).length
            rw [hFl]
          · rw [k1 1289 (by decide), iput_n _ _ _ (by decide), h1 1289 (by decide)]; exact g1
          · rw [k1 1290 (by decide), iput_n _ _ _ (by decide), h1 1290 (by decide)]; exact g3 j x hj
      · refine pw_f e2 (pw_rz (Or.inl rfl) (hno ?_))
        unfold rFm
        rw [if_neg (fun q => e2 q.2.2)]
    · refine pw_f e1 (pw_rz (Or.inl rfl) (hno ?_))
      unfold rFm
      rw [if_neg (fun q => e1 q.2.1)]
  | f + 1, m + 1, i, J, hi, hm, h1, h2 => by
    obtain ⟨q1, q2, q3, ⟨q4, q5, q6⟩, q7⟩ := id h
    dsimp only at q1 q2 q3 q4 q5 q6 q7
    obtain ⟨g1, g2, g3⟩ := q7 rfl
    have hlen : row.length = 8 * rCn row + 7 := by unfold rCn; omega
    have a93 := aK_in hS (r := 1293) (t := 0) (n := 92) rfl
    show pw S (q_M_isFrame_54_b _ _ _ _ _ _) _
    unfold q_M_isFrame_54_b
    refine pw_t (nI_lt (by omega) (by omega)) (rM hS (r := 1293) rfl (pw_wI i a93.1 rfl (by omega) (by omega) ?_))
    refine ri69 hS hk g3 hc (by omega) (by omega) (fun J' k1 k2 => ri54 hS hk h h7 h8 hc1 hc f m (i + 1) J' (by omega) (by omega) k1 k2) 8 mFU 0 _ (by omega) (by unfold mFU; omega) (fun r hr => by rw [iput_n _ _ _ hr]; exact h1 r hr) (fun i' hi' => by rw [iput_j _ _ _ (by omega)]; exact h2 i' hi') ?_
    rw [iput_s]
    rfl
theorem r_isFrame (hS : Shp S) (hk : k < 7) {la on : Int32} {row came : List Int32} (h : rRt I k (1, la, on, row, came)) : pw S (q_M_isFrame (some 1282) (nI k) (I, S)) (isQ I k la on row came) := by
  obtain ⟨q1, q2, q3, ⟨q4, q5, q6⟩, q7⟩ := id h
  dsimp only at q1 q2 q3 q4 q5 q6 q7
  obtain ⟨g1, g2, g3⟩ := q7 rfl
  have a89 := aK_in hS (r := 1289) (t := 0) (n := 7) rfl
  have hno : rFm row = none → pw S (x_rz (0 : Int32) (I, S)) (isQ I k la on row came) := fun q => pw_rz (Or.inl rfl) ⟨fRk_0, by rw [q]; exact ⟨rfl, h⟩⟩
  unfold q_M_isFrame
  refine rM hS (r := 1289) rfl (pw_aI k a89.1 rfl (by omega) (by omega) ?_)
  rw [g1]
  by_cases h7 : 7 ≤ row.length
  · rw [show nI row.length - (7 : Int32) = nI (row.length - 7) from pk_sub (b := 7) h7]
    refine pw_dv (n := row.length - 7) (d := 8) rfl rfl (by omega) (by decide) (by decide) (rM hS (r := 1289) rfl (pw_aI k a89.1 rfl (by omega) (by omega) ?_))
    rw [g1]
    refine pw_f (nI_nlt (b := 7) h7 (by omega)) (rM hS (r := 1289) rfl (pw_aI k a89.1 rfl (by omega) (by omega) ?_))
    rw [g1, show nI row.length - (7 : Int32) = nI (row.length - 7) from pk_sub (b := 7) h7]
    refine pw_rm (n := row.length - 7) (d := 8) rfl rfl (by omega) (by decide) (by decide) ?_
    by_cases e8 : (row.length - 7) % 8 = 0
    · rw [e8]
      refine pw_t rfl (pw_cl (p_M_in _ _ _) (fun x J g => ?_))
      obtain ⟨hJ, rfl⟩ := g
      rw [hJ]
      have ein : inV (nI ((row.length - 7) / 8)) 17 92 = if 17 ≤ (row.length - 7) / 8 ∧ (row.length - 7) / 8 ≤ 92 then 1 else 0 := inV_nat (a := 17) (b := 92) (by omega) (by decide) (by decide)
      rw [ein]
      by_cases hc : 17 ≤ (row.length - 7) / 8 ∧ (row.length - 7) / 8 ≤ 92
      · rw [if_pos hc]
        exact pw_f (by decide) (ri54 hS hk h h7 e8 hc.1 hc.2 (rCn row) mFU 0 I (by omega) (by have := hc.2; unfold rCn mFU; omega) (fun _ _ => rfl) (fun i hi => by omega))
      · rw [if_neg hc]
        refine pw_t rfl (hno ?_)
        unfold rFm
        rw [if_neg (fun q => hc q.1.2)]
    · refine pw_f (nI_ne0 (by omega) (by omega)) (hno ?_)
      unfold rFm
      rw [if_neg (fun q => e8 q.1.1.2)]
  · unfold x_dv
    rw [if_neg (show ¬ (8 : Int32) = 0 by decide)]
    refine rM hS (r := 1289) rfl (pw_aI k a89.1 rfl (by omega) (by omega) ?_)
    rw [g1]
    refine pw_t (nI_lt (b := 7) (by omega) (by decide)) (hno ?_)
    unfold rFm
    rw [if_neg (fun q => h7 q.1.1.1)]
theorem r_hear (hS : Shp S) (hk : k < 7) (h : rRt I k R) (h01 : R.1 = 0 ∨ R.1 = 1) (v : Int32) : pw S (q_M_hear (some 1282) (nI k) v (I, S)) (fun x J => x = (rHr R v).1 ∧ fRk I J k ∧ rRt J k (rHr R v).2) := by
  obtain ⟨op, la, on, row, came⟩ := R
  obtain ⟨h1, h2, h3, h4, h7⟩ := id h
  dsimp only at h1 h2 h3 h4 h7 h01
  have a86 := aK_in hS (r := 1286) (t := 0) (n := 7) rfl
  have a87 := aK_in hS (r := 1287) (t := 0) (n := 7) rfl
  have a88 := aK_in hS (r := 1288) (t := 1) (n := 7) rfl
  have a89 := aK_in hS (r := 1289) (t := 0) (n := 7) rfl
  unfold q_M_hear rHr
  dsimp only
  refine rM hS (r := 1286) rfl (pw_aI k a86.1 rfl (by omega) (by omega) ?_)
  rw [h2]
  have hcl : rRt (iput I 1286 k v) k (op, v, on, row, came) := ⟨by rw [iput_n _ _ _ (by decide)]; exact h1, iput_s _ _ _ _, by rw [iput_n _ _ _ (by decide)]; exact h3, ⟨by rw [iput_n _ _ _ (by decide)]; exact h4.1, h4.2.1, fun j x hj => by rw [iput_n _ _ _ (by decide)]; exact h4.2.2 j x hj⟩, fun q => ⟨by rw [iput_n _ _ _ (by decide)]; exact (h7 q).1, (h7 q).2.1, fun j x hj => by rw [iput_n _ _ _ (by decide)]; exact (h7 q).2.2 j x hj⟩⟩
  have hfl : fRk I (iput I 1286 k v) k := fRk_w (Or.inl rfl)
  have on4 : ∀ {K : mIm} {o l2 n2 n3 : Int32} {r c : List Int32}, rRt K k (o, l2, n2, r, c) → rRt (iput K 1287 k n3) k (o, l2, n3, r, c) := by
    intro K o l2 n2 n3 r c hq
    obtain ⟨q1, q2, q3, q4, q6⟩ := hq
    exact ⟨by rw [iput_n _ _ _ (by decide)]; exact q1, by rw [iput_n _ _ _ (by decide)]; exact q2, iput_s _ _ _ _, ⟨by rw [iput_n _ _ _ (by decide)]; exact q4.1, q4.2.1, fun j x hj => by rw [iput_n _ _ _ (by decide)]; exact q4.2.2 j x hj⟩, fun q => ⟨by rw [iput_n _ _ _ (by decide)]; exact (q6 q).1, (q6 q).2.1, fun j x hj => by rw [iput_n _ _ _ (by decide)]; exact (q6 q).2.2 j x hj⟩⟩
  have hM := M_k hS
  by_cases ev : v = la
  · rw [if_pos ev, if_pos ev]
    unfold q_M_hear_15
    refine rM hS (r := 1286) rfl (pw_wI k a86.1 rfl (by omega) (by omega) (pw_t rfl ?_))
    generalize iput I 1286 k v = I1 at hcl hfl ⊢
    refine rM hS (r := 1287) rfl (pw_aI k a87.1 rfl (by omega) (by omega) ?_)
    rw [hcl.2.2.1]
    have hc2 := on4 (n3 := on + 1) hcl
    have f2 : fRk I (iput I1 1287 k (on + 1)) k := fRk_t hfl (fRk_w (Or.inr (Or.inl rfl)))
    refine pw_wI k a87.1 rfl (by omega) (by omega) (rM hS (r := 1287) rfl (pw_aI k a87.1 rfl (by omega) (by omega) ?_))
    rw [show (iput I1 1287 k (on + 1)) 1287 k = on + 1 from iput_s _ _ _ _]
    by_cases e7 : on + 1 < 7
    · rw [if_pos e7, if_pos e7]
      exact pw_cv hM (r_comes hS hk hc2 h01 1) (fun _ J g => pw_rz (Or.inl rfl) ⟨rfl, fRk_t f2 g.1, g.2⟩)
    · rw [if_neg e7, if_neg e7]
      refine rM hS (r := 1288) rfl (pw_wZ k a88.1 rfl (by omega) (by omega) (Or.inl rfl) (pw_rz (Or.inl rfl) ⟨rfl, fRk_t f2 (fRk_w (Or.inr (Or.inr (Or.inl rfl)))), iput_s _ _ _ _, by rw [iput_n _ _ _ (by decide)]; exact hc2.2.1, by rw [iput_n _ _ _ (by decide)]; exact hc2.2.2.1, ⟨by rw [iput_n _ _ _ (by decide)]; exact hc2.2.2.2.1.1, hc2.2.2.2.1.2.1, fun j x hj => by rw [iput_n _ _ _ (by decide)]; exact hc2.2.2.2.1.2.2 j x hj⟩, fun q => absurd q (by show ¬ (0 : Int32) = 1; decide)⟩))
  · rw [if_neg ev, if_neg ev]
    unfold q_M_hear_15
    refine rM hS (r := 1286) rfl (pw_wI k a86.1 rfl (by omega) (by omega) (pw_f (by decide) ?_))
    generalize iput I 1286 k v = I1 at hcl hfl ⊢
    refine rM hS (r := 1287) rfl (pw_aI k a87.1 rfl (by omega) (by omega) ?_)
    rw [hcl.2.2.1]
    have m93 : ∀ (K : mIm) (x o n2 : Int32) (r c : List Int32), (x = 0 ∨ x = 1) → fRk I K k → rRt K k (o, v, n2, r, c) → pw S (q_M_hear_138 (some 1282) (nI k) x (K, S)) (fun y J => y = x ∧ fRk I J k ∧ rRt J k (o, v, 0, r, c)) := by
      intro K x o n2 r c hx q1 q2
      unfold q_M_hear_138
      exact rM hS (r := 1287) rfl (pw_wI k a87.1 rfl (by omega) (by omega) (pw_rz hx ⟨rfl, fRk_t q1 (fRk_w (Or.inr (Or.inl rfl))), on4 q2⟩))
    by_cases e6 : on = 6
    · rw [if_pos e6, if_pos e6]
      unfold rH6
      have m59 : ∀ (K : mIm) (x o n2 : Int32) (r c : List Int32), (x = 0 ∨ x = 1) → fRk I K k → rRt K k (o, v, n2, r, c) → pw S (q_M_hear_103 (some 1282) (nI k) x (K, S)) (fun y J => y = x ∧ fRk I J k ∧ rRt J k (1, v, 0, [], c)) := by
        intro K x o n2 r c hx q1 q2
        unfold q_M_hear_103
        obtain ⟨w1, w2, w3, w4, w6⟩ := q2
        refine rM hS (r := 1288) rfl (pw_wZ k a88.1 rfl (by omega) (by omega) (Or.inr rfl) (rM hS (r := 1289) rfl (pw_wI k a89.1 rfl (by omega) (by omega) ?_)))
        refine m93 _ x 1 n2 [] c hx (fRk_t q1 (fRk_t (fRk_w (Or.inr (Or.inr (Or.inl rfl)))) (fRk_w (Or.inr (Or.inr (Or.inr (Or.inl rfl))))))) ⟨?_, ?_, ?_, ⟨?_, w4.2.1, fun j y hj => ?_⟩, fun _ => ⟨?_, by show (0 : Nat) ≤ 743; decide, fun j y hj => by simp at hj⟩⟩
        · rw [iput_n _ _ _ (by decide), iput_s]
        · rw [iput_n _ _ _ (by decide), iput_n _ _ _ (by decide)]; exact w2
        · rw [iput_n _ _ _ (by decide), iput_n _ _ _ (by decide)]; exact w3
        · rw [iput_n _ _ _ (by decide), iput_n _ _ _ (by decide)]; exact w4.1
        · rw [iput_n _ _ _ (by decide), iput_n _ _ _ (by decide)]; exact w4.2.2 j y hj
        · rw [iput_s]; rfl
      unfold q_M_hear_102
      refine rM hS (r := 1288) rfl (pw_aI k a88.1 rfl (by omega) (by omega) ?_)
      rw [hcl.1]
      rcases h01 with q | q
      · subst q
        refine pw_t rfl ?_
        rw [if_pos rfl]
        exact m59 I1 0 _ _ _ _ (Or.inl rfl) hfl hcl
      · subst q
        have c10 : ¬ (1 : Int32) = 0 := by decide
        refine pw_f c10 ?_
        rw [if_neg c10]
        refine pw_cv hM (r_isFrame hS hk hcl) (fun x J g => ?_)
        obtain ⟨g1, g2⟩ := g
        cases hF : rFm row with
        | none =>
          rw [hF] at g2
          dsimp only at g2 ⊢
          obtain ⟨rfl, g2⟩ := g2
          exact pw_t rfl (m59 J 0 _ _ _ _ (Or.inl rfl) (fRk_t hfl g1) g2)
        | some F =>
          rw [hF] at g2
          dsimp only at g2 ⊢
          obtain ⟨rfl, g2⟩ := g2
          exact pw_f c10 (m59 J 1 _ _ _ _ (Or.inr rfl) (fRk_t hfl g1) g2)
    · rw [if_neg e6, if_neg e6]
      refine rM hS (r := 1287) rfl (pw_aI k a87.1 rfl (by omega) (by omega) ?_)
      rw [hcl.2.2.1]
      by_cases e5 : on = 5
      · rw [if_pos e5, if_pos e5]
        exact m93 I1 0 _ _ _ _ (Or.inl rfl) hfl hcl
      · rw [if_neg e5, if_neg e5]
        refine pw_cv hM (r_comes hS hk hcl h01 0) (fun _ J g => ?_)
        have e : ∃ o r c, rAd (op, v, on, row, came) 0 = (o, v, on, r, c) ∧ rAd (op, v, 0, row, came) 0 = (o, v, 0, r, c) := by
          unfold rAd
          dsimp only
          split
          · exact ⟨_, _, _, rfl, rfl⟩
          · split
            · exact ⟨_, _, _, rfl, rfl⟩
            · exact ⟨_, _, _, rfl, rfl⟩
        obtain ⟨o, r, c, ea, eb⟩ := e
        have g2 := g.2
        rw [ea] at g2
        rw [eb]
        exact m93 J 0 o on r c (Or.inl rfl) (fRk_t hfl g.1) g2
end HR
