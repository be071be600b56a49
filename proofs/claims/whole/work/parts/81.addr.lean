/-! what a FRAME says: ADDRESSES -/
/-- all its BYTES are BYTES -/
def aBy (l : List Int32) : Prop := ∀ k, k < l.length → ∃ m : Nat, m < 256 ∧ pA l k = nI m
def nmF (l : List Int32) (a : Nat) (nm : List Int32) : Nat → Nat → Bool
  | 0, _ => true
  | k + 1, i => decide (pA l (a + i) = pA nm i) && nmF l a nm k (i + 1)
def isNm (l : List Int32) (a : Nat) (nm : List Int32) : Bool := nmF l a nm 6 0
/-- the seventh BYTE's number, twice and 96 less -/
def adW (l : List Int32) (a : Nat) : Int32 := (pA l (a + 6) &&& 126) - 96
def adN (l : List Int32) (a : Nat) : Int32 := if adW l a = 0 ∧ isNm l a nmN = true then 6 else if (¬ adW l a < 0 ∧ ¬ 10 < adW l a) ∧ isNm l a nmS = true then adW l a / 2 else -1
def bTw : Bool := (List.range 256).all (fun m => decide (((nI m &&& 126) - 96 < 0) ∨ (10 < (nI m &&& 126) - 96 ∧ (sta (((nI m &&& 126) - 96) / 2)).isSome = false) ∨ ((List.range 6).any (fun k => decide ((nI m &&& 126) - 96 = nI (2 * k) ∧ ((nI m &&& 126) - 96) / 2 = nI k)) = true)))
theorem bTw_ok : bTw = true := by decide +kernel
theorem bTw_in {m : Nat} (h : m < 256) : ((nI m &&& 126) - 96 < 0) ∨ (10 < (nI m &&& 126) - 96 ∧ (sta (((nI m &&& 126) - 96) / 2)).isSome = false) ∨ ∃ k : Nat, k < 6 ∧ (nI m &&& 126) - 96 = nI (2 * k) ∧ ((nI m &&& 126) - 96) / 2 = nI k := by
  have := List.all_eq_true.mp bTw_ok m (List.mem_range.mpr h)
  have := of_decide_eq_true this
  rcases this with q | q | q
  · exact Or.inl q
  · exact Or.inr (Or.inl q)
  · obtain ⟨k, hk, e⟩ := List.any_eq_true.mp q
    exact Or.inr (Or.inr ⟨k, List.mem_range.mp hk, of_decide_eq_true e⟩)
theorem nmF_out {l nm nm2 : List Int32} {a : Nat} : ∀ (k i j : Nat), i ≤ j → j < i + k → nmF l a nm k i = true → nmF l a nm2 k i = true → pA nm j = pA nm2 j
  | 0, i, j, h1, h2, _, _ => by omega
  | k + 1, i, j, h1, h2, h3, h4 => by
    simp only [nmF, Bool.and_eq_true, decide_eq_true_eq] at h3 h4
    by_cases e : j = i
    · subst e
      rw [← h3.1, h4.1]
    · exact nmF_out k (i + 1) j (by omega) (by omega) h3.2 h4.2
theorem isNm_un {l : List Int32} {a : Nat} (h : isNm l a nmN = true) : isNm l a nmS = false := by
  cases h2 : isNm l a nmS with
  | false => rfl
  | true =>
    have := nmF_out 6 0 0 (by omega) (by omega) h h2
    exact absurd this (by decide)
theorem adN_in {l : List Int32} {a : Nat} (hb : aBy l) (ha : a + 7 ≤ l.length) : adN l a = -1 ∨ adN l a = 6 ∨ ∃ k : Nat, k < 6 ∧ adN l a = nI k := by
  unfold adN
  split
  · exact Or.inr (Or.inl rfl)
  · split
    · rename_i h
      obtain ⟨m, hm, em⟩ := hb (a + 6) (by omega)
      have hw : adW l a = (nI m &&& 126) - 96 := by unfold adW; rw [em]
      rw [hw] at h ⊢
      rcases bTw_in hm with q | q | ⟨k, hk, e1, e2⟩
      · exact absurd q h.1.1
      · exact absurd q.1 h.1.2
      · exact Or.inr (Or.inr ⟨k, hk, e2⟩)
    · exact Or.inl rfl
section AD
variable {S : mS} {I I0 : mIm} {A : aT} {s : Nat} {l : List Int32} {b cap : Nat}
theorem c_isNamed_19 (hB : isB S b cap) (hL : isL I b l) (hc : l.length ≤ cap) (q : Nat) (nm : List Int32) (hq : mtV q = nm) (hnm : nm.length = 6) {a : Nat} (ha : a + 6 ≤ l.length) : ∀ (k n i : Nat), i + k = 6 → k < n → pw S (q_B_isNamed_19 n (some b) (nI a) (some q) (nI i) (I, S)) (fun v J => J = I ∧ v = if nmF l a nm k i then 1 else 0)
  | k, 0, i, _, h => by omega
  | 0, n + 1, i, hk, hn => by
    show pw S (q_B_isNamed_19_b _ _ _ _ _ _) _
    unfold q_B_isNamed_19_b
    exact pw_sl (n := 6) (by unfold mtN; rw [hq, hnm]) (by decide) (pw_f (nI_nlt (by omega) (by omega)) (pw_rz (Or.inr rfl) ⟨rfl, rfl⟩))
  | k + 1, n + 1, i, hk, hn => by
    obtain ⟨k1, k2, k3, k4, k5⟩ := id hB
    have hq6 : mtN q = 6 := by unfold mtN; rw [hq, hnm]
    show pw S (q_B_isNamed_19_b _ _ _ _ _ _) (fun v J => J = I ∧ v = if (decide (pA l (a + i) = pA nm i) && nmF l a nm k (i + 1)) = true then 1 else 0)
    unfold q_B_isNamed_19_b
    refine pw_sl (n := 6) hq6 (by decide) (pw_t (nI_lt (by omega) (by decide)) (pw_gR k1 k2 (pw_aI (a + i) k3 (nI_add a i) (by omega) (by omega) (pw_sI i rfl (by omega) (by omega) ?_))))
    have e1 : I (b + 1) (a + i) = pA l (a + i) := by
      rw [hL.2 (a + i) l[a + i] (List.getElem?_eq_getElem (by omega))]
      unfold pA
      rw [List.getElem?_eq_getElem (by omega)]
      rfl
    have e2 : mtF q i = pA nm i := by
      unfold mtF pA
      rw [hq, List.getD_eq_getElem?_getD, List.getElem?_eq_getElem (by omega)]
      rfl
    rw [e1, e2, show nI i + 1 = nI (i + 1) from nI_1 i]
    by_cases e : pA l (a + i) = pA nm i
    · rw [if_pos e, decide_eq_true e, Bool.true_and]
      exact c_isNamed_19 hB hL hc q nm hq hnm ha k n (i + 1) (by omega) (by omega)
    · rw [if_neg e, decide_eq_false e, Bool.false_and]
      exact pw_rz (Or.inl rfl) ⟨rfl, rfl⟩
theorem c_isNamed (hB : isB S b cap) (hL : isL I b l) (hc : l.length ≤ cap) (q : Nat) (nm : List Int32) (hq : mtV q = nm) (hnm : nm.length = 6) {a : Nat} (ha : a + 6 ≤ l.length) : pw S (q_B_isNamed (some b) (nI a) (some q) (I, S)) (fun v J => J = I ∧ v = if isNm l a nm then 1 else 0) := by
  have h5 := hB.2.2.2.2
  unfold q_B_isNamed
  refine pw_f (nI_pos (by omega)) (pw_sl (n := 6) (by unfold mtN; rw [hq, hnm]) (by decide) (gB hB hL (pw_f ?_ (c_isNamed_19 hB hL hc q nm hq hnm ha 6 mFU 0 (by omega) (by unfold mFU; omega)))))
  rw [nI_add]
  exact nI_nlt ha (by omega)
theorem c_addressAt (hB : isB S b cap) (hL : isL I b l) (hc : l.length ≤ cap) (hb : aBy l) {a : Nat} (ha : a < 1000) (t0 : Option Nat) : pw S (q_F_addressAt t0 (some b) (nI a) (I, S)) (fun v J => J = I ∧ v = if a + 7 ≤ l.length then adN l a else -1) := by
  have h5 := hB.2.2.2.2
  unfold q_F_addressAt
  rw [show nI a + 6 = nI (a + 6) from nI_add a 6]
  refine pw_cv hB.1 (p_B_at hB hL hc _) (fun v J h => ?_)
  obtain ⟨rfl, rfl⟩ := h
  rw [lAt_nI (by omega)]
  by_cases hl : a + 7 ≤ l.length
  · rw [if_pos hl]
    obtain ⟨m, hm, em⟩ := hb (a + 6) (by omega)
    have ne1 : ¬ pA l (a + 6) = -1 := by
      rw [em]
      intro e
      have : nI m < 0 := by rw [e]; decide
      exact nI_pos (by omega) this
    refine pw_f ne1 (pw_lt ?_)
    have hw : ((l[a + 6]?).getD (-1) &&& 126) - 96 = adW l a := rfl
    rw [hw]
    have hwm : adW l a = (nI m &&& 126) - 96 := by unfold adW; rw [em]
    have m44 : ¬ (adW l a = 0 ∧ isNm l a nmN = true) → pw S (q_F_addressAt_44 (some b) (nI a) (adW l a) (J, S)) (fun v J' => J' = J ∧ v = adN l a) := by
      intro hno
      unfold q_F_addressAt_44 adN x_dv
      rw [if_neg hno, if_neg (show ¬ (2 : Int32) = 0 by decide)]
      dsimp only
      by_cases e1 : adW l a < 0
      · rw [if_pos e1, if_neg (fun q => q.1.1 e1)]
        exact pw_ret ⟨rfl, rfl⟩
      · rw [if_neg e1]
        refine pw_cl (p_C_isStation _) (fun v J2 h => ?_)
        obtain ⟨rfl, rfl⟩ := h
        rw [hwm] at e1 ⊢
        rcases bTw_in hm with q | q | ⟨k, hk, k1, k2⟩
        · exact absurd q e1
        · rw [q.2]
          refine pw_t rfl (pw_ret ⟨rfl, ?_⟩)
          rw [if_neg (fun z => z.1.2 q.1)]
        · rw [k1, show nI (2 * k) / 2 = nI k from by rw [← k1]; exact k2, sta_nI hk]
          have h10 : ¬ (10 : Int32) < nI (2 * k) := nI_nlt (a := 10) (by omega) (by decide)
          refine pw_f (by simp) (pw_cv hB.1 (c_isNamed hB hL hc 3 nmS rfl rfl (by omega)) (fun v J2 h => ?_))
          obtain ⟨rfl, rfl⟩ := h
          cases hN : isNm l a nmS with
          | false =>
            refine pw_t rfl (pw_ret ⟨rfl, ?_⟩)
            rw [if_neg (fun z => absurd z.2 (by decide))]
          | true =>
            refine pw_f (by decide) (pw_ret ⟨rfl, ?_⟩)
            rw [if_pos ⟨⟨nI_pos (by omega), h10⟩, rfl⟩]
    by_cases e0 : adW l a = 0
    · rw [if_pos e0]
      refine pw_cv hB.1 (c_isNamed hB hL hc 4 nmN rfl rfl (by omega)) (fun v J2 h => ?_)
      obtain ⟨rfl, rfl⟩ := h
      cases hN : isNm l a nmN with
      | false =>
        refine pw_t rfl ?_
        have := m44 (fun q => by rw [hN] at q; exact absurd q.2 (by decide))
        exact this
      | true =>
        refine pw_f (by decide) (pw_ret ⟨rfl, ?_⟩)
        unfold adN
        rw [if_pos ⟨e0, hN⟩]
    · rw [if_neg e0]
      exact m44 (fun q => e0 q.1)
  · rw [if_neg hl, List.getElem?_eq_none (by omega)]
    exact pw_t rfl (pw_ret ⟨rfl, rfl⟩)
/-! the reference's -/
/-- what is read of the FRAME in hand may change, all else may not -/
def RW (I0 I : mIm) (A : aT) (l : List Int32) : Prop := RInv I A ∧ (∀ r, (r < 1282 ∨ r = 1309 ∨ r = 1312 ∨ r = 1313 ∨ r = 1343) → I r = I0 r) ∧ rAt I l
theorem RW_put {j : Nat} {v : Int32} (h : RW I0 I A l) (hj : 38 ≤ j) : RW I0 (iput I 1282 j v) A l := by
  refine ⟨RInv_eq h.1 (fun r a _ _ _ _ _ _ _ _ _ => iput_n _ _ _ (by omega)) (iput_j _ _ _ (by omega)) (iput_j _ _ _ (by omega)) (iput_j _ _ _ (by omega)), fun r hr => by rw [iput_n _ _ _ (by omega)]; exact h.2.1 r hr, by rw [iput_j _ _ _ (by omega)]; exact h.2.2.1, ?_, h.2.2.2.2⟩
  have := h.2.2.2.1
  unfold fL at this ⊢
  rw [iput_n _ _ _ (by decide)]
  exact this
theorem RW_row {r j : Nat} {v : Int32} (h : RW I0 I A l) (hr : r = 1314 ∨ r = 1315) : RW I0 (iput I r j v) A l := by
  refine ⟨RInv_eq h.1 (fun x a _ _ _ _ _ _ b c _ => iput_n _ _ _ (by omega)) (by rw [iput_n _ _ _ (by omega)]) (by rw [iput_n _ _ _ (by omega)]) (by rw [iput_n _ _ _ (by omega)]), fun x hx => by rw [iput_n _ _ _ (by omega)]; exact h.2.1 x hx, by rw [iput_n _ _ _ (by omega)]; exact h.2.2.1, ?_, h.2.2.2.2⟩
  have := h.2.2.2.1
  unfold fL at this ⊢
  rw [iput_n _ _ _ (by omega)]
  exact this
theorem RW_g (hS : Shp S) (h : RW I0 I A l) {β : Type} {Q : β → mIm → Prop} {k : Int32 → Option (β × mM)} (m : Nat) {i : Int32} (hi : i = nI m) (hm : m < l.length) (hk : pw S (k (pA l m)) Q) : pw S (x_aI (I, S) 0 (some 1313) i k) Q := by
  have ha := aK_in hS (r := 1313) (t := 0) (n := 90) rfl
  have h9 := h.2.2.2.2
  refine pw_aI m ha.1 hi (by omega) (by omega) ?_
  have := h.2.2.2.1 m l[m] (List.getElem?_eq_getElem hm)
  rw [Nat.zero_add] at this
  rw [this]
  unfold pA at hk
  rw [List.getElem?_eq_getElem hm] at hk
  exact hk
theorem r_addressAt_7 (hS : Shp S) (hW : RW I0 I A l) (hb : aBy l) {a : Nat} (ha : a + 7 ≤ l.length) : ∀ (k n i : Nat) (p q : Bool), i + k = 6 → k < n → pw S (q_M_addressAt_7 n (some 1282) (nI a) (if p then 1 else 0) (if q then 1 else 0) (nI i) (I, S)) (fun v J => J = iput I 1282 48 (pA l (a + 6)) ∧ v = if (q && nmF l a nmN k i) = true then (if adW l a = 0 then 6 else -1) else if (p && nmF l a nmS k i) = true ∧ ¬ adW l a < 0 ∧ ¬ 10 < adW l a then adW l a / 2 else -1)
  | k, 0, i, p, q, _, h => by omega
  | 0, n + 1, i, p, q, hk, hn => by
    have h9 := hW.2.2.2.2
    have hi : i = 6 := by omega
    subst hi
    show pw S (q_M_addressAt_7_b _ _ _ _ _ _ _) _
    unfold q_M_addressAt_7_b
    refine pw_f (nI_nlt (a := 6) (b := 6) (by omega) (by decide)) (rM hS (r := 1313) rfl (RW_g hS hW (a + 6) (nI_add a 6) (by omega) (pw_pI (M_k hS) (pw_gI (M_k hS) (pw_lt ?_)))))
    rw [iput_s]
    show pw S _ (fun v J => J = iput I 1282 48 (pA l (a + 6)) ∧ v = if (q && true) = true then (if adW l a = 0 then 6 else -1) else if (p && true) = true ∧ ¬ adW l a < 0 ∧ ¬ 10 < adW l a then adW l a / 2 else -1)
    rw [Bool.and_true, Bool.and_true]
    have hw : (pA l (a + 6) &&& 126) - 96 = adW l a := rfl
    rw [hw]
    cases q
    · refine pw_t rfl ?_
      cases p
      · exact pw_t rfl (pw_ret ⟨rfl, by simp⟩)
      · refine pw_f (by decide) ?_
        by_cases e1 : adW l a < 0
        · exact pw_t e1 (pw_ret ⟨rfl, by simp [e1]⟩)
        · refine pw_f e1 ?_
          by_cases e2 : 10 < adW l a
          · exact pw_t e2 (pw_ret ⟨rfl, by simp [e2]⟩)
          · refine pw_f e2 ?_
            unfold x_dv
            rw [if_neg (by decide)]
            exact pw_ret ⟨rfl, by simp [e1, e2]⟩
    · refine pw_f (by decide) ?_
      by_cases e1 : adW l a = 0
      · exact pw_t e1 (pw_ret ⟨rfl, by simp [e1]⟩)
      · exact pw_f e1 (pw_ret ⟨rfl, by simp [e1]⟩)
  | k + 1, n + 1, i, p, q, hk, hn => by
    have h9 := hW.2.2.2.2
    have hi : i < 6 := by omega
    show pw S (q_M_addressAt_7_b _ _ _ _ _ _ _) (fun v J => J = iput I 1282 48 (pA l (a + 6)) ∧ v = if (q && (decide (pA l (a + i) = pA nmN i) && nmF l a nmN k (i + 1))) = true then (if adW l a = 0 then 6 else -1) else if (p && (decide (pA l (a + i) = pA nmS i) && nmF l a nmS k (i + 1))) = true ∧ ¬ adW l a < 0 ∧ ¬ 10 < adW l a then adW l a / 2 else -1)
    have eS : ((if (0 : Int32) = 0 then nmS else nmN)[i]?).getD 0 = pA nmS i := by
      rw [if_pos rfl]
      unfold pA
      rw [List.getElem?_eq_getElem (by exact hi)]
      rfl
    have eN : ((if (1 : Int32) = 0 then nmS else nmN)[i]?).getD 0 = pA nmN i := by
      rw [if_neg (by decide)]
      unfold pA
      rw [List.getElem?_eq_getElem (by exact hi)]
      rfl
    have m73 : ∀ (p' q' : Bool), p' = (p && decide (pA l (a + i) = pA nmS i)) → q' = (q && decide (pA l (a + i) = pA nmN i)) → pw S (q_M_addressAt_73 (q_M_addressAt_7 n) (some 1282) (nI a) (if p' then 1 else 0) (nI i) (if q' then 1 else 0) (I, S)) (fun v J => J = iput I 1282 48 (pA l (a + 6)) ∧ v = if (q && (decide (pA l (a + i) = pA nmN i) && nmF l a nmN k (i + 1))) = true then (if adW l a = 0 then 6 else -1) else if (p && (decide (pA l (a + i) = pA nmS i) && nmF l a nmS k (i + 1))) = true ∧ ¬ adW l a < 0 ∧ ¬ 10 < adW l a then adW l a / 2 else -1) := by
      intro p' q' hp hq
      unfold q_M_addressAt_73
      rw [show nI i + 1 = nI (i + 1) from nI_1 i, ← Bool.and_assoc, ← Bool.and_assoc, ← hp, ← hq]
      exact r_addressAt_7 hS hW hb ha k n (i + 1) p' q' (by omega) (by omega)
    have m43 : ∀ (p' : Bool), p' = (p && decide (pA l (a + i) = pA nmS i)) → pw S (q_M_addressAt_43 (q_M_addressAt_7 n) (some 1282) (nI a) (if q then 1 else 0) (nI i) (if p' then 1 else 0) (I, S)) (fun v J => J = iput I 1282 48 (pA l (a + 6)) ∧ v = if (q && (decide (pA l (a + i) = pA nmN i) && nmF l a nmN k (i + 1))) = true then (if adW l a = 0 then 6 else -1) else if (p && (decide (pA l (a + i) = pA nmS i) && nmF l a nmS k (i + 1))) = true ∧ ¬ adW l a < 0 ∧ ¬ 10 < adW l a then adW l a / 2 else -1) := by
      intro p' hp
      unfold q_M_addressAt_43 q_M_addressAt_72
      cases q
      · exact pw_t rfl (m73 p' false hp rfl)
      · refine pw_f (by decide) (rM hS (r := 1313) rfl (RW_g hS hW (a + i) (nI_add a i) (by omega) (pw_cl (p_M_letter i hi 1) (fun v J h => ?_))))
        obtain ⟨rfl, h2⟩ := h
        rw [eN] at h2
        rw [h2]
        by_cases e : pA l (a + i) = pA nmN i
        · exact pw_t e (m73 p' true hp (by rw [decide_eq_true e]; rfl))
        · exact pw_f e (m73 p' false hp (by rw [decide_eq_false e]; rfl))
    unfold q_M_addressAt_7_b q_M_addressAt_42
    refine pw_t (nI_lt (b := 6) hi (by decide)) ?_
    cases p
    · exact pw_t rfl (m43 false rfl)
    · refine pw_f (by decide) (rM hS (r := 1313) rfl (RW_g hS hW (a + i) (nI_add a i) (by omega) (pw_cl (p_M_letter i hi 0) (fun v J h => ?_))))
      obtain ⟨rfl, h2⟩ := h
      rw [eS] at h2
      rw [h2]
      by_cases e : pA l (a + i) = pA nmS i
      · exact pw_t e (m43 true (by rw [decide_eq_true e]; rfl))
      · exact pw_f e (m43 false (by rw [decide_eq_false e]; rfl))
theorem r_addressAt (hS : Shp S) (hW : RW I0 I A l) (hb : aBy l) {a : Nat} (ha : a + 7 ≤ l.length) : pw S (q_M_addressAt (some 1282) (nI a) (I, S)) (fun v J => J = iput I 1282 48 (pA l (a + 6)) ∧ v = adN l a) := by
  unfold q_M_addressAt
  refine pw_mono (r_addressAt_7 hS hW hb ha 6 mFU 0 true true (by omega) (by unfold mFU; omega)) (fun v J h => ⟨h.1, ?_⟩)
  rw [h.2, Bool.true_and, Bool.true_and]
  show (if isNm l a nmN = true then (if adW l a = 0 then 6 else -1) else if isNm l a nmS = true ∧ ¬ adW l a < 0 ∧ ¬ 10 < adW l a then adW l a / 2 else -1) = adN l a
  unfold adN
  cases hN : isNm l a nmN with
  | true =>
    have hS2 := isNm_un hN
    by_cases e : adW l a = 0
    · simp [e]
    · simp [e, hS2]
  | false =>
    by_cases e : isNm l a nmS = true ∧ ¬ adW l a < 0 ∧ ¬ 10 < adW l a
    · rw [if_neg (by decide), if_pos e, if_neg (fun q => absurd q.2 (by decide)), if_pos ⟨⟨e.2.1, e.2.2⟩, e.1⟩]
    · rw [if_neg (by decide), if_neg e, if_neg (fun q => absurd q.2 (by decide)), if_neg (fun q => e ⟨q.2, q.1.1, q.1.2⟩)]
end AD
