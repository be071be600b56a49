/-! the CHECK, bits, lines: the reference -/
/-- what is made so far, and its 1s in a row -/
def rMd (I : mIm) (M : List Int32) (o : Nat) : Prop := I 1282 5 = nI M.length ∧ fL I 1285 0 M ∧ I 1282 6 = nI o
def fM (I J : mIm) : Prop := (∀ r, r ≠ 1282 → r ≠ 1285 → J r = I r) ∧ ∀ j, j ≠ 5 → j ≠ 6 → J 1282 j = I 1282 j
def mkS (q : List Int32 × Nat) (b : Int32) : List Int32 × Nat := if b = 1 then (if q.2 + 1 < 5 then (q.1 ++ [b], q.2 + 1) else (q.1 ++ [b] ++ [0], 0)) else (q.1 ++ [b], 0)
def byB (v : Int32) : List Int32 := (List.range 8).map (fun k => (v >>> (nI k &&& 31)) &&& 1)
theorem fM_t {I J K : mIm} (h : fM I J) (g : fM J K) : fM I K := ⟨fun r h1 h2 => by rw [g.1 r h1 h2, h.1 r h1 h2], fun j h1 h2 => by rw [g.2 j h1 h2, h.2 j h1 h2]⟩
theorem fM_0 {I : mIm} : fM I I := ⟨fun _ _ _ => rfl, fun _ _ _ => rfl⟩
theorem fM_p {I : mIm} {j : Nat} {v : Int32} (h : j = 5 ∨ j = 6) : fM I (iput I 1282 j v) := ⟨fun r h1 h2 => iput_n _ _ _ h1, fun i h1 h2 => iput_j _ _ _ (by omega)⟩
theorem fM_w {I : mIm} {j : Nat} {v : Int32} : fM I (iput I 1285 j v) := ⟨fun r h1 h2 => iput_n _ _ _ h2, fun i h1 h2 => by rw [iput_n _ _ _ (by decide)]⟩
theorem RX_fM {I0 I J : mIm} {A : aT} (h : RX I0 I A) (g : fM I J) : RX I0 J A := ⟨RInv_eq h.1 (fun r a b _ _ _ _ _ _ _ _ => g.1 r (by omega) b) (g.2 1 (by decide) (by decide)) (g.2 3 (by decide) (by decide)) (g.2 15 (by decide) (by decide)), fun r hr => by rw [g.1 r (by unfold kp at hr; omega) (by unfold kp at hr; omega)]; exact h.2.1 r hr, fun j hj => by rw [g.2 j (by omega) (by omega)]; exact h.2.2 j hj⟩
theorem mk_o {q : List Int32 × Nat} {b : Int32} (h : q.2 < 5) : (mkS q b).2 < 5 := by
  unfold mkS
  split
  · split
    · rename_i h2; exact h2
    · show 0 < 5
      decide
  · show 0 < 5
    decide
theorem mk_l {q : List Int32 × Nat} {b : Int32} (h : q.2 < 5) : 5 * (mkS q b).1.length + (mkS q b).2 ≤ 5 * q.1.length + q.2 + 6 := by
  unfold mkS
  split
  · split
    · simp; omega
    · simp; omega
  · simp; omega
theorem mkf_o : ∀ (bs : List Int32) {q : List Int32 × Nat}, q.2 < 5 → (bs.foldl mkS q).2 < 5
  | [], _, h => h
  | _ :: bs, _, h => mkf_o bs (mk_o h)
theorem mkf_l : ∀ (bs : List Int32) {q : List Int32 × Nat}, q.2 < 5 → 5 * (bs.foldl mkS q).1.length + (bs.foldl mkS q).2 ≤ 5 * q.1.length + q.2 + 6 * bs.length
  | [], q, h => by simp
  | b :: bs, q, h => by
    have h1 := mkf_l bs (mk_o (b := b) h)
    have h2 := mk_l (b := b) h
    rw [List.foldl_cons, List.length_cons]
    omega
theorem mkf_s : ∀ (bs : List Int32) (M : List Int32) (o : Nat), o < 5 → (bs.foldl mkS (M, o)).1 = M ++ stf bs o
  | [], M, o, h => by
    rw [stf_n (by omega)]
    simp
  | b :: bs, M, o, h => by
    rw [List.foldl_cons, stf_c b bs (by omega)]
    by_cases e1 : b = 1
    · by_cases e2 : o + 1 < 5
      · rw [show mkS (M, o) b = (M ++ [b], o + 1) from by unfold mkS; rw [if_pos e1, if_pos e2], if_pos e1, mkf_s bs _ _ e2, List.append_assoc]
        rfl
      · rw [show mkS (M, o) b = (M ++ [b] ++ [0], 0) from by unfold mkS; rw [if_pos e1, if_neg e2], if_pos e1, mkf_s bs _ 0 (by decide), show o + 1 = 5 by omega, stf5, List.append_assoc, List.append_assoc]
        rfl
    · rw [show mkS (M, o) b = (M ++ [b], 0) from by unfold mkS; rw [if_neg e1], if_neg e1, mkf_s bs _ 0 (by decide), List.append_assoc]
      rfl
theorem stf_len (bs : List Int32) : 5 * (stf bs 0).length ≤ 6 * bs.length := by
  have h1 := mkf_s bs [] 0 (by decide)
  have h2 := mkf_l bs (q := ([], 0)) (by decide)
  rw [h1] at h2
  simp only [List.nil_append, List.length_nil] at h2
  omega
theorem bits8 {l : List Int32} {k : Nat} : (List.range (8 * (k + 1))).map (bitAt l) = (List.range (8 * k)).map (bitAt l) ++ byB (pA l k) := by
  rw [show 8 * (k + 1) = 8 * k + 8 by omega, List.range_add, List.map_append, List.map_map]
  congr 1
  unfold byB
  apply List.map_congr_left
  intro j hj
  have hj8 := List.mem_range.mp hj
  show bitAt l (8 * k + j) = _
  unfold bitAt pA
  rw [show (8 * k + j) / 8 = k by omega, show (8 * k + j) % 8 = j by omega]
theorem bits_all (l : List Int32) : bitsFrom l 0 = (List.range (8 * l.length)).map (bitAt l) := by
  unfold bitsFrom
  apply List.map_congr_left
  intro j _
  rw [Nat.zero_add]
theorem fL_psh {I : mIm} {r a : Nat} {l : List Int32} {v : Int32} (h : fL I r a l) : fL (iput I r (a + l.length) v) r a (l ++ [v]) := by
  intro j x hj
  by_cases e : j < l.length
  · rw [List.getElem?_append_left e] at hj
    rw [iput_j _ _ _ (by omega)]
    exact h j x hj
  · rw [List.getElem?_append_right (by omega)] at hj
    have hz := (List.getElem?_eq_some_iff.mp hj).1
    simp at hz
    have hje : j = l.length := by omega
    subst hje
    rw [Nat.sub_self] at hj
    rw [iput_s]
    exact Option.some.inj hj
section MK
variable {S : mS} {I J I0 : mIm} {l M : List Int32} {o n : Nat}
theorem r_checkOf_6 {r a cap : Nat} (hr : S.2.1 r = 1) (hcap : S.2.2.1 r = cap) (hc9 : cap < 100000) (hL : fL I r a l) (hc : a + n ≤ cap) (hn : n ≤ l.length) : ∀ (f m k : Nat), k + f = 8 * n → f < m → pw S (q_M_checkOf_6 m (some r) (nI a) (nI n) (chkN l k) (nI k) (I, S)) (fun v J => J = I ∧ v = 65535 - chkN l (8 * n))
  | f, 0, k, _, h => by omega
  | 0, m + 1, k, hk, hm => by
    show pw S (q_M_checkOf_6_b _ _ _ _ _ _ _) _
    unfold q_M_checkOf_6_b
    have e : k = 8 * n := by omega
    subst e
    rw [show (8 : Int32) * nI n = nI (8 * n) from pk_mul 8 n]
    exact pw_f (nI_nlt (by omega) (by omega)) (pw_ret ⟨rfl, rfl⟩)
  | f + 1, m + 1, k, hk, hm => by
    show pw S (q_M_checkOf_6_b _ _ _ _ _ _ _) _
    unfold q_M_checkOf_6_b
    rw [show (8 : Int32) * nI n = nI (8 * n) from pk_mul 8 n]
    refine pw_t (nI_lt (by omega) (by omega)) (pw_dv (n := k) (d := 8) rfl rfl (by omega) (by decide) (by decide) (pw_aI (a + k / 8) hr (nI_add _ _) (by omega) (by omega) (pw_rm (n := k) (d := 8) rfl rfl (by omega) (by decide) (by decide) (pw_lt ?_))))
    have eb : (I r (a + k / 8) >>> (nI (k % 8) &&& 31)) &&& 1 = bitAt l k := by
      rw [hL (k / 8) l[k / 8] (List.getElem?_eq_getElem (by omega))]
      unfold bitAt
      rw [List.getElem?_eq_getElem (by omega)]
      rfl
    rw [eb]
    unfold q_M_checkOf_47 q_M_checkOf_63
    have ec : chkN l (k + 1) = if chkN l k &&& 1 = bitAt l k then chkN l k >>> ((1 : Int32) &&& 31) else (chkN l k >>> ((1 : Int32) &&& 31)) ^^^ 33800 := rfl
    have ih := r_checkOf_6 hr hcap hc9 hL hc hn f m (k + 1) (by omega) (by omega)
    rw [show nI k + 1 = nI (k + 1) from nI_1 k]
    by_cases e : chkN l k &&& 1 = bitAt l k
    · rw [if_pos e] at ec
      rw [ec] at ih
      exact pw_t e (pw_lt (pw_t rfl ih))
    · rw [if_neg e] at ec
      rw [ec] at ih
      exact pw_f e (pw_lt (pw_f (by decide) (pw_lt ih)))
theorem r_checkOf {r a cap : Nat} (hr : S.2.1 r = 1) (hcap : S.2.2.1 r = cap) (hc9 : cap < 100000) (hL : fL I r a l) (hc : a + n ≤ cap) (hn : n ≤ l.length) (h1k : n ≤ 1000) : pw S (q_M_checkOf (some r) (nI a) (nI n) (I, S)) (fun v J => J = I ∧ v = 65535 - chkN l (8 * n)) := r_checkOf_6 hr hcap hc9 hL hc hn (8 * n) mFU 0 (by omega) (by unfold mFU; omega)
theorem r_makeBit (hS : Shp S) (h : rMd I M o) (ho : o < 5) (hl : M.length + 2 ≤ 1024) (b : Int32) : pw S (q_M_makeBit (some 1282) b (I, S)) (fun _ J => fM I J ∧ rMd J (mkS (M, o) b).1 (mkS (M, o) b).2) := by
  have hM := M_k hS
  have a85 := aK_in hS (r := 1285) (t := 0) (n := 1024) rfl
  obtain ⟨h1, h2, h3⟩ := h
  unfold q_M_makeBit
  refine rM hS (r := 1285) rfl (pw_gE hM h1 (pw_wI M.length a85.1 rfl (by omega) (by omega) (pw_gE hM (v := nI M.length) (by rw [iput_n _ _ _ (by decide)]; exact h1) (pw_pI hM ?_))))
  rw [show nI M.length + 1 = nI (M.length + 1) from nI_1 _]
  have m1 : fM I (iput (iput I 1285 M.length b) 1282 5 (nI (M.length + 1))) := fM_t fM_w (fM_p (Or.inl rfl))
  have d1 : rMd (iput (iput I 1285 M.length b) 1282 5 (nI (M.length + 1))) (M ++ [b]) o := by
    refine ⟨by rw [iput_s, List.length_append]; rfl, ?_, ?_⟩
    · have := fL_psh (v := b) h2
      rw [Nat.zero_add] at this
      intro j x hj
      rw [iput_n _ _ _ (by decide)]
      exact this j x hj
    · rw [iput_j _ _ _ (by decide), iput_n _ _ _ (by decide)]; exact h3
  generalize iput (iput I 1285 M.length b) 1282 5 (nI (M.length + 1)) = I1 at m1 d1 ⊢
  have l1 : (M ++ [b]).length = M.length + 1 := by simp
  have m36 : ∀ o' : Nat, o' ≤ 5 → pw S (q_M_makeBit_36 (some 1282) (nI o') (some 1282) (I1, S)) (fun _ J => fM I J ∧ rMd J (if o' < 5 then M ++ [b] else M ++ [b] ++ [0]) (if o' < 5 then o' else 0)) := by
    intro o' ho'
    unfold q_M_makeBit_36
    refine pw_pI hM (pw_gE hM (iput_s _ _ _ _) ?_)
    have m2 : fM I (iput I1 1282 6 (nI o')) := fM_t m1 (fM_p (Or.inr rfl))
    have d2 : rMd (iput I1 1282 6 (nI o')) (M ++ [b]) o' := ⟨by rw [iput_j _ _ _ (by decide)]; exact d1.1, fun j x hj => by rw [iput_n _ _ _ (by decide)]; exact d1.2.1 j x hj, iput_s _ _ _ _⟩
    by_cases e : o' < 5
    · rw [if_pos e, if_pos e]
      exact pw_t (nI_lt (b := 5) e (by decide)) (pw_ret ⟨m2, d2⟩)
    · rw [if_neg e, if_neg e]
      refine pw_f (nI_nlt (b := 5) (by omega) (by omega)) (rM hS (r := 1285) rfl (pw_gE hM d2.1 (pw_wI (M ++ [b]).length a85.1 rfl (by omega) (by omega) (pw_gE hM (v := nI (M ++ [b]).length) (by rw [iput_n _ _ _ (by decide)]; exact d2.1) (pw_pI hM (pw_pI hM (pw_ret ?_)))))))
      refine ⟨fM_t m2 (fM_t fM_w (fM_t (fM_p (Or.inl rfl)) (fM_p (Or.inr rfl)))), ?_, ?_, ?_⟩
      · rw [iput_j _ _ _ (by decide), iput_s, show (M ++ [b] ++ [(0 : Int32)]).length = (M ++ [b]).length + 1 from by simp]
        exact nI_1 _
      · have := fL_psh (v := 0) d2.2.1
        rw [Nat.zero_add] at this
        intro j x hj
        rw [iput_n _ _ _ (by decide), iput_n _ _ _ (by decide)]
        exact this j x hj
      · rw [iput_s]; rfl
  by_cases e1 : b = 1
  · refine pw_t e1 (pw_gE hM d1.2.2 ?_)
    rw [show nI o + 1 = nI (o + 1) from nI_1 o]
    have := m36 (o + 1) (by omega)
    by_cases e2 : o + 1 < 5
    · rw [show mkS (M, o) b = (M ++ [b], o + 1) from by unfold mkS; rw [if_pos e1, if_pos e2]]
      rw [if_pos e2, if_pos e2] at this
      exact this
    · rw [show mkS (M, o) b = (M ++ [b] ++ [0], 0) from by unfold mkS; rw [if_pos e1, if_neg e2]]
      rw [if_neg e2, if_neg e2] at this
      exact this
  · rw [show mkS (M, o) b = (M ++ [b], 0) from by unfold mkS; rw [if_neg e1]]
    have := m36 0 (by omega)
    rw [if_pos (by decide), if_pos (by decide)] at this
    exact pw_f e1 this
theorem r_makeByte_2 (hS : Shp S) (v : Int32) : ∀ (f m k : Nat) (I : mIm) (M : List Int32) (o : Nat), k + f = 8 → f < m → rMd I M o → o < 5 → 5 * M.length + o + 6 * f ≤ 5000 → pw S (q_M_makeByte_2 m (some 1282) v (nI k) (I, S)) (fun _ J => fM I J ∧ rMd J ((((List.range 8).drop k).map (fun k => (v >>> (nI k &&& 31)) &&& 1)).foldl mkS (M, o)).1 ((((List.range 8).drop k).map (fun k => (v >>> (nI k &&& 31)) &&& 1)).foldl mkS (M, o)).2)
  | f, 0, k, I, M, o, _, h, _, _, _ => by omega
  | 0, m + 1, k, I, M, o, hk, hm, h, ho, hl => by
    show pw S (q_M_makeByte_2_b _ _ _ _ _) _
    unfold q_M_makeByte_2_b
    have e : k = 8 := by omega
    subst e
    exact pw_f (nI_nlt (a := 8) (b := 8) (by omega) (by decide)) (pw_ret ⟨fM_0, h⟩)
  | f + 1, m + 1, k, I, M, o, hk, hm, h, ho, hl => by
    have hM := M_k hS
    show pw S (q_M_makeByte_2_b _ _ _ _ _) _
    unfold q_M_makeByte_2_b
    have e : (List.range 8).drop k = k :: (List.range 8).drop (k + 1) := by
      rw [List.drop_eq_getElem_cons (by simp; omega), List.getElem_range]
    rw [e, List.map_cons, List.foldl_cons]
    refine pw_t (nI_lt (b := 8) (by omega) (by decide)) (pw_cv hM (r_makeBit hS h ho (by omega) _) (fun _ J g => ?_))
    rw [show nI k + 1 = nI (k + 1) from nI_1 k]
    have h1 := mk_l (q := (M, o)) (b := (v >>> (nI k &&& 31)) &&& 1) ho
    have h2 := mk_o (q := (M, o)) (b := (v >>> (nI k &&& 31)) &&& 1) ho
    dsimp only at h1
    exact pw_mono (r_makeByte_2 hS v f m (k + 1) J _ _ (by omega) (by omega) g.2 h2 (by omega)) (fun _ K q => ⟨fM_t g.1 q.1, q.2⟩)
theorem r_makeByte (hS : Shp S) (h : rMd I M o) (ho : o < 5) (hl : 5 * M.length + o + 48 ≤ 5000) (v : Int32) : pw S (q_M_makeByte (some 1282) v (I, S)) (fun _ J => fM I J ∧ rMd J ((byB v).foldl mkS (M, o)).1 ((byB v).foldl mkS (M, o)).2) := r_makeByte_2 hS v 8 mFU 0 I M o (by omega) (by unfold mFU; omega) h ho (by omega)
theorem flg8 : ∀ k, k < 8 → (flg 8)[k]? = some (if k = 0 ∨ k = 7 then 0 else 1) := by decide
theorem r_makeFlag_2 (hS : Shp S) (hl : M.length + 8 ≤ 1024) (Ib : mIm) : ∀ (f m k : Nat) (I : mIm) (o : Nat), k + f = 8 → f < m → rMd I (M ++ (flg 8).take k) o → pw S (q_M_makeFlag_2 m (some 1282) (nI k) (I, S)) (fun _ J => fM I J ∧ rMd J (M ++ flg 8) 0)
  | f, 0, k, I, o, _, h, _ => by omega
  | 0, m + 1, k, I, o, hk, hm, h => by
    have hM := M_k hS
    show pw S (q_M_makeFlag_2_b _ _ _ _) _
    unfold q_M_makeFlag_2_b
    have e : k = 8 := by omega
    subst e
    refine pw_f (nI_nlt (a := 8) (b := 8) (by omega) (by decide)) (pw_pI hM (pw_ret ⟨fM_p (Or.inr rfl), ?_, ?_, ?_⟩))
    · rw [iput_j _ _ _ (by decide)]; exact h.1
    · intro j x hj
      rw [iput_n _ _ _ (by decide)]
      exact h.2.1 j x hj
    · rw [iput_s]; rfl
  | f + 1, m + 1, k, I, o, hk, hm, h => by
    have hM := M_k hS
    have a85 := aK_in hS (r := 1285) (t := 0) (n := 1024) rfl
    show pw S (q_M_makeFlag_2_b _ _ _ _) _
    unfold q_M_makeFlag_2_b
    have hlen : (M ++ (flg 8).take k).length = M.length + k := by
      rw [List.length_append, List.length_take]
      show M.length + min k 8 = _
      omega
    have go : ∀ v : Int32, v = (if k = 0 ∨ k = 7 then 0 else 1) → pw S (q_M_makeFlag_31 (q_M_makeFlag_2 m) (some 1282) (nI k) v (nI (M ++ (flg 8).take k).length) (some 1285) (I, S)) (fun _ J => fM I J ∧ rMd J (M ++ flg 8) 0) := by
      intro v hv
      unfold q_M_makeFlag_31
      refine pw_wI (M ++ (flg 8).take k).length a85.1 rfl (by omega) (by omega) (pw_gE hM (v := nI (M ++ (flg 8).take k).length) (by rw [iput_n _ _ _ (by decide)]; exact h.1) (pw_pI hM ?_))
      rw [show nI k + 1 = nI (k + 1) from nI_1 k]
      have et : (flg 8).take (k + 1) = (flg 8).take k ++ [v] := by
        rw [List.take_succ, flg8 k (by omega), hv]
        rfl
      refine pw_mono (r_makeFlag_2 hS hl Ib f m (k + 1) _ o (by omega) (by omega) ?_) (fun _ J g => ⟨fM_t (fM_t fM_w (fM_p (Or.inl rfl))) g.1, g.2⟩)
      rw [et, ← List.append_assoc]
      refine ⟨?_, ?_, ?_⟩
      · rw [iput_s, List.length_append (bs := [v])]
        exact nI_1 _
      · have := fL_psh (v := v) h.2.1
        rw [Nat.zero_add] at this
        intro j x hj
        rw [iput_n _ _ _ (by decide)]
        exact this j x hj
      · rw [iput_j _ _ _ (by decide), iput_n _ _ _ (by decide)]; exact h.2.2
    unfold q_M_makeFlag_26
    refine pw_t (nI_lt (b := 8) (by omega) (by decide)) (rM hS (r := 1285) rfl (pw_gE hM h.1 ?_))
    by_cases e0 : k = 0
    · exact pw_t (by rw [e0]; rfl) (go 0 (by rw [if_pos (Or.inl e0)]))
    · refine pw_f (nI_ne0 (by omega) (by omega)) ?_
      by_cases e7 : k = 7
      · exact pw_t (by rw [e7]; rfl) (go 0 (by rw [if_pos (Or.inr e7)]))
      · exact pw_f (fun q => e7 ((nI_eq (b := 7) (by omega) (by decide)).mp q)) (go 1 (by rw [if_neg (fun q => by omega)]))
theorem r_makeFlag (hS : Shp S) (h : rMd I M o) (hl : M.length + 8 ≤ 1024) : pw S (q_M_makeFlag (some 1282) (I, S)) (fun _ J => fM I J ∧ rMd J (M ++ flg 8) 0) := r_makeFlag_2 hS hl I 8 mFU 0 I o (by omega) (by unfold mFU; omega) (by rw [List.take_zero, List.append_nil]; exact h)
theorem frm_A {k : Nat} (h : k < l.length) : pA (frm l) k = pA l k := by
  unfold pA frm
  rw [List.getElem?_append_left h]
theorem frm_1 : pA (frm l) l.length = chk l &&& 255 := by
  unfold pA frm
  rw [List.getElem?_append_right (Nat.le_refl _), Nat.sub_self]
  rfl
theorem frm_2 : pA (frm l) (l.length + 1) = chk l >>> ((8 : Int32) &&& 31) := by
  unfold pA frm
  rw [List.getElem?_append_right (by omega), show l.length + 1 - l.length = 1 by omega]
  rfl
theorem frm_len : (frm l).length = l.length + 2 := by
  unfold frm
  rw [List.length_append]
  rfl
theorem bmap_len (l : List Int32) (k : Nat) : ((List.range k).map (bitAt l)).length = k := by simp
theorem r_makeFrame_8 (hS : Shp S) {r a cap : Nat} (hr : S.2.1 r = 1) (hcap : S.2.2.1 r = cap) (hc9 : cap < 100000) (hr2 : r ≠ 1282 ∧ r ≠ 1285) (hL : fL I r a l) (hc : a + l.length ≤ cap) (h90 : l.length ≤ 90) (hM0 : M.length ≤ 16) : ∀ (f m k : Nat) (J : mIm), k + f = l.length → f < m → fM I J → rMd J (((List.range (8 * k)).map (bitAt (frm l))).foldl mkS (M, 0)).1 (((List.range (8 * k)).map (bitAt (frm l))).foldl mkS (M, 0)).2 → pw S (q_M_makeFrame_8 m (some 1282) (some r) (nI a) (nI l.length) (nI k) (J, S)) (fun _ K => fM I K ∧ ∃ o, o < 5 ∧ rMd K (M ++ stf (bitsFrom (frm l) 0) 0) o)
  | f, 0, k, J, _, h, _, _ => by omega
  | 0, m + 1, k, J, hk, hm, hf, hd => by
    have hM := M_k hS
    have e : k = l.length := by omega
    subst e
    show pw S (q_M_makeFrame_8_b _ _ _ _ _ _ _) _
    unfold q_M_makeFrame_8_b
    have hLJ : fL J r a l := fun j x hj => by rw [hf.1 r hr2.1 hr2.2]; exact hL j x hj
    refine pw_f (nI_nlt (by omega) (by omega)) (pw_cl (r_checkOf hr hcap hc9 hLJ hc (Nat.le_refl _) (by omega)) (fun v J2 g => ?_))
    obtain ⟨hJ2, rfl⟩ := g
    rw [hJ2]
    have ec : 65535 - chkN l (8 * l.length) = chk l := rfl
    rw [ec]
    have o1 := mkf_o ((List.range (8 * l.length)).map (bitAt (frm l))) (q := (M, 0)) (show 0 < 5 by decide)
    have l1 := mkf_l ((List.range (8 * l.length)).map (bitAt (frm l))) (q := (M, 0)) (show 0 < 5 by decide)
    rw [bmap_len] at l1
    dsimp only at l1
    refine pw_cv hM (r_makeByte hS hd o1 (by omega) _) (fun _ J3 g => ?_)
    obtain ⟨g1, g2⟩ := g
    rw [← frm_1, ← List.foldl_append, ← bits8] at g2
    have o2 := mkf_o ((List.range (8 * (l.length + 1))).map (bitAt (frm l))) (q := (M, 0)) (show 0 < 5 by decide)
    have l2 := mkf_l ((List.range (8 * (l.length + 1))).map (bitAt (frm l))) (q := (M, 0)) (show 0 < 5 by decide)
    rw [bmap_len] at l2
    dsimp only at l2
    refine pw_cv hM (r_makeByte hS g2 o2 (by omega) _) (fun _ J4 z => pw_ret ?_)
    obtain ⟨z1, z2⟩ := z
    rw [← frm_2, ← List.foldl_append, ← bits8] at z2
    have o3 := mkf_o ((List.range (8 * (l.length + 1 + 1))).map (bitAt (frm l))) (q := (M, 0)) (show 0 < 5 by decide)
    refine ⟨fM_t hf (fM_t g1 z1), _, o3, ?_⟩
    rw [bits_all, frm_len, ← mkf_s _ M 0 (by decide)]
    exact z2
  | f + 1, m + 1, k, J, hk, hm, hf, hd => by
    have hM := M_k hS
    show pw S (q_M_makeFrame_8_b _ _ _ _ _ _ _) _
    unfold q_M_makeFrame_8_b
    refine pw_t (nI_lt (by omega) (by omega)) (pw_aI (a + k) hr (nI_add _ _) (by omega) (by omega) ?_)
    have ex : J r (a + k) = pA (frm l) k := by
      rw [frm_A (by omega), hf.1 r hr2.1 hr2.2, hL k l[k] (List.getElem?_eq_getElem (by omega))]
      unfold pA
      rw [List.getElem?_eq_getElem (by omega)]
      rfl
    rw [ex]
    have o1 := mkf_o ((List.range (8 * k)).map (bitAt (frm l))) (q := (M, 0)) (show 0 < 5 by decide)
    have l1 := mkf_l ((List.range (8 * k)).map (bitAt (frm l))) (q := (M, 0)) (show 0 < 5 by decide)
    rw [bmap_len] at l1
    dsimp only at l1
    refine pw_cv hM (r_makeByte hS hd o1 (by omega) _) (fun _ J3 g => ?_)
    obtain ⟨g1, g2⟩ := g
    rw [← List.foldl_append, ← bits8] at g2
    rw [show nI k + 1 = nI (k + 1) from nI_1 k]
    exact r_makeFrame_8 hS hr hcap hc9 hr2 hL hc h90 hM0 f m (k + 1) J3 (by omega) (by omega) (fM_t hf g1) g2
theorem r_makeFrame (hS : Shp S) {r a cap : Nat} (hr : S.2.1 r = 1) (hcap : S.2.2.1 r = cap) (hc9 : cap < 100000) (hr2 : r ≠ 1282 ∧ r ≠ 1285) (hL : fL I r a l) (hc : a + l.length ≤ cap) (h90 : l.length ≤ 90) (hM0 : M.length ≤ 16) (h : rMd I M o) : pw S (q_M_makeFrame (some 1282) (some r) (nI a) (nI l.length) (I, S)) (fun _ K => fM I K ∧ ∃ o, o < 5 ∧ rMd K (M ++ stf (bitsFrom (frm l) 0) 0) o) := by
  have hM := M_k hS
  unfold q_M_makeFrame
  refine pw_pI hM (r_makeFrame_8 hS hr hcap hc9 hr2 hL hc h90 hM0 l.length mFU 0 _ (by omega) (by unfold mFU; omega) (fM_p (Or.inr rfl)) ⟨?_, ?_, ?_⟩)
  · rw [iput_j _ _ _ (by decide)]; exact h.1
  · intro j x hj
    rw [iput_n _ _ _ (by decide)]
    exact h.2.1 j x hj
  · rw [iput_s]; rfl
end MK
