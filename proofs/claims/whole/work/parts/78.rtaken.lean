/-! TAKEN: what the reference answers -/
def rKd (I : mIm) (D : pD) (l : List Int32) (x : Nat) : Prop := (D.2.2 4 = 0 → (∃ m : Nat, m < 128 ∧ I 1282 41 = nI (2 * m)) ∧ ((I 1282 41 >>> ((1 : Int32) &&& 31)) &&& 7) = D.2.2 7 ∧ D.2.1 = x + 3 ∧ x + 3 < l.length ∧ l.length ≤ x + 19 ∧ pA l (x + 2) = D.2.2 8 ∧ (D.2.2 8 = 240 ∨ D.2.2 8 = 207)) ∧ (D.2.2 4 ≠ 0 → ∃ m : Nat, m < 128 ∧ I 1282 41 = nI (2 * m + 1)) ∧ (I 1282 41 = 47 ↔ D.2.2 4 = 47) ∧ (I 1282 41 = 67 ↔ D.2.2 4 = 67) ∧ (I 1282 41 = 15 ↔ D.2.2 4 = 15) ∧ (I 1282 41 = 99 ↔ D.2.2 4 = 99) ∧ (D.2.2 4 ≠ 0 → D.2.2 4 ≠ 47 → D.2.2 4 ≠ 67 → D.2.2 4 ≠ 15 → D.2.2 4 ≠ 99 → I 1282 41 &&& 15 = D.2.2 4) ∧ (D.2.2 4 ≠ 47 → D.2.2 4 ≠ 67 → D.2.2 4 ≠ 15 → D.2.2 4 ≠ 99 → pA l x >>> ((5 : Int32) &&& 31) = D.2.2 6)
def rCx (I : mIm) (D : pD) (l : List Int32) (x nv : Nat) : Prop := rAt I l ∧ I 1282 39 = nI D.1 ∧ I 1282 42 = D.2.2 2 ∧ I 1282 43 = nI x ∧ x < l.length ∧ I 1282 44 = D.2.2 3 ∧ D.2.2 5 = (if I 1282 45 = 0 then 0 else 16) ∧ I 1282 40 = nI nv ∧ nv ≤ 2 ∧ D.2.2 0 = (if nv = 0 then -1 else I 1314 (nv - 1)) ∧ D.2.2 1 = (if nv = 2 then I 1314 0 else -1) ∧ (D.2.2 0 ≠ 6 ∧ D.2.2 1 ≠ 6) ∧ rKd I D l x
theorem iput_row {J K : mIm} {r k : Nat} {v : Int32} (h : J r = K r) : iput J r k v r = iput K r k v r := by
  unfold iput
  rw [mrow_s, mrow_s, h]
section RA
variable {S : mS} {I I0 : mIm} {A : aT} {s o : Nat} {D : pD} {l : List Int32} {x nv : Nat}
theorem rx82 {J : mIm} {B : aT} (hX : RX I0 J B) {j : Nat} (hj : 35 ≤ j) : J 1282 j = I0 1282 j := hX.2.2 j hj
theorem rx14 {J : mIm} {B : aT} (hX : RX I0 J B) : J 1314 = I0 1314 := hX.2.1 1314 (by unfold kp; omega)
theorem r_via (hS : Shp S) (hX : RX I0 I A) {β : Type} {Q : β → mIm → Prop} {k : Int32 → Option (β × mM)} (m : Nat) {i : Int32} (hi : i = nI m) (hm : m < 2) (h : pw S (k (I0 1314 m)) Q) : pw S (x_aI (I, S) 0 (some 1314) i k) Q := by
  have ha := aK_in hS (r := 1314) (t := 0) (n := 2) rfl
  refine pw_aI m ha.1 hi (by omega) (by omega) ?_
  rw [rx14 hX]
  exact h
theorem r_answer (hS : Shp S) (hl : isLk s D.1) (hX : RX I0 I A) (hD : rCx I0 D l x nv) (k : Int32) : pw S (q_M_answer (some 1282) (nI s) k (I, S)) (RU I0 (aAns A s D k)) := by
  obtain ⟨c1, c2, c3, c4, c5, c6, c7, c8, c9, c10, c11, ⟨c12, c13⟩, c14⟩ := hD
  have hm := M_k hS
  have hs := hl.1
  have fin : ∀ b : Int32, pw S (q_M_answer_67 (some 1282) (nI s) b k (some 1282) (I, S)) (fun _ _ => True) ∨ True := fun _ => Or.inr trivial
  have m67 : ∀ (J : mIm) (b : Int32) (h : List Int32), h.length ≤ 28 → RX I0 J A → rFr J h → pw S (q_M_answer_67 (some 1282) (nI s) b k (some 1282) (J, S)) (RU I0 (aEnq A s (h ++ [k + b, D.2.2 2]))) := by
    intro J b h hh hJ hf
    unfold q_M_answer_67
    refine pw_cv hm (p_M_put hS hJ hf (by omega) _) (fun _ J1 g1 => pw_gI hm ?_)
    rw [rx82 g1.1 (by decide), c3]
    refine pw_cv hm (p_M_put hS g1.1 g1.2 (by simp; omega) _) (fun _ J2 g2 => ?_)
    rw [List.append_assoc] at g2
    exact pw_cv hm (p_M_enqueue hS g2.1 g2.2 hs (by simp; omega)) (fun _ J3 g3 => pw_ret g3)
  have m48 : ∀ (v w : Int32), v = D.2.2 0 → w = D.2.2 1 → pw S (q_M_answer_48 (some 1282) (nI s) k w v (nI s) (nI D.1) (some 1282) (I, S)) (RU I0 (aAns A s D k)) := by
    intro v w hv hw
    subst hv
    subst hw
    unfold q_M_answer_48 aAns
    refine pw_cv hm (p_M_begin hS hX (nI D.1) (nI s) _ _ 0 (nI_ne6 hl.2.1) (nI_ne6 hs) c12 c13) (fun _ J1 g1 => pw_gI hm ?_)
    rw [rx82 g1.1 (by decide), c7]
    have hd := hdr_len (nI D.1) (nI s) (D.2.2 0) (D.2.2 1) 0
    by_cases e : I0 1282 45 = 0
    · rw [if_pos e, if_pos e]; exact m67 J1 0 _ hd.1 g1.1 g1.2
    · rw [if_neg e, if_neg e]; exact m67 J1 16 _ hd.1 g1.1 g1.2
  have m22 : ∀ v : Int32, v = D.2.2 0 → pw S (q_M_answer_22 (some 1282) (nI s) k v (I, S)) (RU I0 (aAns A s D k)) := by
    intro v hv
    unfold q_M_answer_22
    refine pw_gI hm (pw_gI hm ?_)
    rw [rx82 hX (by decide), rx82 hX (by decide), c2, c8]
    by_cases e : nv = 2
    · rw [e]
      refine pw_t rfl (rM hS (r := 1314) rfl (r_via hS hX 0 rfl (by decide) (m48 v _ hv ?_)))
      rw [c11, if_pos e]
    · refine pw_f (fun q => e ((nI_eq (b := 2) (by omega) (by decide)).mp q)) (m48 v _ hv ?_)
      rw [c11, if_neg e]
  unfold q_M_answer
  refine pw_gI hm ?_
  rw [rx82 hX (by decide), c8]
  by_cases e : nv = 0
  · subst e
    refine pw_t rfl (m22 _ ?_)
    rw [c10]
    rfl
  · refine pw_f (nI_ne0 (by omega) (by omega)) (rM hS (r := 1314) rfl (pw_gI hm ?_))
    rw [rx82 hX (by decide), c8]
    refine r_via hS hX (nv - 1) (pk_sub (b := 1) (by omega)) (by omega) (m22 _ ?_)
    rw [c10, if_neg e]
/-- an I is said again -/
theorem r_sayAgain_87 (hS : Shp S) (hs : s < 6) {a : Int32} {t h : List Int32} {lk i0 : Nat} (hlk : lk < 36) (hi0 : i0 < 4) (ht : t.length ≤ 16) (hh : h.length ≤ 40) (hA : ∀ J, RX I0 J A → J 1338 (4 * lk + i0) = nI t.length ∧ fL J 1337 (64 * lk + 16 * i0) t) : ∀ (k n i : Nat) (I : mIm), i + k = t.length → k < n → RX I0 I A → rFr I (h ++ t.take i) → pw S (q_M_sayAgain_87 n (some 1282) (nI s) (nI i0) (nI lk) (nI i) (I, S)) (RU I0 (aEnq A s (h ++ t)))
  | k, 0, i, I, _, h, _, _ => by omega
  | k, n + 1, i, I, hk, hn, hX, hf => by
    have hm := M_k hS
    have hg := aK_in hS (r := 1338) (t := 0) (n := 144) rfl
    have hb := aK_in hS (r := 1337) (t := 0) (n := 2304) rfl
    obtain ⟨a1, a2⟩ := hA I hX
    show pw S (q_M_sayAgain_87_b _ _ _ _ _ _ _) _
    unfold q_M_sayAgain_87_b
    refine rM hS (r := 1338) rfl (pw_aI (4 * lk + i0) hg.1 (n_lin 4 lk i0) (by omega) (by omega) ?_)
    rw [a1]
    by_cases hi : i < t.length
    · refine pw_t (nI_lt hi (by omega)) (rM hS (r := 1337) rfl (pw_aI (64 * lk + 16 * i0 + i) hb.1 ?_ (by omega) (by omega) ?_))
      · rw [show (16 : Int32) * nI i0 = nI (16 * i0) from pk_mul 16 i0, show (64 : Int32) * nI lk + nI (16 * i0) = nI (64 * lk + 16 * i0) from n_lin 64 lk _, nI_add]
      · rw [a2 i t[i] (List.getElem?_eq_getElem hi), show nI i + 1 = nI (i + 1) from nI_1 i]
        refine pw_cv hm (p_M_put hS hX hf (by rw [List.length_append, List.length_take]; omega) _) (fun _ J g => ?_)
        refine r_sayAgain_87 (a := a) hS hs hlk hi0 ht hh hA (k - 1) n (i + 1) J (by omega) (by omega) g.1 ?_
        rw [List.take_succ, List.getElem?_eq_getElem hi, ← List.append_assoc]
        exact g.2
    · have : i = t.length := by omega
      subst this
      rw [List.take_length] at hf
      exact pw_f (nI_nlt (by omega) (by omega)) (pw_cv hm (p_M_enqueue hS hX hf hs (by rw [List.length_append]; omega)) (fun _ J g => pw_ret g))
theorem r_sayInf (hS : Shp S) (hl : isLk s o) (hX : RX I0 I A) (hV : aVi A) {i : Nat} (hi : i < (A.2.2 3 (6 * s + o)).length) : pw S (q_M_sayAgain (some 1282) (nI s) (nI o) (nI i) (I, S)) (RU I0 (aInf A s o ((A.1 25 (6 * s + o) + nI i) &&& 7) (((A.2.2 3 (6 * s + o))[i]?).getD []))) := by
  have hm := M_k hS
  obtain ⟨h1, h2, h3⟩ := hl
  have hv := hV (6 * s + o) (by omega)
  have hl36 : 6 * s + o < 36 := by omega
  obtain ⟨-, h4, h5⟩ := (hX.1.2.2.2.2 _ hl36).2.2.2
  have hg : (A.2.2 3 (6 * s + o))[i]? = some (A.2.2 3 (6 * s + o))[i] := List.getElem?_eq_getElem hi
  obtain ⟨a, t, e1, e2, e3, e4, e5⟩ := h5 i _ hg
  have hk := aK_in hS (r := 1339) (t := 0) (n := 144) rfl
  rw [hg, e1]
  unfold q_M_sayAgain aInf
  refine pw_lt ?_
  rw [show (6 : Int32) * nI s + nI o = nI (6 * s + o) from n_lin 6 s o]
  refine rM hS (r := 1317) rfl (gA hS hX (6 * s + o) rfl rfl (by omega) (rM hS (r := 1318) rfl (gA hS hX (6 * s + o) rfl rfl (by omega) ?_)))
  refine pw_cv hm (p_M_begin hS hX (nI o) (nI s) _ _ 1 (nI_ne6 h2) (nI_ne6 h1) hv.1 hv.2) (fun _ J1 g1 => ?_)
  have hd := hdr_len (nI o) (nI s) (A.1 21 (6 * s + o)) (A.1 22 (6 * s + o)) 1
  refine rM hS (r := 1321) rfl (gA hS g1.1 (6 * s + o) rfl rfl (by omega) (rM hS (r := 1322) rfl (gA hS g1.1 (6 * s + o) rfl rfl (by omega) ?_)))
  refine pw_cv hm (p_M_put hS g1.1 g1.2 (by omega) _) (fun _ J2 g2 => rM hS (r := 1319) rfl (gA hS g2.1 (6 * s + o) rfl rfl (by omega) ?_))
  refine pw_cv hm (p_M_put hS g2.1 g2.2 (by simp; omega) _) (fun _ J3 g3 => ?_)
  refine rM hS (r := 1339) rfl (pw_aI (4 * (6 * s + o) + i) hk.1 (n_lin 4 _ i) (by omega) (by omega) ?_)
  have inv : ∀ J, RX I0 J A → J 1339 (4 * (6 * s + o) + i) = a ∧ J 1338 (4 * (6 * s + o) + i) = nI t.length ∧ fL J 1337 (64 * (6 * s + o) + 16 * i) t := by
    intro J hJ
    obtain ⟨a', t', q1, q2, q3, q4, q5⟩ := (hJ.1.2.2.2.2 _ hl36).2.2.2.2.2 i _ hg
    rw [e1] at q1
    injection q1 with q1 q1'
    subst q1
    subst q1'
    exact ⟨q3, q4, q5⟩
  rw [(inv J3 g3.1).1]
  refine pw_cv hm (p_M_put hS g3.1 g3.2 (by simp; omega) _) (fun _ J4 g4 => ?_)
  have e9 : hdr (nI o) (nI s) (A.1 21 (6 * s + o)) (A.1 22 (6 * s + o)) 1 ++ [2 * ((A.1 25 (6 * s + o) + nI i) &&& 7) + 32 * A.1 26 (6 * s + o)] ++ [A.1 23 (6 * s + o)] ++ [a] = hdr (nI o) (nI s) (A.1 21 (6 * s + o)) (A.1 22 (6 * s + o)) 1 ++ [(0 + 2 * ((A.1 25 (6 * s + o) + nI i) &&& 7)) + 32 * A.1 26 (6 * s + o), A.1 23 (6 * s + o)] ++ [a] := by
    rw [Int32.zero_add]
    simp
  rw [e9] at g4
  have := r_sayAgain_87 (a := a) (h := hdr (nI o) (nI s) (A.1 21 (6 * s + o)) (A.1 22 (6 * s + o)) 1 ++ [(0 + 2 * ((A.1 25 (6 * s + o) + nI i) &&& 7)) + 32 * A.1 26 (6 * s + o), A.1 23 (6 * s + o)] ++ [a]) (t := t) hS h1 hl36 (by omega) e2 (by simp; omega) (fun J hJ => (inv J hJ).2) t.length mFU 0 J4 (by omega) (by unfold mFU; omega) g4.1 (by rw [List.take_zero, List.append_nil]; exact g4.2)
  rw [List.append_assoc] at this
  exact this
theorem r_again_37 (hS : Shp S) (hl : isLk s o) : ∀ (k n i : Nat) (I : mIm) (A : aT), i + k = (A.2.2 3 (6 * s + o)).length → k < n → RX I0 I A → aVi A → pw S (q_M_again_37 n (some 1282) (nI s) (nI o) (nI (6 * s + o)) (nI i) (I, S)) (RU I0 (agN s o k i A))
  | k, 0, i, I, A, _, h, _, _ => by omega
  | 0, n + 1, i, I, A, hk, hn, hX, hV => by
    obtain ⟨h1, h2, h3⟩ := hl
    have hl36 : 6 * s + o < 36 := by omega
    have h4 := (hX.1.2.2.2.2 _ hl36).2.2.2.2.1
    show pw S (q_M_again_37_b _ _ _ _ _ _ _) _
    unfold q_M_again_37_b
    exact rM hS (r := 1340) rfl (g3 hS hX hl36 (pw_f (nI_nlt (by omega) (by omega)) (pw_ret hX)))
  | k + 1, n + 1, i, I, A, hk, hn, hX, hV => by
    obtain ⟨h1, h2, h3⟩ := id hl
    have hl36 : 6 * s + o < 36 := by omega
    have h4 := (hX.1.2.2.2.2 _ hl36).2.2.2.2.1
    show pw S (q_M_again_37_b _ _ _ _ _ _ _) (RU I0 (if A.1 31 (6 * s + o) = 0 then agN s o k (i + 1) (aInf A s o ((A.1 25 (6 * s + o) + nI i) &&& 7) (((A.2.2 3 (6 * s + o))[i]?).getD [])) else A))
    unfold q_M_again_37_b
    refine rM hS (r := 1340) rfl (g3 hS hX hl36 (pw_t (nI_lt (by omega) (by omega)) (rM hS (r := 1327) rfl (gA hS hX (6 * s + o) rfl rfl (by omega) ?_))))
    refine pw_ite (P := RU I0) (fun e => ?_) (fun e => pw_ret hX)
    refine pw_cv (M_k hS) (r_sayInf hS hl hX hV (by omega)) (fun _ J g => ?_)
    rw [show nI i + 1 = nI (i + 1) from nI_1 i]
    exact r_again_37 hS hl k n (i + 1) J _ (by rw [aInf_22 (by decide)]; omega) (by omega) g (aVi_same hV (aInf_1 (by decide)) (aInf_1 (by decide)))
theorem r_again (hS : Shp S) (hl : isLk s o) (hX : RX I0 I A) (hV : aVi A) : pw S (q_M_again (some 1282) (nI s) (nI o) (I, S)) (RU I0 (aAga A s o)) := by
  obtain ⟨h1, h2, h3⟩ := id hl
  have hl36 : 6 * s + o < 36 := by omega
  have h4 := (hX.1.2.2.2.2 _ hl36).2.2.2.2.1
  unfold q_M_again aAga
  refine pw_lt ?_
  rw [show (6 : Int32) * nI s + nI o = nI (6 * s + o) from n_lin 6 s o]
  refine rM hS (r := 1340) rfl (g3 hS hX hl36 ?_)
  by_cases e : (A.2.2 3 (6 * s + o)).length = 0
  · rw [if_pos e, e]
    exact pw_t rfl (pw_ret hX)
  · rw [if_neg e]
    refine pw_f (nI_ne0 (by omega) (by omega)) (rM hS (r := 1323) rfl (rM hS (r := 1294) rfl (gA hS hX (9 * s + 4) rfl (n_lin 9 s 4) (by omega) (sA hS hX (6 * s + o) rfl (by decide) rfl (by omega) (fun J g => ?_)))))
    exact r_again_37 hS hl _ mFU 0 J _ (by rw [aI_2]; omega) (by unfold mFU; omega) g (aVi_I hV (Or.inl (by decide)))
/-! comesUp -/
theorem r_sb3 (hS : Shp S) (hl : isLk s D.1) (hX : RX I0 I A) (hD : rCx I0 D l x nv) : pw S (q_M_comesUp_135 (some 1282) (nI s) (nI (6 * s + D.1)) (I, S)) (RU I0 (aSb3 A s D)) := by
  obtain ⟨c1, c2, c3, c4, c5, c6, c7, c8, c9, c10, c11, ⟨c12, c13⟩, c14⟩ := id hD
  have hm := M_k hS
  obtain ⟨h1, h2, h3⟩ := id hl
  unfold q_M_comesUp_135 aSb3
  refine pw_cv hm (r_clear hS (by omega) hX) (fun _ J1 g1 => rM hS (r := 1319) rfl (pw_gI hm ?_))
  rw [rx82 g1 (by decide), c3]
  refine sA hS g1 (6 * s + D.1) rfl (by decide) rfl (by omega) (fun J2 g2 => rM hS (r := 1317) rfl (pw_gI hm ?_))
  rw [rx82 g2 (by decide), c8]
  have m201 : ∀ (J : mIm) (w : Int32), w = D.2.2 1 → RX I0 J (aI (aI (aL (aRst A (6 * s + D.1) 0) 11 (6 * s + D.1) []) 23 (6 * s + D.1) (D.2.2 2)) 21 (6 * s + D.1) (D.2.2 0)) → pw S (q_M_comesUp_201 (some 1282) (nI s) (nI (6 * s + D.1)) w (nI (6 * s + D.1)) (some 1318) (J, S)) (RU I0 (aAns (aI (aI (aI (aL (aRst A (6 * s + D.1) 2) 11 (6 * s + D.1) []) 21 (6 * s + D.1) (D.2.2 0)) 22 (6 * s + D.1) (D.2.2 1)) 23 (6 * s + D.1) (D.2.2 2)) s D 99)) := by
    intro J w hw hJ
    subst hw
    unfold q_M_comesUp_201
    refine sA hS hJ (6 * s + D.1) rfl (by decide) rfl (by omega) (fun J3 g3 => rM hS (r := 1316) rfl (sA hS g3 (6 * s + D.1) rfl (by decide) rfl (by omega) (fun J4 g4 => ?_)))
    rw [aI_in (f := 20) (g := 22) _ _ _ _ _ (by decide), aI_in (f := 20) (g := 21) _ _ _ _ _ (by decide), aI_in (f := 20) (g := 23) _ _ _ _ _ (by decide), aI_L, aRst_m, aI_in (f := 21) (g := 23) _ _ _ _ _ (by decide), aI_in (f := 22) (g := 23) _ _ _ _ _ (by decide)] at g4
    exact pw_cv hm (r_answer hS hl g4 hD 99) (fun _ J5 g5 => pw_ret g5)
  have m177 : ∀ v : Int32, v = D.2.2 0 → pw S (q_M_comesUp_177 (some 1282) (nI s) (nI (6 * s + D.1)) v (nI (6 * s + D.1)) (some 1317) (J2, S)) (RU I0 (aAns (aI (aI (aI (aL (aRst A (6 * s + D.1) 2) 11 (6 * s + D.1) []) 21 (6 * s + D.1) (D.2.2 0)) 22 (6 * s + D.1) (D.2.2 1)) 23 (6 * s + D.1) (D.2.2 2)) s D 99)) := by
    intro v hv
    subst hv
    unfold q_M_comesUp_177
    refine sA hS g2 (6 * s + D.1) rfl (by decide) rfl (by omega) (fun J3 g3 => rM hS (r := 1318) rfl (pw_gI hm ?_))
    rw [rx82 g3 (by decide), c8]
    by_cases e : nv = 2
    · rw [e]
      refine pw_t rfl (rM hS (r := 1314) rfl (r_via hS g3 0 rfl (by decide) (m201 J3 _ ?_ g3)))
      rw [c11, if_pos e]
    · refine pw_f (fun q => e ((nI_eq (b := 2) (by omega) (by decide)).mp q)) (m201 J3 _ ?_ g3)
      rw [c11, if_neg e]
  by_cases e : nv = 0
  · rw [e]
    refine pw_t rfl (m177 _ ?_)
    rw [c10, if_pos e]
  · refine pw_f (nI_ne0 (by omega) (by omega)) (rM hS (r := 1314) rfl (pw_gI hm ?_))
    rw [rx82 g2 (by decide), c8]
    refine r_via hS g2 (nv - 1) (pk_sub (b := 1) (by omega)) (by omega) (m177 _ ?_)
    rw [c10, if_neg e]
theorem r_comesUp (hS : Shp S) (hl : isLk s D.1) (hX : RX I0 I A) (hD : rCx I0 D l x nv) : pw S (q_M_comesUp (some 1282) (nI s) (nI (6 * s + D.1)) (I, S)) (RU I0 (aSab A s D)) := by
  obtain ⟨c1, c2, c3, c4, c5, c6, c7, c8, c9, c10, c11, ⟨c12, c13⟩, c14⟩ := id hD
  have hm := M_k hS
  obtain ⟨h1, h2, h3⟩ := id hl
  unfold q_M_comesUp
  refine pw_gI hm ?_
  rw [rx82 hX (by decide), c3]
  have m27 : ∀ j0 j1 : Int32, j1 = j0 → pw S (q_M_comesUp_27 (some 1282) (nI s) (nI (6 * s + D.1)) j0 j1 (I, S)) (RU I0 (aSb1 A s D)) := by
    intro j0 j1 hj
    unfold q_M_comesUp_27 aSb1
    refine pw_t hj (pw_gI hm (rM hS (r := 1319) rfl (gA hS hX (6 * s + D.1) rfl rfl (by omega) ?_)))
    rw [rx82 hX (by decide), c3]
    by_cases e1 : D.2.2 2 = A.1 23 (6 * s + D.1)
    · rw [if_pos e1, if_pos e1]
      refine rM hS (r := 1316) rfl (gA hS hX (6 * s + D.1) rfl rfl (by omega) ?_)
      unfold q_M_comesUp_63
      by_cases e2 : A.1 20 (6 * s + D.1) = 2
      · rw [if_pos e2, if_pos e2]
        exact pw_cv hm (r_answer hS hl hX hD 99) (fun _ J g => pw_ret g)
      · rw [if_neg e2, if_neg e2]
        exact pw_cv hm (r_answer hS hl hX hD 15) (fun _ J g => pw_ret g)
    · rw [if_neg e1, if_neg e1]
      refine pw_gI hm (pw_lt ?_)
      rw [rx82 hX (by decide), c3]
      refine rM hS (r := 1329) rfl (gA hS hX (6 * s + D.1) rfl rfl (by omega) (pw_lt ?_))
      by_cases e2 : ((D.2.2 2 &&& 127) - A.1 33 (6 * s + D.1)) &&& 127 < 1
      · rw [if_pos e2, if_pos e2]
        exact pw_ret hX
      · rw [if_neg e2, if_neg e2]
        by_cases e3 : 63 < ((D.2.2 2 &&& 127) - A.1 33 (6 * s + D.1)) &&& 127
        · rw [if_pos e3, if_pos e3]
          exact pw_ret hX
        · rw [if_neg e3, if_neg e3]
          refine rM hS (r := 1329) rfl (sA hS hX (6 * s + D.1) rfl (by decide) rfl (by omega) (fun J1 g1 => rM hS (r := 1316) rfl (gA hS g1 (6 * s + D.1) rfl rfl (by omega) ?_)))
          unfold aSb2
          refine pw_ite (P := RU I0) (fun e4 => pw_gI hm ?_) (fun e4 => r_sb3 hS hl g1 hD)
          rw [rx82 g1 (by decide), c2]
          refine pw_ite (P := RU I0) (fun e5 => ?_) (fun e5 => r_sb3 hS hl g1 hD)
          exact pw_cv hm (r_answer hS hl g1 hD 15) (fun _ J g => pw_ret g)
  have n27 : ∀ j0 j1 : Int32, ¬ j1 = j0 → pw S (q_M_comesUp_27 (some 1282) (nI s) (nI (6 * s + D.1)) j0 j1 (I, S)) (RU I0 A) := by
    intro j0 j1 hj
    unfold q_M_comesUp_27
    exact pw_f hj (pw_ret hX)
  have m14 : ∀ j1 : Int32, j1 = (if D.2.2 2 < 128 then 0 else 1) → pw S (q_M_comesUp_14 (some 1282) (nI s) (nI (6 * s + D.1)) j1 (I, S)) (RU I0 (aSab A s D)) := by
    intro j1 hj
    unfold q_M_comesUp_14 aSab
    refine pw_gI hm ?_
    rw [rx82 hX (by decide), c2, ← hj]
    by_cases e : nI s < nI D.1
    · rw [if_pos e, if_pos e]
      by_cases e2 : j1 = 1
      · rw [if_pos e2.symm]; exact m27 1 j1 e2
      · rw [if_neg (Ne.symm e2)]; exact n27 1 j1 e2
    · rw [if_neg e, if_neg e]
      by_cases e2 : j1 = 0
      · rw [if_pos e2.symm]; exact m27 0 j1 e2
      · rw [if_neg (Ne.symm e2)]; exact n27 0 j1 e2
  have h127 : (127 : Int32) < D.2.2 2 ↔ ¬ D.2.2 2 < 128 := by
    rw [Int32.lt_iff_toInt_lt, Int32.lt_iff_toInt_lt]
    have e1 : (127 : Int32).toInt = 127 := by decide
    have e2 : (128 : Int32).toInt = 128 := by decide
    rw [e1, e2]
    omega
  by_cases e : (127 : Int32) < D.2.2 2
  · rw [if_pos e]
    exact m14 1 (by rw [if_neg (h127.mp e)])
  · rw [if_neg e]
    have e' : D.2.2 2 < 128 := Decidable.byContradiction (fun q => e (h127.mpr q))
    exact m14 0 (by rw [if_pos e'])
end RA
