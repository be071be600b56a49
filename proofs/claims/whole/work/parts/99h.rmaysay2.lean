/-! what may be said: the reference, all of it -/
theorem vs_k {vs va : Int32} {v k : Nat} (hv : v < 8) (ev : vs = nI v) (hk : (vs - va) &&& 7 = nI k) (hk8 : k < 8) : (va + nI k) &&& 7 = vs := by
  rw [pk_and _ (m := 7) 3 (by decide)] at hk ⊢
  have h1 := (nI_eq (by have := Nat.mod_lt (vs - va).toBitVec.toNat (show 0 < 2 ^ 3 by decide); omega) (by omega)).mp hk
  rw [Int32.toBitVec_sub, BitVec.toNat_sub, ev, show (nI v).toBitVec.toNat = v from pk_tn (by omega)] at h1
  rw [Int32.toBitVec_add, BitVec.toNat_add, show (nI k).toBitVec.toNat = k from pk_tn (by omega), ev]
  have ha := va.toBitVec.isLt
  congr 1
  omega
section MS
variable {S : mS} {I J I0 : mIm} {A : aT} {s o : Nat}
theorem aInf_24 {t : Int32} {p : List Int32} {f : Nat} (h : f ≠ 8) : (aInf A s o t p).1 f = A.1 f := aInf_1 h
theorem aCk4_31 : (aCk4 A s o).1 31 = A.1 31 := by
  unfold aCk4
  split
  · exact aI_ff _ _ _ (by decide)
  · rfl
theorem aCn2_31 {c : List Int32} : (aCn2 A s o c).1 31 = A.1 31 := by
  unfold aCn2
  rw [aCk4_31, aI_ff _ _ _ (by decide), aInf_1 (by decide)]
theorem r_277 (hS : Shp S) (hl : isLk s o) (hX : RX I0 I A) (hV : aVi A) {x : Int32} {t : List Int32} {v : Nat} (hn : (A.2.2 3 (6 * s + o)).length < 4) (ht : t.length ≤ 16) (h31 : A.1 31 (6 * s + o) = 0) (hv : v < 8) (ev : A.1 24 (6 * s + o) = nI v) (hs : (A.1 24 (6 * s + o) - A.1 25 (6 * s + o)) &&& 7 = nI (A.2.2 3 (6 * s + o)).length) (w9 : I 1339 (4 * (6 * s + o) + (A.2.2 3 (6 * s + o)).length) = x) (w8 : I 1338 (4 * (6 * s + o) + (A.2.2 3 (6 * s + o)).length) = nI t.length) (w7 : fL I 1337 (64 * (6 * s + o) + 16 * (A.2.2 3 (6 * s + o)).length) t) : pw S (q_M_maySay_277 (some 1282) (nI s) (nI o) (nI (6 * s + o)) (nI (A.2.2 3 (6 * s + o)).length) (I, S)) (RU I0 (aCn2 (aQ A 3 (6 * s + o) (A.2.2 3 (6 * s + o) ++ [x :: t])) s o (x :: t))) := by
  have hM := M_k hS
  obtain ⟨h1, h2, h3⟩ := id hl
  have hl36 : 6 * s + o < 36 := by omega
  have a40 := aK_in hS (r := 1340) (t := 0) (n := 36) rfl
  have i1 := (hX.1.2.2.2.2 _ hl36).2.2.2.1
  unfold q_M_maySay_277 aCn2
  refine rM hS (r := 1340) rfl (pw_aI (6 * s + o) a40.1 rfl (by omega) (by omega) (pw_wI (6 * s + o) a40.1 rfl (by omega) (by omega) ?_))
  rw [i1, show nI (A.2.2 3 (6 * s + o)).length + 1 = nI ((A.2.2 3 (6 * s + o)).length + 1) from nI_1 _]
  have hX1 := RX_lay (J := iput I 1340 (6 * s + o) (nI ((A.2.2 3 (6 * s + o)).length + 1))) hX hl36 hn ht (fun r hr => iput_n _ _ _ hr) (fun k hk => iput_j _ _ _ hk) (iput_s _ _ _ _) w9 w8 w7
  generalize iput I 1340 (6 * s + o) (nI ((A.2.2 3 (6 * s + o)).length + 1)) = I1 at hX1 ⊢
  have hV1 : aVi (aQ A 3 (6 * s + o) (A.2.2 3 (6 * s + o) ++ [x :: t])) := hV
  have e3 : (aQ A 3 (6 * s + o) (A.2.2 3 (6 * s + o) ++ [x :: t])).2.2 3 (6 * s + o) = A.2.2 3 (6 * s + o) ++ [x :: t] := aQ_s _ _ _ _
  have eB : (aQ A 3 (6 * s + o) (A.2.2 3 (6 * s + o) ++ [x :: t])).1 = A.1 := rfl
  have inf := r_sayInf hS hl hX1 hV1 (i := (A.2.2 3 (6 * s + o)).length) (by rw [e3]; simp)
  rw [e3, List.getElem?_append_right (Nat.le_refl _), Nat.sub_self] at inf
  have inf : pw S (q_M_sayAgain (some 1282) (nI s) (nI o) (nI (A.2.2 3 (6 * s + o)).length) (I1, S)) (RU I0 (aInf (aQ A 3 (6 * s + o) (A.2.2 3 (6 * s + o) ++ [x :: t])) s o ((A.1 25 (6 * s + o) + nI (A.2.2 3 (6 * s + o)).length) &&& 7) (x :: t))) := inf
  rw [vs_k hv ev hs (by omega)] at inf
  have hX1' := hX1
  generalize aQ A 3 (6 * s + o) (A.2.2 3 (6 * s + o) ++ [x :: t]) = B at hX1 hV1 eB inf ⊢
  refine pw_cv hM inf (fun _ I2 g2 => ?_)
  have e24 : B.1 24 = A.1 24 := by rw [eB]
  rw [← e24] at g2
  refine rM hS (r := 1320) rfl (rM hS (r := 1320) rfl (gA hS g2 (r := 1320) (6 * s + o) rfl rfl hl36 (sA hS g2 (r := 1320) (6 * s + o) rfl (by decide) rfl hl36 (fun I3 g3 => ?_))))
  rw [aInf_1 (by decide)] at g3
  have h31' : (aI (aInf B s o (B.1 24 (6 * s + o)) (x :: t)) 24 (6 * s + o) ((B.1 24 (6 * s + o) + 1) &&& 7)).1 31 (6 * s + o) = 0 := by rw [aI_f _ _ _ _ (by decide), aInf_1 (by decide), eB]; exact h31
  generalize aI (aInf B s o (B.1 24 (6 * s + o)) (x :: t)) 24 (6 * s + o) ((B.1 24 (6 * s + o) + 1) &&& 7) = C at g3 h31' ⊢
  unfold aCk4
  refine rM hS (r := 1323) rfl (gA hS g3 (r := 1323) (6 * s + o) rfl rfl hl36 ?_)
  by_cases e2 : C.1 27 (6 * s + o) = 0
  · refine pw_t e2 ?_
    rw [if_pos e2]
    refine rM hS (r := 1323) rfl (rM hS (r := 1294) rfl (gA hS g3 (r := 1294) (9 * s + 4) rfl (n_lin 9 s 4) (by omega) (sA hS g3 (r := 1323) (6 * s + o) rfl (by decide) rfl hl36 (fun I4 g4 => ?_))))
    have := r_338 hS hl g4
    rw [if_pos (show (aI C 27 (6 * s + o) (C.1 1 (9 * s + 4))).1 31 (6 * s + o) = 0 by rw [aI_f _ _ _ _ (by decide)]; exact h31')] at this
    exact this
  · refine pw_f e2 ?_
    rw [if_neg e2]
    have := r_338 hS hl g3
    rw [if_pos h31'] at this
    exact this
theorem wrk_ms1 (h : wrk A (6 * s + o)) : wrk (aMs1 A s o) (6 * s + o) := by
  have hc : ∀ (B : aT) (c : List Int32), 0 < (B.2.2 3 (6 * s + o)).length → wrk (aCn2 B s o c) (6 * s + o) := by
    intro B c hb
    refine Or.inr (Or.inr ?_)
    have e : (aCn2 B s o c).2.2 3 = B.2.2 3 := by
      unfold aCn2 aCk4
      split
      · show (aInf B s o (B.1 24 (6 * s + o)) c).2.2 3 = _
        exact aInf_22 (by decide)
      · show (aInf B s o (B.1 24 (6 * s + o)) c).2.2 3 = _
        exact aInf_22 (by decide)
    rw [e]
    exact hb
  unfold aMs1
  split
  · split
    · split
      · unfold aCon
        split
        · split
          · apply hc
            rw [aQ_f _ _ _ _ (by decide), aQ_s]
            simp
          · split
            · exact h
            · apply hc
              show 0 < ((aQ A 3 (6 * s + o) _).2.2 3 (6 * s + o)).length
              rw [aQ_s]
              simp
        · exact h
      · exact h
    · exact h
  · exact h
theorem r_109 (hS : Shp S) (hl : isLk s o) (hX : RX I0 I A) (hA : AInv A) (h31 : A.1 31 (6 * s + o) = 0) (hn : (A.2.2 3 (6 * s + o)).length < 4) {p x : Int32} {n r0 a0 : Nat} {t : List Int32} (hp : (p = 0 ∧ r0 = 1330 ∧ a0 = 200 * (6 * s + o) ∧ x = 240) ∨ (p = 1 ∧ r0 = 1334 ∧ a0 = 96 * (6 * s + o) ∧ x = 207)) (hn16 : n ≤ 16) (htn : t.length = n) (ht : fL I r0 a0 t) {B : aT} (hB1 : B.1 = A.1) (hB3 : B.2.2 3 = A.2.2 3) (drop : ∀ J, RX I0 J A → pw S (if p = 0 then q_M_dropOut (some 1282) (nI (6 * s + o)) (nI n) (J, S) else q_M_dropPacket (some 1282) (nI (6 * s + o)) (J, S)) (fun _ K => RX I0 K B ∧ ∀ r, (r = 1337 ∨ r = 1338 ∨ r = 1339) → K r = J r)) : pw S (q_M_maySay_150 (some 1282) (nI s) (nI o) (nI (6 * s + o)) (nI (A.2.2 3 (6 * s + o)).length) p (nI n) (I, S)) (RU I0 (aCn2 (aQ B 3 (6 * s + o) (A.2.2 3 (6 * s + o) ++ [x :: t])) s o (x :: t))) := by
  have hM := M_k hS
  obtain ⟨h1, h2, h3⟩ := id hl
  have hl36 : 6 * s + o < 36 := by omega
  have a38 := aK_in hS (r := 1338) (t := 0) (n := 144) rfl
  have a39 := aK_in hS (r := 1339) (t := 0) (n := 144) rfl
  have c10 : ¬ (1 : Int32) = 0 := by decide
  obtain ⟨g1, g2, g3, g4, g5, g6, g7, g8, ⟨v, hv, ev⟩, -⟩ := hA.2.2.2.2.2 _ hl36
  generalize hk : (A.2.2 3 (6 * s + o)).length = k at hn g3
  have ix : (4 : Int32) * nI (6 * s + o) + nI k = nI (4 * (6 * s + o) + k) := n_lin 4 (6 * s + o) k
  have m176 : pw S (q_M_maySay_176 (some 1282) (nI s) (nI o) (nI (6 * s + o)) (nI k) p (nI n) x (nI (4 * (6 * s + o) + k)) (some 1339) (I, S)) (RU I0 (aCn2 (aQ B 3 (6 * s + o) (A.2.2 3 (6 * s + o) ++ [x :: t])) s o (x :: t))) := by
    unfold q_M_maySay_176
    refine pw_wI (4 * (6 * s + o) + k) a39.1 rfl (by omega) (by omega) (rM hS (r := 1338) rfl (pw_wI (4 * (6 * s + o) + k) a38.1 ix (by omega) (by omega) ?_))
    have hp2 : (p = 0 ∧ r0 = 1330 ∧ a0 = 200 * (6 * s + o)) ∨ (p = 1 ∧ r0 = 1334 ∧ a0 = 96 * (6 * s + o)) := by
      rcases hp with q | q
      · exact Or.inl ⟨q.1, q.2.1, q.2.2.1⟩
      · exact Or.inr ⟨q.1, q.2.1, q.2.2.1⟩
    have hr0 : r0 ≠ 1339 ∧ r0 ≠ 1338 ∧ r0 ≠ 1337 := by omega
    have ht1 : fL (iput (iput I 1339 (4 * (6 * s + o) + k) x) 1338 (4 * (6 * s + o) + k) (nI n)) r0 a0 t := fun j y hj => by
      rw [iput_n _ _ _ hr0.2.1, iput_n _ _ _ hr0.1]
      exact ht j y hj
    have e9 : (iput (iput I 1339 (4 * (6 * s + o) + k) x) 1338 (4 * (6 * s + o) + k) (nI n)) 1339 = iput I 1339 (4 * (6 * s + o) + k) x 1339 := iput_n _ _ _ (by decide)
    have e8 : (iput (iput I 1339 (4 * (6 * s + o) + k) x) 1338 (4 * (6 * s + o) + k) (nI n)) 1338 = iput I 1338 (4 * (6 * s + o) + k) (nI n) 1338 := iput_row (iput_n _ _ _ (by decide))
    have e0 : ∀ r, r ≠ 1338 → r ≠ 1339 → (iput (iput I 1339 (4 * (6 * s + o) + k) x) 1338 (4 * (6 * s + o) + k) (nI n)) r = I r := fun r a b => by rw [iput_n _ _ _ a, iput_n _ _ _ b]
    generalize iput (iput I 1339 (4 * (6 * s + o) + k) x) 1338 (4 * (6 * s + o) + k) (nI n) = Ib at ht1 e9 e8 e0 ⊢
    have hXb : RX I0 (xcp Ib r0 a0 1337 (64 * (6 * s + o) + 16 * k) n) A := by
      refine RX_bey hX hl36 (by omega) (fun r a b c => by rw [xcp_n a]; exact e0 r b c) (fun j hj => ?_) (fun j hj => ?_)
      · rw [hk] at hj
        rw [xcp_n (by decide), xcp_n (by decide), e8, e9, iput_j _ _ _ hj, iput_j _ _ _ hj]
        exact ⟨rfl, rfl⟩
      · rw [hk] at hj
        rw [xcp_out (by omega), e0 1337 (by decide) (by decide)]
    have wl : fL (xcp Ib r0 a0 1337 (64 * (6 * s + o) + 16 * k) n) 1337 (64 * (6 * s + o) + 16 * k) t := by
      have := xcp_fL (r1 := 1337) (a1 := 64 * (6 * s + o) + 16 * k) (n := n) ht1
      rw [List.take_of_length_le (by omega)] at this
      exact this
    have wk9 : (xcp Ib r0 a0 1337 (64 * (6 * s + o) + 16 * k) n) 1339 (4 * (6 * s + o) + k) = x := by rw [xcp_n (by decide), e9, iput_s]
    have wk8 : (xcp Ib r0 a0 1337 (64 * (6 * s + o) + 16 * k) n) 1338 (4 * (6 * s + o) + k) = nI n := by rw [xcp_n (by decide), e8, iput_s]
    have := ms193 hS hl36 Ib hn hn16 hp2 (nI s) (nI o) (Q := RU I0 (aCn2 (aQ B 3 (6 * s + o) (A.2.2 3 (6 * s + o) ++ [x :: t])) s o (x :: t))) ?_ n mFU 0 (by omega) (by unfold mFU; omega)
    · rw [xcp_0] at this
      exact this
    · have hd := drop _ hXb
      have fin : ∀ K, (RX I0 K B ∧ ∀ r, (r = 1337 ∨ r = 1338 ∨ r = 1339) → K r = (xcp Ib r0 a0 1337 (64 * (6 * s + o) + 16 * k) n) r) → pw S (q_M_maySay_277 (some 1282) (nI s) (nI o) (nI (6 * s + o)) (nI k) (K, S)) (RU I0 (aCn2 (aQ B 3 (6 * s + o) (A.2.2 3 (6 * s + o) ++ [x :: t])) s o (x :: t))) := by
        intro K q
        have hBk : (B.2.2 3 (6 * s + o)).length = k := by rw [hB3]; exact hk
        have := r_277 (A := B) (x := x) (t := t) (v := v) hS hl q.1 (fun l hl => by rw [hB1]; exact AI_Vi hA l hl) (by omega) (by omega) (by rw [hB1]; exact h31) hv (by rw [hB1]; exact ev) (by rw [hB1, hBk]; exact g3) (by rw [q.2 1339 (by omega), hBk]; exact wk9) (by rw [q.2 1338 (by omega), hBk, htn]; exact wk8) (fun j y hj => by rw [q.2 1337 (by omega), hBk]; exact wl j y hj)
        rw [hBk, hB3] at this
        exact this
      rcases hp with ⟨rfl, -⟩ | ⟨rfl, -⟩
      · rw [if_pos rfl] at hd ⊢
        exact pw_cv hM hd (fun _ K q => fin K q)
      · rw [if_neg c10] at hd ⊢
        exact pw_cv hM hd (fun _ K q => fin K q)
  unfold q_M_maySay_150
  rw [ix]
  refine rM hS (r := 1339) rfl ?_
  rcases hp with ⟨rfl, -, -, rfl⟩ | ⟨rfl, -, -, rfl⟩
  · exact pw_t rfl m176
  · exact pw_f c10 m176
theorem r_maySay (hS : Shp S) (hl : isLk s o) (hX : RX I0 I A) (hA : AInv A) : pw S (q_M_maySay (some 1282) (nI s) (nI o) (I, S)) (RU I0 (aMsy A s o)) := by
  have hM := M_k hS
  obtain ⟨h1, h2, h3⟩ := id hl
  have hl36 : 6 * s + o < 36 := by omega
  have c10 : ¬ (1 : Int32) = 0 := by decide
  have a35 := aK_in hS (r := 1335) (t := 0) (n := 216) rfl
  obtain ⟨⟨o1, o2, o3⟩, -, ⟨p1, p2, p3⟩, ⟨s1, s2, s3⟩⟩ := hX.1.2.2.2.2 _ hl36
  have q12 := (hX.1.2.2.2.1 s h1).1.2.1
  have ix : (6 : Int32) * nI s + nI o = nI (6 * s + o) := n_lin 6 s o
  unfold q_M_maySay aMsy
  rw [ix]
  refine pw_lt (rM hS (r := 1316) rfl (gA hS hX (r := 1316) (6 * s + o) rfl rfl hl36 ?_))
  by_cases em : A.1 20 (6 * s + o) = 2
  · refine pw_t em ?_
    rw [if_pos em]
    -- nothing is said now
    have no : aMs1 A s o = A → pw S (q_M_maySay_338 (some 1282) (nI s) (nI (6 * s + o)) (I, S)) (RU I0 (@ite _ (wrk A (6 * s + o)) (dcW A _) (aMs2 (aMs1 A s o) s o) A)) := by
      intro e
      rw [e]
      have := r_338 hS hl hX
      unfold aMs2
      by_cases hw : wrk A (6 * s + o)
      · rw [@if_pos _ (dcW A _) hw] at this ⊢
        exact this
      · rw [@if_neg _ (dcW A _) hw] at this ⊢
        have e2 : (if A.1 31 (6 * s + o) = 0 then A else A) = A := by split <;> rfl
        rw [e2] at this
        exact this
    have m41 : ∀ x : Int32, (x = 1 ∧ (0 < (A.2.2 2 (6 * s + o)).length ∨ 0 < (A.2.1 10 (6 * s + o)).length)) ∨ (x = 0 ∧ (A.2.2 2 (6 * s + o)).length = 0 ∧ (A.2.1 10 (6 * s + o)).length = 0) → pw S (q_M_maySay_41 (some 1282) (nI s) (nI o) (nI (6 * s + o)) x (I, S)) (RU I0 (@ite _ (wrk A (6 * s + o)) (dcW A _) (aMs2 (aMs1 A s o) s o) A)) := by
      intro x hx
      unfold q_M_maySay_41
      refine rM hS (r := 1325) rfl (gA hS hX (r := 1325) (6 * s + o) rfl rfl hl36 ?_)
      by_cases e1 : A.1 29 (6 * s + o) = 0
      · refine pw_t e1 (rM hS (r := 1327) rfl (gA hS hX (r := 1327) (6 * s + o) rfl rfl hl36 ?_))
        by_cases e2 : A.1 31 (6 * s + o) = 0
        · refine pw_t e2 (rM hS (r := 1340) rfl (g3 hS hX hl36 ?_))
          by_cases e3 : (A.2.2 3 (6 * s + o)).length < 4
          · refine pw_t (nI_lt (b := 4) e3 (by decide)) (rM hS (r := 1296) rfl (g0 hS hX h1 ?_))
            by_cases e4 : (A.2.2 0 s).length < 8
            · refine pw_t (nI_lt (b := 8) e4 (by decide)) ?_
              have ea : aMs1 A s o = aCon A s o := by
                unfold aMs1
                rw [if_pos e1, if_pos e2, if_pos e4]
              rcases hx with ⟨rfl, hx⟩ | ⟨rfl, hx1, hx2⟩
              · have hw : wrk A (6 * s + o) := by
                  rcases hx with q | q
                  · exact Or.inr (Or.inl q)
                  · exact Or.inl q
                rw [@if_pos _ (dcW A _) hw]
                refine pw_f c10 (rM hS (r := 1340) rfl (g3 hS hX hl36 (rM hS (r := 1336) rfl (g2 hS hX hl36 ?_))))
                unfold q_M_maySay_109
                cases hpk : A.2.2 2 (6 * s + o) with
                | nil =>
                  have hpos : 0 < (A.2.1 10 (6 * s + o)).length := by
                    rcases hx with q | q
                    · rw [hpk] at q; simp at q
                    · exact q
                  have hne : ¬ A.2.1 10 (6 * s + o) = [] := fun q => by rw [q] at hpos; simp at hpos
                  have ec : aMs2 (aMs1 A s o) s o = aCn2 (aL (aQ A 3 (6 * s + o) (A.2.2 3 (6 * s + o) ++ [240 :: (A.2.1 10 (6 * s + o)).take 16])) 10 (6 * s + o) ((A.2.1 10 (6 * s + o)).drop 16)) s o (240 :: (A.2.1 10 (6 * s + o)).take 16) := by
                    rw [ea]
                    unfold aCon
                    rw [if_pos e3, hpk]
                    dsimp only
                    rw [if_neg hne]
                    unfold aMs2
                    rw [if_pos]
                    rw [aCn2_31]
                    exact e2
                  rw [ec]
                  refine pw_f (by decide) (pw_t rfl ?_)
                  have go : ∀ n, n = min 16 (A.2.1 10 (6 * s + o)).length → pw S (q_M_maySay_150 (some 1282) (nI s) (nI o) (nI (6 * s + o)) (nI (A.2.2 3 (6 * s + o)).length) 0 (nI n) (I, S)) (RU I0 (aCn2 (aL (aQ A 3 (6 * s + o) (A.2.2 3 (6 * s + o) ++ [240 :: (A.2.1 10 (6 * s + o)).take 16])) 10 (6 * s + o) ((A.2.1 10 (6 * s + o)).drop 16)) s o (240 :: (A.2.1 10 (6 * s + o)).take 16))) := by
                    intro n hn
                    have ed : (A.2.1 10 (6 * s + o)).drop n = (A.2.1 10 (6 * s + o)).drop 16 := by
                      rw [hn]
                      by_cases q : 16 ≤ (A.2.1 10 (6 * s + o)).length
                      · rw [Nat.min_eq_left q]
                      · rw [Nat.min_eq_right (by omega), List.drop_length, List.drop_eq_nil_of_le (by omega)]
                    refine r_109 (B := aL A 10 (6 * s + o) ((A.2.1 10 (6 * s + o)).drop 16)) hS hl hX hA e2 e3 (Or.inl ⟨rfl, rfl, rfl, rfl⟩) (by omega) (by rw [List.length_take]; exact hn.symm) (fun j y hj => ?_) rfl rfl (fun J g => ?_)
                    · have hlt := (List.getElem?_eq_some_iff.mp hj).1
                      rw [List.length_take] at hlt
                      rw [List.getElem?_take_of_lt (by omega)] at hj
                      exact o3 j y hj
                    · rw [if_pos rfl]
                      refine pw_mono (r_dropOut hS hl36 g (n := n) (by omega)) (fun _ K q => ⟨?_, fun r hr => q.2 r (by omega) (by omega)⟩)
                      have := q.1
                      rw [ed] at this
                      exact this
                  refine rM hS (r := 1331) rfl (g10 hS hX hl36 ?_)
                  by_cases q16 : (A.2.1 10 (6 * s + o)).length < 16
                  · exact pw_t (nI_lt (b := 16) q16 (by decide)) (rM hS (r := 1331) rfl (g10 hS hX hl36 (go _ (by omega))))
                  · exact pw_f (nI_nlt (b := 16) (by omega) (by omega)) (go 16 (by omega))
                | cons p r =>
                  have ec : aMs2 (aMs1 A s o) s o = aCn2 (aQ (aQ A 3 (6 * s + o) (A.2.2 3 (6 * s + o) ++ [207 :: p])) 2 (6 * s + o) r) s o (207 :: p) := by
                    rw [ea]
                    unfold aCon
                    rw [if_pos e3, hpk]
                    dsimp only
                    unfold aMs2
                    rw [if_pos]
                    rw [aCn2_31]
                    exact e2
                  rw [ec, aQ_comm _ _ _ (by decide)]
                  rw [hpk] at p2 p3
                  obtain ⟨y1, y2, y3⟩ := p3 0 p rfl
                  rw [Nat.add_zero] at y2
                  rw [Nat.mul_zero, Nat.add_zero] at y3
                  refine pw_t (n_gt0 (by rw [List.length_cons]; omega) (by omega)) (pw_f c10 (rM hS (r := 1335) rfl (pw_aI (6 * (6 * s + o)) a35.1 (pk_mul 6 _) (by omega) (by omega) ?_)))
                  rw [y2]
                  refine r_109 (B := aQ A 2 (6 * s + o) r) hS hl hX hA e2 e3 (Or.inr ⟨rfl, rfl, rfl, rfl⟩) y1 rfl y3 rfl (by funext i; exact aQ_f _ _ _ _ (by decide)) (fun J g => ?_)
                  rw [if_neg c10]
                  exact pw_mono (r_dropPacket hS hl36 g hpk) (fun _ K q => ⟨q.1, fun r hr => q.2 r (by omega) (by omega) (by omega)⟩)
              · refine pw_t rfl (no ?_)
                rw [ea]
                unfold aCon
                rw [if_pos e3, List.length_eq_zero_iff.mp hx1]
                dsimp only
                rw [if_pos (List.length_eq_zero_iff.mp hx2)]
            · refine pw_f (nI_nlt (b := 8) (by omega) (by omega)) (no ?_)
              unfold aMs1
              rw [if_pos e1, if_pos e2, if_neg e4]
          · refine pw_f (nI_nlt (b := 4) (by omega) (by omega)) (no ?_)
            unfold aMs1 aCon
            rw [if_pos e1, if_pos e2, if_neg e3]
            split <;> rfl
        · refine pw_f e2 (no ?_)
          unfold aMs1
          rw [if_pos e1, if_neg e2]
      · refine pw_f e1 (no ?_)
        unfold aMs1
        rw [if_neg e1]
    unfold q_M_maySay_36
    refine rM hS (r := 1336) rfl (g2 hS hX hl36 ?_)
    by_cases e1 : 0 < (A.2.2 2 (6 * s + o)).length
    · exact pw_t (n_gt0 e1 (by omega)) (m41 1 (Or.inl ⟨rfl, Or.inl e1⟩))
    · refine pw_f (by rw [show (A.2.2 2 (6 * s + o)).length = 0 by omega]; decide) (rM hS (r := 1331) rfl (g10 hS hX hl36 ?_))
      by_cases e2 : 0 < (A.2.1 10 (6 * s + o)).length
      · exact pw_t (n_gt0 e2 (by omega)) (m41 1 (Or.inl ⟨rfl, Or.inr e2⟩))
      · exact pw_f (by rw [show (A.2.1 10 (6 * s + o)).length = 0 by omega]; decide) (m41 0 (Or.inr ⟨rfl, by omega, by omega⟩))
  · refine pw_f em ?_
    rw [if_neg em]
    exact pw_ret hX
end MS
