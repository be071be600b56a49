/-! TAKEN, all of it: the reference -/
theorem rp_01 {l : List Int32} {k : Nat} (hb : aBy l) (hk : 7 * k + 6 < l.length) : (rpA l k = 0 ↔ pA l (7 * k + 6) < 128) ∧ (rpA l k = 0 ∨ rpA l k = 1) := by
  obtain ⟨z, hz, ez, pz, lz⟩ := by_par hb hk
  unfold rpA
  by_cases q : 127 < pA l (7 * k + 6)
  · rw [if_pos q]
    exact ⟨⟨fun h => absurd h (by decide), fun h => absurd h (lz.mp q)⟩, Or.inr rfl⟩
  · rw [if_neg q]
    refine ⟨⟨fun _ => ?_, fun _ => rfl⟩, Or.inl rfl⟩
    by_cases w : pA l (7 * k + 6) < 128
    · exact w
    · exact absurd (lz.mpr w) q
theorem nx_at {l : List Int32} {n k : Nat} (hb : aBy l) (hn : n ≤ 4) (h7 : 7 * n ≤ l.length) (hk : k < n - 2) (h1 : ∀ j, j < k → ¬ rpA l (j + 2) = 0) (h0 : rpA l (k + 2) = 0) : nxA l n = some (k + 2) := by
  have e := (rp_01 (k := k + 2) hb (by omega)).1.mp h0
  unfold nxA
  rcases (show k = 0 ∨ k = 1 by omega) with q | q <;> subst q
  · rw [if_pos ⟨by omega, e⟩]
  · have e2 : ¬ pA l 20 < 128 := fun z => h1 0 (by decide) ((rp_01 (k := 2) hb (by omega)).1.mpr z)
    rw [if_neg (fun z => e2 z.2), if_pos ⟨by omega, e⟩]
theorem nx_no {l : List Int32} {n : Nat} (hb : aBy l) (hn : n ≤ 4) (h7 : 7 * n ≤ l.length) (h1 : ∀ j, j < n - 2 → ¬ rpA l (j + 2) = 0) : nxA l n = none := by
  unfold nxA
  rw [if_neg, if_neg]
  · intro z
    exact h1 1 (by omega) ((rp_01 (k := 3) hb (by omega)).1.mpr z.2)
  · intro z
    exact h1 0 (by omega) ((rp_01 (k := 2) hb (by omega)).1.mpr z.2)
theorem RW_RX {I0 I : mIm} {A : aT} {l : List Int32} (h : RW I0 I A l) : RX I I A := ⟨h.1, fun _ _ => rfl, fun _ _ => rfl⟩
theorem take_push {l : List Int32} {k : Nat} (h : k < l.length) : l.take k ++ [pA l k] = l.take (k + 1) := by
  unfold pA
  rw [List.getElem?_eq_getElem h, List.take_succ_eq_append_getElem h]
  rfl
section TR
variable {S : mS} {I J K I0 : mIm} {A : aT} {s n : Nat} {l : List Int32}
theorem rt96 (hS : Shp S) (hs : s < 6) (hA : rAt K l) {v : Nat} (hv : v ≤ 1) (hl : 14 + 7 * v + 7 ≤ l.length) : ∀ (f m k : Nat) (J : mIm), k + f = l.length → f < m → RX K J A → rFr J (l.take k) → pw S (q_M_taken_96 m (some 1282) (nI s) (nI v) (nI k) (J, S)) (RU K (aEnq A s (l.set (7 * (v + 2) + 6) (pA l (7 * (v + 2) + 6) + 128))))
  | f, 0, k, J, _, h, _, _ => by omega
  | 0, m + 1, k, J, hk, hm, hX, hF => by
    have h90 := hA.2.2
    have hM := M_k hS
    have hk' : k = l.length := by omega
    subst hk'
    rw [List.take_length] at hF
    show pw S (q_M_taken_96_b _ _ _ _ _ _) _
    unfold q_M_taken_96_b
    have a11 := aK_in hS (r := 1311) (t := 0) (n := 90) rfl
    refine pw_gE hM (v := nI l.length) (by rw [rx82 hX (by decide)]; exact hA.1) (pw_f (nI_nlt (by omega) (by omega)) (rM hS (r := 1311) rfl (pw_lt ?_)))
    have e5 : ((14 : Int32) + (7 : Int32) * nI v) + 6 = nI (7 * (v + 2) + 6) := by
      rw [show (7 : Int32) * nI v = nI (7 * v) from pk_mul 7 v, show (14 : Int32) + nI (7 * v) = nI (14 + 7 * v) from nI_add 14 _, show nI (14 + 7 * v) + (6 : Int32) = nI (14 + 7 * v + 6) from nI_add _ 6]
      congr 1
      omega
    rw [e5]
    refine pw_aI (7 * (v + 2) + 6) a11.1 rfl (by omega) (by omega) (pw_wI (7 * (v + 2) + 6) a11.1 rfl (by omega) (by omega) ?_)
    have ex : J 1311 (7 * (v + 2) + 6) = pA l (7 * (v + 2) + 6) := by
      have := hF.2 (7 * (v + 2) + 6) l[7 * (v + 2) + 6] (List.getElem?_eq_getElem (by omega))
      rw [Nat.zero_add] at this
      rw [this]
      unfold pA
      rw [List.getElem?_eq_getElem (by omega)]
      rfl
    rw [ex]
    have hX2 : RX K (iput J 1311 (7 * (v + 2) + 6) (pA l (7 * (v + 2) + 6) + 128)) A := RX_fr hX (fun r h1 h2 => iput_n _ _ _ h2) (fun j hj => by rw [iput_n _ _ _ (by decide)])
    have hF2 : rFr (iput J 1311 (7 * (v + 2) + 6) (pA l (7 * (v + 2) + 6) + 128)) (l.set (7 * (v + 2) + 6) (pA l (7 * (v + 2) + 6) + 128)) := by
      refine ⟨?_, fun j x hj => ?_⟩
      · rw [iput_n _ _ _ (by decide), List.length_set]; exact hF.1
      · rw [Nat.zero_add]
        by_cases e : j = 7 * (v + 2) + 6
        · subst e
          rw [List.getElem?_set_self (by omega)] at hj
          rw [iput_s]
          exact Option.some.inj hj
        · rw [List.getElem?_set_ne (Ne.symm e)] at hj
          rw [iput_j _ _ _ e]
          have := hF.2 j x hj
          rw [Nat.zero_add] at this
          exact this
    exact pw_cv hM (p_M_enqueue hS hX2 hF2 hs (by rw [List.length_set]; exact h90)) (fun _ J2 g => pw_ret g)
  | f + 1, m + 1, k, J, hk, hm, hX, hF => by
    have h90 := hA.2.2
    have hM := M_k hS
    show pw S (q_M_taken_96_b _ _ _ _ _ _) _
    unfold q_M_taken_96_b
    refine pw_gE hM (v := nI l.length) (by rw [rx82 hX (by decide)]; exact hA.1) (pw_t (nI_lt (by omega) (by omega)) (rM hS (r := 1313) rfl (rAt_g hS hA hX k rfl (by omega) (pw_cv hM (p_M_put hS hX hF (by rw [List.length_take]; omega) _) (fun _ J2 g => ?_)))))
    rw [show nI k + 1 = nI (k + 1) from nI_1 k]
    refine rt96 hS hs hA hv hl f m (k + 1) J2 (by omega) (by omega) g.1 ?_
    have := g.2
    rw [← take_push (by omega)]
    exact this
theorem rt59 (hS : Shp S) (hs : s < 6) (hA : rAt K l) (hb : aBy l) (hXK : RX K K A) (ok : okF l n) (hH : rHd K l n) (hBd : rBd K l n) (hV : aVi A) (hC : aCs A) (hE : aSe A) (hBo : aBo A) (hN : aSn A) (hMo : aMo A) : ∀ (f m k : Nat), k + f = n - 2 → f < m → (∀ j, j < k → ¬ rpA l (j + 2) = 0) → pw S (q_M_taken_59 m (some 1282) (nI s) (nI k) (K, S)) (RZ K (aTk1 A s l n))
  | f, 0, k, _, h, _ => by omega
  | f, m + 1, k, hk, hm, hR => by
    have h90 := hA.2.2
    have hM := M_k hS
    have g1 := ok.1.1
    have g2 := ok.1.2.1
    have g7 := ok.1.2.2.1
    obtain ⟨⟨h38, h39, h40, h44, hv⟩, h43⟩ := id hH
    have a14 := aK_in hS (r := 1314) (t := 0) (n := 2) rfl
    have a15 := aK_in hS (r := 1315) (t := 1) (n := 2) rfl
    have up : ∀ {o : Option (Unit × mM)} {B : aT}, pw S o (RU K B) → pw S o (RZ K B) := fun h => pw_mono h (fun _ _ g => RX_RY g)
    show pw S (q_M_taken_59_b _ _ _ _ _) _
    unfold q_M_taken_59_b
    refine pw_gE hM h40 ?_
    by_cases hlt : k < n - 2
    · obtain ⟨f, rfl⟩ : ∃ q, f = q + 1 := ⟨f - 1, by omega⟩
      refine pw_t (nI_lt hlt (by omega)) (rM hS (r := 1315) rfl (pw_aI k a15.1 rfl (by omega) (by omega) ?_))
      rw [(hv k hlt).2]
      by_cases e0 : rpA l (k + 2) = 0
      · have hnx := nx_at hb g2 g7 hlt hR e0
        unfold aTk1
        rw [hnx]
        dsimp only
        refine pw_t e0 (rM hS (r := 1314) rfl (pw_aI k a14.1 rfl (by omega) (by omega) ?_))
        rw [(hv k hlt).1]
        unfold aRep
        by_cases es : adN l (7 * (k + 2)) = nI s
        · rw [if_pos es, if_pos es]
          refine up (pw_pI hM ?_)
          refine rt96 hS hs hA (v := k) (by omega) (by omega) l.length mFU 0 _ (by omega) (by unfold mFU; omega) (RX_fr hXK (fun r h1 h2 => iput_n _ _ _ h1) (fun j hj => iput_j _ _ _ hj)) ⟨iput_s _ _ _ _, fun j x hj => ?_⟩
          rw [List.take_zero] at hj
          simp at hj
        · rw [if_neg es, if_neg es]
          exact up (pw_ret hXK)
      · refine pw_f e0 ?_
        rw [show nI k + 1 = nI (k + 1) from nI_1 k]
        refine rt59 hS hs hA hb hXK ok hH hBd hV hC hE hBo hN hMo f m (k + 1) (by omega) (by omega) (fun j hj => ?_)
        by_cases e : j = k
        · subst e; exact e0
        · exact hR j (by omega)
    · refine pw_f (nI_nlt (by omega) (by omega)) (pw_gE hM h38 ?_)
      have hnx := nx_no hb g2 g7 (fun j hj => hR j (by omega))
      unfold aTk1
      rw [hnx]
      dsimp only
      unfold aTk2 q_M_taken_175
      obtain ⟨o, ho, eo⟩ : ∃ o : Nat, o < 6 ∧ adN l 7 = nI o := by
        have hg := ok.1.2.2.2.1 1 (by omega)
        rcases adN_in (a := 7) hb (by omega) with q | q | q
        · exact absurd q hg.1
        · exact absurd q (hg.2 (by decide))
        · exact q
      have efr : frN l = o := by unfold frN; rw [eo, nI_clamp (by omega)]
      by_cases e6 : adN l 0 = 6
      · have hno := ok.2.2.2.2.1 e6
        have n2 : n = 2 := hno.2.1
        subst n2
        have h6s : ¬ (6 : Int32) = nI s := fun q => nI_ne6 hs q.symm
        refine pw_t e6 (pw_gE hM h39 ?_)
        rw [if_pos e6]
        by_cases es : adN l 7 = nI s
        · rw [if_pos es, if_pos es]
          refine up (pw_gE hM h38 (pw_f (by rw [e6]; exact h6s) (pw_ret hXK)))
        · rw [if_neg es, if_neg es]
          refine up (pw_cv hM (r_learns hS hs (n0 := o) (x := 14) ho hA (by rw [h39, eo]) h43 hXK ?_ hno.2.2.2.1 ?_) (fun _ J2 g => ?_))
          · have := pA_len (l := l) (k := 16) (by rw [hno.2.2.1.2.2]; decide)
            omega
          · intro m hm
            exact (hno.2.2.2.2.2 m (by have := hno.2.2.2.2.1; omega) hm).1
          · rw [efr]
            refine pw_gE hM (v := adN l 0) (by rw [rx82 g (by decide)]; exact h38) (pw_f (by rw [e6]; exact h6s) (pw_ret g))
      · refine pw_f e6 (pw_gE hM h38 ?_)
        rw [if_neg e6]
        by_cases et : adN l 0 = nI s
        · rw [if_pos et, if_pos et]
          have hos : o ≠ s := by
            intro q
            have := ok.2.1 1 (by omega) 0 (by omega)
            rw [show 7 * 0 = 0 from rfl, show 7 * 1 = 7 from rfl, et, eo, q] at this
            exact this rfl
          obtain ⟨b41, b42, b45⟩ := hBd e6
          have h7 := ok.2.2.2.1
          obtain ⟨m0, hm0, em⟩ := hb (7 * n) h7
          obtain ⟨t1, t2, t3, t4, t5, t6, t7⟩ := bCt_in hm0
          rw [← em] at t1 t3 t4 t5 t6 t7
          have c01 : ¬ (1 : Int32) = 0 := by decide
          have hCx : rCx K (prD l n) l (7 * n) (n - 2) := by
            refine ⟨hA, ?_, b42, h43, h7, h44, ?_, h40, by omega, ?_, ?_, ⟨?_, ?_⟩, ?_⟩
            · rw [h39, eo]
              show nI o = nI (frN l)
              rw [efr]
            · show pA l (7 * n) &&& 16 = _
              rw [b45]
              by_cases q : pA l (7 * n) &&& 16 = 0
              · rw [if_pos q, if_pos rfl]; exact q
              · rw [if_neg q] at t6
                rw [if_neg q, if_neg c01]
                exact t6
            · show v0A l n = _
              unfold v0A
              by_cases q : 2 < n
              · rw [if_pos q, if_neg (by omega), (hv (n - 2 - 1) (by omega)).1]
                congr 1
                omega
              · rw [if_neg q, if_pos (by omega)]
            · show v1A l n = _
              unfold v1A
              by_cases q : 3 < n
              · rw [if_pos q, if_pos (by omega), (hv 0 (by omega)).1]
              · rw [if_neg q, if_neg (by omega)]
            · show v0A l n ≠ 6
              unfold v0A
              by_cases q : 2 < n
              · rw [if_pos q]
                have := (ok.1.2.2.2.1 (n - 1) (by omega)).2 (by omega)
                rw [show 7 * n - 7 = 7 * (n - 1) by omega]
                exact this
              · rw [if_neg q]; decide
            · show v1A l n ≠ 6
              unfold v1A
              by_cases q : 3 < n
              · rw [if_pos q]
                exact (ok.1.2.2.2.1 2 (by omega)).2 (by decide)
              · rw [if_neg q]; decide
            · obtain ⟨kd0, kd3⟩ := kd_ok ok e6
              have dk : (prD l n).2.2 4 = kdA (pA l (7 * n)) := rfl
              have ho1 : ¬ kdA (pA l (7 * n)) = 0 → K 1282 41 = nI (m0 &&& 239) ∧ (m0 &&& 239) % 2 = 1 := fun q => ⟨by rw [b41]; exact t1, by have : ¬ (m0 &&& 239) % 2 = 0 := fun z => q (kd0.mpr (t3.mp z)); omega⟩
              have hU : ∀ y : Int32, isU y → (K 1282 41 = y ↔ kdA (pA l (7 * n)) = y) := by
                intro y hy
                rw [b41]
                by_cases ev : pA l (7 * n) &&& 1 = 0
                · rw [kd0.mpr ev, t1]
                  constructor
                  · intro q
                    have h2 := t3.mpr ev
                    rcases hy with z | z | z | z <;> subst z
                    · have := (nI_eq (a := m0 &&& 239) (b := 47) (by omega) (by decide)).mp q; omega
                    · have := (nI_eq (a := m0 &&& 239) (b := 67) (by omega) (by decide)).mp q; omega
                    · have := (nI_eq (a := m0 &&& 239) (b := 15) (by omega) (by decide)).mp q; omega
                    · have := (nI_eq (a := m0 &&& 239) (b := 99) (by omega) (by decide)).mp q; omega
                  · intro q
                    rw [← q] at hy
                    rcases hy with z | z | z | z <;> exact absurd z (by decide)
                · unfold kdA
                  rw [if_neg ev, t4]
                  by_cases hq : isU (pA l (7 * n) - (pA l (7 * n) &&& 16))
                  · rw [if_pos hq]
                  · rw [if_neg hq]
                    constructor
                    · intro q
                      rw [q] at hq
                      exact absurd hy hq
                    · intro q
                      rcases (ok.2.2.2.2.2.2 e6 ev).2 with w | w | w
                      · rcases w.1 with w | w
                        · exact absurd (Or.inl w) hq
                        · exact absurd (Or.inr (Or.inl w)) hq
                      · rcases w.1 with w | w
                        · exact absurd (Or.inr (Or.inr (Or.inl w))) hq
                        · exact absurd (Or.inr (Or.inr (Or.inr w))) hq
                      · rw [q] at w
                        rcases w.2 with w | w | w <;> subst w <;> rcases hy with z | z | z | z <;> exact absurd z (by decide)
              refine ⟨fun q => ?_, fun q => ?_, hU 47 (Or.inl rfl), hU 67 (Or.inr (Or.inl rfl)), hU 15 (Or.inr (Or.inr (Or.inl rfl))), hU 99 (Or.inr (Or.inr (Or.inr rfl))), fun q1 q2 q3 q4 q5 => ?_, fun q2 q3 q4 q5 => rfl⟩
              · have ev := kd0.mp q
                have hin := ok.2.2.2.2.2.1 e6 ev
                refine ⟨⟨(m0 &&& 239) / 2, by omega, ?_⟩, ?_, rfl, by omega, by omega, rfl, hin.2.1⟩
                · rw [b41, t1]
                  congr 1
                  have := t3.mpr ev
                  omega
                · rw [b41]
                  exact t7
              · obtain ⟨y1, y2⟩ := ho1 q
                refine ⟨(m0 &&& 239) / 2, by omega, ?_⟩
                rw [y1]
                congr 1
                omega
              · have ev : ¬ pA l (7 * n) &&& 1 = 0 := fun z => q1 (kd0.mpr z)
                rw [b41, t5, dk]
                have hq : ¬ isU (kdA (pA l (7 * n))) := fun z => by rcases z with z | z | z | z; exact q2 z; exact q3 z; exact q4 z; exact q5 z
                unfold kdA at hq ⊢
                rw [if_neg ev] at hq ⊢
                by_cases hw : isU (pA l (7 * n) - (pA l (7 * n) &&& 16))
                · rw [if_pos hw] at hq
                  exact absurd hw hq
                · rw [if_neg hw]
          exact pw_cv hM (r_answers (D := prD l n) hS ⟨hs, by rw [show (prD l n).1 = o from efr]; exact ho, by rw [show (prD l n).1 = o from efr]; exact hos⟩ hXK hCx hV hC hE hBo hN hMo) (fun _ J2 g => pw_ret g)
        · rw [if_neg et, if_neg et]
          exact up (pw_ret hXK)
theorem rt12 (hS : Shp S) (hs : s < 6) (hb : aBy l) (h15 : 15 ≤ l.length) (hl : A.2.1 3 s = l) (hR : RInv I A) (hV : aVi A) (hC : aCs A) (hE : aSe A) (hBo : aBo A) (hN : aSn A) (hMo : aMo A) : ∀ (f m k : Nat) (J : mIm), k + f = l.length → f < m → (∀ r, r ≠ 1313 → J r = iput I 1282 37 (nI l.length) r) → (∀ j, j < k → J 1313 j = pA l j) → pw S (q_M_taken_12 m (some 1282) (nI s) (nI k) (J, S)) (RZ I (aTkn A s))
  | f, 0, k, J, _, h, _, _ => by omega
  | 0, m + 1, k, J, hk, hm, hJ, hj => by
    have hM := M_k hS
    have hq := (hR.2.2.1 s (by omega)).1
    rw [hl] at hq
    have h37 : J 1282 37 = nI l.length := by rw [hJ 1282 (by decide), iput_s]
    have hRJ : RInv J A := RInv_eq hR (fun r a _ _ _ _ _ b _ _ _ => by rw [hJ r b, iput_n _ _ _ (by omega)]) (by rw [hJ 1282 (by decide), iput_j _ _ _ (by decide)]) (by rw [hJ 1282 (by decide), iput_j _ _ _ (by decide)]) (by rw [hJ 1282 (by decide), iput_j _ _ _ (by decide)])
    have hAt : rAt J l := ⟨h37, fun j x hx => by
      have hlt := (List.getElem?_eq_some_iff.mp hx).1
      rw [Nat.zero_add, hj j (by omega)]
      unfold pA
      rw [hx]
      rfl, hq.2.1⟩
    have hW : RW J J A l := ⟨hRJ, fun _ _ => rfl, hAt⟩
    show pw S (q_M_taken_12_b _ _ _ _ _) _
    unfold q_M_taken_12_b
    have h90 := hq.2.1
    refine pw_gE hM h37 (pw_f (nI_nlt (by omega) (by omega)) (pw_cv hM (r_isRight hS hW hb h15) (fun v K h => ?_)))
    obtain ⟨hWK, h⟩ := h
    have hXK := RW_RX hWK
    have kI : ∀ r, (r < 1282 ∨ r = 1312) → K r = I r := fun r hr => by rw [hWK.2.1 r (by omega), hJ r (by omega), iput_n _ _ _ (by omega)]
    have up : ∀ {o : Option (Unit × mM)} {B : aT}, pw S o (RZ K B) → pw S o (RZ I B) := fun h => pw_mono h (fun _ J2 g => ⟨g.1, fun r hr => by rw [g.2 r hr]; exact kI r hr⟩)
    unfold aTkn
    rw [hl]
    rcases h with ⟨rfl, h⟩ | ⟨rfl, n, ok, hH, hBd⟩
    · rw [if_neg (okZ_f h)]
      exact up (pw_t rfl (pw_cv hM (p_M_count hS hXK hs 3 (by decide)) (fun _ J2 g => pw_ret (RX_RY g))))
    · obtain ⟨z1, z2⟩ := okZ_t ok
      rw [if_pos z1, z2]
      exact up (pw_f (by decide) (rt59 hS hs hWK.2.2 hb hXK ok hH hBd hV hC hE hBo hN hMo (n - 2) mFU 0 (by omega) (by unfold mFU; omega) (fun j hj => by omega)))
  | f + 1, m + 1, k, J, hk, hm, hJ, hj => by
    have hM := M_k hS
    have hq := (hR.2.2.1 s (by omega)).1
    rw [hl] at hq
    have h90 := hq.2.1
    have h37 : J 1282 37 = nI l.length := by rw [hJ 1282 (by decide), iput_s]
    have a13 := aK_in hS (r := 1313) (t := 0) (n := 90) rfl
    have a92 := aK_in hS (r := 1292) (t := 0) (n := 630) rfl
    show pw S (q_M_taken_12_b _ _ _ _ _) _
    unfold q_M_taken_12_b
    refine pw_gE hM h37 (pw_t (nI_lt (by omega) (by omega)) (rM hS (r := 1313) rfl (rM hS (r := 1292) rfl (pw_aI (90 * s + k) a92.1 (by rw [show (90 : Int32) * nI s = nI (90 * s) from pk_mul 90 s, nI_add]) (by omega) (by omega) (pw_wI k a13.1 rfl (by omega) (by omega) ?_)))))
    rw [show nI k + 1 = nI (k + 1) from nI_1 k]
    have ex : J 1292 (90 * s + k) = pA l k := by
      rw [hJ 1292 (by decide), iput_n _ _ _ (by decide), hq.2.2 k l[k] (List.getElem?_eq_getElem (by omega))]
      unfold pA
      rw [List.getElem?_eq_getElem (by omega)]
      rfl
    rw [ex]
    refine rt12 hS hs hb h15 hl hR hV hC hE hBo hN hMo f m (k + 1) _ (by omega) (by omega) (fun r hr => by rw [iput_n _ _ _ hr]; exact hJ r hr) (fun j hjk => ?_)
    by_cases e : j = k
    · subst e; rw [iput_s]
    · rw [iput_j _ _ _ e]; exact hj j (by omega)
theorem r_taken (hS : Shp S) (hs : s < 6) (hR : RY I0 I A) (hb : aBy (A.2.1 3 s)) (h15 : 15 ≤ (A.2.1 3 s).length) (hV : aVi A) (hC : aCs A) (hE : aSe A) (hBo : aBo A) (hN : aSn A) (hMo : aMo A) : pw S (q_M_taken (some 1282) (nI s) (I, S)) (RZ I0 (aTkn A s)) := by
  have hM := M_k hS
  have hq := (hR.1.2.2.1 s (by omega)).1
  have h90 := hq.2.1
  have a91 := aK_in hS (r := 1291) (t := 0) (n := 7) rfl
  unfold q_M_taken
  refine rM hS (r := 1291) rfl (pw_aI s a91.1 rfl (by omega) (by omega) ?_)
  rw [hq.1]
  refine pw_pI hM (pw_mono (rt12 hS hs hb h15 rfl hR.1 hV hC hE hBo hN hMo (A.2.1 3 s).length mFU 0 _ (by omega) (by unfold mFU; omega) (fun _ _ => rfl) (fun j hj => by omega)) (fun _ J2 g => ⟨g.1, fun r hr => by rw [g.2 r hr]; exact hR.2 r hr⟩))
end TR
