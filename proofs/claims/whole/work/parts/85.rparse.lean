/-! what a FRAME says, all of it: the reference's ADDRESSES -/
def rpA (l : List Int32) (k : Nat) : Int32 := if 127 < pA l (7 * k + 6) then 1 else 0
def rH0 (I : mIm) (l : List Int32) (k : Nat) : Prop := I 1282 38 = adN l 0 ∧ I 1282 39 = adN l 7 ∧ I 1282 40 = nI k ∧ I 1282 44 = cmA l ∧ ∀ j, j < k → I 1314 j = adN l (7 * (j + 2)) ∧ I 1315 j = rpA l (j + 2)
def rHd (I : mIm) (l : List Int32) (n : Nat) : Prop := rH0 I l (n - 2) ∧ I 1282 43 = nI (7 * n)
def gdQ (l : List Int32) (k : Nat) : Prop := 7 * k ≤ l.length ∧ (∀ j, j < k → adN l (7 * j) ≠ -1 ∧ (j ≠ 0 → adN l (7 * j) ≠ 6)) ∧ (∀ j, j < k - 1 → pA l (7 * j + 6) &&& 1 = 0)
def haQ (I0 : mIm) (A : aT) (l : List Int32) : Int32 → mIm → Prop := fun v J => RW I0 J A l ∧ ((v = 0 ∧ ∀ n, ¬ (gdA l n ∧ diA l)) ∨ (v = 1 ∧ ∃ n, gdA l n ∧ diA l ∧ rHd J l n))
theorem rH0_p {I : mIm} {l : List Int32} {k j : Nat} {v : Int32} (h : rH0 I l k) (hj : j ≠ 38 ∧ j ≠ 39 ∧ j ≠ 40 ∧ j ≠ 44) : rH0 (iput I 1282 j v) l k := by
  obtain ⟨h1, h2, h3, h4, h5⟩ := h
  refine ⟨?_, ?_, ?_, ?_, fun i hi => ?_⟩
  · rw [iput_j _ _ _ (by omega)]; exact h1
  · rw [iput_j _ _ _ (by omega)]; exact h2
  · rw [iput_j _ _ _ (by omega)]; exact h3
  · rw [iput_j _ _ _ (by omega)]; exact h4
  · rw [iput_n _ _ _ (by decide), iput_n _ _ _ (by decide)]; exact h5 i hi
theorem gq_no {l : List Int32} {k : Nat} (h : gdQ l k) (h0 : pA l (7 * (k - 1) + 6) &&& 1 = 0) (hx : ∀ n, k < n → gdA l n → False) (n : Nat) : ¬ gdA l n := by
  intro g
  have g1 := g.1
  by_cases hn : n < k
  · exact g.2.2.2.2.2 (h.2.2 (n - 1) (by omega))
  · by_cases hn2 : n = k
    · subst hn2
      exact g.2.2.2.2.2 h0
    · exact hx n (by omega) g
theorem sta_ad {l : List Int32} {a : Nat} (hb : aBy l) (ha : a + 7 ≤ l.length) : (sta (adN l a)).isSome = true ↔ (adN l a ≠ -1 ∧ adN l a ≠ 6) := by
  rcases adN_in hb ha with q | q | ⟨k, hk, q⟩
  · rw [q]
    exact ⟨fun h => absurd h (by decide), fun h => absurd rfl h.1⟩
  · rw [q]
    exact ⟨fun h => absurd h (by decide), fun h => absurd rfl h.2⟩
  · rw [q, sta_nI hk]
    refine ⟨fun _ => ⟨fun e => ?_, nI_ne6 hk⟩, fun _ => rfl⟩
    have : nI k < 0 := by rw [e]; decide
    exact nI_pos (by omega) this
theorem by_par {l : List Int32} {k : Nat} (hb : aBy l) (hk : k < l.length) : ∃ m : Nat, m < 256 ∧ pA l k = nI m ∧ (pA l k &&& 1 = 0 ↔ m % 2 = 0) ∧ (127 < pA l k ↔ ¬ pA l k < 128) := by
  obtain ⟨m, hm, em⟩ := hb k hk
  refine ⟨m, hm, em, ?_, ?_⟩
  · rw [em, pk_andN (by omega) (m := 1) 1 (by decide)]
    constructor
    · intro q
      have := (nI_eq (a := m % 2 ^ 1) (b := 0) (by omega) (by decide)).mp q
      omega
    · intro q
      rw [show m % 2 ^ 1 = 0 by omega]
      rfl
  · rw [em]
    constructor
    · intro q
      have := (nI_ltI (a := 127) (b := m) (by decide) (by omega)).mp q
      exact nI_nlt (b := 128) (by omega) (by omega)
    · intro q
      refine nI_lt (a := 127) ?_ (by omega)
      rcases Nat.lt_or_ge 127 m with z | z
      · exact z
      · exact absurd (nI_lt (a := m) (b := 128) (by omega) (by decide)) q
section RA
variable {S : mS} {I J I0 : mIm} {A : aT} {s n : Nat} {l : List Int32}
theorem rh97 (hS : Shp S) (hb : aBy l) (hdi : diA l) : ∀ (f m k : Nat) (I : mIm), k + f = 2 → f < m → RW I0 I A l → rH0 I l k → I 1282 48 = pA l (7 * (k + 1) + 6) → gdQ l (k + 2) → pw S (q_M_hasAddresses_97 m (some 1282) (nI (14 + 7 * k)) (I, S)) (haQ I0 A l)
  | f, 0, k, I, _, h, _, _, _, _ => by omega
  | f, m + 1, k, I, hk, hm, hW, hH, h48, hP => by
    have hM := M_k hS
    have h90 := hW.2.2.2.2
    have hP1 := hP.1
    show pw S (q_M_hasAddresses_97_b _ _ _ _) _
    unfold q_M_hasAddresses_97_b
    obtain ⟨z, hz, ez, pz, -⟩ := by_par hb (k := 7 * (k + 1) + 6) (by omega)
    refine pw_gE hM h48 (pw_rm (n := z) (d := 2) ez rfl (by omega) (by decide) (by decide) ?_)
    by_cases e0 : z % 2 = 0
    · rw [e0]
      have e0' := pz.mpr e0
      refine pw_t rfl (pw_gE hM hH.2.2.1 ?_)
      have bad : ∀ J, RW I0 J A l → (∀ n, k + 2 < n → gdA l n → False) → pw S (x_rz (0 : Int32) (J, S)) (haQ I0 A l) := fun J q1 q2 => pw_rz (Or.inl rfl) ⟨q1, Or.inl ⟨rfl, fun n w => gq_no hP e0' q2 n w.1⟩⟩
      by_cases k2 : k = 2
      · subst k2
        exact pw_t rfl (bad I hW (fun n h g => by have := g.2.1; omega))
      · obtain ⟨f, rfl⟩ : ∃ q, f = q + 1 := ⟨f - 1, by omega⟩
        refine pw_f (fun q => k2 ((nI_eq (b := 2) (by omega) (by decide)).mp q)) (pw_gE hM hW.2.2.1 ?_)
        rw [show nI (14 + 7 * k) + (7 : Int32) = nI (14 + 7 * (k + 1)) from nI_add _ 7]
        by_cases hl : 14 + 7 * (k + 1) ≤ l.length
        · refine pw_f (nI_nlt (by omega) (by omega)) (rM hS (r := 1314) rfl (pw_gE hM hH.2.2.1 (pw_cv hM (r_addressAt hS hW hb (a := 14 + 7 * k) (by omega)) (fun v J h => ?_))))
          obtain ⟨rfl, rfl⟩ := h
          have hW2 : RW I0 (iput I 1282 48 (pA l (14 + 7 * k + 6))) A l := RW_put hW (by decide)
          have hH2 : rH0 (iput I 1282 48 (pA l (14 + 7 * k + 6))) l k := rH0_p hH (by decide)
          have h48' : (iput I 1282 48 (pA l (14 + 7 * k + 6))) 1282 48 = pA l (7 * (k + 2) + 6) := by rw [iput_s]; congr 1; omega
          generalize iput I 1282 48 (pA l (14 + 7 * k + 6)) = I2 at hW2 hH2 h48' ⊢
          have a14 := aK_in hS (r := 1314) (t := 0) (n := 2) rfl
          have a15 := aK_in hS (r := 1315) (t := 1) (n := 2) rfl
          refine pw_wI k a14.1 rfl (by omega) (by omega) ?_
          have hW3 : RW I0 (iput I2 1314 k (adN l (14 + 7 * k))) A l := RW_row hW2 (Or.inl rfl)
          refine rM hS (r := 1314) rfl (pw_gE hM (v := nI k) (by rw [iput_n _ _ _ (by decide)]; exact hH2.2.2.1) (pw_aI k a14.1 rfl (by omega) (by omega) ?_))
          rw [iput_s]
          have ead : adN l (14 + 7 * k) = adN l (7 * (k + 2)) := by congr 1; omega
          refine pw_cl (p_M_isStation _) (fun v J h => ?_)
          obtain ⟨rfl, rfl⟩ := h
          by_cases est : (sta (adN l (14 + 7 * k))).isSome = true
          · rw [est]
            have hg := (sta_ad hb (by omega)).mp est
            rw [ead] at hg
            refine pw_f (by decide) (rM hS (r := 1315) rfl (pw_gE hM (v := nI k) (by rw [iput_n _ _ _ (by decide)]; exact hH2.2.2.1) (pw_gE hM (v := pA l (7 * (k + 2) + 6)) (by rw [iput_n _ _ _ (by decide)]; exact h48') ?_)))
            have go : ∀ rv, rv = rpA l (k + 2) → (rv = 0 ∨ rv = 1) → pw S (q_M_hasAddresses_180 (q_M_hasAddresses_97 m) (some 1282) (nI (14 + 7 * k)) rv (nI k) (some 1315) (iput I2 1314 k (adN l (14 + 7 * k)), S)) (haQ I0 A l) := by
              intro rv hrv h01
              unfold q_M_hasAddresses_180
              refine pw_wZ k a15.1 rfl (by omega) (by omega) h01 (pw_gE hM (v := nI k) (by rw [iput_n _ _ _ (by decide), iput_n _ _ _ (by decide)]; exact hH2.2.2.1) (pw_pI hM ?_))
              rw [show nI k + (1 : Int32) = nI (k + 1) from nI_1 k, show nI (14 + 7 * k) + (7 : Int32) = nI (14 + 7 * (k + 1)) from nI_add _ 7]
              refine rh97 hS hb hdi f m (k + 1) _ (by omega) (by omega) (RW_put (RW_row hW3 (Or.inr rfl)) (by decide)) ⟨?_, ?_, ?_, ?_, fun j hj => ?_⟩ ?_ ⟨by omega, fun j hj => ?_, fun j hj => ?_⟩
              · rw [iput_j _ _ _ (by decide), iput_n _ _ _ (by decide), iput_n _ _ _ (by decide)]; exact hH2.1
              · rw [iput_j _ _ _ (by decide), iput_n _ _ _ (by decide), iput_n _ _ _ (by decide)]; exact hH2.2.1
              · rw [iput_s]
              · rw [iput_j _ _ _ (by decide), iput_n _ _ _ (by decide), iput_n _ _ _ (by decide)]; exact hH2.2.2.2.1
              · refine ⟨?_, ?_⟩
                · rw [iput_n _ _ _ (by decide), iput_n _ _ _ (by decide)]
                  by_cases e : j = k
                  · subst e
                    rw [iput_s, ead]
                  · rw [iput_j _ _ _ e]
                    exact (hH2.2.2.2.2 j (by omega)).1
                · rw [iput_n _ _ _ (by decide)]
                  by_cases e : j = k
                  · subst e
                    rw [iput_s, hrv]
                  · rw [iput_j _ _ _ e, iput_n _ _ _ (by decide)]
                    exact (hH2.2.2.2.2 j (by omega)).2
              · rw [iput_j _ _ _ (by decide), iput_n _ _ _ (by decide), iput_n _ _ _ (by decide)]
                exact h48'
              · by_cases e : j = k + 2
                · subst e; exact ⟨hg.1, fun _ => hg.2⟩
                · exact hP.2.1 j (by omega)
              · by_cases e : j = k + 1
                · subst e; exact e0'
                · exact hP.2.2 j (by omega)
            by_cases e127 : 127 < pA l (7 * (k + 2) + 6)
            · exact pw_t e127 (go 1 (by unfold rpA; rw [if_pos e127]) (Or.inr rfl))
            · exact pw_f e127 (go 0 (by unfold rpA; rw [if_neg e127]) (Or.inl rfl))
          · have est' : (sta (adN l (14 + 7 * k))).isSome = false := by
              cases h : (sta (adN l (14 + 7 * k))).isSome with
              | false => rfl
              | true => exact absurd h est
            rw [est']
            refine pw_t rfl (bad _ hW3 (fun n h g => ?_))
            have hgg := g.2.2.2.1 (k + 2) h
            rw [← ead] at hgg
            exact est ((sta_ad hb (by omega)).mpr ⟨hgg.1, hgg.2 (by omega)⟩)
        · refine pw_t (nI_lt (by omega) (by omega)) (bad I hW (fun n h g => by have := g.2.2.1; omega))
    · rw [show z % 2 = 1 by omega]
      refine pw_f (by decide) (pw_pI hM (pw_rz (Or.inr rfl) ⟨RW_put hW (by decide), Or.inr ⟨rfl, k + 2, ⟨by omega, by omega, hP1, hP.2.1, fun j hj => hP.2.2 j (by omega), fun q => e0 (pz.mp q)⟩, hdi, rH0_p hH (by decide), ?_⟩⟩))
      rw [iput_s]
      congr 1
      omega
theorem r_hasAddresses (hS : Shp S) (hW : RW I0 I A l) (hb : aBy l) (h15 : 15 ≤ l.length) : pw S (q_M_hasAddresses (some 1282) (I, S)) (haQ I0 A l) := by
  have hM := M_k hS
  have h90 := hW.2.2.2.2
  have hcm : cmA l = 0 ∨ cmA l = 1 := by unfold cmA; split; exact Or.inl rfl; exact Or.inr rfl
  obtain ⟨z0, hz0, ez0, pz0, lz0⟩ := by_par hb (k := 6) (by omega)
  obtain ⟨z1, hz1, ez1, pz1, lz1⟩ := by_par hb (k := 13) (by omega)
  unfold q_M_hasAddresses
  refine pw_cv hM (r_addressAt hS hW hb (a := 0) (by omega)) (fun v J h => ?_)
  obtain ⟨rfl, rfl⟩ := h
  refine pw_pI hM ?_
  have hW1 : RW I0 (iput (iput I 1282 48 (pA l (0 + 6))) 1282 38 (adN l 0)) A l := RW_put (RW_put hW (by decide)) (by decide)
  have t38 : (iput (iput I 1282 48 (pA l (0 + 6))) 1282 38 (adN l 0)) 1282 38 = adN l 0 := iput_s _ _ _ _
  have t48 : (iput (iput I 1282 48 (pA l (0 + 6))) 1282 38 (adN l 0)) 1282 48 = pA l 6 := by rw [iput_j _ _ _ (by decide), iput_s]
  generalize iput (iput I 1282 48 (pA l (0 + 6))) 1282 38 (adN l 0) = J1 at hW1 t38 t48 ⊢
  have ecm : cmA l = if 127 < pA l 6 then 1 else 0 := by
    unfold cmA
    by_cases q : pA l 6 < 128
    · rw [if_pos q, if_neg (fun w => lz0.mp w q)]
    · rw [if_neg q, if_pos (lz0.mpr q)]
  have m23 : pw S (q_M_hasAddresses_23 (some 1282) (cmA l) (J1, S)) (haQ I0 A l) := by
    unfold q_M_hasAddresses_23
    have bad : ∀ J, RW I0 J A l → (∀ n, gdA l n → diA l → False) → pw S (x_rz (0 : Int32) (J, S)) (haQ I0 A l) := fun J q1 q2 => pw_rz (Or.inl rfl) ⟨q1, Or.inl ⟨rfl, fun n w => q2 n w.1 w.2⟩⟩
    refine pw_gE hM t38 ?_
    by_cases e1 : adN l 0 = -1
    · exact pw_t e1 (bad J1 hW1 (fun n g _ => (g.2.2.2.1 0 (by have := g.1; omega)).1 e1))
    · refine pw_f e1 (pw_gE hM t48 (pw_rm (n := z0) (d := 2) ez0 rfl (by omega) (by decide) (by decide) ?_))
      by_cases e2 : z0 % 2 = 0
      · rw [e2]
        refine pw_f (by decide) (pw_cv hM (r_addressAt hS hW1 hb (a := 7) (by omega)) (fun v J h => ?_))
        obtain ⟨rfl, rfl⟩ := h
        refine pw_pI hM (pw_pZ hM hcm ?_)
        have hW2 : RW I0 (iput (iput (iput J1 1282 48 (pA l (7 + 6))) 1282 39 (adN l 7)) 1282 44 (cmA l)) A l := RW_put (RW_put (RW_put hW1 (by decide)) (by decide)) (by decide)
        have u38 : (iput (iput (iput J1 1282 48 (pA l (7 + 6))) 1282 39 (adN l 7)) 1282 44 (cmA l)) 1282 38 = adN l 0 := by simp [ip_if, t38]
        have u39 : (iput (iput (iput J1 1282 48 (pA l (7 + 6))) 1282 39 (adN l 7)) 1282 44 (cmA l)) 1282 39 = adN l 7 := by simp [ip_if]
        have u44 : (iput (iput (iput J1 1282 48 (pA l (7 + 6))) 1282 39 (adN l 7)) 1282 44 (cmA l)) 1282 44 = cmA l := by simp [ip_if]
        have u48 : (iput (iput (iput J1 1282 48 (pA l (7 + 6))) 1282 39 (adN l 7)) 1282 44 (cmA l)) 1282 48 = pA l 13 := by simp [ip_if]
        generalize iput (iput (iput J1 1282 48 (pA l (7 + 6))) 1282 39 (adN l 7)) 1282 44 (cmA l) = J2 at hW2 u38 u39 u44 u48 ⊢
        refine pw_gE hM u39 (pw_cl (p_M_isStation _) (fun v J h => ?_))
        obtain ⟨rfl, rfl⟩ := h
        by_cases est : (sta (adN l 7)).isSome = true
        · rw [est]
          have hg := (sta_ad hb (by omega)).mp est
          refine pw_f (by decide) (pw_gE hM u48 ?_)
          have m84 : pw S (q_M_hasAddresses_84 (some 1282) (if 127 < pA l 13 then 1 else 0) (cmA l) (J, S)) (haQ I0 A l) := by
            unfold q_M_hasAddresses_84
            have e13 : (if 127 < pA l 13 then (1 : Int32) else 0) = rsA l := by
              unfold rsA
              by_cases q : pA l 13 < 128
              · rw [if_pos q, if_neg (fun w => lz1.mp w q)]
              · rw [if_neg q, if_pos (lz1.mpr q)]
            rw [e13]
            by_cases ed : cmA l = rsA l
            · exact pw_t ed (bad J hW2 (fun n _ q => q ed))
            · refine pw_f ed (pw_pI hM ?_)
              refine rh97 hS hb ed 2 mFU 0 _ (by omega) (by unfold mFU; omega) (RW_put hW2 (by decide)) ⟨?_, ?_, ?_, ?_, fun j hj => by omega⟩ ?_ ⟨by omega, fun j hj => ?_, fun j hj => ?_⟩
              · rw [iput_j _ _ _ (by decide)]; exact u38
              · rw [iput_j _ _ _ (by decide)]; exact u39
              · rw [iput_s]; rfl
              · rw [iput_j _ _ _ (by decide)]; exact u44
              · rw [iput_j _ _ _ (by decide)]; exact u48
              · have : j = 0 ∨ j = 1 := by omega
                rcases this with rfl | rfl
                · exact ⟨e1, fun q => absurd rfl q⟩
                · exact ⟨hg.1, fun _ => hg.2⟩
              · have : j = 0 := by omega
                subst this
                exact pz0.mpr e2
          by_cases q : 127 < pA l 13
          · rw [if_pos q] at m84
            exact pw_t q m84
          · rw [if_neg q] at m84
            exact pw_f q m84
        · have est' : (sta (adN l 7)).isSome = false := by
            cases h : (sta (adN l 7)).isSome with
            | false => rfl
            | true => exact absurd h est
          rw [est']
          refine pw_t rfl (bad _ hW2 (fun n g _ => ?_))
          have hgg := g.2.2.2.1 1 (by have := g.1; omega)
          exact est ((sta_ad hb (by omega)).mpr ⟨hgg.1, hgg.2 (by omega)⟩)
      · rw [show z0 % 2 = 1 by omega]
        refine pw_t rfl (bad J1 hW1 (fun n g _ => ?_))
        exact e2 (pz0.mp (g.2.2.2.2.1 0 (by have := g.1; omega)))
  refine pw_gE hM t48 ?_
  by_cases q : 127 < pA l 6
  · rw [ecm, if_pos q] at m23
    exact pw_t q m23
  · rw [ecm, if_neg q] at m23
    exact pw_f q m23
end RA
