/-! what a FRAME says behind its ADDRESSES: the reference -/
def bCt : Bool := (List.range 256).all (fun m => decide ((nI m &&& 239) = nI (m &&& 239) ∧ m &&& 239 < 256 ∧ ((m &&& 239) % 2 = 0 ↔ nI m &&& 1 = 0) ∧ (nI m &&& 239) = nI m - (nI m &&& 16) ∧ (nI m &&& 239) &&& 15 = nI m &&& 15 ∧ (nI m &&& 16) = (if nI m &&& 16 = 0 then 0 else 16) ∧ (((nI m &&& 239) >>> ((1 : Int32) &&& 31)) &&& 7) = ((nI m >>> ((1 : Int32) &&& 31)) &&& 7)))
theorem bCt_ok : bCt = true := by decide +kernel
theorem bCt_in {m : Nat} (h : m < 256) : (nI m &&& 239) = nI (m &&& 239) ∧ m &&& 239 < 256 ∧ ((m &&& 239) % 2 = 0 ↔ nI m &&& 1 = 0) ∧ (nI m &&& 239) = nI m - (nI m &&& 16) ∧ (nI m &&& 239) &&& 15 = nI m &&& 15 ∧ (nI m &&& 16) = (if nI m &&& 16 = 0 then 0 else 16) ∧ (((nI m &&& 239) >>> ((1 : Int32) &&& 31)) &&& 7) = ((nI m >>> ((1 : Int32) &&& 31)) &&& 7) := of_decide_eq_true (List.all_eq_true.mp bCt_ok m (List.mem_range.mpr h))
def rBd (J : mIm) (l : List Int32) (n : Nat) : Prop := adN l 0 ≠ 6 → J 1282 41 = pA l (7 * n) &&& 239 ∧ J 1282 42 = pA l (7 * n + 1) ∧ J 1282 45 = (if pA l (7 * n) &&& 16 = 0 then 0 else 1)
def raQ (I0 : mIm) (A : aT) (l : List Int32) (n : Nat) : Int32 → mIm → Prop := fun v J => RW I0 J A l ∧ rHd J l n ∧ ((v = 0 ∧ ¬ okF l n) ∨ (v = 1 ∧ okF l n ∧ rBd J l n))
def riQ (I0 : mIm) (A : aT) (l : List Int32) : Int32 → mIm → Prop := fun v J => RW I0 J A l ∧ ((v = 0 ∧ ∀ n, ¬ okF l n) ∨ (v = 1 ∧ ∃ n, okF l n ∧ rHd J l n ∧ rBd J l n))
section RB
variable {S : mS} {I J I0 : mIm} {A : aT} {s n : Nat} {l : List Int32}
theorem ru19 (hS : Shp S) (hn : 2 ≤ n) (hn4 : n ≤ 4) (hH : rHd I l n) : ∀ (f m k : Nat) (p : Bool), k + f = n - 2 → f < m → pw S (q_M_areUnlike_19 m (some 1282) (if p then 1 else 0) (nI k) (I, S)) (fun v J => J = I ∧ (v = 0 ∨ v = 1) ∧ (v = 1 ↔ (p = true ∧ (∀ j, k ≤ j → j < n - 2 → adN l (7 * (j + 2)) ≠ adN l 0 ∧ adN l (7 * (j + 2)) ≠ adN l 7) ∧ (n = 4 → adN l 14 ≠ adN l 21))))
  | f, 0, k, p, _, h => by omega
  | f, m + 1, k, p, hk, hm => by
    have hM := M_k hS
    obtain ⟨⟨h38, h39, h40, h44, hv⟩, h43⟩ := id hH
    have a14 := aK_in hS (r := 1314) (t := 0) (n := 2) rfl
    show pw S (q_M_areUnlike_19_b _ _ _ _ _) _
    unfold q_M_areUnlike_19_b
    refine pw_gE hM h40 ?_
    by_cases hlt : k < n - 2
    · obtain ⟨f, rfl⟩ : ∃ q, f = q + 1 := ⟨f - 1, by omega⟩
      refine pw_t (nI_lt hlt (by omega)) ?_
      have go : ∀ p' : Bool, (p' = true ↔ (p = true ∧ adN l (7 * (k + 2)) ≠ adN l 0 ∧ adN l (7 * (k + 2)) ≠ adN l 7)) → pw S (q_M_areUnlike_62 (q_M_areUnlike_19 m) (some 1282) (nI k) (if p' then 1 else 0) (I, S)) (fun v J => J = I ∧ (v = 0 ∨ v = 1) ∧ (v = 1 ↔ (p = true ∧ (∀ j, k ≤ j → j < n - 2 → adN l (7 * (j + 2)) ≠ adN l 0 ∧ adN l (7 * (j + 2)) ≠ adN l 7) ∧ (n = 4 → adN l 14 ≠ adN l 21)))) := by
        intro p' hp'
        unfold q_M_areUnlike_62
        rw [show nI k + (1 : Int32) = nI (k + 1) from nI_1 k]
        refine pw_mono (ru19 hS hn hn4 hH f m (k + 1) p' (by omega) (by omega)) (fun v J h => ⟨h.1, h.2.1, ?_⟩)
        rw [h.2.2, hp']
        constructor
        · intro ⟨⟨q1, q2⟩, q3, q4⟩
          refine ⟨q1, fun j h1 h2 => ?_, q4⟩
          by_cases e : j = k
          · subst e; exact q2
          · exact q3 j (by omega) h2
        · intro ⟨q1, q2, q3⟩
          exact ⟨⟨q1, q2 k (by omega) hlt⟩, fun j h1 h2 => q2 j (by omega) h2, q3⟩
      have f0 : ¬ (p = true ∧ adN l (7 * (k + 2)) ≠ adN l 0 ∧ adN l (7 * (k + 2)) ≠ adN l 7) → pw S (q_M_areUnlike_61 (q_M_areUnlike_19 m) (some 1282) (nI k) (I, S)) (fun v J => J = I ∧ (v = 0 ∨ v = 1) ∧ (v = 1 ↔ (p = true ∧ (∀ j, k ≤ j → j < n - 2 → adN l (7 * (j + 2)) ≠ adN l 0 ∧ adN l (7 * (j + 2)) ≠ adN l 7) ∧ (n = 4 → adN l 14 ≠ adN l 21)))) := fun q => by
        unfold q_M_areUnlike_61
        exact go false ⟨fun z => absurd z (by decide), fun z => absurd z q⟩
      cases p
      · exact pw_t rfl (f0 (fun q => absurd q.1 (by decide)))
      · refine pw_f (by decide) (rM hS (r := 1314) rfl (pw_aI k a14.1 rfl (by omega) (by omega) (pw_gE hM h38 ?_)))
        rw [(hv k hlt).1]
        by_cases e1 : adN l (7 * (k + 2)) = adN l 0
        · exact pw_t e1 (f0 (fun q => q.2.1 e1))
        · refine pw_f e1 (rM hS (r := 1314) rfl (pw_aI k a14.1 rfl (by omega) (by omega) (pw_gE hM h39 ?_)))
          rw [(hv k hlt).1]
          by_cases e2 : adN l (7 * (k + 2)) = adN l 7
          · exact pw_t e2 (f0 (fun q => q.2.2 e2))
          · exact pw_f e2 (go true ⟨fun _ => ⟨rfl, e1, e2⟩, fun _ => rfl⟩)
    · refine pw_f (nI_nlt (by omega) (by omega)) ?_
      cases p
      · exact pw_t rfl (pw_rz (Or.inl rfl) ⟨rfl, Or.inl rfl, ⟨fun q => absurd q (by decide), fun q => absurd q.1 (by decide)⟩⟩)
      · refine pw_f (by decide) (pw_gE hM h40 ?_)
        have yes : (n = 4 → adN l 14 ≠ adN l 21) → pw S (q_M_areUnlike_96 (I, S)) (fun v J => J = I ∧ (v = 0 ∨ v = 1) ∧ (v = 1 ↔ (true = true ∧ (∀ j, k ≤ j → j < n - 2 → adN l (7 * (j + 2)) ≠ adN l 0 ∧ adN l (7 * (j + 2)) ≠ adN l 7) ∧ (n = 4 → adN l 14 ≠ adN l 21)))) := fun q => pw_rz (Or.inr rfl) ⟨rfl, Or.inr rfl, ⟨fun _ => ⟨rfl, fun j h1 h2 => by omega, q⟩, fun _ => rfl⟩⟩
        by_cases n4 : n = 4
        · subst n4
          refine pw_f (by decide) (rM hS (r := 1314) rfl (pw_aI 0 a14.1 rfl (by omega) (by omega) (rM hS (r := 1314) rfl (pw_aI 1 a14.1 rfl (by omega) (by omega) ?_))))
          rw [(hv 0 (by decide)).1, (hv 1 (by decide)).1]
          by_cases e : adN l (7 * (0 + 2)) = adN l (7 * (1 + 2))
          · exact pw_t e (pw_rz (Or.inl rfl) ⟨rfl, Or.inl rfl, ⟨fun q => absurd q (by decide), fun q => absurd e (q.2.2 rfl)⟩⟩)
          · exact pw_f e (yes (fun _ => e))
        · exact pw_t (nI_lt (b := 2) (by omega) (by decide)) (yes (fun q => absurd q n4))
theorem un_iff (hn : 2 ≤ n) (hn4 : n ≤ 4) : unA l n ↔ (adN l 0 ≠ adN l 7 ∧ (∀ j, 0 ≤ j → j < n - 2 → adN l (7 * (j + 2)) ≠ adN l 0 ∧ adN l (7 * (j + 2)) ≠ adN l 7) ∧ (n = 4 → adN l 14 ≠ adN l 21)) := by
  constructor
  · intro h
    refine ⟨h 1 (by omega) 0 (by omega), fun j _ hj => ⟨?_, ?_⟩, fun e => h 3 (by omega) 2 (by omega)⟩
    · exact Ne.symm (h (j + 2) (by omega) 0 (by omega))
    · exact Ne.symm (h (j + 2) (by omega) 1 (by omega))
  · intro ⟨h1, h2, h3⟩ k hk j hj
    rcases Nat.lt_or_ge j 2 with j2 | j2
    · rcases Nat.lt_or_ge k 2 with k2 | k2
      · have e1 : j = 0 := by omega
        have e2 : k = 1 := by omega
        subst e1; subst e2
        exact h1
      · obtain ⟨q, rfl⟩ : ∃ q, k = q + 2 := ⟨k - 2, by omega⟩
        have := h2 q (by omega) (by omega)
        rcases (show j = 0 ∨ j = 1 by omega) with e | e <;> subst e
        · exact Ne.symm this.1
        · exact Ne.symm this.2
    · have e1 : j = 2 := by omega
      have e2 : k = 3 := by omega
      subst e1; subst e2
      exact h3 (by omega)
theorem r_areUnlike (hS : Shp S) (hn : 2 ≤ n) (hn4 : n ≤ 4) (hH : rHd I l n) : pw S (q_M_areUnlike (some 1282) (I, S)) (fun v J => J = I ∧ (v = 0 ∨ v = 1) ∧ (v = 1 ↔ unA l n)) := by
  have hM := M_k hS
  unfold q_M_areUnlike q_M_areUnlike_16
  refine pw_gE hM hH.1.1 (pw_gE hM hH.1.2.1 ?_)
  by_cases e : adN l 0 = adN l 7
  · refine pw_t e (pw_mono (ru19 hS hn hn4 hH (n - 2) mFU 0 false (by omega) (by unfold mFU; omega)) (fun v J h => ⟨h.1, h.2.1, ?_⟩))
    rw [h.2.2, un_iff hn hn4]
    exact ⟨fun q => absurd q.1 (by decide), fun q => absurd e q.1⟩
  · refine pw_f e (pw_mono (ru19 hS hn hn4 hH (n - 2) mFU 0 true (by omega) (by unfold mFU; omega)) (fun v J h => ⟨h.1, h.2.1, ?_⟩))
    rw [h.2.2, un_iff hn hn4]
    exact ⟨fun q => ⟨e, q.2⟩, fun q => ⟨rfl, q.2⟩⟩
theorem rr99 (hS : Shp S) (hW : RW I0 I A l) (h43 : I 1282 43 = nI 14) {q : Nat} (hq : l.length = 17 + 3 * q) (hq5 : q ≤ 5) : ∀ (f m k : Nat) (p : Bool), k + f = q → f < m → pw S (q_M_hasRoutes_99 m (some 1282) (nI (3 * q)) (if p then 1 else 0) (nI (3 * k)) (I, S)) (fun v J => J = I ∧ (v = 0 ∨ v = 1) ∧ (v = 1 ↔ (p = true ∧ ∀ i, k ≤ i → i < q → (sta (pA l (17 + 3 * i))).isSome = true ∧ (sta (pA l (17 + 3 * i + 1))).isSome = true)))
  | f, 0, k, p, _, h => by omega
  | f, m + 1, k, p, hk, hm => by
    have hM := M_k hS
    show pw S (q_M_hasRoutes_99_b _ _ _ _ _ _) _
    unfold q_M_hasRoutes_99_b
    by_cases hlt : k < q
    · obtain ⟨f, rfl⟩ : ∃ z, f = z + 1 := ⟨f - 1, by omega⟩
      refine pw_t (nI_lt (by omega) (by omega)) ?_
      have go : ∀ p' : Bool, (p' = true ↔ (p = true ∧ (sta (pA l (17 + 3 * k))).isSome = true ∧ (sta (pA l (17 + 3 * k + 1))).isSome = true)) → pw S (q_M_hasRoutes_151 (q_M_hasRoutes_99 m) (some 1282) (nI (3 * q)) (nI (3 * k)) (if p' then 1 else 0) (I, S)) (fun v J => J = I ∧ (v = 0 ∨ v = 1) ∧ (v = 1 ↔ (p = true ∧ ∀ i, k ≤ i → i < q → (sta (pA l (17 + 3 * i))).isSome = true ∧ (sta (pA l (17 + 3 * i + 1))).isSome = true))) := by
        intro p' hp'
        unfold q_M_hasRoutes_151
        rw [show nI (3 * k) + (3 : Int32) = nI (3 * (k + 1)) from nI_add _ 3]
        refine pw_mono (rr99 hS hW h43 hq hq5 f m (k + 1) p' (by omega) (by omega)) (fun v J h => ⟨h.1, h.2.1, ?_⟩)
        rw [h.2.2, hp']
        constructor
        · intro ⟨⟨q1, q2⟩, q3⟩
          refine ⟨q1, fun j h1 h2 => ?_⟩
          by_cases e : j = k
          · subst e; exact q2
          · exact q3 j (by omega) h2
        · intro ⟨q1, q2⟩
          exact ⟨⟨q1, q2 k (by omega) hlt⟩, fun j h1 h2 => q2 j (by omega) h2⟩
      have f0 : ¬ (p = true ∧ (sta (pA l (17 + 3 * k))).isSome = true ∧ (sta (pA l (17 + 3 * k + 1))).isSome = true) → pw S (q_M_hasRoutes_150 (q_M_hasRoutes_99 m) (some 1282) (nI (3 * q)) (nI (3 * k)) (I, S)) (fun v J => J = I ∧ (v = 0 ∨ v = 1) ∧ (v = 1 ↔ (p = true ∧ ∀ i, k ≤ i → i < q → (sta (pA l (17 + 3 * i))).isSome = true ∧ (sta (pA l (17 + 3 * i + 1))).isSome = true))) := fun q => by
        unfold q_M_hasRoutes_150
        exact go false ⟨fun z => absurd z (by decide), fun z => absurd z q⟩
      cases p
      · exact pw_t rfl (f0 (fun q => absurd q.1 (by decide)))
      · refine pw_f (by decide) (rM hS (r := 1313) rfl (pw_gE hM h43 (RW_g hS hW (17 + 3 * k) (by rw [show nI 14 + (3 : Int32) = nI 17 from rfl, nI_add]) (by omega) (pw_cl (p_M_isStation _) (fun v J h => ?_)))))
        obtain ⟨hJ, rfl⟩ := h
        rw [hJ]
        cases e1 : (sta (pA l (17 + 3 * k))).isSome with
        | false => exact pw_t rfl (f0 (fun q => by rw [e1] at q; exact absurd q.2.1 (by decide)))
        | true =>
          refine pw_f (by decide) (rM hS (r := 1313) rfl (pw_gE hM h43 (RW_g hS hW (17 + 3 * k + 1) (by rw [show nI 14 + (4 : Int32) = nI 18 from rfl, nI_add]; congr 1; omega) (by omega) (pw_cl (p_M_isStation _) (fun v J2 h => ?_)))))
          obtain ⟨hJ2, rfl⟩ := h
          rw [hJ2]
          cases e2 : (sta (pA l (17 + 3 * k + 1))).isSome with
          | false => exact pw_t rfl (f0 (fun q => by rw [e2] at q; exact absurd q.2.2 (by decide)))
          | true => exact pw_f (by decide) (go true ⟨fun _ => ⟨rfl, e1, e2⟩, fun _ => rfl⟩)
    · refine pw_f (nI_nlt (by omega) (by omega)) ?_
      cases p
      · exact pw_rz (Or.inl rfl) ⟨rfl, Or.inl rfl, ⟨fun q => absurd q (by decide), fun q => absurd q.1 (by decide)⟩⟩
      · exact pw_rz (Or.inr rfl) ⟨rfl, Or.inr rfl, ⟨fun _ => ⟨rfl, fun i h1 h2 => by omega⟩, fun _ => rfl⟩⟩
theorem r_hasRoutes (hS : Shp S) (hW : RW I0 I A l) (hH : rHd I l n) (hn : 2 ≤ n) (hn4 : n ≤ 4) (h7 : 7 * n < l.length) : pw S (q_M_hasRoutes (some 1282) (I, S)) (fun v J => J = I ∧ (v = 0 ∨ v = 1) ∧ (v = 1 ↔ noB l n)) := by
  have hM := M_k hS
  have h90 := hW.2.2.2.2
  obtain ⟨⟨h38, h39, h40, h44, hv⟩, h43⟩ := id hH
  unfold q_M_hasRoutes
  refine pw_gE hM hW.2.2.1 (pw_gE hM h43 (pw_lt (pw_gE hM h44 ?_)))
  rw [show nI l.length - nI (7 * n) = nI (l.length - 7 * n) from pk_sub (by omega)]
  have bad : ¬ noB l n → pw S (x_rz (0 : Int32) (I, S)) (fun v J => J = I ∧ (v = 0 ∨ v = 1) ∧ (v = 1 ↔ noB l n)) := fun q => pw_rz (Or.inl rfl) ⟨rfl, Or.inl rfl, ⟨fun z => absurd z (by decide), fun z => absurd z q⟩⟩
  by_cases c4 : cmA l = 0
  · exact pw_t c4 (bad (fun q => by rw [q.1] at c4; exact absurd c4 (by decide)))
  · refine pw_f c4 (pw_gE hM h40 ?_)
    by_cases n2 : n = 2
    · subst n2
      refine pw_f (by decide) ?_
      by_cases hlen : 17 ≤ l.length
      · rw [show nI (l.length - 7 * 2) - (3 : Int32) = nI (l.length - 17) from by rw [show (3 : Int32) = nI 3 from rfl, pk_sub (by omega)]; congr 1]
        refine pw_f (nI_pos (by omega)) ?_
        by_cases c6 : l.length ≤ 32
        · refine pw_f (nI_nlt (a := 15) (by omega) (by omega)) (pw_rm (n := l.length - 17) (d := 3) rfl rfl (by omega) (by decide) (by decide) ?_)
          by_cases c5 : (l.length - 17) % 3 = 0
          · rw [c5]
            refine pw_t rfl (rM hS (r := 1313) rfl (pw_gE hM h43 (RW_g hS hW 14 rfl (by omega) ?_)))
            obtain ⟨q, hq⟩ : ∃ q, l.length = 17 + 3 * q := ⟨(l.length - 17) / 3, by omega⟩
            have ht : l.length - 17 = 3 * q := by omega
            rw [ht]
            have m96 : ∀ p : Bool, (p = true ↔ (pA l 14 = 3 ∧ pA l 15 = 207 ∧ pA l 16 = 255)) → pw S (q_M_hasRoutes_96 (some 1282) (nI (3 * q)) (if p then 1 else 0) (I, S)) (fun v J => J = I ∧ (v = 0 ∨ v = 1) ∧ (v = 1 ↔ noB l 2)) := by
              intro p hp
              unfold q_M_hasRoutes_96
              refine pw_mono (rr99 hS hW h43 hq (by omega) q mFU 0 p (by omega) (by unfold mFU; omega)) (fun v J h => ⟨h.1, h.2.1, ?_⟩)
              rw [h.2.2, hp]
              constructor
              · intro ⟨q1, q2⟩
                exact ⟨cm_1 c4, rfl, q1, c5, c6, fun i h1 h2 => q2 i (by omega) (by omega)⟩
              · intro ⟨_, _, q1, _, _, q2⟩
                exact ⟨q1, fun i h1 h2 => q2 i (by omega) (by omega)⟩
            have f0 : ¬ (pA l 14 = 3 ∧ pA l 15 = 207 ∧ pA l 16 = 255) → pw S (q_M_hasRoutes_95 (some 1282) (nI (3 * q)) (I, S)) (fun v J => J = I ∧ (v = 0 ∨ v = 1) ∧ (v = 1 ↔ noB l 2)) := fun z => by
              unfold q_M_hasRoutes_95
              exact m96 false ⟨fun w => absurd w (by decide), fun w => absurd w z⟩
            by_cases c1 : pA l 14 = 3
            · refine pw_t c1 (rM hS (r := 1313) rfl (pw_gE hM h43 (RW_g hS hW 15 rfl (by omega) ?_)))
              by_cases c2 : pA l 15 = 207
              · refine pw_t c2 (rM hS (r := 1313) rfl (pw_gE hM h43 (RW_g hS hW 16 rfl (by omega) ?_)))
                by_cases c3 : pA l 16 = 255
                · exact pw_t c3 (m96 true ⟨fun _ => ⟨c1, c2, c3⟩, fun _ => rfl⟩)
                · exact pw_f c3 (f0 (fun z => c3 z.2.2))
              · exact pw_f c2 (f0 (fun z => c2 z.2.1))
            · exact pw_f c1 (f0 (fun z => c1 z.1))
          · exact pw_f (nI_ne0 (by omega) (by omega)) (bad (fun q => c5 q.2.2.2.1))
        · exact pw_t (nI_lt (a := 15) (by omega) (by omega)) (bad (fun q => c6 q.2.2.2.2.1))
      · refine pw_t (pk_sneg (b := 3) (by decide) (by omega)) (bad (fun q => ?_))
        have := pA_len (l := l) (k := 16) (by rw [q.2.2.1.2.2]; decide)
        omega
    · exact pw_t (n_gt0 (by omega) (by omega)) (bad (fun q => n2 q.2.1))
theorem r_isNumbered (c : Int32) : pw S (q_M_isNumbered c (I, S)) (fun v J => J = I ∧ (v = 0 ∨ v = 1) ∧ (v = 1 ↔ (c &&& 15 = 1 ∨ c &&& 15 = 5 ∨ c &&& 15 = 9))) := by
  unfold q_M_isNumbered q_M_isNumbered_25
  refine pw_if (fun h => pw_rz (Or.inr rfl) ⟨rfl, Or.inr rfl, fun _ => Or.inl h, fun _ => rfl⟩) (fun h1 => pw_if (fun h => pw_rz (Or.inr rfl) ⟨rfl, Or.inr rfl, fun _ => Or.inr (Or.inl h), fun _ => rfl⟩) (fun h2 => pw_if (fun h => pw_rz (Or.inr rfl) ⟨rfl, Or.inr rfl, fun _ => Or.inr (Or.inr h), fun _ => rfl⟩) (fun h3 => pw_rz (Or.inl rfl) ⟨rfl, Or.inl rfl, fun z => absurd z (by decide), fun z => ?_⟩)))
  rcases z with z | z | z
  · exact absurd z h1
  · exact absurd z h2
  · exact absurd z h3
theorem r_isRight (hS : Shp S) (hW : RW I0 I A l) (hb : aBy l) (h15 : 15 ≤ l.length) : pw S (q_M_isRight (some 1282) (I, S)) (riQ I0 A l) := by
  have hM := M_k hS
  have h90 := hW.2.2.2.2
  unfold q_M_isRight
  refine pw_cv hM (r_hasAddresses hS hW hb h15) (fun v J h => ?_)
  obtain ⟨hW1, h⟩ := h
  rcases h with ⟨rfl, h⟩ | ⟨rfl, n, g, hdi, hH⟩
  · exact pw_t rfl (pw_rz (Or.inl rfl) ⟨hW1, Or.inl ⟨rfl, fun n w => h n ⟨w.1, w.2.2.1⟩⟩⟩)
  · have g1 := g.1
    have g4 := g.2.1
    have bad : ∀ K, RW I0 K A l → ¬ okF l n → pw S (x_rz (0 : Int32) (K, S)) (riQ I0 A l) := fun K q1 q2 => pw_rz (Or.inl rfl) ⟨q1, Or.inl ⟨rfl, fun m w => by have e := gd_u g w.1; subst e; exact q2 w⟩⟩
    refine pw_f (by decide) (pw_gE hM hH.2 (pw_gE hM hW1.2.2.1 ?_))
    by_cases h7 : 7 * n < l.length
    · refine pw_t (nI_lt h7 (by omega)) (pw_gE hM hH.1.1 ?_)
      by_cases e6 : adN l 0 = 6
      · refine pw_t e6 (pw_cv hM (r_hasRoutes hS hW1 hH g1 g4 h7) (fun v K h => ?_))
        obtain ⟨rfl, h01, hiff⟩ := h
        refine pw_rz h01 ⟨hW1, ?_⟩
        rcases h01 with h0 | h0
        · refine Or.inl ⟨h0, fun m w => ?_⟩
          have e := gd_u g w.1
          subst e
          have := hiff.mpr (w.2.2.2.2.1 e6)
          rw [h0] at this
          exact absurd this (by decide)
        · have hno := hiff.mp h0
          refine Or.inr ⟨h0, n, ⟨g, ?_, hdi, h7, fun _ => hno, fun z => absurd e6 z, fun z => absurd e6 z⟩, hH, fun z => absurd e6 z⟩
          rw [un_iff g1 g4]
          have n2 := hno.2.1
          subst n2
          refine ⟨fun e => ?_, fun j _ h2 => by omega, fun e => by omega⟩
          exact (g.2.2.2.1 1 (by decide)).2 (by decide) (by rw [show 7 * 1 = 7 from rfl, ← e]; exact e6)
      · refine pw_f e6 (pw_cv hM (r_areUnlike hS g1 g4 hH) (fun v K h => ?_))
        obtain ⟨rfl, h01, hiff⟩ := h
        by_cases hu : unA l n
        · rw [hiff.mpr hu]
          refine pw_f (by decide) (rM hS (r := 1313) rfl (pw_gE hM hH.2 (RW_g hS hW1 (7 * n) rfl h7 ?_)))
          obtain ⟨m, hm, em⟩ := hb (7 * n) h7
          obtain ⟨t1, t2, t3, t4, t5, t6, t7⟩ := bCt_in hm
          rw [← em] at t1 t3 t4 t5 t6 t7
          have m66 : pw S (q_M_isRight_66 (some 1282) (pA l (7 * n)) (if pA l (7 * n) &&& 16 = 0 then 0 else 1) (some 1282) (K, S)) (riQ I0 A l) := by
            unfold q_M_isRight_66
            refine pw_pZ hM (by split; exact Or.inl rfl; exact Or.inr rfl) (pw_pI hM ?_)
            generalize hE : (if pA l (7 * n) &&& 16 = 0 then (0 : Int32) else 1) = en
            have hW2 : RW I0 (iput (iput K 1282 45 en) 1282 41 (pA l (7 * n) &&& 239)) A l := RW_put (RW_put hW1 (by decide)) (by decide)
            have hH2 : rHd (iput (iput K 1282 45 en) 1282 41 (pA l (7 * n) &&& 239)) l n := ⟨rH0_p (rH0_p hH.1 (by decide)) (by decide), by rw [iput_j _ _ _ (by decide), iput_j _ _ _ (by decide)]; exact hH.2⟩
            have h41 : (iput (iput K 1282 45 en) 1282 41 (pA l (7 * n) &&& 239)) 1282 41 = pA l (7 * n) &&& 239 := iput_s _ _ _ _
            have h45 : (iput (iput K 1282 45 en) 1282 41 (pA l (7 * n) &&& 239)) 1282 45 = en := by rw [iput_j _ _ _ (by decide), iput_s]
            generalize iput (iput K 1282 45 en) 1282 41 (pA l (7 * n) &&& 239) = K2 at hW2 hH2 h41 h45 ⊢
            refine pw_gE hM hW2.2.2.1 (pw_gE hM hH2.2 (pw_lt ?_))
            rw [show nI l.length - nI (7 * n) = nI (l.length - 7 * n) from pk_sub (by omega), show nI (l.length - 7 * n) - (1 : Int32) = nI (l.length - 7 * n - 1) from pk_sub (b := 1) (by omega)]
            by_cases hl2 : 7 * n + 2 ≤ l.length
            · refine pw_f (nI_nlt (b := 1) (by omega) (by omega)) (rM hS (r := 1313) rfl (pw_gE hM hH2.2 (RW_g hS hW2 (7 * n + 1) (nI_add _ 1) (by omega) (pw_pI hM ?_))))
              have hW3 : RW I0 (iput K2 1282 42 (pA l (7 * n + 1))) A l := RW_put hW2 (by decide)
              have hH3 : rHd (iput K2 1282 42 (pA l (7 * n + 1))) l n := ⟨rH0_p hH2.1 (by decide), by rw [iput_j _ _ _ (by decide)]; exact hH2.2⟩
              have h41' : (iput K2 1282 42 (pA l (7 * n + 1))) 1282 41 = pA l (7 * n) &&& 239 := by rw [iput_j _ _ _ (by decide)]; exact h41
              have hB3 : rBd (iput K2 1282 42 (pA l (7 * n + 1))) l n := fun _ => ⟨h41', iput_s _ _ _ _, by rw [iput_j _ _ _ (by decide), h45, hE]⟩
              generalize iput K2 1282 42 (pA l (7 * n + 1)) = K3 at hW3 hH3 h41' hB3 ⊢
              refine pw_gE hM h41' (pw_rm (n := m &&& 239) (d := 2) t1 rfl (by omega) (by decide) (by decide) ?_)
              have yes : okB l n → riQ I0 A l 1 K3 := fun q => ⟨hW3, Or.inr ⟨rfl, n, ⟨g, hu, hdi, h7, q⟩, hH3, hB3⟩⟩
              by_cases ev : pA l (7 * n) &&& 1 = 0
              · rw [t3.mpr ev]
                have nob : ¬ inB l (7 * n) → ¬ okF l n := fun q w => q (w.2.2.2.2.2.1 e6 ev)
                have yes2 : inB l (7 * n) → riQ I0 A l 1 K3 := fun q => yes ⟨fun z => absurd z e6, fun _ _ => q, fun _ z => absurd ev z⟩
                refine pw_t rfl (pw_gE hM hH3.1.2.2.2.1 ?_)
                by_cases c4 : cmA l = 0
                · exact pw_t c4 (bad _ hW3 (nob (fun q => by rw [q.1] at c4; exact absurd c4 (by decide))))
                · refine pw_f c4 ?_
                  by_cases c5 : 7 * n + 4 ≤ l.length
                  · refine pw_f (nI_nlt (b := 3) (by omega) (by omega)) ?_
                    by_cases c6 : l.length ≤ 7 * n + 19
                    · refine pw_f (nI_nlt (a := 18) (by omega) (by omega)) (rM hS (r := 1313) rfl (pw_gE hM hH3.2 (RW_g hS hW3 (7 * n + 2) (nI_add _ 2) (by omega) ?_)))
                      unfold q_M_isRight_173
                      by_cases c1 : pA l (7 * n + 2) = 240
                      · exact pw_t c1 (pw_rz (Or.inr rfl) (yes2 ⟨cm_1 c4, Or.inl c1, c5, c6⟩))
                      · refine pw_f c1 (rM hS (r := 1313) rfl (pw_gE hM hH3.2 (RW_g hS hW3 (7 * n + 2) (nI_add _ 2) (by omega) ?_)))
                        by_cases c2 : pA l (7 * n + 2) = 207
                        · exact pw_t c2 (pw_rz (Or.inr rfl) (yes2 ⟨cm_1 c4, Or.inr c2, c5, c6⟩))
                        · exact pw_f c2 (bad _ hW3 (nob (fun q => by rcases q.2.1 with q | q; exact c1 q; exact c2 q)))
                    · exact pw_t (nI_lt (a := 18) (by omega) (by omega)) (bad _ hW3 (nob (fun q => c6 q.2.2.2)))
                  · exact pw_t (nI_lt (b := 3) (by omega) (by omega)) (bad _ hW3 (nob (fun q => c5 q.2.2.1)))
              · have ev2 : (m &&& 239) % 2 = 1 := by
                  have : ¬ (m &&& 239) % 2 = 0 := fun q => ev (t3.mp q)
                  omega
                rw [ev2]
                have nob : ¬ otB l (7 * n) → ¬ okF l n := fun q w => q (w.2.2.2.2.2.2 e6 ev)
                have yes2 : otB l (7 * n) → riQ I0 A l 1 K3 := fun q => yes ⟨fun z => absurd z e6, fun _ z => absurd z ev, fun _ _ => q⟩
                refine pw_f (by decide) ?_
                by_cases hlen : l.length = 7 * n + 2
                · refine pw_f (nI_nlt (a := 1) (by omega) (by omega)) ?_
                  rw [t4] at h41'
                  generalize hck : pA l (7 * n) - (pA l (7 * n) &&& 16) = ck at h41'
                  have hcm : cmA l = 0 ∨ cmA l = 1 := by
                    by_cases z : cmA l = 0
                    · exact Or.inl z
                    · exact Or.inr (cm_1 z)
                  have m47 : (ck = 47 ∨ ck = 67) → pw S (x_rz (cmA l) (K3, S)) (riQ I0 A l) := by
                    intro hq
                    rcases hcm with z | z
                    · rw [z]
                      refine bad _ hW3 (nob (fun w => ?_))
                      rcases w.2 with w | w | w
                      · rw [w.2] at z; exact absurd z (by decide)
                      · rw [hck] at w
                        rcases hq with q | q <;> rcases w.1 with w | w <;> rw [q] at w <;> exact absurd w (by decide)
                      · rw [hck] at w
                        rcases hq with q | q
                        · exact w.1 (Or.inl q)
                        · exact w.1 (Or.inr (Or.inl q))
                    · rw [z]
                      exact pw_rz (Or.inr rfl) (yes2 ⟨hlen, Or.inl ⟨by rw [hck]; exact hq, z⟩⟩)
                  have m15 : (ck = 15 ∨ ck = 99) → pw S (q_M_isRight_227 (some 1282) (K3, S)) (riQ I0 A l) := by
                    intro hq
                    unfold q_M_isRight_227
                    refine pw_gE hM hH3.1.2.2.2.1 ?_
                    by_cases z : cmA l = 0
                    · exact pw_t z (pw_rz (Or.inr rfl) (yes2 ⟨hlen, Or.inr (Or.inl ⟨by rw [hck]; exact hq, z⟩)⟩))
                    · refine pw_f z (bad _ hW3 (nob (fun w => ?_)))
                      rcases w.2 with w | w | w
                      · rw [hck] at w
                        rcases hq with q | q <;> rcases w.1 with w | w <;> rw [q] at w <;> exact absurd w (by decide)
                      · exact z w.2
                      · rw [hck] at w
                        rcases hq with q | q
                        · exact w.1 (Or.inr (Or.inr (Or.inl q)))
                        · exact w.1 (Or.inr (Or.inr (Or.inr q)))
                  refine pw_gE hM h41' (pw_if (fun q => pw_gE hM hH3.1.2.2.2.1 (m47 (Or.inl q))) (fun q1 => pw_gE hM h41' (pw_if (fun q => pw_gE hM hH3.1.2.2.2.1 (m47 (Or.inr q))) (fun q2 => pw_gE hM h41' (pw_if (fun q => m15 (Or.inl q)) (fun q3 => pw_gE hM h41' (pw_if (fun q => m15 (Or.inr q)) (fun q4 => pw_gE hM h41' (pw_cl (r_isNumbered _) (fun v K4 h => ?_))))))))))
                  obtain ⟨rfl, h01, hiff⟩ := h
                  rw [← hck, ← t4, t5] at hiff
                  have hnU : ¬ isU ck := fun z => by rcases z with z | z | z | z; exact q1 z; exact q2 z; exact q3 z; exact q4 z
                  rcases h01 with h0 | h0
                  · rw [h0]
                    refine bad _ hW3 (nob (fun w => ?_))
                    rcases w.2 with w | w | w
                    · rw [hck] at w
                      rcases w.1 with w | w
                      · exact q1 w
                      · exact q2 w
                    · rw [hck] at w
                      rcases w.1 with w | w
                      · exact q3 w
                      · exact q4 w
                    · have := hiff.mpr w.2
                      rw [h0] at this
                      exact absurd this (by decide)
                  · rw [h0]
                    exact pw_rz (Or.inr rfl) (yes2 ⟨hlen, Or.inr (Or.inr ⟨by rw [hck]; exact hnU, hiff.mp h0⟩)⟩)
                · exact pw_t (nI_lt (a := 1) (by omega) (by omega)) (bad _ hW3 (nob (fun q => hlen q.1)))
            · refine pw_t (nI_lt (b := 1) (by omega) (by omega)) (bad _ hW2 (fun w => ?_))
              by_cases ev : pA l (7 * n) &&& 1 = 0
              · have := (w.2.2.2.2.2.1 e6 ev).2.2.1
                omega
              · have := (w.2.2.2.2.2.2 e6 ev).1
                omega
          by_cases q : pA l (7 * n) &&& 16 = 0
          · rw [if_pos q] at m66
            exact pw_t q m66
          · rw [if_neg q] at m66
            exact pw_f q m66
        · have : v = 0 := h01.resolve_right (fun z => hu (hiff.mp z))
          rw [this]
          exact pw_t rfl (bad _ hW1 (fun w => hu w.2.1))
    · exact pw_f (nI_nlt (by omega) (by omega)) (bad _ hW1 (fun w => h7 w.2.2.2.1))
end RB
