/-! what is said: the reference's FRAME -/
def rFr (I : mIm) (l : List Int32) : Prop := I 1282 34 = nI l.length ∧ fL I 1311 0 l
section RS
variable {S : mS} {I I0 : mIm} {A : aT} {l : List Int32} {s o : Nat}
theorem RX_fr {J : mIm} (hX : RX I0 I A) (e : ∀ r, r ≠ 1282 → r ≠ 1311 → J r = I r) (e2 : ∀ j, j ≠ 34 → J 1282 j = I 1282 j) : RX I0 J A := by
  refine ⟨RInv_eq hX.1 (fun r a _ _ _ b _ _ _ _ _ => e r (by omega) b) (e2 _ (by decide)) (e2 _ (by decide)) (e2 _ (by decide)), fun r hr => ?_, fun j hj => ?_⟩
  · rw [e r (by unfold kp at hr; omega) (by unfold kp at hr; omega)]
    exact hX.2.1 r hr
  · rw [e2 j (by omega)]
    exact hX.2.2 j hj
theorem p_M_put (hS : Shp S) (hX : RX I0 I A) (hf : rFr I l) (hl : l.length < 90) (v : Int32) : pw S (q_M_put (some 1282) v (I, S)) (fun _ J => RX I0 J A ∧ rFr J (l ++ [v])) := by
  have hk := aK_in hS (r := 1311) (t := 0) (n := 90) rfl
  have hm := M_k hS
  unfold q_M_put
  refine rM hS (r := 1311) rfl (pw_gI hm (pw_wI l.length hk.1 hf.1 (by omega) (by omega) (pw_gI hm (pw_pI hm (pw_ret ⟨RX_fr hX (fun r a b => ?_) (fun j hj => ?_), ?_, ?_⟩)))))
  · rw [iput_n _ _ _ a, iput_n _ _ _ b]
  · rw [iput_j _ _ _ hj, iput_n _ _ _ (by decide)]
  · rw [iput_s, iput_n _ _ _ (by decide), hf.1, List.length_append]
    exact nI_1 _
  · have := fL_push0 (v := v) (n := l.length) rfl hf.2
    unfold fL at this ⊢
    rw [iput_n _ _ _ (by decide)]
    exact this
theorem p_M_letter (i : Nat) (hi : i < 6) (c : Int32) : pw S (q_M_letter (nI i) c (I, S)) (fun v J => J = I ∧ 2 * v = ((if c = 0 then nmS else nmN)[i]?).getD 0) := by
  by_cases hc : c = 0
  · subst hc
    rcases (show i = 0 ∨ i = 1 ∨ i = 2 ∨ i = 3 ∨ i = 4 ∨ i = 5 by omega) with rfl | rfl | rfl | rfl | rfl | rfl
    · exact pw_ret (b := (70 : Int32)) ⟨rfl, rfl⟩
    · exact pw_ret (b := (73 : Int32)) ⟨rfl, rfl⟩
    · exact pw_ret (b := (69 : Int32)) ⟨rfl, rfl⟩
    · exact pw_ret (b := (76 : Int32)) ⟨rfl, rfl⟩
    · exact pw_ret (b := (68 : Int32)) ⟨rfl, rfl⟩
    · exact pw_ret (b := (32 : Int32)) ⟨rfl, rfl⟩
  · rw [if_neg hc]
    rcases (show i = 0 ∨ i = 1 ∨ i = 2 ∨ i = 3 ∨ i = 4 ∨ i = 5 by omega) with rfl | rfl | rfl | rfl | rfl | rfl
    · show pw S (if c = 0 then some ((70 : Int32), (I, S)) else some ((78 : Int32), (I, S))) _
      rw [if_neg hc]
      exact pw_ret ⟨rfl, rfl⟩
    · show pw S (if c = 0 then some ((73 : Int32), (I, S)) else some ((79 : Int32), (I, S))) _
      rw [if_neg hc]
      exact pw_ret ⟨rfl, rfl⟩
    · show pw S (if c = 0 then some ((69 : Int32), (I, S)) else some ((68 : Int32), (I, S))) _
      rw [if_neg hc]
      exact pw_ret ⟨rfl, rfl⟩
    · show pw S (if c = 0 then some ((76 : Int32), (I, S)) else some ((69 : Int32), (I, S))) _
      rw [if_neg hc]
      exact pw_ret ⟨rfl, rfl⟩
    · show pw S (if c = 0 then some ((68 : Int32), (I, S)) else some ((83 : Int32), (I, S))) _
      rw [if_neg hc]
      exact pw_ret ⟨rfl, rfl⟩
    · exact pw_ret (b := (32 : Int32)) ⟨rfl, rfl⟩
theorem p_M_address_2 (hS : Shp S) (x m : Int32) (nm : List Int32) (hnm : nm = if x = 6 then nmN else nmS) (hl : l.length + 7 ≤ 90) : ∀ (k n i : Nat) (I : mIm), i + k = 6 → k < n → RX I0 I A → rFr I (l ++ nm.take i) → pw S (q_M_address_2 n (some 1282) x m (nI i) (I, S)) (fun _ J => RX I0 J A ∧ rFr J (l ++ (nm ++ [(if x = 6 then 96 else 96 + 2 * x) + m])))
  | k, 0, i, I, _, h, _, _ => by omega
  | k, n + 1, i, I, hk, hn, hX, hf => by
    have hm := M_k hS
    have h6 : nm.length = 6 := by rw [hnm]; split <;> rfl
    show pw S (q_M_address_2_b _ _ _ _ _ _) _
    unfold q_M_address_2_b
    by_cases hi : i < 6
    · refine pw_t (nI_lt (b := 6) hi (by decide)) ?_
      have key : ∀ c : Int32, (if c = 0 then nmS else nmN) = nm → pw S (q_M_address_22 (q_M_address_2 n) (some 1282) x m (nI i) c (nI i) 2 (some 1282) (I, S)) (fun _ J => RX I0 J A ∧ rFr J (l ++ (nm ++ [(if x = 6 then 96 else 96 + 2 * x) + m]))) := by
        intro c hc
        unfold q_M_address_22
        refine pw_cl (p_M_letter i hi c) (fun v I g => ?_)
        obtain ⟨rfl, g2⟩ := g
        refine pw_cv hm (p_M_put hS hX hf (by rw [List.length_append, List.length_take]; omega) _) (fun _ J g => ?_)
        rw [show nI i + 1 = nI (i + 1) from nI_1 i]
        refine p_M_address_2 hS x m nm hnm hl (k - 1) n (i + 1) J (by omega) (by omega) g.1 ?_
        have ht : nm.take (i + 1) = nm.take i ++ [2 * v] := by
          rw [List.take_succ, g2, hc, List.getElem?_eq_getElem (by omega)]
          rfl
        rw [ht, ← List.append_assoc]
        exact g.2
      by_cases hx : x = 6
      · rw [if_pos hx]
        exact key 1 (by rw [hnm, if_pos hx]; rfl)
      · rw [if_neg hx]
        exact key 0 (by rw [hnm, if_neg hx]; rfl)
    · have hi6 : i = 6 := by omega
      subst hi6
      rw [List.take_of_length_le (by omega)] at hf
      refine pw_f (nI_nlt (a := 6) (b := 6) (by omega) (by decide)) ?_
      unfold q_M_address_53
      by_cases hx : x = 6
      · rw [if_pos hx, if_pos hx]
        refine pw_cv hm (p_M_put hS hX hf (by rw [List.length_append]; omega) _) (fun _ J g => pw_ret ⟨g.1, ?_⟩)
        rw [← List.append_assoc]
        exact g.2
      · rw [if_neg hx, if_neg hx]
        refine pw_cv hm (p_M_put hS hX hf (by rw [List.length_append]; omega) _) (fun _ J g => pw_ret ⟨g.1, ?_⟩)
        rw [← List.append_assoc]
        exact g.2
theorem p_M_address (hS : Shp S) (hX : RX I0 I A) (hf : rFr I l) (hl : l.length + 7 ≤ 90) (x m : Int32) (hx : x ≠ 6) : pw S (q_M_address (some 1282) x m (I, S)) (fun _ J => RX I0 J A ∧ rFr J (l ++ adr ((96 + 2 * x) + m))) := by
  unfold q_M_address
  have := p_M_address_2 (I0 := I0) (A := A) (l := l) hS x m nmS (by rw [if_neg hx]) hl 6 mFU 0 I (by omega) (by unfold mFU; omega) hX (by rw [List.take_zero, List.append_nil]; exact hf)
  rw [if_neg hx] at this
  exact this
theorem p_M_addressN (hS : Shp S) (hX : RX I0 I A) (hf : rFr I l) (hl : l.length + 7 ≤ 90) (m : Int32) : pw S (q_M_address (some 1282) 6 m (I, S)) (fun _ J => RX I0 J A ∧ rFr J (l ++ (nmN ++ [96 + m]))) := by
  unfold q_M_address
  exact p_M_address_2 (I0 := I0) (A := A) (l := l) hS 6 m nmN rfl hl 6 mFU 0 I (by omega) (by unfold mFU; omega) hX (by rw [List.take_zero, List.append_nil]; exact hf)
theorem be71 (hS : Shp S) (hX : RX I0 I A) (hf : rFr I l) (hl : l.length + 7 ≤ 90) (w : Int32) (hw : w ≠ 6) : pw S (q_M_begin_71 (some 1282) w (I, S)) (fun _ J => RX I0 J A ∧ rFr J (l ++ (if w = -1 then [] else adr ((96 + 2 * w) + 1)))) := by
  unfold q_M_begin_71
  by_cases h : w = -1
  · rw [if_pos h, if_pos h, List.append_nil]
    exact pw_ret ⟨hX, hf⟩
  · rw [if_neg h, if_neg h]
    refine pw_cv (M_k hS) (p_M_address hS hX hf hl w 1 hw) (fun _ J g => pw_ret g)
theorem be46 (hS : Shp S) (hX : RX I0 I A) (hf : rFr I l) (hl : l.length + 21 ≤ 90) (x m1 m0 v w : Int32) (hx : x ≠ 6) (hv : v ≠ 6) (hw : w ≠ 6) : pw S (q_M_begin_46 (some 1282) v w m0 m1 x (some 1282) (I, S)) (fun _ J => RX I0 J A ∧ rFr J (l ++ adr ((96 + 2 * x) + m1 + m0) ++ (if v = -1 then [] else adr ((96 + 2 * v) + (if w = -1 then 1 else 0))) ++ (if w = -1 then [] else adr ((96 + 2 * w) + 1)))) := by
  unfold q_M_begin_46
  refine pw_cv (M_k hS) (p_M_address hS hX hf (by omega) x _ hx) (fun _ J g => ?_)
  rw [← Int32.add_assoc] at g
  by_cases h : v = -1
  · rw [if_pos h, if_pos h, List.append_nil]
    exact be71 hS g.1 g.2 (by rw [List.length_append, adr_len]; omega) w hw
  · rw [if_neg h, if_neg h]
    unfold q_M_begin_68
    by_cases h2 : w = -1
    · rw [if_pos h2, if_pos h2]
      refine pw_cv (M_k hS) (p_M_address hS g.1 g.2 (by rw [List.length_append, adr_len]; omega) v 1 hv) (fun _ J2 g2 => ?_)
      exact be71 hS g2.1 g2.2 (by rw [List.length_append, List.length_append, adr_len, adr_len]; omega) w hw
    · rw [if_neg h2, if_neg h2]
      refine pw_cv (M_k hS) (p_M_address hS g.1 g.2 (by rw [List.length_append, adr_len]; omega) v 0 hv) (fun _ J2 g2 => ?_)
      exact be71 hS g2.1 g2.2 (by rw [List.length_append, List.length_append, adr_len, adr_len]; omega) w hw
theorem p_M_begin (hS : Shp S) (hX : RX I0 I A) (t x v w c : Int32) (ht : t ≠ 6) (hx : x ≠ 6) (hv : v ≠ 6) (hw : w ≠ 6) : pw S (q_M_begin (some 1282) t x v w c (I, S)) (fun _ J => RX I0 J A ∧ rFr J (hdr t x v w c)) := by
  have hm := M_k hS
  unfold q_M_begin hdr
  refine pw_pI hm ?_
  have hX2 : RX I0 (iput I 1282 34 0) A := RX_fr hX (fun r a _ => iput_n _ _ _ a) (fun j hj => iput_j _ _ _ hj)
  have hf2 : rFr (iput I 1282 34 0) [] := ⟨by rw [iput_s]; rfl, fun j x hj => by simp at hj⟩
  unfold q_M_begin_19 q_M_begin_36
  have fin : ∀ (J : mIm) (l : List Int32) (m1 : Int32), l.length = 7 → RX I0 J A → rFr J l → pw S (if v = -1 then q_M_begin_46 (some 1282) v w 1 m1 x (some 1282) (J, S) else q_M_begin_46 (some 1282) v w 0 m1 x (some 1282) (J, S)) (fun _ J => RX I0 J A ∧ rFr J (l ++ adr (((96 + 2 * x) + m1) + (if v = -1 then 1 else 0)) ++ (if v = -1 then [] else adr ((96 + 2 * v) + (if w = -1 then 1 else 0))) ++ (if w = -1 then [] else adr ((96 + 2 * w) + 1)))) := by
    intro J l m1 h7 hJ hfJ
    by_cases h : v = -1
    · have := be46 hS hJ hfJ (by omega) x m1 1 v w hx hv hw
      rw [if_pos h] at this
      rw [if_pos h, if_pos h, if_pos h]
      exact this
    · have := be46 hS hJ hfJ (by omega) x m1 0 v w hx hv hw
      rw [if_neg h] at this
      rw [if_neg h, if_neg h, if_neg h]
      exact this
  by_cases h : c = 0
  · rw [if_pos h, if_pos h, if_pos h]
    refine pw_cv hm (p_M_address hS hX2 hf2 (by decide) t 0 ht) (fun _ J g => ?_)
    rw [if_pos h]
    exact fin J _ 128 rfl g.1 g.2
  · rw [if_neg h, if_neg h, if_neg h]
    refine pw_cv hm (p_M_address hS hX2 hf2 (by decide) t 128 ht) (fun _ J g => ?_)
    rw [if_neg h]
    exact fin J _ 0 rfl g.1 g.2
theorem p_M_count (hS : Shp S) (hX : RX I0 I A) (hs : s < 6) (w : Nat) (hw : w < 5) : pw S (q_M_count (some 1282) (nI s) (nI w) (I, S)) (fun _ J => RX I0 J (cnt A s w)) := by
  unfold q_M_count
  exact rM hS (r := 1310) rfl (pw_lt (gA hS hX (5 * s + w) rfl (n_lin 5 s w) (by omega) (sA hS hX (5 * s + w) rfl (by decide) (n_lin 5 s w) (by omega) (fun J hJ => pw_ret hJ))))
/-- the queue's rows are others -/
theorem RX_Q0 {J : mIm} {ll : List (List Int32)} (hX : RX I0 I A) (e : ∀ r, r ≠ 1296 → r ≠ 1297 → r ≠ 1298 → J r = I r) (h : ∀ t, t < 6 → rQu J (aQ A 0 s ll) t) : RX I0 J (aQ A 0 s ll) := by
  obtain ⟨⟨h1, h2, h3, h4, h5⟩, h6, h7⟩ := hX
  refine ⟨⟨?_, fun q hq k hk => ?_, fun k hk => ?_, fun t ht => ⟨h t ht, ?_, ?_⟩, fun l hl => ?_⟩, fun r hr => ?_, fun j hj => ?_⟩
  · unfold rGl fL at h1 ⊢
    rw [e 1282 (by decide) (by decide) (by decide), e 1283 (by decide) (by decide) (by decide), e 1284 (by decide) (by decide) (by decide)]
    exact h1
  · obtain ⟨o1, o2, o3, o4, o5, o6, o7, o8, o9, o10, o11⟩ := rTab_o q hq
    rw [e q.1 o8 o9 o10]
    exact h2 q hq k hk
  · have := h3 k hk
    unfold rRv fL at this ⊢
    rw [e 1291 (by decide) (by decide) (by decide), e 1292 (by decide) (by decide) (by decide), e 1289 (by decide) (by decide) (by decide), e 1290 (by decide) (by decide) (by decide)]
    exact this
  · have := (h4 t ht).2.1
    unfold rMl fL at this ⊢
    rw [aQ_f _ _ _ _ (by decide), e 1344 (by decide) (by decide) (by decide), e 1345 (by decide) (by decide) (by decide)]
    exact this
  · have := (h4 t ht).2.2
    unfold rSn fL at this ⊢
    rw [e 1303 (by decide) (by decide) (by decide), e 1304 (by decide) (by decide) (by decide), e 1305 (by decide) (by decide) (by decide), e 1307 (by decide) (by decide) (by decide), e 1308 (by decide) (by decide) (by decide)]
    exact this
  · have := h5 l hl
    unfold rLk fL at this ⊢
    rw [aQ_f _ _ _ _ (by decide), aQ_f _ _ _ _ (by decide), e 1331 (by decide) (by decide) (by decide), e 1330 (by decide) (by decide) (by decide), e 1333 (by decide) (by decide) (by decide), e 1332 (by decide) (by decide) (by decide), e 1336 (by decide) (by decide) (by decide), e 1335 (by decide) (by decide) (by decide), e 1334 (by decide) (by decide) (by decide), e 1340 (by decide) (by decide) (by decide), e 1339 (by decide) (by decide) (by decide), e 1338 (by decide) (by decide) (by decide), e 1337 (by decide) (by decide) (by decide)]
    exact this
  · rw [e r (by unfold kp at hr; omega) (by unfold kp at hr; omega) (by unfold kp at hr; omega)]
    exact h6 r hr
  · rw [e 1282 (by decide) (by decide) (by decide)]
    exact h7 j hj
/-- the loop that copies the FRAME into the queue -/
theorem p_M_enqueue_42 (hS : Shp S) (hs : s < 6) (hl : l.length ≤ 90) (at0 : Nat) (hat : at0 < 72) {Q : Unit → mIm → Prop} (Ib : mIm) (hfin : ∀ J, fL J 1298 (90 * at0) l → (∀ j, (j < 90 * at0 ∨ 90 * at0 + 90 ≤ j) → J 1298 j = Ib 1298 j) → (∀ r, r ≠ 1298 → J r = Ib r) → pw S (x_gR (J, S) 10 (some 1282) 18 fun a5 => x_aI (J, S) 0 a5 (nI s) fun x6 => x_wI (J, S) a5 (nI s) (x6 + 1) fun M => some ((), M)) Q) (hf : rFr Ib l) : ∀ (k n i : Nat) (I : mIm), i + k = l.length → k < n → fL I 1298 (90 * at0) (l.take i) → (∀ j, (j < 90 * at0 ∨ 90 * at0 + 90 ≤ j) → I 1298 j = Ib 1298 j) → (∀ r, r ≠ 1298 → I r = Ib r) → pw S (q_M_enqueue_42 n (some 1282) (nI s) (nI at0) (nI i) (I, S)) Q
  | k, 0, i, I, _, h, _, _, _ => by omega
  | k, n + 1, i, I, hk, hn, g1, g2, g3 => by
    have hm := M_k hS
    have hq := aK_in hS (r := 1298) (t := 0) (n := 6480) rfl
    have hfr := aK_in hS (r := 1311) (t := 0) (n := 90) rfl
    show pw S (q_M_enqueue_42_b _ _ _ _ _ _) _
    unfold q_M_enqueue_42_b
    refine pw_gI hm ?_
    rw [g3 1282 (by decide), hf.1]
    by_cases hi : i < l.length
    · refine pw_t (nI_lt hi (by omega)) (rM hS (r := 1298) rfl (rM hS (r := 1311) rfl (pw_aI i hfr.1 rfl (by omega) (by omega) (pw_wI (90 * at0 + i) hq.1 (n_lin 90 at0 i) (by omega) (by omega) ?_))))
      rw [show nI i + 1 = nI (i + 1) from nI_1 i, g3 1311 (by decide)]
      have hx : Ib 1311 i = l[i] := by
        have := hf.2 i l[i] (List.getElem?_eq_getElem hi)
        rw [Nat.zero_add] at this
        exact this
      refine p_M_enqueue_42 hS hs hl at0 hat Ib hfin hf (k - 1) n (i + 1) _ (by omega) (by omega) ?_ (fun j hj => ?_) (fun r hr => ?_)
      · rw [hx, List.take_succ, List.getElem?_eq_getElem hi]
        have := fL_push (v := l[i]) g1
        rw [List.length_take, Nat.min_eq_left (by omega)] at this
        exact this
      · rw [iput_j _ _ _ (by omega)]
        exact g2 j hj
      · rw [iput_n _ _ _ hr]
        exact g3 r hr
    · have : i = l.length := by omega
      subst this
      rw [List.take_length] at g1
      exact pw_f (nI_nlt (by omega) (by omega)) (hfin I g1 g2 g3)
theorem p_M_enqueue (hS : Shp S) (hX : RX I0 I A) (hf : rFr I l) (hs : s < 6) (hl : l.length ≤ 90) : pw S (q_M_enqueue (some 1282) (nI s) (I, S)) (fun _ J => RX I0 J (aEnq A s l)) := by
  have hm := M_k hS
  have hz := aK_in hS (r := 1296) (t := 0) (n := 6) rfl
  have hg := aK_in hS (r := 1297) (t := 0) (n := 72) rfl
  obtain ⟨q1, q2, q3⟩ := (hX.1.2.2.2.1 s hs).1
  unfold q_M_enqueue aEnq
  refine rM hS (r := 1296) rfl (pw_aI s hz.1 rfl (by omega) (by omega) ?_)
  rw [q1]
  by_cases hq : (A.2.2 0 s).length < 12
  · rw [if_pos hq, if_neg (fun e => by have := (nI_eq (b := 12) (by omega) (by decide)).mp e; omega)]
    refine rM hS (r := 1296) rfl (pw_aI s hz.1 rfl (by omega) (by omega) (pw_lt (rM hS (r := 1297) rfl (pw_gI hm ?_))))
    rw [q1, hf.1, show (12 : Int32) * nI s + nI (A.2.2 0 s).length = nI (12 * s + (A.2.2 0 s).length) from n_lin 12 s _]
    refine pw_wI (12 * s + (A.2.2 0 s).length) hg.1 rfl (by omega) (by omega) ?_
    refine p_M_enqueue_42 (l := l) hS hs hl (12 * s + (A.2.2 0 s).length) (by omega) (iput I 1297 (12 * s + (A.2.2 0 s).length) (nI l.length)) (fun J j1 j2 j3 => ?_) ⟨?_, ?_⟩ l.length mFU 0 _ (by omega) (by unfold mFU; omega) (fun j x hj => by simp at hj) (fun _ _ => rfl) (fun _ _ => rfl)
    · refine rM hS (r := 1296) rfl (pw_aI s hz.1 rfl (by omega) (by omega) (pw_wI s hz.1 rfl (by omega) (by omega) (pw_ret ?_)))
      rw [j3 1296 (by decide), iput_n _ _ _ (by decide), q1]
      refine RX_Q0 hX (fun r a b c => ?_) (fun t ht => ?_)
      · rw [iput_n _ _ _ a, j3 r c, iput_n _ _ _ b]
      · unfold rQu fL
        rw [iput_n J s _ (a := 1297) (by decide), iput_n J s _ (a := 1298) (by decide), j3 1297 (by decide)]
        by_cases hts : t = s
        · subst hts
          rw [aQ_s, iput_s]
          refine ⟨?_, ?_, fun i z hz => ?_⟩
          · rw [List.length_append]
            exact nI_1 _
          · rw [List.length_append]
            show _ + 1 ≤ 12
            omega
          · by_cases hi : i < (A.2.2 0 t).length
            · rw [List.getElem?_append_left hi] at hz
              obtain ⟨z1, z2, z3⟩ := q3 i z hz
              refine ⟨z1, ?_, fun j x hj => ?_⟩
              · rw [iput_j _ _ _ (by omega)]
                exact z2
              · have hjl := (List.getElem?_eq_some_iff.mp hj).1
                rw [j2 _ (by omega), iput_n _ _ _ (by decide)]
                exact z3 j x hj
            · rw [List.getElem?_append_right (by omega)] at hz
              have hzl := (List.getElem?_eq_some_iff.mp hz).1
              simp at hzl
              have hie : i = (A.2.2 0 t).length := by omega
              subst hie
              rw [Nat.sub_self] at hz
              cases hz
              exact ⟨hl, iput_s _ _ _ _, j1⟩
        · obtain ⟨w1, w2, w3⟩ := (hX.1.2.2.2.1 t ht).1
          rw [aQ_k _ _ _ hts, iput_j _ _ _ hts, j3 1296 (by decide), iput_n _ _ _ (by decide)]
          refine ⟨w1, w2, fun i z hz => ?_⟩
          obtain ⟨z1, z2, z3⟩ := w3 i z hz
          have hil := (List.getElem?_eq_some_iff.mp hz).1
          refine ⟨z1, ?_, fun j x hj => ?_⟩
          · rw [iput_j _ _ _ (by omega)]
            exact z2
          · have hjl := (List.getElem?_eq_some_iff.mp hj).1
            rw [j2 _ (by omega), iput_n _ _ _ (by decide)]
            exact z3 j x hj
    · rw [iput_n _ _ _ (by decide)]
      exact hf.1
    · have := hf.2
      unfold fL at this ⊢
      rw [iput_n _ _ _ (by decide)]
      exact this
  · have h12 : (A.2.2 0 s).length = 12 := by omega
    rw [if_neg hq, h12]
    refine pw_t rfl (pw_cv hm (p_M_count hS hX hs 4 (by decide)) (fun _ J g => pw_ret g))
theorem nI_ne6 {n : Nat} (h : n < 6) : nI n ≠ 6 := fun e => by have := (nI_eq (b := 6) (by omega) (by decide)).mp e; omega
/-- the link's VIAS are stations or none -/
def aVi (A : aT) : Prop := ∀ l, l < 36 → A.1 21 l ≠ 6 ∧ A.1 22 l ≠ 6
theorem r_say (hS : Shp S) (hl : isLk s o) (hX : RX I0 I A) (hV : aVi A) (c i3 : Int32) : pw S (q_M_say (some 1282) (nI s) (nI o) i3 c (I, S)) (fun _ J => RX I0 J (aSay A s o c i3)) := by
  have hm := M_k hS
  obtain ⟨h1, h2, h3⟩ := hl
  have hv := hV (6 * s + o) (by omega)
  unfold q_M_say aSay
  refine pw_lt ?_
  rw [show (6 : Int32) * nI s + nI o = nI (6 * s + o) from n_lin 6 s o]
  refine rM hS (r := 1317) rfl (gA hS hX (6 * s + o) rfl rfl (by omega) (rM hS (r := 1318) rfl (gA hS hX (6 * s + o) rfl rfl (by omega) ?_)))
  refine pw_cv hm (p_M_begin hS hX (nI o) (nI s) _ _ i3 (nI_ne6 h2) (nI_ne6 h1) hv.1 hv.2) (fun _ J g => ?_)
  have hd := hdr_len (nI o) (nI s) (A.1 21 (6 * s + o)) (A.1 22 (6 * s + o)) i3
  refine pw_cv hm (p_M_put hS g.1 g.2 (by omega) c) (fun _ J2 g2 => rM hS (r := 1319) rfl (gA hS g2.1 (6 * s + o) rfl rfl (by omega) ?_))
  refine pw_cv hm (p_M_put hS g2.1 g2.2 (by rw [List.length_append]; show _ + 1 < 90; omega) _) (fun _ J3 g3 => ?_)
  rw [List.append_assoc] at g3
  refine pw_cv hm (p_M_enqueue hS g3.1 g3.2 h1 (by rw [List.length_append]; show _ + 2 ≤ 90; omega)) (fun _ J4 g4 => pw_ret g4)
end RS
