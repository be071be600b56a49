/-! sending: the reference -/
def fSx (I J : mIm) (s : Nat) : Prop := (∀ r, r ≠ 1282 → r ≠ 1285 → r ≠ 1296 → r ≠ 1297 → r ≠ 1298 → (r < 1301 ∨ 1310 < r) → J r = I r) ∧ (∀ j, j ≠ 5 → j ≠ 6 → J 1282 j = I 1282 j) ∧ (∀ r, (r = 1296 ∨ r = 1301 ∨ r = 1302 ∨ r = 1303 ∨ r = 1304 ∨ r = 1306 ∨ r = 1307 ∨ r = 1309) → ∀ j, j ≠ s → J r j = I r j) ∧ (∀ j, (j < 12 * s ∨ 12 * s + 12 ≤ j) → J 1297 j = I 1297 j) ∧ (∀ j, (j < 1080 * s ∨ 1080 * s + 1080 ≤ j) → J 1298 j = I 1298 j) ∧ (∀ j, (j < 1024 * s ∨ 1024 * s + 1024 ≤ j) → J 1305 j = I 1305 j) ∧ (∀ j, (j < 90 * s ∨ 90 * s + 90 ≤ j) → J 1308 j = I 1308 j) ∧ (∀ j, j ≠ 5 * s → J 1310 j = I 1310 j)
def qOf (J : mIm) (s : Nat) (ll : List (List Int32)) : Prop := J 1296 s = nI ll.length ∧ ll.length ≤ 12 ∧ ∀ (i : Nat) (l : List Int32), ll[i]? = some l → l.length ≤ 90 ∧ J 1297 (12 * s + i) = nI l.length ∧ fL J 1298 (90 * (12 * s + i)) l
def lnOf (J : mIm) (s : Nat) (L : List Int32) : Prop := ∃ a : Nat, J 1304 s = nI a ∧ J 1303 s = nI (a + L.length) ∧ a + L.length ≤ 1024 ∧ fL J 1305 (1024 * s + a) L
def fmS (J : mIm) (s : Nat) (F : List Int32) : Prop := J 1307 s = nI F.length ∧ F.length ≤ 90 ∧ fL J 1308 (90 * s) F
theorem rT_4 : ∀ q ∈ rTab, q = (1301, 5, 6) ∨ q = (1302, 6, 6) ∨ q = (1306, 7, 6) ∨ q = (1310, 8, 30) ∨ ((q.1 ≠ 1282 ∧ q.1 ≠ 1285 ∧ q.1 ≠ 1296 ∧ q.1 ≠ 1297 ∧ q.1 ≠ 1298 ∧ (q.1 < 1301 ∨ 1310 < q.1)) ∧ q.2.1 ≠ 5 ∧ q.2.1 ≠ 6 ∧ q.2.1 ≠ 7 ∧ q.2.1 ≠ 8) := by decide
theorem fSx_0 {I : mIm} {s : Nat} : fSx I I s := ⟨fun _ _ _ _ _ _ _ => rfl, fun _ _ _ => rfl, fun _ _ _ _ => rfl, fun _ _ => rfl, fun _ _ => rfl, fun _ _ => rfl, fun _ _ => rfl, fun _ _ => rfl⟩
theorem fSx_t {I J K : mIm} {s : Nat} (h : fSx I J s) (g : fSx J K s) : fSx I K s := by
  obtain ⟨h1, h2, h3, h4, h5, h6, h7, h8⟩ := h
  obtain ⟨g1, g2, g3, g4, g5, g6, g7, g8⟩ := g
  exact ⟨fun r a b c d e f => by rw [g1 r a b c d e f, h1 r a b c d e f], fun j a b => by rw [g2 j a b, h2 j a b], fun r a j hj => by rw [g3 r a j hj, h3 r a j hj], fun j hj => by rw [g4 j hj, h4 j hj], fun j hj => by rw [g5 j hj, h5 j hj], fun j hj => by rw [g6 j hj, h6 j hj], fun j hj => by rw [g7 j hj, h7 j hj], fun j hj => by rw [g8 j hj, h8 j hj]⟩
theorem fSx_w {I : mIm} {r s : Nat} {v : Int32} (h : r = 1296 ∨ r = 1301 ∨ r = 1302 ∨ r = 1303 ∨ r = 1304 ∨ r = 1306 ∨ r = 1307 ∨ r = 1309) : fSx I (iput I r s v) s := ⟨fun x a b c d e f => iput_n _ _ _ (by omega), fun j a b => by rw [iput_n _ _ _ (by omega)], fun x a j hj => by
  by_cases e : x = r
  · subst e; exact iput_j _ _ _ hj
  · rw [iput_n _ _ _ e], fun j hj => by rw [iput_n _ _ _ (by omega)], fun j hj => by rw [iput_n _ _ _ (by omega)], fun j hj => by rw [iput_n _ _ _ (by omega)], fun j hj => by rw [iput_n _ _ _ (by omega)], fun j hj => by rw [iput_n _ _ _ (by omega)]⟩
theorem fSx_M {I J : mIm} {s : Nat} (h : fM I J) : fSx I J s := ⟨fun r a b c d e f => h.1 r a b, h.2, fun r a j hj => by rw [h.1 r (by omega) (by omega)], fun j hj => by rw [h.1 1297 (by decide) (by decide)], fun j hj => by rw [h.1 1298 (by decide) (by decide)], fun j hj => by rw [h.1 1305 (by decide) (by decide)], fun j hj => by rw [h.1 1308 (by decide) (by decide)], fun j hj => by rw [h.1 1310 (by decide) (by decide)]⟩
theorem RInv_sx {I J : mIm} {A : aT} {s : Nat} {v sd hd c : Int32} {L F : List Int32} {ll : List (List Int32)} (hR : RInv I A) (hs : s < 6) (hf : fSx I J s) (h5 : J 1301 s = v) (h6 : J 1302 s = sd) (h7 : J 1306 s = hd) (h8 : J 1310 (5 * s) = c) (hq : qOf J s ll) (hn : sd = 1 → lnOf J s L ∧ (0 < hd → fmS J s F)) : RInv J (aSx A s v sd hd L F ll c) := by
  obtain ⟨f1, f2, f3, f4, f5, f6, f7, f8⟩ := hf
  obtain ⟨r1, r2, r3, r4, r5⟩ := hR
  refine ⟨?_, fun q hq' i hi => ?_, fun i hi => ?_, fun t ht => ⟨?_, ?_, ?_⟩, fun l hl => ?_⟩
  · unfold rGl fL at r1 ⊢
    rw [f2 15 (by decide) (by decide), f2 1 (by decide) (by decide), f2 3 (by decide) (by decide), f1 1283 (by decide) (by decide) (by decide) (by decide) (by decide) (by decide), f1 1284 (by decide) (by decide) (by decide) (by decide) (by decide) (by decide), aSx_1 (by omega), aSx_2 (by omega), aSx_2 (by omega)]
    exact r1
  · rcases rT_4 q hq' with w | w | w | w | ⟨⟨w1, w2, w3, w4, w5, w6⟩, w7, w8, w9, w10⟩
    · subst w
      show J 1301 i = (aSx A s v sd hd L F ll c).1 5 i
      by_cases e : i = s
      · subst e; rw [aSx_5s]; exact h5
      · rw [aSx_1i e (Or.inl (by decide)), f3 1301 (by omega) i e]; exact r2 _ hq' i hi
    · subst w
      show J 1302 i = (aSx A s v sd hd L F ll c).1 6 i
      by_cases e : i = s
      · subst e; rw [aSx_6s]; exact h6
      · rw [aSx_1i e (Or.inl (by decide)), f3 1302 (by omega) i e]; exact r2 _ hq' i hi
    · subst w
      show J 1306 i = (aSx A s v sd hd L F ll c).1 7 i
      by_cases e : i = s
      · subst e; rw [aSx_7s]; exact h7
      · rw [aSx_1i e (Or.inl (by decide)), f3 1306 (by omega) i e]; exact r2 _ hq' i hi
    · subst w
      show J 1310 i = (aSx A s v sd hd L F ll c).1 8 i
      by_cases e : i = 5 * s
      · subst e; rw [aSx_8s]; exact h8
      · rw [aSx_8 e, f8 i e]; exact r2 _ hq' i hi
    · rw [f1 q.1 w1 w2 w3 w4 w5 w6, aSx_1 ⟨w7, w8, w9, w10⟩]
      exact r2 q hq' i hi
  · have := r3 i hi
    unfold rRv fL at this ⊢
    rw [aSx_2 (by omega), aSx_2 (by omega), aSx_1 (by omega), f1 1291 (by decide) (by decide) (by decide) (by decide) (by decide) (by decide), f1 1292 (by decide) (by decide) (by decide) (by decide) (by decide) (by decide), f1 1289 (by decide) (by decide) (by decide) (by decide) (by decide) (by decide), f1 1290 (by decide) (by decide) (by decide) (by decide) (by decide) (by decide)]
    exact this
  · unfold rQu
    by_cases e : t = s
    · subst e
      rw [aSx_Q]
      exact hq
    · obtain ⟨g1, g2, g3⟩ := (r4 t ht).1
      rw [aSx_3 (by omega)]
      refine ⟨by rw [f3 1296 (by omega) t e]; exact g1, g2, fun i l hl => ?_⟩
      have hlt := (List.getElem?_eq_some_iff.mp hl).1
      obtain ⟨y1, y2, y3⟩ := g3 i l hl
      refine ⟨y1, by rw [f4 _ (by omega)]; exact y2, fun j x hj => ?_⟩
      have hlt2 := (List.getElem?_eq_some_iff.mp hj).1
      rw [f5 _ (by omega)]
      exact y3 j x hj
  · have := (r4 t ht).2.1
    unfold rMl fL at this ⊢
    rw [aSx_3 (by omega), f1 1344 (by decide) (by decide) (by decide) (by decide) (by decide) (by decide), f1 1345 (by decide) (by decide) (by decide) (by decide) (by decide) (by decide)]
    exact this
  · unfold rSn
    by_cases e : t = s
    · subst e
      rw [aSx_6s, aSx_4s, aSx_7s, aSx_F]
      exact hn
    · rw [aSx_1i e (Or.inl (by decide)), aSx_1i e (Or.inl (by decide)), aSx_2 (by omega), aSx_2 (by omega)]
      intro q
      obtain ⟨⟨a, g1, g2, g3, g4⟩, g5⟩ := (r4 t ht).2.2 q
      refine ⟨⟨a, by rw [f3 1304 (by omega) t e]; exact g1, by rw [f3 1303 (by omega) t e]; exact g2, g3, fun j x hj => ?_⟩, fun q2 => ?_⟩
      · have hlt := (List.getElem?_eq_some_iff.mp hj).1
        rw [f6 _ (by omega)]
        exact g4 j x hj
      · obtain ⟨y1, y2, y3⟩ := g5 q2
        refine ⟨by rw [f3 1307 (by omega) t e]; exact y1, y2, fun j x hj => ?_⟩
        have hlt := (List.getElem?_eq_some_iff.mp hj).1
        rw [f7 _ (by omega)]
        exact y3 j x hj
  · have := r5 l hl
    unfold rLk fL at this ⊢
    have f1' : ∀ r, 1310 < r → J r = I r := fun r h => f1 r (by omega) (by omega) (by omega) (by omega) (by omega) (Or.inr h)
    rw [aSx_2 (by omega), aSx_2 (by omega), aSx_3 (by omega), aSx_3 (by omega), f1' 1331 (by decide), f1' 1330 (by decide), f1' 1333 (by decide), f1' 1332 (by decide), f1' 1336 (by decide), f1' 1335 (by decide), f1' 1334 (by decide), f1' 1340 (by decide), f1' 1339 (by decide), f1' 1338 (by decide), f1' 1337 (by decide)]
    exact this
section RS
variable {S : mS} {I J I0 : mIm} {A : aT} {s : Nat} {M : List Int32} {o : Nat}
theorem r_lineIs_2 (hS : Shp S) (hs : s < 6) (h : rMd I M o) (hl : M.length ≤ 1024) : ∀ (f m k : Nat) (J : mIm), k + f = M.length → f < m → (∀ r, r ≠ 1305 → J r = I r) → (∀ j, (j < 1024 * s ∨ 1024 * s + 1024 ≤ j) → J 1305 j = I 1305 j) → (∀ j, j < k → J 1305 (1024 * s + j) = pA M j) → pw S (q_M_lineIs_2 m (some 1282) (nI s) (nI k) (J, S)) (fun _ K => fSx I K s ∧ lnOf K s M ∧ ∀ r, r ≠ 1303 → r ≠ 1304 → r ≠ 1305 → K r = I r)
  | f, 0, k, J, _, h, _, _, _ => by omega
  | 0, m + 1, k, J, hk, hm, h1, h2, h3 => by
    have hM := M_k hS
    have a03 := aK_in hS (r := 1303) (t := 0) (n := 6) rfl
    have a04 := aK_in hS (r := 1304) (t := 0) (n := 6) rfl
    have e : k = M.length := by omega
    subst e
    have e5 : J 1282 5 = nI M.length := by rw [h1 1282 (by decide)]; exact h.1
    show pw S (q_M_lineIs_2_b _ _ _ _ _) _
    unfold q_M_lineIs_2_b
    refine pw_gE hM e5 (pw_f (nI_nlt (by omega) (by omega)) (rM hS (r := 1303) rfl (pw_gE hM e5 (pw_wI s a03.1 rfl (by omega) (by omega) (rM hS (r := 1304) rfl (pw_wI s a04.1 rfl (by omega) (by omega) (pw_ret ?_)))))))
    refine ⟨fSx_t (J := J) ⟨fun r a b c d e f => h1 r (by omega), fun j a b => by rw [h1 1282 (by decide)], fun r a j hj => by rw [h1 r (by omega)], fun j hj => by rw [h1 1297 (by decide)], fun j hj => by rw [h1 1298 (by decide)], h2, fun j hj => by rw [h1 1308 (by decide)], fun j hj => by rw [h1 1310 (by decide)]⟩ (fSx_t (fSx_w (by omega)) (fSx_w (by omega))), ⟨0, iput_s _ _ _ _, ?_, by omega, fun j x hj => ?_⟩, fun r a b c => ?_⟩
    · rw [iput_n _ _ _ (by decide), iput_s, Nat.zero_add]
    · have hlt := (List.getElem?_eq_some_iff.mp hj).1
      rw [iput_n _ _ _ (by decide), iput_n _ _ _ (by decide), Nat.add_zero, h3 j hlt]
      unfold pA
      rw [hj]
      rfl
    · rw [iput_n _ _ _ b, iput_n _ _ _ a]; exact h1 r c
  | f + 1, m + 1, k, J, hk, hm, h1, h2, h3 => by
    have hM := M_k hS
    have a05 := aK_in hS (r := 1305) (t := 0) (n := 6144) rfl
    have a85 := aK_in hS (r := 1285) (t := 0) (n := 1024) rfl
    have e5 : J 1282 5 = nI M.length := by rw [h1 1282 (by decide)]; exact h.1
    show pw S (q_M_lineIs_2_b _ _ _ _ _) _
    unfold q_M_lineIs_2_b
    refine pw_gE hM e5 (pw_t (nI_lt (by omega) (by omega)) (rM hS (r := 1305) rfl (rM hS (r := 1285) rfl (pw_aI k a85.1 rfl (by omega) (by omega) (pw_wI (1024 * s + k) a05.1 (by rw [show (1024 : Int32) * nI s = nI (1024 * s) from pk_mul 1024 s, nI_add]) (by omega) (by omega) ?_)))))
    have ex : J 1285 k = pA M k := by
      have := h.2.1 k M[k] (List.getElem?_eq_getElem (by omega))
      rw [Nat.zero_add] at this
      rw [h1 1285 (by decide), this]
      unfold pA
      rw [List.getElem?_eq_getElem (by omega)]
      rfl
    rw [ex, show nI k + 1 = nI (k + 1) from nI_1 k]
    refine r_lineIs_2 hS hs h hl f m (k + 1) _ (by omega) (by omega) (fun r hr => by rw [iput_n _ _ _ hr]; exact h1 r hr) (fun j hj => by rw [iput_j _ _ _ (by omega)]; exact h2 j hj) (fun j hj => ?_)
    by_cases e : j = k
    · subst e; rw [iput_s]
    · rw [iput_j _ _ _ (by omega)]; exact h3 j (by omega)
theorem r_lineIs (hS : Shp S) (hs : s < 6) (h : rMd I M o) (hl : M.length ≤ 1024) : pw S (q_M_lineIs (some 1282) (nI s) (I, S)) (fun _ K => fSx I K s ∧ lnOf K s M ∧ ∀ r, r ≠ 1303 → r ≠ 1304 → r ≠ 1305 → K r = I r) := r_lineIs_2 hS hs h hl M.length mFU 0 I (by omega) (by unfold mFU; omega) (fun _ _ => rfl) (fun _ _ => rfl) (fun j hj => by omega)
theorem flg_8 : ∀ i, i < 16 → flg (8 * i) ++ flg 8 = flg (8 * (i + 1)) := by decide
theorem dr142 (hS : Shp S) (hs : s < 6) {n : Nat} (hn : n ≤ 16) (ht : I 1294 (9 * s + 2) = nI n) : ∀ (f m k : Nat) (J : mIm), k + f = n → f < m → fM I J → (∃ o, rMd J (flg (8 * k)) o) → pw S (q_M_draws_142 m (some 1282) (nI s) (nI k) (J, S)) (fun _ K => fSx I K s ∧ lnOf K s (flg (8 * n)) ∧ ∀ r, r ≠ 1282 → r ≠ 1285 → r ≠ 1303 → r ≠ 1304 → r ≠ 1305 → K r = I r)
  | f, 0, k, J, _, h, _, _ => by omega
  | f, m + 1, k, J, hk, hm, hf, hd => by
    have hM := M_k hS
    have a94 := aK_in hS (r := 1294) (t := 0) (n := 54) rfl
    obtain ⟨o, hd⟩ := hd
    show pw S (q_M_draws_142_b _ _ _ _ _) _
    unfold q_M_draws_142_b
    refine rM hS (r := 1294) rfl (pw_aI (9 * s + 2) a94.1 (by rw [show (9 : Int32) * nI s = nI (9 * s) from pk_mul 9 s]; exact nI_add _ 2) (by omega) (by omega) ?_)
    rw [hf.1 1294 (by decide) (by decide), ht]
    by_cases hlt : k < n
    · obtain ⟨f, rfl⟩ : ∃ q, f = q + 1 := ⟨f - 1, by omega⟩
      refine pw_t (nI_lt hlt (by omega)) (pw_cv hM (r_makeFlag hS hd (by rw [flg_len]; omega)) (fun _ J2 g => ?_))
      rw [show nI k + 1 = nI (k + 1) from nI_1 k]
      have g2 := g.2
      rw [flg_8 k (by omega)] at g2
      exact dr142 hS hs hn ht f m (k + 1) J2 (by omega) (by omega) (fM_t hf g.1) ⟨0, g2⟩
    · have e : k = n := by omega
      subst e
      refine pw_f (nI_nlt (by omega) (by omega)) (pw_cv hM (r_lineIs hS hs hd (by rw [flg_len]; omega)) (fun _ J2 g => pw_ret ⟨fSx_t (fSx_M hf) g.1, g.2.1, fun r a b c d e => by rw [g.2.2 r c d e]; exact hf.1 r a b⟩))
theorem r_draws (hS : Shp S) (hs : s < 6) (hX : RX I0 I A) (hl : aLd A) : pw S (q_M_draws (some 1282) (nI s) (I, S)) (fun _ K => RInv K (aDrw A s) ∧ ∀ r, r < 1282 → K r = I0 r) := by
  have hM := M_k hS
  have up : ∀ {B : aT} {K : mIm}, RX I0 K B → RInv K B ∧ ∀ r, r < 1282 → K r = I0 r := fun g => ⟨g.1, fun r hr => g.2.1 r (Or.inl hr)⟩
  have e9 : ∀ w : Nat, (9 : Int32) * nI s + nI w = nI (9 * s + w) := fun w => by rw [show (9 : Int32) * nI s = nI (9 * s) from pk_mul 9 s, nI_add]
  have hq := (hX.1.2.2.2.1 s hs).1
  have a96 := aK_in hS (r := 1296) (t := 0) (n := 6) rfl
  unfold q_M_draws aDrw
  refine rM hS (r := 1302) rfl (gA hS hX (r := 1302) s rfl rfl (by omega) ?_)
  by_cases e6 : A.1 6 s = 0
  · refine pw_t e6 (rM hS (r := 1296) rfl (pw_aI s a96.1 rfl (by omega) (by omega) ?_))
    rw [hq.1]
    by_cases e0 : (A.2.2 0 s).length = 0
    · rw [if_pos e0]
      exact pw_t (by rw [e0]; rfl) (pw_ret (up hX))
    · rw [if_neg e0, if_pos e6]
      refine pw_f (nI_ne0 (by omega) (by have := hq.2.1; omega)) (rM hS (r := 1300) rfl (gA hS hX (r := 1300) s rfl rfl (by omega) ?_))
      by_cases e4 : A.1 4 s = 0
      · rw [if_pos e4, if_pos e4]
        unfold aDr1
        refine rM hS (r := 1299) rfl (gA hS hX (r := 1299) s rfl rfl (by omega) ?_)
        by_cases e3 : 0 < A.1 3 s
        · rw [if_pos e3, if_pos e3]
          exact rM hS (r := 1299) rfl (gA hS hX (r := 1299) s rfl rfl (by omega) (sA hS hX (r := 1299) s rfl (by decide) rfl (by omega) (fun K g => pw_ret (up g))))
        · rw [if_neg e3, if_neg e3]
          refine rM hS (r := 1294) rfl (gA hS hX (r := 1294) (9 * s + 3) rfl (e9 3) (by omega) (pw_lt (rM hS (r := 1294) rfl (sA hS hX (r := 1294) (9 * s + 3) rfl (by decide) (e9 3) (by omega) (fun I1 h1 => ?_)))))
          have hl1 : ∃ n : Nat, 1 ≤ n ∧ n ≤ 16 ∧ (aI A 1 (9 * s + 3) (A.1 1 (9 * s + 3) * 1103515245 + 12345)).1 1 (9 * s + 2) = nI n := by rw [aI_k _ _ _ (by omega)]; exact hl s hs
          unfold aDr2
          rw [aI_s]
          generalize hd : A.1 1 (9 * s + 3) * 1103515245 + 12345 = d at h1 hl1 ⊢
          generalize aI A 1 (9 * s + 3) d = B at h1 hl1 ⊢
          obtain ⟨n, n1, n2, en⟩ := hl1
          refine rM hS (r := 1294) rfl (gA hS h1 (r := 1294) (9 * s + 0) rfl (pk_mul 9 s) (by omega) ?_)
          by_cases e2 : mush d 24 < B.1 1 (9 * s + 0)
          · rw [if_pos e2, if_pos e2]
            have a02 := aK_in hS (r := 1302) (t := 1) (n := 6) rfl
            have a06 := aK_in hS (r := 1306) (t := 0) (n := 6) rfl
            have a07 := aK_in hS (r := 1307) (t := 0) (n := 6) rfl
            refine rM hS (r := 1302) rfl (pw_wZ s a02.1 rfl (by omega) (by omega) (Or.inr rfl) (rM hS (r := 1306) rfl (pw_wI s a06.1 rfl (by omega) (by omega) (rM hS (r := 1307) rfl (pw_wI s a07.1 rfl (by omega) (by omega) (pw_pI hM ?_))))))
            have ht : I1 1294 (9 * s + 2) = nI n := by rw [rsc h1.1 0 rfl (show 9 * s + 2 < 54 by omega)]; exact en
            have hq1 := (h1.1.2.2.2.1 s hs).1
            have q5 := rsc h1.1 4 (r := 1301) (f := 5) (n := 6) rfl (show s < 6 from hs)
            have q8 := rsc h1.1 7 (r := 1310) (f := 8) (n := 30) rfl (show 5 * s < 30 by omega)
            refine pw_mono (dr142 (I := iput (iput (iput (iput I1 1302 s 1) 1306 s 0) 1307 s 0) 1282 5 0) hS hs n2 (by rw [iput_n _ _ _ (by decide), iput_n _ _ _ (by decide), iput_n _ _ _ (by decide), iput_n _ _ _ (by decide)]; exact ht) n mFU 0 _ (by omega) (by unfold mFU; omega) fM_0 ⟨_, by rw [iput_s]; rfl, fun j x hj => by simp [flg] at hj, i32_nat _⟩) (fun _ K g => ?_)
            obtain ⟨g1, g2, g3⟩ := g
            have hf : fSx I1 K s := fSx_t (fSx_w (by omega)) (fSx_t (fSx_w (by omega)) (fSx_t (fSx_w (by omega)) (fSx_t (fSx_M (fM_p (Or.inl rfl))) g1)))
            have gr : ∀ r, r ≠ 1282 → r ≠ 1285 → r ≠ 1302 → r ≠ 1303 → r ≠ 1304 → r ≠ 1305 → r ≠ 1306 → r ≠ 1307 → K r = I1 r := fun r a b c d e f g h => by rw [g3 r a b d e f, iput_n _ _ _ a, iput_n _ _ _ h, iput_n _ _ _ g, iput_n _ _ _ c]
            refine ⟨?_, fun r hr => by rw [gr r (by omega) (by omega) (by omega) (by omega) (by omega) (by omega) (by omega) (by omega)]; exact h1.2.1 r (Or.inl hr)⟩
            unfold aStt
            rw [en, nI_clamp (by omega)]
            refine RInv_sx h1.1 hs hf ?_ ?_ ?_ ?_ ⟨?_, hq1.2.1, fun i l hl => ?_⟩ (fun _ => ⟨g2, fun q => absurd q (by decide)⟩)
            · rw [gr 1301 (by decide) (by decide) (by decide) (by decide) (by decide) (by decide) (by decide) (by decide)]; exact q5
            · rw [g3 1302 (by decide) (by decide) (by decide) (by decide) (by decide), iput_n _ _ _ (by decide), iput_n _ _ _ (by decide), iput_n _ _ _ (by decide), iput_s]
            · rw [g3 1306 (by decide) (by decide) (by decide) (by decide) (by decide), iput_n _ _ _ (by decide), iput_n _ _ _ (by decide), iput_s]
            · rw [gr 1310 (by decide) (by decide) (by decide) (by decide) (by decide) (by decide) (by decide) (by decide)]; exact q8
            · rw [gr 1296 (by decide) (by decide) (by decide) (by decide) (by decide) (by decide) (by decide) (by decide)]; exact hq1.1
            · unfold fL
              rw [gr 1297 (by decide) (by decide) (by decide) (by decide) (by decide) (by decide) (by decide) (by decide), gr 1298 (by decide) (by decide) (by decide) (by decide) (by decide) (by decide) (by decide) (by decide)]
              exact hq1.2.2 i l hl
          · rw [if_neg e2, if_neg e2]
            exact rM hS (r := 1299) rfl (rM hS (r := 1294) rfl (gA hS h1 (r := 1294) (9 * s + 1) rfl (e9 1) (by omega) (sA hS h1 (r := 1299) s rfl (by decide) rfl (by omega) (fun K g => pw_ret (up g)))))
      · rw [if_neg e4, if_neg e4]
        exact pw_ret (up hX)
  · refine pw_f e6 ?_
    by_cases e0 : (A.2.2 0 s).length = 0
    · rw [if_pos e0]
      exact pw_ret (up hX)
    · rw [if_neg e0, if_neg e6]
      exact pw_ret (up hX)
end RS
