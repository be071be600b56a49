def l_B_init (t0 : Option Nat) (i1 : Int32) (M : mY) : Option (Unit × mY) :=
    y_oi t0 <|
    y_na M 0 (if (0 : Int32) < i1 then i1 else (0 : Int32)) fun a1 M =>
    y_pR M 0 t0 0 a1 fun M =>
    some ((), M)
theorem g_B_init (t0 : Option Nat) (i1 : Int32) (M : mY) : q_B_init t0 i1 (toM M) = hm (l_B_init t0 i1 M) := by
  unfold q_B_init l_B_init
  refine hm_oi ?_
  refine hm_na (fun a1 M => ?_)
  refine hm_pR (fun M => ?_)
  rfl
def l_P_init (t0 : Option Nat) (M : mY) : Option (Unit × mY) :=
    y_oi t0 <|
    y_pI M 3 t0 1 (-1 : Int32) fun M =>
    y_pI M 3 t0 2 (-1 : Int32) fun M =>
    some ((), M)
theorem g_P_init (t0 : Option Nat) (M : mY) : q_P_init t0 (toM M) = hm (l_P_init t0 M) := by
  unfold q_P_init l_P_init
  refine hm_oi ?_
  refine hm_pI (fun M => ?_)
  refine hm_pI (fun M => ?_)
  rfl
def l_F_init (t0 : Option Nat) (M : mY) : Option (Unit × mY) :=
    y_oi t0 <|
    y_nw M 3 fun a1 M =>
    y_ci a1 (l_P_init a1 M) fun _ M =>
    y_pR M 1 t0 11 a1 fun M =>
    some ((), M)
theorem g_F_init (t0 : Option Nat) (M : mY) : q_F_init t0 (toM M) = hm (l_F_init t0 M) := by
  unfold q_F_init l_F_init
  refine hm_oi ?_
  refine hm_nw (fun a1 M => ?_)
  refine hm_ci (g_P_init a1 M) (fun _ M => ?_)
  refine hm_pR (fun M => ?_)
  rfl
def l_W_init_18_b (r18 : Option Nat → Int32 → Int32 → mY → Option (Unit × mY)) (t0 : Option Nat) (i2 : Int32) (i3 : Int32) (M : mY) : Option (Unit × mY) :=
    y_gR M 6 t0 0 fun a1 =>
    y_al M 2 a1 fun x2 =>
    if i3 < x2 then
      y_gR M 6 t0 0 fun a3 =>
      y_nw M 0 fun a4 M =>
      y_ci a4 (l_B_init a4 i2 M) fun _ M =>
      y_wR M 0 0 a3 i3 a4 fun M =>
      r18 t0 i2 (i3 + 1) M
    else
      some ((), M)
theorem g_W_init_18_b (r18 : Option Nat → Int32 → Int32 → mM → Option (Unit × mM)) (r18' : Option Nat → Int32 → Int32 → mY → Option (Unit × mY)) (h18 : ∀ (w0 : Option Nat) (w1 : Int32) (w2 : Int32) (M : mY), r18 w0 w1 w2 (toM M) = hm (r18' w0 w1 w2 M)) (t0 : Option Nat) (i2 : Int32) (i3 : Int32) (M : mY) : q_W_init_18_b r18 t0 i2 i3 (toM M) = hm (l_W_init_18_b r18' t0 i2 i3 M) := by
  unfold q_W_init_18_b l_W_init_18_b
  refine hm_gR (fun a1 => ?_)
  refine hm_al (fun x2 => ?_)
  refine hm_if ?_ ?_
  · refine hm_gR (fun a3 => ?_)
    refine hm_nw (fun a4 M => ?_)
    refine hm_ci (g_B_init a4 i2 M) (fun _ M => ?_)
    refine hm_wR (fun M => ?_)
    exact h18 t0 i2 (i3 + 1) M
  · rfl
def l_W_init_18 : Nat → Option Nat → Int32 → Int32 → mY → Option (Unit × mY)
  | 0, _, _, _, _ => none
  | n + 1, t0, i2, i3, M => l_W_init_18_b (l_W_init_18 n) t0 i2 i3 M
theorem g_W_init_18 : ∀ (n : Nat) (z0 : Option Nat) (z1 : Int32) (z2 : Int32) (M : mY), q_W_init_18 n z0 z1 z2 (toM M) = hm (l_W_init_18 n z0 z1 z2 M)
  | 0, _, _, _, _ => rfl
  | n + 1, z0, z1, z2, M => g_W_init_18_b _ _ (g_W_init_18 n) z0 z1 z2 M
def l_W_init (t0 : Option Nat) (i1 : Int32) (i2 : Int32) (M : mY) : Option (Unit × mY) :=
    y_oi t0 <|
    y_na M 2 (if (1 : Int32) < i1 then i1 else (1 : Int32)) fun a1 M =>
    y_pR M 6 t0 0 a1 fun M =>
    l_W_init_18 mFU t0 i2 (0 : Int32) M
theorem g_W_init (t0 : Option Nat) (i1 : Int32) (i2 : Int32) (M : mY) : q_W_init t0 i1 i2 (toM M) = hm (l_W_init t0 i1 i2 M) := by
  unfold q_W_init l_W_init
  refine hm_oi ?_
  refine hm_na (fun a1 M => ?_)
  refine hm_pR (fun M => ?_)
  exact g_W_init_18 mFU t0 i2 (0 : Int32) M
def l_S_init (t0 : Option Nat) (M : mY) : Option (Unit × mY) :=
    y_oi t0 <|
    y_nw M 0 fun a1 M =>
    y_ci a1 (l_B_init a1 (92 : Int32) M) fun _ M =>
    y_pR M 7 t0 0 a1 fun M =>
    some ((), M)
theorem g_S_init (t0 : Option Nat) (M : mY) : q_S_init t0 (toM M) = hm (l_S_init t0 M) := by
  unfold q_S_init l_S_init
  refine hm_oi ?_
  refine hm_nw (fun a1 M => ?_)
  refine hm_ci (g_B_init a1 (92 : Int32) M) (fun _ M => ?_)
  refine hm_pR (fun M => ?_)
  rfl
def l_V_init (t0 : Option Nat) (M : mY) : Option (Unit × mY) :=
    y_oi t0 <|
    y_nw M 0 fun a1 M =>
    y_ci a1 (l_B_init a1 (93 : Int32) M) fun _ M =>
    y_pR M 4 t0 0 a1 fun M =>
    y_nw M 0 fun a2 M =>
    y_ci a2 (l_B_init a2 (90 : Int32) M) fun _ M =>
    y_pR M 4 t0 5 a2 fun M =>
    some ((), M)
theorem g_V_init (t0 : Option Nat) (M : mY) : q_V_init t0 (toM M) = hm (l_V_init t0 M) := by
  unfold q_V_init l_V_init
  refine hm_oi ?_
  refine hm_nw (fun a1 M => ?_)
  refine hm_ci (g_B_init a1 (93 : Int32) M) (fun _ M => ?_)
  refine hm_pR (fun M => ?_)
  refine hm_nw (fun a2 M => ?_)
  refine hm_ci (g_B_init a2 (90 : Int32) M) (fun _ M => ?_)
  refine hm_pR (fun M => ?_)
  rfl
def l_T_init (t0 : Option Nat) (i1 : Int32) (M : mY) : Option (Unit × mY) :=
    y_oi t0 <|
    y_pI M 5 t0 0 i1 fun M =>
    y_na M 0 (36 : Int32) fun a1 M =>
    y_pR M 5 t0 1 a1 fun M =>
    y_na M 0 (36 : Int32) fun a2 M =>
    y_pR M 5 t0 2 a2 fun M =>
    some ((), M)
theorem g_T_init (t0 : Option Nat) (i1 : Int32) (M : mY) : q_T_init t0 i1 (toM M) = hm (l_T_init t0 i1 M) := by
  unfold q_T_init l_T_init
  refine hm_oi ?_
  refine hm_pI (fun M => ?_)
  refine hm_na (fun a1 M => ?_)
  refine hm_pR (fun M => ?_)
  refine hm_na (fun a2 M => ?_)
  refine hm_pR (fun M => ?_)
  rfl
def l_K_init (t0 : Option Nat) (t1 : Option Nat) (i2 : Int32) (M : mY) : Option (Unit × mY) :=
    y_oi t0 <|
    y_pR M 2 t0 0 t1 fun M =>
    y_pI M 2 t0 1 i2 fun M =>
    y_nw M 3 fun a1 M =>
    y_ci a1 (l_P_init a1 M) fun _ M =>
    y_pR M 2 t0 2 a1 fun M =>
    y_gR M 2 t0 2 fun a2 =>
    y_pI M 3 a2 0 i2 fun M =>
    y_nw M 0 fun a3 M =>
    y_ci a3 (l_B_init a3 (200 : Int32) M) fun _ M =>
    y_pR M 2 t0 3 a3 fun M =>
    y_nw M 0 fun a4 M =>
    y_ci a4 (l_B_init a4 (64 : Int32) M) fun _ M =>
    y_pR M 2 t0 4 a4 fun M =>
    y_nw M 6 fun a5 M =>
    y_ci a5 (l_W_init a5 (6 : Int32) (16 : Int32) M) fun _ M =>
    y_pR M 2 t0 5 a5 fun M =>
    y_nw M 6 fun a6 M =>
    y_ci a6 (l_W_init a6 (4 : Int32) (17 : Int32) M) fun _ M =>
    y_pR M 2 t0 6 a6 fun M =>
    some ((), M)
theorem g_K_init (t0 : Option Nat) (t1 : Option Nat) (i2 : Int32) (M : mY) : q_K_init t0 t1 i2 (toM M) = hm (l_K_init t0 t1 i2 M) := by
  unfold q_K_init l_K_init
  refine hm_oi ?_
  refine hm_pR (fun M => ?_)
  refine hm_pI (fun M => ?_)
  refine hm_nw (fun a1 M => ?_)
  refine hm_ci (g_P_init a1 M) (fun _ M => ?_)
  refine hm_pR (fun M => ?_)
  refine hm_gR (fun a2 => ?_)
  refine hm_pI (fun M => ?_)
  refine hm_nw (fun a3 M => ?_)
  refine hm_ci (g_B_init a3 (200 : Int32) M) (fun _ M => ?_)
  refine hm_pR (fun M => ?_)
  refine hm_nw (fun a4 M => ?_)
  refine hm_ci (g_B_init a4 (64 : Int32) M) (fun _ M => ?_)
  refine hm_pR (fun M => ?_)
  refine hm_nw (fun a5 M => ?_)
  refine hm_ci (g_W_init a5 (6 : Int32) (16 : Int32) M) (fun _ M => ?_)
  refine hm_pR (fun M => ?_)
  refine hm_nw (fun a6 M => ?_)
  refine hm_ci (g_W_init a6 (4 : Int32) (17 : Int32) M) (fun _ M => ?_)
  refine hm_pR (fun M => ?_)
  rfl
def l_N_init (t0 : Option Nat) (i1 : Int32) (M : mY) : Option (Unit × mY) :=
    y_oi t0 <|
    y_pI M 8 t0 0 i1 fun M =>
    y_sl (some 1) fun x1 =>
    y_na M 0 x1 fun a2 M =>
    y_pR M 8 t0 1 a2 fun M =>
    y_gR M 8 t0 1 fun a3 =>
    y_wI M a3 (0 : Int32) (80 : Int32) fun M =>
    y_gR M 8 t0 1 fun a4 =>
    y_wI M a4 (1 : Int32) (20 : Int32) fun M =>
    y_gR M 8 t0 1 fun a5 =>
    y_wI M a5 (2 : Int32) (2 : Int32) fun M =>
    y_gR M 8 t0 1 fun a6 =>
    y_wI M a6 (3 : Int32) (i1 + (1 : Int32)) fun M =>
    y_gR M 8 t0 1 fun a7 =>
    y_wI M a7 (4 : Int32) (1500 : Int32) fun M =>
    y_gR M 8 t0 1 fun a8 =>
    y_wI M a8 (5 : Int32) (192 : Int32) fun M =>
    y_nw M 7 fun a9 M =>
    y_ci a9 (l_S_init a9 M) fun _ M =>
    y_pR M 8 t0 2 a9 fun M =>
    y_nw M 4 fun a10 M =>
    y_ci a10 (l_V_init a10 M) fun _ M =>
    y_pR M 8 t0 3 a10 fun M =>
    y_nw M 6 fun a11 M =>
    y_ci a11 (l_W_init a11 (12 : Int32) (90 : Int32) M) fun _ M =>
    y_pR M 8 t0 4 a11 fun M =>
    y_nw M 6 fun a12 M =>
    y_ci a12 (l_W_init a12 (8 : Int32) (16 : Int32) M) fun _ M =>
    y_pR M 8 t0 5 a12 fun M =>
    y_na M 3 (6 : Int32) fun a13 M =>
    y_pR M 8 t0 6 a13 fun M =>
    y_nw M 5 fun a14 M =>
    y_ci a14 (l_T_init a14 i1 M) fun _ M =>
    y_pR M 8 t0 7 a14 fun M =>
    y_pI M 8 t0 8 ((63 : Int32) &&& (((1 : Int32) <<< (i1 &&& 31)) ^^^ (-1 : Int32))) fun M =>
    some ((), M)
theorem g_N_init (t0 : Option Nat) (i1 : Int32) (M : mY) : q_N_init t0 i1 (toM M) = hm (l_N_init t0 i1 M) := by
  unfold q_N_init l_N_init
  refine hm_oi ?_
  refine hm_pI (fun M => ?_)
  refine hm_sl (fun x1 => ?_)
  refine hm_na (fun a2 M => ?_)
  refine hm_pR (fun M => ?_)
  refine hm_gR (fun a3 => ?_)
  refine hm_wI (fun M => ?_)
  refine hm_gR (fun a4 => ?_)
  refine hm_wI (fun M => ?_)
  refine hm_gR (fun a5 => ?_)
  refine hm_wI (fun M => ?_)
  refine hm_gR (fun a6 => ?_)
  refine hm_wI (fun M => ?_)
  refine hm_gR (fun a7 => ?_)
  refine hm_wI (fun M => ?_)
  refine hm_gR (fun a8 => ?_)
  refine hm_wI (fun M => ?_)
  refine hm_nw (fun a9 M => ?_)
  refine hm_ci (g_S_init a9 M) (fun _ M => ?_)
  refine hm_pR (fun M => ?_)
  refine hm_nw (fun a10 M => ?_)
  refine hm_ci (g_V_init a10 M) (fun _ M => ?_)
  refine hm_pR (fun M => ?_)
  refine hm_nw (fun a11 M => ?_)
  refine hm_ci (g_W_init a11 (12 : Int32) (90 : Int32) M) (fun _ M => ?_)
  refine hm_pR (fun M => ?_)
  refine hm_nw (fun a12 M => ?_)
  refine hm_ci (g_W_init a12 (8 : Int32) (16 : Int32) M) (fun _ M => ?_)
  refine hm_pR (fun M => ?_)
  refine hm_na (fun a13 M => ?_)
  refine hm_pR (fun M => ?_)
  refine hm_nw (fun a14 M => ?_)
  refine hm_ci (g_T_init a14 i1 M) (fun _ M => ?_)
  refine hm_pR (fun M => ?_)
  refine hm_pI (fun M => ?_)
  rfl
def l_C_init_58 (r15 : Option Nat → Int32 → mY → Option (Unit × mY)) (r32 : Option Nat → Int32 → Option Nat → Int32 → mY → Option (Unit × mY)) (t0 : Option Nat) (i1 : Int32) (t2 : Option Nat) (i3 : Int32) (M : mY) : Option (Unit × mY) :=
    r32 t0 i1 t2 (i3 + 1) M
theorem g_C_init_58 (r15 : Option Nat → Int32 → mM → Option (Unit × mM)) (r15' : Option Nat → Int32 → mY → Option (Unit × mY)) (h15 : ∀ (w0 : Option Nat) (w1 : Int32) (M : mY), r15 w0 w1 (toM M) = hm (r15' w0 w1 M)) (r32 : Option Nat → Int32 → Option Nat → Int32 → mM → Option (Unit × mM)) (r32' : Option Nat → Int32 → Option Nat → Int32 → mY → Option (Unit × mY)) (h32 : ∀ (w0 : Option Nat) (w1 : Int32) (w2 : Option Nat) (w3 : Int32) (M : mY), r32 w0 w1 w2 w3 (toM M) = hm (r32' w0 w1 w2 w3 M)) (t0 : Option Nat) (i1 : Int32) (t2 : Option Nat) (i3 : Int32) (M : mY) : q_C_init_58 r15 r32 t0 i1 t2 i3 (toM M) = hm (l_C_init_58 r15' r32' t0 i1 t2 i3 M) := by
  unfold q_C_init_58 l_C_init_58
  exact h32 t0 i1 t2 (i3 + 1) M
def l_C_init_32_b (r15 : Option Nat → Int32 → mY → Option (Unit × mY)) (r32 : Option Nat → Int32 → Option Nat → Int32 → mY → Option (Unit × mY)) (t0 : Option Nat) (i1 : Int32) (t2 : Option Nat) (i3 : Int32) (M : mY) : Option (Unit × mY) :=
    if i3 < (6 : Int32) then
      if i3 = i1 then
        l_C_init_58 r15 r32 t0 i1 t2 i3 M
      else
        y_gR M 8 t2 6 fun a1 =>
        y_nw M 2 fun a2 M =>
        y_ci a2 (l_K_init a2 t2 i3 M) fun _ M =>
        y_wR M 1 2 a1 i3 a2 fun M =>
        l_C_init_58 r15 r32 t0 i1 t2 i3 M
    else
      y_gR M 9 t0 0 fun a3 =>
      y_wR M 2 8 a3 i1 t2 fun M =>
      r15 t0 (i1 + 1) M
theorem g_C_init_32_b (r15 : Option Nat → Int32 → mM → Option (Unit × mM)) (r15' : Option Nat → Int32 → mY → Option (Unit × mY)) (h15 : ∀ (w0 : Option Nat) (w1 : Int32) (M : mY), r15 w0 w1 (toM M) = hm (r15' w0 w1 M)) (r32 : Option Nat → Int32 → Option Nat → Int32 → mM → Option (Unit × mM)) (r32' : Option Nat → Int32 → Option Nat → Int32 → mY → Option (Unit × mY)) (h32 : ∀ (w0 : Option Nat) (w1 : Int32) (w2 : Option Nat) (w3 : Int32) (M : mY), r32 w0 w1 w2 w3 (toM M) = hm (r32' w0 w1 w2 w3 M)) (t0 : Option Nat) (i1 : Int32) (t2 : Option Nat) (i3 : Int32) (M : mY) : q_C_init_32_b r15 r32 t0 i1 t2 i3 (toM M) = hm (l_C_init_32_b r15' r32' t0 i1 t2 i3 M) := by
  unfold q_C_init_32_b l_C_init_32_b
  refine hm_if ?_ ?_
  · refine hm_if ?_ ?_
    · exact g_C_init_58 _ _ h15 _ _ h32 t0 i1 t2 i3 M
    · refine hm_gR (fun a1 => ?_)
      refine hm_nw (fun a2 M => ?_)
      refine hm_ci (g_K_init a2 t2 i3 M) (fun _ M => ?_)
      refine hm_wR (fun M => ?_)
      exact g_C_init_58 _ _ h15 _ _ h32 t0 i1 t2 i3 M
  · refine hm_gR (fun a3 => ?_)
    refine hm_wR (fun M => ?_)
    exact h15 t0 (i1 + 1) M
def l_C_init_32 (r15 : Option Nat → Int32 → mY → Option (Unit × mY)) : Nat → Option Nat → Int32 → Option Nat → Int32 → mY → Option (Unit × mY)
  | 0, _, _, _, _, _ => none
  | n + 1, t0, i1, t2, i3, M => l_C_init_32_b r15 (l_C_init_32 r15 n) t0 i1 t2 i3 M
theorem g_C_init_32 (r15 : Option Nat → Int32 → mM → Option (Unit × mM)) (r15' : Option Nat → Int32 → mY → Option (Unit × mY)) (h15 : ∀ (w0 : Option Nat) (w1 : Int32) (M : mY), r15 w0 w1 (toM M) = hm (r15' w0 w1 M)) : ∀ (n : Nat) (z0 : Option Nat) (z1 : Int32) (z2 : Option Nat) (z3 : Int32) (M : mY), q_C_init_32 r15 n z0 z1 z2 z3 (toM M) = hm (l_C_init_32 r15' n z0 z1 z2 z3 M)
  | 0, _, _, _, _, _ => rfl
  | n + 1, z0, z1, z2, z3, M => g_C_init_32_b _ _ h15 _ _ (g_C_init_32 _ _ h15 n) z0 z1 z2 z3 M
def l_C_init_15_b (r15 : Option Nat → Int32 → mY → Option (Unit × mY)) (t0 : Option Nat) (i1 : Int32) (M : mY) : Option (Unit × mY) :=
    if i1 < (6 : Int32) then
      y_nw M 8 fun a1 M =>
      y_ci a1 (l_N_init a1 i1 M) fun _ M =>
      l_C_init_32 r15 mFU t0 i1 a1 (0 : Int32) M
    else
      y_nw M 0 fun a2 M =>
      y_ci a2 (l_B_init a2 (260 : Int32) M) fun _ M =>
      y_pR M 9 t0 1 a2 fun M =>
      y_nw M 0 fun a3 M =>
      y_ci a3 (l_B_init a3 (907 : Int32) M) fun _ M =>
      y_pR M 9 t0 2 a3 fun M =>
      y_nw M 7 fun a4 M =>
      y_ci a4 (l_S_init a4 M) fun _ M =>
      y_pR M 9 t0 3 a4 fun M =>
      y_nw M 4 fun a5 M =>
      y_ci a5 (l_V_init a5 M) fun _ M =>
      y_pR M 9 t0 4 a5 fun M =>
      y_nw M 0 fun a6 M =>
      y_ci a6 (l_B_init a6 (16 : Int32) M) fun _ M =>
      y_pR M 9 t0 5 a6 fun M =>
      y_nw M 1 fun a7 M =>
      y_ci a7 (l_F_init a7 M) fun _ M =>
      y_pR M 9 t0 6 a7 fun M =>
      some ((), M)
theorem g_C_init_15_b (r15 : Option Nat → Int32 → mM → Option (Unit × mM)) (r15' : Option Nat → Int32 → mY → Option (Unit × mY)) (h15 : ∀ (w0 : Option Nat) (w1 : Int32) (M : mY), r15 w0 w1 (toM M) = hm (r15' w0 w1 M)) (t0 : Option Nat) (i1 : Int32) (M : mY) : q_C_init_15_b r15 t0 i1 (toM M) = hm (l_C_init_15_b r15' t0 i1 M) := by
  unfold q_C_init_15_b l_C_init_15_b
  refine hm_if ?_ ?_
  · refine hm_nw (fun a1 M => ?_)
    refine hm_ci (g_N_init a1 i1 M) (fun _ M => ?_)
    exact g_C_init_32 _ _ h15 mFU t0 i1 a1 (0 : Int32) M
  · refine hm_nw (fun a2 M => ?_)
    refine hm_ci (g_B_init a2 (260 : Int32) M) (fun _ M => ?_)
    refine hm_pR (fun M => ?_)
    refine hm_nw (fun a3 M => ?_)
    refine hm_ci (g_B_init a3 (907 : Int32) M) (fun _ M => ?_)
    refine hm_pR (fun M => ?_)
    refine hm_nw (fun a4 M => ?_)
    refine hm_ci (g_S_init a4 M) (fun _ M => ?_)
    refine hm_pR (fun M => ?_)
    refine hm_nw (fun a5 M => ?_)
    refine hm_ci (g_V_init a5 M) (fun _ M => ?_)
    refine hm_pR (fun M => ?_)
    refine hm_nw (fun a6 M => ?_)
    refine hm_ci (g_B_init a6 (16 : Int32) M) (fun _ M => ?_)
    refine hm_pR (fun M => ?_)
    refine hm_nw (fun a7 M => ?_)
    refine hm_ci (g_F_init a7 M) (fun _ M => ?_)
    refine hm_pR (fun M => ?_)
    rfl
def l_C_init_15 : Nat → Option Nat → Int32 → mY → Option (Unit × mY)
  | 0, _, _, _ => none
  | n + 1, t0, i1, M => l_C_init_15_b (l_C_init_15 n) t0 i1 M
theorem g_C_init_15 : ∀ (n : Nat) (z0 : Option Nat) (z1 : Int32) (M : mY), q_C_init_15 n z0 z1 (toM M) = hm (l_C_init_15 n z0 z1 M)
  | 0, _, _, _ => rfl
  | n + 1, z0, z1, M => g_C_init_15_b _ _ (g_C_init_15 n) z0 z1 M
def l_C_init (t0 : Option Nat) (M : mY) : Option (Unit × mY) :=
    y_oi t0 <|
    y_na M 4 (6 : Int32) fun a1 M =>
    y_pR M 9 t0 0 a1 fun M =>
    l_C_init_15 mFU t0 (0 : Int32) M
theorem g_C_init (t0 : Option Nat) (M : mY) : q_C_init t0 (toM M) = hm (l_C_init t0 M) := by
  unfold q_C_init l_C_init
  refine hm_oi ?_
  refine hm_na (fun a1 M => ?_)
  refine hm_pR (fun M => ?_)
  exact g_C_init_15 mFU t0 (0 : Int32) M
def l_M_init_633 (r534 : Option Nat → Int32 → mY → Option (Unit × mY)) (r607 : Option Nat → Int32 → Int32 → mY → Option (Unit × mY)) (t0 : Option Nat) (i1 : Int32) (i3 : Int32) (j0 : Int32) (j1 : Int32) (u2 : Option Nat) (M : mY) : Option (Unit × mY) :=
    y_wZ M u2 j1 j0 fun M =>
    r607 t0 i1 (i3 + 1) M
theorem g_M_init_633 (r534 : Option Nat → Int32 → mM → Option (Unit × mM)) (r534' : Option Nat → Int32 → mY → Option (Unit × mY)) (h534 : ∀ (w0 : Option Nat) (w1 : Int32) (M : mY), r534 w0 w1 (toM M) = hm (r534' w0 w1 M)) (r607 : Option Nat → Int32 → Int32 → mM → Option (Unit × mM)) (r607' : Option Nat → Int32 → Int32 → mY → Option (Unit × mY)) (h607 : ∀ (w0 : Option Nat) (w1 : Int32) (w2 : Int32) (M : mY), r607 w0 w1 w2 (toM M) = hm (r607' w0 w1 w2 M)) (t0 : Option Nat) (i1 : Int32) (i3 : Int32) (j0 : Int32) (j1 : Int32) (u2 : Option Nat) (M : mY) : q_M_init_633 r534 r607 t0 i1 i3 j0 j1 u2 (toM M) = hm (l_M_init_633 r534' r607' t0 i1 i3 j0 j1 u2 M) := by
  unfold q_M_init_633 l_M_init_633
  refine hm_wZ (fun M => ?_)
  exact h607 t0 i1 (i3 + 1) M
def l_M_init_607_b (r534 : Option Nat → Int32 → mY → Option (Unit × mY)) (r607 : Option Nat → Int32 → Int32 → mY → Option (Unit × mY)) (t0 : Option Nat) (i1 : Int32) (i3 : Int32) (M : mY) : Option (Unit × mY) :=
    if i3 < (6 : Int32) then
      y_gR M 10 t0 17 fun a1 =>
      if i3 = i1 then
        l_M_init_633 r534 r607 t0 i1 i3 (0 : Int32) (((6 : Int32) * i1) + i3) a1 M
      else
        l_M_init_633 r534 r607 t0 i1 i3 (1 : Int32) (((6 : Int32) * i1) + i3) a1 M
    else
      r534 t0 (i1 + 1) M
theorem g_M_init_607_b (r534 : Option Nat → Int32 → mM → Option (Unit × mM)) (r534' : Option Nat → Int32 → mY → Option (Unit × mY)) (h534 : ∀ (w0 : Option Nat) (w1 : Int32) (M : mY), r534 w0 w1 (toM M) = hm (r534' w0 w1 M)) (r607 : Option Nat → Int32 → Int32 → mM → Option (Unit × mM)) (r607' : Option Nat → Int32 → Int32 → mY → Option (Unit × mY)) (h607 : ∀ (w0 : Option Nat) (w1 : Int32) (w2 : Int32) (M : mY), r607 w0 w1 w2 (toM M) = hm (r607' w0 w1 w2 M)) (t0 : Option Nat) (i1 : Int32) (i3 : Int32) (M : mY) : q_M_init_607_b r534 r607 t0 i1 i3 (toM M) = hm (l_M_init_607_b r534' r607' t0 i1 i3 M) := by
  unfold q_M_init_607_b l_M_init_607_b
  refine hm_if ?_ ?_
  · refine hm_gR (fun a1 => ?_)
    refine hm_if ?_ ?_
    · exact g_M_init_633 _ _ h534 _ _ h607 t0 i1 i3 (0 : Int32) (((6 : Int32) * i1) + i3) a1 M
    · exact g_M_init_633 _ _ h534 _ _ h607 t0 i1 i3 (1 : Int32) (((6 : Int32) * i1) + i3) a1 M
  · exact h534 t0 (i1 + 1) M
def l_M_init_607 (r534 : Option Nat → Int32 → mY → Option (Unit × mY)) : Nat → Option Nat → Int32 → Int32 → mY → Option (Unit × mY)
  | 0, _, _, _, _ => none
  | n + 1, t0, i1, i3, M => l_M_init_607_b r534 (l_M_init_607 r534 n) t0 i1 i3 M
theorem g_M_init_607 (r534 : Option Nat → Int32 → mM → Option (Unit × mM)) (r534' : Option Nat → Int32 → mY → Option (Unit × mY)) (h534 : ∀ (w0 : Option Nat) (w1 : Int32) (M : mY), r534 w0 w1 (toM M) = hm (r534' w0 w1 M)) : ∀ (n : Nat) (z0 : Option Nat) (z1 : Int32) (z2 : Int32) (M : mY), q_M_init_607 r534 n z0 z1 z2 (toM M) = hm (l_M_init_607 r534' n z0 z1 z2 M)
  | 0, _, _, _, _ => rfl
  | n + 1, z0, z1, z2, M => g_M_init_607_b _ _ h534 _ _ (g_M_init_607 _ _ h534 n) z0 z1 z2 M
def l_M_init_648_b (r648 : Option Nat → Int32 → mY → Option (Unit × mY)) (t0 : Option Nat) (i1 : Int32) (M : mY) : Option (Unit × mY) :=
    if i1 < (36 : Int32) then
      y_gR M 10 t0 50 fun a1 =>
      y_wI M a1 i1 (-1 : Int32) fun M =>
      y_gR M 10 t0 51 fun a2 =>
      y_wI M a2 i1 (-1 : Int32) fun M =>
      r648 t0 (i1 + 1) M
    else
      some ((), M)
theorem g_M_init_648_b (r648 : Option Nat → Int32 → mM → Option (Unit × mM)) (r648' : Option Nat → Int32 → mY → Option (Unit × mY)) (h648 : ∀ (w0 : Option Nat) (w1 : Int32) (M : mY), r648 w0 w1 (toM M) = hm (r648' w0 w1 M)) (t0 : Option Nat) (i1 : Int32) (M : mY) : q_M_init_648_b r648 t0 i1 (toM M) = hm (l_M_init_648_b r648' t0 i1 M) := by
  unfold q_M_init_648_b l_M_init_648_b
  refine hm_if ?_ ?_
  · refine hm_gR (fun a1 => ?_)
    refine hm_wI (fun M => ?_)
    refine hm_gR (fun a2 => ?_)
    refine hm_wI (fun M => ?_)
    exact h648 t0 (i1 + 1) M
  · rfl
def l_M_init_648 : Nat → Option Nat → Int32 → mY → Option (Unit × mY)
  | 0, _, _, _ => none
  | n + 1, t0, i1, M => l_M_init_648_b (l_M_init_648 n) t0 i1 M
theorem g_M_init_648 : ∀ (n : Nat) (z0 : Option Nat) (z1 : Int32) (M : mY), q_M_init_648 n z0 z1 (toM M) = hm (l_M_init_648 n z0 z1 M)
  | 0, _, _, _ => rfl
  | n + 1, z0, z1, M => g_M_init_648_b _ _ (g_M_init_648 n) z0 z1 M
def l_M_init_534_b (r534 : Option Nat → Int32 → mY → Option (Unit × mY)) (t0 : Option Nat) (i1 : Int32) (M : mY) : Option (Unit × mY) :=
    if i1 < (6 : Int32) then
      y_lt ((9 : Int32) * i1) fun x1 =>
      y_gR M 10 t0 16 fun a2 =>
      y_wI M a2 x1 (80 : Int32) fun M =>
      y_gR M 10 t0 16 fun a3 =>
      y_wI M a3 (x1 + (1 : Int32)) (20 : Int32) fun M =>
      y_gR M 10 t0 16 fun a4 =>
      y_wI M a4 (x1 + (2 : Int32)) (2 : Int32) fun M =>
      y_gR M 10 t0 16 fun a5 =>
      y_wI M a5 (x1 + (3 : Int32)) (i1 + (1 : Int32)) fun M =>
      y_gR M 10 t0 16 fun a6 =>
      y_wI M a6 (x1 + (4 : Int32)) (1500 : Int32) fun M =>
      y_gR M 10 t0 16 fun a7 =>
      y_wI M a7 (x1 + (5 : Int32)) (192 : Int32) fun M =>
      l_M_init_607 r534 mFU t0 i1 (0 : Int32) M
    else
      l_M_init_648 mFU t0 (0 : Int32) M
theorem g_M_init_534_b (r534 : Option Nat → Int32 → mM → Option (Unit × mM)) (r534' : Option Nat → Int32 → mY → Option (Unit × mY)) (h534 : ∀ (w0 : Option Nat) (w1 : Int32) (M : mY), r534 w0 w1 (toM M) = hm (r534' w0 w1 M)) (t0 : Option Nat) (i1 : Int32) (M : mY) : q_M_init_534_b r534 t0 i1 (toM M) = hm (l_M_init_534_b r534' t0 i1 M) := by
  unfold q_M_init_534_b l_M_init_534_b
  refine hm_if ?_ ?_
  · refine hm_lt (fun x1 => ?_)
    refine hm_gR (fun a2 => ?_)
    refine hm_wI (fun M => ?_)
    refine hm_gR (fun a3 => ?_)
    refine hm_wI (fun M => ?_)
    refine hm_gR (fun a4 => ?_)
    refine hm_wI (fun M => ?_)
    refine hm_gR (fun a5 => ?_)
    refine hm_wI (fun M => ?_)
    refine hm_gR (fun a6 => ?_)
    refine hm_wI (fun M => ?_)
    refine hm_gR (fun a7 => ?_)
    refine hm_wI (fun M => ?_)
    exact g_M_init_607 _ _ h534 mFU t0 i1 (0 : Int32) M
  · exact g_M_init_648 mFU t0 (0 : Int32) M
def l_M_init_534 : Nat → Option Nat → Int32 → mY → Option (Unit × mY)
  | 0, _, _, _ => none
  | n + 1, t0, i1, M => l_M_init_534_b (l_M_init_534 n) t0 i1 M
theorem g_M_init_534 : ∀ (n : Nat) (z0 : Option Nat) (z1 : Int32) (M : mY), q_M_init_534 n z0 z1 (toM M) = hm (l_M_init_534 n z0 z1 M)
  | 0, _, _, _ => rfl
  | n + 1, z0, z1, M => g_M_init_534_b _ _ (g_M_init_534 n) z0 z1 M
def l_M_init (t0 : Option Nat) (M : mY) : Option (Unit × mY) :=
    y_oi t0 <|
    y_na M 0 (260 : Int32) fun a1 M =>
    y_pR M 10 t0 0 a1 fun M =>
    y_na M 0 (1024 : Int32) fun a2 M =>
    y_pR M 10 t0 2 a2 fun M =>
    y_na M 0 (1024 : Int32) fun a3 M =>
    y_pR M 10 t0 4 a3 fun M =>
    y_na M 0 (7 : Int32) fun a4 M =>
    y_pR M 10 t0 7 a4 fun M =>
    y_na M 0 (7 : Int32) fun a5 M =>
    y_pR M 10 t0 8 a5 fun M =>
    y_na M 1 (7 : Int32) fun a6 M =>
    y_pR M 10 t0 9 a6 fun M =>
    y_na M 0 (7 : Int32) fun a7 M =>
    y_pR M 10 t0 10 a7 fun M =>
    y_na M 0 (5201 : Int32) fun a8 M =>
    y_pR M 10 t0 11 a8 fun M =>
    y_na M 0 (7 : Int32) fun a9 M =>
    y_pR M 10 t0 12 a9 fun M =>
    y_na M 0 (630 : Int32) fun a10 M =>
    y_pR M 10 t0 13 a10 fun M =>
    y_na M 0 (92 : Int32) fun a11 M =>
    y_pR M 10 t0 14 a11 fun M =>
    y_na M 0 (54 : Int32) fun a12 M =>
    y_pR M 10 t0 16 a12 fun M =>
    y_na M 1 (36 : Int32) fun a13 M =>
    y_pR M 10 t0 17 a13 fun M =>
    y_na M 0 (6 : Int32) fun a14 M =>
    y_pR M 10 t0 18 a14 fun M =>
    y_na M 0 (72 : Int32) fun a15 M =>
    y_pR M 10 t0 19 a15 fun M =>
    y_na M 0 (6480 : Int32) fun a16 M =>
    y_pR M 10 t0 20 a16 fun M =>
    y_na M 0 (6 : Int32) fun a17 M =>
    y_pR M 10 t0 21 a17 fun M =>
    y_na M 1 (6 : Int32) fun a18 M =>
    y_pR M 10 t0 22 a18 fun M =>
    y_na M 0 (6 : Int32) fun a19 M =>
    y_pR M 10 t0 23 a19 fun M =>
    y_na M 1 (6 : Int32) fun a20 M =>
    y_pR M 10 t0 24 a20 fun M =>
    y_na M 0 (6 : Int32) fun a21 M =>
    y_pR M 10 t0 25 a21 fun M =>
    y_na M 0 (6 : Int32) fun a22 M =>
    y_pR M 10 t0 26 a22 fun M =>
    y_na M 0 (6144 : Int32) fun a23 M =>
    y_pR M 10 t0 27 a23 fun M =>
    y_na M 0 (6 : Int32) fun a24 M =>
    y_pR M 10 t0 28 a24 fun M =>
    y_na M 0 (6 : Int32) fun a25 M =>
    y_pR M 10 t0 29 a25 fun M =>
    y_na M 0 (540 : Int32) fun a26 M =>
    y_pR M 10 t0 30 a26 fun M =>
    y_na M 1 (6 : Int32) fun a27 M =>
    y_pR M 10 t0 31 a27 fun M =>
    y_na M 0 (30 : Int32) fun a28 M =>
    y_pR M 10 t0 32 a28 fun M =>
    y_na M 0 (90 : Int32) fun a29 M =>
    y_pR M 10 t0 33 a29 fun M =>
    y_na M 1 (6 : Int32) fun a30 M =>
    y_pR M 10 t0 35 a30 fun M =>
    y_na M 0 (90 : Int32) fun a31 M =>
    y_pR M 10 t0 36 a31 fun M =>
    y_na M 0 (2 : Int32) fun a32 M =>
    y_pR M 10 t0 46 a32 fun M =>
    y_na M 1 (2 : Int32) fun a33 M =>
    y_pR M 10 t0 47 a33 fun M =>
    y_na M 0 (36 : Int32) fun a34 M =>
    y_pR M 10 t0 49 a34 fun M =>
    y_na M 0 (36 : Int32) fun a35 M =>
    y_pR M 10 t0 50 a35 fun M =>
    y_na M 0 (36 : Int32) fun a36 M =>
    y_pR M 10 t0 51 a36 fun M =>
    y_na M 0 (36 : Int32) fun a37 M =>
    y_pR M 10 t0 52 a37 fun M =>
    y_na M 0 (36 : Int32) fun a38 M =>
    y_pR M 10 t0 53 a38 fun M =>
    y_na M 0 (36 : Int32) fun a39 M =>
    y_pR M 10 t0 54 a39 fun M =>
    y_na M 0 (36 : Int32) fun a40 M =>
    y_pR M 10 t0 55 a40 fun M =>
    y_na M 0 (36 : Int32) fun a41 M =>
    y_pR M 10 t0 56 a41 fun M =>
    y_na M 0 (36 : Int32) fun a42 M =>
    y_pR M 10 t0 57 a42 fun M =>
    y_na M 1 (36 : Int32) fun a43 M =>
    y_pR M 10 t0 58 a43 fun M =>
    y_na M 1 (36 : Int32) fun a44 M =>
    y_pR M 10 t0 59 a44 fun M =>
    y_na M 1 (36 : Int32) fun a45 M =>
    y_pR M 10 t0 60 a45 fun M =>
    y_na M 0 (36 : Int32) fun a46 M =>
    y_pR M 10 t0 61 a46 fun M =>
    y_na M 0 (36 : Int32) fun a47 M =>
    y_pR M 10 t0 62 a47 fun M =>
    y_na M 0 (7200 : Int32) fun a48 M =>
    y_pR M 10 t0 63 a48 fun M =>
    y_na M 0 (36 : Int32) fun a49 M =>
    y_pR M 10 t0 64 a49 fun M =>
    y_na M 0 (2304 : Int32) fun a50 M =>
    y_pR M 10 t0 65 a50 fun M =>
    y_na M 0 (36 : Int32) fun a51 M =>
    y_pR M 10 t0 66 a51 fun M =>
    y_na M 0 (3456 : Int32) fun a52 M =>
    y_pR M 10 t0 67 a52 fun M =>
    y_na M 0 (216 : Int32) fun a53 M =>
    y_pR M 10 t0 68 a53 fun M =>
    y_na M 0 (36 : Int32) fun a54 M =>
    y_pR M 10 t0 69 a54 fun M =>
    y_na M 0 (2304 : Int32) fun a55 M =>
    y_pR M 10 t0 70 a55 fun M =>
    y_na M 0 (144 : Int32) fun a56 M =>
    y_pR M 10 t0 71 a56 fun M =>
    y_na M 0 (144 : Int32) fun a57 M =>
    y_pR M 10 t0 72 a57 fun M =>
    y_na M 0 (36 : Int32) fun a58 M =>
    y_pR M 10 t0 73 a58 fun M =>
    y_na M 0 (216 : Int32) fun a59 M =>
    y_pR M 10 t0 74 a59 fun M =>
    y_na M 0 (216 : Int32) fun a60 M =>
    y_pR M 10 t0 75 a60 fun M =>
    y_na M 0 (16 : Int32) fun a61 M =>
    y_pR M 10 t0 76 a61 fun M =>
    y_na M 0 (6 : Int32) fun a62 M =>
    y_pR M 10 t0 78 a62 fun M =>
    y_na M 0 (720 : Int32) fun a63 M =>
    y_pR M 10 t0 79 a63 fun M =>
    y_na M 0 (6 : Int32) fun a64 M =>
    y_pR M 10 t0 80 a64 fun M =>
    l_M_init_534 mFU t0 (0 : Int32) M
theorem g_M_init (t0 : Option Nat) (M : mY) : q_M_init t0 (toM M) = hm (l_M_init t0 M) := by
  unfold q_M_init l_M_init
  refine hm_oi ?_
  refine hm_na (fun a1 M => ?_)
  refine hm_pR (fun M => ?_)
  refine hm_na (fun a2 M => ?_)
  refine hm_pR (fun M => ?_)
  refine hm_na (fun a3 M => ?_)
  refine hm_pR (fun M => ?_)
  refine hm_na (fun a4 M => ?_)
  refine hm_pR (fun M => ?_)
  refine hm_na (fun a5 M => ?_)
  refine hm_pR (fun M => ?_)
  refine hm_na (fun a6 M => ?_)
  refine hm_pR (fun M => ?_)
  refine hm_na (fun a7 M => ?_)
  refine hm_pR (fun M => ?_)
  refine hm_na (fun a8 M => ?_)
  refine hm_pR (fun M => ?_)
  refine hm_na (fun a9 M => ?_)
  refine hm_pR (fun M => ?_)
  refine hm_na (fun a10 M => ?_)
  refine hm_pR (fun M => ?_)
  refine hm_na (fun a11 M => ?_)
  refine hm_pR (fun M => ?_)
  refine hm_na (fun a12 M => ?_)
  refine hm_pR (fun M => ?_)
  refine hm_na (fun a13 M => ?_)
  refine hm_pR (fun M => ?_)
  refine hm_na (fun a14 M => ?_)
  refine hm_pR (fun M => ?_)
  refine hm_na (fun a15 M => ?_)
  refine hm_pR (fun M => ?_)
  refine hm_na (fun a16 M => ?_)
  refine hm_pR (fun M => ?_)
  refine hm_na (fun a17 M => ?_)
  refine hm_pR (fun M => ?_)
  refine hm_na (fun a18 M => ?_)
  refine hm_pR (fun M => ?_)
  refine hm_na (fun a19 M => ?_)
  refine hm_pR (fun M => ?_)
  refine hm_na (fun a20 M => ?_)
  refine hm_pR (fun M => ?_)
  refine hm_na (fun a21 M => ?_)
  refine hm_pR (fun M => ?_)
  refine hm_na (fun a22 M => ?_)
  refine hm_pR (fun M => ?_)
  refine hm_na (fun a23 M => ?_)
  refine hm_pR (fun M => ?_)
  refine hm_na (fun a24 M => ?_)
  refine hm_pR (fun M => ?_)
  refine hm_na (fun a25 M => ?_)
  refine hm_pR (fun M => ?_)
  refine hm_na (fun a26 M => ?_)
  refine hm_pR (fun M => ?_)
  refine hm_na (fun a27 M => ?_)
  refine hm_pR (fun M => ?_)
  refine hm_na (fun a28 M => ?_)
  refine hm_pR (fun M => ?_)
  refine hm_na (fun a29 M => ?_)
  refine hm_pR (fun M => ?_)
  refine hm_na (fun a30 M => ?_)
  refine hm_pR (fun M => ?_)
  refine hm_na (fun a31 M => ?_)
  refine hm_pR (fun M => ?_)
  refine hm_na (fun a32 M => ?_)
  refine hm_pR (fun M => ?_)
  refine hm_na (fun a33 M => ?_)
  refine hm_pR (fun M => ?_)
  refine hm_na (fun a34 M => ?_)
  refine hm_pR (fun M => ?_)
  refine hm_na (fun a35 M => ?_)
  refine hm_pR (fun M => ?_)
  refine hm_na (fun a36 M => ?_)
  refine hm_pR (fun M => ?_)
  refine hm_na (fun a37 M => ?_)
  refine hm_pR (fun M => ?_)
  refine hm_na (fun a38 M => ?_)
  refine hm_pR (fun M => ?_)
  refine hm_na (fun a39 M => ?_)
  refine hm_pR (fun M => ?_)
  refine hm_na (fun a40 M => ?_)
  refine hm_pR (fun M => ?_)
  refine hm_na (fun a41 M => ?_)
  refine hm_pR (fun M => ?_)
  refine hm_na (fun a42 M => ?_)
  refine hm_pR (fun M => ?_)
  refine hm_na (fun a43 M => ?_)
  refine hm_pR (fun M => ?_)
  refine hm_na (fun a44 M => ?_)
  refine hm_pR (fun M => ?_)
  refine hm_na (fun a45 M => ?_)
  refine hm_pR (fun M => ?_)
  refine hm_na (fun a46 M => ?_)
  refine hm_pR (fun M => ?_)
  refine hm_na (fun a47 M => ?_)
  refine hm_pR (fun M => ?_)
  refine hm_na (fun a48 M => ?_)
  refine hm_pR (fun M => ?_)
  refine hm_na (fun a49 M => ?_)
  refine hm_pR (fun M => ?_)
  refine hm_na (fun a50 M => ?_)
  refine hm_pR (fun M => ?_)
  refine hm_na (fun a51 M => ?_)
  refine hm_pR (fun M => ?_)
  refine hm_na (fun a52 M => ?_)
  refine hm_pR (fun M => ?_)
  refine hm_na (fun a53 M => ?_)
  refine hm_pR (fun M => ?_)
  refine hm_na (fun a54 M => ?_)
  refine hm_pR (fun M => ?_)
  refine hm_na (fun a55 M => ?_)
  refine hm_pR (fun M => ?_)
  refine hm_na (fun a56 M => ?_)
  refine hm_pR (fun M => ?_)
  refine hm_na (fun a57 M => ?_)
  refine hm_pR (fun M => ?_)
  refine hm_na (fun a58 M => ?_)
  refine hm_pR (fun M => ?_)
  refine hm_na (fun a59 M => ?_)
  refine hm_pR (fun M => ?_)
  refine hm_na (fun a60 M => ?_)
  refine hm_pR (fun M => ?_)
  refine hm_na (fun a61 M => ?_)
  refine hm_pR (fun M => ?_)
  refine hm_na (fun a62 M => ?_)
  refine hm_pR (fun M => ?_)
  refine hm_na (fun a63 M => ?_)
  refine hm_pR (fun M => ?_)
  refine hm_na (fun a64 M => ?_)
  refine hm_pR (fun M => ?_)
  exact g_M_init_534 mFU t0 (0 : Int32) M
