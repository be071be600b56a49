def dt_M_lineIs : List (Nat × Instr × Nat) := [(0, .iconst 0, 1), (1, .istore_n 2, 1), (2, .iload_n 2, 1), (3, .aload_n 0, 1), (4, .getfield 224, 3), (7, .if_icmp .ge 27, 3), (10, .aload_n 0, 1), (11, .getfield 77, 3), (14, .sipush 1024, 3), (17, .iload_n 1, 1), (18, .imul, 1), (19, .iload_n 2, 1), (20, .iadd, 1), (21, .aload_n 0, 1), (22, .getfield 16, 3), (25, .iload_n 2, 1), (26, .iaload, 1), (27, .iastore, 1), (28, .iinc 2 1, 3), (31, .goto (-29), 3), (34, .aload_n 0, 1), (35, .getfield 71, 3), (38, .iload_n 1, 1), (39, .aload_n 0, 1), (40, .getfield 224, 3), (43, .iastore, 1), (44, .aload_n 0, 1), (45, .getfield 74, 3), (48, .iload_n 1, 1), (49, .iconst 0, 1), (50, .iastore, 1), (51, .return_, 1)]
theorem dx_M_lineIs : ∀ p ∈ dt_M_lineIs, decode prog_12_method_29_code p.1 = .ok p.2 := by decide +kernel
theorem d_M_lineIs {k pc : Nat} {i : Instr} {n : Nat} (h : dt_M_lineIs[k]? = some (pc, i, n)) : decode mi_M_lineIs.2.1 pc = .ok (i, n) := dx_M_lineIs (pc, i, n) (List.mem_of_getElem? h)
def q_M_lineIs_2_b (r2 : Option Nat → Int32 → Int32 → mM → Option (Unit × mM)) (t0 : Option Nat) (i1 : Int32) (i2 : Int32) (M : mM) : Option (Unit × mM) :=
    x_gI M 10 t0 5 fun x1 =>
    if i2 < x1 then
      x_gR M 10 t0 27 fun a2 =>
      x_gR M 10 t0 4 fun a3 =>
      x_aI M 0 a3 i2 fun x4 =>
      x_wI M a2 (((1024 : Int32) * i1) + i2) x4 fun M =>
      r2 t0 i1 (i2 + 1) M
    else
      x_gR M 10 t0 25 fun a5 =>
      x_gI M 10 t0 5 fun x6 =>
      x_wI M a5 i1 x6 fun M =>
      x_gR M 10 t0 26 fun a7 =>
      x_wI M a7 i1 (0 : Int32) fun M =>
      some ((), M)
def q_M_lineIs_2 : Nat → Option Nat → Int32 → Int32 → mM → Option (Unit × mM)
  | 0, _, _, _, _ => none
  | n + 1, t0, i1, i2, M => q_M_lineIs_2_b (q_M_lineIs_2 n) t0 i1 i2 M
set_option maxRecDepth 20000 in
theorem v_M_lineIs_2_b {E : mE} (r2 : Option Nat → Int32 → Int32 → mM → Option (Unit × mM)) (h2 : ∀ (t0 : Option Nat) (i1 : Int32) (i2 : Int32) (M : mM), mVr E mi_M_lineIs 0 2 [some (.inr t0), some (.inl i1), some (.inl i2)] [] M enU (r2 t0 i1 i2 M)) (t0 : Option Nat) (i1 : Int32) (i2 : Int32) (M : mM) : mVr E mi_M_lineIs 0 2 [some (.inr t0), some (.inl i1), some (.inl i2)] [] M enU (q_M_lineIs_2_b r2 t0 i1 i2 M) := by
  unfold q_M_lineIs_2_b
  refine m_iload_n (d_M_lineIs (k := 2) rfl) rfl ?_
  refine m_aload_n (d_M_lineIs (k := 3) rfl) rfl ?_
  refine m_getI (d_M_lineIs (k := 4) rfl) fl_M_224 rfl (fun x1 => ?_)
  refine m_icmp_ge (tgt := 34) (d_M_lineIs (k := 5) rfl) rfl ?_ ?_
  · refine m_aload_n (d_M_lineIs (k := 6) rfl) rfl ?_
    refine m_getR (d_M_lineIs (k := 7) rfl) fl_M_77 rfl (fun a2 => ?_)
    refine m_sipush (v := 1024) (d_M_lineIs (k := 8) rfl) (by decide) ?_
    refine m_iload_n (d_M_lineIs (k := 9) rfl) rfl ?_
    refine m_imul (d_M_lineIs (k := 10) rfl) ?_
    refine m_iload_n (d_M_lineIs (k := 11) rfl) rfl ?_
    refine m_iadd (d_M_lineIs (k := 12) rfl) ?_
    refine m_aload_n (d_M_lineIs (k := 13) rfl) rfl ?_
    refine m_getR (d_M_lineIs (k := 14) rfl) fl_M_16 rfl (fun a3 => ?_)
    refine m_iload_n (d_M_lineIs (k := 15) rfl) rfl ?_
    refine m_iald (d_M_lineIs (k := 16) rfl) (fun x4 => ?_)
    refine m_iast (d_M_lineIs (k := 17) rfl) (fun M => ?_)
    refine m_inc (v := 1) (ls' := [some (.inr t0), some (.inl i1), some (.inl (i2 + 1))]) (d_M_lineIs (k := 18) rfl) rfl (by decide) (by decide) rfl ?_
    refine m_goto (tgt := 2) (d_M_lineIs (k := 19) rfl) rfl ?_
    exact m_drop (mles_s (mles_s (mles_s mles_0))) (h2 t0 i1 (i2 + 1) M)
  · refine m_aload_n (d_M_lineIs (k := 20) rfl) rfl ?_
    refine m_getR (d_M_lineIs (k := 21) rfl) fl_M_71 rfl (fun a5 => ?_)
    refine m_iload_n (d_M_lineIs (k := 22) rfl) rfl ?_
    refine m_aload_n (d_M_lineIs (k := 23) rfl) rfl ?_
    refine m_getI (d_M_lineIs (k := 24) rfl) fl_M_224 rfl (fun x6 => ?_)
    refine m_iast (d_M_lineIs (k := 25) rfl) (fun M => ?_)
    refine m_aload_n (d_M_lineIs (k := 26) rfl) rfl ?_
    refine m_getR (d_M_lineIs (k := 27) rfl) fl_M_74 rfl (fun a7 => ?_)
    refine m_iload_n (d_M_lineIs (k := 28) rfl) rfl ?_
    refine m_iconst (v := 0) (d_M_lineIs (k := 29) rfl) (by decide) ?_
    refine m_iast (d_M_lineIs (k := 30) rfl) (fun M => ?_)
    exact m_vret (d_M_lineIs (k := 31) rfl) rfl
theorem v_M_lineIs_2 {E : mE} : ∀ (n : Nat) (t0 : Option Nat) (i1 : Int32) (i2 : Int32) (M : mM), mVr E mi_M_lineIs 0 2 [some (.inr t0), some (.inl i1), some (.inl i2)] [] M enU (q_M_lineIs_2 n t0 i1 i2 M)
  | 0, _, _, _, _ => m_none
  | n + 1, t0, i1, i2, M => v_M_lineIs_2_b _ (v_M_lineIs_2 n) t0 i1 i2 M
def q_M_lineIs (t0 : Option Nat) (i1 : Int32) (M : mM) : Option (Unit × mM) :=
    q_M_lineIs_2 mFU t0 i1 (0 : Int32) M
set_option maxRecDepth 20000 in
theorem v_M_lineIs {E : mE} (t0 : Option Nat) (i1 : Int32) (M : mM) : mVr E mi_M_lineIs 0 0 [some (.inr t0), some (.inl i1), none] [] M enU (q_M_lineIs t0 i1 M) := by
  unfold q_M_lineIs
  refine m_iconst (v := 0) (d_M_lineIs (k := 0) rfl) (by decide) ?_
  refine m_ist_n (ls' := [some (.inr t0), some (.inl i1), some (.inl (0 : Int32))]) (d_M_lineIs (k := 1) rfl) (by decide) rfl ?_
  exact m_drop (mles_s (mles_s (mles_s mles_0))) (v_M_lineIs_2 mFU t0 i1 (0 : Int32) M)
theorem s_M_lineIs {E : mE} (t0 : Option Nat) (i1 : Int32) (M : mM) : mSnd E mi_M_lineIs 0 [.inr t0, .inl i1] M enU (q_M_lineIs t0 i1 M) := m_entryU (by decide) (Nat.le_of_ble_eq_true rfl) rfl (m_drop (mles_s (mles_s (mles_e mles_0))) (v_M_lineIs t0 i1 M))
def dt_M_draws_0 : List (Nat × Instr × Nat) := [(0, .aload_n 0, 1), (1, .getfield 68, 3), (4, .iload_n 1, 1), (5, .baload, 1), (6, .ifCond .ne 21, 3), (9, .aload_n 0, 1), (10, .getfield 50, 3), (13, .iload_n 1, 1), (14, .iaload, 1), (15, .ifCond .eq 12, 3), (18, .aload_n 0, 1), (19, .getfield 62, 3), (22, .iload_n 1, 1), (23, .baload, 1), (24, .ifCond .eq 4, 3), (27, .return_, 1), (28, .aload_n 0, 1), (29, .getfield 59, 3), (32, .iload_n 1, 1), (33, .iaload, 1), (34, .ifCond .le 14, 3), (37, .aload_n 0, 1), (38, .getfield 59, 3), (41, .iload_n 1, 1), (42, .dup2, 1), (43, .iaload, 1), (44, .iconst 1, 1), (45, .isub, 1), (46, .iastore, 1), (47, .return_, 1), (48, .aload_n 0, 1), (49, .getfield 44, 3), (52, .bipush 9, 2), (54, .iload_n 1, 1), (55, .imul, 1), (56, .iconst 3, 1), (57, .iadd, 1), (58, .iaload, 1), (59, .ldc_w 276, 3), (62, .imul, 1)]
theorem dx_M_draws_0 : ∀ p ∈ dt_M_draws_0, decode prog_12_method_30_code p.1 = .ok p.2 := by decide +kernel
theorem d_M_draws_0 {k pc : Nat} {i : Instr} {n : Nat} (h : dt_M_draws_0[k]? = some (pc, i, n)) : decode mi_M_draws.2.1 pc = .ok (i, n) := dx_M_draws_0 (pc, i, n) (List.mem_of_getElem? h)
def dt_M_draws_1 : List (Nat × Instr × Nat) := [(63, .sipush 12345, 3), (66, .iadd, 1), (67, .istore_n 2, 1), (68, .aload_n 0, 1), (69, .getfield 44, 3), (72, .bipush 9, 2), (74, .iload_n 1, 1), (75, .imul, 1), (76, .iconst 3, 1), (77, .iadd, 1), (78, .iload_n 2, 1), (79, .iastore, 1), (80, .iload_n 2, 1), (81, .bipush 24, 2), (83, .iushr, 1), (84, .aload_n 0, 1), (85, .getfield 44, 3), (88, .bipush 9, 2), (90, .iload_n 1, 1), (91, .imul, 1), (92, .iaload, 1), (93, .if_icmp .lt 21, 3), (96, .aload_n 0, 1), (97, .getfield 59, 3), (100, .iload_n 1, 1), (101, .aload_n 0, 1), (102, .getfield 44, 3), (105, .bipush 9, 2), (107, .iload_n 1, 1), (108, .imul, 1), (109, .iconst 1, 1), (110, .iadd, 1), (111, .iaload, 1), (112, .iastore, 1), (113, .return_, 1), (114, .aload_n 0, 1), (115, .getfield 68, 3), (118, .iload_n 1, 1), (119, .iconst 1, 1), (120, .bastore, 1)]
theorem dx_M_draws_1 : ∀ p ∈ dt_M_draws_1, decode prog_12_method_30_code p.1 = .ok p.2 := by decide +kernel
theorem d_M_draws_1 {k pc : Nat} {i : Instr} {n : Nat} (h : dt_M_draws_1[k]? = some (pc, i, n)) : decode mi_M_draws.2.1 pc = .ok (i, n) := dx_M_draws_1 (pc, i, n) (List.mem_of_getElem? h)
def dt_M_draws_2 : List (Nat × Instr × Nat) := [(121, .aload_n 0, 1), (122, .getfield 80, 3), (125, .iload_n 1, 1), (126, .iconst 0, 1), (127, .iastore, 1), (128, .aload_n 0, 1), (129, .getfield 83, 3), (132, .iload_n 1, 1), (133, .iconst 0, 1), (134, .iastore, 1), (135, .aload_n 0, 1), (136, .iconst 0, 1), (137, .putfield 224, 3), (140, .iconst 0, 1), (141, .istore_n 3, 1), (142, .iload_n 3, 1), (143, .aload_n 0, 1), (144, .getfield 44, 3), (147, .bipush 9, 2), (149, .iload_n 1, 1), (150, .imul, 1), (151, .iconst 2, 1), (152, .iadd, 1), (153, .iaload, 1), (154, .if_icmp .ge 13, 3), (157, .aload_n 0, 1), (158, .invokevirtual 240, 3), (161, .iinc 3 1, 3), (164, .goto (-22), 3), (167, .aload_n 0, 1), (168, .iload_n 1, 1), (169, .invokevirtual 277, 3), (172, .return_, 1)]
theorem dx_M_draws_2 : ∀ p ∈ dt_M_draws_2, decode prog_12_method_30_code p.1 = .ok p.2 := by decide +kernel
theorem d_M_draws_2 {k pc : Nat} {i : Instr} {n : Nat} (h : dt_M_draws_2[k]? = some (pc, i, n)) : decode mi_M_draws.2.1 pc = .ok (i, n) := dx_M_draws_2 (pc, i, n) (List.mem_of_getElem? h)
def q_M_draws_142_b (r142 : Option Nat → Int32 → Int32 → mM → Option (Unit × mM)) (t0 : Option Nat) (i1 : Int32) (i3 : Int32) (M : mM) : Option (Unit × mM) :=
    x_gR M 10 t0 16 fun a1 =>
    x_aI M 0 a1 (((9 : Int32) * i1) + (2 : Int32)) fun x2 =>
    if i3 < x2 then
      x_cv M 10 t0 (q_M_makeFlag t0 M) fun _ M =>
      r142 t0 i1 (i3 + 1) M
    else
      x_cv M 10 t0 (q_M_lineIs t0 i1 M) fun _ M =>
      some ((), M)
def q_M_draws_142 : Nat → Option Nat → Int32 → Int32 → mM → Option (Unit × mM)
  | 0, _, _, _, _ => none
  | n + 1, t0, i1, i3, M => q_M_draws_142_b (q_M_draws_142 n) t0 i1 i3 M
set_option maxRecDepth 20000 in
theorem v_M_draws_142_b {E : mE} (r142 : Option Nat → Int32 → Int32 → mM → Option (Unit × mM)) (h142 : ∀ (t0 : Option Nat) (i1 : Int32) (i3 : Int32) (M : mM), mVr E mi_M_draws 1 142 [some (.inr t0), some (.inl i1), none, some (.inl i3)] [] M enU (r142 t0 i1 i3 M)) (t0 : Option Nat) (i1 : Int32) (i3 : Int32) (M : mM) : mVr E mi_M_draws 1 142 [some (.inr t0), some (.inl i1), none, some (.inl i3)] [] M enU (q_M_draws_142_b r142 t0 i1 i3 M) := by
  unfold q_M_draws_142_b
  refine m_iload_n (d_M_draws_2 (k := 15) rfl) rfl ?_
  refine m_aload_n (d_M_draws_2 (k := 16) rfl) rfl ?_
  refine m_getR (d_M_draws_2 (k := 17) rfl) fl_M_44 rfl (fun a1 => ?_)
  refine m_bipush (v := 9) (d_M_draws_2 (k := 18) rfl) (by decide) ?_
  refine m_iload_n (d_M_draws_2 (k := 19) rfl) rfl ?_
  refine m_imul (d_M_draws_2 (k := 20) rfl) ?_
  refine m_iconst (v := 2) (d_M_draws_2 (k := 21) rfl) (by decide) ?_
  refine m_iadd (d_M_draws_2 (k := 22) rfl) ?_
  refine m_iald (d_M_draws_2 (k := 23) rfl) (fun x2 => ?_)
  refine m_icmp_ge (tgt := 167) (d_M_draws_2 (k := 24) rfl) rfl ?_ ?_
  · refine m_aload_n (d_M_draws_2 (k := 25) rfl) rfl ?_
    refine m_cvU (c := 10) (vs := []) (st := []) (d_M_draws_2 (k := 26) rfl) (s_M_makeFlag t0 M) cd_M_makeFlag ml_M_240 im_M_makeFlag se_M_makeFlag rfl (by decide) rfl (Nat.le_of_ble_eq_true rfl) (fun _ M => ?_)
    refine m_inc (v := 1) (ls' := [some (.inr t0), some (.inl i1), none, some (.inl (i3 + 1))]) (d_M_draws_2 (k := 27) rfl) rfl (by decide) (by decide) rfl ?_
    refine m_goto (tgt := 142) (d_M_draws_2 (k := 28) rfl) rfl ?_
    exact m_drop (mles_s (mles_s (mles_n (mles_s mles_0)))) (h142 t0 i1 (i3 + 1) M)
  · refine m_aload_n (d_M_draws_2 (k := 29) rfl) rfl ?_
    refine m_iload_n (d_M_draws_2 (k := 30) rfl) rfl ?_
    refine m_cvU (c := 10) (vs := [.inl i1]) (st := []) (d_M_draws_2 (k := 31) rfl) (s_M_lineIs t0 i1 M) cd_M_lineIs ml_M_277 im_M_lineIs se_M_lineIs rfl (by decide) rfl (Nat.le_of_ble_eq_true rfl) (fun _ M => ?_)
    exact m_vret (d_M_draws_2 (k := 32) rfl) rfl
theorem v_M_draws_142 {E : mE} : ∀ (n : Nat) (t0 : Option Nat) (i1 : Int32) (i3 : Int32) (M : mM), mVr E mi_M_draws 1 142 [some (.inr t0), some (.inl i1), none, some (.inl i3)] [] M enU (q_M_draws_142 n t0 i1 i3 M)
  | 0, _, _, _, _ => m_none
  | n + 1, t0, i1, i3, M => v_M_draws_142_b _ (v_M_draws_142 n) t0 i1 i3 M
def q_M_draws (t0 : Option Nat) (i1 : Int32) (M : mM) : Option (Unit × mM) :=
    x_gR M 10 t0 24 fun a1 =>
    x_aI M 1 a1 i1 fun x2 =>
    if x2 = 0 then
      x_gR M 10 t0 18 fun a3 =>
      x_aI M 0 a3 i1 fun x4 =>
      if x4 = 0 then
        some ((), M)
      else
        x_gR M 10 t0 22 fun a5 =>
        x_aI M 1 a5 i1 fun x6 =>
        if x6 = 0 then
          x_gR M 10 t0 21 fun a7 =>
          x_aI M 0 a7 i1 fun x8 =>
          if 0 < x8 then
            x_gR M 10 t0 21 fun a9 =>
            x_aI M 0 a9 i1 fun x10 =>
            x_wI M a9 i1 (x10 - (1 : Int32)) fun M =>
            some ((), M)
          else
            x_gR M 10 t0 16 fun a11 =>
            x_aI M 0 a11 (((9 : Int32) * i1) + (3 : Int32)) fun x12 =>
            x_lt ((x12 * (1103515245 : Int32)) + (12345 : Int32)) fun x13 =>
            x_gR M 10 t0 16 fun a14 =>
            x_wI M a14 (((9 : Int32) * i1) + (3 : Int32)) x13 fun M =>
            x_gR M 10 t0 16 fun a15 =>
            x_aI M 0 a15 ((9 : Int32) * i1) fun x16 =>
            if (mush x13 (24 : Int32)) < x16 then
              x_gR M 10 t0 24 fun a17 =>
              x_wZ M a17 i1 (1 : Int32) fun M =>
              x_gR M 10 t0 28 fun a18 =>
              x_wI M a18 i1 (0 : Int32) fun M =>
              x_gR M 10 t0 29 fun a19 =>
              x_wI M a19 i1 (0 : Int32) fun M =>
              x_pI M 10 t0 5 (0 : Int32) fun M =>
              q_M_draws_142 mFU t0 i1 (0 : Int32) M
            else
              x_gR M 10 t0 21 fun a20 =>
              x_gR M 10 t0 16 fun a21 =>
              x_aI M 0 a21 (((9 : Int32) * i1) + (1 : Int32)) fun x22 =>
              x_wI M a20 i1 x22 fun M =>
              some ((), M)
        else
          some ((), M)
    else
      some ((), M)
set_option maxRecDepth 20000 in
theorem v_M_draws {E : mE} (t0 : Option Nat) (i1 : Int32) (M : mM) : mVr E mi_M_draws 1 0 [some (.inr t0), some (.inl i1), none, none] [] M enU (q_M_draws t0 i1 M) := by
  unfold q_M_draws
  refine m_aload_n (d_M_draws_0 (k := 0) rfl) rfl ?_
  refine m_getR (d_M_draws_0 (k := 1) rfl) fl_M_68 rfl (fun a1 => ?_)
  refine m_iload_n (d_M_draws_0 (k := 2) rfl) rfl ?_
  refine m_zald (d_M_draws_0 (k := 3) rfl) (fun x2 => ?_)
  refine m_if_ne (tgt := 27) (d_M_draws_0 (k := 4) rfl) rfl ?_ ?_
  · refine m_aload_n (d_M_draws_0 (k := 5) rfl) rfl ?_
    refine m_getR (d_M_draws_0 (k := 6) rfl) fl_M_50 rfl (fun a3 => ?_)
    refine m_iload_n (d_M_draws_0 (k := 7) rfl) rfl ?_
    refine m_iald (d_M_draws_0 (k := 8) rfl) (fun x4 => ?_)
    refine m_if_eq (tgt := 27) (d_M_draws_0 (k := 9) rfl) rfl ?_ ?_
    · exact m_vret (d_M_draws_0 (k := 15) rfl) rfl
    · refine m_aload_n (d_M_draws_0 (k := 10) rfl) rfl ?_
      refine m_getR (d_M_draws_0 (k := 11) rfl) fl_M_62 rfl (fun a5 => ?_)
      refine m_iload_n (d_M_draws_0 (k := 12) rfl) rfl ?_
      refine m_zald (d_M_draws_0 (k := 13) rfl) (fun x6 => ?_)
      refine m_if_eq (tgt := 28) (d_M_draws_0 (k := 14) rfl) rfl ?_ ?_
      · refine m_aload_n (d_M_draws_0 (k := 16) rfl) rfl ?_
        refine m_getR (d_M_draws_0 (k := 17) rfl) fl_M_59 rfl (fun a7 => ?_)
        refine m_iload_n (d_M_draws_0 (k := 18) rfl) rfl ?_
        refine m_iald (d_M_draws_0 (k := 19) rfl) (fun x8 => ?_)
        refine m_if_le (tgt := 48) (d_M_draws_0 (k := 20) rfl) rfl ?_ ?_
        · refine m_aload_n (d_M_draws_0 (k := 21) rfl) rfl ?_
          refine m_getR (d_M_draws_0 (k := 22) rfl) fl_M_59 rfl (fun a9 => ?_)
          refine m_iload_n (d_M_draws_0 (k := 23) rfl) rfl ?_
          refine m_dup2 (d_M_draws_0 (k := 24) rfl) ?_
          refine m_iald (d_M_draws_0 (k := 25) rfl) (fun x10 => ?_)
          refine m_iconst (v := 1) (d_M_draws_0 (k := 26) rfl) (by decide) ?_
          refine m_isub (d_M_draws_0 (k := 27) rfl) ?_
          refine m_iast (d_M_draws_0 (k := 28) rfl) (fun M => ?_)
          exact m_vret (d_M_draws_0 (k := 29) rfl) rfl
        · refine m_aload_n (d_M_draws_0 (k := 30) rfl) rfl ?_
          refine m_getR (d_M_draws_0 (k := 31) rfl) fl_M_44 rfl (fun a11 => ?_)
          refine m_bipush (v := 9) (d_M_draws_0 (k := 32) rfl) (by decide) ?_
          refine m_iload_n (d_M_draws_0 (k := 33) rfl) rfl ?_
          refine m_imul (d_M_draws_0 (k := 34) rfl) ?_
          refine m_iconst (v := 3) (d_M_draws_0 (k := 35) rfl) (by decide) ?_
          refine m_iadd (d_M_draws_0 (k := 36) rfl) ?_
          refine m_iald (d_M_draws_0 (k := 37) rfl) (fun x12 => ?_)
          refine m_ldcw (d_M_draws_0 (k := 38) rfl) ct_M_276 ?_
          refine m_imul (d_M_draws_0 (k := 39) rfl) ?_
          refine m_sipush (v := 12345) (d_M_draws_1 (k := 0) rfl) (by decide) ?_
          refine m_iadd (d_M_draws_1 (k := 1) rfl) ?_
          refine m_lt (fun x13 => ?_)
          refine m_ist_n (ls' := [some (.inr t0), some (.inl i1), some (.inl x13), none]) (d_M_draws_1 (k := 2) rfl) (by decide) rfl ?_
          refine m_aload_n (d_M_draws_1 (k := 3) rfl) rfl ?_
          refine m_getR (d_M_draws_1 (k := 4) rfl) fl_M_44 rfl (fun a14 => ?_)
          refine m_bipush (v := 9) (d_M_draws_1 (k := 5) rfl) (by decide) ?_
          refine m_iload_n (d_M_draws_1 (k := 6) rfl) rfl ?_
          refine m_imul (d_M_draws_1 (k := 7) rfl) ?_
          refine m_iconst (v := 3) (d_M_draws_1 (k := 8) rfl) (by decide) ?_
          refine m_iadd (d_M_draws_1 (k := 9) rfl) ?_
          refine m_iload_n (d_M_draws_1 (k := 10) rfl) rfl ?_
          refine m_iast (d_M_draws_1 (k := 11) rfl) (fun M => ?_)
          refine m_iload_n (d_M_draws_1 (k := 12) rfl) rfl ?_
          refine m_bipush (v := 24) (d_M_draws_1 (k := 13) rfl) (by decide) ?_
          refine m_iushr (d_M_draws_1 (k := 14) rfl) ?_
          refine m_aload_n (d_M_draws_1 (k := 15) rfl) rfl ?_
          refine m_getR (d_M_draws_1 (k := 16) rfl) fl_M_44 rfl (fun a15 => ?_)
          refine m_bipush (v := 9) (d_M_draws_1 (k := 17) rfl) (by decide) ?_
          refine m_iload_n (d_M_draws_1 (k := 18) rfl) rfl ?_
          refine m_imul (d_M_draws_1 (k := 19) rfl) ?_
          refine m_iald (d_M_draws_1 (k := 20) rfl) (fun x16 => ?_)
          refine m_icmp_lt (tgt := 114) (d_M_draws_1 (k := 21) rfl) rfl ?_ ?_
          · refine m_aload_n (d_M_draws_1 (k := 35) rfl) rfl ?_
            refine m_getR (d_M_draws_1 (k := 36) rfl) fl_M_68 rfl (fun a17 => ?_)
            refine m_iload_n (d_M_draws_1 (k := 37) rfl) rfl ?_
            refine m_iconst (v := 1) (d_M_draws_1 (k := 38) rfl) (by decide) ?_
            refine m_zast (d_M_draws_1 (k := 39) rfl) (fun M => ?_)
            refine m_aload_n (d_M_draws_2 (k := 0) rfl) rfl ?_
            refine m_getR (d_M_draws_2 (k := 1) rfl) fl_M_80 rfl (fun a18 => ?_)
            refine m_iload_n (d_M_draws_2 (k := 2) rfl) rfl ?_
            refine m_iconst (v := 0) (d_M_draws_2 (k := 3) rfl) (by decide) ?_
            refine m_iast (d_M_draws_2 (k := 4) rfl) (fun M => ?_)
            refine m_aload_n (d_M_draws_2 (k := 5) rfl) rfl ?_
            refine m_getR (d_M_draws_2 (k := 6) rfl) fl_M_83 rfl (fun a19 => ?_)
            refine m_iload_n (d_M_draws_2 (k := 7) rfl) rfl ?_
            refine m_iconst (v := 0) (d_M_draws_2 (k := 8) rfl) (by decide) ?_
            refine m_iast (d_M_draws_2 (k := 9) rfl) (fun M => ?_)
            refine m_aload_n (d_M_draws_2 (k := 10) rfl) rfl ?_
            refine m_iconst (v := 0) (d_M_draws_2 (k := 11) rfl) (by decide) ?_
            refine m_pI (d_M_draws_2 (k := 12) rfl) fp_M_224 (fun h => absurd h (by decide)) rfl (fun M => ?_)
            refine m_iconst (v := 0) (d_M_draws_2 (k := 13) rfl) (by decide) ?_
            refine m_ist_n (ls' := [some (.inr t0), some (.inl i1), some (.inl x13), some (.inl (0 : Int32))]) (d_M_draws_2 (k := 14) rfl) (by decide) rfl ?_
            exact m_drop (mles_s (mles_s (mles_n (mles_s mles_0)))) (v_M_draws_142 mFU t0 i1 (0 : Int32) M)
          · refine m_aload_n (d_M_draws_1 (k := 22) rfl) rfl ?_
            refine m_getR (d_M_draws_1 (k := 23) rfl) fl_M_59 rfl (fun a20 => ?_)
            refine m_iload_n (d_M_draws_1 (k := 24) rfl) rfl ?_
            refine m_aload_n (d_M_draws_1 (k := 25) rfl) rfl ?_
            refine m_getR (d_M_draws_1 (k := 26) rfl) fl_M_44 rfl (fun a21 => ?_)
            refine m_bipush (v := 9) (d_M_draws_1 (k := 27) rfl) (by decide) ?_
            refine m_iload_n (d_M_draws_1 (k := 28) rfl) rfl ?_
            refine m_imul (d_M_draws_1 (k := 29) rfl) ?_
            refine m_iconst (v := 1) (d_M_draws_1 (k := 30) rfl) (by decide) ?_
            refine m_iadd (d_M_draws_1 (k := 31) rfl) ?_
            refine m_iald (d_M_draws_1 (k := 32) rfl) (fun x22 => ?_)
            refine m_iast (d_M_draws_1 (k := 33) rfl) (fun M => ?_)
            exact m_vret (d_M_draws_1 (k := 34) rfl) rfl
      · exact m_vret (d_M_draws_0 (k := 15) rfl) rfl
  · exact m_vret (d_M_draws_0 (k := 15) rfl) rfl
theorem s_M_draws {E : mE} (t0 : Option Nat) (i1 : Int32) (M : mM) : mSnd E mi_M_draws 1 [.inr t0, .inl i1] M enU (q_M_draws t0 i1 M) := m_entryU (by decide) (Nat.le_of_ble_eq_true rfl) rfl (m_drop (mles_s (mles_s (mles_e (mles_e mles_0)))) (v_M_draws t0 i1 M))
def dt_M_hash : List (Nat × Instr × Nat) := [(0, .iload_n 0, 1), (1, .ldc_w 283, 3), (4, .imul, 1), (5, .iload_n 1, 1), (6, .iadd, 1), (7, .istore_n 2, 1), (8, .iload_n 2, 1), (9, .iload_n 2, 1), (10, .bipush 15, 2), (12, .iushr, 1), (13, .ixor, 1), (14, .ldc_w 284, 3), (17, .imul, 1), (18, .istore_n 2, 1), (19, .iload_n 2, 1), (20, .iload_n 2, 1), (21, .bipush 13, 2), (23, .iushr, 1), (24, .ixor, 1), (25, .ireturn, 1)]
theorem dx_M_hash : ∀ p ∈ dt_M_hash, decode prog_12_method_33_code p.1 = .ok p.2 := by decide +kernel
theorem d_M_hash {k pc : Nat} {i : Instr} {n : Nat} (h : dt_M_hash[k]? = some (pc, i, n)) : decode mi_M_hash.2.1 pc = .ok (i, n) := dx_M_hash (pc, i, n) (List.mem_of_getElem? h)
def q_M_hash (i0 : Int32) (i1 : Int32) (M : mM) : Option (Int32 × mM) :=
    x_lt ((i0 * (1000003 : Int32)) + i1) fun x1 =>
    x_lt ((x1 ^^^ (mush x1 (15 : Int32))) * (1540483477 : Int32)) fun x2 =>
    some ((x2 ^^^ (mush x2 (13 : Int32))), M)
set_option maxRecDepth 20000 in
theorem v_M_hash {E : mE} (i0 : Int32) (i1 : Int32) (M : mM) : mVr E mi_M_hash 0 0 [some (.inl i0), some (.inl i1), none] [] M enI (q_M_hash i0 i1 M) := by
  unfold q_M_hash
  refine m_iload_n (d_M_hash (k := 0) rfl) rfl ?_
  refine m_ldcw (d_M_hash (k := 1) rfl) ct_M_283 ?_
  refine m_imul (d_M_hash (k := 2) rfl) ?_
  refine m_iload_n (d_M_hash (k := 3) rfl) rfl ?_
  refine m_iadd (d_M_hash (k := 4) rfl) ?_
  refine m_lt (fun x1 => ?_)
  refine m_ist_n (ls' := [some (.inl i0), some (.inl i1), some (.inl x1)]) (d_M_hash (k := 5) rfl) (by decide) rfl ?_
  refine m_iload_n (d_M_hash (k := 6) rfl) rfl ?_
  refine m_iload_n (d_M_hash (k := 7) rfl) rfl ?_
  refine m_bipush (v := 15) (d_M_hash (k := 8) rfl) (by decide) ?_
  refine m_iushr (d_M_hash (k := 9) rfl) ?_
  refine m_ixor (d_M_hash (k := 10) rfl) ?_
  refine m_ldcw (d_M_hash (k := 11) rfl) ct_M_284 ?_
  refine m_imul (d_M_hash (k := 12) rfl) ?_
  refine m_lt (fun x2 => ?_)
  refine m_ist_n (ls' := [some (.inl i0), some (.inl i1), some (.inl x2)]) (d_M_hash (k := 13) rfl) (by decide) rfl ?_
  refine m_iload_n (d_M_hash (k := 14) rfl) rfl ?_
  refine m_iload_n (d_M_hash (k := 15) rfl) rfl ?_
  refine m_bipush (v := 13) (d_M_hash (k := 16) rfl) (by decide) ?_
  refine m_iushr (d_M_hash (k := 17) rfl) ?_
  refine m_ixor (d_M_hash (k := 18) rfl) ?_
  exact m_iret (d_M_hash (k := 19) rfl) rfl
theorem s_M_hash {E : mE} (i0 : Int32) (i1 : Int32) (M : mM) : mSnd E mi_M_hash 0 [.inl i0, .inl i1] M enI (q_M_hash i0 i1 M) := m_entryI (by decide) (Nat.le_of_ble_eq_true rfl) rfl (m_drop (mles_s (mles_s (mles_e mles_0))) (v_M_hash i0 i1 M))
def dt_M_comes : List (Nat × Instr × Nat) := [(0, .aload_n 0, 1), (1, .getfield 25, 3), (4, .iload_n 1, 1), (5, .baload, 1), (6, .ifCond .ne 4, 3), (9, .return_, 1), (10, .aload_n 0, 1), (11, .getfield 29, 3), (14, .iload_n 1, 1), (15, .iaload, 1), (16, .sipush 743, 3), (19, .if_icmp .ne 11, 3), (22, .aload_n 0, 1), (23, .getfield 25, 3), (26, .iload_n 1, 1), (27, .iconst 0, 1), (28, .bastore, 1), (29, .return_, 1), (30, .aload_n 0, 1), (31, .getfield 32, 3), (34, .sipush 743, 3), (37, .iload_n 1, 1), (38, .imul, 1), (39, .aload_n 0, 1), (40, .getfield 29, 3), (43, .iload_n 1, 1), (44, .iaload, 1), (45, .iadd, 1), (46, .iload_n 2, 1), (47, .iastore, 1), (48, .aload_n 0, 1), (49, .getfield 29, 3), (52, .iload_n 1, 1), (53, .dup2, 1), (54, .iaload, 1), (55, .iconst 1, 1), (56, .iadd, 1), (57, .iastore, 1), (58, .return_, 1)]
theorem dx_M_comes : ∀ p ∈ dt_M_comes, decode prog_12_method_16_code p.1 = .ok p.2 := by decide +kernel
theorem d_M_comes {k pc : Nat} {i : Instr} {n : Nat} (h : dt_M_comes[k]? = some (pc, i, n)) : decode mi_M_comes.2.1 pc = .ok (i, n) := dx_M_comes (pc, i, n) (List.mem_of_getElem? h)
def q_M_comes (t0 : Option Nat) (i1 : Int32) (i2 : Int32) (M : mM) : Option (Unit × mM) :=
    x_gR M 10 t0 9 fun a1 =>
    x_aI M 1 a1 i1 fun x2 =>
    if x2 = 0 then
      some ((), M)
    else
      x_gR M 10 t0 10 fun a3 =>
      x_aI M 0 a3 i1 fun x4 =>
      if x4 = (743 : Int32) then
        x_gR M 10 t0 9 fun a5 =>
        x_wZ M a5 i1 (0 : Int32) fun M =>
        some ((), M)
      else
        x_gR M 10 t0 11 fun a6 =>
        x_gR M 10 t0 10 fun a7 =>
        x_aI M 0 a7 i1 fun x8 =>
        x_wI M a6 (((743 : Int32) * i1) + x8) i2 fun M =>
        x_gR M 10 t0 10 fun a9 =>
        x_aI M 0 a9 i1 fun x10 =>
        x_wI M a9 i1 (x10 + (1 : Int32)) fun M =>
        some ((), M)
set_option maxRecDepth 20000 in
theorem v_M_comes {E : mE} (t0 : Option Nat) (i1 : Int32) (i2 : Int32) (M : mM) : mVr E mi_M_comes 0 0 [some (.inr t0), some (.inl i1), some (.inl i2)] [] M enU (q_M_comes t0 i1 i2 M) := by
  unfold q_M_comes
  refine m_aload_n (d_M_comes (k := 0) rfl) rfl ?_
  refine m_getR (d_M_comes (k := 1) rfl) fl_M_25 rfl (fun a1 => ?_)
  refine m_iload_n (d_M_comes (k := 2) rfl) rfl ?_
  refine m_zald (d_M_comes (k := 3) rfl) (fun x2 => ?_)
  refine m_if_ne (tgt := 10) (d_M_comes (k := 4) rfl) rfl ?_ ?_
  · exact m_vret (d_M_comes (k := 5) rfl) rfl
  · refine m_aload_n (d_M_comes (k := 6) rfl) rfl ?_
    refine m_getR (d_M_comes (k := 7) rfl) fl_M_29 rfl (fun a3 => ?_)
    refine m_iload_n (d_M_comes (k := 8) rfl) rfl ?_
    refine m_iald (d_M_comes (k := 9) rfl) (fun x4 => ?_)
    refine m_sipush (v := 743) (d_M_comes (k := 10) rfl) (by decide) ?_
    refine m_icmp_ne (tgt := 30) (d_M_comes (k := 11) rfl) rfl ?_ ?_
    · refine m_aload_n (d_M_comes (k := 12) rfl) rfl ?_
      refine m_getR (d_M_comes (k := 13) rfl) fl_M_25 rfl (fun a5 => ?_)
      refine m_iload_n (d_M_comes (k := 14) rfl) rfl ?_
      refine m_iconst (v := 0) (d_M_comes (k := 15) rfl) (by decide) ?_
      refine m_zast (d_M_comes (k := 16) rfl) (fun M => ?_)
      exact m_vret (d_M_comes (k := 17) rfl) rfl
    · refine m_aload_n (d_M_comes (k := 18) rfl) rfl ?_
      refine m_getR (d_M_comes (k := 19) rfl) fl_M_32 rfl (fun a6 => ?_)
      refine m_sipush (v := 743) (d_M_comes (k := 20) rfl) (by decide) ?_
      refine m_iload_n (d_M_comes (k := 21) rfl) rfl ?_
      refine m_imul (d_M_comes (k := 22) rfl) ?_
      refine m_aload_n (d_M_comes (k := 23) rfl) rfl ?_
      refine m_getR (d_M_comes (k := 24) rfl) fl_M_29 rfl (fun a7 => ?_)
      refine m_iload_n (d_M_comes (k := 25) rfl) rfl ?_
      refine m_iald (d_M_comes (k := 26) rfl) (fun x8 => ?_)
      refine m_iadd (d_M_comes (k := 27) rfl) ?_
      refine m_iload_n (d_M_comes (k := 28) rfl) rfl ?_
      refine m_iast (d_M_comes (k := 29) rfl) (fun M => ?_)
      refine m_aload_n (d_M_comes (k := 30) rfl) rfl ?_
      refine m_getR (d_M_comes (k := 31) rfl) fl_M_29 rfl (fun a9 => ?_)
      refine m_iload_n (d_M_comes (k := 32) rfl) rfl ?_
      refine m_dup2 (d_M_comes (k := 33) rfl) ?_
      refine m_iald (d_M_comes (k := 34) rfl) (fun x10 => ?_)
      refine m_iconst (v := 1) (d_M_comes (k := 35) rfl) (by decide) ?_
      refine m_iadd (d_M_comes (k := 36) rfl) ?_
      refine m_iast (d_M_comes (k := 37) rfl) (fun M => ?_)
      exact m_vret (d_M_comes (k := 38) rfl) rfl
theorem s_M_comes {E : mE} (t0 : Option Nat) (i1 : Int32) (i2 : Int32) (M : mM) : mSnd E mi_M_comes 0 [.inr t0, .inl i1, .inl i2] M enU (q_M_comes t0 i1 i2 M) := m_entryU (by decide) (Nat.le_of_ble_eq_true rfl) rfl (m_drop (mles_s (mles_s (mles_s mles_0))) (v_M_comes t0 i1 i2 M))
def dt_M_isFrame_0 : List (Nat × Instr × Nat) := [(0, .aload_n 0, 1), (1, .getfield 29, 3), (4, .iload_n 1, 1), (5, .iaload, 1), (6, .bipush 7, 2), (8, .isub, 1), (9, .bipush 8, 2), (11, .idiv, 1), (12, .istore_n 2, 1), (13, .aload_n 0, 1), (14, .getfield 29, 3), (17, .iload_n 1, 1), (18, .iaload, 1), (19, .bipush 7, 2), (21, .if_icmp .lt 29, 3), (24, .aload_n 0, 1), (25, .getfield 29, 3), (28, .iload_n 1, 1), (29, .iaload, 1), (30, .bipush 7, 2), (32, .isub, 1), (33, .bipush 8, 2), (35, .irem, 1), (36, .ifCond .ne 14, 3), (39, .iload_n 2, 1), (40, .bipush 17, 2), (42, .bipush 92, 2), (44, .invokestatic 203, 3), (47, .ifCond .ne 5, 3), (50, .iconst 0, 1), (51, .ireturn, 1), (52, .iconst 0, 1), (53, .istore_n 3, 1), (54, .iload_n 3, 1), (55, .iload_n 2, 1), (56, .if_icmp .ge 62, 3), (59, .aload_n 0, 1), (60, .getfield 41, 3), (63, .iload_n 3, 1), (64, .iconst 0, 1)]
theorem dx_M_isFrame_0 : ∀ p ∈ dt_M_isFrame_0, decode prog_12_method_17_code p.1 = .ok p.2 := by decide +kernel
theorem d_M_isFrame_0 {k pc : Nat} {i : Instr} {n : Nat} (h : dt_M_isFrame_0[k]? = some (pc, i, n)) : decode mi_M_isFrame.2.1 pc = .ok (i, n) := dx_M_isFrame_0 (pc, i, n) (List.mem_of_getElem? h)
def dt_M_isFrame_1 : List (Nat × Instr × Nat) := [(65, .iastore, 1), (66, .iconst 0, 1), (67, .istore 4, 2), (69, .iload 4, 2), (71, .bipush 8, 2), (73, .if_icmp .ge 39, 3), (76, .aload_n 0, 1), (77, .getfield 41, 3), (80, .iload_n 3, 1), (81, .dup2, 1), (82, .iaload, 1), (83, .aload_n 0, 1), (84, .getfield 32, 3), (87, .sipush 743, 3), (90, .iload_n 1, 1), (91, .imul, 1), (92, .bipush 8, 2), (94, .iload_n 3, 1), (95, .imul, 1), (96, .iadd, 1), (97, .iload 4, 2), (99, .iadd, 1), (100, .iaload, 1), (101, .iload 4, 2), (103, .ishl, 1), (104, .iadd, 1), (105, .iastore, 1), (106, .iinc 4 1, 3), (109, .goto (-40), 3), (112, .iinc 3 1, 3), (115, .goto (-61), 3), (118, .aload_n 0, 1), (119, .getfield 41, 3), (122, .iconst 0, 1), (123, .iload_n 2, 1), (124, .iconst 2, 1), (125, .isub, 1), (126, .invokestatic 236, 3), (129, .istore_n 3, 1), (130, .aload_n 0, 1)]
theorem dx_M_isFrame_1 : ∀ p ∈ dt_M_isFrame_1, decode prog_12_method_17_code p.1 = .ok p.2 := by decide +kernel
theorem d_M_isFrame_1 {k pc : Nat} {i : Instr} {n : Nat} (h : dt_M_isFrame_1[k]? = some (pc, i, n)) : decode mi_M_isFrame.2.1 pc = .ok (i, n) := dx_M_isFrame_1 (pc, i, n) (List.mem_of_getElem? h)
def dt_M_isFrame_2 : List (Nat × Instr × Nat) := [(131, .getfield 41, 3), (134, .iload_n 2, 1), (135, .iconst 2, 1), (136, .isub, 1), (137, .iaload, 1), (138, .iload_n 3, 1), (139, .sipush 255, 3), (142, .iand, 1), (143, .if_icmp .ne 18, 3), (146, .aload_n 0, 1), (147, .getfield 41, 3), (150, .iload_n 2, 1), (151, .iconst 1, 1), (152, .isub, 1), (153, .iaload, 1), (154, .iload_n 3, 1), (155, .bipush 8, 2), (157, .ishr, 1), (158, .if_icmp .eq 5, 3), (161, .iconst 0, 1), (162, .ireturn, 1), (163, .aload_n 0, 1), (164, .getfield 35, 3), (167, .iload_n 1, 1), (168, .iload_n 2, 1), (169, .iconst 2, 1), (170, .isub, 1), (171, .iastore, 1), (172, .iconst 0, 1), (173, .istore 4, 2), (175, .iload 4, 2), (177, .iload_n 2, 1), (178, .iconst 2, 1), (179, .isub, 1), (180, .if_icmp .ge 28, 3), (183, .aload_n 0, 1), (184, .getfield 38, 3), (187, .bipush 90, 2), (189, .iload_n 1, 1), (190, .imul, 1)]
theorem dx_M_isFrame_2 : ∀ p ∈ dt_M_isFrame_2, decode prog_12_method_17_code p.1 = .ok p.2 := by decide +kernel
theorem d_M_isFrame_2 {k pc : Nat} {i : Instr} {n : Nat} (h : dt_M_isFrame_2[k]? = some (pc, i, n)) : decode mi_M_isFrame.2.1 pc = .ok (i, n) := dx_M_isFrame_2 (pc, i, n) (List.mem_of_getElem? h)
def dt_M_isFrame_3 : List (Nat × Instr × Nat) := [(191, .iload 4, 2), (193, .iadd, 1), (194, .aload_n 0, 1), (195, .getfield 41, 3), (198, .iload 4, 2), (200, .iaload, 1), (201, .iastore, 1), (202, .iinc 4 1, 3), (205, .goto (-30), 3), (208, .iconst 1, 1), (209, .ireturn, 1)]
theorem dx_M_isFrame_3 : ∀ p ∈ dt_M_isFrame_3, decode prog_12_method_17_code p.1 = .ok p.2 := by decide +kernel
theorem d_M_isFrame_3 {k pc : Nat} {i : Instr} {n : Nat} (h : dt_M_isFrame_3[k]? = some (pc, i, n)) : decode mi_M_isFrame.2.1 pc = .ok (i, n) := dx_M_isFrame_3 (pc, i, n) (List.mem_of_getElem? h)
def q_M_isFrame_69_b (r54 : Option Nat → Int32 → Int32 → Int32 → mM → Option (Int32 × mM)) (r69 : Option Nat → Int32 → Int32 → Int32 → Int32 → mM → Option (Int32 × mM)) (t0 : Option Nat) (i1 : Int32) (i2 : Int32) (i3 : Int32) (i4 : Int32) (M : mM) : Option (Int32 × mM) :=
    if i4 < (8 : Int32) then
      x_gR M 10 t0 14 fun a1 =>
      x_aI M 0 a1 i3 fun x2 =>
      x_gR M 10 t0 11 fun a3 =>
      x_aI M 0 a3 ((((743 : Int32) * i1) + ((8 : Int32) * i3)) + i4) fun x4 =>
      x_wI M a1 i3 (x2 + (x4 <<< (i4 &&& 31))) fun M =>
      r69 t0 i1 i2 i3 (i4 + 1) M
    else
      r54 t0 i1 i2 (i3 + 1) M
def q_M_isFrame_69 (r54 : Option Nat → Int32 → Int32 → Int32 → mM → Option (Int32 × mM)) : Nat → Option Nat → Int32 → Int32 → Int32 → Int32 → mM → Option (Int32 × mM)
  | 0, _, _, _, _, _, _ => none
  | n + 1, t0, i1, i2, i3, i4, M => q_M_isFrame_69_b r54 (q_M_isFrame_69 r54 n) t0 i1 i2 i3 i4 M
set_option maxRecDepth 20000 in
theorem v_M_isFrame_69_b {E : mE} (r54 : Option Nat → Int32 → Int32 → Int32 → mM → Option (Int32 × mM)) (h54 : ∀ (t0 : Option Nat) (i1 : Int32) (i2 : Int32) (i3 : Int32) (M : mM), mVr E mi_M_isFrame 1 54 [some (.inr t0), some (.inl i1), some (.inl i2), some (.inl i3), none] [] M enI (r54 t0 i1 i2 i3 M)) (r69 : Option Nat → Int32 → Int32 → Int32 → Int32 → mM → Option (Int32 × mM)) (h69 : ∀ (t0 : Option Nat) (i1 : Int32) (i2 : Int32) (i3 : Int32) (i4 : Int32) (M : mM), mVr E mi_M_isFrame 1 69 [some (.inr t0), some (.inl i1), some (.inl i2), some (.inl i3), some (.inl i4)] [] M enI (r69 t0 i1 i2 i3 i4 M)) (t0 : Option Nat) (i1 : Int32) (i2 : Int32) (i3 : Int32) (i4 : Int32) (M : mM) : mVr E mi_M_isFrame 1 69 [some (.inr t0), some (.inl i1), some (.inl i2), some (.inl i3), some (.inl i4)] [] M enI (q_M_isFrame_69_b r54 r69 t0 i1 i2 i3 i4 M) := by
  unfold q_M_isFrame_69_b
  refine m_iload (d_M_isFrame_1 (k := 3) rfl) rfl ?_
  refine m_bipush (v := 8) (d_M_isFrame_1 (k := 4) rfl) (by decide) ?_
  refine m_icmp_ge (tgt := 112) (d_M_isFrame_1 (k := 5) rfl) rfl ?_ ?_
  · refine m_aload_n (d_M_isFrame_1 (k := 6) rfl) rfl ?_
    refine m_getR (d_M_isFrame_1 (k := 7) rfl) fl_M_41 rfl (fun a1 => ?_)
    refine m_iload_n (d_M_isFrame_1 (k := 8) rfl) rfl ?_
    refine m_dup2 (d_M_isFrame_1 (k := 9) rfl) ?_
    refine m_iald (d_M_isFrame_1 (k := 10) rfl) (fun x2 => ?_)
    refine m_aload_n (d_M_isFrame_1 (k := 11) rfl) rfl ?_
    refine m_getR (d_M_isFrame_1 (k := 12) rfl) fl_M_32 rfl (fun a3 => ?_)
    refine m_sipush (v := 743) (d_M_isFrame_1 (k := 13) rfl) (by decide) ?_
    refine m_iload_n (d_M_isFrame_1 (k := 14) rfl) rfl ?_
    refine m_imul (d_M_isFrame_1 (k := 15) rfl) ?_
    refine m_bipush (v := 8) (d_M_isFrame_1 (k := 16) rfl) (by decide) ?_
    refine m_iload_n (d_M_isFrame_1 (k := 17) rfl) rfl ?_
    refine m_imul (d_M_isFrame_1 (k := 18) rfl) ?_
    refine m_iadd (d_M_isFrame_1 (k := 19) rfl) ?_
    refine m_iload (d_M_isFrame_1 (k := 20) rfl) rfl ?_
    refine m_iadd (d_M_isFrame_1 (k := 21) rfl) ?_
    refine m_iald (d_M_isFrame_1 (k := 22) rfl) (fun x4 => ?_)
    refine m_iload (d_M_isFrame_1 (k := 23) rfl) rfl ?_
    refine m_ishl (d_M_isFrame_1 (k := 24) rfl) ?_
    refine m_iadd (d_M_isFrame_1 (k := 25) rfl) ?_
    refine m_iast (d_M_isFrame_1 (k := 26) rfl) (fun M => ?_)
    refine m_inc (v := 1) (ls' := [some (.inr t0), some (.inl i1), some (.inl i2), some (.inl i3), some (.inl (i4 + 1))]) (d_M_isFrame_1 (k := 27) rfl) rfl (by decide) (by decide) rfl ?_
    refine m_goto (tgt := 69) (d_M_isFrame_1 (k := 28) rfl) rfl ?_
    exact m_drop (mles_s (mles_s (mles_s (mles_s (mles_s mles_0))))) (h69 t0 i1 i2 i3 (i4 + 1) M)
  · refine m_inc (v := 1) (ls' := [some (.inr t0), some (.inl i1), some (.inl i2), some (.inl (i3 + 1)), some (.inl i4)]) (d_M_isFrame_1 (k := 29) rfl) rfl (by decide) (by decide) rfl ?_
    refine m_goto (tgt := 54) (d_M_isFrame_1 (k := 30) rfl) rfl ?_
    exact m_drop (mles_s (mles_s (mles_s (mles_s (mles_n mles_0))))) (h54 t0 i1 i2 (i3 + 1) M)
theorem v_M_isFrame_69 {E : mE} (r54 : Option Nat → Int32 → Int32 → Int32 → mM → Option (Int32 × mM)) (h54 : ∀ (t0 : Option Nat) (i1 : Int32) (i2 : Int32) (i3 : Int32) (M : mM), mVr E mi_M_isFrame 1 54 [some (.inr t0), some (.inl i1), some (.inl i2), some (.inl i3), none] [] M enI (r54 t0 i1 i2 i3 M)) : ∀ (n : Nat) (t0 : Option Nat) (i1 : Int32) (i2 : Int32) (i3 : Int32) (i4 : Int32) (M : mM), mVr E mi_M_isFrame 1 69 [some (.inr t0), some (.inl i1), some (.inl i2), some (.inl i3), some (.inl i4)] [] M enI (q_M_isFrame_69 r54 n t0 i1 i2 i3 i4 M)
  | 0, _, _, _, _, _, _ => m_none
  | n + 1, t0, i1, i2, i3, i4, M => v_M_isFrame_69_b r54 h54 _ (v_M_isFrame_69 r54 h54 n) t0 i1 i2 i3 i4 M
def q_M_isFrame_175_b (r175 : Option Nat → Int32 → Int32 → Int32 → mM → Option (Int32 × mM)) (t0 : Option Nat) (i1 : Int32) (i2 : Int32) (i4 : Int32) (M : mM) : Option (Int32 × mM) :=
    if i4 < (i2 - (2 : Int32)) then
      x_gR M 10 t0 13 fun a1 =>
      x_gR M 10 t0 14 fun a2 =>
      x_aI M 0 a2 i4 fun x3 =>
      x_wI M a1 (((90 : Int32) * i1) + i4) x3 fun M =>
      r175 t0 i1 i2 (i4 + 1) M
    else
      x_rz (1 : Int32) M
def q_M_isFrame_175 : Nat → Option Nat → Int32 → Int32 → Int32 → mM → Option (Int32 × mM)
  | 0, _, _, _, _, _ => none
  | n + 1, t0, i1, i2, i4, M => q_M_isFrame_175_b (q_M_isFrame_175 n) t0 i1 i2 i4 M
set_option maxRecDepth 20000 in
theorem v_M_isFrame_175_b {E : mE} (r175 : Option Nat → Int32 → Int32 → Int32 → mM → Option (Int32 × mM)) (h175 : ∀ (t0 : Option Nat) (i1 : Int32) (i2 : Int32) (i4 : Int32) (M : mM), mVr E mi_M_isFrame 1 175 [some (.inr t0), some (.inl i1), some (.inl i2), none, some (.inl i4)] [] M enI (r175 t0 i1 i2 i4 M)) (t0 : Option Nat) (i1 : Int32) (i2 : Int32) (i4 : Int32) (M : mM) : mVr E mi_M_isFrame 1 175 [some (.inr t0), some (.inl i1), some (.inl i2), none, some (.inl i4)] [] M enI (q_M_isFrame_175_b r175 t0 i1 i2 i4 M) := by
  unfold q_M_isFrame_175_b
  refine m_iload (d_M_isFrame_2 (k := 30) rfl) rfl ?_
  refine m_iload_n (d_M_isFrame_2 (k := 31) rfl) rfl ?_
  refine m_iconst (v := 2) (d_M_isFrame_2 (k := 32) rfl) (by decide) ?_
  refine m_isub (d_M_isFrame_2 (k := 33) rfl) ?_
  refine m_icmp_ge (tgt := 208) (d_M_isFrame_2 (k := 34) rfl) rfl ?_ ?_
  · refine m_aload_n (d_M_isFrame_2 (k := 35) rfl) rfl ?_
    refine m_getR (d_M_isFrame_2 (k := 36) rfl) fl_M_38 rfl (fun a1 => ?_)
    refine m_bipush (v := 90) (d_M_isFrame_2 (k := 37) rfl) (by decide) ?_
    refine m_iload_n (d_M_isFrame_2 (k := 38) rfl) rfl ?_
    refine m_imul (d_M_isFrame_2 (k := 39) rfl) ?_
    refine m_iload (d_M_isFrame_3 (k := 0) rfl) rfl ?_
    refine m_iadd (d_M_isFrame_3 (k := 1) rfl) ?_
    refine m_aload_n (d_M_isFrame_3 (k := 2) rfl) rfl ?_
    refine m_getR (d_M_isFrame_3 (k := 3) rfl) fl_M_41 rfl (fun a2 => ?_)
    refine m_iload (d_M_isFrame_3 (k := 4) rfl) rfl ?_
    refine m_iald (d_M_isFrame_3 (k := 5) rfl) (fun x3 => ?_)
    refine m_iast (d_M_isFrame_3 (k := 6) rfl) (fun M => ?_)
    refine m_inc (v := 1) (ls' := [some (.inr t0), some (.inl i1), some (.inl i2), none, some (.inl (i4 + 1))]) (d_M_isFrame_3 (k := 7) rfl) rfl (by decide) (by decide) rfl ?_
    refine m_goto (tgt := 175) (d_M_isFrame_3 (k := 8) rfl) rfl ?_
    exact m_drop (mles_s (mles_s (mles_s (mles_n (mles_s mles_0))))) (h175 t0 i1 i2 (i4 + 1) M)
  · refine m_iconst (v := 1) (d_M_isFrame_3 (k := 9) rfl) (by decide) ?_
    exact m_zret (d_M_isFrame_3 (k := 10) rfl) rfl
theorem v_M_isFrame_175 {E : mE} : ∀ (n : Nat) (t0 : Option Nat) (i1 : Int32) (i2 : Int32) (i4 : Int32) (M : mM), mVr E mi_M_isFrame 1 175 [some (.inr t0), some (.inl i1), some (.inl i2), none, some (.inl i4)] [] M enI (q_M_isFrame_175 n t0 i1 i2 i4 M)
  | 0, _, _, _, _, _ => m_none
  | n + 1, t0, i1, i2, i4, M => v_M_isFrame_175_b _ (v_M_isFrame_175 n) t0 i1 i2 i4 M
def q_M_isFrame_54_b (r54 : Option Nat → Int32 → Int32 → Int32 → mM → Option (Int32 × mM)) (t0 : Option Nat) (i1 : Int32) (i2 : Int32) (i3 : Int32) (M : mM) : Option (Int32 × mM) :=
    if i3 < i2 then
      x_gR M 10 t0 14 fun a1 =>
      x_wI M a1 i3 (0 : Int32) fun M =>
      q_M_isFrame_69 r54 mFU t0 i1 i2 i3 (0 : Int32) M
    else
      x_gR M 10 t0 14 fun a2 =>
      x_cl (q_M_checkOf a2 (0 : Int32) (i2 - (2 : Int32)) M) fun x3 M =>
      x_gR M 10 t0 14 fun a4 =>
      x_aI M 0 a4 (i2 - (2 : Int32)) fun x5 =>
      if x5 = (x3 &&& (255 : Int32)) then
        x_gR M 10 t0 14 fun a6 =>
        x_aI M 0 a6 (i2 - (1 : Int32)) fun x7 =>
        if x7 = (x3 >>> ((8 : Int32) &&& 31)) then
          x_gR M 10 t0 12 fun a8 =>
          x_wI M a8 i1 (i2 - (2 : Int32)) fun M =>
          q_M_isFrame_175 mFU t0 i1 i2 (0 : Int32) M
        else
          x_rz (0 : Int32) M
      else
        x_rz (0 : Int32) M
def q_M_isFrame_54 : Nat → Option Nat → Int32 → Int32 → Int32 → mM → Option (Int32 × mM)
  | 0, _, _, _, _, _ => none
  | n + 1, t0, i1, i2, i3, M => q_M_isFrame_54_b (q_M_isFrame_54 n) t0 i1 i2 i3 M
set_option maxRecDepth 20000 in
theorem v_M_isFrame_54_b {E : mE} (r54 : Option Nat → Int32 → Int32 → Int32 → mM → Option (Int32 × mM)) (h54 : ∀ (t0 : Option Nat) (i1 : Int32) (i2 : Int32) (i3 : Int32) (M : mM), mVr E mi_M_isFrame 1 54 [some (.inr t0), some (.inl i1), some (.inl i2), some (.inl i3), none] [] M enI (r54 t0 i1 i2 i3 M)) (t0 : Option Nat) (i1 : Int32) (i2 : Int32) (i3 : Int32) (M : mM) : mVr E mi_M_isFrame 1 54 [some (.inr t0), some (.inl i1), some (.inl i2), some (.inl i3), none] [] M enI (q_M_isFrame_54_b r54 t0 i1 i2 i3 M) := by
  unfold q_M_isFrame_54_b
  refine m_iload_n (d_M_isFrame_0 (k := 33) rfl) rfl ?_
  refine m_iload_n (d_M_isFrame_0 (k := 34) rfl) rfl ?_
  refine m_icmp_ge (tgt := 118) (d_M_isFrame_0 (k := 35) rfl) rfl ?_ ?_
  · refine m_aload_n (d_M_isFrame_0 (k := 36) rfl) rfl ?_
    refine m_getR (d_M_isFrame_0 (k := 37) rfl) fl_M_41 rfl (fun a1 => ?_)
    refine m_iload_n (d_M_isFrame_0 (k := 38) rfl) rfl ?_
    refine m_iconst (v := 0) (d_M_isFrame_0 (k := 39) rfl) (by decide) ?_
    refine m_iast (d_M_isFrame_1 (k := 0) rfl) (fun M => ?_)
    refine m_iconst (v := 0) (d_M_isFrame_1 (k := 1) rfl) (by decide) ?_
    refine m_ist (ls' := [some (.inr t0), some (.inl i1), some (.inl i2), some (.inl i3), some (.inl (0 : Int32))]) (d_M_isFrame_1 (k := 2) rfl) (by decide) rfl ?_
    exact m_drop (mles_s (mles_s (mles_s (mles_s (mles_s mles_0))))) (v_M_isFrame_69 r54 h54 mFU t0 i1 i2 i3 (0 : Int32) M)
  · refine m_aload_n (d_M_isFrame_1 (k := 31) rfl) rfl ?_
    refine m_getR (d_M_isFrame_1 (k := 32) rfl) fl_M_41 rfl (fun a2 => ?_)
    refine m_iconst (v := 0) (d_M_isFrame_1 (k := 33) rfl) (by decide) ?_
    refine m_iload_n (d_M_isFrame_1 (k := 34) rfl) rfl ?_
    refine m_iconst (v := 2) (d_M_isFrame_1 (k := 35) rfl) (by decide) ?_
    refine m_isub (d_M_isFrame_1 (k := 36) rfl) ?_
    refine m_csI (vs := [.inr a2, .inl (0 : Int32), .inl (i2 - (2 : Int32))]) (st := []) (d_M_isFrame_1 (k := 37) rfl) (s_M_checkOf a2 (0 : Int32) (i2 - (2 : Int32)) M) cd_M_checkOf ml_M_236 sa_M_checkOf (by decide) rfl (Nat.le_of_ble_eq_true rfl) (fun x3 M => ?_)
    refine m_ist_n (ls' := [some (.inr t0), some (.inl i1), some (.inl i2), some (.inl x3), none]) (d_M_isFrame_1 (k := 38) rfl) (by decide) rfl ?_
    refine m_aload_n (d_M_isFrame_1 (k := 39) rfl) rfl ?_
    refine m_getR (d_M_isFrame_2 (k := 0) rfl) fl_M_41 rfl (fun a4 => ?_)
    refine m_iload_n (d_M_isFrame_2 (k := 1) rfl) rfl ?_
    refine m_iconst (v := 2) (d_M_isFrame_2 (k := 2) rfl) (by decide) ?_
    refine m_isub (d_M_isFrame_2 (k := 3) rfl) ?_
    refine m_iald (d_M_isFrame_2 (k := 4) rfl) (fun x5 => ?_)
    refine m_iload_n (d_M_isFrame_2 (k := 5) rfl) rfl ?_
    refine m_sipush (v := 255) (d_M_isFrame_2 (k := 6) rfl) (by decide) ?_
    refine m_iand (d_M_isFrame_2 (k := 7) rfl) ?_
    refine m_icmp_ne (tgt := 161) (d_M_isFrame_2 (k := 8) rfl) rfl ?_ ?_
    · refine m_aload_n (d_M_isFrame_2 (k := 9) rfl) rfl ?_
      refine m_getR (d_M_isFrame_2 (k := 10) rfl) fl_M_41 rfl (fun a6 => ?_)
      refine m_iload_n (d_M_isFrame_2 (k := 11) rfl) rfl ?_
      refine m_iconst (v := 1) (d_M_isFrame_2 (k := 12) rfl) (by decide) ?_
      refine m_isub (d_M_isFrame_2 (k := 13) rfl) ?_
      refine m_iald (d_M_isFrame_2 (k := 14) rfl) (fun x7 => ?_)
      refine m_iload_n (d_M_isFrame_2 (k := 15) rfl) rfl ?_
      refine m_bipush (v := 8) (d_M_isFrame_2 (k := 16) rfl) (by decide) ?_
      refine m_ishr (d_M_isFrame_2 (k := 17) rfl) ?_
      refine m_icmp_eq (tgt := 163) (d_M_isFrame_2 (k := 18) rfl) rfl ?_ ?_
      · refine m_aload_n (d_M_isFrame_2 (k := 21) rfl) rfl ?_
        refine m_getR (d_M_isFrame_2 (k := 22) rfl) fl_M_35 rfl (fun a8 => ?_)
        refine m_iload_n (d_M_isFrame_2 (k := 23) rfl) rfl ?_
        refine m_iload_n (d_M_isFrame_2 (k := 24) rfl) rfl ?_
        refine m_iconst (v := 2) (d_M_isFrame_2 (k := 25) rfl) (by decide) ?_
        refine m_isub (d_M_isFrame_2 (k := 26) rfl) ?_
        refine m_iast (d_M_isFrame_2 (k := 27) rfl) (fun M => ?_)
        refine m_iconst (v := 0) (d_M_isFrame_2 (k := 28) rfl) (by decide) ?_
        refine m_ist (ls' := [some (.inr t0), some (.inl i1), some (.inl i2), some (.inl x3), some (.inl (0 : Int32))]) (d_M_isFrame_2 (k := 29) rfl) (by decide) rfl ?_
        exact m_drop (mles_s (mles_s (mles_s (mles_n (mles_s mles_0))))) (v_M_isFrame_175 mFU t0 i1 i2 (0 : Int32) M)
      · refine m_iconst (v := 0) (d_M_isFrame_2 (k := 19) rfl) (by decide) ?_
        exact m_zret (d_M_isFrame_2 (k := 20) rfl) rfl
    · refine m_iconst (v := 0) (d_M_isFrame_2 (k := 19) rfl) (by decide) ?_
      exact m_zret (d_M_isFrame_2 (k := 20) rfl) rfl
theorem v_M_isFrame_54 {E : mE} : ∀ (n : Nat) (t0 : Option Nat) (i1 : Int32) (i2 : Int32) (i3 : Int32) (M : mM), mVr E mi_M_isFrame 1 54 [some (.inr t0), some (.inl i1), some (.inl i2), some (.inl i3), none] [] M enI (q_M_isFrame_54 n t0 i1 i2 i3 M)
  | 0, _, _, _, _, _ => m_none
  | n + 1, t0, i1, i2, i3, M => v_M_isFrame_54_b _ (v_M_isFrame_54 n) t0 i1 i2 i3 M
def q_M_isFrame (t0 : Option Nat) (i1 : Int32) (M : mM) : Option (Int32 × mM) :=
    x_gR M 10 t0 10 fun a1 =>
    x_aI M 0 a1 i1 fun x2 =>
    x_dv (x2 - (7 : Int32)) (8 : Int32) fun x3 =>
    x_gR M 10 t0 10 fun a4 =>
    x_aI M 0 a4 i1 fun x5 =>
    if x5 < (7 : Int32) then
      x_rz (0 : Int32) M
    else
      x_gR M 10 t0 10 fun a6 =>
      x_aI M 0 a6 i1 fun x7 =>
      x_rm (x7 - (7 : Int32)) (8 : Int32) fun x8 =>
      if x8 = 0 then
        x_cl (q_M_in x3 (17 : Int32) (92 : Int32) M) fun x9 M =>
        if x9 = 0 then
          x_rz (0 : Int32) M
        else
          q_M_isFrame_54 mFU t0 i1 x3 (0 : Int32) M
      else
        x_rz (0 : Int32) M
set_option maxRecDepth 20000 in
theorem v_M_isFrame {E : mE} (t0 : Option Nat) (i1 : Int32) (M : mM) : mVr E mi_M_isFrame 1 0 [some (.inr t0), some (.inl i1), none, none, none] [] M enI (q_M_isFrame t0 i1 M) := by
  unfold q_M_isFrame
  refine m_aload_n (d_M_isFrame_0 (k := 0) rfl) rfl ?_
  refine m_getR (d_M_isFrame_0 (k := 1) rfl) fl_M_29 rfl (fun a1 => ?_)
  refine m_iload_n (d_M_isFrame_0 (k := 2) rfl) rfl ?_
  refine m_iald (d_M_isFrame_0 (k := 3) rfl) (fun x2 => ?_)
  refine m_bipush (v := 7) (d_M_isFrame_0 (k := 4) rfl) (by decide) ?_
  refine m_isub (d_M_isFrame_0 (k := 5) rfl) ?_
  refine m_bipush (v := 8) (d_M_isFrame_0 (k := 6) rfl) (by decide) ?_
  refine m_idiv (d_M_isFrame_0 (k := 7) rfl) (fun x3 => ?_)
  refine m_ist_n (ls' := [some (.inr t0), some (.inl i1), some (.inl x3), none, none]) (d_M_isFrame_0 (k := 8) rfl) (by decide) rfl ?_
  refine m_aload_n (d_M_isFrame_0 (k := 9) rfl) rfl ?_
  refine m_getR (d_M_isFrame_0 (k := 10) rfl) fl_M_29 rfl (fun a4 => ?_)
  refine m_iload_n (d_M_isFrame_0 (k := 11) rfl) rfl ?_
  refine m_iald (d_M_isFrame_0 (k := 12) rfl) (fun x5 => ?_)
  refine m_bipush (v := 7) (d_M_isFrame_0 (k := 13) rfl) (by decide) ?_
  refine m_icmp_lt (tgt := 50) (d_M_isFrame_0 (k := 14) rfl) rfl ?_ ?_
  · refine m_iconst (v := 0) (d_M_isFrame_0 (k := 29) rfl) (by decide) ?_
    exact m_zret (d_M_isFrame_0 (k := 30) rfl) rfl
  · refine m_aload_n (d_M_isFrame_0 (k := 15) rfl) rfl ?_
    refine m_getR (d_M_isFrame_0 (k := 16) rfl) fl_M_29 rfl (fun a6 => ?_)
    refine m_iload_n (d_M_isFrame_0 (k := 17) rfl) rfl ?_
    refine m_iald (d_M_isFrame_0 (k := 18) rfl) (fun x7 => ?_)
    refine m_bipush (v := 7) (d_M_isFrame_0 (k := 19) rfl) (by decide) ?_
    refine m_isub (d_M_isFrame_0 (k := 20) rfl) ?_
    refine m_bipush (v := 8) (d_M_isFrame_0 (k := 21) rfl) (by decide) ?_
    refine m_irem (d_M_isFrame_0 (k := 22) rfl) (fun x8 => ?_)
    refine m_if_ne (tgt := 50) (d_M_isFrame_0 (k := 23) rfl) rfl ?_ ?_
    · refine m_iload_n (d_M_isFrame_0 (k := 24) rfl) rfl ?_
      refine m_bipush (v := 17) (d_M_isFrame_0 (k := 25) rfl) (by decide) ?_
      refine m_bipush (v := 92) (d_M_isFrame_0 (k := 26) rfl) (by decide) ?_
      refine m_csI (vs := [.inl x3, .inl (17 : Int32), .inl (92 : Int32)]) (st := []) (d_M_isFrame_0 (k := 27) rfl) (s_M_in x3 (17 : Int32) (92 : Int32) M) cd_M_in ml_M_203 sa_M_in (by decide) rfl (Nat.le_of_ble_eq_true rfl) (fun x9 M => ?_)
      refine m_if_ne (tgt := 52) (d_M_isFrame_0 (k := 28) rfl) rfl ?_ ?_
      · refine m_iconst (v := 0) (d_M_isFrame_0 (k := 29) rfl) (by decide) ?_
        exact m_zret (d_M_isFrame_0 (k := 30) rfl) rfl
      · refine m_iconst (v := 0) (d_M_isFrame_0 (k := 31) rfl) (by decide) ?_
        refine m_ist_n (ls' := [some (.inr t0), some (.inl i1), some (.inl x3), some (.inl (0 : Int32)), none]) (d_M_isFrame_0 (k := 32) rfl) (by decide) rfl ?_
        exact m_drop (mles_s (mles_s (mles_s (mles_s (mles_n mles_0))))) (v_M_isFrame_54 mFU t0 i1 x3 (0 : Int32) M)
    · refine m_iconst (v := 0) (d_M_isFrame_0 (k := 29) rfl) (by decide) ?_
      exact m_zret (d_M_isFrame_0 (k := 30) rfl) rfl
theorem s_M_isFrame {E : mE} (t0 : Option Nat) (i1 : Int32) (M : mM) : mSnd E mi_M_isFrame 1 [.inr t0, .inl i1] M enI (q_M_isFrame t0 i1 M) := m_entryZ (by decide) (Nat.le_of_ble_eq_true rfl) rfl (m_drop (mles_s (mles_s (mles_e (mles_e (mles_e mles_0))))) (v_M_isFrame t0 i1 M))
def dt_M_hear : List (Nat × Instr × Nat) := [(0, .iload_n 2, 1), (1, .aload_n 0, 1), (2, .getfield 19, 3), (5, .iload_n 1, 1), (6, .iaload, 1), (7, .if_icmp .ne 7, 3), (10, .iconst 1, 1), (11, .goto 4, 3), (14, .iconst 0, 1), (15, .istore_n 3, 1), (16, .aload_n 0, 1), (17, .getfield 19, 3), (20, .iload_n 1, 1), (21, .iload_n 2, 1), (22, .iastore, 1), (23, .iload_n 3, 1), (24, .iconst 1, 1), (25, .if_icmp .ne 42, 3), (28, .aload_n 0, 1), (29, .getfield 22, 3), (32, .iload_n 1, 1), (33, .dup2, 1), (34, .iaload, 1), (35, .iconst 1, 1), (36, .iadd, 1), (37, .iastore, 1), (38, .aload_n 0, 1), (39, .getfield 22, 3), (42, .iload_n 1, 1), (43, .iaload, 1), (44, .bipush 7, 2), (46, .if_icmp .lt 13, 3), (49, .aload_n 0, 1), (50, .getfield 25, 3), (53, .iload_n 1, 1), (54, .iconst 0, 1), (55, .bastore, 1), (56, .goto 9, 3), (59, .aload_n 0, 1), (60, .iload_n 1, 1), (61, .iconst 1, 1), (62, .invokevirtual 247, 3), (65, .iconst 0, 1), (66, .ireturn, 1), (67, .iconst 0, 1), (68, .istore 4, 2), (70, .aload_n 0, 1), (71, .getfield 22, 3), (74, .iload_n 1, 1), (75, .iaload, 1), (76, .bipush 6, 2), (78, .if_icmp .ne 44, 3), (81, .aload_n 0, 1), (82, .getfield 25, 3), (85, .iload_n 1, 1), (86, .baload, 1), (87, .ifCond .eq 15, 3), (90, .aload_n 0, 1), (91, .iload_n 1, 1), (92, .invokevirtual 251, 3), (95, .ifCond .eq 7, 3), (98, .iconst 1, 1), (99, .goto 4, 3), (102, .iconst 0, 1), (103, .istore 4, 2), (105, .aload_n 0, 1), (106, .getfield 25, 3), (109, .iload_n 1, 1), (110, .iconst 1, 1), (111, .bastore, 1), (112, .aload_n 0, 1), (113, .getfield 29, 3), (116, .iload_n 1, 1), (117, .iconst 0, 1), (118, .iastore, 1), (119, .goto 19, 3), (122, .aload_n 0, 1), (123, .getfield 22, 3), (126, .iload_n 1, 1), (127, .iaload, 1), (128, .iconst 5, 1), (129, .if_icmp .eq 9, 3), (132, .aload_n 0, 1), (133, .iload_n 1, 1), (134, .iconst 0, 1), (135, .invokevirtual 247, 3), (138, .aload_n 0, 1), (139, .getfield 22, 3), (142, .iload_n 1, 1), (143, .iconst 0, 1), (144, .iastore, 1), (145, .iload 4, 2), (147, .ireturn, 1)]
theorem dx_M_hear : ∀ p ∈ dt_M_hear, decode prog_12_method_18_code p.1 = .ok p.2 := by decide +kernel
theorem d_M_hear {k pc : Nat} {i : Instr} {n : Nat} (h : dt_M_hear[k]? = some (pc, i, n)) : decode mi_M_hear.2.1 pc = .ok (i, n) := dx_M_hear (pc, i, n) (List.mem_of_getElem? h)
def q_M_hear_138 (t0 : Option Nat) (i1 : Int32) (i4 : Int32) (M : mM) : Option (Int32 × mM) :=
    x_gR M 10 t0 8 fun a1 =>
    x_wI M a1 i1 (0 : Int32) fun M =>
    x_rz i4 M
set_option maxRecDepth 20000 in
theorem v_M_hear_138 {E : mE} (t0 : Option Nat) (i1 : Int32) (i4 : Int32) (M : mM) : mVr E mi_M_hear 2 138 [some (.inr t0), some (.inl i1), none, none, some (.inl i4)] [] M enI (q_M_hear_138 t0 i1 i4 M) := by
  unfold q_M_hear_138
  refine m_aload_n (d_M_hear (k := 86) rfl) rfl ?_
  refine m_getR (d_M_hear (k := 87) rfl) fl_M_22 rfl (fun a1 => ?_)
  refine m_iload_n (d_M_hear (k := 88) rfl) rfl ?_
  refine m_iconst (v := 0) (d_M_hear (k := 89) rfl) (by decide) ?_
  refine m_iast (d_M_hear (k := 90) rfl) (fun M => ?_)
  refine m_iload (d_M_hear (k := 91) rfl) rfl ?_
  exact m_zret (d_M_hear (k := 92) rfl) rfl
def q_M_hear_103 (t0 : Option Nat) (i1 : Int32) (j0 : Int32) (M : mM) : Option (Int32 × mM) :=
    x_gR M 10 t0 9 fun a1 =>
    x_wZ M a1 i1 (1 : Int32) fun M =>
    x_gR M 10 t0 10 fun a2 =>
    x_wI M a2 i1 (0 : Int32) fun M =>
    q_M_hear_138 t0 i1 j0 M
set_option maxRecDepth 20000 in
theorem v_M_hear_103 {E : mE} (t0 : Option Nat) (i1 : Int32) (j0 : Int32) (M : mM) : mVr E mi_M_hear 2 103 [some (.inr t0), some (.inl i1), none, none, none] [.inl j0] M enI (q_M_hear_103 t0 i1 j0 M) := by
  unfold q_M_hear_103
  refine m_ist (ls' := [some (.inr t0), some (.inl i1), none, none, some (.inl j0)]) (d_M_hear (k := 64) rfl) (by decide) rfl ?_
  refine m_aload_n (d_M_hear (k := 65) rfl) rfl ?_
  refine m_getR (d_M_hear (k := 66) rfl) fl_M_25 rfl (fun a1 => ?_)
  refine m_iload_n (d_M_hear (k := 67) rfl) rfl ?_
  refine m_iconst (v := 1) (d_M_hear (k := 68) rfl) (by decide) ?_
  refine m_zast (d_M_hear (k := 69) rfl) (fun M => ?_)
  refine m_aload_n (d_M_hear (k := 70) rfl) rfl ?_
  refine m_getR (d_M_hear (k := 71) rfl) fl_M_29 rfl (fun a2 => ?_)
  refine m_iload_n (d_M_hear (k := 72) rfl) rfl ?_
  refine m_iconst (v := 0) (d_M_hear (k := 73) rfl) (by decide) ?_
  refine m_iast (d_M_hear (k := 74) rfl) (fun M => ?_)
  refine m_goto (tgt := 138) (d_M_hear (k := 75) rfl) rfl ?_
  exact m_drop (mles_s (mles_s (mles_n (mles_n (mles_s mles_0))))) (v_M_hear_138 t0 i1 j0 M)
def q_M_hear_102 (t0 : Option Nat) (i1 : Int32) (M : mM) : Option (Int32 × mM) :=
    q_M_hear_103 t0 i1 (0 : Int32) M
set_option maxRecDepth 20000 in
theorem v_M_hear_102 {E : mE} (t0 : Option Nat) (i1 : Int32) (M : mM) : mVr E mi_M_hear 2 102 [some (.inr t0), some (.inl i1), none, none, none] [] M enI (q_M_hear_102 t0 i1 M) := by
  unfold q_M_hear_102
  refine m_iconst (v := 0) (d_M_hear (k := 63) rfl) (by decide) ?_
  exact m_drop (mles_s (mles_s (mles_n (mles_n (mles_n mles_0))))) (v_M_hear_103 t0 i1 (0 : Int32) M)
def q_M_hear_15 (t0 : Option Nat) (i1 : Int32) (i2 : Int32) (j0 : Int32) (M : mM) : Option (Int32 × mM) :=
    x_gR M 10 t0 7 fun a1 =>
    x_wI M a1 i1 i2 fun M =>
    if j0 = (1 : Int32) then
      x_gR M 10 t0 8 fun a2 =>
      x_aI M 0 a2 i1 fun x3 =>
      x_wI M a2 i1 (x3 + (1 : Int32)) fun M =>
      x_gR M 10 t0 8 fun a4 =>
      x_aI M 0 a4 i1 fun x5 =>
      if x5 < (7 : Int32) then
        x_cv M 10 t0 (q_M_comes t0 i1 (1 : Int32) M) fun _ M =>
        x_rz (0 : Int32) M
      else
        x_gR M 10 t0 9 fun a6 =>
        x_wZ M a6 i1 (0 : Int32) fun M =>
        x_rz (0 : Int32) M
    else
      x_gR M 10 t0 8 fun a7 =>
      x_aI M 0 a7 i1 fun x8 =>
      if x8 = (6 : Int32) then
        x_gR M 10 t0 9 fun a9 =>
        x_aI M 1 a9 i1 fun x10 =>
        if x10 = 0 then
          q_M_hear_102 t0 i1 M
        else
          x_cv M 10 t0 (q_M_isFrame t0 i1 M) fun x11 M =>
          if x11 = 0 then
            q_M_hear_102 t0 i1 M
          else
            q_M_hear_103 t0 i1 (1 : Int32) M
      else
        x_gR M 10 t0 8 fun a12 =>
        x_aI M 0 a12 i1 fun x13 =>
        if x13 = (5 : Int32) then
          q_M_hear_138 t0 i1 (0 : Int32) M
        else
          x_cv M 10 t0 (q_M_comes t0 i1 (0 : Int32) M) fun _ M =>
          q_M_hear_138 t0 i1 (0 : Int32) M
set_option maxRecDepth 20000 in
theorem v_M_hear_15 {E : mE} (t0 : Option Nat) (i1 : Int32) (i2 : Int32) (j0 : Int32) (M : mM) : mVr E mi_M_hear 2 15 [some (.inr t0), some (.inl i1), some (.inl i2), none, none] [.inl j0] M enI (q_M_hear_15 t0 i1 i2 j0 M) := by
  unfold q_M_hear_15
  refine m_ist_n (ls' := [some (.inr t0), some (.inl i1), some (.inl i2), some (.inl j0), none]) (d_M_hear (k := 9) rfl) (by decide) rfl ?_
  refine m_aload_n (d_M_hear (k := 10) rfl) rfl ?_
  refine m_getR (d_M_hear (k := 11) rfl) fl_M_19 rfl (fun a1 => ?_)
  refine m_iload_n (d_M_hear (k := 12) rfl) rfl ?_
  refine m_iload_n (d_M_hear (k := 13) rfl) rfl ?_
  refine m_iast (d_M_hear (k := 14) rfl) (fun M => ?_)
  refine m_iload_n (d_M_hear (k := 15) rfl) rfl ?_
  refine m_iconst (v := 1) (d_M_hear (k := 16) rfl) (by decide) ?_
  refine m_icmp_ne (tgt := 67) (d_M_hear (k := 17) rfl) rfl ?_ ?_
  · refine m_aload_n (d_M_hear (k := 18) rfl) rfl ?_
    refine m_getR (d_M_hear (k := 19) rfl) fl_M_22 rfl (fun a2 => ?_)
    refine m_iload_n (d_M_hear (k := 20) rfl) rfl ?_
    refine m_dup2 (d_M_hear (k := 21) rfl) ?_
    refine m_iald (d_M_hear (k := 22) rfl) (fun x3 => ?_)
    refine m_iconst (v := 1) (d_M_hear (k := 23) rfl) (by decide) ?_
    refine m_iadd (d_M_hear (k := 24) rfl) ?_
    refine m_iast (d_M_hear (k := 25) rfl) (fun M => ?_)
    refine m_aload_n (d_M_hear (k := 26) rfl) rfl ?_
    refine m_getR (d_M_hear (k := 27) rfl) fl_M_22 rfl (fun a4 => ?_)
    refine m_iload_n (d_M_hear (k := 28) rfl) rfl ?_
    refine m_iald (d_M_hear (k := 29) rfl) (fun x5 => ?_)
    refine m_bipush (v := 7) (d_M_hear (k := 30) rfl) (by decide) ?_
    refine m_icmp_lt (tgt := 59) (d_M_hear (k := 31) rfl) rfl ?_ ?_
    · refine m_aload_n (d_M_hear (k := 38) rfl) rfl ?_
      refine m_iload_n (d_M_hear (k := 39) rfl) rfl ?_
      refine m_iconst (v := 1) (d_M_hear (k := 40) rfl) (by decide) ?_
      refine m_cvU (c := 10) (vs := [.inl i1, .inl (1 : Int32)]) (st := []) (d_M_hear (k := 41) rfl) (s_M_comes t0 i1 (1 : Int32) M) cd_M_comes ml_M_247 im_M_comes se_M_comes rfl (by decide) rfl (Nat.le_of_ble_eq_true rfl) (fun _ M => ?_)
      refine m_iconst (v := 0) (d_M_hear (k := 42) rfl) (by decide) ?_
      exact m_zret (d_M_hear (k := 43) rfl) rfl
    · refine m_aload_n (d_M_hear (k := 32) rfl) rfl ?_
      refine m_getR (d_M_hear (k := 33) rfl) fl_M_25 rfl (fun a6 => ?_)
      refine m_iload_n (d_M_hear (k := 34) rfl) rfl ?_
      refine m_iconst (v := 0) (d_M_hear (k := 35) rfl) (by decide) ?_
      refine m_zast (d_M_hear (k := 36) rfl) (fun M => ?_)
      refine m_goto (tgt := 65) (d_M_hear (k := 37) rfl) rfl ?_
      refine m_iconst (v := 0) (d_M_hear (k := 42) rfl) (by decide) ?_
      exact m_zret (d_M_hear (k := 43) rfl) rfl
  · refine m_iconst (v := 0) (d_M_hear (k := 44) rfl) (by decide) ?_
    refine m_ist (ls' := [some (.inr t0), some (.inl i1), some (.inl i2), some (.inl j0), some (.inl (0 : Int32))]) (d_M_hear (k := 45) rfl) (by decide) rfl ?_
    refine m_aload_n (d_M_hear (k := 46) rfl) rfl ?_
    refine m_getR (d_M_hear (k := 47) rfl) fl_M_22 rfl (fun a7 => ?_)
    refine m_iload_n (d_M_hear (k := 48) rfl) rfl ?_
    refine m_iald (d_M_hear (k := 49) rfl) (fun x8 => ?_)
    refine m_bipush (v := 6) (d_M_hear (k := 50) rfl) (by decide) ?_
    refine m_icmp_ne (tgt := 122) (d_M_hear (k := 51) rfl) rfl ?_ ?_
    · refine m_aload_n (d_M_hear (k := 52) rfl) rfl ?_
      refine m_getR (d_M_hear (k := 53) rfl) fl_M_25 rfl (fun a9 => ?_)
      refine m_iload_n (d_M_hear (k := 54) rfl) rfl ?_
      refine m_zald (d_M_hear (k := 55) rfl) (fun x10 => ?_)
      refine m_if_eq (tgt := 102) (d_M_hear (k := 56) rfl) rfl ?_ ?_
      · exact m_drop (mles_s (mles_s (mles_n (mles_n (mles_n mles_0))))) (v_M_hear_102 t0 i1 M)
      · refine m_aload_n (d_M_hear (k := 57) rfl) rfl ?_
        refine m_iload_n (d_M_hear (k := 58) rfl) rfl ?_
        refine m_cvI (c := 10) (vs := [.inl i1]) (st := []) (d_M_hear (k := 59) rfl) (s_M_isFrame t0 i1 M) cd_M_isFrame ml_M_251 im_M_isFrame se_M_isFrame rfl (by decide) rfl (Nat.le_of_ble_eq_true rfl) (fun x11 M => ?_)
        refine m_if_eq (tgt := 102) (d_M_hear (k := 60) rfl) rfl ?_ ?_
        · exact m_drop (mles_s (mles_s (mles_n (mles_n (mles_n mles_0))))) (v_M_hear_102 t0 i1 M)
        · refine m_iconst (v := 1) (d_M_hear (k := 61) rfl) (by decide) ?_
          refine m_goto (tgt := 103) (d_M_hear (k := 62) rfl) rfl ?_
          exact m_drop (mles_s (mles_s (mles_n (mles_n (mles_n mles_0))))) (v_M_hear_103 t0 i1 (1 : Int32) M)
    · refine m_aload_n (d_M_hear (k := 76) rfl) rfl ?_
      refine m_getR (d_M_hear (k := 77) rfl) fl_M_22 rfl (fun a12 => ?_)
      refine m_iload_n (d_M_hear (k := 78) rfl) rfl ?_
      refine m_iald (d_M_hear (k := 79) rfl) (fun x13 => ?_)
      refine m_iconst (v := 5) (d_M_hear (k := 80) rfl) (by decide) ?_
      refine m_icmp_eq (tgt := 138) (d_M_hear (k := 81) rfl) rfl ?_ ?_
      · exact m_drop (mles_s (mles_s (mles_n (mles_n (mles_s mles_0))))) (v_M_hear_138 t0 i1 (0 : Int32) M)
      · refine m_aload_n (d_M_hear (k := 82) rfl) rfl ?_
        refine m_iload_n (d_M_hear (k := 83) rfl) rfl ?_
        refine m_iconst (v := 0) (d_M_hear (k := 84) rfl) (by decide) ?_
        refine m_cvU (c := 10) (vs := [.inl i1, .inl (0 : Int32)]) (st := []) (d_M_hear (k := 85) rfl) (s_M_comes t0 i1 (0 : Int32) M) cd_M_comes ml_M_247 im_M_comes se_M_comes rfl (by decide) rfl (Nat.le_of_ble_eq_true rfl) (fun _ M => ?_)
        exact m_drop (mles_s (mles_s (mles_n (mles_n (mles_s mles_0))))) (v_M_hear_138 t0 i1 (0 : Int32) M)
def q_M_hear (t0 : Option Nat) (i1 : Int32) (i2 : Int32) (M : mM) : Option (Int32 × mM) :=
    x_gR M 10 t0 7 fun a1 =>
    x_aI M 0 a1 i1 fun x2 =>
    if i2 = x2 then
      q_M_hear_15 t0 i1 i2 (1 : Int32) M
    else
      q_M_hear_15 t0 i1 i2 (0 : Int32) M
set_option maxRecDepth 20000 in
theorem v_M_hear {E : mE} (t0 : Option Nat) (i1 : Int32) (i2 : Int32) (M : mM) : mVr E mi_M_hear 2 0 [some (.inr t0), some (.inl i1), some (.inl i2), none, none] [] M enI (q_M_hear t0 i1 i2 M) := by
  unfold q_M_hear
  refine m_iload_n (d_M_hear (k := 0) rfl) rfl ?_
  refine m_aload_n (d_M_hear (k := 1) rfl) rfl ?_
  refine m_getR (d_M_hear (k := 2) rfl) fl_M_19 rfl (fun a1 => ?_)
  refine m_iload_n (d_M_hear (k := 3) rfl) rfl ?_
  refine m_iald (d_M_hear (k := 4) rfl) (fun x2 => ?_)
  refine m_icmp_ne (tgt := 14) (d_M_hear (k := 5) rfl) rfl ?_ ?_
  · refine m_iconst (v := 1) (d_M_hear (k := 6) rfl) (by decide) ?_
    refine m_goto (tgt := 15) (d_M_hear (k := 7) rfl) rfl ?_
    exact m_drop (mles_s (mles_s (mles_s (mles_n (mles_n mles_0))))) (v_M_hear_15 t0 i1 i2 (1 : Int32) M)
  · refine m_iconst (v := 0) (d_M_hear (k := 8) rfl) (by decide) ?_
    exact m_drop (mles_s (mles_s (mles_s (mles_n (mles_n mles_0))))) (v_M_hear_15 t0 i1 i2 (0 : Int32) M)
theorem s_M_hear {E : mE} (t0 : Option Nat) (i1 : Int32) (i2 : Int32) (M : mM) : mSnd E mi_M_hear 2 [.inr t0, .inl i1, .inl i2] M enI (q_M_hear t0 i1 i2 M) := m_entryZ (by decide) (Nat.le_of_ble_eq_true rfl) rfl (m_drop (mles_s (mles_s (mles_s (mles_e (mles_e mles_0))))) (v_M_hear t0 i1 i2 M))
def dt_M_hearNothing : List (Nat × Instr × Nat) := [(0, .aload_n 0, 1), (1, .getfield 25, 3), (4, .iload_n 1, 1), (5, .iconst 0, 1), (6, .bastore, 1), (7, .aload_n 0, 1), (8, .getfield 22, 3), (11, .iload_n 1, 1), (12, .iconst 0, 1), (13, .iastore, 1), (14, .return_, 1)]
theorem dx_M_hearNothing : ∀ p ∈ dt_M_hearNothing, decode prog_12_method_19_code p.1 = .ok p.2 := by decide +kernel
theorem d_M_hearNothing {k pc : Nat} {i : Instr} {n : Nat} (h : dt_M_hearNothing[k]? = some (pc, i, n)) : decode mi_M_hearNothing.2.1 pc = .ok (i, n) := dx_M_hearNothing (pc, i, n) (List.mem_of_getElem? h)
def q_M_hearNothing (t0 : Option Nat) (i1 : Int32) (M : mM) : Option (Unit × mM) :=
    x_gR M 10 t0 9 fun a1 =>
    x_wZ M a1 i1 (0 : Int32) fun M =>
    x_gR M 10 t0 8 fun a2 =>
    x_wI M a2 i1 (0 : Int32) fun M =>
    some ((), M)
set_option maxRecDepth 20000 in
theorem v_M_hearNothing {E : mE} (t0 : Option Nat) (i1 : Int32) (M : mM) : mVr E mi_M_hearNothing 0 0 [some (.inr t0), some (.inl i1)] [] M enU (q_M_hearNothing t0 i1 M) := by
  unfold q_M_hearNothing
  refine m_aload_n (d_M_hearNothing (k := 0) rfl) rfl ?_
  refine m_getR (d_M_hearNothing (k := 1) rfl) fl_M_25 rfl (fun a1 => ?_)
  refine m_iload_n (d_M_hearNothing (k := 2) rfl) rfl ?_
  refine m_iconst (v := 0) (d_M_hearNothing (k := 3) rfl) (by decide) ?_
  refine m_zast (d_M_hearNothing (k := 4) rfl) (fun M => ?_)
  refine m_aload_n (d_M_hearNothing (k := 5) rfl) rfl ?_
  refine m_getR (d_M_hearNothing (k := 6) rfl) fl_M_22 rfl (fun a2 => ?_)
  refine m_iload_n (d_M_hearNothing (k := 7) rfl) rfl ?_
  refine m_iconst (v := 0) (d_M_hearNothing (k := 8) rfl) (by decide) ?_
  refine m_iast (d_M_hearNothing (k := 9) rfl) (fun M => ?_)
  exact m_vret (d_M_hearNothing (k := 10) rfl) rfl
theorem s_M_hearNothing {E : mE} (t0 : Option Nat) (i1 : Int32) (M : mM) : mSnd E mi_M_hearNothing 0 [.inr t0, .inl i1] M enU (q_M_hearNothing t0 i1 M) := m_entryU (by decide) (Nat.le_of_ble_eq_true rfl) rfl (m_drop (mles_s (mles_s mles_0)) (v_M_hearNothing t0 i1 M))
def dt_M_isStray : List (Nat × Instr × Nat) := [(0, .iconst 0, 1), (1, .istore_n 2, 1), (2, .iload_n 2, 1), (3, .bipush 6, 2), (5, .if_icmp .ge 124, 3), (8, .aload_n 0, 1), (9, .getfield 47, 3), (12, .bipush 6, 2), (14, .iload_n 1, 1), (15, .imul, 1), (16, .iload_n 2, 1), (17, .iadd, 1), (18, .baload, 1), (19, .ifCond .eq 104, 3), (22, .aload_n 0, 1), (23, .getfield 68, 3), (26, .iload_n 2, 1), (27, .baload, 1), (28, .ifCond .eq 95, 3), (31, .aload_n 0, 1), (32, .getfield 89, 3), (35, .iload_n 2, 1), (36, .baload, 1), (37, .ifCond .eq 86, 3), (40, .aload_n 0, 1), (41, .getfield 83, 3), (44, .iload_n 2, 1), (45, .iaload, 1), (46, .aload_n 0, 1), (47, .getfield 35, 3), (50, .iload_n 1, 1), (51, .iaload, 1), (52, .if_icmp .eq 6, 3), (55, .goto 68, 3), (58, .iconst 1, 1), (59, .istore_n 3, 1), (60, .iconst 0, 1), (61, .istore 4, 2), (63, .iload 4, 2), (65, .aload_n 0, 1), (66, .getfield 35, 3), (69, .iload_n 1, 1), (70, .iaload, 1), (71, .if_icmp .ge 46, 3), (74, .iload_n 3, 1), (75, .ifCond .eq 34, 3), (78, .aload_n 0, 1), (79, .getfield 86, 3), (82, .bipush 90, 2), (84, .iload_n 2, 1), (85, .imul, 1), (86, .iload 4, 2), (88, .iadd, 1), (89, .iaload, 1), (90, .aload_n 0, 1), (91, .getfield 38, 3), (94, .bipush 90, 2), (96, .iload_n 1, 1), (97, .imul, 1), (98, .iload 4, 2), (100, .iadd, 1), (101, .iaload, 1), (102, .if_icmp .ne 7, 3), (105, .iconst 1, 1), (106, .goto 4, 3), (109, .iconst 0, 1), (110, .istore_n 3, 1), (111, .iinc 4 1, 3), (114, .goto (-51), 3), (117, .iload_n 3, 1), (118, .ifCond .eq 5, 3), (121, .iconst 0, 1), (122, .ireturn, 1), (123, .iinc 2 1, 3), (126, .goto (-124), 3), (129, .iconst 1, 1), (130, .ireturn, 1)]
theorem dx_M_isStray : ∀ p ∈ dt_M_isStray, decode prog_12_method_34_code p.1 = .ok p.2 := by decide +kernel
theorem d_M_isStray {k pc : Nat} {i : Instr} {n : Nat} (h : dt_M_isStray[k]? = some (pc, i, n)) : decode mi_M_isStray.2.1 pc = .ok (i, n) := dx_M_isStray (pc, i, n) (List.mem_of_getElem? h)
def q_M_isStray_123 (r2 : Option Nat → Int32 → Int32 → mM → Option (Int32 × mM)) (t0 : Option Nat) (i1 : Int32) (i2 : Int32) (M : mM) : Option (Int32 × mM) :=
    r2 t0 i1 (i2 + 1) M
set_option maxRecDepth 20000 in
theorem v_M_isStray_123 {E : mE} (r2 : Option Nat → Int32 → Int32 → mM → Option (Int32 × mM)) (h2 : ∀ (t0 : Option Nat) (i1 : Int32) (i2 : Int32) (M : mM), mVr E mi_M_isStray 0 2 [some (.inr t0), some (.inl i1), some (.inl i2), none, none] [] M enI (r2 t0 i1 i2 M)) (t0 : Option Nat) (i1 : Int32) (i2 : Int32) (M : mM) : mVr E mi_M_isStray 0 123 [some (.inr t0), some (.inl i1), some (.inl i2), none, none] [] M enI (q_M_isStray_123 r2 t0 i1 i2 M) := by
  unfold q_M_isStray_123
  refine m_inc (v := 1) (ls' := [some (.inr t0), some (.inl i1), some (.inl (i2 + 1)), none, none]) (d_M_isStray (k := 73) rfl) rfl (by decide) (by decide) rfl ?_
  refine m_goto (tgt := 2) (d_M_isStray (k := 74) rfl) rfl ?_
  exact m_drop (mles_s (mles_s (mles_s (mles_n (mles_n mles_0))))) (h2 t0 i1 (i2 + 1) M)
def q_M_isStray_110 (r2 : Option Nat → Int32 → Int32 → mM → Option (Int32 × mM)) (r63 : Option Nat → Int32 → Int32 → Int32 → Int32 → mM → Option (Int32 × mM)) (t0 : Option Nat) (i1 : Int32) (i2 : Int32) (i4 : Int32) (j0 : Int32) (M : mM) : Option (Int32 × mM) :=
    r63 t0 i1 i2 j0 (i4 + 1) M
set_option maxRecDepth 20000 in
theorem v_M_isStray_110 {E : mE} (r2 : Option Nat → Int32 → Int32 → mM → Option (Int32 × mM)) (h2 : ∀ (t0 : Option Nat) (i1 : Int32) (i2 : Int32) (M : mM), mVr E mi_M_isStray 0 2 [some (.inr t0), some (.inl i1), some (.inl i2), none, none] [] M enI (r2 t0 i1 i2 M)) (r63 : Option Nat → Int32 → Int32 → Int32 → Int32 → mM → Option (Int32 × mM)) (h63 : ∀ (t0 : Option Nat) (i1 : Int32) (i2 : Int32) (i3 : Int32) (i4 : Int32) (M : mM), mVr E mi_M_isStray 0 63 [some (.inr t0), some (.inl i1), some (.inl i2), some (.inl i3), some (.inl i4)] [] M enI (r63 t0 i1 i2 i3 i4 M)) (t0 : Option Nat) (i1 : Int32) (i2 : Int32) (i4 : Int32) (j0 : Int32) (M : mM) : mVr E mi_M_isStray 0 110 [some (.inr t0), some (.inl i1), some (.inl i2), none, some (.inl i4)] [.inl j0] M enI (q_M_isStray_110 r2 r63 t0 i1 i2 i4 j0 M) := by
  unfold q_M_isStray_110
  refine m_ist_n (ls' := [some (.inr t0), some (.inl i1), some (.inl i2), some (.inl j0), some (.inl i4)]) (d_M_isStray (k := 66) rfl) (by decide) rfl ?_
  refine m_inc (v := 1) (ls' := [some (.inr t0), some (.inl i1), some (.inl i2), some (.inl j0), some (.inl (i4 + 1))]) (d_M_isStray (k := 67) rfl) rfl (by decide) (by decide) rfl ?_
  refine m_goto (tgt := 63) (d_M_isStray (k := 68) rfl) rfl ?_
  exact m_drop (mles_s (mles_s (mles_s (mles_s (mles_s mles_0))))) (h63 t0 i1 i2 j0 (i4 + 1) M)
def q_M_isStray_109 (r2 : Option Nat → Int32 → Int32 → mM → Option (Int32 × mM)) (r63 : Option Nat → Int32 → Int32 → Int32 → Int32 → mM → Option (Int32 × mM)) (t0 : Option Nat) (i1 : Int32) (i2 : Int32) (i4 : Int32) (M : mM) : Option (Int32 × mM) :=
    q_M_isStray_110 r2 r63 t0 i1 i2 i4 (0 : Int32) M
set_option maxRecDepth 20000 in
theorem v_M_isStray_109 {E : mE} (r2 : Option Nat → Int32 → Int32 → mM → Option (Int32 × mM)) (h2 : ∀ (t0 : Option Nat) (i1 : Int32) (i2 : Int32) (M : mM), mVr E mi_M_isStray 0 2 [some (.inr t0), some (.inl i1), some (.inl i2), none, none] [] M enI (r2 t0 i1 i2 M)) (r63 : Option Nat → Int32 → Int32 → Int32 → Int32 → mM → Option (Int32 × mM)) (h63 : ∀ (t0 : Option Nat) (i1 : Int32) (i2 : Int32) (i3 : Int32) (i4 : Int32) (M : mM), mVr E mi_M_isStray 0 63 [some (.inr t0), some (.inl i1), some (.inl i2), some (.inl i3), some (.inl i4)] [] M enI (r63 t0 i1 i2 i3 i4 M)) (t0 : Option Nat) (i1 : Int32) (i2 : Int32) (i4 : Int32) (M : mM) : mVr E mi_M_isStray 0 109 [some (.inr t0), some (.inl i1), some (.inl i2), none, some (.inl i4)] [] M enI (q_M_isStray_109 r2 r63 t0 i1 i2 i4 M) := by
  unfold q_M_isStray_109
  refine m_iconst (v := 0) (d_M_isStray (k := 65) rfl) (by decide) ?_
  exact m_drop (mles_s (mles_s (mles_s (mles_n (mles_s mles_0))))) (v_M_isStray_110 r2 h2 r63 h63 t0 i1 i2 i4 (0 : Int32) M)
def q_M_isStray_63_b (r2 : Option Nat → Int32 → Int32 → mM → Option (Int32 × mM)) (r63 : Option Nat → Int32 → Int32 → Int32 → Int32 → mM → Option (Int32 × mM)) (t0 : Option Nat) (i1 : Int32) (i2 : Int32) (i3 : Int32) (i4 : Int32) (M : mM) : Option (Int32 × mM) :=
    x_gR M 10 t0 12 fun a1 =>
    x_aI M 0 a1 i1 fun x2 =>
    if i4 < x2 then
      if i3 = 0 then
        q_M_isStray_109 r2 r63 t0 i1 i2 i4 M
      else
        x_gR M 10 t0 30 fun a3 =>
        x_aI M 0 a3 (((90 : Int32) * i2) + i4) fun x4 =>
        x_gR M 10 t0 13 fun a5 =>
        x_aI M 0 a5 (((90 : Int32) * i1) + i4) fun x6 =>
        if x4 = x6 then
          q_M_isStray_110 r2 r63 t0 i1 i2 i4 (1 : Int32) M
        else
          q_M_isStray_109 r2 r63 t0 i1 i2 i4 M
    else
      if i3 = 0 then
        q_M_isStray_123 r2 t0 i1 i2 M
      else
        x_rz (0 : Int32) M
def q_M_isStray_63 (r2 : Option Nat → Int32 → Int32 → mM → Option (Int32 × mM)) : Nat → Option Nat → Int32 → Int32 → Int32 → Int32 → mM → Option (Int32 × mM)
  | 0, _, _, _, _, _, _ => none
  | n + 1, t0, i1, i2, i3, i4, M => q_M_isStray_63_b r2 (q_M_isStray_63 r2 n) t0 i1 i2 i3 i4 M
set_option maxRecDepth 20000 in
theorem v_M_isStray_63_b {E : mE} (r2 : Option Nat → Int32 → Int32 → mM → Option (Int32 × mM)) (h2 : ∀ (t0 : Option Nat) (i1 : Int32) (i2 : Int32) (M : mM), mVr E mi_M_isStray 0 2 [some (.inr t0), some (.inl i1), some (.inl i2), none, none] [] M enI (r2 t0 i1 i2 M)) (r63 : Option Nat → Int32 → Int32 → Int32 → Int32 → mM → Option (Int32 × mM)) (h63 : ∀ (t0 : Option Nat) (i1 : Int32) (i2 : Int32) (i3 : Int32) (i4 : Int32) (M : mM), mVr E mi_M_isStray 0 63 [some (.inr t0), some (.inl i1), some (.inl i2), some (.inl i3), some (.inl i4)] [] M enI (r63 t0 i1 i2 i3 i4 M)) (t0 : Option Nat) (i1 : Int32) (i2 : Int32) (i3 : Int32) (i4 : Int32) (M : mM) : mVr E mi_M_isStray 0 63 [some (.inr t0), some (.inl i1), some (.inl i2), some (.inl i3), some (.inl i4)] [] M enI (q_M_isStray_63_b r2 r63 t0 i1 i2 i3 i4 M) := by
  unfold q_M_isStray_63_b
  refine m_iload (d_M_isStray (k := 38) rfl) rfl ?_
  refine m_aload_n (d_M_isStray (k := 39) rfl) rfl ?_
  refine m_getR (d_M_isStray (k := 40) rfl) fl_M_35 rfl (fun a1 => ?_)
  refine m_iload_n (d_M_isStray (k := 41) rfl) rfl ?_
  refine m_iald (d_M_isStray (k := 42) rfl) (fun x2 => ?_)
  refine m_icmp_ge (tgt := 117) (d_M_isStray (k := 43) rfl) rfl ?_ ?_
  · refine m_iload_n (d_M_isStray (k := 44) rfl) rfl ?_
    refine m_if_eq (tgt := 109) (d_M_isStray (k := 45) rfl) rfl ?_ ?_
    · exact m_drop (mles_s (mles_s (mles_s (mles_n (mles_s mles_0))))) (v_M_isStray_109 r2 h2 r63 h63 t0 i1 i2 i4 M)
    · refine m_aload_n (d_M_isStray (k := 46) rfl) rfl ?_
      refine m_getR (d_M_isStray (k := 47) rfl) fl_M_86 rfl (fun a3 => ?_)
      refine m_bipush (v := 90) (d_M_isStray (k := 48) rfl) (by decide) ?_
      refine m_iload_n (d_M_isStray (k := 49) rfl) rfl ?_
      refine m_imul (d_M_isStray (k := 50) rfl) ?_
      refine m_iload (d_M_isStray (k := 51) rfl) rfl ?_
      refine m_iadd (d_M_isStray (k := 52) rfl) ?_
      refine m_iald (d_M_isStray (k := 53) rfl) (fun x4 => ?_)
      refine m_aload_n (d_M_isStray (k := 54) rfl) rfl ?_
      refine m_getR (d_M_isStray (k := 55) rfl) fl_M_38 rfl (fun a5 => ?_)
      refine m_bipush (v := 90) (d_M_isStray (k := 56) rfl) (by decide) ?_
      refine m_iload_n (d_M_isStray (k := 57) rfl) rfl ?_
      refine m_imul (d_M_isStray (k := 58) rfl) ?_
      refine m_iload (d_M_isStray (k := 59) rfl) rfl ?_
      refine m_iadd (d_M_isStray (k := 60) rfl) ?_
      refine m_iald (d_M_isStray (k := 61) rfl) (fun x6 => ?_)
      refine m_icmp_ne (tgt := 109) (d_M_isStray (k := 62) rfl) rfl ?_ ?_
      · refine m_iconst (v := 1) (d_M_isStray (k := 63) rfl) (by decide) ?_
        refine m_goto (tgt := 110) (d_M_isStray (k := 64) rfl) rfl ?_
        exact m_drop (mles_s (mles_s (mles_s (mles_n (mles_s mles_0))))) (v_M_isStray_110 r2 h2 r63 h63 t0 i1 i2 i4 (1 : Int32) M)
      · exact m_drop (mles_s (mles_s (mles_s (mles_n (mles_s mles_0))))) (v_M_isStray_109 r2 h2 r63 h63 t0 i1 i2 i4 M)
  · refine m_iload_n (d_M_isStray (k := 69) rfl) rfl ?_
    refine m_if_eq (tgt := 123) (d_M_isStray (k := 70) rfl) rfl ?_ ?_
    · exact m_drop (mles_s (mles_s (mles_s (mles_n (mles_n mles_0))))) (v_M_isStray_123 r2 h2 t0 i1 i2 M)
    · refine m_iconst (v := 0) (d_M_isStray (k := 71) rfl) (by decide) ?_
      exact m_zret (d_M_isStray (k := 72) rfl) rfl
theorem v_M_isStray_63 {E : mE} (r2 : Option Nat → Int32 → Int32 → mM → Option (Int32 × mM)) (h2 : ∀ (t0 : Option Nat) (i1 : Int32) (i2 : Int32) (M : mM), mVr E mi_M_isStray 0 2 [some (.inr t0), some (.inl i1), some (.inl i2), none, none] [] M enI (r2 t0 i1 i2 M)) : ∀ (n : Nat) (t0 : Option Nat) (i1 : Int32) (i2 : Int32) (i3 : Int32) (i4 : Int32) (M : mM), mVr E mi_M_isStray 0 63 [some (.inr t0), some (.inl i1), some (.inl i2), some (.inl i3), some (.inl i4)] [] M enI (q_M_isStray_63 r2 n t0 i1 i2 i3 i4 M)
  | 0, _, _, _, _, _, _ => m_none
  | n + 1, t0, i1, i2, i3, i4, M => v_M_isStray_63_b r2 h2 _ (v_M_isStray_63 r2 h2 n) t0 i1 i2 i3 i4 M
def q_M_isStray_2_b (r2 : Option Nat → Int32 → Int32 → mM → Option (Int32 × mM)) (t0 : Option Nat) (i1 : Int32) (i2 : Int32) (M : mM) : Option (Int32 × mM) :=
    if i2 < (6 : Int32) then
      x_gR M 10 t0 17 fun a1 =>
      x_aI M 1 a1 (((6 : Int32) * i1) + i2) fun x2 =>
      if x2 = 0 then
        q_M_isStray_123 r2 t0 i1 i2 M
      else
        x_gR M 10 t0 24 fun a3 =>
        x_aI M 1 a3 i2 fun x4 =>
        if x4 = 0 then
          q_M_isStray_123 r2 t0 i1 i2 M
        else
          x_gR M 10 t0 31 fun a5 =>
          x_aI M 1 a5 i2 fun x6 =>
          if x6 = 0 then
            q_M_isStray_123 r2 t0 i1 i2 M
          else
            x_gR M 10 t0 29 fun a7 =>
            x_aI M 0 a7 i2 fun x8 =>
            x_gR M 10 t0 12 fun a9 =>
            x_aI M 0 a9 i1 fun x10 =>
            if x8 = x10 then
              q_M_isStray_63 r2 mFU t0 i1 i2 (1 : Int32) (0 : Int32) M
            else
              q_M_isStray_123 r2 t0 i1 i2 M
    else
      x_rz (1 : Int32) M
def q_M_isStray_2 : Nat → Option Nat → Int32 → Int32 → mM → Option (Int32 × mM)
  | 0, _, _, _, _ => none
  | n + 1, t0, i1, i2, M => q_M_isStray_2_b (q_M_isStray_2 n) t0 i1 i2 M
set_option maxRecDepth 20000 in
theorem v_M_isStray_2_b {E : mE} (r2 : Option Nat → Int32 → Int32 → mM → Option (Int32 × mM)) (h2 : ∀ (t0 : Option Nat) (i1 : Int32) (i2 : Int32) (M : mM), mVr E mi_M_isStray 0 2 [some (.inr t0), some (.inl i1), some (.inl i2), none, none] [] M enI (r2 t0 i1 i2 M)) (t0 : Option Nat) (i1 : Int32) (i2 : Int32) (M : mM) : mVr E mi_M_isStray 0 2 [some (.inr t0), some (.inl i1), some (.inl i2), none, none] [] M enI (q_M_isStray_2_b r2 t0 i1 i2 M) := by
  unfold q_M_isStray_2_b
  refine m_iload_n (d_M_isStray (k := 2) rfl) rfl ?_
  refine m_bipush (v := 6) (d_M_isStray (k := 3) rfl) (by decide) ?_
  refine m_icmp_ge (tgt := 129) (d_M_isStray (k := 4) rfl) rfl ?_ ?_
  · refine m_aload_n (d_M_isStray (k := 5) rfl) rfl ?_
    refine m_getR (d_M_isStray (k := 6) rfl) fl_M_47 rfl (fun a1 => ?_)
    refine m_bipush (v := 6) (d_M_isStray (k := 7) rfl) (by decide) ?_
    refine m_iload_n (d_M_isStray (k := 8) rfl) rfl ?_
    refine m_imul (d_M_isStray (k := 9) rfl) ?_
    refine m_iload_n (d_M_isStray (k := 10) rfl) rfl ?_
    refine m_iadd (d_M_isStray (k := 11) rfl) ?_
    refine m_zald (d_M_isStray (k := 12) rfl) (fun x2 => ?_)
    refine m_if_eq (tgt := 123) (d_M_isStray (k := 13) rfl) rfl ?_ ?_
    · exact m_drop (mles_s (mles_s (mles_s (mles_n (mles_n mles_0))))) (v_M_isStray_123 r2 h2 t0 i1 i2 M)
    · refine m_aload_n (d_M_isStray (k := 14) rfl) rfl ?_
      refine m_getR (d_M_isStray (k := 15) rfl) fl_M_68 rfl (fun a3 => ?_)
      refine m_iload_n (d_M_isStray (k := 16) rfl) rfl ?_
      refine m_zald (d_M_isStray (k := 17) rfl) (fun x4 => ?_)
      refine m_if_eq (tgt := 123) (d_M_isStray (k := 18) rfl) rfl ?_ ?_
      · exact m_drop (mles_s (mles_s (mles_s (mles_n (mles_n mles_0))))) (v_M_isStray_123 r2 h2 t0 i1 i2 M)
      · refine m_aload_n (d_M_isStray (k := 19) rfl) rfl ?_
        refine m_getR (d_M_isStray (k := 20) rfl) fl_M_89 rfl (fun a5 => ?_)
        refine m_iload_n (d_M_isStray (k := 21) rfl) rfl ?_
        refine m_zald (d_M_isStray (k := 22) rfl) (fun x6 => ?_)
        refine m_if_eq (tgt := 123) (d_M_isStray (k := 23) rfl) rfl ?_ ?_
        · exact m_drop (mles_s (mles_s (mles_s (mles_n (mles_n mles_0))))) (v_M_isStray_123 r2 h2 t0 i1 i2 M)
        · refine m_aload_n (d_M_isStray (k := 24) rfl) rfl ?_
          refine m_getR (d_M_isStray (k := 25) rfl) fl_M_83 rfl (fun a7 => ?_)
          refine m_iload_n (d_M_isStray (k := 26) rfl) rfl ?_
          refine m_iald (d_M_isStray (k := 27) rfl) (fun x8 => ?_)
          refine m_aload_n (d_M_isStray (k := 28) rfl) rfl ?_
          refine m_getR (d_M_isStray (k := 29) rfl) fl_M_35 rfl (fun a9 => ?_)
          refine m_iload_n (d_M_isStray (k := 30) rfl) rfl ?_
          refine m_iald (d_M_isStray (k := 31) rfl) (fun x10 => ?_)
          refine m_icmp_eq (tgt := 58) (d_M_isStray (k := 32) rfl) rfl ?_ ?_
          · refine m_iconst (v := 1) (d_M_isStray (k := 34) rfl) (by decide) ?_
            refine m_ist_n (ls' := [some (.inr t0), some (.inl i1), some (.inl i2), some (.inl (1 : Int32)), none]) (d_M_isStray (k := 35) rfl) (by decide) rfl ?_
            refine m_iconst (v := 0) (d_M_isStray (k := 36) rfl) (by decide) ?_
            refine m_ist (ls' := [some (.inr t0), some (.inl i1), some (.inl i2), some (.inl (1 : Int32)), some (.inl (0 : Int32))]) (d_M_isStray (k := 37) rfl) (by decide) rfl ?_
            exact m_drop (mles_s (mles_s (mles_s (mles_s (mles_s mles_0))))) (v_M_isStray_63 r2 h2 mFU t0 i1 i2 (1 : Int32) (0 : Int32) M)
          · refine m_goto (tgt := 123) (d_M_isStray (k := 33) rfl) rfl ?_
            exact m_drop (mles_s (mles_s (mles_s (mles_n (mles_n mles_0))))) (v_M_isStray_123 r2 h2 t0 i1 i2 M)
  · refine m_iconst (v := 1) (d_M_isStray (k := 75) rfl) (by decide) ?_
    exact m_zret (d_M_isStray (k := 76) rfl) rfl
theorem v_M_isStray_2 {E : mE} : ∀ (n : Nat) (t0 : Option Nat) (i1 : Int32) (i2 : Int32) (M : mM), mVr E mi_M_isStray 0 2 [some (.inr t0), some (.inl i1), some (.inl i2), none, none] [] M enI (q_M_isStray_2 n t0 i1 i2 M)
  | 0, _, _, _, _ => m_none
  | n + 1, t0, i1, i2, M => v_M_isStray_2_b _ (v_M_isStray_2 n) t0 i1 i2 M
def q_M_isStray (t0 : Option Nat) (i1 : Int32) (M : mM) : Option (Int32 × mM) :=
    q_M_isStray_2 mFU t0 i1 (0 : Int32) M
set_option maxRecDepth 20000 in
theorem v_M_isStray {E : mE} (t0 : Option Nat) (i1 : Int32) (M : mM) : mVr E mi_M_isStray 0 0 [some (.inr t0), some (.inl i1), none, none, none] [] M enI (q_M_isStray t0 i1 M) := by
  unfold q_M_isStray
  refine m_iconst (v := 0) (d_M_isStray (k := 0) rfl) (by decide) ?_
  refine m_ist_n (ls' := [some (.inr t0), some (.inl i1), some (.inl (0 : Int32)), none, none]) (d_M_isStray (k := 1) rfl) (by decide) rfl ?_
  exact m_drop (mles_s (mles_s (mles_s (mles_n (mles_n mles_0))))) (v_M_isStray_2 mFU t0 i1 (0 : Int32) M)
theorem s_M_isStray {E : mE} (t0 : Option Nat) (i1 : Int32) (M : mM) : mSnd E mi_M_isStray 0 [.inr t0, .inl i1] M enI (q_M_isStray t0 i1 M) := m_entryZ (by decide) (Nat.le_of_ble_eq_true rfl) rfl (m_drop (mles_s (mles_s (mles_e (mles_e (mles_e mles_0))))) (v_M_isStray t0 i1 M))
def dt_M_listens_0 : List (Nat × Instr × Nat) := [(0, .aload_n 0, 1), (1, .getfield 62, 3), (4, .iload_n 1, 1), (5, .iconst 0, 1), (6, .bastore, 1), (7, .iconst 0, 1), (8, .istore_n 2, 1), (9, .iconst 0, 1), (10, .istore_n 3, 1), (11, .iload_n 3, 1), (12, .bipush 6, 2), (14, .if_icmp .ge 60, 3), (17, .aload_n 0, 1), (18, .getfield 68, 3), (21, .iload_n 1, 1), (22, .baload, 1), (23, .ifCond .ne 51, 3), (26, .aload_n 0, 1), (27, .getfield 47, 3), (30, .bipush 6, 2), (32, .iload_n 1, 1), (33, .imul, 1), (34, .iload_n 3, 1), (35, .iadd, 1), (36, .baload, 1), (37, .ifCond .eq 31, 3), (40, .aload_n 0, 1), (41, .getfield 68, 3), (44, .iload_n 3, 1), (45, .baload, 1), (46, .ifCond .ne 6, 3), (49, .goto 19, 3), (52, .aload_n 0, 1), (53, .getfield 62, 3), (56, .iload_n 1, 1), (57, .iconst 1, 1), (58, .bastore, 1), (59, .iload_n 2, 1), (60, .aload_n 0, 1), (61, .getfield 65, 3)]
theorem dx_M_listens_0 : ∀ p ∈ dt_M_listens_0, decode prog_12_method_35_code p.1 = .ok p.2 := by decide +kernel
theorem d_M_listens_0 {k pc : Nat} {i : Instr} {n : Nat} (h : dt_M_listens_0[k]? = some (pc, i, n)) : decode mi_M_listens.2.1 pc = .ok (i, n) := dx_M_listens_0 (pc, i, n) (List.mem_of_getElem? h)
def dt_M_listens_1 : List (Nat × Instr × Nat) := [(64, .iload_n 3, 1), (65, .iaload, 1), (66, .ixor, 1), (67, .istore_n 2, 1), (68, .iinc 3 1, 3), (71, .goto (-60), 3), (74, .aload_n 0, 1), (75, .getfield 62, 3), (78, .iload_n 1, 1), (79, .baload, 1), (80, .ifCond .ne 10, 3), (83, .aload_n 0, 1), (84, .iload_n 1, 1), (85, .invokevirtual 285, 3), (88, .iconst 0, 1), (89, .ireturn, 1), (90, .aload_n 0, 1), (91, .getfield 44, 3), (94, .bipush 9, 2), (96, .iload_n 1, 1), (97, .imul, 1), (98, .bipush 8, 2), (100, .iadd, 1), (101, .iaload, 1), (102, .aload_n 0, 1), (103, .getfield 288, 3), (106, .invokestatic 291, 3), (109, .bipush 20, 2), (111, .iushr, 1), (112, .aload_n 0, 1), (113, .getfield 44, 3), (116, .bipush 9, 2), (118, .iload_n 1, 1), (119, .imul, 1), (120, .bipush 7, 2), (122, .iadd, 1), (123, .iaload, 1), (124, .if_icmp .ge 7, 3), (127, .iconst 1, 1), (128, .iload_n 2, 1)]
theorem dx_M_listens_1 : ∀ p ∈ dt_M_listens_1, decode prog_12_method_35_code p.1 = .ok p.2 := by decide +kernel
theorem d_M_listens_1 {k pc : Nat} {i : Instr} {n : Nat} (h : dt_M_listens_1[k]? = some (pc, i, n)) : decode mi_M_listens.2.1 pc = .ok (i, n) := dx_M_listens_1 (pc, i, n) (List.mem_of_getElem? h)
def dt_M_listens_2 : List (Nat × Instr × Nat) := [(129, .isub, 1), (130, .istore_n 2, 1), (131, .aload_n 0, 1), (132, .iload_n 1, 1), (133, .iload_n 2, 1), (134, .invokevirtual 254, 3), (137, .ifCond .ne 5, 3), (140, .iconst 0, 1), (141, .ireturn, 1), (142, .aload_n 0, 1), (143, .iload_n 1, 1), (144, .iconst 1, 1), (145, .invokevirtual 267, 3), (148, .aload_n 0, 1), (149, .iload_n 1, 1), (150, .invokevirtual 295, 3), (153, .ifCond .eq 9, 3), (156, .aload_n 0, 1), (157, .iload_n 1, 1), (158, .iconst 2, 1), (159, .invokevirtual 267, 3), (162, .iconst 1, 1), (163, .ireturn, 1)]
theorem dx_M_listens_2 : ∀ p ∈ dt_M_listens_2, decode prog_12_method_35_code p.1 = .ok p.2 := by decide +kernel
theorem d_M_listens_2 {k pc : Nat} {i : Instr} {n : Nat} (h : dt_M_listens_2[k]? = some (pc, i, n)) : decode mi_M_listens.2.1 pc = .ok (i, n) := dx_M_listens_2 (pc, i, n) (List.mem_of_getElem? h)
def q_M_listens_68 (r11 : Option Nat → Int32 → Int32 → Int32 → mM → Option (Int32 × mM)) (t0 : Option Nat) (i1 : Int32) (i2 : Int32) (i3 : Int32) (M : mM) : Option (Int32 × mM) :=
    r11 t0 i1 i2 (i3 + 1) M
set_option maxRecDepth 20000 in
theorem v_M_listens_68 {E : mE} (r11 : Option Nat → Int32 → Int32 → Int32 → mM → Option (Int32 × mM)) (h11 : ∀ (t0 : Option Nat) (i1 : Int32) (i2 : Int32) (i3 : Int32) (M : mM), mVr E mi_M_listens 3 11 [some (.inr t0), some (.inl i1), some (.inl i2), some (.inl i3)] [] M enI (r11 t0 i1 i2 i3 M)) (t0 : Option Nat) (i1 : Int32) (i2 : Int32) (i3 : Int32) (M : mM) : mVr E mi_M_listens 3 68 [some (.inr t0), some (.inl i1), some (.inl i2), some (.inl i3)] [] M enI (q_M_listens_68 r11 t0 i1 i2 i3 M) := by
  unfold q_M_listens_68
  refine m_inc (v := 1) (ls' := [some (.inr t0), some (.inl i1), some (.inl i2), some (.inl (i3 + 1))]) (d_M_listens_1 (k := 4) rfl) rfl (by decide) (by decide) rfl ?_
  refine m_goto (tgt := 11) (d_M_listens_1 (k := 5) rfl) rfl ?_
  exact m_drop (mles_s (mles_s (mles_s (mles_s mles_0)))) (h11 t0 i1 i2 (i3 + 1) M)
def q_M_listens_131 (t0 : Option Nat) (i1 : Int32) (i2 : Int32) (M : mM) : Option (Int32 × mM) :=
    x_cv M 10 t0 (q_M_hear t0 i1 i2 M) fun x1 M =>
    if x1 = 0 then
      x_rz (0 : Int32) M
    else
      x_cv M 10 t0 (q_M_count t0 i1 (1 : Int32) M) fun _ M =>
      x_cv M 10 t0 (q_M_isStray t0 i1 M) fun x2 M =>
      if x2 = 0 then
        x_rz (1 : Int32) M
      else
        x_cv M 10 t0 (q_M_count t0 i1 (2 : Int32) M) fun _ M =>
        x_rz (1 : Int32) M
set_option maxRecDepth 20000 in
theorem v_M_listens_131 {E : mE} (t0 : Option Nat) (i1 : Int32) (i2 : Int32) (M : mM) : mVr E mi_M_listens 3 131 [some (.inr t0), some (.inl i1), some (.inl i2), none] [] M enI (q_M_listens_131 t0 i1 i2 M) := by
  unfold q_M_listens_131
  refine m_aload_n (d_M_listens_2 (k := 2) rfl) rfl ?_
  refine m_iload_n (d_M_listens_2 (k := 3) rfl) rfl ?_
  refine m_iload_n (d_M_listens_2 (k := 4) rfl) rfl ?_
  refine m_cvI (c := 10) (vs := [.inl i1, .inl i2]) (st := []) (d_M_listens_2 (k := 5) rfl) (s_M_hear t0 i1 i2 M) cd_M_hear ml_M_254 im_M_hear se_M_hear rfl (by decide) rfl (Nat.le_of_ble_eq_true rfl) (fun x1 M => ?_)
  refine m_if_ne (tgt := 142) (d_M_listens_2 (k := 6) rfl) rfl ?_ ?_
  · refine m_iconst (v := 0) (d_M_listens_2 (k := 7) rfl) (by decide) ?_
    exact m_zret (d_M_listens_2 (k := 8) rfl) rfl
  · refine m_aload_n (d_M_listens_2 (k := 9) rfl) rfl ?_
    refine m_iload_n (d_M_listens_2 (k := 10) rfl) rfl ?_
    refine m_iconst (v := 1) (d_M_listens_2 (k := 11) rfl) (by decide) ?_
    refine m_cvU (c := 10) (vs := [.inl i1, .inl (1 : Int32)]) (st := []) (d_M_listens_2 (k := 12) rfl) (s_M_count t0 i1 (1 : Int32) M) cd_M_count ml_M_267 im_M_count se_M_count rfl (by decide) rfl (Nat.le_of_ble_eq_true rfl) (fun _ M => ?_)
    refine m_aload_n (d_M_listens_2 (k := 13) rfl) rfl ?_
    refine m_iload_n (d_M_listens_2 (k := 14) rfl) rfl ?_
    refine m_cvI (c := 10) (vs := [.inl i1]) (st := []) (d_M_listens_2 (k := 15) rfl) (s_M_isStray t0 i1 M) cd_M_isStray ml_M_295 im_M_isStray se_M_isStray rfl (by decide) rfl (Nat.le_of_ble_eq_true rfl) (fun x2 M => ?_)
    refine m_if_eq (tgt := 162) (d_M_listens_2 (k := 16) rfl) rfl ?_ ?_
    · refine m_iconst (v := 1) (d_M_listens_2 (k := 21) rfl) (by decide) ?_
      exact m_zret (d_M_listens_2 (k := 22) rfl) rfl
    · refine m_aload_n (d_M_listens_2 (k := 17) rfl) rfl ?_
      refine m_iload_n (d_M_listens_2 (k := 18) rfl) rfl ?_
      refine m_iconst (v := 2) (d_M_listens_2 (k := 19) rfl) (by decide) ?_
      refine m_cvU (c := 10) (vs := [.inl i1, .inl (2 : Int32)]) (st := []) (d_M_listens_2 (k := 20) rfl) (s_M_count t0 i1 (2 : Int32) M) cd_M_count ml_M_267 im_M_count se_M_count rfl (by decide) rfl (Nat.le_of_ble_eq_true rfl) (fun _ M => ?_)
      refine m_iconst (v := 1) (d_M_listens_2 (k := 21) rfl) (by decide) ?_
      exact m_zret (d_M_listens_2 (k := 22) rfl) rfl
def q_M_listens_74 (t0 : Option Nat) (i1 : Int32) (i2 : Int32) (M : mM) : Option (Int32 × mM) :=
    x_gR M 10 t0 22 fun a1 =>
    x_aI M 1 a1 i1 fun x2 =>
    if x2 = 0 then
      x_cv M 10 t0 (q_M_hearNothing t0 i1 M) fun _ M =>
      x_rz (0 : Int32) M
    else
      x_gR M 10 t0 16 fun a3 =>
      x_aI M 0 a3 (((9 : Int32) * i1) + (8 : Int32)) fun x4 =>
      x_gI M 10 t0 15 fun x5 =>
      x_cl (q_M_hash x4 x5 M) fun x6 M =>
      x_gR M 10 t0 16 fun a7 =>
      x_aI M 0 a7 (((9 : Int32) * i1) + (7 : Int32)) fun x8 =>
      if (mush x6 (20 : Int32)) < x8 then
        x_lt ((1 : Int32) - i2) fun x9 =>
        q_M_listens_131 t0 i1 x9 M
      else
        q_M_listens_131 t0 i1 i2 M
set_option maxRecDepth 20000 in
theorem v_M_listens_74 {E : mE} (t0 : Option Nat) (i1 : Int32) (i2 : Int32) (M : mM) : mVr E mi_M_listens 3 74 [some (.inr t0), some (.inl i1), some (.inl i2), none] [] M enI (q_M_listens_74 t0 i1 i2 M) := by
  unfold q_M_listens_74
  refine m_aload_n (d_M_listens_1 (k := 6) rfl) rfl ?_
  refine m_getR (d_M_listens_1 (k := 7) rfl) fl_M_62 rfl (fun a1 => ?_)
  refine m_iload_n (d_M_listens_1 (k := 8) rfl) rfl ?_
  refine m_zald (d_M_listens_1 (k := 9) rfl) (fun x2 => ?_)
  refine m_if_ne (tgt := 90) (d_M_listens_1 (k := 10) rfl) rfl ?_ ?_
  · refine m_aload_n (d_M_listens_1 (k := 11) rfl) rfl ?_
    refine m_iload_n (d_M_listens_1 (k := 12) rfl) rfl ?_
    refine m_cvU (c := 10) (vs := [.inl i1]) (st := []) (d_M_listens_1 (k := 13) rfl) (s_M_hearNothing t0 i1 M) cd_M_hearNothing ml_M_285 im_M_hearNothing se_M_hearNothing rfl (by decide) rfl (Nat.le_of_ble_eq_true rfl) (fun _ M => ?_)
    refine m_iconst (v := 0) (d_M_listens_1 (k := 14) rfl) (by decide) ?_
    exact m_zret (d_M_listens_1 (k := 15) rfl) rfl
  · refine m_aload_n (d_M_listens_1 (k := 16) rfl) rfl ?_
    refine m_getR (d_M_listens_1 (k := 17) rfl) fl_M_44 rfl (fun a3 => ?_)
    refine m_bipush (v := 9) (d_M_listens_1 (k := 18) rfl) (by decide) ?_
    refine m_iload_n (d_M_listens_1 (k := 19) rfl) rfl ?_
    refine m_imul (d_M_listens_1 (k := 20) rfl) ?_
    refine m_bipush (v := 8) (d_M_listens_1 (k := 21) rfl) (by decide) ?_
    refine m_iadd (d_M_listens_1 (k := 22) rfl) ?_
    refine m_iald (d_M_listens_1 (k := 23) rfl) (fun x4 => ?_)
    refine m_aload_n (d_M_listens_1 (k := 24) rfl) rfl ?_
    refine m_getI (d_M_listens_1 (k := 25) rfl) fl_M_288 rfl (fun x5 => ?_)
    refine m_csI (vs := [.inl x4, .inl x5]) (st := []) (d_M_listens_1 (k := 26) rfl) (s_M_hash x4 x5 M) cd_M_hash ml_M_291 sa_M_hash (by decide) rfl (Nat.le_of_ble_eq_true rfl) (fun x6 M => ?_)
    refine m_bipush (v := 20) (d_M_listens_1 (k := 27) rfl) (by decide) ?_
    refine m_iushr (d_M_listens_1 (k := 28) rfl) ?_
    refine m_aload_n (d_M_listens_1 (k := 29) rfl) rfl ?_
    refine m_getR (d_M_listens_1 (k := 30) rfl) fl_M_44 rfl (fun a7 => ?_)
    refine m_bipush (v := 9) (d_M_listens_1 (k := 31) rfl) (by decide) ?_
    refine m_iload_n (d_M_listens_1 (k := 32) rfl) rfl ?_
    refine m_imul (d_M_listens_1 (k := 33) rfl) ?_
    refine m_bipush (v := 7) (d_M_listens_1 (k := 34) rfl) (by decide) ?_
    refine m_iadd (d_M_listens_1 (k := 35) rfl) ?_
    refine m_iald (d_M_listens_1 (k := 36) rfl) (fun x8 => ?_)
    refine m_icmp_ge (tgt := 131) (d_M_listens_1 (k := 37) rfl) rfl ?_ ?_
    · refine m_iconst (v := 1) (d_M_listens_1 (k := 38) rfl) (by decide) ?_
      refine m_iload_n (d_M_listens_1 (k := 39) rfl) rfl ?_
      refine m_isub (d_M_listens_2 (k := 0) rfl) ?_
      refine m_lt (fun x9 => ?_)
      refine m_ist_n (ls' := [some (.inr t0), some (.inl i1), some (.inl x9), none]) (d_M_listens_2 (k := 1) rfl) (by decide) rfl ?_
      exact m_drop (mles_s (mles_s (mles_s (mles_n mles_0)))) (v_M_listens_131 t0 i1 x9 M)
    · exact m_drop (mles_s (mles_s (mles_s (mles_n mles_0)))) (v_M_listens_131 t0 i1 i2 M)
def q_M_listens_11_b (r11 : Option Nat → Int32 → Int32 → Int32 → mM → Option (Int32 × mM)) (t0 : Option Nat) (i1 : Int32) (i2 : Int32) (i3 : Int32) (M : mM) : Option (Int32 × mM) :=
    if i3 < (6 : Int32) then
      x_gR M 10 t0 24 fun a1 =>
      x_aI M 1 a1 i1 fun x2 =>
      if x2 = 0 then
        x_gR M 10 t0 17 fun a3 =>
        x_aI M 1 a3 (((6 : Int32) * i1) + i3) fun x4 =>
        if x4 = 0 then
          q_M_listens_68 r11 t0 i1 i2 i3 M
        else
          x_gR M 10 t0 24 fun a5 =>
          x_aI M 1 a5 i3 fun x6 =>
          if x6 = 0 then
            q_M_listens_68 r11 t0 i1 i2 i3 M
          else
            x_gR M 10 t0 22 fun a7 =>
            x_wZ M a7 i1 (1 : Int32) fun M =>
            x_gR M 10 t0 23 fun a8 =>
            x_aI M 0 a8 i3 fun x9 =>
            x_lt (i2 ^^^ x9) fun x10 =>
            q_M_listens_68 r11 t0 i1 x10 i3 M
      else
        q_M_listens_74 t0 i1 i2 M
    else
      q_M_listens_74 t0 i1 i2 M
def q_M_listens_11 : Nat → Option Nat → Int32 → Int32 → Int32 → mM → Option (Int32 × mM)
  | 0, _, _, _, _, _ => none
  | n + 1, t0, i1, i2, i3, M => q_M_listens_11_b (q_M_listens_11 n) t0 i1 i2 i3 M
set_option maxRecDepth 20000 in
theorem v_M_listens_11_b {E : mE} (r11 : Option Nat → Int32 → Int32 → Int32 → mM → Option (Int32 × mM)) (h11 : ∀ (t0 : Option Nat) (i1 : Int32) (i2 : Int32) (i3 : Int32) (M : mM), mVr E mi_M_listens 3 11 [some (.inr t0), some (.inl i1), some (.inl i2), some (.inl i3)] [] M enI (r11 t0 i1 i2 i3 M)) (t0 : Option Nat) (i1 : Int32) (i2 : Int32) (i3 : Int32) (M : mM) : mVr E mi_M_listens 3 11 [some (.inr t0), some (.inl i1), some (.inl i2), some (.inl i3)] [] M enI (q_M_listens_11_b r11 t0 i1 i2 i3 M) := by
  unfold q_M_listens_11_b
  refine m_iload_n (d_M_listens_0 (k := 9) rfl) rfl ?_
  refine m_bipush (v := 6) (d_M_listens_0 (k := 10) rfl) (by decide) ?_
  refine m_icmp_ge (tgt := 74) (d_M_listens_0 (k := 11) rfl) rfl ?_ ?_
  · refine m_aload_n (d_M_listens_0 (k := 12) rfl) rfl ?_
    refine m_getR (d_M_listens_0 (k := 13) rfl) fl_M_68 rfl (fun a1 => ?_)
    refine m_iload_n (d_M_listens_0 (k := 14) rfl) rfl ?_
    refine m_zald (d_M_listens_0 (k := 15) rfl) (fun x2 => ?_)
    refine m_if_ne (tgt := 74) (d_M_listens_0 (k := 16) rfl) rfl ?_ ?_
    · refine m_aload_n (d_M_listens_0 (k := 17) rfl) rfl ?_
      refine m_getR (d_M_listens_0 (k := 18) rfl) fl_M_47 rfl (fun a3 => ?_)
      refine m_bipush (v := 6) (d_M_listens_0 (k := 19) rfl) (by decide) ?_
      refine m_iload_n (d_M_listens_0 (k := 20) rfl) rfl ?_
      refine m_imul (d_M_listens_0 (k := 21) rfl) ?_
      refine m_iload_n (d_M_listens_0 (k := 22) rfl) rfl ?_
      refine m_iadd (d_M_listens_0 (k := 23) rfl) ?_
      refine m_zald (d_M_listens_0 (k := 24) rfl) (fun x4 => ?_)
      refine m_if_eq (tgt := 68) (d_M_listens_0 (k := 25) rfl) rfl ?_ ?_
      · exact m_drop (mles_s (mles_s (mles_s (mles_s mles_0)))) (v_M_listens_68 r11 h11 t0 i1 i2 i3 M)
      · refine m_aload_n (d_M_listens_0 (k := 26) rfl) rfl ?_
        refine m_getR (d_M_listens_0 (k := 27) rfl) fl_M_68 rfl (fun a5 => ?_)
        refine m_iload_n (d_M_listens_0 (k := 28) rfl) rfl ?_
        refine m_zald (d_M_listens_0 (k := 29) rfl) (fun x6 => ?_)
        refine m_if_ne (tgt := 52) (d_M_listens_0 (k := 30) rfl) rfl ?_ ?_
        · refine m_goto (tgt := 68) (d_M_listens_0 (k := 31) rfl) rfl ?_
          exact m_drop (mles_s (mles_s (mles_s (mles_s mles_0)))) (v_M_listens_68 r11 h11 t0 i1 i2 i3 M)
        · refine m_aload_n (d_M_listens_0 (k := 32) rfl) rfl ?_
          refine m_getR (d_M_listens_0 (k := 33) rfl) fl_M_62 rfl (fun a7 => ?_)
          refine m_iload_n (d_M_listens_0 (k := 34) rfl) rfl ?_
          refine m_iconst (v := 1) (d_M_listens_0 (k := 35) rfl) (by decide) ?_
          refine m_zast (d_M_listens_0 (k := 36) rfl) (fun M => ?_)
          refine m_iload_n (d_M_listens_0 (k := 37) rfl) rfl ?_
          refine m_aload_n (d_M_listens_0 (k := 38) rfl) rfl ?_
          refine m_getR (d_M_listens_0 (k := 39) rfl) fl_M_65 rfl (fun a8 => ?_)
          refine m_iload_n (d_M_listens_1 (k := 0) rfl) rfl ?_
          refine m_iald (d_M_listens_1 (k := 1) rfl) (fun x9 => ?_)
          refine m_ixor (d_M_listens_1 (k := 2) rfl) ?_
          refine m_lt (fun x10 => ?_)
          refine m_ist_n (ls' := [some (.inr t0), some (.inl i1), some (.inl x10), some (.inl i3)]) (d_M_listens_1 (k := 3) rfl) (by decide) rfl ?_
          exact m_drop (mles_s (mles_s (mles_s (mles_s mles_0)))) (v_M_listens_68 r11 h11 t0 i1 x10 i3 M)
    · exact m_drop (mles_s (mles_s (mles_s (mles_n mles_0)))) (v_M_listens_74 t0 i1 i2 M)
  · exact m_drop (mles_s (mles_s (mles_s (mles_n mles_0)))) (v_M_listens_74 t0 i1 i2 M)
theorem v_M_listens_11 {E : mE} : ∀ (n : Nat) (t0 : Option Nat) (i1 : Int32) (i2 : Int32) (i3 : Int32) (M : mM), mVr E mi_M_listens 3 11 [some (.inr t0), some (.inl i1), some (.inl i2), some (.inl i3)] [] M enI (q_M_listens_11 n t0 i1 i2 i3 M)
  | 0, _, _, _, _, _ => m_none
  | n + 1, t0, i1, i2, i3, M => v_M_listens_11_b _ (v_M_listens_11 n) t0 i1 i2 i3 M
def q_M_listens (t0 : Option Nat) (i1 : Int32) (M : mM) : Option (Int32 × mM) :=
    x_gR M 10 t0 22 fun a1 =>
    x_wZ M a1 i1 (0 : Int32) fun M =>
    q_M_listens_11 mFU t0 i1 (0 : Int32) (0 : Int32) M
set_option maxRecDepth 20000 in
theorem v_M_listens {E : mE} (t0 : Option Nat) (i1 : Int32) (M : mM) : mVr E mi_M_listens 3 0 [some (.inr t0), some (.inl i1), none, none] [] M enI (q_M_listens t0 i1 M) := by
  unfold q_M_listens
  refine m_aload_n (d_M_listens_0 (k := 0) rfl) rfl ?_
  refine m_getR (d_M_listens_0 (k := 1) rfl) fl_M_62 rfl (fun a1 => ?_)
  refine m_iload_n (d_M_listens_0 (k := 2) rfl) rfl ?_
  refine m_iconst (v := 0) (d_M_listens_0 (k := 3) rfl) (by decide) ?_
  refine m_zast (d_M_listens_0 (k := 4) rfl) (fun M => ?_)
  refine m_iconst (v := 0) (d_M_listens_0 (k := 5) rfl) (by decide) ?_
  refine m_ist_n (ls' := [some (.inr t0), some (.inl i1), some (.inl (0 : Int32)), none]) (d_M_listens_0 (k := 6) rfl) (by decide) rfl ?_
  refine m_iconst (v := 0) (d_M_listens_0 (k := 7) rfl) (by decide) ?_
  refine m_ist_n (ls' := [some (.inr t0), some (.inl i1), some (.inl (0 : Int32)), some (.inl (0 : Int32))]) (d_M_listens_0 (k := 8) rfl) (by decide) rfl ?_
  exact m_drop (mles_s (mles_s (mles_s (mles_s mles_0)))) (v_M_listens_11 mFU t0 i1 (0 : Int32) (0 : Int32) M)
theorem s_M_listens {E : mE} (t0 : Option Nat) (i1 : Int32) (M : mM) : mSnd E mi_M_listens 3 [.inr t0, .inl i1] M enI (q_M_listens t0 i1 M) := m_entryZ (by decide) (Nat.le_of_ble_eq_true rfl) rfl (m_drop (mles_s (mles_s (mles_e (mles_e mles_0)))) (v_M_listens t0 i1 M))
def dt_M_dropOut : List (Nat × Instr × Nat) := [(0, .aload_n 0, 1), (1, .getfield 155, 3), (4, .iload_n 1, 1), (5, .dup2, 1), (6, .iaload, 1), (7, .iload_n 2, 1), (8, .isub, 1), (9, .iastore, 1), (10, .iconst 0, 1), (11, .istore_n 3, 1), (12, .iload_n 3, 1), (13, .aload_n 0, 1), (14, .getfield 155, 3), (17, .iload_n 1, 1), (18, .iaload, 1), (19, .if_icmp .ge 35, 3), (22, .aload_n 0, 1), (23, .getfield 152, 3), (26, .sipush 200, 3), (29, .iload_n 1, 1), (30, .imul, 1), (31, .iload_n 3, 1), (32, .iadd, 1), (33, .aload_n 0, 1), (34, .getfield 152, 3), (37, .sipush 200, 3), (40, .iload_n 1, 1), (41, .imul, 1), (42, .iload_n 3, 1), (43, .iadd, 1), (44, .iload_n 2, 1), (45, .iadd, 1), (46, .iaload, 1), (47, .iastore, 1), (48, .iinc 3 1, 3), (51, .goto (-39), 3), (54, .return_, 1)]
theorem dx_M_dropOut : ∀ p ∈ dt_M_dropOut, decode prog_12_method_69_code p.1 = .ok p.2 := by decide +kernel
theorem d_M_dropOut {k pc : Nat} {i : Instr} {n : Nat} (h : dt_M_dropOut[k]? = some (pc, i, n)) : decode mi_M_dropOut.2.1 pc = .ok (i, n) := dx_M_dropOut (pc, i, n) (List.mem_of_getElem? h)
def q_M_dropOut_12_b (r12 : Option Nat → Int32 → Int32 → Int32 → mM → Option (Unit × mM)) (t0 : Option Nat) (i1 : Int32) (i2 : Int32) (i3 : Int32) (M : mM) : Option (Unit × mM) :=
    x_gR M 10 t0 64 fun a1 =>
    x_aI M 0 a1 i1 fun x2 =>
    if i3 < x2 then
      x_gR M 10 t0 63 fun a3 =>
      x_gR M 10 t0 63 fun a4 =>
      x_aI M 0 a4 ((((200 : Int32) * i1) + i3) + i2) fun x5 =>
      x_wI M a3 (((200 : Int32) * i1) + i3) x5 fun M =>
      r12 t0 i1 i2 (i3 + 1) M
    else
      some ((), M)
def q_M_dropOut_12 : Nat → Option Nat → Int32 → Int32 → Int32 → mM → Option (Unit × mM)
  | 0, _, _, _, _, _ => none
  | n + 1, t0, i1, i2, i3, M => q_M_dropOut_12_b (q_M_dropOut_12 n) t0 i1 i2 i3 M
set_option maxRecDepth 20000 in
theorem v_M_dropOut_12_b {E : mE} (r12 : Option Nat → Int32 → Int32 → Int32 → mM → Option (Unit × mM)) (h12 : ∀ (t0 : Option Nat) (i1 : Int32) (i2 : Int32) (i3 : Int32) (M : mM), mVr E mi_M_dropOut 0 12 [some (.inr t0), some (.inl i1), some (.inl i2), some (.inl i3)] [] M enU (r12 t0 i1 i2 i3 M)) (t0 : Option Nat) (i1 : Int32) (i2 : Int32) (i3 : Int32) (M : mM) : mVr E mi_M_dropOut 0 12 [some (.inr t0), some (.inl i1), some (.inl i2), some (.inl i3)] [] M enU (q_M_dropOut_12_b r12 t0 i1 i2 i3 M) := by
  unfold q_M_dropOut_12_b
  refine m_iload_n (d_M_dropOut (k := 10) rfl) rfl ?_
  refine m_aload_n (d_M_dropOut (k := 11) rfl) rfl ?_
  refine m_getR (d_M_dropOut (k := 12) rfl) fl_M_155 rfl (fun a1 => ?_)
  refine m_iload_n (d_M_dropOut (k := 13) rfl) rfl ?_
  refine m_iald (d_M_dropOut (k := 14) rfl) (fun x2 => ?_)
  refine m_icmp_ge (tgt := 54) (d_M_dropOut (k := 15) rfl) rfl ?_ ?_
  · refine m_aload_n (d_M_dropOut (k := 16) rfl) rfl ?_
    refine m_getR (d_M_dropOut (k := 17) rfl) fl_M_152 rfl (fun a3 => ?_)
    refine m_sipush (v := 200) (d_M_dropOut (k := 18) rfl) (by decide) ?_
    refine m_iload_n (d_M_dropOut (k := 19) rfl) rfl ?_
    refine m_imul (d_M_dropOut (k := 20) rfl) ?_
    refine m_iload_n (d_M_dropOut (k := 21) rfl) rfl ?_
    refine m_iadd (d_M_dropOut (k := 22) rfl) ?_
    refine m_aload_n (d_M_dropOut (k := 23) rfl) rfl ?_
    refine m_getR (d_M_dropOut (k := 24) rfl) fl_M_152 rfl (fun a4 => ?_)
    refine m_sipush (v := 200) (d_M_dropOut (k := 25) rfl) (by decide) ?_
    refine m_iload_n (d_M_dropOut (k := 26) rfl) rfl ?_
    refine m_imul (d_M_dropOut (k := 27) rfl) ?_
    refine m_iload_n (d_M_dropOut (k := 28) rfl) rfl ?_
    refine m_iadd (d_M_dropOut (k := 29) rfl) ?_
    refine m_iload_n (d_M_dropOut (k := 30) rfl) rfl ?_
    refine m_iadd (d_M_dropOut (k := 31) rfl) ?_
    refine m_iald (d_M_dropOut (k := 32) rfl) (fun x5 => ?_)
    refine m_iast (d_M_dropOut (k := 33) rfl) (fun M => ?_)
    refine m_inc (v := 1) (ls' := [some (.inr t0), some (.inl i1), some (.inl i2), some (.inl (i3 + 1))]) (d_M_dropOut (k := 34) rfl) rfl (by decide) (by decide) rfl ?_
    refine m_goto (tgt := 12) (d_M_dropOut (k := 35) rfl) rfl ?_
    exact m_drop (mles_s (mles_s (mles_s (mles_s mles_0)))) (h12 t0 i1 i2 (i3 + 1) M)
  · exact m_vret (d_M_dropOut (k := 36) rfl) rfl
theorem v_M_dropOut_12 {E : mE} : ∀ (n : Nat) (t0 : Option Nat) (i1 : Int32) (i2 : Int32) (i3 : Int32) (M : mM), mVr E mi_M_dropOut 0 12 [some (.inr t0), some (.inl i1), some (.inl i2), some (.inl i3)] [] M enU (q_M_dropOut_12 n t0 i1 i2 i3 M)
  | 0, _, _, _, _, _ => m_none
  | n + 1, t0, i1, i2, i3, M => v_M_dropOut_12_b _ (v_M_dropOut_12 n) t0 i1 i2 i3 M
def q_M_dropOut (t0 : Option Nat) (i1 : Int32) (i2 : Int32) (M : mM) : Option (Unit × mM) :=
    x_gR M 10 t0 64 fun a1 =>
    x_aI M 0 a1 i1 fun x2 =>
    x_wI M a1 i1 (x2 - i2) fun M =>
    q_M_dropOut_12 mFU t0 i1 i2 (0 : Int32) M
set_option maxRecDepth 20000 in
theorem v_M_dropOut {E : mE} (t0 : Option Nat) (i1 : Int32) (i2 : Int32) (M : mM) : mVr E mi_M_dropOut 0 0 [some (.inr t0), some (.inl i1), some (.inl i2), none] [] M enU (q_M_dropOut t0 i1 i2 M) := by
  unfold q_M_dropOut
  refine m_aload_n (d_M_dropOut (k := 0) rfl) rfl ?_
  refine m_getR (d_M_dropOut (k := 1) rfl) fl_M_155 rfl (fun a1 => ?_)
  refine m_iload_n (d_M_dropOut (k := 2) rfl) rfl ?_
  refine m_dup2 (d_M_dropOut (k := 3) rfl) ?_
  refine m_iald (d_M_dropOut (k := 4) rfl) (fun x2 => ?_)
  refine m_iload_n (d_M_dropOut (k := 5) rfl) rfl ?_
  refine m_isub (d_M_dropOut (k := 6) rfl) ?_
  refine m_iast (d_M_dropOut (k := 7) rfl) (fun M => ?_)
  refine m_iconst (v := 0) (d_M_dropOut (k := 8) rfl) (by decide) ?_
  refine m_ist_n (ls' := [some (.inr t0), some (.inl i1), some (.inl i2), some (.inl (0 : Int32))]) (d_M_dropOut (k := 9) rfl) (by decide) rfl ?_
  exact m_drop (mles_s (mles_s (mles_s (mles_s mles_0)))) (v_M_dropOut_12 mFU t0 i1 i2 (0 : Int32) M)
theorem s_M_dropOut {E : mE} (t0 : Option Nat) (i1 : Int32) (i2 : Int32) (M : mM) : mSnd E mi_M_dropOut 0 [.inr t0, .inl i1, .inl i2] M enU (q_M_dropOut t0 i1 i2 M) := m_entryU (by decide) (Nat.le_of_ble_eq_true rfl) rfl (m_drop (mles_s (mles_s (mles_s (mles_e mles_0)))) (v_M_dropOut t0 i1 i2 M))
def dt_M_dropPacket : List (Nat × Instr × Nat) := [(0, .aload_n 0, 1), (1, .getfield 170, 3), (4, .iload_n 1, 1), (5, .dup2, 1), (6, .iaload, 1), (7, .iconst 1, 1), (8, .isub, 1), (9, .iastore, 1), (10, .iconst 0, 1), (11, .istore_n 2, 1), (12, .iload_n 2, 1), (13, .aload_n 0, 1), (14, .getfield 170, 3), (17, .iload_n 1, 1), (18, .iaload, 1), (19, .if_icmp .ge 82, 3), (22, .aload_n 0, 1), (23, .getfield 167, 3), (26, .bipush 6, 2), (28, .iload_n 1, 1), (29, .imul, 1), (30, .iload_n 2, 1), (31, .iadd, 1), (32, .aload_n 0, 1), (33, .getfield 167, 3), (36, .bipush 6, 2), (38, .iload_n 1, 1), (39, .imul, 1), (40, .iload_n 2, 1), (41, .iadd, 1), (42, .iconst 1, 1), (43, .iadd, 1), (44, .iaload, 1), (45, .iastore, 1), (46, .iconst 0, 1), (47, .istore_n 3, 1), (48, .iload_n 3, 1), (49, .bipush 16, 2), (51, .if_icmp .ge 44, 3), (54, .aload_n 0, 1), (55, .getfield 164, 3), (58, .bipush 96, 2), (60, .iload_n 1, 1), (61, .imul, 1), (62, .bipush 16, 2), (64, .iload_n 2, 1), (65, .imul, 1), (66, .iadd, 1), (67, .iload_n 3, 1), (68, .iadd, 1), (69, .aload_n 0, 1), (70, .getfield 164, 3), (73, .bipush 96, 2), (75, .iload_n 1, 1), (76, .imul, 1), (77, .bipush 16, 2), (79, .iload_n 2, 1), (80, .imul, 1), (81, .iadd, 1), (82, .bipush 16, 2), (84, .iadd, 1), (85, .iload_n 3, 1), (86, .iadd, 1), (87, .iaload, 1), (88, .iastore, 1), (89, .iinc 3 1, 3), (92, .goto (-44), 3), (95, .iinc 2 1, 3), (98, .goto (-86), 3), (101, .return_, 1)]
theorem dx_M_dropPacket : ∀ p ∈ dt_M_dropPacket, decode prog_12_method_68_code p.1 = .ok p.2 := by decide +kernel
theorem d_M_dropPacket {k pc : Nat} {i : Instr} {n : Nat} (h : dt_M_dropPacket[k]? = some (pc, i, n)) : decode mi_M_dropPacket.2.1 pc = .ok (i, n) := dx_M_dropPacket (pc, i, n) (List.mem_of_getElem? h)
def q_M_dropPacket_48_b (r12 : Option Nat → Int32 → Int32 → mM → Option (Unit × mM)) (r48 : Option Nat → Int32 → Int32 → Int32 → mM → Option (Unit × mM)) (t0 : Option Nat) (i1 : Int32) (i2 : Int32) (i3 : Int32) (M : mM) : Option (Unit × mM) :=
    if i3 < (16 : Int32) then
      x_gR M 10 t0 67 fun a1 =>
      x_gR M 10 t0 67 fun a2 =>
      x_aI M 0 a2 (((((96 : Int32) * i1) + ((16 : Int32) * i2)) + (16 : Int32)) + i3) fun x3 =>
      x_wI M a1 ((((96 : Int32) * i1) + ((16 : Int32) * i2)) + i3) x3 fun M =>
      r48 t0 i1 i2 (i3 + 1) M
    else
      r12 t0 i1 (i2 + 1) M
def q_M_dropPacket_48 (r12 : Option Nat → Int32 → Int32 → mM → Option (Unit × mM)) : Nat → Option Nat → Int32 → Int32 → Int32 → mM → Option (Unit × mM)
  | 0, _, _, _, _, _ => none
  | n + 1, t0, i1, i2, i3, M => q_M_dropPacket_48_b r12 (q_M_dropPacket_48 r12 n) t0 i1 i2 i3 M
set_option maxRecDepth 20000 in
theorem v_M_dropPacket_48_b {E : mE} (r12 : Option Nat → Int32 → Int32 → mM → Option (Unit × mM)) (h12 : ∀ (t0 : Option Nat) (i1 : Int32) (i2 : Int32) (M : mM), mVr E mi_M_dropPacket 0 12 [some (.inr t0), some (.inl i1), some (.inl i2), none] [] M enU (r12 t0 i1 i2 M)) (r48 : Option Nat → Int32 → Int32 → Int32 → mM → Option (Unit × mM)) (h48 : ∀ (t0 : Option Nat) (i1 : Int32) (i2 : Int32) (i3 : Int32) (M : mM), mVr E mi_M_dropPacket 0 48 [some (.inr t0), some (.inl i1), some (.inl i2), some (.inl i3)] [] M enU (r48 t0 i1 i2 i3 M)) (t0 : Option Nat) (i1 : Int32) (i2 : Int32) (i3 : Int32) (M : mM) : mVr E mi_M_dropPacket 0 48 [some (.inr t0), some (.inl i1), some (.inl i2), some (.inl i3)] [] M enU (q_M_dropPacket_48_b r12 r48 t0 i1 i2 i3 M) := by
  unfold q_M_dropPacket_48_b
  refine m_iload_n (d_M_dropPacket (k := 36) rfl) rfl ?_
  refine m_bipush (v := 16) (d_M_dropPacket (k := 37) rfl) (by decide) ?_
  refine m_icmp_ge (tgt := 95) (d_M_dropPacket (k := 38) rfl) rfl ?_ ?_
  · refine m_aload_n (d_M_dropPacket (k := 39) rfl) rfl ?_
    refine m_getR (d_M_dropPacket (k := 40) rfl) fl_M_164 rfl (fun a1 => ?_)
    refine m_bipush (v := 96) (d_M_dropPacket (k := 41) rfl) (by decide) ?_
    refine m_iload_n (d_M_dropPacket (k := 42) rfl) rfl ?_
    refine m_imul (d_M_dropPacket (k := 43) rfl) ?_
    refine m_bipush (v := 16) (d_M_dropPacket (k := 44) rfl) (by decide) ?_
    refine m_iload_n (d_M_dropPacket (k := 45) rfl) rfl ?_
    refine m_imul (d_M_dropPacket (k := 46) rfl) ?_
    refine m_iadd (d_M_dropPacket (k := 47) rfl) ?_
    refine m_iload_n (d_M_dropPacket (k := 48) rfl) rfl ?_
    refine m_iadd (d_M_dropPacket (k := 49) rfl) ?_
    refine m_aload_n (d_M_dropPacket (k := 50) rfl) rfl ?_
    refine m_getR (d_M_dropPacket (k := 51) rfl) fl_M_164 rfl (fun a2 => ?_)
    refine m_bipush (v := 96) (d_M_dropPacket (k := 52) rfl) (by decide) ?_
    refine m_iload_n (d_M_dropPacket (k := 53) rfl) rfl ?_
    refine m_imul (d_M_dropPacket (k := 54) rfl) ?_
    refine m_bipush (v := 16) (d_M_dropPacket (k := 55) rfl) (by decide) ?_
    refine m_iload_n (d_M_dropPacket (k := 56) rfl) rfl ?_
    refine m_imul (d_M_dropPacket (k := 57) rfl) ?_
    refine m_iadd (d_M_dropPacket (k := 58) rfl) ?_
    refine m_bipush (v := 16) (d_M_dropPacket (k := 59) rfl) (by decide) ?_
    refine m_iadd (d_M_dropPacket (k := 60) rfl) ?_
    refine m_iload_n (d_M_dropPacket (k := 61) rfl) rfl ?_
    refine m_iadd (d_M_dropPacket (k := 62) rfl) ?_
    refine m_iald (d_M_dropPacket (k := 63) rfl) (fun x3 => ?_)
    refine m_iast (d_M_dropPacket (k := 64) rfl) (fun M => ?_)
    refine m_inc (v := 1) (ls' := [some (.inr t0), some (.inl i1), some (.inl i2), some (.inl (i3 + 1))]) (d_M_dropPacket (k := 65) rfl) rfl (by decide) (by decide) rfl ?_
    refine m_goto (tgt := 48) (d_M_dropPacket (k := 66) rfl) rfl ?_
    exact m_drop (mles_s (mles_s (mles_s (mles_s mles_0)))) (h48 t0 i1 i2 (i3 + 1) M)
  · refine m_inc (v := 1) (ls' := [some (.inr t0), some (.inl i1), some (.inl (i2 + 1)), some (.inl i3)]) (d_M_dropPacket (k := 67) rfl) rfl (by decide) (by decide) rfl ?_
    refine m_goto (tgt := 12) (d_M_dropPacket (k := 68) rfl) rfl ?_
    exact m_drop (mles_s (mles_s (mles_s (mles_n mles_0)))) (h12 t0 i1 (i2 + 1) M)
theorem v_M_dropPacket_48 {E : mE} (r12 : Option Nat → Int32 → Int32 → mM → Option (Unit × mM)) (h12 : ∀ (t0 : Option Nat) (i1 : Int32) (i2 : Int32) (M : mM), mVr E mi_M_dropPacket 0 12 [some (.inr t0), some (.inl i1), some (.inl i2), none] [] M enU (r12 t0 i1 i2 M)) : ∀ (n : Nat) (t0 : Option Nat) (i1 : Int32) (i2 : Int32) (i3 : Int32) (M : mM), mVr E mi_M_dropPacket 0 48 [some (.inr t0), some (.inl i1), some (.inl i2), some (.inl i3)] [] M enU (q_M_dropPacket_48 r12 n t0 i1 i2 i3 M)
  | 0, _, _, _, _, _ => m_none
  | n + 1, t0, i1, i2, i3, M => v_M_dropPacket_48_b r12 h12 _ (v_M_dropPacket_48 r12 h12 n) t0 i1 i2 i3 M
def q_M_dropPacket_12_b (r12 : Option Nat → Int32 → Int32 → mM → Option (Unit × mM)) (t0 : Option Nat) (i1 : Int32) (i2 : Int32) (M : mM) : Option (Unit × mM) :=
    x_gR M 10 t0 69 fun a1 =>
    x_aI M 0 a1 i1 fun x2 =>
    if i2 < x2 then
      x_gR M 10 t0 68 fun a3 =>
      x_gR M 10 t0 68 fun a4 =>
      x_aI M 0 a4 ((((6 : Int32) * i1) + i2) + (1 : Int32)) fun x5 =>
      x_wI M a3 (((6 : Int32) * i1) + i2) x5 fun M =>
      q_M_dropPacket_48 r12 mFU t0 i1 i2 (0 : Int32) M
    else
      some ((), M)
def q_M_dropPacket_12 : Nat → Option Nat → Int32 → Int32 → mM → Option (Unit × mM)
  | 0, _, _, _, _ => none
  | n + 1, t0, i1, i2, M => q_M_dropPacket_12_b (q_M_dropPacket_12 n) t0 i1 i2 M
set_option maxRecDepth 20000 in
theorem v_M_dropPacket_12_b {E : mE} (r12 : Option Nat → Int32 → Int32 → mM → Option (Unit × mM)) (h12 : ∀ (t0 : Option Nat) (i1 : Int32) (i2 : Int32) (M : mM), mVr E mi_M_dropPacket 0 12 [some (.inr t0), some (.inl i1), some (.inl i2), none] [] M enU (r12 t0 i1 i2 M)) (t0 : Option Nat) (i1 : Int32) (i2 : Int32) (M : mM) : mVr E mi_M_dropPacket 0 12 [some (.inr t0), some (.inl i1), some (.inl i2), none] [] M enU (q_M_dropPacket_12_b r12 t0 i1 i2 M) := by
  unfold q_M_dropPacket_12_b
  refine m_iload_n (d_M_dropPacket (k := 10) rfl) rfl ?_
  refine m_aload_n (d_M_dropPacket (k := 11) rfl) rfl ?_
  refine m_getR (d_M_dropPacket (k := 12) rfl) fl_M_170 rfl (fun a1 => ?_)
  refine m_iload_n (d_M_dropPacket (k := 13) rfl) rfl ?_
  refine m_iald (d_M_dropPacket (k := 14) rfl) (fun x2 => ?_)
  refine m_icmp_ge (tgt := 101) (d_M_dropPacket (k := 15) rfl) rfl ?_ ?_
  · refine m_aload_n (d_M_dropPacket (k := 16) rfl) rfl ?_
    refine m_getR (d_M_dropPacket (k := 17) rfl) fl_M_167 rfl (fun a3 => ?_)
    refine m_bipush (v := 6) (d_M_dropPacket (k := 18) rfl) (by decide) ?_
    refine m_iload_n (d_M_dropPacket (k := 19) rfl) rfl ?_
    refine m_imul (d_M_dropPacket (k := 20) rfl) ?_
    refine m_iload_n (d_M_dropPacket (k := 21) rfl) rfl ?_
    refine m_iadd (d_M_dropPacket (k := 22) rfl) ?_
    refine m_aload_n (d_M_dropPacket (k := 23) rfl) rfl ?_
    refine m_getR (d_M_dropPacket (k := 24) rfl) fl_M_167 rfl (fun a4 => ?_)
    refine m_bipush (v := 6) (d_M_dropPacket (k := 25) rfl) (by decide) ?_
    refine m_iload_n (d_M_dropPacket (k := 26) rfl) rfl ?_
    refine m_imul (d_M_dropPacket (k := 27) rfl) ?_
    refine m_iload_n (d_M_dropPacket (k := 28) rfl) rfl ?_
    refine m_iadd (d_M_dropPacket (k := 29) rfl) ?_
    refine m_iconst (v := 1) (d_M_dropPacket (k := 30) rfl) (by decide) ?_
    refine m_iadd (d_M_dropPacket (k := 31) rfl) ?_
    refine m_iald (d_M_dropPacket (k := 32) rfl) (fun x5 => ?_)
    refine m_iast (d_M_dropPacket (k := 33) rfl) (fun M => ?_)
    refine m_iconst (v := 0) (d_M_dropPacket (k := 34) rfl) (by decide) ?_
    refine m_ist_n (ls' := [some (.inr t0), some (.inl i1), some (.inl i2), some (.inl (0 : Int32))]) (d_M_dropPacket (k := 35) rfl) (by decide) rfl ?_
    exact m_drop (mles_s (mles_s (mles_s (mles_s mles_0)))) (v_M_dropPacket_48 r12 h12 mFU t0 i1 i2 (0 : Int32) M)
  · exact m_vret (d_M_dropPacket (k := 69) rfl) rfl
theorem v_M_dropPacket_12 {E : mE} : ∀ (n : Nat) (t0 : Option Nat) (i1 : Int32) (i2 : Int32) (M : mM), mVr E mi_M_dropPacket 0 12 [some (.inr t0), some (.inl i1), some (.inl i2), none] [] M enU (q_M_dropPacket_12 n t0 i1 i2 M)
  | 0, _, _, _, _ => m_none
  | n + 1, t0, i1, i2, M => v_M_dropPacket_12_b _ (v_M_dropPacket_12 n) t0 i1 i2 M
def q_M_dropPacket (t0 : Option Nat) (i1 : Int32) (M : mM) : Option (Unit × mM) :=
    x_gR M 10 t0 69 fun a1 =>
    x_aI M 0 a1 i1 fun x2 =>
    x_wI M a1 i1 (x2 - (1 : Int32)) fun M =>
    q_M_dropPacket_12 mFU t0 i1 (0 : Int32) M
set_option maxRecDepth 20000 in
theorem v_M_dropPacket {E : mE} (t0 : Option Nat) (i1 : Int32) (M : mM) : mVr E mi_M_dropPacket 0 0 [some (.inr t0), some (.inl i1), none, none] [] M enU (q_M_dropPacket t0 i1 M) := by
  unfold q_M_dropPacket
  refine m_aload_n (d_M_dropPacket (k := 0) rfl) rfl ?_
  refine m_getR (d_M_dropPacket (k := 1) rfl) fl_M_170 rfl (fun a1 => ?_)
  refine m_iload_n (d_M_dropPacket (k := 2) rfl) rfl ?_
  refine m_dup2 (d_M_dropPacket (k := 3) rfl) ?_
  refine m_iald (d_M_dropPacket (k := 4) rfl) (fun x2 => ?_)
  refine m_iconst (v := 1) (d_M_dropPacket (k := 5) rfl) (by decide) ?_
  refine m_isub (d_M_dropPacket (k := 6) rfl) ?_
  refine m_iast (d_M_dropPacket (k := 7) rfl) (fun M => ?_)
  refine m_iconst (v := 0) (d_M_dropPacket (k := 8) rfl) (by decide) ?_
  refine m_ist_n (ls' := [some (.inr t0), some (.inl i1), some (.inl (0 : Int32)), none]) (d_M_dropPacket (k := 9) rfl) (by decide) rfl ?_
  exact m_drop (mles_s (mles_s (mles_s (mles_n mles_0)))) (v_M_dropPacket_12 mFU t0 i1 (0 : Int32) M)
theorem s_M_dropPacket {E : mE} (t0 : Option Nat) (i1 : Int32) (M : mM) : mSnd E mi_M_dropPacket 0 [.inr t0, .inl i1] M enU (q_M_dropPacket t0 i1 M) := m_entryU (by decide) (Nat.le_of_ble_eq_true rfl) rfl (m_drop (mles_s (mles_s (mles_e (mles_e mles_0)))) (v_M_dropPacket t0 i1 M))
def dt_M_sayAgain : List (Nat × Instr × Nat) := [(0, .bipush 6, 2), (2, .iload_n 1, 1), (3, .imul, 1), (4, .iload_n 2, 1), (5, .iadd, 1), (6, .istore 4, 2), (8, .aload_n 0, 1), (9, .iload_n 2, 1), (10, .iload_n 1, 1), (11, .aload_n 0, 1), (12, .getfield 113, 3), (15, .iload 4, 2), (17, .iaload, 1), (18, .aload_n 0, 1), (19, .getfield 116, 3), (22, .iload 4, 2), (24, .iaload, 1), (25, .iconst 1, 1), (26, .invokevirtual 387, 3), (29, .aload_n 0, 1), (30, .iconst 2, 1), (31, .aload_n 0, 1), (32, .getfield 125, 3), (35, .iload 4, 2), (37, .iaload, 1), (38, .iload_n 3, 1), (39, .iadd, 1), (40, .bipush 7, 2), (42, .iand, 1), (43, .imul, 1), (44, .bipush 32, 2), (46, .aload_n 0, 1), (47, .getfield 128, 3), (50, .iload 4, 2), (52, .iaload, 1), (53, .imul, 1), (54, .iadd, 1), (55, .invokevirtual 270, 3), (58, .aload_n 0, 1), (59, .aload_n 0, 1), (60, .getfield 119, 3), (63, .iload 4, 2), (65, .iaload, 1), (66, .invokevirtual 270, 3), (69, .aload_n 0, 1), (70, .aload_n 0, 1), (71, .getfield 179, 3), (74, .iconst 4, 1), (75, .iload 4, 2), (77, .imul, 1), (78, .iload_n 3, 1), (79, .iadd, 1), (80, .iaload, 1), (81, .invokevirtual 270, 3), (84, .iconst 0, 1), (85, .istore 5, 2), (87, .iload 5, 2), (89, .aload_n 0, 1), (90, .getfield 176, 3), (93, .iconst 4, 1), (94, .iload 4, 2), (96, .imul, 1), (97, .iload_n 3, 1), (98, .iadd, 1), (99, .iaload, 1), (100, .if_icmp .ge 31, 3), (103, .aload_n 0, 1), (104, .aload_n 0, 1), (105, .getfield 173, 3), (108, .bipush 64, 2), (110, .iload 4, 2), (112, .imul, 1), (113, .bipush 16, 2), (115, .iload_n 3, 1), (116, .imul, 1), (117, .iadd, 1), (118, .iload 5, 2), (120, .iadd, 1), (121, .iaload, 1), (122, .invokevirtual 270, 3), (125, .iinc 5 1, 3), (128, .goto (-41), 3), (131, .aload_n 0, 1), (132, .iload_n 1, 1), (133, .invokevirtual 273, 3), (136, .return_, 1)]
theorem dx_M_sayAgain : ∀ p ∈ dt_M_sayAgain, decode prog_12_method_55_code p.1 = .ok p.2 := by decide +kernel
theorem d_M_sayAgain {k pc : Nat} {i : Instr} {n : Nat} (h : dt_M_sayAgain[k]? = some (pc, i, n)) : decode mi_M_sayAgain.2.1 pc = .ok (i, n) := dx_M_sayAgain (pc, i, n) (List.mem_of_getElem? h)
def q_M_sayAgain_87_b (r87 : Option Nat → Int32 → Int32 → Int32 → Int32 → mM → Option (Unit × mM)) (t0 : Option Nat) (i1 : Int32) (i3 : Int32) (i4 : Int32) (i5 : Int32) (M : mM) : Option (Unit × mM) :=
    x_gR M 10 t0 71 fun a1 =>
    x_aI M 0 a1 (((4 : Int32) * i4) + i3) fun x2 =>
    if i5 < x2 then
      x_gR M 10 t0 70 fun a3 =>
      x_aI M 0 a3 ((((64 : Int32) * i4) + ((16 : Int32) * i3)) + i5) fun x4 =>
      x_cv M 10 t0 (q_M_put t0 x4 M) fun _ M =>
      r87 t0 i1 i3 i4 (i5 + 1) M
    else
      x_cv M 10 t0 (q_M_enqueue t0 i1 M) fun _ M =>
      some ((), M)
def q_M_sayAgain_87 : Nat → Option Nat → Int32 → Int32 → Int32 → Int32 → mM → Option (Unit × mM)
  | 0, _, _, _, _, _, _ => none
  | n + 1, t0, i1, i3, i4, i5, M => q_M_sayAgain_87_b (q_M_sayAgain_87 n) t0 i1 i3 i4 i5 M
set_option maxRecDepth 20000 in
theorem v_M_sayAgain_87_b {E : mE} (r87 : Option Nat → Int32 → Int32 → Int32 → Int32 → mM → Option (Unit × mM)) (h87 : ∀ (t0 : Option Nat) (i1 : Int32) (i3 : Int32) (i4 : Int32) (i5 : Int32) (M : mM), mVr E mi_M_sayAgain 3 87 [some (.inr t0), some (.inl i1), none, some (.inl i3), some (.inl i4), some (.inl i5)] [] M enU (r87 t0 i1 i3 i4 i5 M)) (t0 : Option Nat) (i1 : Int32) (i3 : Int32) (i4 : Int32) (i5 : Int32) (M : mM) : mVr E mi_M_sayAgain 3 87 [some (.inr t0), some (.inl i1), none, some (.inl i3), some (.inl i4), some (.inl i5)] [] M enU (q_M_sayAgain_87_b r87 t0 i1 i3 i4 i5 M) := by
  unfold q_M_sayAgain_87_b
  refine m_iload (d_M_sayAgain (k := 56) rfl) rfl ?_
  refine m_aload_n (d_M_sayAgain (k := 57) rfl) rfl ?_
  refine m_getR (d_M_sayAgain (k := 58) rfl) fl_M_176 rfl (fun a1 => ?_)
  refine m_iconst (v := 4) (d_M_sayAgain (k := 59) rfl) (by decide) ?_
  refine m_iload (d_M_sayAgain (k := 60) rfl) rfl ?_
  refine m_imul (d_M_sayAgain (k := 61) rfl) ?_
  refine m_iload_n (d_M_sayAgain (k := 62) rfl) rfl ?_
  refine m_iadd (d_M_sayAgain (k := 63) rfl) ?_
  refine m_iald (d_M_sayAgain (k := 64) rfl) (fun x2 => ?_)
  refine m_icmp_ge (tgt := 131) (d_M_sayAgain (k := 65) rfl) rfl ?_ ?_
  · refine m_aload_n (d_M_sayAgain (k := 66) rfl) rfl ?_
    refine m_aload_n (d_M_sayAgain (k := 67) rfl) rfl ?_
    refine m_getR (d_M_sayAgain (k := 68) rfl) fl_M_173 rfl (fun a3 => ?_)
    refine m_bipush (v := 64) (d_M_sayAgain (k := 69) rfl) (by decide) ?_
    refine m_iload (d_M_sayAgain (k := 70) rfl) rfl ?_
    refine m_imul (d_M_sayAgain (k := 71) rfl) ?_
    refine m_bipush (v := 16) (d_M_sayAgain (k := 72) rfl) (by decide) ?_
    refine m_iload_n (d_M_sayAgain (k := 73) rfl) rfl ?_
    refine m_imul (d_M_sayAgain (k := 74) rfl) ?_
    refine m_iadd (d_M_sayAgain (k := 75) rfl) ?_
    refine m_iload (d_M_sayAgain (k := 76) rfl) rfl ?_
    refine m_iadd (d_M_sayAgain (k := 77) rfl) ?_
    refine m_iald (d_M_sayAgain (k := 78) rfl) (fun x4 => ?_)
    refine m_cvU (c := 10) (vs := [.inl x4]) (st := []) (d_M_sayAgain (k := 79) rfl) (s_M_put t0 x4 M) cd_M_put ml_M_270 im_M_put se_M_put rfl (by decide) rfl (Nat.le_of_ble_eq_true rfl) (fun _ M => ?_)
    refine m_inc (v := 1) (ls' := [some (.inr t0), some (.inl i1), none, some (.inl i3), some (.inl i4), some (.inl (i5 + 1))]) (d_M_sayAgain (k := 80) rfl) rfl (by decide) (by decide) rfl ?_
    refine m_goto (tgt := 87) (d_M_sayAgain (k := 81) rfl) rfl ?_
    exact m_drop (mles_s (mles_s (mles_n (mles_s (mles_s (mles_s mles_0)))))) (h87 t0 i1 i3 i4 (i5 + 1) M)
  · refine m_aload_n (d_M_sayAgain (k := 82) rfl) rfl ?_
    refine m_iload_n (d_M_sayAgain (k := 83) rfl) rfl ?_
    refine m_cvU (c := 10) (vs := [.inl i1]) (st := []) (d_M_sayAgain (k := 84) rfl) (s_M_enqueue t0 i1 M) cd_M_enqueue ml_M_273 im_M_enqueue se_M_enqueue rfl (by decide) rfl (Nat.le_of_ble_eq_true rfl) (fun _ M => ?_)
    exact m_vret (d_M_sayAgain (k := 85) rfl) rfl
theorem v_M_sayAgain_87 {E : mE} : ∀ (n : Nat) (t0 : Option Nat) (i1 : Int32) (i3 : Int32) (i4 : Int32) (i5 : Int32) (M : mM), mVr E mi_M_sayAgain 3 87 [some (.inr t0), some (.inl i1), none, some (.inl i3), some (.inl i4), some (.inl i5)] [] M enU (q_M_sayAgain_87 n t0 i1 i3 i4 i5 M)
  | 0, _, _, _, _, _, _ => m_none
  | n + 1, t0, i1, i3, i4, i5, M => v_M_sayAgain_87_b _ (v_M_sayAgain_87 n) t0 i1 i3 i4 i5 M
def q_M_sayAgain (t0 : Option Nat) (i1 : Int32) (i2 : Int32) (i3 : Int32) (M : mM) : Option (Unit × mM) :=
    x_lt (((6 : Int32) * i1) + i2) fun x1 =>
    x_gR M 10 t0 50 fun a2 =>
    x_aI M 0 a2 x1 fun x3 =>
    x_gR M 10 t0 51 fun a4 =>
    x_aI M 0 a4 x1 fun x5 =>
    x_cv M 10 t0 (q_M_begin t0 i2 i1 x3 x5 (1 : Int32) M) fun _ M =>
    x_gR M 10 t0 54 fun a6 =>
    x_aI M 0 a6 x1 fun x7 =>
    x_gR M 10 t0 55 fun a8 =>
    x_aI M 0 a8 x1 fun x9 =>
    x_cv M 10 t0 (q_M_put t0 (((2 : Int32) * ((x7 + i3) &&& (7 : Int32))) + ((32 : Int32) * x9)) M) fun _ M =>
    x_gR M 10 t0 52 fun a10 =>
    x_aI M 0 a10 x1 fun x11 =>
    x_cv M 10 t0 (q_M_put t0 x11 M) fun _ M =>
    x_gR M 10 t0 72 fun a12 =>
    x_aI M 0 a12 (((4 : Int32) * x1) + i3) fun x13 =>
    x_cv M 10 t0 (q_M_put t0 x13 M) fun _ M =>
    q_M_sayAgain_87 mFU t0 i1 i3 x1 (0 : Int32) M
set_option maxRecDepth 20000 in
theorem v_M_sayAgain {E : mE} (t0 : Option Nat) (i1 : Int32) (i2 : Int32) (i3 : Int32) (M : mM) : mVr E mi_M_sayAgain 3 0 [some (.inr t0), some (.inl i1), some (.inl i2), some (.inl i3), none, none] [] M enU (q_M_sayAgain t0 i1 i2 i3 M) := by
  unfold q_M_sayAgain
  refine m_bipush (v := 6) (d_M_sayAgain (k := 0) rfl) (by decide) ?_
  refine m_iload_n (d_M_sayAgain (k := 1) rfl) rfl ?_
  refine m_imul (d_M_sayAgain (k := 2) rfl) ?_
  refine m_iload_n (d_M_sayAgain (k := 3) rfl) rfl ?_
  refine m_iadd (d_M_sayAgain (k := 4) rfl) ?_
  refine m_lt (fun x1 => ?_)
  refine m_ist (ls' := [some (.inr t0), some (.inl i1), some (.inl i2), some (.inl i3), some (.inl x1), none]) (d_M_sayAgain (k := 5) rfl) (by decide) rfl ?_
  refine m_aload_n (d_M_sayAgain (k := 6) rfl) rfl ?_
  refine m_iload_n (d_M_sayAgain (k := 7) rfl) rfl ?_
  refine m_iload_n (d_M_sayAgain (k := 8) rfl) rfl ?_
  refine m_aload_n (d_M_sayAgain (k := 9) rfl) rfl ?_
  refine m_getR (d_M_sayAgain (k := 10) rfl) fl_M_113 rfl (fun a2 => ?_)
  refine m_iload (d_M_sayAgain (k := 11) rfl) rfl ?_
  refine m_iald (d_M_sayAgain (k := 12) rfl) (fun x3 => ?_)
  refine m_aload_n (d_M_sayAgain (k := 13) rfl) rfl ?_
  refine m_getR (d_M_sayAgain (k := 14) rfl) fl_M_116 rfl (fun a4 => ?_)
  refine m_iload (d_M_sayAgain (k := 15) rfl) rfl ?_
  refine m_iald (d_M_sayAgain (k := 16) rfl) (fun x5 => ?_)
  refine m_iconst (v := 1) (d_M_sayAgain (k := 17) rfl) (by decide) ?_
  refine m_cvU (c := 10) (vs := [.inl i2, .inl i1, .inl x3, .inl x5, .inl (1 : Int32)]) (st := []) (d_M_sayAgain (k := 18) rfl) (s_M_begin t0 i2 i1 x3 x5 (1 : Int32) M) cd_M_begin ml_M_387 im_M_begin se_M_begin rfl (by decide) rfl (Nat.le_of_ble_eq_true rfl) (fun _ M => ?_)
  refine m_aload_n (d_M_sayAgain (k := 19) rfl) rfl ?_
  refine m_iconst (v := 2) (d_M_sayAgain (k := 20) rfl) (by decide) ?_
  refine m_aload_n (d_M_sayAgain (k := 21) rfl) rfl ?_
  refine m_getR (d_M_sayAgain (k := 22) rfl) fl_M_125 rfl (fun a6 => ?_)
  refine m_iload (d_M_sayAgain (k := 23) rfl) rfl ?_
  refine m_iald (d_M_sayAgain (k := 24) rfl) (fun x7 => ?_)
  refine m_iload_n (d_M_sayAgain (k := 25) rfl) rfl ?_
  refine m_iadd (d_M_sayAgain (k := 26) rfl) ?_
  refine m_bipush (v := 7) (d_M_sayAgain (k := 27) rfl) (by decide) ?_
  refine m_iand (d_M_sayAgain (k := 28) rfl) ?_
  refine m_imul (d_M_sayAgain (k := 29) rfl) ?_
  refine m_bipush (v := 32) (d_M_sayAgain (k := 30) rfl) (by decide) ?_
  refine m_aload_n (d_M_sayAgain (k := 31) rfl) rfl ?_
  refine m_getR (d_M_sayAgain (k := 32) rfl) fl_M_128 rfl (fun a8 => ?_)
  refine m_iload (d_M_sayAgain (k := 33) rfl) rfl ?_
  refine m_iald (d_M_sayAgain (k := 34) rfl) (fun x9 => ?_)
  refine m_imul (d_M_sayAgain (k := 35) rfl) ?_
  refine m_iadd (d_M_sayAgain (k := 36) rfl) ?_
  refine m_cvU (c := 10) (vs := [.inl (((2 : Int32) * ((x7 + i3) &&& (7 : Int32))) + ((32 : Int32) * x9))]) (st := []) (d_M_sayAgain (k := 37) rfl) (s_M_put t0 (((2 : Int32) * ((x7 + i3) &&& (7 : Int32))) + ((32 : Int32) * x9)) M) cd_M_put ml_M_270 im_M_put se_M_put rfl (by decide) rfl (Nat.le_of_ble_eq_true rfl) (fun _ M => ?_)
  refine m_aload_n (d_M_sayAgain (k := 38) rfl) rfl ?_
  refine m_aload_n (d_M_sayAgain (k := 39) rfl) rfl ?_
  refine m_getR (d_M_sayAgain (k := 40) rfl) fl_M_119 rfl (fun a10 => ?_)
  refine m_iload (d_M_sayAgain (k := 41) rfl) rfl ?_
  refine m_iald (d_M_sayAgain (k := 42) rfl) (fun x11 => ?_)
  refine m_cvU (c := 10) (vs := [.inl x11]) (st := []) (d_M_sayAgain (k := 43) rfl) (s_M_put t0 x11 M) cd_M_put ml_M_270 im_M_put se_M_put rfl (by decide) rfl (Nat.le_of_ble_eq_true rfl) (fun _ M => ?_)
  refine m_aload_n (d_M_sayAgain (k := 44) rfl) rfl ?_
  refine m_aload_n (d_M_sayAgain (k := 45) rfl) rfl ?_
  refine m_getR (d_M_sayAgain (k := 46) rfl) fl_M_179 rfl (fun a12 => ?_)
  refine m_iconst (v := 4) (d_M_sayAgain (k := 47) rfl) (by decide) ?_
  refine m_iload (d_M_sayAgain (k := 48) rfl) rfl ?_
  refine m_imul (d_M_sayAgain (k := 49) rfl) ?_
  refine m_iload_n (d_M_sayAgain (k := 50) rfl) rfl ?_
  refine m_iadd (d_M_sayAgain (k := 51) rfl) ?_
  refine m_iald (d_M_sayAgain (k := 52) rfl) (fun x13 => ?_)
  refine m_cvU (c := 10) (vs := [.inl x13]) (st := []) (d_M_sayAgain (k := 53) rfl) (s_M_put t0 x13 M) cd_M_put ml_M_270 im_M_put se_M_put rfl (by decide) rfl (Nat.le_of_ble_eq_true rfl) (fun _ M => ?_)
  refine m_iconst (v := 0) (d_M_sayAgain (k := 54) rfl) (by decide) ?_
  refine m_ist (ls' := [some (.inr t0), some (.inl i1), some (.inl i2), some (.inl i3), some (.inl x1), some (.inl (0 : Int32))]) (d_M_sayAgain (k := 55) rfl) (by decide) rfl ?_
  exact m_drop (mles_s (mles_s (mles_n (mles_s (mles_s (mles_s mles_0)))))) (v_M_sayAgain_87 mFU t0 i1 i3 x1 (0 : Int32) M)
theorem s_M_sayAgain {E : mE} (t0 : Option Nat) (i1 : Int32) (i2 : Int32) (i3 : Int32) (M : mM) : mSnd E mi_M_sayAgain 3 [.inr t0, .inl i1, .inl i2, .inl i3] M enU (q_M_sayAgain t0 i1 i2 i3 M) := m_entryU (by decide) (Nat.le_of_ble_eq_true rfl) rfl (m_drop (mles_s (mles_s (mles_s (mles_s (mles_e (mles_e mles_0)))))) (v_M_sayAgain t0 i1 i2 i3 M))
def dt_M_maySay_0 : List (Nat × Instr × Nat) := [(0, .bipush 6, 2), (2, .iload_n 1, 1), (3, .imul, 1), (4, .iload_n 2, 1), (5, .iadd, 1), (6, .istore_n 3, 1), (7, .aload_n 0, 1), (8, .getfield 110, 3), (11, .iload_n 3, 1), (12, .iaload, 1), (13, .iconst 2, 1), (14, .if_icmp .eq 4, 3), (17, .return_, 1), (18, .aload_n 0, 1), (19, .getfield 170, 3), (22, .iload_n 3, 1), (23, .iaload, 1), (24, .ifCond .gt 12, 3), (27, .aload_n 0, 1), (28, .getfield 155, 3), (31, .iload_n 3, 1), (32, .iaload, 1), (33, .ifCond .le 7, 3), (36, .iconst 1, 1), (37, .goto 4, 3), (40, .iconst 0, 1), (41, .istore 4, 2), (43, .aload_n 0, 1), (44, .getfield 137, 3), (47, .iload_n 3, 1), (48, .baload, 1), (49, .ifCond .ne 289, 3), (52, .aload_n 0, 1), (53, .getfield 143, 3), (56, .iload_n 3, 1), (57, .baload, 1), (58, .ifCond .ne 280, 3), (61, .aload_n 0, 1), (62, .getfield 182, 3), (65, .iload_n 3, 1)]
theorem dx_M_maySay_0 : ∀ p ∈ dt_M_maySay_0, decode prog_12_method_67_code p.1 = .ok p.2 := by decide +kernel
theorem d_M_maySay_0 {k pc : Nat} {i : Instr} {n : Nat} (h : dt_M_maySay_0[k]? = some (pc, i, n)) : decode mi_M_maySay.2.1 pc = .ok (i, n) := dx_M_maySay_0 (pc, i, n) (List.mem_of_getElem? h)
def dt_M_maySay_1 : List (Nat × Instr × Nat) := [(66, .iaload, 1), (67, .iconst 4, 1), (68, .if_icmp .ge 270, 3), (71, .aload_n 0, 1), (72, .getfield 50, 3), (75, .iload_n 1, 1), (76, .iaload, 1), (77, .bipush 8, 2), (79, .if_icmp .ge 259, 3), (82, .iload 4, 2), (84, .ifCond .eq 254, 3), (87, .aload_n 0, 1), (88, .getfield 182, 3), (91, .iload_n 3, 1), (92, .iaload, 1), (93, .istore 5, 2), (95, .aload_n 0, 1), (96, .getfield 170, 3), (99, .iload_n 3, 1), (100, .iaload, 1), (101, .ifCond .le 7, 3), (104, .iconst 1, 1), (105, .goto 4, 3), (108, .iconst 0, 1), (109, .istore 6, 2), (111, .iload 6, 2), (113, .ifCond .eq 15, 3), (116, .aload_n 0, 1), (117, .getfield 167, 3), (120, .bipush 6, 2), (122, .iload_n 3, 1), (123, .imul, 1), (124, .iaload, 1), (125, .goto 25, 3), (128, .aload_n 0, 1), (129, .getfield 155, 3), (132, .iload_n 3, 1), (133, .iaload, 1), (134, .bipush 16, 2), (136, .if_icmp .ge 12, 3)]
theorem dx_M_maySay_1 : ∀ p ∈ dt_M_maySay_1, decode prog_12_method_67_code p.1 = .ok p.2 := by decide +kernel
theorem d_M_maySay_1 {k pc : Nat} {i : Instr} {n : Nat} (h : dt_M_maySay_1[k]? = some (pc, i, n)) : decode mi_M_maySay.2.1 pc = .ok (i, n) := dx_M_maySay_1 (pc, i, n) (List.mem_of_getElem? h)
def dt_M_maySay_2 : List (Nat × Instr × Nat) := [(139, .aload_n 0, 1), (140, .getfield 155, 3), (143, .iload_n 3, 1), (144, .iaload, 1), (145, .goto 5, 3), (148, .bipush 16, 2), (150, .istore 7, 2), (152, .aload_n 0, 1), (153, .getfield 179, 3), (156, .iconst 4, 1), (157, .iload_n 3, 1), (158, .imul, 1), (159, .iload 5, 2), (161, .iadd, 1), (162, .iload 6, 2), (164, .ifCond .eq 9, 3), (167, .sipush 207, 3), (170, .goto 6, 3), (173, .sipush 240, 3), (176, .iastore, 1), (177, .aload_n 0, 1), (178, .getfield 176, 3), (181, .iconst 4, 1), (182, .iload_n 3, 1), (183, .imul, 1), (184, .iload 5, 2), (186, .iadd, 1), (187, .iload 7, 2), (189, .iastore, 1), (190, .iconst 0, 1), (191, .istore 8, 2), (193, .iload 8, 2), (195, .iload 7, 2), (197, .if_icmp .ge 60, 3), (200, .aload_n 0, 1), (201, .getfield 173, 3), (204, .bipush 64, 2), (206, .iload_n 3, 1), (207, .imul, 1), (208, .bipush 16, 2)]
theorem dx_M_maySay_2 : ∀ p ∈ dt_M_maySay_2, decode prog_12_method_67_code p.1 = .ok p.2 := by decide +kernel
theorem d_M_maySay_2 {k pc : Nat} {i : Instr} {n : Nat} (h : dt_M_maySay_2[k]? = some (pc, i, n)) : decode mi_M_maySay.2.1 pc = .ok (i, n) := dx_M_maySay_2 (pc, i, n) (List.mem_of_getElem? h)
def dt_M_maySay_3 : List (Nat × Instr × Nat) := [(210, .iload 5, 2), (212, .imul, 1), (213, .iadd, 1), (214, .iload 8, 2), (216, .iadd, 1), (217, .iload 6, 2), (219, .ifCond .eq 18, 3), (222, .aload_n 0, 1), (223, .getfield 164, 3), (226, .bipush 96, 2), (228, .iload_n 3, 1), (229, .imul, 1), (230, .iload 8, 2), (232, .iadd, 1), (233, .iaload, 1), (234, .goto 16, 3), (237, .aload_n 0, 1), (238, .getfield 152, 3), (241, .sipush 200, 3), (244, .iload_n 3, 1), (245, .imul, 1), (246, .iload 8, 2), (248, .iadd, 1), (249, .iaload, 1), (250, .iastore, 1), (251, .iinc 8 1, 3), (254, .goto (-61), 3), (257, .iload 6, 2), (259, .ifCond .eq 11, 3), (262, .aload_n 0, 1), (263, .iload_n 3, 1), (264, .invokevirtual 443, 3), (267, .goto 10, 3), (270, .aload_n 0, 1), (271, .iload_n 3, 1), (272, .iload 7, 2), (274, .invokevirtual 446, 3), (277, .aload_n 0, 1), (278, .getfield 182, 3), (281, .iload_n 3, 1)]
theorem dx_M_maySay_3 : ∀ p ∈ dt_M_maySay_3, decode prog_12_method_67_code p.1 = .ok p.2 := by decide +kernel
theorem d_M_maySay_3 {k pc : Nat} {i : Instr} {n : Nat} (h : dt_M_maySay_3[k]? = some (pc, i, n)) : decode mi_M_maySay.2.1 pc = .ok (i, n) := dx_M_maySay_3 (pc, i, n) (List.mem_of_getElem? h)
def dt_M_maySay_4 : List (Nat × Instr × Nat) := [(282, .dup2, 1), (283, .iaload, 1), (284, .iconst 1, 1), (285, .iadd, 1), (286, .iastore, 1), (287, .aload_n 0, 1), (288, .iload_n 1, 1), (289, .iload_n 2, 1), (290, .iload 5, 2), (292, .invokevirtual 417, 3), (295, .aload_n 0, 1), (296, .getfield 122, 3), (299, .iload_n 3, 1), (300, .aload_n 0, 1), (301, .getfield 122, 3), (304, .iload_n 3, 1), (305, .iaload, 1), (306, .iconst 1, 1), (307, .iadd, 1), (308, .bipush 7, 2), (310, .iand, 1), (311, .iastore, 1), (312, .aload_n 0, 1), (313, .getfield 131, 3), (316, .iload_n 3, 1), (317, .iaload, 1), (318, .ifCond .ne 20, 3), (321, .aload_n 0, 1), (322, .getfield 131, 3), (325, .iload_n 3, 1), (326, .aload_n 0, 1), (327, .getfield 44, 3), (330, .bipush 9, 2), (332, .iload_n 1, 1), (333, .imul, 1), (334, .iconst 4, 1), (335, .iadd, 1), (336, .iaload, 1), (337, .iastore, 1), (338, .aload_n 0, 1)]
theorem dx_M_maySay_4 : ∀ p ∈ dt_M_maySay_4, decode prog_12_method_67_code p.1 = .ok p.2 := by decide +kernel
theorem d_M_maySay_4 {k pc : Nat} {i : Instr} {n : Nat} (h : dt_M_maySay_4[k]? = some (pc, i, n)) : decode mi_M_maySay.2.1 pc = .ok (i, n) := dx_M_maySay_4 (pc, i, n) (List.mem_of_getElem? h)
def dt_M_maySay_5 : List (Nat × Instr × Nat) := [(339, .getfield 170, 3), (342, .iload_n 3, 1), (343, .iaload, 1), (344, .ifCond .gt 21, 3), (347, .aload_n 0, 1), (348, .getfield 155, 3), (351, .iload_n 3, 1), (352, .iaload, 1), (353, .ifCond .gt 12, 3), (356, .aload_n 0, 1), (357, .getfield 182, 3), (360, .iload_n 3, 1), (361, .iaload, 1), (362, .ifCond .le 7, 3), (365, .iconst 1, 1), (366, .goto 4, 3), (369, .iconst 0, 1), (370, .istore 4, 2), (372, .aload_n 0, 1), (373, .getfield 143, 3), (376, .iload_n 3, 1), (377, .baload, 1), (378, .ifCond .eq 34, 3), (381, .aload_n 0, 1), (382, .getfield 131, 3), (385, .iload_n 3, 1), (386, .iaload, 1), (387, .ifCond .ne 25, 3), (390, .iload 4, 2), (392, .ifCond .eq 20, 3), (395, .aload_n 0, 1), (396, .getfield 131, 3), (399, .iload_n 3, 1), (400, .aload_n 0, 1), (401, .getfield 44, 3), (404, .bipush 9, 2), (406, .iload_n 1, 1), (407, .imul, 1), (408, .iconst 4, 1), (409, .iadd, 1)]
theorem dx_M_maySay_5 : ∀ p ∈ dt_M_maySay_5, decode prog_12_method_67_code p.1 = .ok p.2 := by decide +kernel
theorem d_M_maySay_5 {k pc : Nat} {i : Instr} {n : Nat} (h : dt_M_maySay_5[k]? = some (pc, i, n)) : decode mi_M_maySay.2.1 pc = .ok (i, n) := dx_M_maySay_5 (pc, i, n) (List.mem_of_getElem? h)
def dt_M_maySay_6 : List (Nat × Instr × Nat) := [(410, .iaload, 1), (411, .iastore, 1), (412, .return_, 1)]
theorem dx_M_maySay_6 : ∀ p ∈ dt_M_maySay_6, decode prog_12_method_67_code p.1 = .ok p.2 := by decide +kernel
theorem d_M_maySay_6 {k pc : Nat} {i : Instr} {n : Nat} (h : dt_M_maySay_6[k]? = some (pc, i, n)) : decode mi_M_maySay.2.1 pc = .ok (i, n) := dx_M_maySay_6 (pc, i, n) (List.mem_of_getElem? h)
def q_M_maySay_370 (t0 : Option Nat) (i1 : Int32) (i3 : Int32) (j0 : Int32) (M : mM) : Option (Unit × mM) :=
    x_gR M 10 t0 60 fun a1 =>
    x_aI M 1 a1 i3 fun x2 =>
    if x2 = 0 then
      some ((), M)
    else
      x_gR M 10 t0 56 fun a3 =>
      x_aI M 0 a3 i3 fun x4 =>
      if x4 = 0 then
        if j0 = 0 then
          some ((), M)
        else
          x_gR M 10 t0 56 fun a5 =>
          x_gR M 10 t0 16 fun a6 =>
          x_aI M 0 a6 (((9 : Int32) * i1) + (4 : Int32)) fun x7 =>
          x_wI M a5 i3 x7 fun M =>
          some ((), M)
      else
        some ((), M)
set_option maxRecDepth 20000 in
theorem v_M_maySay_370 {E : mE} (t0 : Option Nat) (i1 : Int32) (i3 : Int32) (j0 : Int32) (M : mM) : mVr E mi_M_maySay 4 370 [some (.inr t0), some (.inl i1), none, some (.inl i3), none, none, none, none, none] [.inl j0] M enU (q_M_maySay_370 t0 i1 i3 j0 M) := by
  unfold q_M_maySay_370
  refine m_ist (ls' := [some (.inr t0), some (.inl i1), none, some (.inl i3), some (.inl j0), none, none, none, none]) (d_M_maySay_5 (k := 17) rfl) (by decide) rfl ?_
  refine m_aload_n (d_M_maySay_5 (k := 18) rfl) rfl ?_
  refine m_getR (d_M_maySay_5 (k := 19) rfl) fl_M_143 rfl (fun a1 => ?_)
  refine m_iload_n (d_M_maySay_5 (k := 20) rfl) rfl ?_
  refine m_zald (d_M_maySay_5 (k := 21) rfl) (fun x2 => ?_)
  refine m_if_eq (tgt := 412) (d_M_maySay_5 (k := 22) rfl) rfl ?_ ?_
  · exact m_vret (d_M_maySay_6 (k := 2) rfl) rfl
  · refine m_aload_n (d_M_maySay_5 (k := 23) rfl) rfl ?_
    refine m_getR (d_M_maySay_5 (k := 24) rfl) fl_M_131 rfl (fun a3 => ?_)
    refine m_iload_n (d_M_maySay_5 (k := 25) rfl) rfl ?_
    refine m_iald (d_M_maySay_5 (k := 26) rfl) (fun x4 => ?_)
    refine m_if_ne (tgt := 412) (d_M_maySay_5 (k := 27) rfl) rfl ?_ ?_
    · refine m_iload (d_M_maySay_5 (k := 28) rfl) rfl ?_
      refine m_if_eq (tgt := 412) (d_M_maySay_5 (k := 29) rfl) rfl ?_ ?_
      · exact m_vret (d_M_maySay_6 (k := 2) rfl) rfl
      · refine m_aload_n (d_M_maySay_5 (k := 30) rfl) rfl ?_
        refine m_getR (d_M_maySay_5 (k := 31) rfl) fl_M_131 rfl (fun a5 => ?_)
        refine m_iload_n (d_M_maySay_5 (k := 32) rfl) rfl ?_
        refine m_aload_n (d_M_maySay_5 (k := 33) rfl) rfl ?_
        refine m_getR (d_M_maySay_5 (k := 34) rfl) fl_M_44 rfl (fun a6 => ?_)
        refine m_bipush (v := 9) (d_M_maySay_5 (k := 35) rfl) (by decide) ?_
        refine m_iload_n (d_M_maySay_5 (k := 36) rfl) rfl ?_
        refine m_imul (d_M_maySay_5 (k := 37) rfl) ?_
        refine m_iconst (v := 4) (d_M_maySay_5 (k := 38) rfl) (by decide) ?_
        refine m_iadd (d_M_maySay_5 (k := 39) rfl) ?_
        refine m_iald (d_M_maySay_6 (k := 0) rfl) (fun x7 => ?_)
        refine m_iast (d_M_maySay_6 (k := 1) rfl) (fun M => ?_)
        exact m_vret (d_M_maySay_6 (k := 2) rfl) rfl
    · exact m_vret (d_M_maySay_6 (k := 2) rfl) rfl
def q_M_maySay_365 (t0 : Option Nat) (i1 : Int32) (i3 : Int32) (M : mM) : Option (Unit × mM) :=
    q_M_maySay_370 t0 i1 i3 (1 : Int32) M
set_option maxRecDepth 20000 in
theorem v_M_maySay_365 {E : mE} (t0 : Option Nat) (i1 : Int32) (i3 : Int32) (M : mM) : mVr E mi_M_maySay 4 365 [some (.inr t0), some (.inl i1), none, some (.inl i3), none, none, none, none, none] [] M enU (q_M_maySay_365 t0 i1 i3 M) := by
  unfold q_M_maySay_365
  refine m_iconst (v := 1) (d_M_maySay_5 (k := 14) rfl) (by decide) ?_
  refine m_goto (tgt := 370) (d_M_maySay_5 (k := 15) rfl) rfl ?_
  exact m_drop (mles_s (mles_s (mles_n (mles_s (mles_n (mles_n (mles_n (mles_n (mles_n mles_0))))))))) (v_M_maySay_370 t0 i1 i3 (1 : Int32) M)
def q_M_maySay_338 (t0 : Option Nat) (i1 : Int32) (i3 : Int32) (M : mM) : Option (Unit × mM) :=
    x_gR M 10 t0 69 fun a1 =>
    x_aI M 0 a1 i3 fun x2 =>
    if 0 < x2 then
      q_M_maySay_365 t0 i1 i3 M
    else
      x_gR M 10 t0 64 fun a3 =>
      x_aI M 0 a3 i3 fun x4 =>
      if 0 < x4 then
        q_M_maySay_365 t0 i1 i3 M
      else
        x_gR M 10 t0 73 fun a5 =>
        x_aI M 0 a5 i3 fun x6 =>
        if 0 < x6 then
          q_M_maySay_365 t0 i1 i3 M
        else
          q_M_maySay_370 t0 i1 i3 (0 : Int32) M
set_option maxRecDepth 20000 in
theorem v_M_maySay_338 {E : mE} (t0 : Option Nat) (i1 : Int32) (i3 : Int32) (M : mM) : mVr E mi_M_maySay 4 338 [some (.inr t0), some (.inl i1), none, some (.inl i3), none, none, none, none, none] [] M enU (q_M_maySay_338 t0 i1 i3 M) := by
  unfold q_M_maySay_338
  refine m_aload_n (d_M_maySay_4 (k := 39) rfl) rfl ?_
  refine m_getR (d_M_maySay_5 (k := 0) rfl) fl_M_170 rfl (fun a1 => ?_)
  refine m_iload_n (d_M_maySay_5 (k := 1) rfl) rfl ?_
  refine m_iald (d_M_maySay_5 (k := 2) rfl) (fun x2 => ?_)
  refine m_if_gt (tgt := 365) (d_M_maySay_5 (k := 3) rfl) rfl ?_ ?_
  · exact m_drop (mles_s (mles_s (mles_n (mles_s (mles_n (mles_n (mles_n (mles_n (mles_n mles_0))))))))) (v_M_maySay_365 t0 i1 i3 M)
  · refine m_aload_n (d_M_maySay_5 (k := 4) rfl) rfl ?_
    refine m_getR (d_M_maySay_5 (k := 5) rfl) fl_M_155 rfl (fun a3 => ?_)
    refine m_iload_n (d_M_maySay_5 (k := 6) rfl) rfl ?_
    refine m_iald (d_M_maySay_5 (k := 7) rfl) (fun x4 => ?_)
    refine m_if_gt (tgt := 365) (d_M_maySay_5 (k := 8) rfl) rfl ?_ ?_
    · exact m_drop (mles_s (mles_s (mles_n (mles_s (mles_n (mles_n (mles_n (mles_n (mles_n mles_0))))))))) (v_M_maySay_365 t0 i1 i3 M)
    · refine m_aload_n (d_M_maySay_5 (k := 9) rfl) rfl ?_
      refine m_getR (d_M_maySay_5 (k := 10) rfl) fl_M_182 rfl (fun a5 => ?_)
      refine m_iload_n (d_M_maySay_5 (k := 11) rfl) rfl ?_
      refine m_iald (d_M_maySay_5 (k := 12) rfl) (fun x6 => ?_)
      refine m_if_le (tgt := 369) (d_M_maySay_5 (k := 13) rfl) rfl ?_ ?_
      · exact m_drop (mles_s (mles_s (mles_n (mles_s (mles_n (mles_n (mles_n (mles_n (mles_n mles_0))))))))) (v_M_maySay_365 t0 i1 i3 M)
      · refine m_iconst (v := 0) (d_M_maySay_5 (k := 16) rfl) (by decide) ?_
        exact m_drop (mles_s (mles_s (mles_n (mles_s (mles_n (mles_n (mles_n (mles_n (mles_n mles_0))))))))) (v_M_maySay_370 t0 i1 i3 (0 : Int32) M)
def q_M_maySay_250 (r193 : Option Nat → Int32 → Int32 → Int32 → Int32 → Int32 → Int32 → Int32 → mM → Option (Unit × mM)) (t0 : Option Nat) (i1 : Int32) (i2 : Int32) (i3 : Int32) (i5 : Int32) (i6 : Int32) (i7 : Int32) (i8 : Int32) (j0 : Int32) (j1 : Int32) (u2 : Option Nat) (M : mM) : Option (Unit × mM) :=
    x_wI M u2 j1 j0 fun M =>
    r193 t0 i1 i2 i3 i5 i6 i7 (i8 + 1) M
set_option maxRecDepth 20000 in
theorem v_M_maySay_250 {E : mE} (r193 : Option Nat → Int32 → Int32 → Int32 → Int32 → Int32 → Int32 → Int32 → mM → Option (Unit × mM)) (h193 : ∀ (t0 : Option Nat) (i1 : Int32) (i2 : Int32) (i3 : Int32) (i5 : Int32) (i6 : Int32) (i7 : Int32) (i8 : Int32) (M : mM), mVr E mi_M_maySay 4 193 [some (.inr t0), some (.inl i1), some (.inl i2), some (.inl i3), none, some (.inl i5), some (.inl i6), some (.inl i7), some (.inl i8)] [] M enU (r193 t0 i1 i2 i3 i5 i6 i7 i8 M)) (t0 : Option Nat) (i1 : Int32) (i2 : Int32) (i3 : Int32) (i5 : Int32) (i6 : Int32) (i7 : Int32) (i8 : Int32) (j0 : Int32) (j1 : Int32) (u2 : Option Nat) (M : mM) : mVr E mi_M_maySay 4 250 [some (.inr t0), some (.inl i1), some (.inl i2), some (.inl i3), none, some (.inl i5), some (.inl i6), some (.inl i7), some (.inl i8)] [.inl j0, .inl j1, .inr u2] M enU (q_M_maySay_250 r193 t0 i1 i2 i3 i5 i6 i7 i8 j0 j1 u2 M) := by
  unfold q_M_maySay_250
  refine m_iast (d_M_maySay_3 (k := 24) rfl) (fun M => ?_)
  refine m_inc (v := 1) (ls' := [some (.inr t0), some (.inl i1), some (.inl i2), some (.inl i3), none, some (.inl i5), some (.inl i6), some (.inl i7), some (.inl (i8 + 1))]) (d_M_maySay_3 (k := 25) rfl) rfl (by decide) (by decide) rfl ?_
  refine m_goto (tgt := 193) (d_M_maySay_3 (k := 26) rfl) rfl ?_
  exact m_drop (mles_s (mles_s (mles_s (mles_s (mles_n (mles_s (mles_s (mles_s (mles_s mles_0))))))))) (h193 t0 i1 i2 i3 i5 i6 i7 (i8 + 1) M)
def q_M_maySay_277 (t0 : Option Nat) (i1 : Int32) (i2 : Int32) (i3 : Int32) (i5 : Int32) (M : mM) : Option (Unit × mM) :=
    x_gR M 10 t0 73 fun a1 =>
    x_aI M 0 a1 i3 fun x2 =>
    x_wI M a1 i3 (x2 + (1 : Int32)) fun M =>
    x_cv M 10 t0 (q_M_sayAgain t0 i1 i2 i5 M) fun _ M =>
    x_gR M 10 t0 53 fun a3 =>
    x_gR M 10 t0 53 fun a4 =>
    x_aI M 0 a4 i3 fun x5 =>
    x_wI M a3 i3 ((x5 + (1 : Int32)) &&& (7 : Int32)) fun M =>
    x_gR M 10 t0 56 fun a6 =>
    x_aI M 0 a6 i3 fun x7 =>
    if x7 = 0 then
      x_gR M 10 t0 56 fun a8 =>
      x_gR M 10 t0 16 fun a9 =>
      x_aI M 0 a9 (((9 : Int32) * i1) + (4 : Int32)) fun x10 =>
      x_wI M a8 i3 x10 fun M =>
      q_M_maySay_338 t0 i1 i3 M
    else
      q_M_maySay_338 t0 i1 i3 M
set_option maxRecDepth 20000 in
theorem v_M_maySay_277 {E : mE} (t0 : Option Nat) (i1 : Int32) (i2 : Int32) (i3 : Int32) (i5 : Int32) (M : mM) : mVr E mi_M_maySay 4 277 [some (.inr t0), some (.inl i1), some (.inl i2), some (.inl i3), none, some (.inl i5), none, none, none] [] M enU (q_M_maySay_277 t0 i1 i2 i3 i5 M) := by
  unfold q_M_maySay_277
  refine m_aload_n (d_M_maySay_3 (k := 37) rfl) rfl ?_
  refine m_getR (d_M_maySay_3 (k := 38) rfl) fl_M_182 rfl (fun a1 => ?_)
  refine m_iload_n (d_M_maySay_3 (k := 39) rfl) rfl ?_
  refine m_dup2 (d_M_maySay_4 (k := 0) rfl) ?_
  refine m_iald (d_M_maySay_4 (k := 1) rfl) (fun x2 => ?_)
  refine m_iconst (v := 1) (d_M_maySay_4 (k := 2) rfl) (by decide) ?_
  refine m_iadd (d_M_maySay_4 (k := 3) rfl) ?_
  refine m_iast (d_M_maySay_4 (k := 4) rfl) (fun M => ?_)
  refine m_aload_n (d_M_maySay_4 (k := 5) rfl) rfl ?_
  refine m_iload_n (d_M_maySay_4 (k := 6) rfl) rfl ?_
  refine m_iload_n (d_M_maySay_4 (k := 7) rfl) rfl ?_
  refine m_iload (d_M_maySay_4 (k := 8) rfl) rfl ?_
  refine m_cvU (c := 10) (vs := [.inl i1, .inl i2, .inl i5]) (st := []) (d_M_maySay_4 (k := 9) rfl) (s_M_sayAgain t0 i1 i2 i5 M) cd_M_sayAgain ml_M_417 im_M_sayAgain se_M_sayAgain rfl (by decide) rfl (Nat.le_of_ble_eq_true rfl) (fun _ M => ?_)
  refine m_aload_n (d_M_maySay_4 (k := 10) rfl) rfl ?_
  refine m_getR (d_M_maySay_4 (k := 11) rfl) fl_M_122 rfl (fun a3 => ?_)
  refine m_iload_n (d_M_maySay_4 (k := 12) rfl) rfl ?_
  refine m_aload_n (d_M_maySay_4 (k := 13) rfl) rfl ?_
  refine m_getR (d_M_maySay_4 (k := 14) rfl) fl_M_122 rfl (fun a4 => ?_)
  refine m_iload_n (d_M_maySay_4 (k := 15) rfl) rfl ?_
  refine m_iald (d_M_maySay_4 (k := 16) rfl) (fun x5 => ?_)
  refine m_iconst (v := 1) (d_M_maySay_4 (k := 17) rfl) (by decide) ?_
  refine m_iadd (d_M_maySay_4 (k := 18) rfl) ?_
  refine m_bipush (v := 7) (d_M_maySay_4 (k := 19) rfl) (by decide) ?_
  refine m_iand (d_M_maySay_4 (k := 20) rfl) ?_
  refine m_iast (d_M_maySay_4 (k := 21) rfl) (fun M => ?_)
  refine m_aload_n (d_M_maySay_4 (k := 22) rfl) rfl ?_
  refine m_getR (d_M_maySay_4 (k := 23) rfl) fl_M_131 rfl (fun a6 => ?_)
  refine m_iload_n (d_M_maySay_4 (k := 24) rfl) rfl ?_
  refine m_iald (d_M_maySay_4 (k := 25) rfl) (fun x7 => ?_)
  refine m_if_ne (tgt := 338) (d_M_maySay_4 (k := 26) rfl) rfl ?_ ?_
  · refine m_aload_n (d_M_maySay_4 (k := 27) rfl) rfl ?_
    refine m_getR (d_M_maySay_4 (k := 28) rfl) fl_M_131 rfl (fun a8 => ?_)
    refine m_iload_n (d_M_maySay_4 (k := 29) rfl) rfl ?_
    refine m_aload_n (d_M_maySay_4 (k := 30) rfl) rfl ?_
    refine m_getR (d_M_maySay_4 (k := 31) rfl) fl_M_44 rfl (fun a9 => ?_)
    refine m_bipush (v := 9) (d_M_maySay_4 (k := 32) rfl) (by decide) ?_
    refine m_iload_n (d_M_maySay_4 (k := 33) rfl) rfl ?_
    refine m_imul (d_M_maySay_4 (k := 34) rfl) ?_
    refine m_iconst (v := 4) (d_M_maySay_4 (k := 35) rfl) (by decide) ?_
    refine m_iadd (d_M_maySay_4 (k := 36) rfl) ?_
    refine m_iald (d_M_maySay_4 (k := 37) rfl) (fun x10 => ?_)
    refine m_iast (d_M_maySay_4 (k := 38) rfl) (fun M => ?_)
    exact m_drop (mles_s (mles_s (mles_n (mles_s (mles_n (mles_n (mles_n (mles_n (mles_n mles_0))))))))) (v_M_maySay_338 t0 i1 i3 M)
  · exact m_drop (mles_s (mles_s (mles_n (mles_s (mles_n (mles_n (mles_n (mles_n (mles_n mles_0))))))))) (v_M_maySay_338 t0 i1 i3 M)
def q_M_maySay_193_b (r193 : Option Nat → Int32 → Int32 → Int32 → Int32 → Int32 → Int32 → Int32 → mM → Option (Unit × mM)) (t0 : Option Nat) (i1 : Int32) (i2 : Int32) (i3 : Int32) (i5 : Int32) (i6 : Int32) (i7 : Int32) (i8 : Int32) (M : mM) : Option (Unit × mM) :=
    if i8 < i7 then
      x_gR M 10 t0 70 fun a1 =>
      if i6 = 0 then
        x_gR M 10 t0 63 fun a2 =>
        x_aI M 0 a2 (((200 : Int32) * i3) + i8) fun x3 =>
        q_M_maySay_250 r193 t0 i1 i2 i3 i5 i6 i7 i8 x3 ((((64 : Int32) * i3) + ((16 : Int32) * i5)) + i8) a1 M
      else
        x_gR M 10 t0 67 fun a4 =>
        x_aI M 0 a4 (((96 : Int32) * i3) + i8) fun x5 =>
        q_M_maySay_250 r193 t0 i1 i2 i3 i5 i6 i7 i8 x5 ((((64 : Int32) * i3) + ((16 : Int32) * i5)) + i8) a1 M
    else
      if i6 = 0 then
        x_cv M 10 t0 (q_M_dropOut t0 i3 i7 M) fun _ M =>
        q_M_maySay_277 t0 i1 i2 i3 i5 M
      else
        x_cv M 10 t0 (q_M_dropPacket t0 i3 M) fun _ M =>
        q_M_maySay_277 t0 i1 i2 i3 i5 M
def q_M_maySay_193 : Nat → Option Nat → Int32 → Int32 → Int32 → Int32 → Int32 → Int32 → Int32 → mM → Option (Unit × mM)
  | 0, _, _, _, _, _, _, _, _, _ => none
  | n + 1, t0, i1, i2, i3, i5, i6, i7, i8, M => q_M_maySay_193_b (q_M_maySay_193 n) t0 i1 i2 i3 i5 i6 i7 i8 M
set_option maxRecDepth 20000 in
theorem v_M_maySay_193_b {E : mE} (r193 : Option Nat → Int32 → Int32 → Int32 → Int32 → Int32 → Int32 → Int32 → mM → Option (Unit × mM)) (h193 : ∀ (t0 : Option Nat) (i1 : Int32) (i2 : Int32) (i3 : Int32) (i5 : Int32) (i6 : Int32) (i7 : Int32) (i8 : Int32) (M : mM), mVr E mi_M_maySay 4 193 [some (.inr t0), some (.inl i1), some (.inl i2), some (.inl i3), none, some (.inl i5), some (.inl i6), some (.inl i7), some (.inl i8)] [] M enU (r193 t0 i1 i2 i3 i5 i6 i7 i8 M)) (t0 : Option Nat) (i1 : Int32) (i2 : Int32) (i3 : Int32) (i5 : Int32) (i6 : Int32) (i7 : Int32) (i8 : Int32) (M : mM) : mVr E mi_M_maySay 4 193 [some (.inr t0), some (.inl i1), some (.inl i2), some (.inl i3), none, some (.inl i5), some (.inl i6), some (.inl i7), some (.inl i8)] [] M enU (q_M_maySay_193_b r193 t0 i1 i2 i3 i5 i6 i7 i8 M) := by
  unfold q_M_maySay_193_b
  refine m_iload (d_M_maySay_2 (k := 31) rfl) rfl ?_
  refine m_iload (d_M_maySay_2 (k := 32) rfl) rfl ?_
  refine m_icmp_ge (tgt := 257) (d_M_maySay_2 (k := 33) rfl) rfl ?_ ?_
  · refine m_aload_n (d_M_maySay_2 (k := 34) rfl) rfl ?_
    refine m_getR (d_M_maySay_2 (k := 35) rfl) fl_M_173 rfl (fun a1 => ?_)
    refine m_bipush (v := 64) (d_M_maySay_2 (k := 36) rfl) (by decide) ?_
    refine m_iload_n (d_M_maySay_2 (k := 37) rfl) rfl ?_
    refine m_imul (d_M_maySay_2 (k := 38) rfl) ?_
    refine m_bipush (v := 16) (d_M_maySay_2 (k := 39) rfl) (by decide) ?_
    refine m_iload (d_M_maySay_3 (k := 0) rfl) rfl ?_
    refine m_imul (d_M_maySay_3 (k := 1) rfl) ?_
    refine m_iadd (d_M_maySay_3 (k := 2) rfl) ?_
    refine m_iload (d_M_maySay_3 (k := 3) rfl) rfl ?_
    refine m_iadd (d_M_maySay_3 (k := 4) rfl) ?_
    refine m_iload (d_M_maySay_3 (k := 5) rfl) rfl ?_
    refine m_if_eq (tgt := 237) (d_M_maySay_3 (k := 6) rfl) rfl ?_ ?_
    · refine m_aload_n (d_M_maySay_3 (k := 16) rfl) rfl ?_
      refine m_getR (d_M_maySay_3 (k := 17) rfl) fl_M_152 rfl (fun a2 => ?_)
      refine m_sipush (v := 200) (d_M_maySay_3 (k := 18) rfl) (by decide) ?_
      refine m_iload_n (d_M_maySay_3 (k := 19) rfl) rfl ?_
      refine m_imul (d_M_maySay_3 (k := 20) rfl) ?_
      refine m_iload (d_M_maySay_3 (k := 21) rfl) rfl ?_
      refine m_iadd (d_M_maySay_3 (k := 22) rfl) ?_
      refine m_iald (d_M_maySay_3 (k := 23) rfl) (fun x3 => ?_)
      exact m_drop (mles_s (mles_s (mles_s (mles_s (mles_n (mles_s (mles_s (mles_s (mles_s mles_0))))))))) (v_M_maySay_250 r193 h193 t0 i1 i2 i3 i5 i6 i7 i8 x3 ((((64 : Int32) * i3) + ((16 : Int32) * i5)) + i8) a1 M)
    · refine m_aload_n (d_M_maySay_3 (k := 7) rfl) rfl ?_
      refine m_getR (d_M_maySay_3 (k := 8) rfl) fl_M_164 rfl (fun a4 => ?_)
      refine m_bipush (v := 96) (d_M_maySay_3 (k := 9) rfl) (by decide) ?_
      refine m_iload_n (d_M_maySay_3 (k := 10) rfl) rfl ?_
      refine m_imul (d_M_maySay_3 (k := 11) rfl) ?_
      refine m_iload (d_M_maySay_3 (k := 12) rfl) rfl ?_
      refine m_iadd (d_M_maySay_3 (k := 13) rfl) ?_
      refine m_iald (d_M_maySay_3 (k := 14) rfl) (fun x5 => ?_)
      refine m_goto (tgt := 250) (d_M_maySay_3 (k := 15) rfl) rfl ?_
      exact m_drop (mles_s (mles_s (mles_s (mles_s (mles_n (mles_s (mles_s (mles_s (mles_s mles_0))))))))) (v_M_maySay_250 r193 h193 t0 i1 i2 i3 i5 i6 i7 i8 x5 ((((64 : Int32) * i3) + ((16 : Int32) * i5)) + i8) a1 M)
  · refine m_iload (d_M_maySay_3 (k := 27) rfl) rfl ?_
    refine m_if_eq (tgt := 270) (d_M_maySay_3 (k := 28) rfl) rfl ?_ ?_
    · refine m_aload_n (d_M_maySay_3 (k := 33) rfl) rfl ?_
      refine m_iload_n (d_M_maySay_3 (k := 34) rfl) rfl ?_
      refine m_iload (d_M_maySay_3 (k := 35) rfl) rfl ?_
      refine m_cvU (c := 10) (vs := [.inl i3, .inl i7]) (st := []) (d_M_maySay_3 (k := 36) rfl) (s_M_dropOut t0 i3 i7 M) cd_M_dropOut ml_M_446 im_M_dropOut se_M_dropOut rfl (by decide) rfl (Nat.le_of_ble_eq_true rfl) (fun _ M => ?_)
      exact m_drop (mles_s (mles_s (mles_s (mles_s (mles_n (mles_s (mles_n (mles_n (mles_n mles_0))))))))) (v_M_maySay_277 t0 i1 i2 i3 i5 M)
    · refine m_aload_n (d_M_maySay_3 (k := 29) rfl) rfl ?_
      refine m_iload_n (d_M_maySay_3 (k := 30) rfl) rfl ?_
      refine m_cvU (c := 10) (vs := [.inl i3]) (st := []) (d_M_maySay_3 (k := 31) rfl) (s_M_dropPacket t0 i3 M) cd_M_dropPacket ml_M_443 im_M_dropPacket se_M_dropPacket rfl (by decide) rfl (Nat.le_of_ble_eq_true rfl) (fun _ M => ?_)
      refine m_goto (tgt := 277) (d_M_maySay_3 (k := 32) rfl) rfl ?_
      exact m_drop (mles_s (mles_s (mles_s (mles_s (mles_n (mles_s (mles_n (mles_n (mles_n mles_0))))))))) (v_M_maySay_277 t0 i1 i2 i3 i5 M)
theorem v_M_maySay_193 {E : mE} : ∀ (n : Nat) (t0 : Option Nat) (i1 : Int32) (i2 : Int32) (i3 : Int32) (i5 : Int32) (i6 : Int32) (i7 : Int32) (i8 : Int32) (M : mM), mVr E mi_M_maySay 4 193 [some (.inr t0), some (.inl i1), some (.inl i2), some (.inl i3), none, some (.inl i5), some (.inl i6), some (.inl i7), some (.inl i8)] [] M enU (q_M_maySay_193 n t0 i1 i2 i3 i5 i6 i7 i8 M)
  | 0, _, _, _, _, _, _, _, _, _ => m_none
  | n + 1, t0, i1, i2, i3, i5, i6, i7, i8, M => v_M_maySay_193_b _ (v_M_maySay_193 n) t0 i1 i2 i3 i5 i6 i7 i8 M
def q_M_maySay_176 (t0 : Option Nat) (i1 : Int32) (i2 : Int32) (i3 : Int32) (i5 : Int32) (i6 : Int32) (i7 : Int32) (j0 : Int32) (j1 : Int32) (u2 : Option Nat) (M : mM) : Option (Unit × mM) :=
    x_wI M u2 j1 j0 fun M =>
    x_gR M 10 t0 71 fun a1 =>
    x_wI M a1 (((4 : Int32) * i3) + i5) i7 fun M =>
    q_M_maySay_193 mFU t0 i1 i2 i3 i5 i6 i7 (0 : Int32) M
set_option maxRecDepth 20000 in
theorem v_M_maySay_176 {E : mE} (t0 : Option Nat) (i1 : Int32) (i2 : Int32) (i3 : Int32) (i5 : Int32) (i6 : Int32) (i7 : Int32) (j0 : Int32) (j1 : Int32) (u2 : Option Nat) (M : mM) : mVr E mi_M_maySay 4 176 [some (.inr t0), some (.inl i1), some (.inl i2), some (.inl i3), none, some (.inl i5), some (.inl i6), some (.inl i7), none] [.inl j0, .inl j1, .inr u2] M enU (q_M_maySay_176 t0 i1 i2 i3 i5 i6 i7 j0 j1 u2 M) := by
  unfold q_M_maySay_176
  refine m_iast (d_M_maySay_2 (k := 19) rfl) (fun M => ?_)
  refine m_aload_n (d_M_maySay_2 (k := 20) rfl) rfl ?_
  refine m_getR (d_M_maySay_2 (k := 21) rfl) fl_M_176 rfl (fun a1 => ?_)
  refine m_iconst (v := 4) (d_M_maySay_2 (k := 22) rfl) (by decide) ?_
  refine m_iload_n (d_M_maySay_2 (k := 23) rfl) rfl ?_
  refine m_imul (d_M_maySay_2 (k := 24) rfl) ?_
  refine m_iload (d_M_maySay_2 (k := 25) rfl) rfl ?_
  refine m_iadd (d_M_maySay_2 (k := 26) rfl) ?_
  refine m_iload (d_M_maySay_2 (k := 27) rfl) rfl ?_
  refine m_iast (d_M_maySay_2 (k := 28) rfl) (fun M => ?_)
  refine m_iconst (v := 0) (d_M_maySay_2 (k := 29) rfl) (by decide) ?_
  refine m_ist (ls' := [some (.inr t0), some (.inl i1), some (.inl i2), some (.inl i3), none, some (.inl i5), some (.inl i6), some (.inl i7), some (.inl (0 : Int32))]) (d_M_maySay_2 (k := 30) rfl) (by decide) rfl ?_
  exact m_drop (mles_s (mles_s (mles_s (mles_s (mles_n (mles_s (mles_s (mles_s (mles_s mles_0))))))))) (v_M_maySay_193 mFU t0 i1 i2 i3 i5 i6 i7 (0 : Int32) M)
def q_M_maySay_150 (t0 : Option Nat) (i1 : Int32) (i2 : Int32) (i3 : Int32) (i5 : Int32) (i6 : Int32) (j0 : Int32) (M : mM) : Option (Unit × mM) :=
    x_gR M 10 t0 72 fun a1 =>
    if i6 = 0 then
      q_M_maySay_176 t0 i1 i2 i3 i5 i6 j0 (240 : Int32) (((4 : Int32) * i3) + i5) a1 M
    else
      q_M_maySay_176 t0 i1 i2 i3 i5 i6 j0 (207 : Int32) (((4 : Int32) * i3) + i5) a1 M
set_option maxRecDepth 20000 in
theorem v_M_maySay_150 {E : mE} (t0 : Option Nat) (i1 : Int32) (i2 : Int32) (i3 : Int32) (i5 : Int32) (i6 : Int32) (j0 : Int32) (M : mM) : mVr E mi_M_maySay 4 150 [some (.inr t0), some (.inl i1), some (.inl i2), some (.inl i3), none, some (.inl i5), some (.inl i6), none, none] [.inl j0] M enU (q_M_maySay_150 t0 i1 i2 i3 i5 i6 j0 M) := by
  unfold q_M_maySay_150
  refine m_ist (ls' := [some (.inr t0), some (.inl i1), some (.inl i2), some (.inl i3), none, some (.inl i5), some (.inl i6), some (.inl j0), none]) (d_M_maySay_2 (k := 6) rfl) (by decide) rfl ?_
  refine m_aload_n (d_M_maySay_2 (k := 7) rfl) rfl ?_
  refine m_getR (d_M_maySay_2 (k := 8) rfl) fl_M_179 rfl (fun a1 => ?_)
  refine m_iconst (v := 4) (d_M_maySay_2 (k := 9) rfl) (by decide) ?_
  refine m_iload_n (d_M_maySay_2 (k := 10) rfl) rfl ?_
  refine m_imul (d_M_maySay_2 (k := 11) rfl) ?_
  refine m_iload (d_M_maySay_2 (k := 12) rfl) rfl ?_
  refine m_iadd (d_M_maySay_2 (k := 13) rfl) ?_
  refine m_iload (d_M_maySay_2 (k := 14) rfl) rfl ?_
  refine m_if_eq (tgt := 173) (d_M_maySay_2 (k := 15) rfl) rfl ?_ ?_
  · refine m_sipush (v := 240) (d_M_maySay_2 (k := 18) rfl) (by decide) ?_
    exact m_drop (mles_s (mles_s (mles_s (mles_s (mles_n (mles_s (mles_s (mles_s (mles_n mles_0))))))))) (v_M_maySay_176 t0 i1 i2 i3 i5 i6 j0 (240 : Int32) (((4 : Int32) * i3) + i5) a1 M)
  · refine m_sipush (v := 207) (d_M_maySay_2 (k := 16) rfl) (by decide) ?_
    refine m_goto (tgt := 176) (d_M_maySay_2 (k := 17) rfl) rfl ?_
    exact m_drop (mles_s (mles_s (mles_s (mles_s (mles_n (mles_s (mles_s (mles_s (mles_n mles_0))))))))) (v_M_maySay_176 t0 i1 i2 i3 i5 i6 j0 (207 : Int32) (((4 : Int32) * i3) + i5) a1 M)
def q_M_maySay_109 (t0 : Option Nat) (i1 : Int32) (i2 : Int32) (i3 : Int32) (i5 : Int32) (j0 : Int32) (M : mM) : Option (Unit × mM) :=
    if j0 = 0 then
      x_gR M 10 t0 64 fun a1 =>
      x_aI M 0 a1 i3 fun x2 =>
      if x2 < (16 : Int32) then
        x_gR M 10 t0 64 fun a3 =>
        x_aI M 0 a3 i3 fun x4 =>
        q_M_maySay_150 t0 i1 i2 i3 i5 j0 x4 M
      else
        q_M_maySay_150 t0 i1 i2 i3 i5 j0 (16 : Int32) M
    else
      x_gR M 10 t0 68 fun a5 =>
      x_aI M 0 a5 ((6 : Int32) * i3) fun x6 =>
      q_M_maySay_150 t0 i1 i2 i3 i5 j0 x6 M
set_option maxRecDepth 20000 in
theorem v_M_maySay_109 {E : mE} (t0 : Option Nat) (i1 : Int32) (i2 : Int32) (i3 : Int32) (i5 : Int32) (j0 : Int32) (M : mM) : mVr E mi_M_maySay 4 109 [some (.inr t0), some (.inl i1), some (.inl i2), some (.inl i3), none, some (.inl i5), none, none, none] [.inl j0] M enU (q_M_maySay_109 t0 i1 i2 i3 i5 j0 M) := by
  unfold q_M_maySay_109
  refine m_ist (ls' := [some (.inr t0), some (.inl i1), some (.inl i2), some (.inl i3), none, some (.inl i5), some (.inl j0), none, none]) (d_M_maySay_1 (k := 24) rfl) (by decide) rfl ?_
  refine m_iload (d_M_maySay_1 (k := 25) rfl) rfl ?_
  refine m_if_eq (tgt := 128) (d_M_maySay_1 (k := 26) rfl) rfl ?_ ?_
  · refine m_aload_n (d_M_maySay_1 (k := 34) rfl) rfl ?_
    refine m_getR (d_M_maySay_1 (k := 35) rfl) fl_M_155 rfl (fun a1 => ?_)
    refine m_iload_n (d_M_maySay_1 (k := 36) rfl) rfl ?_
    refine m_iald (d_M_maySay_1 (k := 37) rfl) (fun x2 => ?_)
    refine m_bipush (v := 16) (d_M_maySay_1 (k := 38) rfl) (by decide) ?_
    refine m_icmp_ge (tgt := 148) (d_M_maySay_1 (k := 39) rfl) rfl ?_ ?_
    · refine m_aload_n (d_M_maySay_2 (k := 0) rfl) rfl ?_
      refine m_getR (d_M_maySay_2 (k := 1) rfl) fl_M_155 rfl (fun a3 => ?_)
      refine m_iload_n (d_M_maySay_2 (k := 2) rfl) rfl ?_
      refine m_iald (d_M_maySay_2 (k := 3) rfl) (fun x4 => ?_)
      refine m_goto (tgt := 150) (d_M_maySay_2 (k := 4) rfl) rfl ?_
      exact m_drop (mles_s (mles_s (mles_s (mles_s (mles_n (mles_s (mles_s (mles_n (mles_n mles_0))))))))) (v_M_maySay_150 t0 i1 i2 i3 i5 j0 x4 M)
    · refine m_bipush (v := 16) (d_M_maySay_2 (k := 5) rfl) (by decide) ?_
      exact m_drop (mles_s (mles_s (mles_s (mles_s (mles_n (mles_s (mles_s (mles_n (mles_n mles_0))))))))) (v_M_maySay_150 t0 i1 i2 i3 i5 j0 (16 : Int32) M)
  · refine m_aload_n (d_M_maySay_1 (k := 27) rfl) rfl ?_
    refine m_getR (d_M_maySay_1 (k := 28) rfl) fl_M_167 rfl (fun a5 => ?_)
    refine m_bipush (v := 6) (d_M_maySay_1 (k := 29) rfl) (by decide) ?_
    refine m_iload_n (d_M_maySay_1 (k := 30) rfl) rfl ?_
    refine m_imul (d_M_maySay_1 (k := 31) rfl) ?_
    refine m_iald (d_M_maySay_1 (k := 32) rfl) (fun x6 => ?_)
    refine m_goto (tgt := 150) (d_M_maySay_1 (k := 33) rfl) rfl ?_
    exact m_drop (mles_s (mles_s (mles_s (mles_s (mles_n (mles_s (mles_s (mles_n (mles_n mles_0))))))))) (v_M_maySay_150 t0 i1 i2 i3 i5 j0 x6 M)
def q_M_maySay_41 (t0 : Option Nat) (i1 : Int32) (i2 : Int32) (i3 : Int32) (j0 : Int32) (M : mM) : Option (Unit × mM) :=
    x_gR M 10 t0 58 fun a1 =>
    x_aI M 1 a1 i3 fun x2 =>
    if x2 = 0 then
      x_gR M 10 t0 60 fun a3 =>
      x_aI M 1 a3 i3 fun x4 =>
      if x4 = 0 then
        x_gR M 10 t0 73 fun a5 =>
        x_aI M 0 a5 i3 fun x6 =>
        if x6 < (4 : Int32) then
          x_gR M 10 t0 18 fun a7 =>
          x_aI M 0 a7 i1 fun x8 =>
          if x8 < (8 : Int32) then
            if j0 = 0 then
              q_M_maySay_338 t0 i1 i3 M
            else
              x_gR M 10 t0 73 fun a9 =>
              x_aI M 0 a9 i3 fun x10 =>
              x_gR M 10 t0 69 fun a11 =>
              x_aI M 0 a11 i3 fun x12 =>
              if 0 < x12 then
                q_M_maySay_109 t0 i1 i2 i3 x10 (1 : Int32) M
              else
                q_M_maySay_109 t0 i1 i2 i3 x10 (0 : Int32) M
          else
            q_M_maySay_338 t0 i1 i3 M
        else
          q_M_maySay_338 t0 i1 i3 M
      else
        q_M_maySay_338 t0 i1 i3 M
    else
      q_M_maySay_338 t0 i1 i3 M
set_option maxRecDepth 20000 in
theorem v_M_maySay_41 {E : mE} (t0 : Option Nat) (i1 : Int32) (i2 : Int32) (i3 : Int32) (j0 : Int32) (M : mM) : mVr E mi_M_maySay 4 41 [some (.inr t0), some (.inl i1), some (.inl i2), some (.inl i3), none, none, none, none, none] [.inl j0] M enU (q_M_maySay_41 t0 i1 i2 i3 j0 M) := by
  unfold q_M_maySay_41
  refine m_ist (ls' := [some (.inr t0), some (.inl i1), some (.inl i2), some (.inl i3), some (.inl j0), none, none, none, none]) (d_M_maySay_0 (k := 26) rfl) (by decide) rfl ?_
  refine m_aload_n (d_M_maySay_0 (k := 27) rfl) rfl ?_
  refine m_getR (d_M_maySay_0 (k := 28) rfl) fl_M_137 rfl (fun a1 => ?_)
  refine m_iload_n (d_M_maySay_0 (k := 29) rfl) rfl ?_
  refine m_zald (d_M_maySay_0 (k := 30) rfl) (fun x2 => ?_)
  refine m_if_ne (tgt := 338) (d_M_maySay_0 (k := 31) rfl) rfl ?_ ?_
  · refine m_aload_n (d_M_maySay_0 (k := 32) rfl) rfl ?_
    refine m_getR (d_M_maySay_0 (k := 33) rfl) fl_M_143 rfl (fun a3 => ?_)
    refine m_iload_n (d_M_maySay_0 (k := 34) rfl) rfl ?_
    refine m_zald (d_M_maySay_0 (k := 35) rfl) (fun x4 => ?_)
    refine m_if_ne (tgt := 338) (d_M_maySay_0 (k := 36) rfl) rfl ?_ ?_
    · refine m_aload_n (d_M_maySay_0 (k := 37) rfl) rfl ?_
      refine m_getR (d_M_maySay_0 (k := 38) rfl) fl_M_182 rfl (fun a5 => ?_)
      refine m_iload_n (d_M_maySay_0 (k := 39) rfl) rfl ?_
      refine m_iald (d_M_maySay_1 (k := 0) rfl) (fun x6 => ?_)
      refine m_iconst (v := 4) (d_M_maySay_1 (k := 1) rfl) (by decide) ?_
      refine m_icmp_ge (tgt := 338) (d_M_maySay_1 (k := 2) rfl) rfl ?_ ?_
      · refine m_aload_n (d_M_maySay_1 (k := 3) rfl) rfl ?_
        refine m_getR (d_M_maySay_1 (k := 4) rfl) fl_M_50 rfl (fun a7 => ?_)
        refine m_iload_n (d_M_maySay_1 (k := 5) rfl) rfl ?_
        refine m_iald (d_M_maySay_1 (k := 6) rfl) (fun x8 => ?_)
        refine m_bipush (v := 8) (d_M_maySay_1 (k := 7) rfl) (by decide) ?_
        refine m_icmp_ge (tgt := 338) (d_M_maySay_1 (k := 8) rfl) rfl ?_ ?_
        · refine m_iload (d_M_maySay_1 (k := 9) rfl) rfl ?_
          refine m_if_eq (tgt := 338) (d_M_maySay_1 (k := 10) rfl) rfl ?_ ?_
          · exact m_drop (mles_s (mles_s (mles_n (mles_s (mles_n (mles_n (mles_n (mles_n (mles_n mles_0))))))))) (v_M_maySay_338 t0 i1 i3 M)
          · refine m_aload_n (d_M_maySay_1 (k := 11) rfl) rfl ?_
            refine m_getR (d_M_maySay_1 (k := 12) rfl) fl_M_182 rfl (fun a9 => ?_)
            refine m_iload_n (d_M_maySay_1 (k := 13) rfl) rfl ?_
            refine m_iald (d_M_maySay_1 (k := 14) rfl) (fun x10 => ?_)
            refine m_ist (ls' := [some (.inr t0), some (.inl i1), some (.inl i2), some (.inl i3), some (.inl j0), some (.inl x10), none, none, none]) (d_M_maySay_1 (k := 15) rfl) (by decide) rfl ?_
            refine m_aload_n (d_M_maySay_1 (k := 16) rfl) rfl ?_
            refine m_getR (d_M_maySay_1 (k := 17) rfl) fl_M_170 rfl (fun a11 => ?_)
            refine m_iload_n (d_M_maySay_1 (k := 18) rfl) rfl ?_
            refine m_iald (d_M_maySay_1 (k := 19) rfl) (fun x12 => ?_)
            refine m_if_le (tgt := 108) (d_M_maySay_1 (k := 20) rfl) rfl ?_ ?_
            · refine m_iconst (v := 1) (d_M_maySay_1 (k := 21) rfl) (by decide) ?_
              refine m_goto (tgt := 109) (d_M_maySay_1 (k := 22) rfl) rfl ?_
              exact m_drop (mles_s (mles_s (mles_s (mles_s (mles_n (mles_s (mles_n (mles_n (mles_n mles_0))))))))) (v_M_maySay_109 t0 i1 i2 i3 x10 (1 : Int32) M)
            · refine m_iconst (v := 0) (d_M_maySay_1 (k := 23) rfl) (by decide) ?_
              exact m_drop (mles_s (mles_s (mles_s (mles_s (mles_n (mles_s (mles_n (mles_n (mles_n mles_0))))))))) (v_M_maySay_109 t0 i1 i2 i3 x10 (0 : Int32) M)
        · exact m_drop (mles_s (mles_s (mles_n (mles_s (mles_n (mles_n (mles_n (mles_n (mles_n mles_0))))))))) (v_M_maySay_338 t0 i1 i3 M)
      · exact m_drop (mles_s (mles_s (mles_n (mles_s (mles_n (mles_n (mles_n (mles_n (mles_n mles_0))))))))) (v_M_maySay_338 t0 i1 i3 M)
    · exact m_drop (mles_s (mles_s (mles_n (mles_s (mles_n (mles_n (mles_n (mles_n (mles_n mles_0))))))))) (v_M_maySay_338 t0 i1 i3 M)
  · exact m_drop (mles_s (mles_s (mles_n (mles_s (mles_n (mles_n (mles_n (mles_n (mles_n mles_0))))))))) (v_M_maySay_338 t0 i1 i3 M)
def q_M_maySay_36 (t0 : Option Nat) (i1 : Int32) (i2 : Int32) (i3 : Int32) (M : mM) : Option (Unit × mM) :=
    q_M_maySay_41 t0 i1 i2 i3 (1 : Int32) M
set_option maxRecDepth 20000 in
theorem v_M_maySay_36 {E : mE} (t0 : Option Nat) (i1 : Int32) (i2 : Int32) (i3 : Int32) (M : mM) : mVr E mi_M_maySay 4 36 [some (.inr t0), some (.inl i1), some (.inl i2), some (.inl i3), none, none, none, none, none] [] M enU (q_M_maySay_36 t0 i1 i2 i3 M) := by
  unfold q_M_maySay_36
  refine m_iconst (v := 1) (d_M_maySay_0 (k := 23) rfl) (by decide) ?_
  refine m_goto (tgt := 41) (d_M_maySay_0 (k := 24) rfl) rfl ?_
  exact m_drop (mles_s (mles_s (mles_s (mles_s (mles_n (mles_n (mles_n (mles_n (mles_n mles_0))))))))) (v_M_maySay_41 t0 i1 i2 i3 (1 : Int32) M)
def q_M_maySay (t0 : Option Nat) (i1 : Int32) (i2 : Int32) (M : mM) : Option (Unit × mM) :=
    x_lt (((6 : Int32) * i1) + i2) fun x1 =>
    x_gR M 10 t0 49 fun a2 =>
    x_aI M 0 a2 x1 fun x3 =>
    if x3 = (2 : Int32) then
      x_gR M 10 t0 69 fun a4 =>
      x_aI M 0 a4 x1 fun x5 =>
      if 0 < x5 then
        q_M_maySay_36 t0 i1 i2 x1 M
      else
        x_gR M 10 t0 64 fun a6 =>
        x_aI M 0 a6 x1 fun x7 =>
        if 0 < x7 then
          q_M_maySay_36 t0 i1 i2 x1 M
        else
          q_M_maySay_41 t0 i1 i2 x1 (0 : Int32) M
    else
      some ((), M)
set_option maxRecDepth 20000 in
theorem v_M_maySay {E : mE} (t0 : Option Nat) (i1 : Int32) (i2 : Int32) (M : mM) : mVr E mi_M_maySay 4 0 [some (.inr t0), some (.inl i1), some (.inl i2), none, none, none, none, none, none] [] M enU (q_M_maySay t0 i1 i2 M) := by
  unfold q_M_maySay
  refine m_bipush (v := 6) (d_M_maySay_0 (k := 0) rfl) (by decide) ?_
  refine m_iload_n (d_M_maySay_0 (k := 1) rfl) rfl ?_
  refine m_imul (d_M_maySay_0 (k := 2) rfl) ?_
  refine m_iload_n (d_M_maySay_0 (k := 3) rfl) rfl ?_
  refine m_iadd (d_M_maySay_0 (k := 4) rfl) ?_
  refine m_lt (fun x1 => ?_)
  refine m_ist_n (ls' := [some (.inr t0), some (.inl i1), some (.inl i2), some (.inl x1), none, none, none, none, none]) (d_M_maySay_0 (k := 5) rfl) (by decide) rfl ?_
  refine m_aload_n (d_M_maySay_0 (k := 6) rfl) rfl ?_
  refine m_getR (d_M_maySay_0 (k := 7) rfl) fl_M_110 rfl (fun a2 => ?_)
  refine m_iload_n (d_M_maySay_0 (k := 8) rfl) rfl ?_
  refine m_iald (d_M_maySay_0 (k := 9) rfl) (fun x3 => ?_)
  refine m_iconst (v := 2) (d_M_maySay_0 (k := 10) rfl) (by decide) ?_
  refine m_icmp_eq (tgt := 18) (d_M_maySay_0 (k := 11) rfl) rfl ?_ ?_
  · refine m_aload_n (d_M_maySay_0 (k := 13) rfl) rfl ?_
    refine m_getR (d_M_maySay_0 (k := 14) rfl) fl_M_170 rfl (fun a4 => ?_)
    refine m_iload_n (d_M_maySay_0 (k := 15) rfl) rfl ?_
    refine m_iald (d_M_maySay_0 (k := 16) rfl) (fun x5 => ?_)
    refine m_if_gt (tgt := 36) (d_M_maySay_0 (k := 17) rfl) rfl ?_ ?_
    · exact m_drop (mles_s (mles_s (mles_s (mles_s (mles_n (mles_n (mles_n (mles_n (mles_n mles_0))))))))) (v_M_maySay_36 t0 i1 i2 x1 M)
    · refine m_aload_n (d_M_maySay_0 (k := 18) rfl) rfl ?_
      refine m_getR (d_M_maySay_0 (k := 19) rfl) fl_M_155 rfl (fun a6 => ?_)
      refine m_iload_n (d_M_maySay_0 (k := 20) rfl) rfl ?_
      refine m_iald (d_M_maySay_0 (k := 21) rfl) (fun x7 => ?_)
      refine m_if_le (tgt := 40) (d_M_maySay_0 (k := 22) rfl) rfl ?_ ?_
      · exact m_drop (mles_s (mles_s (mles_s (mles_s (mles_n (mles_n (mles_n (mles_n (mles_n mles_0))))))))) (v_M_maySay_36 t0 i1 i2 x1 M)
      · refine m_iconst (v := 0) (d_M_maySay_0 (k := 25) rfl) (by decide) ?_
        exact m_drop (mles_s (mles_s (mles_s (mles_s (mles_n (mles_n (mles_n (mles_n (mles_n mles_0))))))))) (v_M_maySay_41 t0 i1 i2 x1 (0 : Int32) M)
  · exact m_vret (d_M_maySay_0 (k := 12) rfl) rfl
theorem s_M_maySay {E : mE} (t0 : Option Nat) (i1 : Int32) (i2 : Int32) (M : mM) : mSnd E mi_M_maySay 4 [.inr t0, .inl i1, .inl i2] M enU (q_M_maySay t0 i1 i2 M) := m_entryU (by decide) (Nat.le_of_ble_eq_true rfl) rfl (m_drop (mles_s (mles_s (mles_s (mles_e (mles_e (mles_e (mles_e (mles_e (mles_e mles_0))))))))) (v_M_maySay t0 i1 i2 M))
