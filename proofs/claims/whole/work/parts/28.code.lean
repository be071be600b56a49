def dt_M_takesFrame_0 : List (Nat × Instr × Nat) := [(0, .sipush 1080, 3), (3, .iload_n 1, 1), (4, .imul, 1), (5, .istore_n 2, 1), (6, .aload_n 0, 1), (7, .getfield 53, 3), (10, .bipush 12, 2), (12, .iload_n 1, 1), (13, .imul, 1), (14, .iaload, 1), (15, .istore_n 3, 1), (16, .aload_n 0, 1), (17, .getfield 83, 3), (20, .iload_n 1, 1), (21, .iload_n 3, 1), (22, .iastore, 1), (23, .iconst 0, 1), (24, .istore 4, 2), (26, .iload 4, 2), (28, .iload_n 3, 1), (29, .if_icmp .ge 30, 3), (32, .aload_n 0, 1), (33, .getfield 86, 3), (36, .bipush 90, 2), (38, .iload_n 1, 1), (39, .imul, 1), (40, .iload 4, 2), (42, .iadd, 1), (43, .aload_n 0, 1), (44, .getfield 56, 3), (47, .iload_n 2, 1), (48, .iload 4, 2), (50, .iadd, 1), (51, .iaload, 1), (52, .iastore, 1), (53, .iinc 4 1, 3), (56, .goto (-30), 3), (59, .iconst 1, 1), (60, .istore 4, 2), (62, .iload 4, 2)]
theorem dx_M_takesFrame_0 : ∀ p ∈ dt_M_takesFrame_0, decode prog_12_method_31_code p.1 = .ok p.2 := by decide +kernel
theorem d_M_takesFrame_0 {k pc : Nat} {i : Instr} {n : Nat} (h : dt_M_takesFrame_0[k]? = some (pc, i, n)) : decode mi_M_takesFrame.2.1 pc = .ok (i, n) := dx_M_takesFrame_0 (pc, i, n) (List.mem_of_getElem? h)
def dt_M_takesFrame_1 : List (Nat × Instr × Nat) := [(64, .aload_n 0, 1), (65, .getfield 50, 3), (68, .iload_n 1, 1), (69, .iaload, 1), (70, .if_icmp .ge 83, 3), (73, .aload_n 0, 1), (74, .getfield 53, 3), (77, .bipush 12, 2), (79, .iload_n 1, 1), (80, .imul, 1), (81, .iload 4, 2), (83, .iadd, 1), (84, .iconst 1, 1), (85, .isub, 1), (86, .aload_n 0, 1), (87, .getfield 53, 3), (90, .bipush 12, 2), (92, .iload_n 1, 1), (93, .imul, 1), (94, .iload 4, 2), (96, .iadd, 1), (97, .iaload, 1), (98, .iastore, 1), (99, .iconst 0, 1), (100, .istore 5, 2), (102, .iload 5, 2), (104, .bipush 90, 2), (106, .if_icmp .ge 41, 3), (109, .aload_n 0, 1), (110, .getfield 56, 3), (113, .iload_n 2, 1), (114, .bipush 90, 2), (116, .iload 4, 2), (118, .iconst 1, 1), (119, .isub, 1), (120, .imul, 1), (121, .iadd, 1), (122, .iload 5, 2), (124, .iadd, 1), (125, .aload_n 0, 1)]
theorem dx_M_takesFrame_1 : ∀ p ∈ dt_M_takesFrame_1, decode prog_12_method_31_code p.1 = .ok p.2 := by decide +kernel
theorem d_M_takesFrame_1 {k pc : Nat} {i : Instr} {n : Nat} (h : dt_M_takesFrame_1[k]? = some (pc, i, n)) : decode mi_M_takesFrame.2.1 pc = .ok (i, n) := dx_M_takesFrame_1 (pc, i, n) (List.mem_of_getElem? h)
def dt_M_takesFrame_2 : List (Nat × Instr × Nat) := [(126, .getfield 56, 3), (129, .iload_n 2, 1), (130, .bipush 90, 2), (132, .iload 4, 2), (134, .imul, 1), (135, .iadd, 1), (136, .iload 5, 2), (138, .iadd, 1), (139, .iaload, 1), (140, .iastore, 1), (141, .iinc 5 1, 3), (144, .goto (-42), 3), (147, .iinc 4 1, 3), (150, .goto (-88), 3), (153, .aload_n 0, 1), (154, .getfield 50, 3), (157, .iload_n 1, 1), (158, .dup2, 1), (159, .iaload, 1), (160, .iconst 1, 1), (161, .isub, 1), (162, .iastore, 1), (163, .aload_n 0, 1), (164, .iload_n 1, 1), (165, .iconst 0, 1), (166, .invokevirtual 267, 3), (169, .aload_n 0, 1), (170, .getfield 80, 3), (173, .iload_n 1, 1), (174, .dup2, 1), (175, .iaload, 1), (176, .iconst 1, 1), (177, .iadd, 1), (178, .iastore, 1), (179, .aload_n 0, 1), (180, .iconst 0, 1), (181, .putfield 224, 3), (184, .aload_n 0, 1), (185, .aload_n 0, 1), (186, .getfield 86, 3)]
theorem dx_M_takesFrame_2 : ∀ p ∈ dt_M_takesFrame_2, decode prog_12_method_31_code p.1 = .ok p.2 := by decide +kernel
theorem d_M_takesFrame_2 {k pc : Nat} {i : Instr} {n : Nat} (h : dt_M_takesFrame_2[k]? = some (pc, i, n)) : decode mi_M_takesFrame.2.1 pc = .ok (i, n) := dx_M_takesFrame_2 (pc, i, n) (List.mem_of_getElem? h)
def dt_M_takesFrame_3 : List (Nat × Instr × Nat) := [(189, .bipush 90, 2), (191, .iload_n 1, 1), (192, .imul, 1), (193, .iload_n 3, 1), (194, .invokevirtual 243, 3), (197, .aload_n 0, 1), (198, .invokevirtual 240, 3), (201, .aload_n 0, 1), (202, .iload_n 1, 1), (203, .invokevirtual 277, 3), (206, .return_, 1)]
theorem dx_M_takesFrame_3 : ∀ p ∈ dt_M_takesFrame_3, decode prog_12_method_31_code p.1 = .ok p.2 := by decide +kernel
theorem d_M_takesFrame_3 {k pc : Nat} {i : Instr} {n : Nat} (h : dt_M_takesFrame_3[k]? = some (pc, i, n)) : decode mi_M_takesFrame.2.1 pc = .ok (i, n) := dx_M_takesFrame_3 (pc, i, n) (List.mem_of_getElem? h)
def q_M_takesFrame_102_b (r62 : Option Nat → Int32 → Int32 → Int32 → Int32 → mM → Option (Unit × mM)) (r102 : Option Nat → Int32 → Int32 → Int32 → Int32 → Int32 → mM → Option (Unit × mM)) (t0 : Option Nat) (i1 : Int32) (i2 : Int32) (i3 : Int32) (i4 : Int32) (i5 : Int32) (M : mM) : Option (Unit × mM) :=
    if i5 < (90 : Int32) then
      x_gR M 10 t0 20 fun a1 =>
      x_gR M 10 t0 20 fun a2 =>
      x_aI M 0 a2 ((i2 + ((90 : Int32) * i4)) + i5) fun x3 =>
      x_wI M a1 ((i2 + ((90 : Int32) * (i4 - (1 : Int32)))) + i5) x3 fun M =>
      r102 t0 i1 i2 i3 i4 (i5 + 1) M
    else
      r62 t0 i1 i2 i3 (i4 + 1) M
def q_M_takesFrame_102 (r62 : Option Nat → Int32 → Int32 → Int32 → Int32 → mM → Option (Unit × mM)) : Nat → Option Nat → Int32 → Int32 → Int32 → Int32 → Int32 → mM → Option (Unit × mM)
  | 0, _, _, _, _, _, _, _ => none
  | n + 1, t0, i1, i2, i3, i4, i5, M => q_M_takesFrame_102_b r62 (q_M_takesFrame_102 r62 n) t0 i1 i2 i3 i4 i5 M
set_option maxRecDepth 20000 in
theorem v_M_takesFrame_102_b {E : mE} (r62 : Option Nat → Int32 → Int32 → Int32 → Int32 → mM → Option (Unit × mM)) (h62 : ∀ (t0 : Option Nat) (i1 : Int32) (i2 : Int32) (i3 : Int32) (i4 : Int32) (M : mM), mVr E mi_M_takesFrame 3 62 [some (.inr t0), some (.inl i1), some (.inl i2), some (.inl i3), some (.inl i4), none] [] M enU (r62 t0 i1 i2 i3 i4 M)) (r102 : Option Nat → Int32 → Int32 → Int32 → Int32 → Int32 → mM → Option (Unit × mM)) (h102 : ∀ (t0 : Option Nat) (i1 : Int32) (i2 : Int32) (i3 : Int32) (i4 : Int32) (i5 : Int32) (M : mM), mVr E mi_M_takesFrame 3 102 [some (.inr t0), some (.inl i1), some (.inl i2), some (.inl i3), some (.inl i4), some (.inl i5)] [] M enU (r102 t0 i1 i2 i3 i4 i5 M)) (t0 : Option Nat) (i1 : Int32) (i2 : Int32) (i3 : Int32) (i4 : Int32) (i5 : Int32) (M : mM) : mVr E mi_M_takesFrame 3 102 [some (.inr t0), some (.inl i1), some (.inl i2), some (.inl i3), some (.inl i4), some (.inl i5)] [] M enU (q_M_takesFrame_102_b r62 r102 t0 i1 i2 i3 i4 i5 M) := by
  unfold q_M_takesFrame_102_b
  refine m_iload (d_M_takesFrame_1 (k := 25) rfl) rfl ?_
  refine m_bipush (v := 90) (d_M_takesFrame_1 (k := 26) rfl) (by decide) ?_
  refine m_icmp_ge (tgt := 147) (d_M_takesFrame_1 (k := 27) rfl) rfl ?_ ?_
  · refine m_aload_n (d_M_takesFrame_1 (k := 28) rfl) rfl ?_
    refine m_getR (d_M_takesFrame_1 (k := 29) rfl) fl_M_56 rfl (fun a1 => ?_)
    refine m_iload_n (d_M_takesFrame_1 (k := 30) rfl) rfl ?_
    refine m_bipush (v := 90) (d_M_takesFrame_1 (k := 31) rfl) (by decide) ?_
    refine m_iload (d_M_takesFrame_1 (k := 32) rfl) rfl ?_
    refine m_iconst (v := 1) (d_M_takesFrame_1 (k := 33) rfl) (by decide) ?_
    refine m_isub (d_M_takesFrame_1 (k := 34) rfl) ?_
    refine m_imul (d_M_takesFrame_1 (k := 35) rfl) ?_
    refine m_iadd (d_M_takesFrame_1 (k := 36) rfl) ?_
    refine m_iload (d_M_takesFrame_1 (k := 37) rfl) rfl ?_
    refine m_iadd (d_M_takesFrame_1 (k := 38) rfl) ?_
    refine m_aload_n (d_M_takesFrame_1 (k := 39) rfl) rfl ?_
    refine m_getR (d_M_takesFrame_2 (k := 0) rfl) fl_M_56 rfl (fun a2 => ?_)
    refine m_iload_n (d_M_takesFrame_2 (k := 1) rfl) rfl ?_
    refine m_bipush (v := 90) (d_M_takesFrame_2 (k := 2) rfl) (by decide) ?_
    refine m_iload (d_M_takesFrame_2 (k := 3) rfl) rfl ?_
    refine m_imul (d_M_takesFrame_2 (k := 4) rfl) ?_
    refine m_iadd (d_M_takesFrame_2 (k := 5) rfl) ?_
    refine m_iload (d_M_takesFrame_2 (k := 6) rfl) rfl ?_
    refine m_iadd (d_M_takesFrame_2 (k := 7) rfl) ?_
    refine m_iald (d_M_takesFrame_2 (k := 8) rfl) (fun x3 => ?_)
    refine m_iast (d_M_takesFrame_2 (k := 9) rfl) (fun M => ?_)
    refine m_inc (v := 1) (ls' := [some (.inr t0), some (.inl i1), some (.inl i2), some (.inl i3), some (.inl i4), some (.inl (i5 + 1))]) (d_M_takesFrame_2 (k := 10) rfl) rfl (by decide) (by decide) rfl ?_
    refine m_goto (tgt := 102) (d_M_takesFrame_2 (k := 11) rfl) rfl ?_
    exact m_drop (mles_s (mles_s (mles_s (mles_s (mles_s (mles_s mles_0)))))) (h102 t0 i1 i2 i3 i4 (i5 + 1) M)
  · refine m_inc (v := 1) (ls' := [some (.inr t0), some (.inl i1), some (.inl i2), some (.inl i3), some (.inl (i4 + 1)), some (.inl i5)]) (d_M_takesFrame_2 (k := 12) rfl) rfl (by decide) (by decide) rfl ?_
    refine m_goto (tgt := 62) (d_M_takesFrame_2 (k := 13) rfl) rfl ?_
    exact m_drop (mles_s (mles_s (mles_s (mles_s (mles_s (mles_n mles_0)))))) (h62 t0 i1 i2 i3 (i4 + 1) M)
theorem v_M_takesFrame_102 {E : mE} (r62 : Option Nat → Int32 → Int32 → Int32 → Int32 → mM → Option (Unit × mM)) (h62 : ∀ (t0 : Option Nat) (i1 : Int32) (i2 : Int32) (i3 : Int32) (i4 : Int32) (M : mM), mVr E mi_M_takesFrame 3 62 [some (.inr t0), some (.inl i1), some (.inl i2), some (.inl i3), some (.inl i4), none] [] M enU (r62 t0 i1 i2 i3 i4 M)) : ∀ (n : Nat) (t0 : Option Nat) (i1 : Int32) (i2 : Int32) (i3 : Int32) (i4 : Int32) (i5 : Int32) (M : mM), mVr E mi_M_takesFrame 3 102 [some (.inr t0), some (.inl i1), some (.inl i2), some (.inl i3), some (.inl i4), some (.inl i5)] [] M enU (q_M_takesFrame_102 r62 n t0 i1 i2 i3 i4 i5 M)
  | 0, _, _, _, _, _, _, _ => m_none
  | n + 1, t0, i1, i2, i3, i4, i5, M => v_M_takesFrame_102_b r62 h62 _ (v_M_takesFrame_102 r62 h62 n) t0 i1 i2 i3 i4 i5 M
def q_M_takesFrame_62_b (r62 : Option Nat → Int32 → Int32 → Int32 → Int32 → mM → Option (Unit × mM)) (t0 : Option Nat) (i1 : Int32) (i2 : Int32) (i3 : Int32) (i4 : Int32) (M : mM) : Option (Unit × mM) :=
    x_gR M 10 t0 18 fun a1 =>
    x_aI M 0 a1 i1 fun x2 =>
    if i4 < x2 then
      x_gR M 10 t0 19 fun a3 =>
      x_gR M 10 t0 19 fun a4 =>
      x_aI M 0 a4 (((12 : Int32) * i1) + i4) fun x5 =>
      x_wI M a3 ((((12 : Int32) * i1) + i4) - (1 : Int32)) x5 fun M =>
      q_M_takesFrame_102 r62 mFU t0 i1 i2 i3 i4 (0 : Int32) M
    else
      x_gR M 10 t0 18 fun a6 =>
      x_aI M 0 a6 i1 fun x7 =>
      x_wI M a6 i1 (x7 - (1 : Int32)) fun M =>
      x_cv M 10 t0 (q_M_count t0 i1 (0 : Int32) M) fun _ M =>
      x_gR M 10 t0 28 fun a8 =>
      x_aI M 0 a8 i1 fun x9 =>
      x_wI M a8 i1 (x9 + (1 : Int32)) fun M =>
      x_pI M 10 t0 5 (0 : Int32) fun M =>
      x_gR M 10 t0 30 fun a10 =>
      x_cv M 10 t0 (q_M_makeFrame t0 a10 ((90 : Int32) * i1) i3 M) fun _ M =>
      x_cv M 10 t0 (q_M_makeFlag t0 M) fun _ M =>
      x_cv M 10 t0 (q_M_lineIs t0 i1 M) fun _ M =>
      some ((), M)
def q_M_takesFrame_62 : Nat → Option Nat → Int32 → Int32 → Int32 → Int32 → mM → Option (Unit × mM)
  | 0, _, _, _, _, _, _ => none
  | n + 1, t0, i1, i2, i3, i4, M => q_M_takesFrame_62_b (q_M_takesFrame_62 n) t0 i1 i2 i3 i4 M
set_option maxRecDepth 20000 in
theorem v_M_takesFrame_62_b {E : mE} (r62 : Option Nat → Int32 → Int32 → Int32 → Int32 → mM → Option (Unit × mM)) (h62 : ∀ (t0 : Option Nat) (i1 : Int32) (i2 : Int32) (i3 : Int32) (i4 : Int32) (M : mM), mVr E mi_M_takesFrame 3 62 [some (.inr t0), some (.inl i1), some (.inl i2), some (.inl i3), some (.inl i4), none] [] M enU (r62 t0 i1 i2 i3 i4 M)) (t0 : Option Nat) (i1 : Int32) (i2 : Int32) (i3 : Int32) (i4 : Int32) (M : mM) : mVr E mi_M_takesFrame 3 62 [some (.inr t0), some (.inl i1), some (.inl i2), some (.inl i3), some (.inl i4), none] [] M enU (q_M_takesFrame_62_b r62 t0 i1 i2 i3 i4 M) := by
  unfold q_M_takesFrame_62_b
  refine m_iload (d_M_takesFrame_0 (k := 39) rfl) rfl ?_
  refine m_aload_n (d_M_takesFrame_1 (k := 0) rfl) rfl ?_
  refine m_getR (d_M_takesFrame_1 (k := 1) rfl) fl_M_50 rfl (fun a1 => ?_)
  refine m_iload_n (d_M_takesFrame_1 (k := 2) rfl) rfl ?_
  refine m_iald (d_M_takesFrame_1 (k := 3) rfl) (fun x2 => ?_)
  refine m_icmp_ge (tgt := 153) (d_M_takesFrame_1 (k := 4) rfl) rfl ?_ ?_
  · refine m_aload_n (d_M_takesFrame_1 (k := 5) rfl) rfl ?_
    refine m_getR (d_M_takesFrame_1 (k := 6) rfl) fl_M_53 rfl (fun a3 => ?_)
    refine m_bipush (v := 12) (d_M_takesFrame_1 (k := 7) rfl) (by decide) ?_
    refine m_iload_n (d_M_takesFrame_1 (k := 8) rfl) rfl ?_
    refine m_imul (d_M_takesFrame_1 (k := 9) rfl) ?_
    refine m_iload (d_M_takesFrame_1 (k := 10) rfl) rfl ?_
    refine m_iadd (d_M_takesFrame_1 (k := 11) rfl) ?_
    refine m_iconst (v := 1) (d_M_takesFrame_1 (k := 12) rfl) (by decide) ?_
    refine m_isub (d_M_takesFrame_1 (k := 13) rfl) ?_
    refine m_aload_n (d_M_takesFrame_1 (k := 14) rfl) rfl ?_
    refine m_getR (d_M_takesFrame_1 (k := 15) rfl) fl_M_53 rfl (fun a4 => ?_)
    refine m_bipush (v := 12) (d_M_takesFrame_1 (k := 16) rfl) (by decide) ?_
    refine m_iload_n (d_M_takesFrame_1 (k := 17) rfl) rfl ?_
    refine m_imul (d_M_takesFrame_1 (k := 18) rfl) ?_
    refine m_iload (d_M_takesFrame_1 (k := 19) rfl) rfl ?_
    refine m_iadd (d_M_takesFrame_1 (k := 20) rfl) ?_
    refine m_iald (d_M_takesFrame_1 (k := 21) rfl) (fun x5 => ?_)
    refine m_iast (d_M_takesFrame_1 (k := 22) rfl) (fun M => ?_)
    refine m_iconst (v := 0) (d_M_takesFrame_1 (k := 23) rfl) (by decide) ?_
    refine m_ist (ls' := [some (.inr t0), some (.inl i1), some (.inl i2), some (.inl i3), some (.inl i4), some (.inl (0 : Int32))]) (d_M_takesFrame_1 (k := 24) rfl) (by decide) rfl ?_
    exact m_drop (mles_s (mles_s (mles_s (mles_s (mles_s (mles_s mles_0)))))) (v_M_takesFrame_102 r62 h62 mFU t0 i1 i2 i3 i4 (0 : Int32) M)
  · refine m_aload_n (d_M_takesFrame_2 (k := 14) rfl) rfl ?_
    refine m_getR (d_M_takesFrame_2 (k := 15) rfl) fl_M_50 rfl (fun a6 => ?_)
    refine m_iload_n (d_M_takesFrame_2 (k := 16) rfl) rfl ?_
    refine m_dup2 (d_M_takesFrame_2 (k := 17) rfl) ?_
    refine m_iald (d_M_takesFrame_2 (k := 18) rfl) (fun x7 => ?_)
    refine m_iconst (v := 1) (d_M_takesFrame_2 (k := 19) rfl) (by decide) ?_
    refine m_isub (d_M_takesFrame_2 (k := 20) rfl) ?_
    refine m_iast (d_M_takesFrame_2 (k := 21) rfl) (fun M => ?_)
    refine m_aload_n (d_M_takesFrame_2 (k := 22) rfl) rfl ?_
    refine m_iload_n (d_M_takesFrame_2 (k := 23) rfl) rfl ?_
    refine m_iconst (v := 0) (d_M_takesFrame_2 (k := 24) rfl) (by decide) ?_
    refine m_cvU (c := 10) (vs := [.inl i1, .inl (0 : Int32)]) (st := []) (d_M_takesFrame_2 (k := 25) rfl) (s_M_count t0 i1 (0 : Int32) M) cd_M_count ml_M_267 im_M_count se_M_count rfl (by decide) rfl (Nat.le_of_ble_eq_true rfl) (fun _ M => ?_)
    refine m_aload_n (d_M_takesFrame_2 (k := 26) rfl) rfl ?_
    refine m_getR (d_M_takesFrame_2 (k := 27) rfl) fl_M_80 rfl (fun a8 => ?_)
    refine m_iload_n (d_M_takesFrame_2 (k := 28) rfl) rfl ?_
    refine m_dup2 (d_M_takesFrame_2 (k := 29) rfl) ?_
    refine m_iald (d_M_takesFrame_2 (k := 30) rfl) (fun x9 => ?_)
    refine m_iconst (v := 1) (d_M_takesFrame_2 (k := 31) rfl) (by decide) ?_
    refine m_iadd (d_M_takesFrame_2 (k := 32) rfl) ?_
    refine m_iast (d_M_takesFrame_2 (k := 33) rfl) (fun M => ?_)
    refine m_aload_n (d_M_takesFrame_2 (k := 34) rfl) rfl ?_
    refine m_iconst (v := 0) (d_M_takesFrame_2 (k := 35) rfl) (by decide) ?_
    refine m_pI (d_M_takesFrame_2 (k := 36) rfl) fp_M_224 (fun h => absurd h (by decide)) rfl (fun M => ?_)
    refine m_aload_n (d_M_takesFrame_2 (k := 37) rfl) rfl ?_
    refine m_aload_n (d_M_takesFrame_2 (k := 38) rfl) rfl ?_
    refine m_getR (d_M_takesFrame_2 (k := 39) rfl) fl_M_86 rfl (fun a10 => ?_)
    refine m_bipush (v := 90) (d_M_takesFrame_3 (k := 0) rfl) (by decide) ?_
    refine m_iload_n (d_M_takesFrame_3 (k := 1) rfl) rfl ?_
    refine m_imul (d_M_takesFrame_3 (k := 2) rfl) ?_
    refine m_iload_n (d_M_takesFrame_3 (k := 3) rfl) rfl ?_
    refine m_cvU (c := 10) (vs := [.inr a10, .inl ((90 : Int32) * i1), .inl i3]) (st := []) (d_M_takesFrame_3 (k := 4) rfl) (s_M_makeFrame t0 a10 ((90 : Int32) * i1) i3 M) cd_M_makeFrame ml_M_243 im_M_makeFrame se_M_makeFrame rfl (by decide) rfl (Nat.le_of_ble_eq_true rfl) (fun _ M => ?_)
    refine m_aload_n (d_M_takesFrame_3 (k := 5) rfl) rfl ?_
    refine m_cvU (c := 10) (vs := []) (st := []) (d_M_takesFrame_3 (k := 6) rfl) (s_M_makeFlag t0 M) cd_M_makeFlag ml_M_240 im_M_makeFlag se_M_makeFlag rfl (by decide) rfl (Nat.le_of_ble_eq_true rfl) (fun _ M => ?_)
    refine m_aload_n (d_M_takesFrame_3 (k := 7) rfl) rfl ?_
    refine m_iload_n (d_M_takesFrame_3 (k := 8) rfl) rfl ?_
    refine m_cvU (c := 10) (vs := [.inl i1]) (st := []) (d_M_takesFrame_3 (k := 9) rfl) (s_M_lineIs t0 i1 M) cd_M_lineIs ml_M_277 im_M_lineIs se_M_lineIs rfl (by decide) rfl (Nat.le_of_ble_eq_true rfl) (fun _ M => ?_)
    exact m_vret (d_M_takesFrame_3 (k := 10) rfl) rfl
theorem v_M_takesFrame_62 {E : mE} : ∀ (n : Nat) (t0 : Option Nat) (i1 : Int32) (i2 : Int32) (i3 : Int32) (i4 : Int32) (M : mM), mVr E mi_M_takesFrame 3 62 [some (.inr t0), some (.inl i1), some (.inl i2), some (.inl i3), some (.inl i4), none] [] M enU (q_M_takesFrame_62 n t0 i1 i2 i3 i4 M)
  | 0, _, _, _, _, _, _ => m_none
  | n + 1, t0, i1, i2, i3, i4, M => v_M_takesFrame_62_b _ (v_M_takesFrame_62 n) t0 i1 i2 i3 i4 M
def q_M_takesFrame_26_b (r26 : Option Nat → Int32 → Int32 → Int32 → Int32 → mM → Option (Unit × mM)) (t0 : Option Nat) (i1 : Int32) (i2 : Int32) (i3 : Int32) (i4 : Int32) (M : mM) : Option (Unit × mM) :=
    if i4 < i3 then
      x_gR M 10 t0 30 fun a1 =>
      x_gR M 10 t0 20 fun a2 =>
      x_aI M 0 a2 (i2 + i4) fun x3 =>
      x_wI M a1 (((90 : Int32) * i1) + i4) x3 fun M =>
      r26 t0 i1 i2 i3 (i4 + 1) M
    else
      q_M_takesFrame_62 mFU t0 i1 i2 i3 (1 : Int32) M
def q_M_takesFrame_26 : Nat → Option Nat → Int32 → Int32 → Int32 → Int32 → mM → Option (Unit × mM)
  | 0, _, _, _, _, _, _ => none
  | n + 1, t0, i1, i2, i3, i4, M => q_M_takesFrame_26_b (q_M_takesFrame_26 n) t0 i1 i2 i3 i4 M
set_option maxRecDepth 20000 in
theorem v_M_takesFrame_26_b {E : mE} (r26 : Option Nat → Int32 → Int32 → Int32 → Int32 → mM → Option (Unit × mM)) (h26 : ∀ (t0 : Option Nat) (i1 : Int32) (i2 : Int32) (i3 : Int32) (i4 : Int32) (M : mM), mVr E mi_M_takesFrame 3 26 [some (.inr t0), some (.inl i1), some (.inl i2), some (.inl i3), some (.inl i4), none] [] M enU (r26 t0 i1 i2 i3 i4 M)) (t0 : Option Nat) (i1 : Int32) (i2 : Int32) (i3 : Int32) (i4 : Int32) (M : mM) : mVr E mi_M_takesFrame 3 26 [some (.inr t0), some (.inl i1), some (.inl i2), some (.inl i3), some (.inl i4), none] [] M enU (q_M_takesFrame_26_b r26 t0 i1 i2 i3 i4 M) := by
  unfold q_M_takesFrame_26_b
  refine m_iload (d_M_takesFrame_0 (k := 18) rfl) rfl ?_
  refine m_iload_n (d_M_takesFrame_0 (k := 19) rfl) rfl ?_
  refine m_icmp_ge (tgt := 59) (d_M_takesFrame_0 (k := 20) rfl) rfl ?_ ?_
  · refine m_aload_n (d_M_takesFrame_0 (k := 21) rfl) rfl ?_
    refine m_getR (d_M_takesFrame_0 (k := 22) rfl) fl_M_86 rfl (fun a1 => ?_)
    refine m_bipush (v := 90) (d_M_takesFrame_0 (k := 23) rfl) (by decide) ?_
    refine m_iload_n (d_M_takesFrame_0 (k := 24) rfl) rfl ?_
    refine m_imul (d_M_takesFrame_0 (k := 25) rfl) ?_
    refine m_iload (d_M_takesFrame_0 (k := 26) rfl) rfl ?_
    refine m_iadd (d_M_takesFrame_0 (k := 27) rfl) ?_
    refine m_aload_n (d_M_takesFrame_0 (k := 28) rfl) rfl ?_
    refine m_getR (d_M_takesFrame_0 (k := 29) rfl) fl_M_56 rfl (fun a2 => ?_)
    refine m_iload_n (d_M_takesFrame_0 (k := 30) rfl) rfl ?_
    refine m_iload (d_M_takesFrame_0 (k := 31) rfl) rfl ?_
    refine m_iadd (d_M_takesFrame_0 (k := 32) rfl) ?_
    refine m_iald (d_M_takesFrame_0 (k := 33) rfl) (fun x3 => ?_)
    refine m_iast (d_M_takesFrame_0 (k := 34) rfl) (fun M => ?_)
    refine m_inc (v := 1) (ls' := [some (.inr t0), some (.inl i1), some (.inl i2), some (.inl i3), some (.inl (i4 + 1)), none]) (d_M_takesFrame_0 (k := 35) rfl) rfl (by decide) (by decide) rfl ?_
    refine m_goto (tgt := 26) (d_M_takesFrame_0 (k := 36) rfl) rfl ?_
    exact m_drop (mles_s (mles_s (mles_s (mles_s (mles_s (mles_n mles_0)))))) (h26 t0 i1 i2 i3 (i4 + 1) M)
  · refine m_iconst (v := 1) (d_M_takesFrame_0 (k := 37) rfl) (by decide) ?_
    refine m_ist (ls' := [some (.inr t0), some (.inl i1), some (.inl i2), some (.inl i3), some (.inl (1 : Int32)), none]) (d_M_takesFrame_0 (k := 38) rfl) (by decide) rfl ?_
    exact m_drop (mles_s (mles_s (mles_s (mles_s (mles_s (mles_n mles_0)))))) (v_M_takesFrame_62 mFU t0 i1 i2 i3 (1 : Int32) M)
theorem v_M_takesFrame_26 {E : mE} : ∀ (n : Nat) (t0 : Option Nat) (i1 : Int32) (i2 : Int32) (i3 : Int32) (i4 : Int32) (M : mM), mVr E mi_M_takesFrame 3 26 [some (.inr t0), some (.inl i1), some (.inl i2), some (.inl i3), some (.inl i4), none] [] M enU (q_M_takesFrame_26 n t0 i1 i2 i3 i4 M)
  | 0, _, _, _, _, _, _ => m_none
  | n + 1, t0, i1, i2, i3, i4, M => v_M_takesFrame_26_b _ (v_M_takesFrame_26 n) t0 i1 i2 i3 i4 M
def q_M_takesFrame (t0 : Option Nat) (i1 : Int32) (M : mM) : Option (Unit × mM) :=
    x_lt ((1080 : Int32) * i1) fun x1 =>
    x_gR M 10 t0 19 fun a2 =>
    x_aI M 0 a2 ((12 : Int32) * i1) fun x3 =>
    x_gR M 10 t0 29 fun a4 =>
    x_wI M a4 i1 x3 fun M =>
    q_M_takesFrame_26 mFU t0 i1 x1 x3 (0 : Int32) M
set_option maxRecDepth 20000 in
theorem v_M_takesFrame {E : mE} (t0 : Option Nat) (i1 : Int32) (M : mM) : mVr E mi_M_takesFrame 3 0 [some (.inr t0), some (.inl i1), none, none, none, none] [] M enU (q_M_takesFrame t0 i1 M) := by
  unfold q_M_takesFrame
  refine m_sipush (v := 1080) (d_M_takesFrame_0 (k := 0) rfl) (by decide) ?_
  refine m_iload_n (d_M_takesFrame_0 (k := 1) rfl) rfl ?_
  refine m_imul (d_M_takesFrame_0 (k := 2) rfl) ?_
  refine m_lt (fun x1 => ?_)
  refine m_ist_n (ls' := [some (.inr t0), some (.inl i1), some (.inl x1), none, none, none]) (d_M_takesFrame_0 (k := 3) rfl) (by decide) rfl ?_
  refine m_aload_n (d_M_takesFrame_0 (k := 4) rfl) rfl ?_
  refine m_getR (d_M_takesFrame_0 (k := 5) rfl) fl_M_53 rfl (fun a2 => ?_)
  refine m_bipush (v := 12) (d_M_takesFrame_0 (k := 6) rfl) (by decide) ?_
  refine m_iload_n (d_M_takesFrame_0 (k := 7) rfl) rfl ?_
  refine m_imul (d_M_takesFrame_0 (k := 8) rfl) ?_
  refine m_iald (d_M_takesFrame_0 (k := 9) rfl) (fun x3 => ?_)
  refine m_ist_n (ls' := [some (.inr t0), some (.inl i1), some (.inl x1), some (.inl x3), none, none]) (d_M_takesFrame_0 (k := 10) rfl) (by decide) rfl ?_
  refine m_aload_n (d_M_takesFrame_0 (k := 11) rfl) rfl ?_
  refine m_getR (d_M_takesFrame_0 (k := 12) rfl) fl_M_83 rfl (fun a4 => ?_)
  refine m_iload_n (d_M_takesFrame_0 (k := 13) rfl) rfl ?_
  refine m_iload_n (d_M_takesFrame_0 (k := 14) rfl) rfl ?_
  refine m_iast (d_M_takesFrame_0 (k := 15) rfl) (fun M => ?_)
  refine m_iconst (v := 0) (d_M_takesFrame_0 (k := 16) rfl) (by decide) ?_
  refine m_ist (ls' := [some (.inr t0), some (.inl i1), some (.inl x1), some (.inl x3), some (.inl (0 : Int32)), none]) (d_M_takesFrame_0 (k := 17) rfl) (by decide) rfl ?_
  exact m_drop (mles_s (mles_s (mles_s (mles_s (mles_s (mles_n mles_0)))))) (v_M_takesFrame_26 mFU t0 i1 x1 x3 (0 : Int32) M)
theorem s_M_takesFrame {E : mE} (t0 : Option Nat) (i1 : Int32) (M : mM) : mSnd E mi_M_takesFrame 3 [.inr t0, .inl i1] M enU (q_M_takesFrame t0 i1 M) := m_entryU (by decide) (Nat.le_of_ble_eq_true rfl) rfl (m_drop (mles_s (mles_s (mles_e (mles_e (mles_e (mles_e mles_0)))))) (v_M_takesFrame t0 i1 M))
def dt_M_sends : List (Nat × Instr × Nat) := [(0, .aload_n 0, 1), (1, .getfield 89, 3), (4, .iload_n 1, 1), (5, .iconst 0, 1), (6, .bastore, 1), (7, .aload_n 0, 1), (8, .getfield 68, 3), (11, .iload_n 1, 1), (12, .baload, 1), (13, .ifCond .ne 4, 3), (16, .return_, 1), (17, .aload_n 0, 1), (18, .getfield 74, 3), (21, .iload_n 1, 1), (22, .iaload, 1), (23, .aload_n 0, 1), (24, .getfield 71, 3), (27, .iload_n 1, 1), (28, .iaload, 1), (29, .if_icmp .ne 35, 3), (32, .aload_n 0, 1), (33, .getfield 50, 3), (36, .iload_n 1, 1), (37, .iaload, 1), (38, .ifCond .eq 13, 3), (41, .aload_n 0, 1), (42, .getfield 80, 3), (45, .iload_n 1, 1), (46, .iaload, 1), (47, .iconst 4, 1), (48, .if_icmp .ne 11, 3), (51, .aload_n 0, 1), (52, .getfield 68, 3), (55, .iload_n 1, 1), (56, .iconst 0, 1), (57, .bastore, 1), (58, .return_, 1), (59, .aload_n 0, 1), (60, .iload_n 1, 1), (61, .invokevirtual 280, 3), (64, .aload_n 0, 1), (65, .getfield 77, 3), (68, .sipush 1024, 3), (71, .iload_n 1, 1), (72, .imul, 1), (73, .aload_n 0, 1), (74, .getfield 74, 3), (77, .iload_n 1, 1), (78, .iaload, 1), (79, .iadd, 1), (80, .iaload, 1), (81, .istore_n 2, 1), (82, .aload_n 0, 1), (83, .getfield 65, 3), (86, .iload_n 1, 1), (87, .iload_n 2, 1), (88, .ifCond .ne 14, 3), (91, .iconst 1, 1), (92, .aload_n 0, 1), (93, .getfield 65, 3), (96, .iload_n 1, 1), (97, .iaload, 1), (98, .isub, 1), (99, .goto 9, 3), (102, .aload_n 0, 1), (103, .getfield 65, 3), (106, .iload_n 1, 1), (107, .iaload, 1), (108, .iastore, 1), (109, .aload_n 0, 1), (110, .getfield 74, 3), (113, .iload_n 1, 1), (114, .dup2, 1), (115, .iaload, 1), (116, .iconst 1, 1), (117, .iadd, 1), (118, .iastore, 1), (119, .aload_n 0, 1), (120, .getfield 89, 3), (123, .iload_n 1, 1), (124, .aload_n 0, 1), (125, .getfield 80, 3), (128, .iload_n 1, 1), (129, .iaload, 1), (130, .ifCond .le 22, 3), (133, .aload_n 0, 1), (134, .getfield 74, 3), (137, .iload_n 1, 1), (138, .iaload, 1), (139, .aload_n 0, 1), (140, .getfield 71, 3), (143, .iload_n 1, 1), (144, .iaload, 1), (145, .if_icmp .ne 7, 3), (148, .iconst 1, 1), (149, .goto 4, 3), (152, .iconst 0, 1), (153, .bastore, 1), (154, .return_, 1)]
theorem dx_M_sends : ∀ p ∈ dt_M_sends, decode prog_12_method_32_code p.1 = .ok p.2 := by decide +kernel
theorem d_M_sends {k pc : Nat} {i : Instr} {n : Nat} (h : dt_M_sends[k]? = some (pc, i, n)) : decode mi_M_sends.2.1 pc = .ok (i, n) := dx_M_sends (pc, i, n) (List.mem_of_getElem? h)
def q_M_sends_51 (t0 : Option Nat) (i1 : Int32) (M : mM) : Option (Unit × mM) :=
    x_gR M 10 t0 24 fun a1 =>
    x_wZ M a1 i1 (0 : Int32) fun M =>
    some ((), M)
set_option maxRecDepth 20000 in
theorem v_M_sends_51 {E : mE} (t0 : Option Nat) (i1 : Int32) (M : mM) : mVr E mi_M_sends 4 51 [some (.inr t0), some (.inl i1), none] [] M enU (q_M_sends_51 t0 i1 M) := by
  unfold q_M_sends_51
  refine m_aload_n (d_M_sends (k := 31) rfl) rfl ?_
  refine m_getR (d_M_sends (k := 32) rfl) fl_M_68 rfl (fun a1 => ?_)
  refine m_iload_n (d_M_sends (k := 33) rfl) rfl ?_
  refine m_iconst (v := 0) (d_M_sends (k := 34) rfl) (by decide) ?_
  refine m_zast (d_M_sends (k := 35) rfl) (fun M => ?_)
  exact m_vret (d_M_sends (k := 36) rfl) rfl
def q_M_sends_108 (t0 : Option Nat) (i1 : Int32) (j0 : Int32) (j1 : Int32) (u2 : Option Nat) (M : mM) : Option (Unit × mM) :=
    x_wI M u2 j1 j0 fun M =>
    x_gR M 10 t0 26 fun a1 =>
    x_aI M 0 a1 i1 fun x2 =>
    x_wI M a1 i1 (x2 + (1 : Int32)) fun M =>
    x_gR M 10 t0 31 fun a3 =>
    x_gR M 10 t0 28 fun a4 =>
    x_aI M 0 a4 i1 fun x5 =>
    if 0 < x5 then
      x_gR M 10 t0 26 fun a6 =>
      x_aI M 0 a6 i1 fun x7 =>
      x_gR M 10 t0 25 fun a8 =>
      x_aI M 0 a8 i1 fun x9 =>
      if x7 = x9 then
        x_wZ M a3 i1 (1 : Int32) fun M =>
        some ((), M)
      else
        x_wZ M a3 i1 (0 : Int32) fun M =>
        some ((), M)
    else
      x_wZ M a3 i1 (0 : Int32) fun M =>
      some ((), M)
set_option maxRecDepth 20000 in
theorem v_M_sends_108 {E : mE} (t0 : Option Nat) (i1 : Int32) (j0 : Int32) (j1 : Int32) (u2 : Option Nat) (M : mM) : mVr E mi_M_sends 4 108 [some (.inr t0), some (.inl i1), none] [.inl j0, .inl j1, .inr u2] M enU (q_M_sends_108 t0 i1 j0 j1 u2 M) := by
  unfold q_M_sends_108
  refine m_iast (d_M_sends (k := 68) rfl) (fun M => ?_)
  refine m_aload_n (d_M_sends (k := 69) rfl) rfl ?_
  refine m_getR (d_M_sends (k := 70) rfl) fl_M_74 rfl (fun a1 => ?_)
  refine m_iload_n (d_M_sends (k := 71) rfl) rfl ?_
  refine m_dup2 (d_M_sends (k := 72) rfl) ?_
  refine m_iald (d_M_sends (k := 73) rfl) (fun x2 => ?_)
  refine m_iconst (v := 1) (d_M_sends (k := 74) rfl) (by decide) ?_
  refine m_iadd (d_M_sends (k := 75) rfl) ?_
  refine m_iast (d_M_sends (k := 76) rfl) (fun M => ?_)
  refine m_aload_n (d_M_sends (k := 77) rfl) rfl ?_
  refine m_getR (d_M_sends (k := 78) rfl) fl_M_89 rfl (fun a3 => ?_)
  refine m_iload_n (d_M_sends (k := 79) rfl) rfl ?_
  refine m_aload_n (d_M_sends (k := 80) rfl) rfl ?_
  refine m_getR (d_M_sends (k := 81) rfl) fl_M_80 rfl (fun a4 => ?_)
  refine m_iload_n (d_M_sends (k := 82) rfl) rfl ?_
  refine m_iald (d_M_sends (k := 83) rfl) (fun x5 => ?_)
  refine m_if_le (tgt := 152) (d_M_sends (k := 84) rfl) rfl ?_ ?_
  · refine m_aload_n (d_M_sends (k := 85) rfl) rfl ?_
    refine m_getR (d_M_sends (k := 86) rfl) fl_M_74 rfl (fun a6 => ?_)
    refine m_iload_n (d_M_sends (k := 87) rfl) rfl ?_
    refine m_iald (d_M_sends (k := 88) rfl) (fun x7 => ?_)
    refine m_aload_n (d_M_sends (k := 89) rfl) rfl ?_
    refine m_getR (d_M_sends (k := 90) rfl) fl_M_71 rfl (fun a8 => ?_)
    refine m_iload_n (d_M_sends (k := 91) rfl) rfl ?_
    refine m_iald (d_M_sends (k := 92) rfl) (fun x9 => ?_)
    refine m_icmp_ne (tgt := 152) (d_M_sends (k := 93) rfl) rfl ?_ ?_
    · refine m_iconst (v := 1) (d_M_sends (k := 94) rfl) (by decide) ?_
      refine m_goto (tgt := 153) (d_M_sends (k := 95) rfl) rfl ?_
      refine m_zast (d_M_sends (k := 97) rfl) (fun M => ?_)
      exact m_vret (d_M_sends (k := 98) rfl) rfl
    · refine m_iconst (v := 0) (d_M_sends (k := 96) rfl) (by decide) ?_
      refine m_zast (d_M_sends (k := 97) rfl) (fun M => ?_)
      exact m_vret (d_M_sends (k := 98) rfl) rfl
  · refine m_iconst (v := 0) (d_M_sends (k := 96) rfl) (by decide) ?_
    refine m_zast (d_M_sends (k := 97) rfl) (fun M => ?_)
    exact m_vret (d_M_sends (k := 98) rfl) rfl
def q_M_sends_64 (t0 : Option Nat) (i1 : Int32) (M : mM) : Option (Unit × mM) :=
    x_gR M 10 t0 27 fun a1 =>
    x_gR M 10 t0 26 fun a2 =>
    x_aI M 0 a2 i1 fun x3 =>
    x_aI M 0 a1 (((1024 : Int32) * i1) + x3) fun x4 =>
    x_gR M 10 t0 23 fun a5 =>
    if x4 = 0 then
      x_gR M 10 t0 23 fun a6 =>
      x_aI M 0 a6 i1 fun x7 =>
      q_M_sends_108 t0 i1 ((1 : Int32) - x7) i1 a5 M
    else
      x_gR M 10 t0 23 fun a8 =>
      x_aI M 0 a8 i1 fun x9 =>
      q_M_sends_108 t0 i1 x9 i1 a5 M
set_option maxRecDepth 20000 in
theorem v_M_sends_64 {E : mE} (t0 : Option Nat) (i1 : Int32) (M : mM) : mVr E mi_M_sends 4 64 [some (.inr t0), some (.inl i1), none] [] M enU (q_M_sends_64 t0 i1 M) := by
  unfold q_M_sends_64
  refine m_aload_n (d_M_sends (k := 40) rfl) rfl ?_
  refine m_getR (d_M_sends (k := 41) rfl) fl_M_77 rfl (fun a1 => ?_)
  refine m_sipush (v := 1024) (d_M_sends (k := 42) rfl) (by decide) ?_
  refine m_iload_n (d_M_sends (k := 43) rfl) rfl ?_
  refine m_imul (d_M_sends (k := 44) rfl) ?_
  refine m_aload_n (d_M_sends (k := 45) rfl) rfl ?_
  refine m_getR (d_M_sends (k := 46) rfl) fl_M_74 rfl (fun a2 => ?_)
  refine m_iload_n (d_M_sends (k := 47) rfl) rfl ?_
  refine m_iald (d_M_sends (k := 48) rfl) (fun x3 => ?_)
  refine m_iadd (d_M_sends (k := 49) rfl) ?_
  refine m_iald (d_M_sends (k := 50) rfl) (fun x4 => ?_)
  refine m_ist_n (ls' := [some (.inr t0), some (.inl i1), some (.inl x4)]) (d_M_sends (k := 51) rfl) (by decide) rfl ?_
  refine m_aload_n (d_M_sends (k := 52) rfl) rfl ?_
  refine m_getR (d_M_sends (k := 53) rfl) fl_M_65 rfl (fun a5 => ?_)
  refine m_iload_n (d_M_sends (k := 54) rfl) rfl ?_
  refine m_iload_n (d_M_sends (k := 55) rfl) rfl ?_
  refine m_if_ne (tgt := 102) (d_M_sends (k := 56) rfl) rfl ?_ ?_
  · refine m_iconst (v := 1) (d_M_sends (k := 57) rfl) (by decide) ?_
    refine m_aload_n (d_M_sends (k := 58) rfl) rfl ?_
    refine m_getR (d_M_sends (k := 59) rfl) fl_M_65 rfl (fun a6 => ?_)
    refine m_iload_n (d_M_sends (k := 60) rfl) rfl ?_
    refine m_iald (d_M_sends (k := 61) rfl) (fun x7 => ?_)
    refine m_isub (d_M_sends (k := 62) rfl) ?_
    refine m_goto (tgt := 108) (d_M_sends (k := 63) rfl) rfl ?_
    exact m_drop (mles_s (mles_s (mles_n mles_0))) (v_M_sends_108 t0 i1 ((1 : Int32) - x7) i1 a5 M)
  · refine m_aload_n (d_M_sends (k := 64) rfl) rfl ?_
    refine m_getR (d_M_sends (k := 65) rfl) fl_M_65 rfl (fun a8 => ?_)
    refine m_iload_n (d_M_sends (k := 66) rfl) rfl ?_
    refine m_iald (d_M_sends (k := 67) rfl) (fun x9 => ?_)
    exact m_drop (mles_s (mles_s (mles_n mles_0))) (v_M_sends_108 t0 i1 x9 i1 a5 M)
def q_M_sends (t0 : Option Nat) (i1 : Int32) (M : mM) : Option (Unit × mM) :=
    x_gR M 10 t0 31 fun a1 =>
    x_wZ M a1 i1 (0 : Int32) fun M =>
    x_gR M 10 t0 24 fun a2 =>
    x_aI M 1 a2 i1 fun x3 =>
    if x3 = 0 then
      some ((), M)
    else
      x_gR M 10 t0 26 fun a4 =>
      x_aI M 0 a4 i1 fun x5 =>
      x_gR M 10 t0 25 fun a6 =>
      x_aI M 0 a6 i1 fun x7 =>
      if x5 = x7 then
        x_gR M 10 t0 18 fun a8 =>
        x_aI M 0 a8 i1 fun x9 =>
        if x9 = 0 then
          q_M_sends_51 t0 i1 M
        else
          x_gR M 10 t0 28 fun a10 =>
          x_aI M 0 a10 i1 fun x11 =>
          if x11 = (4 : Int32) then
            q_M_sends_51 t0 i1 M
          else
            x_cv M 10 t0 (q_M_takesFrame t0 i1 M) fun _ M =>
            q_M_sends_64 t0 i1 M
      else
        q_M_sends_64 t0 i1 M
set_option maxRecDepth 20000 in
theorem v_M_sends {E : mE} (t0 : Option Nat) (i1 : Int32) (M : mM) : mVr E mi_M_sends 4 0 [some (.inr t0), some (.inl i1), none] [] M enU (q_M_sends t0 i1 M) := by
  unfold q_M_sends
  refine m_aload_n (d_M_sends (k := 0) rfl) rfl ?_
  refine m_getR (d_M_sends (k := 1) rfl) fl_M_89 rfl (fun a1 => ?_)
  refine m_iload_n (d_M_sends (k := 2) rfl) rfl ?_
  refine m_iconst (v := 0) (d_M_sends (k := 3) rfl) (by decide) ?_
  refine m_zast (d_M_sends (k := 4) rfl) (fun M => ?_)
  refine m_aload_n (d_M_sends (k := 5) rfl) rfl ?_
  refine m_getR (d_M_sends (k := 6) rfl) fl_M_68 rfl (fun a2 => ?_)
  refine m_iload_n (d_M_sends (k := 7) rfl) rfl ?_
  refine m_zald (d_M_sends (k := 8) rfl) (fun x3 => ?_)
  refine m_if_ne (tgt := 17) (d_M_sends (k := 9) rfl) rfl ?_ ?_
  · exact m_vret (d_M_sends (k := 10) rfl) rfl
  · refine m_aload_n (d_M_sends (k := 11) rfl) rfl ?_
    refine m_getR (d_M_sends (k := 12) rfl) fl_M_74 rfl (fun a4 => ?_)
    refine m_iload_n (d_M_sends (k := 13) rfl) rfl ?_
    refine m_iald (d_M_sends (k := 14) rfl) (fun x5 => ?_)
    refine m_aload_n (d_M_sends (k := 15) rfl) rfl ?_
    refine m_getR (d_M_sends (k := 16) rfl) fl_M_71 rfl (fun a6 => ?_)
    refine m_iload_n (d_M_sends (k := 17) rfl) rfl ?_
    refine m_iald (d_M_sends (k := 18) rfl) (fun x7 => ?_)
    refine m_icmp_ne (tgt := 64) (d_M_sends (k := 19) rfl) rfl ?_ ?_
    · refine m_aload_n (d_M_sends (k := 20) rfl) rfl ?_
      refine m_getR (d_M_sends (k := 21) rfl) fl_M_50 rfl (fun a8 => ?_)
      refine m_iload_n (d_M_sends (k := 22) rfl) rfl ?_
      refine m_iald (d_M_sends (k := 23) rfl) (fun x9 => ?_)
      refine m_if_eq (tgt := 51) (d_M_sends (k := 24) rfl) rfl ?_ ?_
      · exact m_drop (mles_s (mles_s (mles_n mles_0))) (v_M_sends_51 t0 i1 M)
      · refine m_aload_n (d_M_sends (k := 25) rfl) rfl ?_
        refine m_getR (d_M_sends (k := 26) rfl) fl_M_80 rfl (fun a10 => ?_)
        refine m_iload_n (d_M_sends (k := 27) rfl) rfl ?_
        refine m_iald (d_M_sends (k := 28) rfl) (fun x11 => ?_)
        refine m_iconst (v := 4) (d_M_sends (k := 29) rfl) (by decide) ?_
        refine m_icmp_ne (tgt := 59) (d_M_sends (k := 30) rfl) rfl ?_ ?_
        · exact m_drop (mles_s (mles_s (mles_n mles_0))) (v_M_sends_51 t0 i1 M)
        · refine m_aload_n (d_M_sends (k := 37) rfl) rfl ?_
          refine m_iload_n (d_M_sends (k := 38) rfl) rfl ?_
          refine m_cvU (c := 10) (vs := [.inl i1]) (st := []) (d_M_sends (k := 39) rfl) (s_M_takesFrame t0 i1 M) cd_M_takesFrame ml_M_280 im_M_takesFrame se_M_takesFrame rfl (by decide) rfl (Nat.le_of_ble_eq_true rfl) (fun _ M => ?_)
          exact m_drop (mles_s (mles_s (mles_n mles_0))) (v_M_sends_64 t0 i1 M)
    · exact m_drop (mles_s (mles_s (mles_n mles_0))) (v_M_sends_64 t0 i1 M)
theorem s_M_sends {E : mE} (t0 : Option Nat) (i1 : Int32) (M : mM) : mSnd E mi_M_sends 4 [.inr t0, .inl i1] M enU (q_M_sends t0 i1 M) := m_entryU (by decide) (Nat.le_of_ble_eq_true rfl) rfl (m_drop (mles_s (mles_s (mles_e mles_0))) (v_M_sends t0 i1 M))
def dt_M_answer : List (Nat × Instr × Nat) := [(0, .aload_n 0, 1), (1, .getfield 344, 3), (4, .ifCond .ne 7, 3), (7, .iconst (-1), 1), (8, .goto 14, 3), (11, .aload_n 0, 1), (12, .getfield 104, 3), (15, .aload_n 0, 1), (16, .getfield 344, 3), (19, .iconst 1, 1), (20, .isub, 1), (21, .iaload, 1), (22, .istore_n 3, 1), (23, .aload_n 0, 1), (24, .aload_n 0, 1), (25, .getfield 337, 3), (28, .iload_n 1, 1), (29, .iload_n 3, 1), (30, .aload_n 0, 1), (31, .getfield 344, 3), (34, .iconst 2, 1), (35, .if_icmp .ne 12, 3), (38, .aload_n 0, 1), (39, .getfield 104, 3), (42, .iconst 0, 1), (43, .iaload, 1), (44, .goto 4, 3), (47, .iconst (-1), 1), (48, .iconst 0, 1), (49, .invokevirtual 387, 3), (52, .aload_n 0, 1), (53, .iload_n 2, 1), (54, .aload_n 0, 1), (55, .getfield 363, 3), (58, .ifCond .eq 8, 3), (61, .bipush 16, 2), (63, .goto 4, 3), (66, .iconst 0, 1), (67, .iadd, 1), (68, .invokevirtual 270, 3), (71, .aload_n 0, 1), (72, .aload_n 0, 1), (73, .getfield 369, 3), (76, .invokevirtual 270, 3), (79, .aload_n 0, 1), (80, .iload_n 1, 1), (81, .invokevirtual 273, 3), (84, .return_, 1)]
theorem dx_M_answer : ∀ p ∈ dt_M_answer, decode prog_12_method_52_code p.1 = .ok p.2 := by decide +kernel
theorem d_M_answer {k pc : Nat} {i : Instr} {n : Nat} (h : dt_M_answer[k]? = some (pc, i, n)) : decode mi_M_answer.2.1 pc = .ok (i, n) := dx_M_answer (pc, i, n) (List.mem_of_getElem? h)
def q_M_answer_67 (t0 : Option Nat) (i1 : Int32) (j0 : Int32) (j1 : Int32) (u2 : Option Nat) (M : mM) : Option (Unit × mM) :=
    x_cv M 10 u2 (q_M_put u2 (j1 + j0) M) fun _ M =>
    x_gI M 10 t0 42 fun x1 =>
    x_cv M 10 t0 (q_M_put t0 x1 M) fun _ M =>
    x_cv M 10 t0 (q_M_enqueue t0 i1 M) fun _ M =>
    some ((), M)
set_option maxRecDepth 20000 in
theorem v_M_answer_67 {E : mE} (t0 : Option Nat) (i1 : Int32) (j0 : Int32) (j1 : Int32) (u2 : Option Nat) (M : mM) : mVr E mi_M_answer 3 67 [some (.inr t0), some (.inl i1), none, none] [.inl j0, .inl j1, .inr u2] M enU (q_M_answer_67 t0 i1 j0 j1 u2 M) := by
  unfold q_M_answer_67
  refine m_iadd (d_M_answer (k := 38) rfl) ?_
  refine m_cvU (c := 10) (vs := [.inl (j1 + j0)]) (st := []) (d_M_answer (k := 39) rfl) (s_M_put u2 (j1 + j0) M) cd_M_put ml_M_270 im_M_put se_M_put rfl (by decide) rfl (Nat.le_of_ble_eq_true rfl) (fun _ M => ?_)
  refine m_aload_n (d_M_answer (k := 40) rfl) rfl ?_
  refine m_aload_n (d_M_answer (k := 41) rfl) rfl ?_
  refine m_getI (d_M_answer (k := 42) rfl) fl_M_369 rfl (fun x1 => ?_)
  refine m_cvU (c := 10) (vs := [.inl x1]) (st := []) (d_M_answer (k := 43) rfl) (s_M_put t0 x1 M) cd_M_put ml_M_270 im_M_put se_M_put rfl (by decide) rfl (Nat.le_of_ble_eq_true rfl) (fun _ M => ?_)
  refine m_aload_n (d_M_answer (k := 44) rfl) rfl ?_
  refine m_iload_n (d_M_answer (k := 45) rfl) rfl ?_
  refine m_cvU (c := 10) (vs := [.inl i1]) (st := []) (d_M_answer (k := 46) rfl) (s_M_enqueue t0 i1 M) cd_M_enqueue ml_M_273 im_M_enqueue se_M_enqueue rfl (by decide) rfl (Nat.le_of_ble_eq_true rfl) (fun _ M => ?_)
  exact m_vret (d_M_answer (k := 47) rfl) rfl
def q_M_answer_48 (t0 : Option Nat) (i1 : Int32) (i2 : Int32) (j0 : Int32) (j1 : Int32) (j2 : Int32) (j3 : Int32) (u4 : Option Nat) (M : mM) : Option (Unit × mM) :=
    x_cv M 10 u4 (q_M_begin u4 j3 j2 j1 j0 (0 : Int32) M) fun _ M =>
    x_gI M 10 t0 45 fun x1 =>
    if x1 = 0 then
      q_M_answer_67 t0 i1 (0 : Int32) i2 t0 M
    else
      q_M_answer_67 t0 i1 (16 : Int32) i2 t0 M
set_option maxRecDepth 20000 in
theorem v_M_answer_48 {E : mE} (t0 : Option Nat) (i1 : Int32) (i2 : Int32) (j0 : Int32) (j1 : Int32) (j2 : Int32) (j3 : Int32) (u4 : Option Nat) (M : mM) : mVr E mi_M_answer 3 48 [some (.inr t0), some (.inl i1), some (.inl i2), none] [.inl j0, .inl j1, .inl j2, .inl j3, .inr u4] M enU (q_M_answer_48 t0 i1 i2 j0 j1 j2 j3 u4 M) := by
  unfold q_M_answer_48
  refine m_iconst (v := 0) (d_M_answer (k := 28) rfl) (by decide) ?_
  refine m_cvU (c := 10) (vs := [.inl j3, .inl j2, .inl j1, .inl j0, .inl (0 : Int32)]) (st := []) (d_M_answer (k := 29) rfl) (s_M_begin u4 j3 j2 j1 j0 (0 : Int32) M) cd_M_begin ml_M_387 im_M_begin se_M_begin rfl (by decide) rfl (Nat.le_of_ble_eq_true rfl) (fun _ M => ?_)
  refine m_aload_n (d_M_answer (k := 30) rfl) rfl ?_
  refine m_iload_n (d_M_answer (k := 31) rfl) rfl ?_
  refine m_aload_n (d_M_answer (k := 32) rfl) rfl ?_
  refine m_getI (d_M_answer (k := 33) rfl) fl_M_363 rfl (fun x1 => ?_)
  refine m_if_eq (tgt := 66) (d_M_answer (k := 34) rfl) rfl ?_ ?_
  · refine m_iconst (v := 0) (d_M_answer (k := 37) rfl) (by decide) ?_
    exact m_drop (mles_s (mles_s (mles_n (mles_n mles_0)))) (v_M_answer_67 t0 i1 (0 : Int32) i2 t0 M)
  · refine m_bipush (v := 16) (d_M_answer (k := 35) rfl) (by decide) ?_
    refine m_goto (tgt := 67) (d_M_answer (k := 36) rfl) rfl ?_
    exact m_drop (mles_s (mles_s (mles_n (mles_n mles_0)))) (v_M_answer_67 t0 i1 (16 : Int32) i2 t0 M)
def q_M_answer_22 (t0 : Option Nat) (i1 : Int32) (i2 : Int32) (j0 : Int32) (M : mM) : Option (Unit × mM) :=
    x_gI M 10 t0 39 fun x1 =>
    x_gI M 10 t0 40 fun x2 =>
    if x2 = (2 : Int32) then
      x_gR M 10 t0 46 fun a3 =>
      x_aI M 0 a3 (0 : Int32) fun x4 =>
      q_M_answer_48 t0 i1 i2 x4 j0 i1 x1 t0 M
    else
      q_M_answer_48 t0 i1 i2 (-1 : Int32) j0 i1 x1 t0 M
set_option maxRecDepth 20000 in
theorem v_M_answer_22 {E : mE} (t0 : Option Nat) (i1 : Int32) (i2 : Int32) (j0 : Int32) (M : mM) : mVr E mi_M_answer 3 22 [some (.inr t0), some (.inl i1), some (.inl i2), none] [.inl j0] M enU (q_M_answer_22 t0 i1 i2 j0 M) := by
  unfold q_M_answer_22
  refine m_ist_n (ls' := [some (.inr t0), some (.inl i1), some (.inl i2), some (.inl j0)]) (d_M_answer (k := 12) rfl) (by decide) rfl ?_
  refine m_aload_n (d_M_answer (k := 13) rfl) rfl ?_
  refine m_aload_n (d_M_answer (k := 14) rfl) rfl ?_
  refine m_getI (d_M_answer (k := 15) rfl) fl_M_337 rfl (fun x1 => ?_)
  refine m_iload_n (d_M_answer (k := 16) rfl) rfl ?_
  refine m_iload_n (d_M_answer (k := 17) rfl) rfl ?_
  refine m_aload_n (d_M_answer (k := 18) rfl) rfl ?_
  refine m_getI (d_M_answer (k := 19) rfl) fl_M_344 rfl (fun x2 => ?_)
  refine m_iconst (v := 2) (d_M_answer (k := 20) rfl) (by decide) ?_
  refine m_icmp_ne (tgt := 47) (d_M_answer (k := 21) rfl) rfl ?_ ?_
  · refine m_aload_n (d_M_answer (k := 22) rfl) rfl ?_
    refine m_getR (d_M_answer (k := 23) rfl) fl_M_104 rfl (fun a3 => ?_)
    refine m_iconst (v := 0) (d_M_answer (k := 24) rfl) (by decide) ?_
    refine m_iald (d_M_answer (k := 25) rfl) (fun x4 => ?_)
    refine m_goto (tgt := 48) (d_M_answer (k := 26) rfl) rfl ?_
    exact m_drop (mles_s (mles_s (mles_s (mles_n mles_0)))) (v_M_answer_48 t0 i1 i2 x4 j0 i1 x1 t0 M)
  · refine m_iconst (v := (-1)) (d_M_answer (k := 27) rfl) (by decide) ?_
    exact m_drop (mles_s (mles_s (mles_s (mles_n mles_0)))) (v_M_answer_48 t0 i1 i2 (-1 : Int32) j0 i1 x1 t0 M)
def q_M_answer (t0 : Option Nat) (i1 : Int32) (i2 : Int32) (M : mM) : Option (Unit × mM) :=
    x_gI M 10 t0 40 fun x1 =>
    if x1 = 0 then
      q_M_answer_22 t0 i1 i2 (-1 : Int32) M
    else
      x_gR M 10 t0 46 fun a2 =>
      x_gI M 10 t0 40 fun x3 =>
      x_aI M 0 a2 (x3 - (1 : Int32)) fun x4 =>
      q_M_answer_22 t0 i1 i2 x4 M
set_option maxRecDepth 20000 in
theorem v_M_answer {E : mE} (t0 : Option Nat) (i1 : Int32) (i2 : Int32) (M : mM) : mVr E mi_M_answer 3 0 [some (.inr t0), some (.inl i1), some (.inl i2), none] [] M enU (q_M_answer t0 i1 i2 M) := by
  unfold q_M_answer
  refine m_aload_n (d_M_answer (k := 0) rfl) rfl ?_
  refine m_getI (d_M_answer (k := 1) rfl) fl_M_344 rfl (fun x1 => ?_)
  refine m_if_ne (tgt := 11) (d_M_answer (k := 2) rfl) rfl ?_ ?_
  · refine m_iconst (v := (-1)) (d_M_answer (k := 3) rfl) (by decide) ?_
    refine m_goto (tgt := 22) (d_M_answer (k := 4) rfl) rfl ?_
    exact m_drop (mles_s (mles_s (mles_s (mles_n mles_0)))) (v_M_answer_22 t0 i1 i2 (-1 : Int32) M)
  · refine m_aload_n (d_M_answer (k := 5) rfl) rfl ?_
    refine m_getR (d_M_answer (k := 6) rfl) fl_M_104 rfl (fun a2 => ?_)
    refine m_aload_n (d_M_answer (k := 7) rfl) rfl ?_
    refine m_getI (d_M_answer (k := 8) rfl) fl_M_344 rfl (fun x3 => ?_)
    refine m_iconst (v := 1) (d_M_answer (k := 9) rfl) (by decide) ?_
    refine m_isub (d_M_answer (k := 10) rfl) ?_
    refine m_iald (d_M_answer (k := 11) rfl) (fun x4 => ?_)
    exact m_drop (mles_s (mles_s (mles_s (mles_n mles_0)))) (v_M_answer_22 t0 i1 i2 x4 M)
theorem s_M_answer {E : mE} (t0 : Option Nat) (i1 : Int32) (i2 : Int32) (M : mM) : mSnd E mi_M_answer 3 [.inr t0, .inl i1, .inl i2] M enU (q_M_answer t0 i1 i2 M) := m_entryU (by decide) (Nat.le_of_ble_eq_true rfl) rfl (m_drop (mles_s (mles_s (mles_s (mles_e mles_0)))) (v_M_answer t0 i1 i2 M))
def dt_M_comesUp_0 : List (Nat × Instr × Nat) := [(0, .aload_n 0, 1), (1, .getfield 369, 3), (4, .bipush 127, 2), (6, .if_icmp .le 7, 3), (9, .iconst 1, 1), (10, .goto 4, 3), (13, .iconst 0, 1), (14, .aload_n 0, 1), (15, .getfield 337, 3), (18, .iload_n 1, 1), (19, .if_icmp .le 7, 3), (22, .iconst 1, 1), (23, .goto 4, 3), (26, .iconst 0, 1), (27, .if_icmp .eq 4, 3), (30, .return_, 1), (31, .aload_n 0, 1), (32, .getfield 369, 3), (35, .aload_n 0, 1), (36, .getfield 119, 3), (39, .iload_n 2, 1), (40, .iaload, 1), (41, .if_icmp .ne 26, 3), (44, .aload_n 0, 1), (45, .iload_n 1, 1), (46, .aload_n 0, 1), (47, .getfield 110, 3), (50, .iload_n 2, 1), (51, .iaload, 1), (52, .iconst 2, 1), (53, .if_icmp .ne 8, 3), (56, .bipush 99, 2), (58, .goto 5, 3), (61, .bipush 15, 2), (63, .invokevirtual 407, 3), (66, .return_, 1), (67, .aload_n 0, 1), (68, .getfield 369, 3), (71, .bipush 127, 2), (73, .iand, 1)]
theorem dx_M_comesUp_0 : ∀ p ∈ dt_M_comesUp_0, decode prog_12_method_61_code p.1 = .ok p.2 := by decide +kernel
theorem d_M_comesUp_0 {k pc : Nat} {i : Instr} {n : Nat} (h : dt_M_comesUp_0[k]? = some (pc, i, n)) : decode mi_M_comesUp.2.1 pc = .ok (i, n) := dx_M_comesUp_0 (pc, i, n) (List.mem_of_getElem? h)
def dt_M_comesUp_1 : List (Nat × Instr × Nat) := [(74, .istore_n 3, 1), (75, .iload_n 3, 1), (76, .aload_n 0, 1), (77, .getfield 149, 3), (80, .iload_n 2, 1), (81, .iaload, 1), (82, .isub, 1), (83, .bipush 127, 2), (85, .iand, 1), (86, .istore 4, 2), (88, .iload 4, 2), (90, .iconst 1, 1), (91, .if_icmp .lt 10, 3), (94, .iload 4, 2), (96, .bipush 63, 2), (98, .if_icmp .le 4, 3), (101, .return_, 1), (102, .aload_n 0, 1), (103, .getfield 149, 3), (106, .iload_n 2, 1), (107, .iload_n 3, 1), (108, .iastore, 1), (109, .aload_n 0, 1), (110, .getfield 110, 3), (113, .iload_n 2, 1), (114, .iaload, 1), (115, .iconst 1, 1), (116, .if_icmp .ne 19, 3), (119, .iload_n 1, 1), (120, .aload_n 0, 1), (121, .getfield 337, 3), (124, .if_icmp .ge 11, 3), (127, .aload_n 0, 1), (128, .iload_n 1, 1), (129, .bipush 15, 2), (131, .invokevirtual 407, 3), (134, .return_, 1), (135, .aload_n 0, 1), (136, .iload_n 2, 1), (137, .invokevirtual 401, 3)]
theorem dx_M_comesUp_1 : ∀ p ∈ dt_M_comesUp_1, decode prog_12_method_61_code p.1 = .ok p.2 := by decide +kernel
theorem d_M_comesUp_1 {k pc : Nat} {i : Instr} {n : Nat} (h : dt_M_comesUp_1[k]? = some (pc, i, n)) : decode mi_M_comesUp.2.1 pc = .ok (i, n) := dx_M_comesUp_1 (pc, i, n) (List.mem_of_getElem? h)
def dt_M_comesUp_2 : List (Nat × Instr × Nat) := [(140, .aload_n 0, 1), (141, .getfield 119, 3), (144, .iload_n 2, 1), (145, .aload_n 0, 1), (146, .getfield 369, 3), (149, .iastore, 1), (150, .aload_n 0, 1), (151, .getfield 113, 3), (154, .iload_n 2, 1), (155, .aload_n 0, 1), (156, .getfield 344, 3), (159, .ifCond .ne 7, 3), (162, .iconst (-1), 1), (163, .goto 14, 3), (166, .aload_n 0, 1), (167, .getfield 104, 3), (170, .aload_n 0, 1), (171, .getfield 344, 3), (174, .iconst 1, 1), (175, .isub, 1), (176, .iaload, 1), (177, .iastore, 1), (178, .aload_n 0, 1), (179, .getfield 116, 3), (182, .iload_n 2, 1), (183, .aload_n 0, 1), (184, .getfield 344, 3), (187, .iconst 2, 1), (188, .if_icmp .ne 12, 3), (191, .aload_n 0, 1), (192, .getfield 104, 3), (195, .iconst 0, 1), (196, .iaload, 1), (197, .goto 4, 3), (200, .iconst (-1), 1), (201, .iastore, 1), (202, .aload_n 0, 1), (203, .getfield 110, 3), (206, .iload_n 2, 1), (207, .iconst 2, 1)]
theorem dx_M_comesUp_2 : ∀ p ∈ dt_M_comesUp_2, decode prog_12_method_61_code p.1 = .ok p.2 := by decide +kernel
theorem d_M_comesUp_2 {k pc : Nat} {i : Instr} {n : Nat} (h : dt_M_comesUp_2[k]? = some (pc, i, n)) : decode mi_M_comesUp.2.1 pc = .ok (i, n) := dx_M_comesUp_2 (pc, i, n) (List.mem_of_getElem? h)
def dt_M_comesUp_3 : List (Nat × Instr × Nat) := [(208, .iastore, 1), (209, .aload_n 0, 1), (210, .iload_n 1, 1), (211, .bipush 99, 2), (213, .invokevirtual 407, 3), (216, .return_, 1)]
theorem dx_M_comesUp_3 : ∀ p ∈ dt_M_comesUp_3, decode prog_12_method_61_code p.1 = .ok p.2 := by decide +kernel
theorem d_M_comesUp_3 {k pc : Nat} {i : Instr} {n : Nat} (h : dt_M_comesUp_3[k]? = some (pc, i, n)) : decode mi_M_comesUp.2.1 pc = .ok (i, n) := dx_M_comesUp_3 (pc, i, n) (List.mem_of_getElem? h)
def q_M_comesUp_63 (j0 : Int32) (j1 : Int32) (u2 : Option Nat) (M : mM) : Option (Unit × mM) :=
    x_cv M 10 u2 (q_M_answer u2 j1 j0 M) fun _ M =>
    some ((), M)
set_option maxRecDepth 20000 in
theorem v_M_comesUp_63 {E : mE} (j0 : Int32) (j1 : Int32) (u2 : Option Nat) (M : mM) : mVr E mi_M_comesUp 4 63 [none, none, none, none, none] [.inl j0, .inl j1, .inr u2] M enU (q_M_comesUp_63 j0 j1 u2 M) := by
  unfold q_M_comesUp_63
  refine m_cvU (c := 10) (vs := [.inl j1, .inl j0]) (st := []) (d_M_comesUp_0 (k := 34) rfl) (s_M_answer u2 j1 j0 M) cd_M_answer ml_M_407 im_M_answer se_M_answer rfl (by decide) rfl (Nat.le_of_ble_eq_true rfl) (fun _ M => ?_)
  exact m_vret (d_M_comesUp_0 (k := 35) rfl) rfl
def q_M_comesUp_201 (t0 : Option Nat) (i1 : Int32) (i2 : Int32) (j0 : Int32) (j1 : Int32) (u2 : Option Nat) (M : mM) : Option (Unit × mM) :=
    x_wI M u2 j1 j0 fun M =>
    x_gR M 10 t0 49 fun a1 =>
    x_wI M a1 i2 (2 : Int32) fun M =>
    x_cv M 10 t0 (q_M_answer t0 i1 (99 : Int32) M) fun _ M =>
    some ((), M)
set_option maxRecDepth 20000 in
theorem v_M_comesUp_201 {E : mE} (t0 : Option Nat) (i1 : Int32) (i2 : Int32) (j0 : Int32) (j1 : Int32) (u2 : Option Nat) (M : mM) : mVr E mi_M_comesUp 4 201 [some (.inr t0), some (.inl i1), some (.inl i2), none, none] [.inl j0, .inl j1, .inr u2] M enU (q_M_comesUp_201 t0 i1 i2 j0 j1 u2 M) := by
  unfold q_M_comesUp_201
  refine m_iast (d_M_comesUp_2 (k := 35) rfl) (fun M => ?_)
  refine m_aload_n (d_M_comesUp_2 (k := 36) rfl) rfl ?_
  refine m_getR (d_M_comesUp_2 (k := 37) rfl) fl_M_110 rfl (fun a1 => ?_)
  refine m_iload_n (d_M_comesUp_2 (k := 38) rfl) rfl ?_
  refine m_iconst (v := 2) (d_M_comesUp_2 (k := 39) rfl) (by decide) ?_
  refine m_iast (d_M_comesUp_3 (k := 0) rfl) (fun M => ?_)
  refine m_aload_n (d_M_comesUp_3 (k := 1) rfl) rfl ?_
  refine m_iload_n (d_M_comesUp_3 (k := 2) rfl) rfl ?_
  refine m_bipush (v := 99) (d_M_comesUp_3 (k := 3) rfl) (by decide) ?_
  refine m_cvU (c := 10) (vs := [.inl i1, .inl (99 : Int32)]) (st := []) (d_M_comesUp_3 (k := 4) rfl) (s_M_answer t0 i1 (99 : Int32) M) cd_M_answer ml_M_407 im_M_answer se_M_answer rfl (by decide) rfl (Nat.le_of_ble_eq_true rfl) (fun _ M => ?_)
  exact m_vret (d_M_comesUp_3 (k := 5) rfl) rfl
def q_M_comesUp_177 (t0 : Option Nat) (i1 : Int32) (i2 : Int32) (j0 : Int32) (j1 : Int32) (u2 : Option Nat) (M : mM) : Option (Unit × mM) :=
    x_wI M u2 j1 j0 fun M =>
    x_gR M 10 t0 51 fun a1 =>
    x_gI M 10 t0 40 fun x2 =>
    if x2 = (2 : Int32) then
      x_gR M 10 t0 46 fun a3 =>
      x_aI M 0 a3 (0 : Int32) fun x4 =>
      q_M_comesUp_201 t0 i1 i2 x4 i2 a1 M
    else
      q_M_comesUp_201 t0 i1 i2 (-1 : Int32) i2 a1 M
set_option maxRecDepth 20000 in
theorem v_M_comesUp_177 {E : mE} (t0 : Option Nat) (i1 : Int32) (i2 : Int32) (j0 : Int32) (j1 : Int32) (u2 : Option Nat) (M : mM) : mVr E mi_M_comesUp 4 177 [some (.inr t0), some (.inl i1), some (.inl i2), none, none] [.inl j0, .inl j1, .inr u2] M enU (q_M_comesUp_177 t0 i1 i2 j0 j1 u2 M) := by
  unfold q_M_comesUp_177
  refine m_iast (d_M_comesUp_2 (k := 21) rfl) (fun M => ?_)
  refine m_aload_n (d_M_comesUp_2 (k := 22) rfl) rfl ?_
  refine m_getR (d_M_comesUp_2 (k := 23) rfl) fl_M_116 rfl (fun a1 => ?_)
  refine m_iload_n (d_M_comesUp_2 (k := 24) rfl) rfl ?_
  refine m_aload_n (d_M_comesUp_2 (k := 25) rfl) rfl ?_
  refine m_getI (d_M_comesUp_2 (k := 26) rfl) fl_M_344 rfl (fun x2 => ?_)
  refine m_iconst (v := 2) (d_M_comesUp_2 (k := 27) rfl) (by decide) ?_
  refine m_icmp_ne (tgt := 200) (d_M_comesUp_2 (k := 28) rfl) rfl ?_ ?_
  · refine m_aload_n (d_M_comesUp_2 (k := 29) rfl) rfl ?_
    refine m_getR (d_M_comesUp_2 (k := 30) rfl) fl_M_104 rfl (fun a3 => ?_)
    refine m_iconst (v := 0) (d_M_comesUp_2 (k := 31) rfl) (by decide) ?_
    refine m_iald (d_M_comesUp_2 (k := 32) rfl) (fun x4 => ?_)
    refine m_goto (tgt := 201) (d_M_comesUp_2 (k := 33) rfl) rfl ?_
    exact m_drop (mles_s (mles_s (mles_s (mles_n (mles_n mles_0))))) (v_M_comesUp_201 t0 i1 i2 x4 i2 a1 M)
  · refine m_iconst (v := (-1)) (d_M_comesUp_2 (k := 34) rfl) (by decide) ?_
    exact m_drop (mles_s (mles_s (mles_s (mles_n (mles_n mles_0))))) (v_M_comesUp_201 t0 i1 i2 (-1 : Int32) i2 a1 M)
def q_M_comesUp_135 (t0 : Option Nat) (i1 : Int32) (i2 : Int32) (M : mM) : Option (Unit × mM) :=
    x_cv M 10 t0 (q_M_clear t0 i2 M) fun _ M =>
    x_gR M 10 t0 52 fun a1 =>
    x_gI M 10 t0 42 fun x2 =>
    x_wI M a1 i2 x2 fun M =>
    x_gR M 10 t0 50 fun a3 =>
    x_gI M 10 t0 40 fun x4 =>
    if x4 = 0 then
      q_M_comesUp_177 t0 i1 i2 (-1 : Int32) i2 a3 M
    else
      x_gR M 10 t0 46 fun a5 =>
      x_gI M 10 t0 40 fun x6 =>
      x_aI M 0 a5 (x6 - (1 : Int32)) fun x7 =>
      q_M_comesUp_177 t0 i1 i2 x7 i2 a3 M
set_option maxRecDepth 20000 in
theorem v_M_comesUp_135 {E : mE} (t0 : Option Nat) (i1 : Int32) (i2 : Int32) (M : mM) : mVr E mi_M_comesUp 4 135 [some (.inr t0), some (.inl i1), some (.inl i2), none, none] [] M enU (q_M_comesUp_135 t0 i1 i2 M) := by
  unfold q_M_comesUp_135
  refine m_aload_n (d_M_comesUp_1 (k := 37) rfl) rfl ?_
  refine m_iload_n (d_M_comesUp_1 (k := 38) rfl) rfl ?_
  refine m_cvU (c := 10) (vs := [.inl i2]) (st := []) (d_M_comesUp_1 (k := 39) rfl) (s_M_clear t0 i2 M) cd_M_clear ml_M_401 im_M_clear se_M_clear rfl (by decide) rfl (Nat.le_of_ble_eq_true rfl) (fun _ M => ?_)
  refine m_aload_n (d_M_comesUp_2 (k := 0) rfl) rfl ?_
  refine m_getR (d_M_comesUp_2 (k := 1) rfl) fl_M_119 rfl (fun a1 => ?_)
  refine m_iload_n (d_M_comesUp_2 (k := 2) rfl) rfl ?_
  refine m_aload_n (d_M_comesUp_2 (k := 3) rfl) rfl ?_
  refine m_getI (d_M_comesUp_2 (k := 4) rfl) fl_M_369 rfl (fun x2 => ?_)
  refine m_iast (d_M_comesUp_2 (k := 5) rfl) (fun M => ?_)
  refine m_aload_n (d_M_comesUp_2 (k := 6) rfl) rfl ?_
  refine m_getR (d_M_comesUp_2 (k := 7) rfl) fl_M_113 rfl (fun a3 => ?_)
  refine m_iload_n (d_M_comesUp_2 (k := 8) rfl) rfl ?_
  refine m_aload_n (d_M_comesUp_2 (k := 9) rfl) rfl ?_
  refine m_getI (d_M_comesUp_2 (k := 10) rfl) fl_M_344 rfl (fun x4 => ?_)
  refine m_if_ne (tgt := 166) (d_M_comesUp_2 (k := 11) rfl) rfl ?_ ?_
  · refine m_iconst (v := (-1)) (d_M_comesUp_2 (k := 12) rfl) (by decide) ?_
    refine m_goto (tgt := 177) (d_M_comesUp_2 (k := 13) rfl) rfl ?_
    exact m_drop (mles_s (mles_s (mles_s (mles_n (mles_n mles_0))))) (v_M_comesUp_177 t0 i1 i2 (-1 : Int32) i2 a3 M)
  · refine m_aload_n (d_M_comesUp_2 (k := 14) rfl) rfl ?_
    refine m_getR (d_M_comesUp_2 (k := 15) rfl) fl_M_104 rfl (fun a5 => ?_)
    refine m_aload_n (d_M_comesUp_2 (k := 16) rfl) rfl ?_
    refine m_getI (d_M_comesUp_2 (k := 17) rfl) fl_M_344 rfl (fun x6 => ?_)
    refine m_iconst (v := 1) (d_M_comesUp_2 (k := 18) rfl) (by decide) ?_
    refine m_isub (d_M_comesUp_2 (k := 19) rfl) ?_
    refine m_iald (d_M_comesUp_2 (k := 20) rfl) (fun x7 => ?_)
    exact m_drop (mles_s (mles_s (mles_s (mles_n (mles_n mles_0))))) (v_M_comesUp_177 t0 i1 i2 x7 i2 a3 M)
def q_M_comesUp_27 (t0 : Option Nat) (i1 : Int32) (i2 : Int32) (j0 : Int32) (j1 : Int32) (M : mM) : Option (Unit × mM) :=
    if j1 = j0 then
      x_gI M 10 t0 42 fun x1 =>
      x_gR M 10 t0 52 fun a2 =>
      x_aI M 0 a2 i2 fun x3 =>
      if x1 = x3 then
        x_gR M 10 t0 49 fun a4 =>
        x_aI M 0 a4 i2 fun x5 =>
        if x5 = (2 : Int32) then
          q_M_comesUp_63 (99 : Int32) i1 t0 M
        else
          q_M_comesUp_63 (15 : Int32) i1 t0 M
      else
        x_gI M 10 t0 42 fun x6 =>
        x_lt (x6 &&& (127 : Int32)) fun x7 =>
        x_gR M 10 t0 62 fun a8 =>
        x_aI M 0 a8 i2 fun x9 =>
        x_lt ((x7 - x9) &&& (127 : Int32)) fun x10 =>
        if x10 < (1 : Int32) then
          some ((), M)
        else
          if (63 : Int32) < x10 then
            some ((), M)
          else
            x_gR M 10 t0 62 fun a11 =>
            x_wI M a11 i2 x7 fun M =>
            x_gR M 10 t0 49 fun a12 =>
            x_aI M 0 a12 i2 fun x13 =>
            if x13 = (1 : Int32) then
              x_gI M 10 t0 39 fun x14 =>
              if i1 < x14 then
                x_cv M 10 t0 (q_M_answer t0 i1 (15 : Int32) M) fun _ M =>
                some ((), M)
              else
                q_M_comesUp_135 t0 i1 i2 M
            else
              q_M_comesUp_135 t0 i1 i2 M
    else
      some ((), M)
set_option maxRecDepth 20000 in
theorem v_M_comesUp_27 {E : mE} (t0 : Option Nat) (i1 : Int32) (i2 : Int32) (j0 : Int32) (j1 : Int32) (M : mM) : mVr E mi_M_comesUp 4 27 [some (.inr t0), some (.inl i1), some (.inl i2), none, none] [.inl j0, .inl j1] M enU (q_M_comesUp_27 t0 i1 i2 j0 j1 M) := by
  unfold q_M_comesUp_27
  refine m_icmp_eq (tgt := 31) (d_M_comesUp_0 (k := 14) rfl) rfl ?_ ?_
  · refine m_aload_n (d_M_comesUp_0 (k := 16) rfl) rfl ?_
    refine m_getI (d_M_comesUp_0 (k := 17) rfl) fl_M_369 rfl (fun x1 => ?_)
    refine m_aload_n (d_M_comesUp_0 (k := 18) rfl) rfl ?_
    refine m_getR (d_M_comesUp_0 (k := 19) rfl) fl_M_119 rfl (fun a2 => ?_)
    refine m_iload_n (d_M_comesUp_0 (k := 20) rfl) rfl ?_
    refine m_iald (d_M_comesUp_0 (k := 21) rfl) (fun x3 => ?_)
    refine m_icmp_ne (tgt := 67) (d_M_comesUp_0 (k := 22) rfl) rfl ?_ ?_
    · refine m_aload_n (d_M_comesUp_0 (k := 23) rfl) rfl ?_
      refine m_iload_n (d_M_comesUp_0 (k := 24) rfl) rfl ?_
      refine m_aload_n (d_M_comesUp_0 (k := 25) rfl) rfl ?_
      refine m_getR (d_M_comesUp_0 (k := 26) rfl) fl_M_110 rfl (fun a4 => ?_)
      refine m_iload_n (d_M_comesUp_0 (k := 27) rfl) rfl ?_
      refine m_iald (d_M_comesUp_0 (k := 28) rfl) (fun x5 => ?_)
      refine m_iconst (v := 2) (d_M_comesUp_0 (k := 29) rfl) (by decide) ?_
      refine m_icmp_ne (tgt := 61) (d_M_comesUp_0 (k := 30) rfl) rfl ?_ ?_
      · refine m_bipush (v := 99) (d_M_comesUp_0 (k := 31) rfl) (by decide) ?_
        refine m_goto (tgt := 63) (d_M_comesUp_0 (k := 32) rfl) rfl ?_
        exact m_drop (mles_n (mles_n (mles_n (mles_n (mles_n mles_0))))) (v_M_comesUp_63 (99 : Int32) i1 t0 M)
      · refine m_bipush (v := 15) (d_M_comesUp_0 (k := 33) rfl) (by decide) ?_
        exact m_drop (mles_n (mles_n (mles_n (mles_n (mles_n mles_0))))) (v_M_comesUp_63 (15 : Int32) i1 t0 M)
    · refine m_aload_n (d_M_comesUp_0 (k := 36) rfl) rfl ?_
      refine m_getI (d_M_comesUp_0 (k := 37) rfl) fl_M_369 rfl (fun x6 => ?_)
      refine m_bipush (v := 127) (d_M_comesUp_0 (k := 38) rfl) (by decide) ?_
      refine m_iand (d_M_comesUp_0 (k := 39) rfl) ?_
      refine m_lt (fun x7 => ?_)
      refine m_ist_n (ls' := [some (.inr t0), some (.inl i1), some (.inl i2), some (.inl x7), none]) (d_M_comesUp_1 (k := 0) rfl) (by decide) rfl ?_
      refine m_iload_n (d_M_comesUp_1 (k := 1) rfl) rfl ?_
      refine m_aload_n (d_M_comesUp_1 (k := 2) rfl) rfl ?_
      refine m_getR (d_M_comesUp_1 (k := 3) rfl) fl_M_149 rfl (fun a8 => ?_)
      refine m_iload_n (d_M_comesUp_1 (k := 4) rfl) rfl ?_
      refine m_iald (d_M_comesUp_1 (k := 5) rfl) (fun x9 => ?_)
      refine m_isub (d_M_comesUp_1 (k := 6) rfl) ?_
      refine m_bipush (v := 127) (d_M_comesUp_1 (k := 7) rfl) (by decide) ?_
      refine m_iand (d_M_comesUp_1 (k := 8) rfl) ?_
      refine m_lt (fun x10 => ?_)
      refine m_ist (ls' := [some (.inr t0), some (.inl i1), some (.inl i2), some (.inl x7), some (.inl x10)]) (d_M_comesUp_1 (k := 9) rfl) (by decide) rfl ?_
      refine m_iload (d_M_comesUp_1 (k := 10) rfl) rfl ?_
      refine m_iconst (v := 1) (d_M_comesUp_1 (k := 11) rfl) (by decide) ?_
      refine m_icmp_lt (tgt := 101) (d_M_comesUp_1 (k := 12) rfl) rfl ?_ ?_
      · exact m_vret (d_M_comesUp_1 (k := 16) rfl) rfl
      · refine m_iload (d_M_comesUp_1 (k := 13) rfl) rfl ?_
        refine m_bipush (v := 63) (d_M_comesUp_1 (k := 14) rfl) (by decide) ?_
        refine m_icmp_le (tgt := 102) (d_M_comesUp_1 (k := 15) rfl) rfl ?_ ?_
        · exact m_vret (d_M_comesUp_1 (k := 16) rfl) rfl
        · refine m_aload_n (d_M_comesUp_1 (k := 17) rfl) rfl ?_
          refine m_getR (d_M_comesUp_1 (k := 18) rfl) fl_M_149 rfl (fun a11 => ?_)
          refine m_iload_n (d_M_comesUp_1 (k := 19) rfl) rfl ?_
          refine m_iload_n (d_M_comesUp_1 (k := 20) rfl) rfl ?_
          refine m_iast (d_M_comesUp_1 (k := 21) rfl) (fun M => ?_)
          refine m_aload_n (d_M_comesUp_1 (k := 22) rfl) rfl ?_
          refine m_getR (d_M_comesUp_1 (k := 23) rfl) fl_M_110 rfl (fun a12 => ?_)
          refine m_iload_n (d_M_comesUp_1 (k := 24) rfl) rfl ?_
          refine m_iald (d_M_comesUp_1 (k := 25) rfl) (fun x13 => ?_)
          refine m_iconst (v := 1) (d_M_comesUp_1 (k := 26) rfl) (by decide) ?_
          refine m_icmp_ne (tgt := 135) (d_M_comesUp_1 (k := 27) rfl) rfl ?_ ?_
          · refine m_iload_n (d_M_comesUp_1 (k := 28) rfl) rfl ?_
            refine m_aload_n (d_M_comesUp_1 (k := 29) rfl) rfl ?_
            refine m_getI (d_M_comesUp_1 (k := 30) rfl) fl_M_337 rfl (fun x14 => ?_)
            refine m_icmp_ge (tgt := 135) (d_M_comesUp_1 (k := 31) rfl) rfl ?_ ?_
            · refine m_aload_n (d_M_comesUp_1 (k := 32) rfl) rfl ?_
              refine m_iload_n (d_M_comesUp_1 (k := 33) rfl) rfl ?_
              refine m_bipush (v := 15) (d_M_comesUp_1 (k := 34) rfl) (by decide) ?_
              refine m_cvU (c := 10) (vs := [.inl i1, .inl (15 : Int32)]) (st := []) (d_M_comesUp_1 (k := 35) rfl) (s_M_answer t0 i1 (15 : Int32) M) cd_M_answer ml_M_407 im_M_answer se_M_answer rfl (by decide) rfl (Nat.le_of_ble_eq_true rfl) (fun _ M => ?_)
              exact m_vret (d_M_comesUp_1 (k := 36) rfl) rfl
            · exact m_drop (mles_s (mles_s (mles_s (mles_n (mles_n mles_0))))) (v_M_comesUp_135 t0 i1 i2 M)
          · exact m_drop (mles_s (mles_s (mles_s (mles_n (mles_n mles_0))))) (v_M_comesUp_135 t0 i1 i2 M)
  · exact m_vret (d_M_comesUp_0 (k := 15) rfl) rfl
def q_M_comesUp_14 (t0 : Option Nat) (i1 : Int32) (i2 : Int32) (j0 : Int32) (M : mM) : Option (Unit × mM) :=
    x_gI M 10 t0 39 fun x1 =>
    if i1 < x1 then
      q_M_comesUp_27 t0 i1 i2 (1 : Int32) j0 M
    else
      q_M_comesUp_27 t0 i1 i2 (0 : Int32) j0 M
set_option maxRecDepth 20000 in
theorem v_M_comesUp_14 {E : mE} (t0 : Option Nat) (i1 : Int32) (i2 : Int32) (j0 : Int32) (M : mM) : mVr E mi_M_comesUp 4 14 [some (.inr t0), some (.inl i1), some (.inl i2), none, none] [.inl j0] M enU (q_M_comesUp_14 t0 i1 i2 j0 M) := by
  unfold q_M_comesUp_14
  refine m_aload_n (d_M_comesUp_0 (k := 7) rfl) rfl ?_
  refine m_getI (d_M_comesUp_0 (k := 8) rfl) fl_M_337 rfl (fun x1 => ?_)
  refine m_iload_n (d_M_comesUp_0 (k := 9) rfl) rfl ?_
  refine m_icmp_le (tgt := 26) (d_M_comesUp_0 (k := 10) rfl) rfl ?_ ?_
  · refine m_iconst (v := 1) (d_M_comesUp_0 (k := 11) rfl) (by decide) ?_
    refine m_goto (tgt := 27) (d_M_comesUp_0 (k := 12) rfl) rfl ?_
    exact m_drop (mles_s (mles_s (mles_s (mles_n (mles_n mles_0))))) (v_M_comesUp_27 t0 i1 i2 (1 : Int32) j0 M)
  · refine m_iconst (v := 0) (d_M_comesUp_0 (k := 13) rfl) (by decide) ?_
    exact m_drop (mles_s (mles_s (mles_s (mles_n (mles_n mles_0))))) (v_M_comesUp_27 t0 i1 i2 (0 : Int32) j0 M)
def q_M_comesUp (t0 : Option Nat) (i1 : Int32) (i2 : Int32) (M : mM) : Option (Unit × mM) :=
    x_gI M 10 t0 42 fun x1 =>
    if (127 : Int32) < x1 then
      q_M_comesUp_14 t0 i1 i2 (1 : Int32) M
    else
      q_M_comesUp_14 t0 i1 i2 (0 : Int32) M
set_option maxRecDepth 20000 in
theorem v_M_comesUp {E : mE} (t0 : Option Nat) (i1 : Int32) (i2 : Int32) (M : mM) : mVr E mi_M_comesUp 4 0 [some (.inr t0), some (.inl i1), some (.inl i2), none, none] [] M enU (q_M_comesUp t0 i1 i2 M) := by
  unfold q_M_comesUp
  refine m_aload_n (d_M_comesUp_0 (k := 0) rfl) rfl ?_
  refine m_getI (d_M_comesUp_0 (k := 1) rfl) fl_M_369 rfl (fun x1 => ?_)
  refine m_bipush (v := 127) (d_M_comesUp_0 (k := 2) rfl) (by decide) ?_
  refine m_icmp_le (tgt := 13) (d_M_comesUp_0 (k := 3) rfl) rfl ?_ ?_
  · refine m_iconst (v := 1) (d_M_comesUp_0 (k := 4) rfl) (by decide) ?_
    refine m_goto (tgt := 14) (d_M_comesUp_0 (k := 5) rfl) rfl ?_
    exact m_drop (mles_s (mles_s (mles_s (mles_n (mles_n mles_0))))) (v_M_comesUp_14 t0 i1 i2 (1 : Int32) M)
  · refine m_iconst (v := 0) (d_M_comesUp_0 (k := 6) rfl) (by decide) ?_
    exact m_drop (mles_s (mles_s (mles_s (mles_n (mles_n mles_0))))) (v_M_comesUp_14 t0 i1 i2 (0 : Int32) M)
theorem s_M_comesUp {E : mE} (t0 : Option Nat) (i1 : Int32) (i2 : Int32) (M : mM) : mSnd E mi_M_comesUp 4 [.inr t0, .inl i1, .inl i2] M enU (q_M_comesUp t0 i1 i2 M) := m_entryU (by decide) (Nat.le_of_ble_eq_true rfl) rfl (m_drop (mles_s (mles_s (mles_s (mles_e (mles_e mles_0))))) (v_M_comesUp t0 i1 i2 M))
def dt_M_again : List (Nat × Instr × Nat) := [(0, .bipush 6, 2), (2, .iload_n 1, 1), (3, .imul, 1), (4, .iload_n 2, 1), (5, .iadd, 1), (6, .istore_n 3, 1), (7, .aload_n 0, 1), (8, .getfield 182, 3), (11, .iload_n 3, 1), (12, .iaload, 1), (13, .ifCond .ne 4, 3), (16, .return_, 1), (17, .aload_n 0, 1), (18, .getfield 131, 3), (21, .iload_n 3, 1), (22, .aload_n 0, 1), (23, .getfield 44, 3), (26, .bipush 9, 2), (28, .iload_n 1, 1), (29, .imul, 1), (30, .iconst 4, 1), (31, .iadd, 1), (32, .iaload, 1), (33, .iastore, 1), (34, .iconst 0, 1), (35, .istore 4, 2), (37, .iload 4, 2), (39, .aload_n 0, 1), (40, .getfield 182, 3), (43, .iload_n 3, 1), (44, .iaload, 1), (45, .if_icmp .ge 26, 3), (48, .aload_n 0, 1), (49, .getfield 143, 3), (52, .iload_n 3, 1), (53, .baload, 1), (54, .ifCond .ne 17, 3), (57, .aload_n 0, 1), (58, .iload_n 1, 1), (59, .iload_n 2, 1), (60, .iload 4, 2), (62, .invokevirtual 417, 3), (65, .iinc 4 1, 3), (68, .goto (-31), 3), (71, .return_, 1)]
theorem dx_M_again : ∀ p ∈ dt_M_again, decode prog_12_method_62_code p.1 = .ok p.2 := by decide +kernel
theorem d_M_again {k pc : Nat} {i : Instr} {n : Nat} (h : dt_M_again[k]? = some (pc, i, n)) : decode mi_M_again.2.1 pc = .ok (i, n) := dx_M_again (pc, i, n) (List.mem_of_getElem? h)
def q_M_again_37_b (r37 : Option Nat → Int32 → Int32 → Int32 → Int32 → mM → Option (Unit × mM)) (t0 : Option Nat) (i1 : Int32) (i2 : Int32) (i3 : Int32) (i4 : Int32) (M : mM) : Option (Unit × mM) :=
    x_gR M 10 t0 73 fun a1 =>
    x_aI M 0 a1 i3 fun x2 =>
    if i4 < x2 then
      x_gR M 10 t0 60 fun a3 =>
      x_aI M 1 a3 i3 fun x4 =>
      if x4 = 0 then
        x_cv M 10 t0 (q_M_sayAgain t0 i1 i2 i4 M) fun _ M =>
        r37 t0 i1 i2 i3 (i4 + 1) M
      else
        some ((), M)
    else
      some ((), M)
def q_M_again_37 : Nat → Option Nat → Int32 → Int32 → Int32 → Int32 → mM → Option (Unit × mM)
  | 0, _, _, _, _, _, _ => none
  | n + 1, t0, i1, i2, i3, i4, M => q_M_again_37_b (q_M_again_37 n) t0 i1 i2 i3 i4 M
set_option maxRecDepth 20000 in
theorem v_M_again_37_b {E : mE} (r37 : Option Nat → Int32 → Int32 → Int32 → Int32 → mM → Option (Unit × mM)) (h37 : ∀ (t0 : Option Nat) (i1 : Int32) (i2 : Int32) (i3 : Int32) (i4 : Int32) (M : mM), mVr E mi_M_again 4 37 [some (.inr t0), some (.inl i1), some (.inl i2), some (.inl i3), some (.inl i4)] [] M enU (r37 t0 i1 i2 i3 i4 M)) (t0 : Option Nat) (i1 : Int32) (i2 : Int32) (i3 : Int32) (i4 : Int32) (M : mM) : mVr E mi_M_again 4 37 [some (.inr t0), some (.inl i1), some (.inl i2), some (.inl i3), some (.inl i4)] [] M enU (q_M_again_37_b r37 t0 i1 i2 i3 i4 M) := by
  unfold q_M_again_37_b
  refine m_iload (d_M_again (k := 26) rfl) rfl ?_
  refine m_aload_n (d_M_again (k := 27) rfl) rfl ?_
  refine m_getR (d_M_again (k := 28) rfl) fl_M_182 rfl (fun a1 => ?_)
  refine m_iload_n (d_M_again (k := 29) rfl) rfl ?_
  refine m_iald (d_M_again (k := 30) rfl) (fun x2 => ?_)
  refine m_icmp_ge (tgt := 71) (d_M_again (k := 31) rfl) rfl ?_ ?_
  · refine m_aload_n (d_M_again (k := 32) rfl) rfl ?_
    refine m_getR (d_M_again (k := 33) rfl) fl_M_143 rfl (fun a3 => ?_)
    refine m_iload_n (d_M_again (k := 34) rfl) rfl ?_
    refine m_zald (d_M_again (k := 35) rfl) (fun x4 => ?_)
    refine m_if_ne (tgt := 71) (d_M_again (k := 36) rfl) rfl ?_ ?_
    · refine m_aload_n (d_M_again (k := 37) rfl) rfl ?_
      refine m_iload_n (d_M_again (k := 38) rfl) rfl ?_
      refine m_iload_n (d_M_again (k := 39) rfl) rfl ?_
      refine m_iload (d_M_again (k := 40) rfl) rfl ?_
      refine m_cvU (c := 10) (vs := [.inl i1, .inl i2, .inl i4]) (st := []) (d_M_again (k := 41) rfl) (s_M_sayAgain t0 i1 i2 i4 M) cd_M_sayAgain ml_M_417 im_M_sayAgain se_M_sayAgain rfl (by decide) rfl (Nat.le_of_ble_eq_true rfl) (fun _ M => ?_)
      refine m_inc (v := 1) (ls' := [some (.inr t0), some (.inl i1), some (.inl i2), some (.inl i3), some (.inl (i4 + 1))]) (d_M_again (k := 42) rfl) rfl (by decide) (by decide) rfl ?_
      refine m_goto (tgt := 37) (d_M_again (k := 43) rfl) rfl ?_
      exact m_drop (mles_s (mles_s (mles_s (mles_s (mles_s mles_0))))) (h37 t0 i1 i2 i3 (i4 + 1) M)
    · exact m_vret (d_M_again (k := 44) rfl) rfl
  · exact m_vret (d_M_again (k := 44) rfl) rfl
theorem v_M_again_37 {E : mE} : ∀ (n : Nat) (t0 : Option Nat) (i1 : Int32) (i2 : Int32) (i3 : Int32) (i4 : Int32) (M : mM), mVr E mi_M_again 4 37 [some (.inr t0), some (.inl i1), some (.inl i2), some (.inl i3), some (.inl i4)] [] M enU (q_M_again_37 n t0 i1 i2 i3 i4 M)
  | 0, _, _, _, _, _, _ => m_none
  | n + 1, t0, i1, i2, i3, i4, M => v_M_again_37_b _ (v_M_again_37 n) t0 i1 i2 i3 i4 M
def q_M_again (t0 : Option Nat) (i1 : Int32) (i2 : Int32) (M : mM) : Option (Unit × mM) :=
    x_lt (((6 : Int32) * i1) + i2) fun x1 =>
    x_gR M 10 t0 73 fun a2 =>
    x_aI M 0 a2 x1 fun x3 =>
    if x3 = 0 then
      some ((), M)
    else
      x_gR M 10 t0 56 fun a4 =>
      x_gR M 10 t0 16 fun a5 =>
      x_aI M 0 a5 (((9 : Int32) * i1) + (4 : Int32)) fun x6 =>
      x_wI M a4 x1 x6 fun M =>
      q_M_again_37 mFU t0 i1 i2 x1 (0 : Int32) M
set_option maxRecDepth 20000 in
theorem v_M_again {E : mE} (t0 : Option Nat) (i1 : Int32) (i2 : Int32) (M : mM) : mVr E mi_M_again 4 0 [some (.inr t0), some (.inl i1), some (.inl i2), none, none] [] M enU (q_M_again t0 i1 i2 M) := by
  unfold q_M_again
  refine m_bipush (v := 6) (d_M_again (k := 0) rfl) (by decide) ?_
  refine m_iload_n (d_M_again (k := 1) rfl) rfl ?_
  refine m_imul (d_M_again (k := 2) rfl) ?_
  refine m_iload_n (d_M_again (k := 3) rfl) rfl ?_
  refine m_iadd (d_M_again (k := 4) rfl) ?_
  refine m_lt (fun x1 => ?_)
  refine m_ist_n (ls' := [some (.inr t0), some (.inl i1), some (.inl i2), some (.inl x1), none]) (d_M_again (k := 5) rfl) (by decide) rfl ?_
  refine m_aload_n (d_M_again (k := 6) rfl) rfl ?_
  refine m_getR (d_M_again (k := 7) rfl) fl_M_182 rfl (fun a2 => ?_)
  refine m_iload_n (d_M_again (k := 8) rfl) rfl ?_
  refine m_iald (d_M_again (k := 9) rfl) (fun x3 => ?_)
  refine m_if_ne (tgt := 17) (d_M_again (k := 10) rfl) rfl ?_ ?_
  · exact m_vret (d_M_again (k := 11) rfl) rfl
  · refine m_aload_n (d_M_again (k := 12) rfl) rfl ?_
    refine m_getR (d_M_again (k := 13) rfl) fl_M_131 rfl (fun a4 => ?_)
    refine m_iload_n (d_M_again (k := 14) rfl) rfl ?_
    refine m_aload_n (d_M_again (k := 15) rfl) rfl ?_
    refine m_getR (d_M_again (k := 16) rfl) fl_M_44 rfl (fun a5 => ?_)
    refine m_bipush (v := 9) (d_M_again (k := 17) rfl) (by decide) ?_
    refine m_iload_n (d_M_again (k := 18) rfl) rfl ?_
    refine m_imul (d_M_again (k := 19) rfl) ?_
    refine m_iconst (v := 4) (d_M_again (k := 20) rfl) (by decide) ?_
    refine m_iadd (d_M_again (k := 21) rfl) ?_
    refine m_iald (d_M_again (k := 22) rfl) (fun x6 => ?_)
    refine m_iast (d_M_again (k := 23) rfl) (fun M => ?_)
    refine m_iconst (v := 0) (d_M_again (k := 24) rfl) (by decide) ?_
    refine m_ist (ls' := [some (.inr t0), some (.inl i1), some (.inl i2), some (.inl x1), some (.inl (0 : Int32))]) (d_M_again (k := 25) rfl) (by decide) rfl ?_
    exact m_drop (mles_s (mles_s (mles_s (mles_s (mles_s mles_0))))) (v_M_again_37 mFU t0 i1 i2 x1 (0 : Int32) M)
theorem s_M_again {E : mE} (t0 : Option Nat) (i1 : Int32) (i2 : Int32) (M : mM) : mSnd E mi_M_again 4 [.inr t0, .inl i1, .inl i2] M enU (q_M_again t0 i1 i2 M) := m_entryU (by decide) (Nat.le_of_ble_eq_true rfl) rfl (m_drop (mles_s (mles_s (mles_s (mles_e (mles_e mles_0))))) (v_M_again t0 i1 i2 M))
def dt_M_supervised : List (Nat × Instr × Nat) := [(0, .aload_n 0, 1), (1, .getfield 143, 3), (4, .iload_n 3, 1), (5, .iload 4, 2), (7, .iconst 5, 1), (8, .if_icmp .ne 7, 3), (11, .iconst 1, 1), (12, .goto 4, 3), (15, .iconst 0, 1), (16, .bastore, 1), (17, .aload_n 0, 1), (18, .getfield 340, 3), (21, .ifCond .ne 49, 3), (24, .aload_n 0, 1), (25, .getfield 363, 3), (28, .ifCond .eq 42, 3), (31, .aload_n 0, 1), (32, .getfield 137, 3), (35, .iload_n 3, 1), (36, .baload, 1), (37, .ifCond .eq 33, 3), (40, .aload_n 0, 1), (41, .getfield 137, 3), (44, .iload_n 3, 1), (45, .iconst 0, 1), (46, .bastore, 1), (47, .aload_n 0, 1), (48, .getfield 134, 3), (51, .iload_n 3, 1), (52, .iconst 0, 1), (53, .iastore, 1), (54, .aload_n 0, 1), (55, .getfield 131, 3), (58, .iload_n 3, 1), (59, .iconst 0, 1), (60, .iastore, 1), (61, .aload_n 0, 1), (62, .iload_n 1, 1), (63, .iload_n 2, 1), (64, .invokevirtual 427, 3), (67, .goto 25, 3), (70, .iload 4, 2), (72, .bipush 9, 2), (74, .if_icmp .ne 18, 3), (77, .aload_n 0, 1), (78, .getfield 137, 3), (81, .iload_n 3, 1), (82, .baload, 1), (83, .ifCond .ne 9, 3), (86, .aload_n 0, 1), (87, .iload_n 1, 1), (88, .iload_n 2, 1), (89, .invokevirtual 427, 3), (92, .aload_n 0, 1), (93, .getfield 340, 3), (96, .ifCond .eq 23, 3), (99, .aload_n 0, 1), (100, .getfield 363, 3), (103, .ifCond .eq 16, 3), (106, .aload_n 0, 1), (107, .iload_n 1, 1), (108, .iload_n 2, 1), (109, .iconst 0, 1), (110, .aload_n 0, 1), (111, .iload_n 3, 1), (112, .invokevirtual 430, 3), (115, .iconst 1, 1), (116, .invokevirtual 433, 3), (119, .return_, 1)]
theorem dx_M_supervised : ∀ p ∈ dt_M_supervised, decode prog_12_method_64_code p.1 = .ok p.2 := by decide +kernel
theorem d_M_supervised {k pc : Nat} {i : Instr} {n : Nat} (h : dt_M_supervised[k]? = some (pc, i, n)) : decode mi_M_supervised.2.1 pc = .ok (i, n) := dx_M_supervised (pc, i, n) (List.mem_of_getElem? h)
def q_M_supervised_92 (t0 : Option Nat) (i1 : Int32) (i2 : Int32) (i3 : Int32) (M : mM) : Option (Unit × mM) :=
    x_gI M 10 t0 44 fun x1 =>
    if x1 = 0 then
      some ((), M)
    else
      x_gI M 10 t0 45 fun x2 =>
      if x2 = 0 then
        some ((), M)
      else
        x_cv M 10 t0 (q_M_ready t0 i3 M) fun x3 M =>
        x_cv M 10 t0 (q_M_sayNumber t0 i1 i2 (0 : Int32) x3 (1 : Int32) M) fun _ M =>
        some ((), M)
set_option maxRecDepth 20000 in
theorem v_M_supervised_92 {E : mE} (t0 : Option Nat) (i1 : Int32) (i2 : Int32) (i3 : Int32) (M : mM) : mVr E mi_M_supervised 5 92 [some (.inr t0), some (.inl i1), some (.inl i2), some (.inl i3), none] [] M enU (q_M_supervised_92 t0 i1 i2 i3 M) := by
  unfold q_M_supervised_92
  refine m_aload_n (d_M_supervised (k := 53) rfl) rfl ?_
  refine m_getI (d_M_supervised (k := 54) rfl) fl_M_340 rfl (fun x1 => ?_)
  refine m_if_eq (tgt := 119) (d_M_supervised (k := 55) rfl) rfl ?_ ?_
  · exact m_vret (d_M_supervised (k := 68) rfl) rfl
  · refine m_aload_n (d_M_supervised (k := 56) rfl) rfl ?_
    refine m_getI (d_M_supervised (k := 57) rfl) fl_M_363 rfl (fun x2 => ?_)
    refine m_if_eq (tgt := 119) (d_M_supervised (k := 58) rfl) rfl ?_ ?_
    · exact m_vret (d_M_supervised (k := 68) rfl) rfl
    · refine m_aload_n (d_M_supervised (k := 59) rfl) rfl ?_
      refine m_iload_n (d_M_supervised (k := 60) rfl) rfl ?_
      refine m_iload_n (d_M_supervised (k := 61) rfl) rfl ?_
      refine m_iconst (v := 0) (d_M_supervised (k := 62) rfl) (by decide) ?_
      refine m_aload_n (d_M_supervised (k := 63) rfl) rfl ?_
      refine m_iload_n (d_M_supervised (k := 64) rfl) rfl ?_
      refine m_cvI (c := 10) (vs := [.inl i3]) (st := [.inl (0 : Int32), .inl i2, .inl i1, .inr t0]) (d_M_supervised (k := 65) rfl) (s_M_ready t0 i3 M) cd_M_ready ml_M_430 im_M_ready se_M_ready rfl (by decide) rfl (Nat.le_of_ble_eq_true rfl) (fun x3 M => ?_)
      refine m_iconst (v := 1) (d_M_supervised (k := 66) rfl) (by decide) ?_
      refine m_cvU (c := 10) (vs := [.inl i1, .inl i2, .inl (0 : Int32), .inl x3, .inl (1 : Int32)]) (st := []) (d_M_supervised (k := 67) rfl) (s_M_sayNumber t0 i1 i2 (0 : Int32) x3 (1 : Int32) M) cd_M_sayNumber ml_M_433 im_M_sayNumber se_M_sayNumber rfl (by decide) rfl (Nat.le_of_ble_eq_true rfl) (fun _ M => ?_)
      exact m_vret (d_M_supervised (k := 68) rfl) rfl
def q_M_supervised_70 (t0 : Option Nat) (i1 : Int32) (i2 : Int32) (i3 : Int32) (i4 : Int32) (M : mM) : Option (Unit × mM) :=
    if i4 = (9 : Int32) then
      x_gR M 10 t0 58 fun a1 =>
      x_aI M 1 a1 i3 fun x2 =>
      if x2 = 0 then
        x_cv M 10 t0 (q_M_again t0 i1 i2 M) fun _ M =>
        q_M_supervised_92 t0 i1 i2 i3 M
      else
        q_M_supervised_92 t0 i1 i2 i3 M
    else
      q_M_supervised_92 t0 i1 i2 i3 M
set_option maxRecDepth 20000 in
theorem v_M_supervised_70 {E : mE} (t0 : Option Nat) (i1 : Int32) (i2 : Int32) (i3 : Int32) (i4 : Int32) (M : mM) : mVr E mi_M_supervised 5 70 [some (.inr t0), some (.inl i1), some (.inl i2), some (.inl i3), some (.inl i4)] [] M enU (q_M_supervised_70 t0 i1 i2 i3 i4 M) := by
  unfold q_M_supervised_70
  refine m_iload (d_M_supervised (k := 41) rfl) rfl ?_
  refine m_bipush (v := 9) (d_M_supervised (k := 42) rfl) (by decide) ?_
  refine m_icmp_ne (tgt := 92) (d_M_supervised (k := 43) rfl) rfl ?_ ?_
  · refine m_aload_n (d_M_supervised (k := 44) rfl) rfl ?_
    refine m_getR (d_M_supervised (k := 45) rfl) fl_M_137 rfl (fun a1 => ?_)
    refine m_iload_n (d_M_supervised (k := 46) rfl) rfl ?_
    refine m_zald (d_M_supervised (k := 47) rfl) (fun x2 => ?_)
    refine m_if_ne (tgt := 92) (d_M_supervised (k := 48) rfl) rfl ?_ ?_
    · refine m_aload_n (d_M_supervised (k := 49) rfl) rfl ?_
      refine m_iload_n (d_M_supervised (k := 50) rfl) rfl ?_
      refine m_iload_n (d_M_supervised (k := 51) rfl) rfl ?_
      refine m_cvU (c := 10) (vs := [.inl i1, .inl i2]) (st := []) (d_M_supervised (k := 52) rfl) (s_M_again t0 i1 i2 M) cd_M_again ml_M_427 im_M_again se_M_again rfl (by decide) rfl (Nat.le_of_ble_eq_true rfl) (fun _ M => ?_)
      exact m_drop (mles_s (mles_s (mles_s (mles_s (mles_n mles_0))))) (v_M_supervised_92 t0 i1 i2 i3 M)
    · exact m_drop (mles_s (mles_s (mles_s (mles_s (mles_n mles_0))))) (v_M_supervised_92 t0 i1 i2 i3 M)
  · exact m_drop (mles_s (mles_s (mles_s (mles_s (mles_n mles_0))))) (v_M_supervised_92 t0 i1 i2 i3 M)
def q_M_supervised_16 (t0 : Option Nat) (i1 : Int32) (i2 : Int32) (i3 : Int32) (i4 : Int32) (j0 : Int32) (j1 : Int32) (u2 : Option Nat) (M : mM) : Option (Unit × mM) :=
    x_wZ M u2 j1 j0 fun M =>
    x_gI M 10 t0 44 fun x1 =>
    if x1 = 0 then
      x_gI M 10 t0 45 fun x2 =>
      if x2 = 0 then
        q_M_supervised_70 t0 i1 i2 i3 i4 M
      else
        x_gR M 10 t0 58 fun a3 =>
        x_aI M 1 a3 i3 fun x4 =>
        if x4 = 0 then
          q_M_supervised_70 t0 i1 i2 i3 i4 M
        else
          x_gR M 10 t0 58 fun a5 =>
          x_wZ M a5 i3 (0 : Int32) fun M =>
          x_gR M 10 t0 57 fun a6 =>
          x_wI M a6 i3 (0 : Int32) fun M =>
          x_gR M 10 t0 56 fun a7 =>
          x_wI M a7 i3 (0 : Int32) fun M =>
          x_cv M 10 t0 (q_M_again t0 i1 i2 M) fun _ M =>
          q_M_supervised_92 t0 i1 i2 i3 M
    else
      q_M_supervised_70 t0 i1 i2 i3 i4 M
set_option maxRecDepth 20000 in
theorem v_M_supervised_16 {E : mE} (t0 : Option Nat) (i1 : Int32) (i2 : Int32) (i3 : Int32) (i4 : Int32) (j0 : Int32) (j1 : Int32) (u2 : Option Nat) (M : mM) : mVr E mi_M_supervised 5 16 [some (.inr t0), some (.inl i1), some (.inl i2), some (.inl i3), some (.inl i4)] [.inl j0, .inl j1, .inr u2] M enU (q_M_supervised_16 t0 i1 i2 i3 i4 j0 j1 u2 M) := by
  unfold q_M_supervised_16
  refine m_zast (d_M_supervised (k := 9) rfl) (fun M => ?_)
  refine m_aload_n (d_M_supervised (k := 10) rfl) rfl ?_
  refine m_getI (d_M_supervised (k := 11) rfl) fl_M_340 rfl (fun x1 => ?_)
  refine m_if_ne (tgt := 70) (d_M_supervised (k := 12) rfl) rfl ?_ ?_
  · refine m_aload_n (d_M_supervised (k := 13) rfl) rfl ?_
    refine m_getI (d_M_supervised (k := 14) rfl) fl_M_363 rfl (fun x2 => ?_)
    refine m_if_eq (tgt := 70) (d_M_supervised (k := 15) rfl) rfl ?_ ?_
    · exact m_drop (mles_s (mles_s (mles_s (mles_s (mles_s mles_0))))) (v_M_supervised_70 t0 i1 i2 i3 i4 M)
    · refine m_aload_n (d_M_supervised (k := 16) rfl) rfl ?_
      refine m_getR (d_M_supervised (k := 17) rfl) fl_M_137 rfl (fun a3 => ?_)
      refine m_iload_n (d_M_supervised (k := 18) rfl) rfl ?_
      refine m_zald (d_M_supervised (k := 19) rfl) (fun x4 => ?_)
      refine m_if_eq (tgt := 70) (d_M_supervised (k := 20) rfl) rfl ?_ ?_
      · exact m_drop (mles_s (mles_s (mles_s (mles_s (mles_s mles_0))))) (v_M_supervised_70 t0 i1 i2 i3 i4 M)
      · refine m_aload_n (d_M_supervised (k := 21) rfl) rfl ?_
        refine m_getR (d_M_supervised (k := 22) rfl) fl_M_137 rfl (fun a5 => ?_)
        refine m_iload_n (d_M_supervised (k := 23) rfl) rfl ?_
        refine m_iconst (v := 0) (d_M_supervised (k := 24) rfl) (by decide) ?_
        refine m_zast (d_M_supervised (k := 25) rfl) (fun M => ?_)
        refine m_aload_n (d_M_supervised (k := 26) rfl) rfl ?_
        refine m_getR (d_M_supervised (k := 27) rfl) fl_M_134 rfl (fun a6 => ?_)
        refine m_iload_n (d_M_supervised (k := 28) rfl) rfl ?_
        refine m_iconst (v := 0) (d_M_supervised (k := 29) rfl) (by decide) ?_
        refine m_iast (d_M_supervised (k := 30) rfl) (fun M => ?_)
        refine m_aload_n (d_M_supervised (k := 31) rfl) rfl ?_
        refine m_getR (d_M_supervised (k := 32) rfl) fl_M_131 rfl (fun a7 => ?_)
        refine m_iload_n (d_M_supervised (k := 33) rfl) rfl ?_
        refine m_iconst (v := 0) (d_M_supervised (k := 34) rfl) (by decide) ?_
        refine m_iast (d_M_supervised (k := 35) rfl) (fun M => ?_)
        refine m_aload_n (d_M_supervised (k := 36) rfl) rfl ?_
        refine m_iload_n (d_M_supervised (k := 37) rfl) rfl ?_
        refine m_iload_n (d_M_supervised (k := 38) rfl) rfl ?_
        refine m_cvU (c := 10) (vs := [.inl i1, .inl i2]) (st := []) (d_M_supervised (k := 39) rfl) (s_M_again t0 i1 i2 M) cd_M_again ml_M_427 im_M_again se_M_again rfl (by decide) rfl (Nat.le_of_ble_eq_true rfl) (fun _ M => ?_)
        refine m_goto (tgt := 92) (d_M_supervised (k := 40) rfl) rfl ?_
        exact m_drop (mles_s (mles_s (mles_s (mles_s (mles_n mles_0))))) (v_M_supervised_92 t0 i1 i2 i3 M)
  · exact m_drop (mles_s (mles_s (mles_s (mles_s (mles_s mles_0))))) (v_M_supervised_70 t0 i1 i2 i3 i4 M)
def q_M_supervised (t0 : Option Nat) (i1 : Int32) (i2 : Int32) (i3 : Int32) (i4 : Int32) (M : mM) : Option (Unit × mM) :=
    x_gR M 10 t0 60 fun a1 =>
    if i4 = (5 : Int32) then
      q_M_supervised_16 t0 i1 i2 i3 i4 (1 : Int32) i3 a1 M
    else
      q_M_supervised_16 t0 i1 i2 i3 i4 (0 : Int32) i3 a1 M
set_option maxRecDepth 20000 in
theorem v_M_supervised {E : mE} (t0 : Option Nat) (i1 : Int32) (i2 : Int32) (i3 : Int32) (i4 : Int32) (M : mM) : mVr E mi_M_supervised 5 0 [some (.inr t0), some (.inl i1), some (.inl i2), some (.inl i3), some (.inl i4)] [] M enU (q_M_supervised t0 i1 i2 i3 i4 M) := by
  unfold q_M_supervised
  refine m_aload_n (d_M_supervised (k := 0) rfl) rfl ?_
  refine m_getR (d_M_supervised (k := 1) rfl) fl_M_143 rfl (fun a1 => ?_)
  refine m_iload_n (d_M_supervised (k := 2) rfl) rfl ?_
  refine m_iload (d_M_supervised (k := 3) rfl) rfl ?_
  refine m_iconst (v := 5) (d_M_supervised (k := 4) rfl) (by decide) ?_
  refine m_icmp_ne (tgt := 15) (d_M_supervised (k := 5) rfl) rfl ?_ ?_
  · refine m_iconst (v := 1) (d_M_supervised (k := 6) rfl) (by decide) ?_
    refine m_goto (tgt := 16) (d_M_supervised (k := 7) rfl) rfl ?_
    exact m_drop (mles_s (mles_s (mles_s (mles_s (mles_s mles_0))))) (v_M_supervised_16 t0 i1 i2 i3 i4 (1 : Int32) i3 a1 M)
  · refine m_iconst (v := 0) (d_M_supervised (k := 8) rfl) (by decide) ?_
    exact m_drop (mles_s (mles_s (mles_s (mles_s (mles_s mles_0))))) (v_M_supervised_16 t0 i1 i2 i3 i4 (0 : Int32) i3 a1 M)
theorem s_M_supervised {E : mE} (t0 : Option Nat) (i1 : Int32) (i2 : Int32) (i3 : Int32) (i4 : Int32) (M : mM) : mSnd E mi_M_supervised 5 [.inr t0, .inl i1, .inl i2, .inl i3, .inl i4] M enU (q_M_supervised t0 i1 i2 i3 i4 M) := m_entryU (by decide) (Nat.le_of_ble_eq_true rfl) rfl (m_drop (mles_s (mles_s (mles_s (mles_s (mles_s mles_0))))) (v_M_supervised t0 i1 i2 i3 i4 M))
def dt_M_told_0 : List (Nat × Instr × Nat) := [(0, .aload_n 0, 1), (1, .getfield 363, 3), (4, .istore 4, 2), (6, .aload_n 0, 1), (7, .getfield 366, 3), (10, .iconst 1, 1), (11, .ishr, 1), (12, .bipush 7, 2), (14, .iand, 1), (15, .aload_n 0, 1), (16, .getfield 128, 3), (19, .iload_n 3, 1), (20, .iaload, 1), (21, .if_icmp .eq 31, 3), (24, .aload_n 0, 1), (25, .getfield 140, 3), (28, .iload_n 3, 1), (29, .baload, 1), (30, .ifCond .ne 14, 3), (33, .aload_n 0, 1), (34, .iload_n 1, 1), (35, .iload_n 2, 1), (36, .iconst 0, 1), (37, .bipush 9, 2), (39, .iload 4, 2), (41, .invokevirtual 433, 3), (44, .aload_n 0, 1), (45, .getfield 140, 3), (48, .iload_n 3, 1), (49, .iconst 1, 1), (50, .bastore, 1), (51, .return_, 1), (52, .aload_n 0, 1), (53, .iload_n 3, 1), (54, .invokevirtual 395, 3), (57, .ifCond .eq 14, 3), (60, .aload_n 0, 1), (61, .iload_n 1, 1), (62, .iload_n 2, 1), (63, .iconst 0, 1)]
theorem dx_M_told_0 : ∀ p ∈ dt_M_told_0, decode prog_12_method_65_code p.1 = .ok p.2 := by decide +kernel
theorem d_M_told_0 {k pc : Nat} {i : Instr} {n : Nat} (h : dt_M_told_0[k]? = some (pc, i, n)) : decode mi_M_told.2.1 pc = .ok (i, n) := dx_M_told_0 (pc, i, n) (List.mem_of_getElem? h)
def dt_M_told_1 : List (Nat × Instr × Nat) := [(64, .iconst 5, 1), (65, .iload 4, 2), (67, .invokevirtual 433, 3), (70, .return_, 1), (71, .aload_n 0, 1), (72, .getfield 128, 3), (75, .iload_n 3, 1), (76, .aload_n 0, 1), (77, .getfield 128, 3), (80, .iload_n 3, 1), (81, .iaload, 1), (82, .iconst 1, 1), (83, .iadd, 1), (84, .bipush 7, 2), (86, .iand, 1), (87, .iastore, 1), (88, .aload_n 0, 1), (89, .getfield 140, 3), (92, .iload_n 3, 1), (93, .iconst 0, 1), (94, .bastore, 1), (95, .aload_n 0, 1), (96, .getfield 347, 3), (99, .aload_n 0, 1), (100, .getfield 350, 3), (103, .isub, 1), (104, .iconst 3, 1), (105, .isub, 1), (106, .istore 5, 2), (108, .aload_n 0, 1), (109, .getfield 101, 3), (112, .aload_n 0, 1), (113, .getfield 350, 3), (116, .iconst 2, 1), (117, .iadd, 1), (118, .iaload, 1), (119, .sipush 240, 3), (122, .if_icmp .ne 66, 3), (125, .iconst 0, 1), (126, .istore 6, 2)]
theorem dx_M_told_1 : ∀ p ∈ dt_M_told_1, decode prog_12_method_65_code p.1 = .ok p.2 := by decide +kernel
theorem d_M_told_1 {k pc : Nat} {i : Instr} {n : Nat} (h : dt_M_told_1[k]? = some (pc, i, n)) : decode mi_M_told.2.1 pc = .ok (i, n) := dx_M_told_1 (pc, i, n) (List.mem_of_getElem? h)
def dt_M_told_2 : List (Nat × Instr × Nat) := [(128, .iload 6, 2), (130, .iload 5, 2), (132, .if_icmp .ge 42, 3), (135, .aload_n 0, 1), (136, .getfield 158, 3), (139, .bipush 64, 2), (141, .iload_n 3, 1), (142, .imul, 1), (143, .aload_n 0, 1), (144, .getfield 161, 3), (147, .iload_n 3, 1), (148, .iaload, 1), (149, .iadd, 1), (150, .iload 6, 2), (152, .iadd, 1), (153, .aload_n 0, 1), (154, .getfield 101, 3), (157, .aload_n 0, 1), (158, .getfield 350, 3), (161, .iconst 3, 1), (162, .iadd, 1), (163, .iload 6, 2), (165, .iadd, 1), (166, .iaload, 1), (167, .iastore, 1), (168, .iinc 6 1, 3), (171, .goto (-43), 3), (174, .aload_n 0, 1), (175, .getfield 161, 3), (178, .iload_n 3, 1), (179, .dup2, 1), (180, .iaload, 1), (181, .iload 5, 2), (183, .iadd, 1), (184, .iastore, 1), (185, .goto 51, 3), (188, .aload_n 0, 1), (189, .iload 5, 2), (191, .putfield 437, 3), (194, .iconst 0, 1)]
theorem dx_M_told_2 : ∀ p ∈ dt_M_told_2, decode prog_12_method_65_code p.1 = .ok p.2 := by decide +kernel
theorem d_M_told_2 {k pc : Nat} {i : Instr} {n : Nat} (h : dt_M_told_2[k]? = some (pc, i, n)) : decode mi_M_told.2.1 pc = .ok (i, n) := dx_M_told_2 (pc, i, n) (List.mem_of_getElem? h)
def dt_M_told_3 : List (Nat × Instr × Nat) := [(195, .istore 6, 2), (197, .iload 6, 2), (199, .iload 5, 2), (201, .if_icmp .ge 30, 3), (204, .aload_n 0, 1), (205, .getfield 191, 3), (208, .iload 6, 2), (210, .aload_n 0, 1), (211, .getfield 101, 3), (214, .aload_n 0, 1), (215, .getfield 350, 3), (218, .iconst 3, 1), (219, .iadd, 1), (220, .iload 6, 2), (222, .iadd, 1), (223, .iaload, 1), (224, .iastore, 1), (225, .iinc 6 1, 3), (228, .goto (-31), 3), (231, .aload_n 0, 1), (232, .iload_n 1, 1), (233, .invokevirtual 440, 3), (236, .aload_n 0, 1), (237, .iload_n 1, 1), (238, .iload_n 2, 1), (239, .iconst 0, 1), (240, .aload_n 0, 1), (241, .iload_n 3, 1), (242, .invokevirtual 430, 3), (245, .iload 4, 2), (247, .invokevirtual 433, 3), (250, .return_, 1)]
theorem dx_M_told_3 : ∀ p ∈ dt_M_told_3, decode prog_12_method_65_code p.1 = .ok p.2 := by decide +kernel
theorem d_M_told_3 {k pc : Nat} {i : Instr} {n : Nat} (h : dt_M_told_3[k]? = some (pc, i, n)) : decode mi_M_told.2.1 pc = .ok (i, n) := dx_M_told_3 (pc, i, n) (List.mem_of_getElem? h)
def q_M_told_236 (t0 : Option Nat) (i1 : Int32) (i2 : Int32) (i3 : Int32) (i4 : Int32) (M : mM) : Option (Unit × mM) :=
    x_cv M 10 t0 (q_M_ready t0 i3 M) fun x1 M =>
    x_cv M 10 t0 (q_M_sayNumber t0 i1 i2 (0 : Int32) x1 i4 M) fun _ M =>
    some ((), M)
set_option maxRecDepth 20000 in
theorem v_M_told_236 {E : mE} (t0 : Option Nat) (i1 : Int32) (i2 : Int32) (i3 : Int32) (i4 : Int32) (M : mM) : mVr E mi_M_told 6 236 [some (.inr t0), some (.inl i1), some (.inl i2), some (.inl i3), some (.inl i4), none, none] [] M enU (q_M_told_236 t0 i1 i2 i3 i4 M) := by
  unfold q_M_told_236
  refine m_aload_n (d_M_told_3 (k := 22) rfl) rfl ?_
  refine m_iload_n (d_M_told_3 (k := 23) rfl) rfl ?_
  refine m_iload_n (d_M_told_3 (k := 24) rfl) rfl ?_
  refine m_iconst (v := 0) (d_M_told_3 (k := 25) rfl) (by decide) ?_
  refine m_aload_n (d_M_told_3 (k := 26) rfl) rfl ?_
  refine m_iload_n (d_M_told_3 (k := 27) rfl) rfl ?_
  refine m_cvI (c := 10) (vs := [.inl i3]) (st := [.inl (0 : Int32), .inl i2, .inl i1, .inr t0]) (d_M_told_3 (k := 28) rfl) (s_M_ready t0 i3 M) cd_M_ready ml_M_430 im_M_ready se_M_ready rfl (by decide) rfl (Nat.le_of_ble_eq_true rfl) (fun x1 M => ?_)
  refine m_iload (d_M_told_3 (k := 29) rfl) rfl ?_
  refine m_cvU (c := 10) (vs := [.inl i1, .inl i2, .inl (0 : Int32), .inl x1, .inl i4]) (st := []) (d_M_told_3 (k := 30) rfl) (s_M_sayNumber t0 i1 i2 (0 : Int32) x1 i4 M) cd_M_sayNumber ml_M_433 im_M_sayNumber se_M_sayNumber rfl (by decide) rfl (Nat.le_of_ble_eq_true rfl) (fun _ M => ?_)
  exact m_vret (d_M_told_3 (k := 31) rfl) rfl
def q_M_told_128_b (r128 : Option Nat → Int32 → Int32 → Int32 → Int32 → Int32 → Int32 → mM → Option (Unit × mM)) (t0 : Option Nat) (i1 : Int32) (i2 : Int32) (i3 : Int32) (i4 : Int32) (i5 : Int32) (i6 : Int32) (M : mM) : Option (Unit × mM) :=
    if i6 < i5 then
      x_gR M 10 t0 65 fun a1 =>
      x_gR M 10 t0 66 fun a2 =>
      x_aI M 0 a2 i3 fun x3 =>
      x_gR M 10 t0 36 fun a4 =>
      x_gI M 10 t0 43 fun x5 =>
      x_aI M 0 a4 ((x5 + (3 : Int32)) + i6) fun x6 =>
      x_wI M a1 ((((64 : Int32) * i3) + x3) + i6) x6 fun M =>
      r128 t0 i1 i2 i3 i4 i5 (i6 + 1) M
    else
      x_gR M 10 t0 66 fun a7 =>
      x_aI M 0 a7 i3 fun x8 =>
      x_wI M a7 i3 (x8 + i5) fun M =>
      q_M_told_236 t0 i1 i2 i3 i4 M
def q_M_told_128 : Nat → Option Nat → Int32 → Int32 → Int32 → Int32 → Int32 → Int32 → mM → Option (Unit × mM)
  | 0, _, _, _, _, _, _, _, _ => none
  | n + 1, t0, i1, i2, i3, i4, i5, i6, M => q_M_told_128_b (q_M_told_128 n) t0 i1 i2 i3 i4 i5 i6 M
set_option maxRecDepth 20000 in
theorem v_M_told_128_b {E : mE} (r128 : Option Nat → Int32 → Int32 → Int32 → Int32 → Int32 → Int32 → mM → Option (Unit × mM)) (h128 : ∀ (t0 : Option Nat) (i1 : Int32) (i2 : Int32) (i3 : Int32) (i4 : Int32) (i5 : Int32) (i6 : Int32) (M : mM), mVr E mi_M_told 6 128 [some (.inr t0), some (.inl i1), some (.inl i2), some (.inl i3), some (.inl i4), some (.inl i5), some (.inl i6)] [] M enU (r128 t0 i1 i2 i3 i4 i5 i6 M)) (t0 : Option Nat) (i1 : Int32) (i2 : Int32) (i3 : Int32) (i4 : Int32) (i5 : Int32) (i6 : Int32) (M : mM) : mVr E mi_M_told 6 128 [some (.inr t0), some (.inl i1), some (.inl i2), some (.inl i3), some (.inl i4), some (.inl i5), some (.inl i6)] [] M enU (q_M_told_128_b r128 t0 i1 i2 i3 i4 i5 i6 M) := by
  unfold q_M_told_128_b
  refine m_iload (d_M_told_2 (k := 0) rfl) rfl ?_
  refine m_iload (d_M_told_2 (k := 1) rfl) rfl ?_
  refine m_icmp_ge (tgt := 174) (d_M_told_2 (k := 2) rfl) rfl ?_ ?_
  · refine m_aload_n (d_M_told_2 (k := 3) rfl) rfl ?_
    refine m_getR (d_M_told_2 (k := 4) rfl) fl_M_158 rfl (fun a1 => ?_)
    refine m_bipush (v := 64) (d_M_told_2 (k := 5) rfl) (by decide) ?_
    refine m_iload_n (d_M_told_2 (k := 6) rfl) rfl ?_
    refine m_imul (d_M_told_2 (k := 7) rfl) ?_
    refine m_aload_n (d_M_told_2 (k := 8) rfl) rfl ?_
    refine m_getR (d_M_told_2 (k := 9) rfl) fl_M_161 rfl (fun a2 => ?_)
    refine m_iload_n (d_M_told_2 (k := 10) rfl) rfl ?_
    refine m_iald (d_M_told_2 (k := 11) rfl) (fun x3 => ?_)
    refine m_iadd (d_M_told_2 (k := 12) rfl) ?_
    refine m_iload (d_M_told_2 (k := 13) rfl) rfl ?_
    refine m_iadd (d_M_told_2 (k := 14) rfl) ?_
    refine m_aload_n (d_M_told_2 (k := 15) rfl) rfl ?_
    refine m_getR (d_M_told_2 (k := 16) rfl) fl_M_101 rfl (fun a4 => ?_)
    refine m_aload_n (d_M_told_2 (k := 17) rfl) rfl ?_
    refine m_getI (d_M_told_2 (k := 18) rfl) fl_M_350 rfl (fun x5 => ?_)
    refine m_iconst (v := 3) (d_M_told_2 (k := 19) rfl) (by decide) ?_
    refine m_iadd (d_M_told_2 (k := 20) rfl) ?_
    refine m_iload (d_M_told_2 (k := 21) rfl) rfl ?_
    refine m_iadd (d_M_told_2 (k := 22) rfl) ?_
    refine m_iald (d_M_told_2 (k := 23) rfl) (fun x6 => ?_)
    refine m_iast (d_M_told_2 (k := 24) rfl) (fun M => ?_)
    refine m_inc (v := 1) (ls' := [some (.inr t0), some (.inl i1), some (.inl i2), some (.inl i3), some (.inl i4), some (.inl i5), some (.inl (i6 + 1))]) (d_M_told_2 (k := 25) rfl) rfl (by decide) (by decide) rfl ?_
    refine m_goto (tgt := 128) (d_M_told_2 (k := 26) rfl) rfl ?_
    exact m_drop (mles_s (mles_s (mles_s (mles_s (mles_s (mles_s (mles_s mles_0))))))) (h128 t0 i1 i2 i3 i4 i5 (i6 + 1) M)
  · refine m_aload_n (d_M_told_2 (k := 27) rfl) rfl ?_
    refine m_getR (d_M_told_2 (k := 28) rfl) fl_M_161 rfl (fun a7 => ?_)
    refine m_iload_n (d_M_told_2 (k := 29) rfl) rfl ?_
    refine m_dup2 (d_M_told_2 (k := 30) rfl) ?_
    refine m_iald (d_M_told_2 (k := 31) rfl) (fun x8 => ?_)
    refine m_iload (d_M_told_2 (k := 32) rfl) rfl ?_
    refine m_iadd (d_M_told_2 (k := 33) rfl) ?_
    refine m_iast (d_M_told_2 (k := 34) rfl) (fun M => ?_)
    refine m_goto (tgt := 236) (d_M_told_2 (k := 35) rfl) rfl ?_
    exact m_drop (mles_s (mles_s (mles_s (mles_s (mles_s (mles_n (mles_n mles_0))))))) (v_M_told_236 t0 i1 i2 i3 i4 M)
theorem v_M_told_128 {E : mE} : ∀ (n : Nat) (t0 : Option Nat) (i1 : Int32) (i2 : Int32) (i3 : Int32) (i4 : Int32) (i5 : Int32) (i6 : Int32) (M : mM), mVr E mi_M_told 6 128 [some (.inr t0), some (.inl i1), some (.inl i2), some (.inl i3), some (.inl i4), some (.inl i5), some (.inl i6)] [] M enU (q_M_told_128 n t0 i1 i2 i3 i4 i5 i6 M)
  | 0, _, _, _, _, _, _, _, _ => m_none
  | n + 1, t0, i1, i2, i3, i4, i5, i6, M => v_M_told_128_b _ (v_M_told_128 n) t0 i1 i2 i3 i4 i5 i6 M
def q_M_told_197_b (r197 : Option Nat → Int32 → Int32 → Int32 → Int32 → Int32 → Int32 → mM → Option (Unit × mM)) (t0 : Option Nat) (i1 : Int32) (i2 : Int32) (i3 : Int32) (i4 : Int32) (i5 : Int32) (i6 : Int32) (M : mM) : Option (Unit × mM) :=
    if i6 < i5 then
      x_gR M 10 t0 76 fun a1 =>
      x_gR M 10 t0 36 fun a2 =>
      x_gI M 10 t0 43 fun x3 =>
      x_aI M 0 a2 ((x3 + (3 : Int32)) + i6) fun x4 =>
      x_wI M a1 i6 x4 fun M =>
      r197 t0 i1 i2 i3 i4 i5 (i6 + 1) M
    else
      x_cv M 10 t0 (q_M_packetComes t0 i1 M) fun _ M =>
      q_M_told_236 t0 i1 i2 i3 i4 M
def q_M_told_197 : Nat → Option Nat → Int32 → Int32 → Int32 → Int32 → Int32 → Int32 → mM → Option (Unit × mM)
  | 0, _, _, _, _, _, _, _, _ => none
  | n + 1, t0, i1, i2, i3, i4, i5, i6, M => q_M_told_197_b (q_M_told_197 n) t0 i1 i2 i3 i4 i5 i6 M
set_option maxRecDepth 20000 in
theorem v_M_told_197_b {E : mE} (r197 : Option Nat → Int32 → Int32 → Int32 → Int32 → Int32 → Int32 → mM → Option (Unit × mM)) (h197 : ∀ (t0 : Option Nat) (i1 : Int32) (i2 : Int32) (i3 : Int32) (i4 : Int32) (i5 : Int32) (i6 : Int32) (M : mM), mVr E mi_M_told 6 197 [some (.inr t0), some (.inl i1), some (.inl i2), some (.inl i3), some (.inl i4), some (.inl i5), some (.inl i6)] [] M enU (r197 t0 i1 i2 i3 i4 i5 i6 M)) (t0 : Option Nat) (i1 : Int32) (i2 : Int32) (i3 : Int32) (i4 : Int32) (i5 : Int32) (i6 : Int32) (M : mM) : mVr E mi_M_told 6 197 [some (.inr t0), some (.inl i1), some (.inl i2), some (.inl i3), some (.inl i4), some (.inl i5), some (.inl i6)] [] M enU (q_M_told_197_b r197 t0 i1 i2 i3 i4 i5 i6 M) := by
  unfold q_M_told_197_b
  refine m_iload (d_M_told_3 (k := 1) rfl) rfl ?_
  refine m_iload (d_M_told_3 (k := 2) rfl) rfl ?_
  refine m_icmp_ge (tgt := 231) (d_M_told_3 (k := 3) rfl) rfl ?_ ?_
  · refine m_aload_n (d_M_told_3 (k := 4) rfl) rfl ?_
    refine m_getR (d_M_told_3 (k := 5) rfl) fl_M_191 rfl (fun a1 => ?_)
    refine m_iload (d_M_told_3 (k := 6) rfl) rfl ?_
    refine m_aload_n (d_M_told_3 (k := 7) rfl) rfl ?_
    refine m_getR (d_M_told_3 (k := 8) rfl) fl_M_101 rfl (fun a2 => ?_)
    refine m_aload_n (d_M_told_3 (k := 9) rfl) rfl ?_
    refine m_getI (d_M_told_3 (k := 10) rfl) fl_M_350 rfl (fun x3 => ?_)
    refine m_iconst (v := 3) (d_M_told_3 (k := 11) rfl) (by decide) ?_
    refine m_iadd (d_M_told_3 (k := 12) rfl) ?_
    refine m_iload (d_M_told_3 (k := 13) rfl) rfl ?_
    refine m_iadd (d_M_told_3 (k := 14) rfl) ?_
    refine m_iald (d_M_told_3 (k := 15) rfl) (fun x4 => ?_)
    refine m_iast (d_M_told_3 (k := 16) rfl) (fun M => ?_)
    refine m_inc (v := 1) (ls' := [some (.inr t0), some (.inl i1), some (.inl i2), some (.inl i3), some (.inl i4), some (.inl i5), some (.inl (i6 + 1))]) (d_M_told_3 (k := 17) rfl) rfl (by decide) (by decide) rfl ?_
    refine m_goto (tgt := 197) (d_M_told_3 (k := 18) rfl) rfl ?_
    exact m_drop (mles_s (mles_s (mles_s (mles_s (mles_s (mles_s (mles_s mles_0))))))) (h197 t0 i1 i2 i3 i4 i5 (i6 + 1) M)
  · refine m_aload_n (d_M_told_3 (k := 19) rfl) rfl ?_
    refine m_iload_n (d_M_told_3 (k := 20) rfl) rfl ?_
    refine m_cvU (c := 10) (vs := [.inl i1]) (st := []) (d_M_told_3 (k := 21) rfl) (s_M_packetComes t0 i1 M) cd_M_packetComes ml_M_440 im_M_packetComes se_M_packetComes rfl (by decide) rfl (Nat.le_of_ble_eq_true rfl) (fun _ M => ?_)
    exact m_drop (mles_s (mles_s (mles_s (mles_s (mles_s (mles_n (mles_n mles_0))))))) (v_M_told_236 t0 i1 i2 i3 i4 M)
theorem v_M_told_197 {E : mE} : ∀ (n : Nat) (t0 : Option Nat) (i1 : Int32) (i2 : Int32) (i3 : Int32) (i4 : Int32) (i5 : Int32) (i6 : Int32) (M : mM), mVr E mi_M_told 6 197 [some (.inr t0), some (.inl i1), some (.inl i2), some (.inl i3), some (.inl i4), some (.inl i5), some (.inl i6)] [] M enU (q_M_told_197 n t0 i1 i2 i3 i4 i5 i6 M)
  | 0, _, _, _, _, _, _, _, _ => m_none
  | n + 1, t0, i1, i2, i3, i4, i5, i6, M => v_M_told_197_b _ (v_M_told_197 n) t0 i1 i2 i3 i4 i5 i6 M
def q_M_told_44 (t0 : Option Nat) (i3 : Int32) (M : mM) : Option (Unit × mM) :=
    x_gR M 10 t0 59 fun a1 =>
    x_wZ M a1 i3 (1 : Int32) fun M =>
    some ((), M)
set_option maxRecDepth 20000 in
theorem v_M_told_44 {E : mE} (t0 : Option Nat) (i3 : Int32) (M : mM) : mVr E mi_M_told 6 44 [some (.inr t0), none, none, some (.inl i3), none, none, none] [] M enU (q_M_told_44 t0 i3 M) := by
  unfold q_M_told_44
  refine m_aload_n (d_M_told_0 (k := 26) rfl) rfl ?_
  refine m_getR (d_M_told_0 (k := 27) rfl) fl_M_140 rfl (fun a1 => ?_)
  refine m_iload_n (d_M_told_0 (k := 28) rfl) rfl ?_
  refine m_iconst (v := 1) (d_M_told_0 (k := 29) rfl) (by decide) ?_
  refine m_zast (d_M_told_0 (k := 30) rfl) (fun M => ?_)
  exact m_vret (d_M_told_0 (k := 31) rfl) rfl
def q_M_told (t0 : Option Nat) (i1 : Int32) (i2 : Int32) (i3 : Int32) (M : mM) : Option (Unit × mM) :=
    x_gI M 10 t0 45 fun x1 =>
    x_gI M 10 t0 41 fun x2 =>
    x_gR M 10 t0 55 fun a3 =>
    x_aI M 0 a3 i3 fun x4 =>
    if ((x2 >>> ((1 : Int32) &&& 31)) &&& (7 : Int32)) = x4 then
      x_cv M 10 t0 (q_M_isBusy t0 i3 M) fun x5 M =>
      if x5 = 0 then
        x_gR M 10 t0 55 fun a6 =>
        x_gR M 10 t0 55 fun a7 =>
        x_aI M 0 a7 i3 fun x8 =>
        x_wI M a6 i3 ((x8 + (1 : Int32)) &&& (7 : Int32)) fun M =>
        x_gR M 10 t0 59 fun a9 =>
        x_wZ M a9 i3 (0 : Int32) fun M =>
        x_gI M 10 t0 37 fun x10 =>
        x_gI M 10 t0 43 fun x11 =>
        x_lt ((x10 - x11) - (3 : Int32)) fun x12 =>
        x_gR M 10 t0 36 fun a13 =>
        x_gI M 10 t0 43 fun x14 =>
        x_aI M 0 a13 (x14 + (2 : Int32)) fun x15 =>
        if x15 = (240 : Int32) then
          q_M_told_128 mFU t0 i1 i2 i3 x1 x12 (0 : Int32) M
        else
          x_pI M 10 t0 77 x12 fun M =>
          q_M_told_197 mFU t0 i1 i2 i3 x1 x12 (0 : Int32) M
      else
        x_cv M 10 t0 (q_M_sayNumber t0 i1 i2 (0 : Int32) (5 : Int32) x1 M) fun _ M =>
        some ((), M)
    else
      x_gR M 10 t0 59 fun a16 =>
      x_aI M 1 a16 i3 fun x17 =>
      if x17 = 0 then
        x_cv M 10 t0 (q_M_sayNumber t0 i1 i2 (0 : Int32) (9 : Int32) x1 M) fun _ M =>
        q_M_told_44 t0 i3 M
      else
        q_M_told_44 t0 i3 M
set_option maxRecDepth 20000 in
theorem v_M_told {E : mE} (t0 : Option Nat) (i1 : Int32) (i2 : Int32) (i3 : Int32) (M : mM) : mVr E mi_M_told 6 0 [some (.inr t0), some (.inl i1), some (.inl i2), some (.inl i3), none, none, none] [] M enU (q_M_told t0 i1 i2 i3 M) := by
  unfold q_M_told
  refine m_aload_n (d_M_told_0 (k := 0) rfl) rfl ?_
  refine m_getI (d_M_told_0 (k := 1) rfl) fl_M_363 rfl (fun x1 => ?_)
  refine m_ist (ls' := [some (.inr t0), some (.inl i1), some (.inl i2), some (.inl i3), some (.inl x1), none, none]) (d_M_told_0 (k := 2) rfl) (by decide) rfl ?_
  refine m_aload_n (d_M_told_0 (k := 3) rfl) rfl ?_
  refine m_getI (d_M_told_0 (k := 4) rfl) fl_M_366 rfl (fun x2 => ?_)
  refine m_iconst (v := 1) (d_M_told_0 (k := 5) rfl) (by decide) ?_
  refine m_ishr (d_M_told_0 (k := 6) rfl) ?_
  refine m_bipush (v := 7) (d_M_told_0 (k := 7) rfl) (by decide) ?_
  refine m_iand (d_M_told_0 (k := 8) rfl) ?_
  refine m_aload_n (d_M_told_0 (k := 9) rfl) rfl ?_
  refine m_getR (d_M_told_0 (k := 10) rfl) fl_M_128 rfl (fun a3 => ?_)
  refine m_iload_n (d_M_told_0 (k := 11) rfl) rfl ?_
  refine m_iald (d_M_told_0 (k := 12) rfl) (fun x4 => ?_)
  refine m_icmp_eq (tgt := 52) (d_M_told_0 (k := 13) rfl) rfl ?_ ?_
  · refine m_aload_n (d_M_told_0 (k := 32) rfl) rfl ?_
    refine m_iload_n (d_M_told_0 (k := 33) rfl) rfl ?_
    refine m_cvI (c := 10) (vs := [.inl i3]) (st := []) (d_M_told_0 (k := 34) rfl) (s_M_isBusy t0 i3 M) cd_M_isBusy ml_M_395 im_M_isBusy se_M_isBusy rfl (by decide) rfl (Nat.le_of_ble_eq_true rfl) (fun x5 M => ?_)
    refine m_if_eq (tgt := 71) (d_M_told_0 (k := 35) rfl) rfl ?_ ?_
    · refine m_aload_n (d_M_told_1 (k := 4) rfl) rfl ?_
      refine m_getR (d_M_told_1 (k := 5) rfl) fl_M_128 rfl (fun a6 => ?_)
      refine m_iload_n (d_M_told_1 (k := 6) rfl) rfl ?_
      refine m_aload_n (d_M_told_1 (k := 7) rfl) rfl ?_
      refine m_getR (d_M_told_1 (k := 8) rfl) fl_M_128 rfl (fun a7 => ?_)
      refine m_iload_n (d_M_told_1 (k := 9) rfl) rfl ?_
      refine m_iald (d_M_told_1 (k := 10) rfl) (fun x8 => ?_)
      refine m_iconst (v := 1) (d_M_told_1 (k := 11) rfl) (by decide) ?_
      refine m_iadd (d_M_told_1 (k := 12) rfl) ?_
      refine m_bipush (v := 7) (d_M_told_1 (k := 13) rfl) (by decide) ?_
      refine m_iand (d_M_told_1 (k := 14) rfl) ?_
      refine m_iast (d_M_told_1 (k := 15) rfl) (fun M => ?_)
      refine m_aload_n (d_M_told_1 (k := 16) rfl) rfl ?_
      refine m_getR (d_M_told_1 (k := 17) rfl) fl_M_140 rfl (fun a9 => ?_)
      refine m_iload_n (d_M_told_1 (k := 18) rfl) rfl ?_
      refine m_iconst (v := 0) (d_M_told_1 (k := 19) rfl) (by decide) ?_
      refine m_zast (d_M_told_1 (k := 20) rfl) (fun M => ?_)
      refine m_aload_n (d_M_told_1 (k := 21) rfl) rfl ?_
      refine m_getI (d_M_told_1 (k := 22) rfl) fl_M_347 rfl (fun x10 => ?_)
      refine m_aload_n (d_M_told_1 (k := 23) rfl) rfl ?_
      refine m_getI (d_M_told_1 (k := 24) rfl) fl_M_350 rfl (fun x11 => ?_)
      refine m_isub (d_M_told_1 (k := 25) rfl) ?_
      refine m_iconst (v := 3) (d_M_told_1 (k := 26) rfl) (by decide) ?_
      refine m_isub (d_M_told_1 (k := 27) rfl) ?_
      refine m_lt (fun x12 => ?_)
      refine m_ist (ls' := [some (.inr t0), some (.inl i1), some (.inl i2), some (.inl i3), some (.inl x1), some (.inl x12), none]) (d_M_told_1 (k := 28) rfl) (by decide) rfl ?_
      refine m_aload_n (d_M_told_1 (k := 29) rfl) rfl ?_
      refine m_getR (d_M_told_1 (k := 30) rfl) fl_M_101 rfl (fun a13 => ?_)
      refine m_aload_n (d_M_told_1 (k := 31) rfl) rfl ?_
      refine m_getI (d_M_told_1 (k := 32) rfl) fl_M_350 rfl (fun x14 => ?_)
      refine m_iconst (v := 2) (d_M_told_1 (k := 33) rfl) (by decide) ?_
      refine m_iadd (d_M_told_1 (k := 34) rfl) ?_
      refine m_iald (d_M_told_1 (k := 35) rfl) (fun x15 => ?_)
      refine m_sipush (v := 240) (d_M_told_1 (k := 36) rfl) (by decide) ?_
      refine m_icmp_ne (tgt := 188) (d_M_told_1 (k := 37) rfl) rfl ?_ ?_
      · refine m_iconst (v := 0) (d_M_told_1 (k := 38) rfl) (by decide) ?_
        refine m_ist (ls' := [some (.inr t0), some (.inl i1), some (.inl i2), some (.inl i3), some (.inl x1), some (.inl x12), some (.inl (0 : Int32))]) (d_M_told_1 (k := 39) rfl) (by decide) rfl ?_
        exact m_drop (mles_s (mles_s (mles_s (mles_s (mles_s (mles_s (mles_s mles_0))))))) (v_M_told_128 mFU t0 i1 i2 i3 x1 x12 (0 : Int32) M)
      · refine m_aload_n (d_M_told_2 (k := 36) rfl) rfl ?_
        refine m_iload (d_M_told_2 (k := 37) rfl) rfl ?_
        refine m_pI (d_M_told_2 (k := 38) rfl) fp_M_437 (fun h => absurd h (by decide)) rfl (fun M => ?_)
        refine m_iconst (v := 0) (d_M_told_2 (k := 39) rfl) (by decide) ?_
        refine m_ist (ls' := [some (.inr t0), some (.inl i1), some (.inl i2), some (.inl i3), some (.inl x1), some (.inl x12), some (.inl (0 : Int32))]) (d_M_told_3 (k := 0) rfl) (by decide) rfl ?_
        exact m_drop (mles_s (mles_s (mles_s (mles_s (mles_s (mles_s (mles_s mles_0))))))) (v_M_told_197 mFU t0 i1 i2 i3 x1 x12 (0 : Int32) M)
    · refine m_aload_n (d_M_told_0 (k := 36) rfl) rfl ?_
      refine m_iload_n (d_M_told_0 (k := 37) rfl) rfl ?_
      refine m_iload_n (d_M_told_0 (k := 38) rfl) rfl ?_
      refine m_iconst (v := 0) (d_M_told_0 (k := 39) rfl) (by decide) ?_
      refine m_iconst (v := 5) (d_M_told_1 (k := 0) rfl) (by decide) ?_
      refine m_iload (d_M_told_1 (k := 1) rfl) rfl ?_
      refine m_cvU (c := 10) (vs := [.inl i1, .inl i2, .inl (0 : Int32), .inl (5 : Int32), .inl x1]) (st := []) (d_M_told_1 (k := 2) rfl) (s_M_sayNumber t0 i1 i2 (0 : Int32) (5 : Int32) x1 M) cd_M_sayNumber ml_M_433 im_M_sayNumber se_M_sayNumber rfl (by decide) rfl (Nat.le_of_ble_eq_true rfl) (fun _ M => ?_)
      exact m_vret (d_M_told_1 (k := 3) rfl) rfl
  · refine m_aload_n (d_M_told_0 (k := 14) rfl) rfl ?_
    refine m_getR (d_M_told_0 (k := 15) rfl) fl_M_140 rfl (fun a16 => ?_)
    refine m_iload_n (d_M_told_0 (k := 16) rfl) rfl ?_
    refine m_zald (d_M_told_0 (k := 17) rfl) (fun x17 => ?_)
    refine m_if_ne (tgt := 44) (d_M_told_0 (k := 18) rfl) rfl ?_ ?_
    · refine m_aload_n (d_M_told_0 (k := 19) rfl) rfl ?_
      refine m_iload_n (d_M_told_0 (k := 20) rfl) rfl ?_
      refine m_iload_n (d_M_told_0 (k := 21) rfl) rfl ?_
      refine m_iconst (v := 0) (d_M_told_0 (k := 22) rfl) (by decide) ?_
      refine m_bipush (v := 9) (d_M_told_0 (k := 23) rfl) (by decide) ?_
      refine m_iload (d_M_told_0 (k := 24) rfl) rfl ?_
      refine m_cvU (c := 10) (vs := [.inl i1, .inl i2, .inl (0 : Int32), .inl (9 : Int32), .inl x1]) (st := []) (d_M_told_0 (k := 25) rfl) (s_M_sayNumber t0 i1 i2 (0 : Int32) (9 : Int32) x1 M) cd_M_sayNumber ml_M_433 im_M_sayNumber se_M_sayNumber rfl (by decide) rfl (Nat.le_of_ble_eq_true rfl) (fun _ M => ?_)
      exact m_drop (mles_s (mles_n (mles_n (mles_s (mles_n (mles_n (mles_n mles_0))))))) (v_M_told_44 t0 i3 M)
    · exact m_drop (mles_s (mles_n (mles_n (mles_s (mles_n (mles_n (mles_n mles_0))))))) (v_M_told_44 t0 i3 M)
theorem s_M_told {E : mE} (t0 : Option Nat) (i1 : Int32) (i2 : Int32) (i3 : Int32) (M : mM) : mSnd E mi_M_told 6 [.inr t0, .inl i1, .inl i2, .inl i3] M enU (q_M_told t0 i1 i2 i3 M) := m_entryU (by decide) (Nat.le_of_ble_eq_true rfl) rfl (m_drop (mles_s (mles_s (mles_s (mles_s (mles_e (mles_e (mles_e mles_0))))))) (v_M_told t0 i1 i2 i3 M))
def dt_M_numbered_0 : List (Nat × Instr × Nat) := [(0, .aload_n 0, 1), (1, .getfield 101, 3), (4, .aload_n 0, 1), (5, .getfield 350, 3), (8, .iaload, 1), (9, .iconst 5, 1), (10, .ishr, 1), (11, .istore 4, 2), (13, .iload 4, 2), (15, .aload_n 0, 1), (16, .getfield 125, 3), (19, .iload_n 3, 1), (20, .iaload, 1), (21, .isub, 1), (22, .bipush 7, 2), (24, .iand, 1), (25, .istore 5, 2), (27, .iload 5, 2), (29, .aload_n 0, 1), (30, .getfield 122, 3), (33, .iload_n 3, 1), (34, .iaload, 1), (35, .aload_n 0, 1), (36, .getfield 125, 3), (39, .iload_n 3, 1), (40, .iaload, 1), (41, .isub, 1), (42, .bipush 7, 2), (44, .iand, 1), (45, .if_icmp .le 18, 3), (48, .aload_n 0, 1), (49, .iload_n 1, 1), (50, .iload_n 2, 1), (51, .iconst 0, 1), (52, .bipush 15, 2), (54, .invokevirtual 391, 3), (57, .aload_n 0, 1), (58, .iload_n 3, 1), (59, .invokevirtual 410, 3), (62, .return_, 1)]
theorem dx_M_numbered_0 : ∀ p ∈ dt_M_numbered_0, decode prog_12_method_63_code p.1 = .ok p.2 := by decide +kernel
theorem d_M_numbered_0 {k pc : Nat} {i : Instr} {n : Nat} (h : dt_M_numbered_0[k]? = some (pc, i, n)) : decode mi_M_numbered.2.1 pc = .ok (i, n) := dx_M_numbered_0 (pc, i, n) (List.mem_of_getElem? h)
def dt_M_numbered_1 : List (Nat × Instr × Nat) := [(63, .iload 5, 2), (65, .istore 6, 2), (67, .iload 6, 2), (69, .aload_n 0, 1), (70, .getfield 182, 3), (73, .iload_n 3, 1), (74, .iaload, 1), (75, .if_icmp .ge 114, 3), (78, .aload_n 0, 1), (79, .getfield 176, 3), (82, .iconst 4, 1), (83, .iload_n 3, 1), (84, .imul, 1), (85, .iload 6, 2), (87, .iadd, 1), (88, .iload 5, 2), (90, .isub, 1), (91, .aload_n 0, 1), (92, .getfield 176, 3), (95, .iconst 4, 1), (96, .iload_n 3, 1), (97, .imul, 1), (98, .iload 6, 2), (100, .iadd, 1), (101, .iaload, 1), (102, .iastore, 1), (103, .aload_n 0, 1), (104, .getfield 179, 3), (107, .iconst 4, 1), (108, .iload_n 3, 1), (109, .imul, 1), (110, .iload 6, 2), (112, .iadd, 1), (113, .iload 5, 2), (115, .isub, 1), (116, .aload_n 0, 1), (117, .getfield 179, 3), (120, .iconst 4, 1), (121, .iload_n 3, 1), (122, .imul, 1)]
theorem dx_M_numbered_1 : ∀ p ∈ dt_M_numbered_1, decode prog_12_method_63_code p.1 = .ok p.2 := by decide +kernel
theorem d_M_numbered_1 {k pc : Nat} {i : Instr} {n : Nat} (h : dt_M_numbered_1[k]? = some (pc, i, n)) : decode mi_M_numbered.2.1 pc = .ok (i, n) := dx_M_numbered_1 (pc, i, n) (List.mem_of_getElem? h)
def dt_M_numbered_2 : List (Nat × Instr × Nat) := [(123, .iload 6, 2), (125, .iadd, 1), (126, .iaload, 1), (127, .iastore, 1), (128, .iconst 0, 1), (129, .istore 7, 2), (131, .iload 7, 2), (133, .bipush 16, 2), (135, .if_icmp .ge 48, 3), (138, .aload_n 0, 1), (139, .getfield 173, 3), (142, .bipush 64, 2), (144, .iload_n 3, 1), (145, .imul, 1), (146, .bipush 16, 2), (148, .iload 6, 2), (150, .iload 5, 2), (152, .isub, 1), (153, .imul, 1), (154, .iadd, 1), (155, .iload 7, 2), (157, .iadd, 1), (158, .aload_n 0, 1), (159, .getfield 173, 3), (162, .bipush 64, 2), (164, .iload_n 3, 1), (165, .imul, 1), (166, .bipush 16, 2), (168, .iload 6, 2), (170, .imul, 1), (171, .iadd, 1), (172, .iload 7, 2), (174, .iadd, 1), (175, .iaload, 1), (176, .iastore, 1), (177, .iinc 7 1, 3), (180, .goto (-49), 3), (183, .iinc 6 1, 3), (186, .goto (-119), 3), (189, .aload_n 0, 1)]
theorem dx_M_numbered_2 : ∀ p ∈ dt_M_numbered_2, decode prog_12_method_63_code p.1 = .ok p.2 := by decide +kernel
theorem d_M_numbered_2 {k pc : Nat} {i : Instr} {n : Nat} (h : dt_M_numbered_2[k]? = some (pc, i, n)) : decode mi_M_numbered.2.1 pc = .ok (i, n) := dx_M_numbered_2 (pc, i, n) (List.mem_of_getElem? h)
def dt_M_numbered_3 : List (Nat × Instr × Nat) := [(190, .getfield 182, 3), (193, .iload_n 3, 1), (194, .dup2, 1), (195, .iaload, 1), (196, .iload 5, 2), (198, .isub, 1), (199, .iastore, 1), (200, .aload_n 0, 1), (201, .getfield 125, 3), (204, .iload_n 3, 1), (205, .iload 4, 2), (207, .iastore, 1), (208, .iload 5, 2), (210, .ifCond .le 49, 3), (213, .aload_n 0, 1), (214, .getfield 134, 3), (217, .iload_n 3, 1), (218, .iconst 0, 1), (219, .iastore, 1), (220, .aload_n 0, 1), (221, .getfield 131, 3), (224, .iload_n 3, 1), (225, .aload_n 0, 1), (226, .getfield 182, 3), (229, .iload_n 3, 1), (230, .iaload, 1), (231, .ifCond .gt 12, 3), (234, .aload_n 0, 1), (235, .getfield 137, 3), (238, .iload_n 3, 1), (239, .baload, 1), (240, .ifCond .eq 17, 3), (243, .aload_n 0, 1), (244, .getfield 44, 3), (247, .bipush 9, 2), (249, .iload_n 1, 1), (250, .imul, 1), (251, .iconst 4, 1), (252, .iadd, 1), (253, .iaload, 1)]
theorem dx_M_numbered_3 : ∀ p ∈ dt_M_numbered_3, decode prog_12_method_63_code p.1 = .ok p.2 := by decide +kernel
theorem d_M_numbered_3 {k pc : Nat} {i : Instr} {n : Nat} (h : dt_M_numbered_3[k]? = some (pc, i, n)) : decode mi_M_numbered.2.1 pc = .ok (i, n) := dx_M_numbered_3 (pc, i, n) (List.mem_of_getElem? h)
def dt_M_numbered_4 : List (Nat × Instr × Nat) := [(254, .goto 4, 3), (257, .iconst 0, 1), (258, .iastore, 1), (259, .aload_n 0, 1), (260, .getfield 366, 3), (263, .iconst 2, 1), (264, .irem, 1), (265, .ifCond .ne 13, 3), (268, .aload_n 0, 1), (269, .iload_n 1, 1), (270, .iload_n 2, 1), (271, .iload_n 3, 1), (272, .invokevirtual 420, 3), (275, .goto 17, 3), (278, .aload_n 0, 1), (279, .iload_n 1, 1), (280, .iload_n 2, 1), (281, .iload_n 3, 1), (282, .aload_n 0, 1), (283, .getfield 366, 3), (286, .bipush 15, 2), (288, .iand, 1), (289, .invokevirtual 423, 3), (292, .return_, 1)]
theorem dx_M_numbered_4 : ∀ p ∈ dt_M_numbered_4, decode prog_12_method_63_code p.1 = .ok p.2 := by decide +kernel
theorem d_M_numbered_4 {k pc : Nat} {i : Instr} {n : Nat} (h : dt_M_numbered_4[k]? = some (pc, i, n)) : decode mi_M_numbered.2.1 pc = .ok (i, n) := dx_M_numbered_4 (pc, i, n) (List.mem_of_getElem? h)
def q_M_numbered_131_b (r67 : Option Nat → Int32 → Int32 → Int32 → Int32 → Int32 → Int32 → mM → Option (Unit × mM)) (r131 : Option Nat → Int32 → Int32 → Int32 → Int32 → Int32 → Int32 → Int32 → mM → Option (Unit × mM)) (t0 : Option Nat) (i1 : Int32) (i2 : Int32) (i3 : Int32) (i4 : Int32) (i5 : Int32) (i6 : Int32) (i7 : Int32) (M : mM) : Option (Unit × mM) :=
    if i7 < (16 : Int32) then
      x_gR M 10 t0 70 fun a1 =>
      x_gR M 10 t0 70 fun a2 =>
      x_aI M 0 a2 ((((64 : Int32) * i3) + ((16 : Int32) * i6)) + i7) fun x3 =>
      x_wI M a1 ((((64 : Int32) * i3) + ((16 : Int32) * (i6 - i5))) + i7) x3 fun M =>
      r131 t0 i1 i2 i3 i4 i5 i6 (i7 + 1) M
    else
      r67 t0 i1 i2 i3 i4 i5 (i6 + 1) M
def q_M_numbered_131 (r67 : Option Nat → Int32 → Int32 → Int32 → Int32 → Int32 → Int32 → mM → Option (Unit × mM)) : Nat → Option Nat → Int32 → Int32 → Int32 → Int32 → Int32 → Int32 → Int32 → mM → Option (Unit × mM)
  | 0, _, _, _, _, _, _, _, _, _ => none
  | n + 1, t0, i1, i2, i3, i4, i5, i6, i7, M => q_M_numbered_131_b r67 (q_M_numbered_131 r67 n) t0 i1 i2 i3 i4 i5 i6 i7 M
set_option maxRecDepth 20000 in
theorem v_M_numbered_131_b {E : mE} (r67 : Option Nat → Int32 → Int32 → Int32 → Int32 → Int32 → Int32 → mM → Option (Unit × mM)) (h67 : ∀ (t0 : Option Nat) (i1 : Int32) (i2 : Int32) (i3 : Int32) (i4 : Int32) (i5 : Int32) (i6 : Int32) (M : mM), mVr E mi_M_numbered 7 67 [some (.inr t0), some (.inl i1), some (.inl i2), some (.inl i3), some (.inl i4), some (.inl i5), some (.inl i6), none] [] M enU (r67 t0 i1 i2 i3 i4 i5 i6 M)) (r131 : Option Nat → Int32 → Int32 → Int32 → Int32 → Int32 → Int32 → Int32 → mM → Option (Unit × mM)) (h131 : ∀ (t0 : Option Nat) (i1 : Int32) (i2 : Int32) (i3 : Int32) (i4 : Int32) (i5 : Int32) (i6 : Int32) (i7 : Int32) (M : mM), mVr E mi_M_numbered 7 131 [some (.inr t0), some (.inl i1), some (.inl i2), some (.inl i3), some (.inl i4), some (.inl i5), some (.inl i6), some (.inl i7)] [] M enU (r131 t0 i1 i2 i3 i4 i5 i6 i7 M)) (t0 : Option Nat) (i1 : Int32) (i2 : Int32) (i3 : Int32) (i4 : Int32) (i5 : Int32) (i6 : Int32) (i7 : Int32) (M : mM) : mVr E mi_M_numbered 7 131 [some (.inr t0), some (.inl i1), some (.inl i2), some (.inl i3), some (.inl i4), some (.inl i5), some (.inl i6), some (.inl i7)] [] M enU (q_M_numbered_131_b r67 r131 t0 i1 i2 i3 i4 i5 i6 i7 M) := by
  unfold q_M_numbered_131_b
  refine m_iload (d_M_numbered_2 (k := 6) rfl) rfl ?_
  refine m_bipush (v := 16) (d_M_numbered_2 (k := 7) rfl) (by decide) ?_
  refine m_icmp_ge (tgt := 183) (d_M_numbered_2 (k := 8) rfl) rfl ?_ ?_
  · refine m_aload_n (d_M_numbered_2 (k := 9) rfl) rfl ?_
    refine m_getR (d_M_numbered_2 (k := 10) rfl) fl_M_173 rfl (fun a1 => ?_)
    refine m_bipush (v := 64) (d_M_numbered_2 (k := 11) rfl) (by decide) ?_
    refine m_iload_n (d_M_numbered_2 (k := 12) rfl) rfl ?_
    refine m_imul (d_M_numbered_2 (k := 13) rfl) ?_
    refine m_bipush (v := 16) (d_M_numbered_2 (k := 14) rfl) (by decide) ?_
    refine m_iload (d_M_numbered_2 (k := 15) rfl) rfl ?_
    refine m_iload (d_M_numbered_2 (k := 16) rfl) rfl ?_
    refine m_isub (d_M_numbered_2 (k := 17) rfl) ?_
    refine m_imul (d_M_numbered_2 (k := 18) rfl) ?_
    refine m_iadd (d_M_numbered_2 (k := 19) rfl) ?_
    refine m_iload (d_M_numbered_2 (k := 20) rfl) rfl ?_
    refine m_iadd (d_M_numbered_2 (k := 21) rfl) ?_
    refine m_aload_n (d_M_numbered_2 (k := 22) rfl) rfl ?_
    refine m_getR (d_M_numbered_2 (k := 23) rfl) fl_M_173 rfl (fun a2 => ?_)
    refine m_bipush (v := 64) (d_M_numbered_2 (k := 24) rfl) (by decide) ?_
    refine m_iload_n (d_M_numbered_2 (k := 25) rfl) rfl ?_
    refine m_imul (d_M_numbered_2 (k := 26) rfl) ?_
    refine m_bipush (v := 16) (d_M_numbered_2 (k := 27) rfl) (by decide) ?_
    refine m_iload (d_M_numbered_2 (k := 28) rfl) rfl ?_
    refine m_imul (d_M_numbered_2 (k := 29) rfl) ?_
    refine m_iadd (d_M_numbered_2 (k := 30) rfl) ?_
    refine m_iload (d_M_numbered_2 (k := 31) rfl) rfl ?_
    refine m_iadd (d_M_numbered_2 (k := 32) rfl) ?_
    refine m_iald (d_M_numbered_2 (k := 33) rfl) (fun x3 => ?_)
    refine m_iast (d_M_numbered_2 (k := 34) rfl) (fun M => ?_)
    refine m_inc (v := 1) (ls' := [some (.inr t0), some (.inl i1), some (.inl i2), some (.inl i3), some (.inl i4), some (.inl i5), some (.inl i6), some (.inl (i7 + 1))]) (d_M_numbered_2 (k := 35) rfl) rfl (by decide) (by decide) rfl ?_
    refine m_goto (tgt := 131) (d_M_numbered_2 (k := 36) rfl) rfl ?_
    exact m_drop (mles_s (mles_s (mles_s (mles_s (mles_s (mles_s (mles_s (mles_s mles_0)))))))) (h131 t0 i1 i2 i3 i4 i5 i6 (i7 + 1) M)
  · refine m_inc (v := 1) (ls' := [some (.inr t0), some (.inl i1), some (.inl i2), some (.inl i3), some (.inl i4), some (.inl i5), some (.inl (i6 + 1)), some (.inl i7)]) (d_M_numbered_2 (k := 37) rfl) rfl (by decide) (by decide) rfl ?_
    refine m_goto (tgt := 67) (d_M_numbered_2 (k := 38) rfl) rfl ?_
    exact m_drop (mles_s (mles_s (mles_s (mles_s (mles_s (mles_s (mles_s (mles_n mles_0)))))))) (h67 t0 i1 i2 i3 i4 i5 (i6 + 1) M)
theorem v_M_numbered_131 {E : mE} (r67 : Option Nat → Int32 → Int32 → Int32 → Int32 → Int32 → Int32 → mM → Option (Unit × mM)) (h67 : ∀ (t0 : Option Nat) (i1 : Int32) (i2 : Int32) (i3 : Int32) (i4 : Int32) (i5 : Int32) (i6 : Int32) (M : mM), mVr E mi_M_numbered 7 67 [some (.inr t0), some (.inl i1), some (.inl i2), some (.inl i3), some (.inl i4), some (.inl i5), some (.inl i6), none] [] M enU (r67 t0 i1 i2 i3 i4 i5 i6 M)) : ∀ (n : Nat) (t0 : Option Nat) (i1 : Int32) (i2 : Int32) (i3 : Int32) (i4 : Int32) (i5 : Int32) (i6 : Int32) (i7 : Int32) (M : mM), mVr E mi_M_numbered 7 131 [some (.inr t0), some (.inl i1), some (.inl i2), some (.inl i3), some (.inl i4), some (.inl i5), some (.inl i6), some (.inl i7)] [] M enU (q_M_numbered_131 r67 n t0 i1 i2 i3 i4 i5 i6 i7 M)
  | 0, _, _, _, _, _, _, _, _, _ => m_none
  | n + 1, t0, i1, i2, i3, i4, i5, i6, i7, M => v_M_numbered_131_b r67 h67 _ (v_M_numbered_131 r67 h67 n) t0 i1 i2 i3 i4 i5 i6 i7 M
def q_M_numbered_259 (t0 : Option Nat) (i1 : Int32) (i2 : Int32) (i3 : Int32) (M : mM) : Option (Unit × mM) :=
    x_gI M 10 t0 41 fun x1 =>
    x_rm x1 (2 : Int32) fun x2 =>
    if x2 = 0 then
      x_cv M 10 t0 (q_M_told t0 i1 i2 i3 M) fun _ M =>
      some ((), M)
    else
      x_gI M 10 t0 41 fun x3 =>
      x_cv M 10 t0 (q_M_supervised t0 i1 i2 i3 (x3 &&& (15 : Int32)) M) fun _ M =>
      some ((), M)
set_option maxRecDepth 20000 in
theorem v_M_numbered_259 {E : mE} (t0 : Option Nat) (i1 : Int32) (i2 : Int32) (i3 : Int32) (M : mM) : mVr E mi_M_numbered 7 259 [some (.inr t0), some (.inl i1), some (.inl i2), some (.inl i3), none, none, none, none] [] M enU (q_M_numbered_259 t0 i1 i2 i3 M) := by
  unfold q_M_numbered_259
  refine m_aload_n (d_M_numbered_4 (k := 3) rfl) rfl ?_
  refine m_getI (d_M_numbered_4 (k := 4) rfl) fl_M_366 rfl (fun x1 => ?_)
  refine m_iconst (v := 2) (d_M_numbered_4 (k := 5) rfl) (by decide) ?_
  refine m_irem (d_M_numbered_4 (k := 6) rfl) (fun x2 => ?_)
  refine m_if_ne (tgt := 278) (d_M_numbered_4 (k := 7) rfl) rfl ?_ ?_
  · refine m_aload_n (d_M_numbered_4 (k := 8) rfl) rfl ?_
    refine m_iload_n (d_M_numbered_4 (k := 9) rfl) rfl ?_
    refine m_iload_n (d_M_numbered_4 (k := 10) rfl) rfl ?_
    refine m_iload_n (d_M_numbered_4 (k := 11) rfl) rfl ?_
    refine m_cvU (c := 10) (vs := [.inl i1, .inl i2, .inl i3]) (st := []) (d_M_numbered_4 (k := 12) rfl) (s_M_told t0 i1 i2 i3 M) cd_M_told ml_M_420 im_M_told se_M_told rfl (by decide) rfl (Nat.le_of_ble_eq_true rfl) (fun _ M => ?_)
    refine m_goto (tgt := 292) (d_M_numbered_4 (k := 13) rfl) rfl ?_
    exact m_vret (d_M_numbered_4 (k := 23) rfl) rfl
  · refine m_aload_n (d_M_numbered_4 (k := 14) rfl) rfl ?_
    refine m_iload_n (d_M_numbered_4 (k := 15) rfl) rfl ?_
    refine m_iload_n (d_M_numbered_4 (k := 16) rfl) rfl ?_
    refine m_iload_n (d_M_numbered_4 (k := 17) rfl) rfl ?_
    refine m_aload_n (d_M_numbered_4 (k := 18) rfl) rfl ?_
    refine m_getI (d_M_numbered_4 (k := 19) rfl) fl_M_366 rfl (fun x3 => ?_)
    refine m_bipush (v := 15) (d_M_numbered_4 (k := 20) rfl) (by decide) ?_
    refine m_iand (d_M_numbered_4 (k := 21) rfl) ?_
    refine m_cvU (c := 10) (vs := [.inl i1, .inl i2, .inl i3, .inl (x3 &&& (15 : Int32))]) (st := []) (d_M_numbered_4 (k := 22) rfl) (s_M_supervised t0 i1 i2 i3 (x3 &&& (15 : Int32)) M) cd_M_supervised ml_M_423 im_M_supervised se_M_supervised rfl (by decide) rfl (Nat.le_of_ble_eq_true rfl) (fun _ M => ?_)
    exact m_vret (d_M_numbered_4 (k := 23) rfl) rfl
def q_M_numbered_258 (t0 : Option Nat) (i1 : Int32) (i2 : Int32) (i3 : Int32) (j0 : Int32) (j1 : Int32) (u2 : Option Nat) (M : mM) : Option (Unit × mM) :=
    x_wI M u2 j1 j0 fun M =>
    q_M_numbered_259 t0 i1 i2 i3 M
set_option maxRecDepth 20000 in
theorem v_M_numbered_258 {E : mE} (t0 : Option Nat) (i1 : Int32) (i2 : Int32) (i3 : Int32) (j0 : Int32) (j1 : Int32) (u2 : Option Nat) (M : mM) : mVr E mi_M_numbered 7 258 [some (.inr t0), some (.inl i1), some (.inl i2), some (.inl i3), none, none, none, none] [.inl j0, .inl j1, .inr u2] M enU (q_M_numbered_258 t0 i1 i2 i3 j0 j1 u2 M) := by
  unfold q_M_numbered_258
  refine m_iast (d_M_numbered_4 (k := 2) rfl) (fun M => ?_)
  exact m_drop (mles_s (mles_s (mles_s (mles_s (mles_n (mles_n (mles_n (mles_n mles_0)))))))) (v_M_numbered_259 t0 i1 i2 i3 M)
def q_M_numbered_243 (t0 : Option Nat) (i1 : Int32) (i2 : Int32) (i3 : Int32) (j0 : Int32) (u1 : Option Nat) (M : mM) : Option (Unit × mM) :=
    x_gR M 10 t0 16 fun a1 =>
    x_aI M 0 a1 (((9 : Int32) * i1) + (4 : Int32)) fun x2 =>
    q_M_numbered_258 t0 i1 i2 i3 x2 j0 u1 M
set_option maxRecDepth 20000 in
theorem v_M_numbered_243 {E : mE} (t0 : Option Nat) (i1 : Int32) (i2 : Int32) (i3 : Int32) (j0 : Int32) (u1 : Option Nat) (M : mM) : mVr E mi_M_numbered 7 243 [some (.inr t0), some (.inl i1), some (.inl i2), some (.inl i3), none, none, none, none] [.inl j0, .inr u1] M enU (q_M_numbered_243 t0 i1 i2 i3 j0 u1 M) := by
  unfold q_M_numbered_243
  refine m_aload_n (d_M_numbered_3 (k := 32) rfl) rfl ?_
  refine m_getR (d_M_numbered_3 (k := 33) rfl) fl_M_44 rfl (fun a1 => ?_)
  refine m_bipush (v := 9) (d_M_numbered_3 (k := 34) rfl) (by decide) ?_
  refine m_iload_n (d_M_numbered_3 (k := 35) rfl) rfl ?_
  refine m_imul (d_M_numbered_3 (k := 36) rfl) ?_
  refine m_iconst (v := 4) (d_M_numbered_3 (k := 37) rfl) (by decide) ?_
  refine m_iadd (d_M_numbered_3 (k := 38) rfl) ?_
  refine m_iald (d_M_numbered_3 (k := 39) rfl) (fun x2 => ?_)
  refine m_goto (tgt := 258) (d_M_numbered_4 (k := 0) rfl) rfl ?_
  exact m_drop (mles_s (mles_s (mles_s (mles_s (mles_n (mles_n (mles_n (mles_n mles_0)))))))) (v_M_numbered_258 t0 i1 i2 i3 x2 j0 u1 M)
def q_M_numbered_67_b (r67 : Option Nat → Int32 → Int32 → Int32 → Int32 → Int32 → Int32 → mM → Option (Unit × mM)) (t0 : Option Nat) (i1 : Int32) (i2 : Int32) (i3 : Int32) (i4 : Int32) (i5 : Int32) (i6 : Int32) (M : mM) : Option (Unit × mM) :=
    x_gR M 10 t0 73 fun a1 =>
    x_aI M 0 a1 i3 fun x2 =>
    if i6 < x2 then
      x_gR M 10 t0 71 fun a3 =>
      x_gR M 10 t0 71 fun a4 =>
      x_aI M 0 a4 (((4 : Int32) * i3) + i6) fun x5 =>
      x_wI M a3 ((((4 : Int32) * i3) + i6) - i5) x5 fun M =>
      x_gR M 10 t0 72 fun a6 =>
      x_gR M 10 t0 72 fun a7 =>
      x_aI M 0 a7 (((4 : Int32) * i3) + i6) fun x8 =>
      x_wI M a6 ((((4 : Int32) * i3) + i6) - i5) x8 fun M =>
      q_M_numbered_131 r67 mFU t0 i1 i2 i3 i4 i5 i6 (0 : Int32) M
    else
      x_gR M 10 t0 73 fun a9 =>
      x_aI M 0 a9 i3 fun x10 =>
      x_wI M a9 i3 (x10 - i5) fun M =>
      x_gR M 10 t0 54 fun a11 =>
      x_wI M a11 i3 i4 fun M =>
      if 0 < i5 then
        x_gR M 10 t0 57 fun a12 =>
        x_wI M a12 i3 (0 : Int32) fun M =>
        x_gR M 10 t0 56 fun a13 =>
        x_gR M 10 t0 73 fun a14 =>
        x_aI M 0 a14 i3 fun x15 =>
        if 0 < x15 then
          q_M_numbered_243 t0 i1 i2 i3 i3 a13 M
        else
          x_gR M 10 t0 58 fun a16 =>
          x_aI M 1 a16 i3 fun x17 =>
          if x17 = 0 then
            q_M_numbered_258 t0 i1 i2 i3 (0 : Int32) i3 a13 M
          else
            q_M_numbered_243 t0 i1 i2 i3 i3 a13 M
      else
        q_M_numbered_259 t0 i1 i2 i3 M
def q_M_numbered_67 : Nat → Option Nat → Int32 → Int32 → Int32 → Int32 → Int32 → Int32 → mM → Option (Unit × mM)
  | 0, _, _, _, _, _, _, _, _ => none
  | n + 1, t0, i1, i2, i3, i4, i5, i6, M => q_M_numbered_67_b (q_M_numbered_67 n) t0 i1 i2 i3 i4 i5 i6 M
set_option maxRecDepth 20000 in
theorem v_M_numbered_67_b {E : mE} (r67 : Option Nat → Int32 → Int32 → Int32 → Int32 → Int32 → Int32 → mM → Option (Unit × mM)) (h67 : ∀ (t0 : Option Nat) (i1 : Int32) (i2 : Int32) (i3 : Int32) (i4 : Int32) (i5 : Int32) (i6 : Int32) (M : mM), mVr E mi_M_numbered 7 67 [some (.inr t0), some (.inl i1), some (.inl i2), some (.inl i3), some (.inl i4), some (.inl i5), some (.inl i6), none] [] M enU (r67 t0 i1 i2 i3 i4 i5 i6 M)) (t0 : Option Nat) (i1 : Int32) (i2 : Int32) (i3 : Int32) (i4 : Int32) (i5 : Int32) (i6 : Int32) (M : mM) : mVr E mi_M_numbered 7 67 [some (.inr t0), some (.inl i1), some (.inl i2), some (.inl i3), some (.inl i4), some (.inl i5), some (.inl i6), none] [] M enU (q_M_numbered_67_b r67 t0 i1 i2 i3 i4 i5 i6 M) := by
  unfold q_M_numbered_67_b
  refine m_iload (d_M_numbered_1 (k := 2) rfl) rfl ?_
  refine m_aload_n (d_M_numbered_1 (k := 3) rfl) rfl ?_
  refine m_getR (d_M_numbered_1 (k := 4) rfl) fl_M_182 rfl (fun a1 => ?_)
  refine m_iload_n (d_M_numbered_1 (k := 5) rfl) rfl ?_
  refine m_iald (d_M_numbered_1 (k := 6) rfl) (fun x2 => ?_)
  refine m_icmp_ge (tgt := 189) (d_M_numbered_1 (k := 7) rfl) rfl ?_ ?_
  · refine m_aload_n (d_M_numbered_1 (k := 8) rfl) rfl ?_
    refine m_getR (d_M_numbered_1 (k := 9) rfl) fl_M_176 rfl (fun a3 => ?_)
    refine m_iconst (v := 4) (d_M_numbered_1 (k := 10) rfl) (by decide) ?_
    refine m_iload_n (d_M_numbered_1 (k := 11) rfl) rfl ?_
    refine m_imul (d_M_numbered_1 (k := 12) rfl) ?_
    refine m_iload (d_M_numbered_1 (k := 13) rfl) rfl ?_
    refine m_iadd (d_M_numbered_1 (k := 14) rfl) ?_
    refine m_iload (d_M_numbered_1 (k := 15) rfl) rfl ?_
    refine m_isub (d_M_numbered_1 (k := 16) rfl) ?_
    refine m_aload_n (d_M_numbered_1 (k := 17) rfl) rfl ?_
    refine m_getR (d_M_numbered_1 (k := 18) rfl) fl_M_176 rfl (fun a4 => ?_)
    refine m_iconst (v := 4) (d_M_numbered_1 (k := 19) rfl) (by decide) ?_
    refine m_iload_n (d_M_numbered_1 (k := 20) rfl) rfl ?_
    refine m_imul (d_M_numbered_1 (k := 21) rfl) ?_
    refine m_iload (d_M_numbered_1 (k := 22) rfl) rfl ?_
    refine m_iadd (d_M_numbered_1 (k := 23) rfl) ?_
    refine m_iald (d_M_numbered_1 (k := 24) rfl) (fun x5 => ?_)
    refine m_iast (d_M_numbered_1 (k := 25) rfl) (fun M => ?_)
    refine m_aload_n (d_M_numbered_1 (k := 26) rfl) rfl ?_
    refine m_getR (d_M_numbered_1 (k := 27) rfl) fl_M_179 rfl (fun a6 => ?_)
    refine m_iconst (v := 4) (d_M_numbered_1 (k := 28) rfl) (by decide) ?_
    refine m_iload_n (d_M_numbered_1 (k := 29) rfl) rfl ?_
    refine m_imul (d_M_numbered_1 (k := 30) rfl) ?_
    refine m_iload (d_M_numbered_1 (k := 31) rfl) rfl ?_
    refine m_iadd (d_M_numbered_1 (k := 32) rfl) ?_
    refine m_iload (d_M_numbered_1 (k := 33) rfl) rfl ?_
    refine m_isub (d_M_numbered_1 (k := 34) rfl) ?_
    refine m_aload_n (d_M_numbered_1 (k := 35) rfl) rfl ?_
    refine m_getR (d_M_numbered_1 (k := 36) rfl) fl_M_179 rfl (fun a7 => ?_)
    refine m_iconst (v := 4) (d_M_numbered_1 (k := 37) rfl) (by decide) ?_
    refine m_iload_n (d_M_numbered_1 (k := 38) rfl) rfl ?_
    refine m_imul (d_M_numbered_1 (k := 39) rfl) ?_
    refine m_iload (d_M_numbered_2 (k := 0) rfl) rfl ?_
    refine m_iadd (d_M_numbered_2 (k := 1) rfl) ?_
    refine m_iald (d_M_numbered_2 (k := 2) rfl) (fun x8 => ?_)
    refine m_iast (d_M_numbered_2 (k := 3) rfl) (fun M => ?_)
    refine m_iconst (v := 0) (d_M_numbered_2 (k := 4) rfl) (by decide) ?_
    refine m_ist (ls' := [some (.inr t0), some (.inl i1), some (.inl i2), some (.inl i3), some (.inl i4), some (.inl i5), some (.inl i6), some (.inl (0 : Int32))]) (d_M_numbered_2 (k := 5) rfl) (by decide) rfl ?_
    exact m_drop (mles_s (mles_s (mles_s (mles_s (mles_s (mles_s (mles_s (mles_s mles_0)))))))) (v_M_numbered_131 r67 h67 mFU t0 i1 i2 i3 i4 i5 i6 (0 : Int32) M)
  · refine m_aload_n (d_M_numbered_2 (k := 39) rfl) rfl ?_
    refine m_getR (d_M_numbered_3 (k := 0) rfl) fl_M_182 rfl (fun a9 => ?_)
    refine m_iload_n (d_M_numbered_3 (k := 1) rfl) rfl ?_
    refine m_dup2 (d_M_numbered_3 (k := 2) rfl) ?_
    refine m_iald (d_M_numbered_3 (k := 3) rfl) (fun x10 => ?_)
    refine m_iload (d_M_numbered_3 (k := 4) rfl) rfl ?_
    refine m_isub (d_M_numbered_3 (k := 5) rfl) ?_
    refine m_iast (d_M_numbered_3 (k := 6) rfl) (fun M => ?_)
    refine m_aload_n (d_M_numbered_3 (k := 7) rfl) rfl ?_
    refine m_getR (d_M_numbered_3 (k := 8) rfl) fl_M_125 rfl (fun a11 => ?_)
    refine m_iload_n (d_M_numbered_3 (k := 9) rfl) rfl ?_
    refine m_iload (d_M_numbered_3 (k := 10) rfl) rfl ?_
    refine m_iast (d_M_numbered_3 (k := 11) rfl) (fun M => ?_)
    refine m_iload (d_M_numbered_3 (k := 12) rfl) rfl ?_
    refine m_if_le (tgt := 259) (d_M_numbered_3 (k := 13) rfl) rfl ?_ ?_
    · refine m_aload_n (d_M_numbered_3 (k := 14) rfl) rfl ?_
      refine m_getR (d_M_numbered_3 (k := 15) rfl) fl_M_134 rfl (fun a12 => ?_)
      refine m_iload_n (d_M_numbered_3 (k := 16) rfl) rfl ?_
      refine m_iconst (v := 0) (d_M_numbered_3 (k := 17) rfl) (by decide) ?_
      refine m_iast (d_M_numbered_3 (k := 18) rfl) (fun M => ?_)
      refine m_aload_n (d_M_numbered_3 (k := 19) rfl) rfl ?_
      refine m_getR (d_M_numbered_3 (k := 20) rfl) fl_M_131 rfl (fun a13 => ?_)
      refine m_iload_n (d_M_numbered_3 (k := 21) rfl) rfl ?_
      refine m_aload_n (d_M_numbered_3 (k := 22) rfl) rfl ?_
      refine m_getR (d_M_numbered_3 (k := 23) rfl) fl_M_182 rfl (fun a14 => ?_)
      refine m_iload_n (d_M_numbered_3 (k := 24) rfl) rfl ?_
      refine m_iald (d_M_numbered_3 (k := 25) rfl) (fun x15 => ?_)
      refine m_if_gt (tgt := 243) (d_M_numbered_3 (k := 26) rfl) rfl ?_ ?_
      · exact m_drop (mles_s (mles_s (mles_s (mles_s (mles_n (mles_n (mles_n (mles_n mles_0)))))))) (v_M_numbered_243 t0 i1 i2 i3 i3 a13 M)
      · refine m_aload_n (d_M_numbered_3 (k := 27) rfl) rfl ?_
        refine m_getR (d_M_numbered_3 (k := 28) rfl) fl_M_137 rfl (fun a16 => ?_)
        refine m_iload_n (d_M_numbered_3 (k := 29) rfl) rfl ?_
        refine m_zald (d_M_numbered_3 (k := 30) rfl) (fun x17 => ?_)
        refine m_if_eq (tgt := 257) (d_M_numbered_3 (k := 31) rfl) rfl ?_ ?_
        · refine m_iconst (v := 0) (d_M_numbered_4 (k := 1) rfl) (by decide) ?_
          exact m_drop (mles_s (mles_s (mles_s (mles_s (mles_n (mles_n (mles_n (mles_n mles_0)))))))) (v_M_numbered_258 t0 i1 i2 i3 (0 : Int32) i3 a13 M)
        · exact m_drop (mles_s (mles_s (mles_s (mles_s (mles_n (mles_n (mles_n (mles_n mles_0)))))))) (v_M_numbered_243 t0 i1 i2 i3 i3 a13 M)
    · exact m_drop (mles_s (mles_s (mles_s (mles_s (mles_n (mles_n (mles_n (mles_n mles_0)))))))) (v_M_numbered_259 t0 i1 i2 i3 M)
theorem v_M_numbered_67 {E : mE} : ∀ (n : Nat) (t0 : Option Nat) (i1 : Int32) (i2 : Int32) (i3 : Int32) (i4 : Int32) (i5 : Int32) (i6 : Int32) (M : mM), mVr E mi_M_numbered 7 67 [some (.inr t0), some (.inl i1), some (.inl i2), some (.inl i3), some (.inl i4), some (.inl i5), some (.inl i6), none] [] M enU (q_M_numbered_67 n t0 i1 i2 i3 i4 i5 i6 M)
  | 0, _, _, _, _, _, _, _, _ => m_none
  | n + 1, t0, i1, i2, i3, i4, i5, i6, M => v_M_numbered_67_b _ (v_M_numbered_67 n) t0 i1 i2 i3 i4 i5 i6 M
def q_M_numbered (t0 : Option Nat) (i1 : Int32) (i2 : Int32) (i3 : Int32) (M : mM) : Option (Unit × mM) :=
    x_gR M 10 t0 36 fun a1 =>
    x_gI M 10 t0 43 fun x2 =>
    x_aI M 0 a1 x2 fun x3 =>
    x_lt (x3 >>> ((5 : Int32) &&& 31)) fun x4 =>
    x_gR M 10 t0 54 fun a5 =>
    x_aI M 0 a5 i3 fun x6 =>
    x_lt ((x4 - x6) &&& (7 : Int32)) fun x7 =>
    x_gR M 10 t0 53 fun a8 =>
    x_aI M 0 a8 i3 fun x9 =>
    x_gR M 10 t0 54 fun a10 =>
    x_aI M 0 a10 i3 fun x11 =>
    if ((x9 - x11) &&& (7 : Int32)) < x7 then
      x_cv M 10 t0 (q_M_say t0 i1 i2 (0 : Int32) (15 : Int32) M) fun _ M =>
      x_cv M 10 t0 (q_M_goDown t0 i3 M) fun _ M =>
      some ((), M)
    else
      q_M_numbered_67 mFU t0 i1 i2 i3 x4 x7 x7 M
set_option maxRecDepth 20000 in
theorem v_M_numbered {E : mE} (t0 : Option Nat) (i1 : Int32) (i2 : Int32) (i3 : Int32) (M : mM) : mVr E mi_M_numbered 7 0 [some (.inr t0), some (.inl i1), some (.inl i2), some (.inl i3), none, none, none, none] [] M enU (q_M_numbered t0 i1 i2 i3 M) := by
  unfold q_M_numbered
  refine m_aload_n (d_M_numbered_0 (k := 0) rfl) rfl ?_
  refine m_getR (d_M_numbered_0 (k := 1) rfl) fl_M_101 rfl (fun a1 => ?_)
  refine m_aload_n (d_M_numbered_0 (k := 2) rfl) rfl ?_
  refine m_getI (d_M_numbered_0 (k := 3) rfl) fl_M_350 rfl (fun x2 => ?_)
  refine m_iald (d_M_numbered_0 (k := 4) rfl) (fun x3 => ?_)
  refine m_iconst (v := 5) (d_M_numbered_0 (k := 5) rfl) (by decide) ?_
  refine m_ishr (d_M_numbered_0 (k := 6) rfl) ?_
  refine m_lt (fun x4 => ?_)
  refine m_ist (ls' := [some (.inr t0), some (.inl i1), some (.inl i2), some (.inl i3), some (.inl x4), none, none, none]) (d_M_numbered_0 (k := 7) rfl) (by decide) rfl ?_
  refine m_iload (d_M_numbered_0 (k := 8) rfl) rfl ?_
  refine m_aload_n (d_M_numbered_0 (k := 9) rfl) rfl ?_
  refine m_getR (d_M_numbered_0 (k := 10) rfl) fl_M_125 rfl (fun a5 => ?_)
  refine m_iload_n (d_M_numbered_0 (k := 11) rfl) rfl ?_
  refine m_iald (d_M_numbered_0 (k := 12) rfl) (fun x6 => ?_)
  refine m_isub (d_M_numbered_0 (k := 13) rfl) ?_
  refine m_bipush (v := 7) (d_M_numbered_0 (k := 14) rfl) (by decide) ?_
  refine m_iand (d_M_numbered_0 (k := 15) rfl) ?_
  refine m_lt (fun x7 => ?_)
  refine m_ist (ls' := [some (.inr t0), some (.inl i1), some (.inl i2), some (.inl i3), some (.inl x4), some (.inl x7), none, none]) (d_M_numbered_0 (k := 16) rfl) (by decide) rfl ?_
  refine m_iload (d_M_numbered_0 (k := 17) rfl) rfl ?_
  refine m_aload_n (d_M_numbered_0 (k := 18) rfl) rfl ?_
  refine m_getR (d_M_numbered_0 (k := 19) rfl) fl_M_122 rfl (fun a8 => ?_)
  refine m_iload_n (d_M_numbered_0 (k := 20) rfl) rfl ?_
  refine m_iald (d_M_numbered_0 (k := 21) rfl) (fun x9 => ?_)
  refine m_aload_n (d_M_numbered_0 (k := 22) rfl) rfl ?_
  refine m_getR (d_M_numbered_0 (k := 23) rfl) fl_M_125 rfl (fun a10 => ?_)
  refine m_iload_n (d_M_numbered_0 (k := 24) rfl) rfl ?_
  refine m_iald (d_M_numbered_0 (k := 25) rfl) (fun x11 => ?_)
  refine m_isub (d_M_numbered_0 (k := 26) rfl) ?_
  refine m_bipush (v := 7) (d_M_numbered_0 (k := 27) rfl) (by decide) ?_
  refine m_iand (d_M_numbered_0 (k := 28) rfl) ?_
  refine m_icmp_le (tgt := 63) (d_M_numbered_0 (k := 29) rfl) rfl ?_ ?_
  · refine m_aload_n (d_M_numbered_0 (k := 30) rfl) rfl ?_
    refine m_iload_n (d_M_numbered_0 (k := 31) rfl) rfl ?_
    refine m_iload_n (d_M_numbered_0 (k := 32) rfl) rfl ?_
    refine m_iconst (v := 0) (d_M_numbered_0 (k := 33) rfl) (by decide) ?_
    refine m_bipush (v := 15) (d_M_numbered_0 (k := 34) rfl) (by decide) ?_
    refine m_cvU (c := 10) (vs := [.inl i1, .inl i2, .inl (0 : Int32), .inl (15 : Int32)]) (st := []) (d_M_numbered_0 (k := 35) rfl) (s_M_say t0 i1 i2 (0 : Int32) (15 : Int32) M) cd_M_say ml_M_391 im_M_say se_M_say rfl (by decide) rfl (Nat.le_of_ble_eq_true rfl) (fun _ M => ?_)
    refine m_aload_n (d_M_numbered_0 (k := 36) rfl) rfl ?_
    refine m_iload_n (d_M_numbered_0 (k := 37) rfl) rfl ?_
    refine m_cvU (c := 10) (vs := [.inl i3]) (st := []) (d_M_numbered_0 (k := 38) rfl) (s_M_goDown t0 i3 M) cd_M_goDown ml_M_410 im_M_goDown se_M_goDown rfl (by decide) rfl (Nat.le_of_ble_eq_true rfl) (fun _ M => ?_)
    exact m_vret (d_M_numbered_0 (k := 39) rfl) rfl
  · refine m_iload (d_M_numbered_1 (k := 0) rfl) rfl ?_
    refine m_ist (ls' := [some (.inr t0), some (.inl i1), some (.inl i2), some (.inl i3), some (.inl x4), some (.inl x7), some (.inl x7), none]) (d_M_numbered_1 (k := 1) rfl) (by decide) rfl ?_
    exact m_drop (mles_s (mles_s (mles_s (mles_s (mles_s (mles_s (mles_s (mles_n mles_0)))))))) (v_M_numbered_67 mFU t0 i1 i2 i3 x4 x7 x7 M)
theorem s_M_numbered {E : mE} (t0 : Option Nat) (i1 : Int32) (i2 : Int32) (i3 : Int32) (M : mM) : mSnd E mi_M_numbered 7 [.inr t0, .inl i1, .inl i2, .inl i3] M enU (q_M_numbered t0 i1 i2 i3 M) := m_entryU (by decide) (Nat.le_of_ble_eq_true rfl) rfl (m_drop (mles_s (mles_s (mles_s (mles_s (mles_e (mles_e (mles_e (mles_e mles_0)))))))) (v_M_numbered t0 i1 i2 i3 M))
def dt_M_answers_0 : List (Nat × Instr × Nat) := [(0, .bipush 6, 2), (2, .iload_n 1, 1), (3, .imul, 1), (4, .aload_n 0, 1), (5, .getfield 337, 3), (8, .iadd, 1), (9, .istore_n 2, 1), (10, .aload_n 0, 1), (11, .getfield 366, 3), (14, .bipush 47, 2), (16, .if_icmp .ne 12, 3), (19, .aload_n 0, 1), (20, .iload_n 1, 1), (21, .iload_n 2, 1), (22, .invokevirtual 404, 3), (25, .goto 255, 3), (28, .aload_n 0, 1), (29, .getfield 369, 3), (32, .aload_n 0, 1), (33, .getfield 119, 3), (36, .iload_n 2, 1), (37, .iaload, 1), (38, .if_icmp .ne 12, 3), (41, .aload_n 0, 1), (42, .getfield 110, 3), (45, .iload_n 2, 1), (46, .iaload, 1), (47, .ifCond .ne 20, 3), (50, .aload_n 0, 1), (51, .getfield 340, 3), (54, .ifCond .eq 226, 3), (57, .aload_n 0, 1), (58, .iload_n 1, 1), (59, .bipush 15, 2), (61, .invokevirtual 407, 3), (64, .goto 216, 3), (67, .aload_n 0, 1), (68, .getfield 110, 3), (71, .iload_n 2, 1), (72, .iaload, 1)]
theorem dx_M_answers_0 : ∀ p ∈ dt_M_answers_0, decode prog_12_method_60_code p.1 = .ok p.2 := by decide +kernel
theorem d_M_answers_0 {k pc : Nat} {i : Instr} {n : Nat} (h : dt_M_answers_0[k]? = some (pc, i, n)) : decode mi_M_answers.2.1 pc = .ok (i, n) := dx_M_answers_0 (pc, i, n) (List.mem_of_getElem? h)
def dt_M_answers_1 : List (Nat × Instr × Nat) := [(73, .iconst 1, 1), (74, .if_icmp .ne 53, 3), (77, .aload_n 0, 1), (78, .getfield 366, 3), (81, .bipush 99, 2), (83, .if_icmp .ne 27, 3), (86, .aload_n 0, 1), (87, .getfield 110, 3), (90, .iload_n 2, 1), (91, .iconst 2, 1), (92, .iastore, 1), (93, .aload_n 0, 1), (94, .getfield 131, 3), (97, .iload_n 2, 1), (98, .iconst 0, 1), (99, .iastore, 1), (100, .aload_n 0, 1), (101, .getfield 134, 3), (104, .iload_n 2, 1), (105, .iconst 0, 1), (106, .iastore, 1), (107, .goto 173, 3), (110, .aload_n 0, 1), (111, .getfield 366, 3), (114, .bipush 15, 2), (116, .if_icmp .ne 164, 3), (119, .aload_n 0, 1), (120, .iload_n 2, 1), (121, .invokevirtual 410, 3), (124, .goto 156, 3), (127, .aload_n 0, 1), (128, .getfield 110, 3), (131, .iload_n 2, 1), (132, .iaload, 1), (133, .iconst 3, 1), (134, .if_icmp .ne 67, 3), (137, .aload_n 0, 1), (138, .getfield 366, 3), (141, .bipush 99, 2), (143, .if_icmp .eq 12, 3)]
theorem dx_M_answers_1 : ∀ p ∈ dt_M_answers_1, decode prog_12_method_60_code p.1 = .ok p.2 := by decide +kernel
theorem d_M_answers_1 {k pc : Nat} {i : Instr} {n : Nat} (h : dt_M_answers_1[k]? = some (pc, i, n)) : decode mi_M_answers.2.1 pc = .ok (i, n) := dx_M_answers_1 (pc, i, n) (List.mem_of_getElem? h)
def dt_M_answers_2 : List (Nat × Instr × Nat) := [(146, .aload_n 0, 1), (147, .getfield 366, 3), (150, .bipush 15, 2), (152, .if_icmp .ne 11, 3), (155, .aload_n 0, 1), (156, .iload_n 2, 1), (157, .invokevirtual 410, 3), (160, .goto 120, 3), (163, .aload_n 0, 1), (164, .getfield 366, 3), (167, .bipush 67, 2), (169, .if_icmp .ne 111, 3), (172, .aload_n 0, 1), (173, .iload_n 1, 1), (174, .aload_n 0, 1), (175, .getfield 337, 3), (178, .iconst 0, 1), (179, .bipush 99, 2), (181, .aload_n 0, 1), (182, .getfield 363, 3), (185, .ifCond .eq 8, 3), (188, .bipush 16, 2), (190, .goto 4, 3), (193, .iconst 0, 1), (194, .iadd, 1), (195, .invokevirtual 391, 3), (198, .goto 82, 3), (201, .aload_n 0, 1), (202, .getfield 366, 3), (205, .bipush 67, 2), (207, .if_icmp .ne 37, 3), (210, .aload_n 0, 1), (211, .iload_n 1, 1), (212, .aload_n 0, 1), (213, .getfield 337, 3), (216, .iconst 0, 1), (217, .bipush 99, 2), (219, .aload_n 0, 1), (220, .getfield 363, 3), (223, .ifCond .eq 8, 3)]
theorem dx_M_answers_2 : ∀ p ∈ dt_M_answers_2, decode prog_12_method_60_code p.1 = .ok p.2 := by decide +kernel
theorem d_M_answers_2 {k pc : Nat} {i : Instr} {n : Nat} (h : dt_M_answers_2[k]? = some (pc, i, n)) : decode mi_M_answers.2.1 pc = .ok (i, n) := dx_M_answers_2 (pc, i, n) (List.mem_of_getElem? h)
def dt_M_answers_3 : List (Nat × Instr × Nat) := [(226, .bipush 16, 2), (228, .goto 4, 3), (231, .iconst 0, 1), (232, .iadd, 1), (233, .invokevirtual 391, 3), (236, .aload_n 0, 1), (237, .iload_n 2, 1), (238, .invokevirtual 410, 3), (241, .goto 39, 3), (244, .aload_n 0, 1), (245, .getfield 366, 3), (248, .bipush 15, 2), (250, .if_icmp .ne 11, 3), (253, .aload_n 0, 1), (254, .iload_n 2, 1), (255, .invokevirtual 410, 3), (258, .goto 22, 3), (261, .aload_n 0, 1), (262, .getfield 366, 3), (265, .bipush 99, 2), (267, .if_icmp .eq 13, 3), (270, .aload_n 0, 1), (271, .iload_n 1, 1), (272, .aload_n 0, 1), (273, .getfield 337, 3), (276, .iload_n 2, 1), (277, .invokevirtual 413, 3), (280, .return_, 1)]
theorem dx_M_answers_3 : ∀ p ∈ dt_M_answers_3, decode prog_12_method_60_code p.1 = .ok p.2 := by decide +kernel
theorem d_M_answers_3 {k pc : Nat} {i : Instr} {n : Nat} (h : dt_M_answers_3[k]? = some (pc, i, n)) : decode mi_M_answers.2.1 pc = .ok (i, n) := dx_M_answers_3 (pc, i, n) (List.mem_of_getElem? h)
def q_M_answers_50 (t0 : Option Nat) (i1 : Int32) (M : mM) : Option (Unit × mM) :=
    x_gI M 10 t0 44 fun x1 =>
    if x1 = 0 then
      some ((), M)
    else
      x_cv M 10 t0 (q_M_answer t0 i1 (15 : Int32) M) fun _ M =>
      some ((), M)
set_option maxRecDepth 20000 in
theorem v_M_answers_50 {E : mE} (t0 : Option Nat) (i1 : Int32) (M : mM) : mVr E mi_M_answers 8 50 [some (.inr t0), some (.inl i1), none] [] M enU (q_M_answers_50 t0 i1 M) := by
  unfold q_M_answers_50
  refine m_aload_n (d_M_answers_0 (k := 28) rfl) rfl ?_
  refine m_getI (d_M_answers_0 (k := 29) rfl) fl_M_340 rfl (fun x1 => ?_)
  refine m_if_eq (tgt := 280) (d_M_answers_0 (k := 30) rfl) rfl ?_ ?_
  · exact m_vret (d_M_answers_3 (k := 27) rfl) rfl
  · refine m_aload_n (d_M_answers_0 (k := 31) rfl) rfl ?_
    refine m_iload_n (d_M_answers_0 (k := 32) rfl) rfl ?_
    refine m_bipush (v := 15) (d_M_answers_0 (k := 33) rfl) (by decide) ?_
    refine m_cvU (c := 10) (vs := [.inl i1, .inl (15 : Int32)]) (st := []) (d_M_answers_0 (k := 34) rfl) (s_M_answer t0 i1 (15 : Int32) M) cd_M_answer ml_M_407 im_M_answer se_M_answer rfl (by decide) rfl (Nat.le_of_ble_eq_true rfl) (fun _ M => ?_)
    refine m_goto (tgt := 280) (d_M_answers_0 (k := 35) rfl) rfl ?_
    exact m_vret (d_M_answers_3 (k := 27) rfl) rfl
def q_M_answers_155 (t0 : Option Nat) (i2 : Int32) (M : mM) : Option (Unit × mM) :=
    x_cv M 10 t0 (q_M_goDown t0 i2 M) fun _ M =>
    some ((), M)
set_option maxRecDepth 20000 in
theorem v_M_answers_155 {E : mE} (t0 : Option Nat) (i2 : Int32) (M : mM) : mVr E mi_M_answers 8 155 [some (.inr t0), none, some (.inl i2)] [] M enU (q_M_answers_155 t0 i2 M) := by
  unfold q_M_answers_155
  refine m_aload_n (d_M_answers_2 (k := 4) rfl) rfl ?_
  refine m_iload_n (d_M_answers_2 (k := 5) rfl) rfl ?_
  refine m_cvU (c := 10) (vs := [.inl i2]) (st := []) (d_M_answers_2 (k := 6) rfl) (s_M_goDown t0 i2 M) cd_M_goDown ml_M_410 im_M_goDown se_M_goDown rfl (by decide) rfl (Nat.le_of_ble_eq_true rfl) (fun _ M => ?_)
  refine m_goto (tgt := 280) (d_M_answers_2 (k := 7) rfl) rfl ?_
  exact m_vret (d_M_answers_3 (k := 27) rfl) rfl
def q_M_answers_194 (j0 : Int32) (j1 : Int32) (j2 : Int32) (j3 : Int32) (j4 : Int32) (u5 : Option Nat) (M : mM) : Option (Unit × mM) :=
    x_cv M 10 u5 (q_M_say u5 j4 j3 j2 (j1 + j0) M) fun _ M =>
    some ((), M)
set_option maxRecDepth 20000 in
theorem v_M_answers_194 {E : mE} (j0 : Int32) (j1 : Int32) (j2 : Int32) (j3 : Int32) (j4 : Int32) (u5 : Option Nat) (M : mM) : mVr E mi_M_answers 8 194 [none, none, none] [.inl j0, .inl j1, .inl j2, .inl j3, .inl j4, .inr u5] M enU (q_M_answers_194 j0 j1 j2 j3 j4 u5 M) := by
  unfold q_M_answers_194
  refine m_iadd (d_M_answers_2 (k := 24) rfl) ?_
  refine m_cvU (c := 10) (vs := [.inl j4, .inl j3, .inl j2, .inl (j1 + j0)]) (st := []) (d_M_answers_2 (k := 25) rfl) (s_M_say u5 j4 j3 j2 (j1 + j0) M) cd_M_say ml_M_391 im_M_say se_M_say rfl (by decide) rfl (Nat.le_of_ble_eq_true rfl) (fun _ M => ?_)
  refine m_goto (tgt := 280) (d_M_answers_2 (k := 26) rfl) rfl ?_
  exact m_vret (d_M_answers_3 (k := 27) rfl) rfl
def q_M_answers_232 (t0 : Option Nat) (i2 : Int32) (j0 : Int32) (j1 : Int32) (j2 : Int32) (j3 : Int32) (j4 : Int32) (u5 : Option Nat) (M : mM) : Option (Unit × mM) :=
    x_cv M 10 u5 (q_M_say u5 j4 j3 j2 (j1 + j0) M) fun _ M =>
    x_cv M 10 t0 (q_M_goDown t0 i2 M) fun _ M =>
    some ((), M)
set_option maxRecDepth 20000 in
theorem v_M_answers_232 {E : mE} (t0 : Option Nat) (i2 : Int32) (j0 : Int32) (j1 : Int32) (j2 : Int32) (j3 : Int32) (j4 : Int32) (u5 : Option Nat) (M : mM) : mVr E mi_M_answers 8 232 [some (.inr t0), none, some (.inl i2)] [.inl j0, .inl j1, .inl j2, .inl j3, .inl j4, .inr u5] M enU (q_M_answers_232 t0 i2 j0 j1 j2 j3 j4 u5 M) := by
  unfold q_M_answers_232
  refine m_iadd (d_M_answers_3 (k := 3) rfl) ?_
  refine m_cvU (c := 10) (vs := [.inl j4, .inl j3, .inl j2, .inl (j1 + j0)]) (st := []) (d_M_answers_3 (k := 4) rfl) (s_M_say u5 j4 j3 j2 (j1 + j0) M) cd_M_say ml_M_391 im_M_say se_M_say rfl (by decide) rfl (Nat.le_of_ble_eq_true rfl) (fun _ M => ?_)
  refine m_aload_n (d_M_answers_3 (k := 5) rfl) rfl ?_
  refine m_iload_n (d_M_answers_3 (k := 6) rfl) rfl ?_
  refine m_cvU (c := 10) (vs := [.inl i2]) (st := []) (d_M_answers_3 (k := 7) rfl) (s_M_goDown t0 i2 M) cd_M_goDown ml_M_410 im_M_goDown se_M_goDown rfl (by decide) rfl (Nat.le_of_ble_eq_true rfl) (fun _ M => ?_)
  refine m_goto (tgt := 280) (d_M_answers_3 (k := 8) rfl) rfl ?_
  exact m_vret (d_M_answers_3 (k := 27) rfl) rfl
def q_M_answers (t0 : Option Nat) (i1 : Int32) (M : mM) : Option (Unit × mM) :=
    x_gI M 10 t0 39 fun x1 =>
    x_lt (((6 : Int32) * i1) + x1) fun x2 =>
    x_gI M 10 t0 41 fun x3 =>
    if x3 = (47 : Int32) then
      x_cv M 10 t0 (q_M_comesUp t0 i1 x2 M) fun _ M =>
      some ((), M)
    else
      x_gI M 10 t0 42 fun x4 =>
      x_gR M 10 t0 52 fun a5 =>
      x_aI M 0 a5 x2 fun x6 =>
      if x4 = x6 then
        x_gR M 10 t0 49 fun a7 =>
        x_aI M 0 a7 x2 fun x8 =>
        if x8 = 0 then
          q_M_answers_50 t0 i1 M
        else
          x_gR M 10 t0 49 fun a9 =>
          x_aI M 0 a9 x2 fun x10 =>
          if x10 = (1 : Int32) then
            x_gI M 10 t0 41 fun x11 =>
            if x11 = (99 : Int32) then
              x_gR M 10 t0 49 fun a12 =>
              x_wI M a12 x2 (2 : Int32) fun M =>
              x_gR M 10 t0 56 fun a13 =>
              x_wI M a13 x2 (0 : Int32) fun M =>
              x_gR M 10 t0 57 fun a14 =>
              x_wI M a14 x2 (0 : Int32) fun M =>
              some ((), M)
            else
              x_gI M 10 t0 41 fun x15 =>
              if x15 = (15 : Int32) then
                x_cv M 10 t0 (q_M_goDown t0 x2 M) fun _ M =>
                some ((), M)
              else
                some ((), M)
          else
            x_gR M 10 t0 49 fun a16 =>
            x_aI M 0 a16 x2 fun x17 =>
            if x17 = (3 : Int32) then
              x_gI M 10 t0 41 fun x18 =>
              if x18 = (99 : Int32) then
                q_M_answers_155 t0 x2 M
              else
                x_gI M 10 t0 41 fun x19 =>
                if x19 = (15 : Int32) then
                  q_M_answers_155 t0 x2 M
                else
                  x_gI M 10 t0 41 fun x20 =>
                  if x20 = (67 : Int32) then
                    x_gI M 10 t0 39 fun x21 =>
                    x_gI M 10 t0 45 fun x22 =>
                    if x22 = 0 then
                      q_M_answers_194 (0 : Int32) (99 : Int32) (0 : Int32) x21 i1 t0 M
                    else
                      q_M_answers_194 (16 : Int32) (99 : Int32) (0 : Int32) x21 i1 t0 M
                  else
                    some ((), M)
            else
              x_gI M 10 t0 41 fun x23 =>
              if x23 = (67 : Int32) then
                x_gI M 10 t0 39 fun x24 =>
                x_gI M 10 t0 45 fun x25 =>
                if x25 = 0 then
                  q_M_answers_232 t0 x2 (0 : Int32) (99 : Int32) (0 : Int32) x24 i1 t0 M
                else
                  q_M_answers_232 t0 x2 (16 : Int32) (99 : Int32) (0 : Int32) x24 i1 t0 M
              else
                x_gI M 10 t0 41 fun x26 =>
                if x26 = (15 : Int32) then
                  x_cv M 10 t0 (q_M_goDown t0 x2 M) fun _ M =>
                  some ((), M)
                else
                  x_gI M 10 t0 41 fun x27 =>
                  if x27 = (99 : Int32) then
                    some ((), M)
                  else
                    x_gI M 10 t0 39 fun x28 =>
                    x_cv M 10 t0 (q_M_numbered t0 i1 x28 x2 M) fun _ M =>
                    some ((), M)
      else
        q_M_answers_50 t0 i1 M
set_option maxRecDepth 20000 in
theorem v_M_answers {E : mE} (t0 : Option Nat) (i1 : Int32) (M : mM) : mVr E mi_M_answers 8 0 [some (.inr t0), some (.inl i1), none] [] M enU (q_M_answers t0 i1 M) := by
  unfold q_M_answers
  refine m_bipush (v := 6) (d_M_answers_0 (k := 0) rfl) (by decide) ?_
  refine m_iload_n (d_M_answers_0 (k := 1) rfl) rfl ?_
  refine m_imul (d_M_answers_0 (k := 2) rfl) ?_
  refine m_aload_n (d_M_answers_0 (k := 3) rfl) rfl ?_
  refine m_getI (d_M_answers_0 (k := 4) rfl) fl_M_337 rfl (fun x1 => ?_)
  refine m_iadd (d_M_answers_0 (k := 5) rfl) ?_
  refine m_lt (fun x2 => ?_)
  refine m_ist_n (ls' := [some (.inr t0), some (.inl i1), some (.inl x2)]) (d_M_answers_0 (k := 6) rfl) (by decide) rfl ?_
  refine m_aload_n (d_M_answers_0 (k := 7) rfl) rfl ?_
  refine m_getI (d_M_answers_0 (k := 8) rfl) fl_M_366 rfl (fun x3 => ?_)
  refine m_bipush (v := 47) (d_M_answers_0 (k := 9) rfl) (by decide) ?_
  refine m_icmp_ne (tgt := 28) (d_M_answers_0 (k := 10) rfl) rfl ?_ ?_
  · refine m_aload_n (d_M_answers_0 (k := 11) rfl) rfl ?_
    refine m_iload_n (d_M_answers_0 (k := 12) rfl) rfl ?_
    refine m_iload_n (d_M_answers_0 (k := 13) rfl) rfl ?_
    refine m_cvU (c := 10) (vs := [.inl i1, .inl x2]) (st := []) (d_M_answers_0 (k := 14) rfl) (s_M_comesUp t0 i1 x2 M) cd_M_comesUp ml_M_404 im_M_comesUp se_M_comesUp rfl (by decide) rfl (Nat.le_of_ble_eq_true rfl) (fun _ M => ?_)
    refine m_goto (tgt := 280) (d_M_answers_0 (k := 15) rfl) rfl ?_
    exact m_vret (d_M_answers_3 (k := 27) rfl) rfl
  · refine m_aload_n (d_M_answers_0 (k := 16) rfl) rfl ?_
    refine m_getI (d_M_answers_0 (k := 17) rfl) fl_M_369 rfl (fun x4 => ?_)
    refine m_aload_n (d_M_answers_0 (k := 18) rfl) rfl ?_
    refine m_getR (d_M_answers_0 (k := 19) rfl) fl_M_119 rfl (fun a5 => ?_)
    refine m_iload_n (d_M_answers_0 (k := 20) rfl) rfl ?_
    refine m_iald (d_M_answers_0 (k := 21) rfl) (fun x6 => ?_)
    refine m_icmp_ne (tgt := 50) (d_M_answers_0 (k := 22) rfl) rfl ?_ ?_
    · refine m_aload_n (d_M_answers_0 (k := 23) rfl) rfl ?_
      refine m_getR (d_M_answers_0 (k := 24) rfl) fl_M_110 rfl (fun a7 => ?_)
      refine m_iload_n (d_M_answers_0 (k := 25) rfl) rfl ?_
      refine m_iald (d_M_answers_0 (k := 26) rfl) (fun x8 => ?_)
      refine m_if_ne (tgt := 67) (d_M_answers_0 (k := 27) rfl) rfl ?_ ?_
      · exact m_drop (mles_s (mles_s (mles_n mles_0))) (v_M_answers_50 t0 i1 M)
      · refine m_aload_n (d_M_answers_0 (k := 36) rfl) rfl ?_
        refine m_getR (d_M_answers_0 (k := 37) rfl) fl_M_110 rfl (fun a9 => ?_)
        refine m_iload_n (d_M_answers_0 (k := 38) rfl) rfl ?_
        refine m_iald (d_M_answers_0 (k := 39) rfl) (fun x10 => ?_)
        refine m_iconst (v := 1) (d_M_answers_1 (k := 0) rfl) (by decide) ?_
        refine m_icmp_ne (tgt := 127) (d_M_answers_1 (k := 1) rfl) rfl ?_ ?_
        · refine m_aload_n (d_M_answers_1 (k := 2) rfl) rfl ?_
          refine m_getI (d_M_answers_1 (k := 3) rfl) fl_M_366 rfl (fun x11 => ?_)
          refine m_bipush (v := 99) (d_M_answers_1 (k := 4) rfl) (by decide) ?_
          refine m_icmp_ne (tgt := 110) (d_M_answers_1 (k := 5) rfl) rfl ?_ ?_
          · refine m_aload_n (d_M_answers_1 (k := 6) rfl) rfl ?_
            refine m_getR (d_M_answers_1 (k := 7) rfl) fl_M_110 rfl (fun a12 => ?_)
            refine m_iload_n (d_M_answers_1 (k := 8) rfl) rfl ?_
            refine m_iconst (v := 2) (d_M_answers_1 (k := 9) rfl) (by decide) ?_
            refine m_iast (d_M_answers_1 (k := 10) rfl) (fun M => ?_)
            refine m_aload_n (d_M_answers_1 (k := 11) rfl) rfl ?_
            refine m_getR (d_M_answers_1 (k := 12) rfl) fl_M_131 rfl (fun a13 => ?_)
            refine m_iload_n (d_M_answers_1 (k := 13) rfl) rfl ?_
            refine m_iconst (v := 0) (d_M_answers_1 (k := 14) rfl) (by decide) ?_
            refine m_iast (d_M_answers_1 (k := 15) rfl) (fun M => ?_)
            refine m_aload_n (d_M_answers_1 (k := 16) rfl) rfl ?_
            refine m_getR (d_M_answers_1 (k := 17) rfl) fl_M_134 rfl (fun a14 => ?_)
            refine m_iload_n (d_M_answers_1 (k := 18) rfl) rfl ?_
            refine m_iconst (v := 0) (d_M_answers_1 (k := 19) rfl) (by decide) ?_
            refine m_iast (d_M_answers_1 (k := 20) rfl) (fun M => ?_)
            refine m_goto (tgt := 280) (d_M_answers_1 (k := 21) rfl) rfl ?_
            exact m_vret (d_M_answers_3 (k := 27) rfl) rfl
          · refine m_aload_n (d_M_answers_1 (k := 22) rfl) rfl ?_
            refine m_getI (d_M_answers_1 (k := 23) rfl) fl_M_366 rfl (fun x15 => ?_)
            refine m_bipush (v := 15) (d_M_answers_1 (k := 24) rfl) (by decide) ?_
            refine m_icmp_ne (tgt := 280) (d_M_answers_1 (k := 25) rfl) rfl ?_ ?_
            · refine m_aload_n (d_M_answers_1 (k := 26) rfl) rfl ?_
              refine m_iload_n (d_M_answers_1 (k := 27) rfl) rfl ?_
              refine m_cvU (c := 10) (vs := [.inl x2]) (st := []) (d_M_answers_1 (k := 28) rfl) (s_M_goDown t0 x2 M) cd_M_goDown ml_M_410 im_M_goDown se_M_goDown rfl (by decide) rfl (Nat.le_of_ble_eq_true rfl) (fun _ M => ?_)
              refine m_goto (tgt := 280) (d_M_answers_1 (k := 29) rfl) rfl ?_
              exact m_vret (d_M_answers_3 (k := 27) rfl) rfl
            · exact m_vret (d_M_answers_3 (k := 27) rfl) rfl
        · refine m_aload_n (d_M_answers_1 (k := 30) rfl) rfl ?_
          refine m_getR (d_M_answers_1 (k := 31) rfl) fl_M_110 rfl (fun a16 => ?_)
          refine m_iload_n (d_M_answers_1 (k := 32) rfl) rfl ?_
          refine m_iald (d_M_answers_1 (k := 33) rfl) (fun x17 => ?_)
          refine m_iconst (v := 3) (d_M_answers_1 (k := 34) rfl) (by decide) ?_
          refine m_icmp_ne (tgt := 201) (d_M_answers_1 (k := 35) rfl) rfl ?_ ?_
          · refine m_aload_n (d_M_answers_1 (k := 36) rfl) rfl ?_
            refine m_getI (d_M_answers_1 (k := 37) rfl) fl_M_366 rfl (fun x18 => ?_)
            refine m_bipush (v := 99) (d_M_answers_1 (k := 38) rfl) (by decide) ?_
            refine m_icmp_eq (tgt := 155) (d_M_answers_1 (k := 39) rfl) rfl ?_ ?_
            · exact m_drop (mles_s (mles_n (mles_s mles_0))) (v_M_answers_155 t0 x2 M)
            · refine m_aload_n (d_M_answers_2 (k := 0) rfl) rfl ?_
              refine m_getI (d_M_answers_2 (k := 1) rfl) fl_M_366 rfl (fun x19 => ?_)
              refine m_bipush (v := 15) (d_M_answers_2 (k := 2) rfl) (by decide) ?_
              refine m_icmp_ne (tgt := 163) (d_M_answers_2 (k := 3) rfl) rfl ?_ ?_
              · exact m_drop (mles_s (mles_n (mles_s mles_0))) (v_M_answers_155 t0 x2 M)
              · refine m_aload_n (d_M_answers_2 (k := 8) rfl) rfl ?_
                refine m_getI (d_M_answers_2 (k := 9) rfl) fl_M_366 rfl (fun x20 => ?_)
                refine m_bipush (v := 67) (d_M_answers_2 (k := 10) rfl) (by decide) ?_
                refine m_icmp_ne (tgt := 280) (d_M_answers_2 (k := 11) rfl) rfl ?_ ?_
                · refine m_aload_n (d_M_answers_2 (k := 12) rfl) rfl ?_
                  refine m_iload_n (d_M_answers_2 (k := 13) rfl) rfl ?_
                  refine m_aload_n (d_M_answers_2 (k := 14) rfl) rfl ?_
                  refine m_getI (d_M_answers_2 (k := 15) rfl) fl_M_337 rfl (fun x21 => ?_)
                  refine m_iconst (v := 0) (d_M_answers_2 (k := 16) rfl) (by decide) ?_
                  refine m_bipush (v := 99) (d_M_answers_2 (k := 17) rfl) (by decide) ?_
                  refine m_aload_n (d_M_answers_2 (k := 18) rfl) rfl ?_
                  refine m_getI (d_M_answers_2 (k := 19) rfl) fl_M_363 rfl (fun x22 => ?_)
                  refine m_if_eq (tgt := 193) (d_M_answers_2 (k := 20) rfl) rfl ?_ ?_
                  · refine m_iconst (v := 0) (d_M_answers_2 (k := 23) rfl) (by decide) ?_
                    exact m_drop (mles_n (mles_n (mles_n mles_0))) (v_M_answers_194 (0 : Int32) (99 : Int32) (0 : Int32) x21 i1 t0 M)
                  · refine m_bipush (v := 16) (d_M_answers_2 (k := 21) rfl) (by decide) ?_
                    refine m_goto (tgt := 194) (d_M_answers_2 (k := 22) rfl) rfl ?_
                    exact m_drop (mles_n (mles_n (mles_n mles_0))) (v_M_answers_194 (16 : Int32) (99 : Int32) (0 : Int32) x21 i1 t0 M)
                · exact m_vret (d_M_answers_3 (k := 27) rfl) rfl
          · refine m_aload_n (d_M_answers_2 (k := 27) rfl) rfl ?_
            refine m_getI (d_M_answers_2 (k := 28) rfl) fl_M_366 rfl (fun x23 => ?_)
            refine m_bipush (v := 67) (d_M_answers_2 (k := 29) rfl) (by decide) ?_
            refine m_icmp_ne (tgt := 244) (d_M_answers_2 (k := 30) rfl) rfl ?_ ?_
            · refine m_aload_n (d_M_answers_2 (k := 31) rfl) rfl ?_
              refine m_iload_n (d_M_answers_2 (k := 32) rfl) rfl ?_
              refine m_aload_n (d_M_answers_2 (k := 33) rfl) rfl ?_
              refine m_getI (d_M_answers_2 (k := 34) rfl) fl_M_337 rfl (fun x24 => ?_)
              refine m_iconst (v := 0) (d_M_answers_2 (k := 35) rfl) (by decide) ?_
              refine m_bipush (v := 99) (d_M_answers_2 (k := 36) rfl) (by decide) ?_
              refine m_aload_n (d_M_answers_2 (k := 37) rfl) rfl ?_
              refine m_getI (d_M_answers_2 (k := 38) rfl) fl_M_363 rfl (fun x25 => ?_)
              refine m_if_eq (tgt := 231) (d_M_answers_2 (k := 39) rfl) rfl ?_ ?_
              · refine m_iconst (v := 0) (d_M_answers_3 (k := 2) rfl) (by decide) ?_
                exact m_drop (mles_s (mles_n (mles_s mles_0))) (v_M_answers_232 t0 x2 (0 : Int32) (99 : Int32) (0 : Int32) x24 i1 t0 M)
              · refine m_bipush (v := 16) (d_M_answers_3 (k := 0) rfl) (by decide) ?_
                refine m_goto (tgt := 232) (d_M_answers_3 (k := 1) rfl) rfl ?_
                exact m_drop (mles_s (mles_n (mles_s mles_0))) (v_M_answers_232 t0 x2 (16 : Int32) (99 : Int32) (0 : Int32) x24 i1 t0 M)
            · refine m_aload_n (d_M_answers_3 (k := 9) rfl) rfl ?_
              refine m_getI (d_M_answers_3 (k := 10) rfl) fl_M_366 rfl (fun x26 => ?_)
              refine m_bipush (v := 15) (d_M_answers_3 (k := 11) rfl) (by decide) ?_
              refine m_icmp_ne (tgt := 261) (d_M_answers_3 (k := 12) rfl) rfl ?_ ?_
              · refine m_aload_n (d_M_answers_3 (k := 13) rfl) rfl ?_
                refine m_iload_n (d_M_answers_3 (k := 14) rfl) rfl ?_
                refine m_cvU (c := 10) (vs := [.inl x2]) (st := []) (d_M_answers_3 (k := 15) rfl) (s_M_goDown t0 x2 M) cd_M_goDown ml_M_410 im_M_goDown se_M_goDown rfl (by decide) rfl (Nat.le_of_ble_eq_true rfl) (fun _ M => ?_)
                refine m_goto (tgt := 280) (d_M_answers_3 (k := 16) rfl) rfl ?_
                exact m_vret (d_M_answers_3 (k := 27) rfl) rfl
              · refine m_aload_n (d_M_answers_3 (k := 17) rfl) rfl ?_
                refine m_getI (d_M_answers_3 (k := 18) rfl) fl_M_366 rfl (fun x27 => ?_)
                refine m_bipush (v := 99) (d_M_answers_3 (k := 19) rfl) (by decide) ?_
                refine m_icmp_eq (tgt := 280) (d_M_answers_3 (k := 20) rfl) rfl ?_ ?_
                · exact m_vret (d_M_answers_3 (k := 27) rfl) rfl
                · refine m_aload_n (d_M_answers_3 (k := 21) rfl) rfl ?_
                  refine m_iload_n (d_M_answers_3 (k := 22) rfl) rfl ?_
                  refine m_aload_n (d_M_answers_3 (k := 23) rfl) rfl ?_
                  refine m_getI (d_M_answers_3 (k := 24) rfl) fl_M_337 rfl (fun x28 => ?_)
                  refine m_iload_n (d_M_answers_3 (k := 25) rfl) rfl ?_
                  refine m_cvU (c := 10) (vs := [.inl i1, .inl x28, .inl x2]) (st := []) (d_M_answers_3 (k := 26) rfl) (s_M_numbered t0 i1 x28 x2 M) cd_M_numbered ml_M_413 im_M_numbered se_M_numbered rfl (by decide) rfl (Nat.le_of_ble_eq_true rfl) (fun _ M => ?_)
                  exact m_vret (d_M_answers_3 (k := 27) rfl) rfl
    · exact m_drop (mles_s (mles_s (mles_n mles_0))) (v_M_answers_50 t0 i1 M)
theorem s_M_answers {E : mE} (t0 : Option Nat) (i1 : Int32) (M : mM) : mSnd E mi_M_answers 8 [.inr t0, .inl i1] M enU (q_M_answers t0 i1 M) := m_entryU (by decide) (Nat.le_of_ble_eq_true rfl) rfl (m_drop (mles_s (mles_s (mles_e mles_0))) (v_M_answers t0 i1 M))
