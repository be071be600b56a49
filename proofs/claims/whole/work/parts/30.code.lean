def dt_M_take : List (Nat × Instr × Nat) := [(0, .iload_n 1, 1), (1, .invokestatic 207, 3), (4, .ifCond .eq 12, 3), (7, .aload_n 0, 1), (8, .getfield 194, 3), (11, .iload_n 1, 1), (12, .iaload, 1), (13, .ifCond .ne 5, 3), (16, .iconst (-1), 1), (17, .ireturn, 1), (18, .bipush 120, 2), (20, .iload_n 1, 1), (21, .imul, 1), (22, .istore_n 2, 1), (23, .sipush 256, 3), (26, .aload_n 0, 1), (27, .getfield 197, 3), (30, .iload_n 2, 1), (31, .iaload, 1), (32, .imul, 1), (33, .aload_n 0, 1), (34, .getfield 197, 3), (37, .iload_n 2, 1), (38, .iconst 1, 1), (39, .iadd, 1), (40, .iaload, 1), (41, .iadd, 1), (42, .istore_n 3, 1), (43, .aload_n 0, 1), (44, .aload_n 0, 1), (45, .getfield 197, 3), (48, .iload_n 2, 1), (49, .iconst 2, 1), (50, .iadd, 1), (51, .iaload, 1), (52, .putfield 219, 3), (55, .iconst 0, 1), (56, .istore 4, 2), (58, .iload 4, 2), (60, .aload_n 0, 1), (61, .getfield 219, 3), (64, .if_icmp .ge 27, 3), (67, .aload_n 0, 1), (68, .getfield 13, 3), (71, .iload 4, 2), (73, .aload_n 0, 1), (74, .getfield 197, 3), (77, .iload_n 2, 1), (78, .iconst 3, 1), (79, .iadd, 1), (80, .iload 4, 2), (82, .iadd, 1), (83, .iaload, 1), (84, .iastore, 1), (85, .iinc 4 1, 3), (88, .goto (-30), 3), (91, .aload_n 0, 1), (92, .getfield 194, 3), (95, .iload_n 1, 1), (96, .dup2, 1), (97, .iaload, 1), (98, .iconst 1, 1), (99, .isub, 1), (100, .iastore, 1), (101, .iconst 0, 1), (102, .istore 4, 2), (104, .iload 4, 2), (106, .bipush 15, 2), (108, .aload_n 0, 1), (109, .getfield 194, 3), (112, .iload_n 1, 1), (113, .iaload, 1), (114, .imul, 1), (115, .if_icmp .ge 30, 3), (118, .aload_n 0, 1), (119, .getfield 197, 3), (122, .iload_n 2, 1), (123, .iload 4, 2), (125, .iadd, 1), (126, .aload_n 0, 1), (127, .getfield 197, 3), (130, .iload_n 2, 1), (131, .iload 4, 2), (133, .iadd, 1), (134, .bipush 15, 2), (136, .iadd, 1), (137, .iaload, 1), (138, .iastore, 1), (139, .iinc 4 1, 3), (142, .goto (-38), 3), (145, .iload_n 3, 1), (146, .ireturn, 1)]
theorem dx_M_take : ∀ p ∈ dt_M_take, decode prog_12_method_81_code p.1 = .ok p.2 := by decide +kernel
theorem d_M_take {k pc : Nat} {i : Instr} {n : Nat} (h : dt_M_take[k]? = some (pc, i, n)) : decode mi_M_take.2.1 pc = .ok (i, n) := dx_M_take (pc, i, n) (List.mem_of_getElem? h)
def q_M_take_104_b (r104 : Option Nat → Int32 → Int32 → Int32 → Int32 → mM → Option (Int32 × mM)) (t0 : Option Nat) (i1 : Int32) (i2 : Int32) (i3 : Int32) (i4 : Int32) (M : mM) : Option (Int32 × mM) :=
    x_gR M 10 t0 78 fun a1 =>
    x_aI M 0 a1 i1 fun x2 =>
    if i4 < ((15 : Int32) * x2) then
      x_gR M 10 t0 79 fun a3 =>
      x_gR M 10 t0 79 fun a4 =>
      x_aI M 0 a4 ((i2 + i4) + (15 : Int32)) fun x5 =>
      x_wI M a3 (i2 + i4) x5 fun M =>
      r104 t0 i1 i2 i3 (i4 + 1) M
    else
      some (i3, M)
def q_M_take_104 : Nat → Option Nat → Int32 → Int32 → Int32 → Int32 → mM → Option (Int32 × mM)
  | 0, _, _, _, _, _, _ => none
  | n + 1, t0, i1, i2, i3, i4, M => q_M_take_104_b (q_M_take_104 n) t0 i1 i2 i3 i4 M
set_option maxRecDepth 20000 in
theorem v_M_take_104_b {E : mE} (r104 : Option Nat → Int32 → Int32 → Int32 → Int32 → mM → Option (Int32 × mM)) (h104 : ∀ (t0 : Option Nat) (i1 : Int32) (i2 : Int32) (i3 : Int32) (i4 : Int32) (M : mM), mVr E mi_M_take 2 104 [some (.inr t0), some (.inl i1), some (.inl i2), some (.inl i3), some (.inl i4)] [] M enI (r104 t0 i1 i2 i3 i4 M)) (t0 : Option Nat) (i1 : Int32) (i2 : Int32) (i3 : Int32) (i4 : Int32) (M : mM) : mVr E mi_M_take 2 104 [some (.inr t0), some (.inl i1), some (.inl i2), some (.inl i3), some (.inl i4)] [] M enI (q_M_take_104_b r104 t0 i1 i2 i3 i4 M) := by
  unfold q_M_take_104_b
  refine m_iload (d_M_take (k := 66) rfl) rfl ?_
  refine m_bipush (v := 15) (d_M_take (k := 67) rfl) (by decide) ?_
  refine m_aload_n (d_M_take (k := 68) rfl) rfl ?_
  refine m_getR (d_M_take (k := 69) rfl) fl_M_194 rfl (fun a1 => ?_)
  refine m_iload_n (d_M_take (k := 70) rfl) rfl ?_
  refine m_iald (d_M_take (k := 71) rfl) (fun x2 => ?_)
  refine m_imul (d_M_take (k := 72) rfl) ?_
  refine m_icmp_ge (tgt := 145) (d_M_take (k := 73) rfl) rfl ?_ ?_
  · refine m_aload_n (d_M_take (k := 74) rfl) rfl ?_
    refine m_getR (d_M_take (k := 75) rfl) fl_M_197 rfl (fun a3 => ?_)
    refine m_iload_n (d_M_take (k := 76) rfl) rfl ?_
    refine m_iload (d_M_take (k := 77) rfl) rfl ?_
    refine m_iadd (d_M_take (k := 78) rfl) ?_
    refine m_aload_n (d_M_take (k := 79) rfl) rfl ?_
    refine m_getR (d_M_take (k := 80) rfl) fl_M_197 rfl (fun a4 => ?_)
    refine m_iload_n (d_M_take (k := 81) rfl) rfl ?_
    refine m_iload (d_M_take (k := 82) rfl) rfl ?_
    refine m_iadd (d_M_take (k := 83) rfl) ?_
    refine m_bipush (v := 15) (d_M_take (k := 84) rfl) (by decide) ?_
    refine m_iadd (d_M_take (k := 85) rfl) ?_
    refine m_iald (d_M_take (k := 86) rfl) (fun x5 => ?_)
    refine m_iast (d_M_take (k := 87) rfl) (fun M => ?_)
    refine m_inc (v := 1) (ls' := [some (.inr t0), some (.inl i1), some (.inl i2), some (.inl i3), some (.inl (i4 + 1))]) (d_M_take (k := 88) rfl) rfl (by decide) (by decide) rfl ?_
    refine m_goto (tgt := 104) (d_M_take (k := 89) rfl) rfl ?_
    exact m_drop (mles_s (mles_s (mles_s (mles_s (mles_s mles_0))))) (h104 t0 i1 i2 i3 (i4 + 1) M)
  · refine m_iload_n (d_M_take (k := 90) rfl) rfl ?_
    exact m_iret (d_M_take (k := 91) rfl) rfl
theorem v_M_take_104 {E : mE} : ∀ (n : Nat) (t0 : Option Nat) (i1 : Int32) (i2 : Int32) (i3 : Int32) (i4 : Int32) (M : mM), mVr E mi_M_take 2 104 [some (.inr t0), some (.inl i1), some (.inl i2), some (.inl i3), some (.inl i4)] [] M enI (q_M_take_104 n t0 i1 i2 i3 i4 M)
  | 0, _, _, _, _, _, _ => m_none
  | n + 1, t0, i1, i2, i3, i4, M => v_M_take_104_b _ (v_M_take_104 n) t0 i1 i2 i3 i4 M
def q_M_take_58_b (r58 : Option Nat → Int32 → Int32 → Int32 → Int32 → mM → Option (Int32 × mM)) (t0 : Option Nat) (i1 : Int32) (i2 : Int32) (i3 : Int32) (i4 : Int32) (M : mM) : Option (Int32 × mM) :=
    x_gI M 10 t0 3 fun x1 =>
    if i4 < x1 then
      x_gR M 10 t0 2 fun a2 =>
      x_gR M 10 t0 79 fun a3 =>
      x_aI M 0 a3 ((i2 + (3 : Int32)) + i4) fun x4 =>
      x_wI M a2 i4 x4 fun M =>
      r58 t0 i1 i2 i3 (i4 + 1) M
    else
      x_gR M 10 t0 78 fun a5 =>
      x_aI M 0 a5 i1 fun x6 =>
      x_wI M a5 i1 (x6 - (1 : Int32)) fun M =>
      q_M_take_104 mFU t0 i1 i2 i3 (0 : Int32) M
def q_M_take_58 : Nat → Option Nat → Int32 → Int32 → Int32 → Int32 → mM → Option (Int32 × mM)
  | 0, _, _, _, _, _, _ => none
  | n + 1, t0, i1, i2, i3, i4, M => q_M_take_58_b (q_M_take_58 n) t0 i1 i2 i3 i4 M
set_option maxRecDepth 20000 in
theorem v_M_take_58_b {E : mE} (r58 : Option Nat → Int32 → Int32 → Int32 → Int32 → mM → Option (Int32 × mM)) (h58 : ∀ (t0 : Option Nat) (i1 : Int32) (i2 : Int32) (i3 : Int32) (i4 : Int32) (M : mM), mVr E mi_M_take 2 58 [some (.inr t0), some (.inl i1), some (.inl i2), some (.inl i3), some (.inl i4)] [] M enI (r58 t0 i1 i2 i3 i4 M)) (t0 : Option Nat) (i1 : Int32) (i2 : Int32) (i3 : Int32) (i4 : Int32) (M : mM) : mVr E mi_M_take 2 58 [some (.inr t0), some (.inl i1), some (.inl i2), some (.inl i3), some (.inl i4)] [] M enI (q_M_take_58_b r58 t0 i1 i2 i3 i4 M) := by
  unfold q_M_take_58_b
  refine m_iload (d_M_take (k := 38) rfl) rfl ?_
  refine m_aload_n (d_M_take (k := 39) rfl) rfl ?_
  refine m_getI (d_M_take (k := 40) rfl) fl_M_219 rfl (fun x1 => ?_)
  refine m_icmp_ge (tgt := 91) (d_M_take (k := 41) rfl) rfl ?_ ?_
  · refine m_aload_n (d_M_take (k := 42) rfl) rfl ?_
    refine m_getR (d_M_take (k := 43) rfl) fl_M_13 rfl (fun a2 => ?_)
    refine m_iload (d_M_take (k := 44) rfl) rfl ?_
    refine m_aload_n (d_M_take (k := 45) rfl) rfl ?_
    refine m_getR (d_M_take (k := 46) rfl) fl_M_197 rfl (fun a3 => ?_)
    refine m_iload_n (d_M_take (k := 47) rfl) rfl ?_
    refine m_iconst (v := 3) (d_M_take (k := 48) rfl) (by decide) ?_
    refine m_iadd (d_M_take (k := 49) rfl) ?_
    refine m_iload (d_M_take (k := 50) rfl) rfl ?_
    refine m_iadd (d_M_take (k := 51) rfl) ?_
    refine m_iald (d_M_take (k := 52) rfl) (fun x4 => ?_)
    refine m_iast (d_M_take (k := 53) rfl) (fun M => ?_)
    refine m_inc (v := 1) (ls' := [some (.inr t0), some (.inl i1), some (.inl i2), some (.inl i3), some (.inl (i4 + 1))]) (d_M_take (k := 54) rfl) rfl (by decide) (by decide) rfl ?_
    refine m_goto (tgt := 58) (d_M_take (k := 55) rfl) rfl ?_
    exact m_drop (mles_s (mles_s (mles_s (mles_s (mles_s mles_0))))) (h58 t0 i1 i2 i3 (i4 + 1) M)
  · refine m_aload_n (d_M_take (k := 56) rfl) rfl ?_
    refine m_getR (d_M_take (k := 57) rfl) fl_M_194 rfl (fun a5 => ?_)
    refine m_iload_n (d_M_take (k := 58) rfl) rfl ?_
    refine m_dup2 (d_M_take (k := 59) rfl) ?_
    refine m_iald (d_M_take (k := 60) rfl) (fun x6 => ?_)
    refine m_iconst (v := 1) (d_M_take (k := 61) rfl) (by decide) ?_
    refine m_isub (d_M_take (k := 62) rfl) ?_
    refine m_iast (d_M_take (k := 63) rfl) (fun M => ?_)
    refine m_iconst (v := 0) (d_M_take (k := 64) rfl) (by decide) ?_
    refine m_ist (ls' := [some (.inr t0), some (.inl i1), some (.inl i2), some (.inl i3), some (.inl (0 : Int32))]) (d_M_take (k := 65) rfl) (by decide) rfl ?_
    exact m_drop (mles_s (mles_s (mles_s (mles_s (mles_s mles_0))))) (v_M_take_104 mFU t0 i1 i2 i3 (0 : Int32) M)
theorem v_M_take_58 {E : mE} : ∀ (n : Nat) (t0 : Option Nat) (i1 : Int32) (i2 : Int32) (i3 : Int32) (i4 : Int32) (M : mM), mVr E mi_M_take 2 58 [some (.inr t0), some (.inl i1), some (.inl i2), some (.inl i3), some (.inl i4)] [] M enI (q_M_take_58 n t0 i1 i2 i3 i4 M)
  | 0, _, _, _, _, _, _ => m_none
  | n + 1, t0, i1, i2, i3, i4, M => v_M_take_58_b _ (v_M_take_58 n) t0 i1 i2 i3 i4 M
def q_M_take (t0 : Option Nat) (i1 : Int32) (M : mM) : Option (Int32 × mM) :=
    x_cl (q_M_isStation i1 M) fun x1 M =>
    if x1 = 0 then
      some ((-1 : Int32), M)
    else
      x_gR M 10 t0 78 fun a2 =>
      x_aI M 0 a2 i1 fun x3 =>
      if x3 = 0 then
        some ((-1 : Int32), M)
      else
        x_lt ((120 : Int32) * i1) fun x4 =>
        x_gR M 10 t0 79 fun a5 =>
        x_aI M 0 a5 x4 fun x6 =>
        x_gR M 10 t0 79 fun a7 =>
        x_aI M 0 a7 (x4 + (1 : Int32)) fun x8 =>
        x_lt (((256 : Int32) * x6) + x8) fun x9 =>
        x_gR M 10 t0 79 fun a10 =>
        x_aI M 0 a10 (x4 + (2 : Int32)) fun x11 =>
        x_pI M 10 t0 3 x11 fun M =>
        q_M_take_58 mFU t0 i1 x4 x9 (0 : Int32) M
set_option maxRecDepth 20000 in
theorem v_M_take {E : mE} (t0 : Option Nat) (i1 : Int32) (M : mM) : mVr E mi_M_take 2 0 [some (.inr t0), some (.inl i1), none, none, none] [] M enI (q_M_take t0 i1 M) := by
  unfold q_M_take
  refine m_iload_n (d_M_take (k := 0) rfl) rfl ?_
  refine m_csI (vs := [.inl i1]) (st := []) (d_M_take (k := 1) rfl) (s_M_isStation i1 M) cd_M_isStation ml_M_207 sa_M_isStation (by decide) rfl (Nat.le_of_ble_eq_true rfl) (fun x1 M => ?_)
  refine m_if_eq (tgt := 16) (d_M_take (k := 2) rfl) rfl ?_ ?_
  · refine m_iconst (v := (-1)) (d_M_take (k := 8) rfl) (by decide) ?_
    exact m_iret (d_M_take (k := 9) rfl) rfl
  · refine m_aload_n (d_M_take (k := 3) rfl) rfl ?_
    refine m_getR (d_M_take (k := 4) rfl) fl_M_194 rfl (fun a2 => ?_)
    refine m_iload_n (d_M_take (k := 5) rfl) rfl ?_
    refine m_iald (d_M_take (k := 6) rfl) (fun x3 => ?_)
    refine m_if_ne (tgt := 18) (d_M_take (k := 7) rfl) rfl ?_ ?_
    · refine m_iconst (v := (-1)) (d_M_take (k := 8) rfl) (by decide) ?_
      exact m_iret (d_M_take (k := 9) rfl) rfl
    · refine m_bipush (v := 120) (d_M_take (k := 10) rfl) (by decide) ?_
      refine m_iload_n (d_M_take (k := 11) rfl) rfl ?_
      refine m_imul (d_M_take (k := 12) rfl) ?_
      refine m_lt (fun x4 => ?_)
      refine m_ist_n (ls' := [some (.inr t0), some (.inl i1), some (.inl x4), none, none]) (d_M_take (k := 13) rfl) (by decide) rfl ?_
      refine m_sipush (v := 256) (d_M_take (k := 14) rfl) (by decide) ?_
      refine m_aload_n (d_M_take (k := 15) rfl) rfl ?_
      refine m_getR (d_M_take (k := 16) rfl) fl_M_197 rfl (fun a5 => ?_)
      refine m_iload_n (d_M_take (k := 17) rfl) rfl ?_
      refine m_iald (d_M_take (k := 18) rfl) (fun x6 => ?_)
      refine m_imul (d_M_take (k := 19) rfl) ?_
      refine m_aload_n (d_M_take (k := 20) rfl) rfl ?_
      refine m_getR (d_M_take (k := 21) rfl) fl_M_197 rfl (fun a7 => ?_)
      refine m_iload_n (d_M_take (k := 22) rfl) rfl ?_
      refine m_iconst (v := 1) (d_M_take (k := 23) rfl) (by decide) ?_
      refine m_iadd (d_M_take (k := 24) rfl) ?_
      refine m_iald (d_M_take (k := 25) rfl) (fun x8 => ?_)
      refine m_iadd (d_M_take (k := 26) rfl) ?_
      refine m_lt (fun x9 => ?_)
      refine m_ist_n (ls' := [some (.inr t0), some (.inl i1), some (.inl x4), some (.inl x9), none]) (d_M_take (k := 27) rfl) (by decide) rfl ?_
      refine m_aload_n (d_M_take (k := 28) rfl) rfl ?_
      refine m_aload_n (d_M_take (k := 29) rfl) rfl ?_
      refine m_getR (d_M_take (k := 30) rfl) fl_M_197 rfl (fun a10 => ?_)
      refine m_iload_n (d_M_take (k := 31) rfl) rfl ?_
      refine m_iconst (v := 2) (d_M_take (k := 32) rfl) (by decide) ?_
      refine m_iadd (d_M_take (k := 33) rfl) ?_
      refine m_iald (d_M_take (k := 34) rfl) (fun x11 => ?_)
      refine m_pI (d_M_take (k := 35) rfl) fp_M_219 (fun h => absurd h (by decide)) rfl (fun M => ?_)
      refine m_iconst (v := 0) (d_M_take (k := 36) rfl) (by decide) ?_
      refine m_ist (ls' := [some (.inr t0), some (.inl i1), some (.inl x4), some (.inl x9), some (.inl (0 : Int32))]) (d_M_take (k := 37) rfl) (by decide) rfl ?_
      exact m_drop (mles_s (mles_s (mles_s (mles_s (mles_s mles_0))))) (v_M_take_58 mFU t0 i1 x4 x9 (0 : Int32) M)
theorem s_M_take {E : mE} (t0 : Option Nat) (i1 : Int32) (M : mM) : mSnd E mi_M_take 2 [.inr t0, .inl i1] M enI (q_M_take t0 i1 M) := m_entryI (by decide) (Nat.le_of_ble_eq_true rfl) rfl (m_drop (mles_s (mles_s (mles_e (mles_e (mles_e mles_0))))) (v_M_take t0 i1 M))
def dt_M_time : List (Nat × Instr × Nat) := [(0, .aload_n 0, 1), (1, .getfield 288, 3), (4, .ireturn, 1)]
theorem dx_M_time : ∀ p ∈ dt_M_time, decode prog_12_method_38_code p.1 = .ok p.2 := by decide +kernel
theorem d_M_time {k pc : Nat} {i : Instr} {n : Nat} (h : dt_M_time[k]? = some (pc, i, n)) : decode mi_M_time.2.1 pc = .ok (i, n) := dx_M_time (pc, i, n) (List.mem_of_getElem? h)
def q_M_time (t0 : Option Nat) (M : mM) : Option (Int32 × mM) :=
    x_gI M 10 t0 15 fun x1 =>
    some (x1, M)
set_option maxRecDepth 20000 in
theorem v_M_time {E : mE} (t0 : Option Nat) (M : mM) : mVr E mi_M_time 0 0 [some (.inr t0)] [] M enI (q_M_time t0 M) := by
  unfold q_M_time
  refine m_aload_n (d_M_time (k := 0) rfl) rfl ?_
  refine m_getI (d_M_time (k := 1) rfl) fl_M_288 rfl (fun x1 => ?_)
  exact m_iret (d_M_time (k := 2) rfl) rfl
theorem s_M_time {E : mE} (t0 : Option Nat) (M : mM) : mSnd E mi_M_time 0 [.inr t0] M enI (q_M_time t0 M) := m_entryI (by decide) (Nat.le_of_ble_eq_true rfl) rfl (m_drop (mles_s mles_0) (v_M_time t0 M))
def dt_M_may : List (Nat × Instr × Nat) := [(0, .iload_n 0, 1), (1, .tableswitch 124 0 7 #[47, 56, 65, 124, 73, 83, 92, 115], 47), (48, .iload_n 1, 1), (49, .iconst 0, 1), (50, .sipush 256, 3), (53, .invokestatic 203, 3), (56, .ireturn, 1), (57, .iload_n 1, 1), (58, .iconst 1, 1), (59, .sipush 200, 3), (62, .invokestatic 203, 3), (65, .ireturn, 1), (66, .iload_n 1, 1), (67, .iconst 1, 1), (68, .bipush 16, 2), (70, .invokestatic 203, 3), (73, .ireturn, 1), (74, .iload_n 1, 1), (75, .bipush 100, 2), (77, .sipush 20000, 3), (80, .invokestatic 203, 3), (83, .ireturn, 1), (84, .iload_n 1, 1), (85, .iconst 1, 1), (86, .sipush 255, 3), (89, .invokestatic 203, 3), (92, .ireturn, 1), (93, .iload_n 1, 1), (94, .ifCond .eq 16, 3), (97, .iload_n 1, 1), (98, .sipush 200, 3), (101, .sipush 20000, 3), (104, .invokestatic 203, 3), (107, .ifCond .eq 7, 3), (110, .iconst 1, 1), (111, .goto 4, 3), (114, .iconst 0, 1), (115, .ireturn, 1), (116, .iload_n 1, 1), (117, .iconst 0, 1), (118, .sipush 4096, 3), (121, .invokestatic 203, 3), (124, .ireturn, 1), (125, .iload_n 0, 1), (126, .iconst 3, 1), (127, .if_icmp .eq 9, 3), (130, .iload_n 0, 1), (131, .bipush 8, 2), (133, .if_icmp .ne 7, 3), (136, .iconst 1, 1), (137, .goto 4, 3), (140, .iconst 0, 1), (141, .ireturn, 1)]
theorem dx_M_may : ∀ p ∈ dt_M_may, decode prog_12_method_23_code p.1 = .ok p.2 := by decide +kernel
theorem d_M_may {k pc : Nat} {i : Instr} {n : Nat} (h : dt_M_may[k]? = some (pc, i, n)) : decode mi_M_may.2.1 pc = .ok (i, n) := dx_M_may (pc, i, n) (List.mem_of_getElem? h)
def q_M_may_136 (M : mM) : Option (Int32 × mM) :=
    x_rz (1 : Int32) M
set_option maxRecDepth 20000 in
theorem v_M_may_136 {E : mE} (M : mM) : mVr E mi_M_may 1 136 [none, none] [] M enI (q_M_may_136 M) := by
  unfold q_M_may_136
  refine m_iconst (v := 1) (d_M_may (k := 49) rfl) (by decide) ?_
  refine m_goto (tgt := 141) (d_M_may (k := 50) rfl) rfl ?_
  exact m_zret (d_M_may (k := 52) rfl) rfl
def q_M_may_125 (i0 : Int32) (M : mM) : Option (Int32 × mM) :=
    if i0 = (3 : Int32) then
      q_M_may_136 M
    else
      if i0 = (8 : Int32) then
        q_M_may_136 M
      else
        x_rz (0 : Int32) M
set_option maxRecDepth 20000 in
theorem v_M_may_125 {E : mE} (i0 : Int32) (M : mM) : mVr E mi_M_may 1 125 [some (.inl i0), none] [] M enI (q_M_may_125 i0 M) := by
  unfold q_M_may_125
  refine m_iload_n (d_M_may (k := 43) rfl) rfl ?_
  refine m_iconst (v := 3) (d_M_may (k := 44) rfl) (by decide) ?_
  refine m_icmp_eq (tgt := 136) (d_M_may (k := 45) rfl) rfl ?_ ?_
  · exact m_drop (mles_n (mles_n mles_0)) (v_M_may_136 M)
  · refine m_iload_n (d_M_may (k := 46) rfl) rfl ?_
    refine m_bipush (v := 8) (d_M_may (k := 47) rfl) (by decide) ?_
    refine m_icmp_ne (tgt := 140) (d_M_may (k := 48) rfl) rfl ?_ ?_
    · exact m_drop (mles_n (mles_n mles_0)) (v_M_may_136 M)
    · refine m_iconst (v := 0) (d_M_may (k := 51) rfl) (by decide) ?_
      exact m_zret (d_M_may (k := 52) rfl) rfl
def q_M_may_110 (M : mM) : Option (Int32 × mM) :=
    x_rz (1 : Int32) M
set_option maxRecDepth 20000 in
theorem v_M_may_110 {E : mE} (M : mM) : mVr E mi_M_may 1 110 [none, none] [] M enI (q_M_may_110 M) := by
  unfold q_M_may_110
  refine m_iconst (v := 1) (d_M_may (k := 34) rfl) (by decide) ?_
  refine m_goto (tgt := 115) (d_M_may (k := 35) rfl) rfl ?_
  exact m_zret (d_M_may (k := 37) rfl) rfl
def q_M_may (i0 : Int32) (i1 : Int32) (M : mM) : Option (Int32 × mM) :=
    x_sw i0 [
      ((0 : Int32), (
        x_cl (q_M_in i1 (0 : Int32) (256 : Int32) M) fun x1 M =>
        x_rz x1 M
      )),
      ((1 : Int32), (
        x_cl (q_M_in i1 (1 : Int32) (200 : Int32) M) fun x2 M =>
        x_rz x2 M
      )),
      ((2 : Int32), (
        x_cl (q_M_in i1 (1 : Int32) (16 : Int32) M) fun x3 M =>
        x_rz x3 M
      )),
      ((3 : Int32), (
        q_M_may_125 i0 M
      )),
      ((4 : Int32), (
        x_cl (q_M_in i1 (100 : Int32) (20000 : Int32) M) fun x4 M =>
        x_rz x4 M
      )),
      ((5 : Int32), (
        x_cl (q_M_in i1 (1 : Int32) (255 : Int32) M) fun x5 M =>
        x_rz x5 M
      )),
      ((6 : Int32), (
        if i1 = 0 then
          q_M_may_110 M
        else
          x_cl (q_M_in i1 (200 : Int32) (20000 : Int32) M) fun x6 M =>
          if x6 = 0 then
            x_rz (0 : Int32) M
          else
            q_M_may_110 M
      )),
      ((7 : Int32), (
        x_cl (q_M_in i1 (0 : Int32) (4096 : Int32) M) fun x7 M =>
        x_rz x7 M
      ))
    ] (
      q_M_may_125 i0 M
    )
set_option maxRecDepth 20000 in
theorem v_M_may {E : mE} (i0 : Int32) (i1 : Int32) (M : mM) : mVr E mi_M_may 1 0 [some (.inl i0), some (.inl i1)] [] M enI (q_M_may i0 i1 M) := by
  unfold q_M_may
  refine m_iload_n (d_M_may (k := 0) rfl) rfl ?_
  refine m_sw ?_ (fun hx => ?_)
  ·
    refine List.forall_mem_cons.mpr ⟨?_, ?_⟩
    · dsimp only
      refine m_tin (x := (0 : Int32)) (tgt := 48) (d_M_may (k := 1) rfl) (by decide) (by decide) rfl rfl ?_
      refine m_iload_n (d_M_may (k := 2) rfl) rfl ?_
      refine m_iconst (v := 0) (d_M_may (k := 3) rfl) (by decide) ?_
      refine m_sipush (v := 256) (d_M_may (k := 4) rfl) (by decide) ?_
      refine m_csI (vs := [.inl i1, .inl (0 : Int32), .inl (256 : Int32)]) (st := []) (d_M_may (k := 5) rfl) (s_M_in i1 (0 : Int32) (256 : Int32) M) cd_M_in ml_M_203 sa_M_in (by decide) rfl (Nat.le_of_ble_eq_true rfl) (fun x1 M => ?_)
      exact m_zret (d_M_may (k := 6) rfl) rfl
    refine List.forall_mem_cons.mpr ⟨?_, ?_⟩
    · dsimp only
      refine m_tin (x := (1 : Int32)) (tgt := 57) (d_M_may (k := 1) rfl) (by decide) (by decide) rfl rfl ?_
      refine m_iload_n (d_M_may (k := 7) rfl) rfl ?_
      refine m_iconst (v := 1) (d_M_may (k := 8) rfl) (by decide) ?_
      refine m_sipush (v := 200) (d_M_may (k := 9) rfl) (by decide) ?_
      refine m_csI (vs := [.inl i1, .inl (1 : Int32), .inl (200 : Int32)]) (st := []) (d_M_may (k := 10) rfl) (s_M_in i1 (1 : Int32) (200 : Int32) M) cd_M_in ml_M_203 sa_M_in (by decide) rfl (Nat.le_of_ble_eq_true rfl) (fun x2 M => ?_)
      exact m_zret (d_M_may (k := 11) rfl) rfl
    refine List.forall_mem_cons.mpr ⟨?_, ?_⟩
    · dsimp only
      refine m_tin (x := (2 : Int32)) (tgt := 66) (d_M_may (k := 1) rfl) (by decide) (by decide) rfl rfl ?_
      refine m_iload_n (d_M_may (k := 12) rfl) rfl ?_
      refine m_iconst (v := 1) (d_M_may (k := 13) rfl) (by decide) ?_
      refine m_bipush (v := 16) (d_M_may (k := 14) rfl) (by decide) ?_
      refine m_csI (vs := [.inl i1, .inl (1 : Int32), .inl (16 : Int32)]) (st := []) (d_M_may (k := 15) rfl) (s_M_in i1 (1 : Int32) (16 : Int32) M) cd_M_in ml_M_203 sa_M_in (by decide) rfl (Nat.le_of_ble_eq_true rfl) (fun x3 M => ?_)
      exact m_zret (d_M_may (k := 16) rfl) rfl
    refine List.forall_mem_cons.mpr ⟨?_, ?_⟩
    · dsimp only
      refine m_tin (x := (3 : Int32)) (tgt := 125) (d_M_may (k := 1) rfl) (by decide) (by decide) rfl rfl ?_
      exact m_drop (mles_s (mles_n mles_0)) (v_M_may_125 i0 M)
    refine List.forall_mem_cons.mpr ⟨?_, ?_⟩
    · dsimp only
      refine m_tin (x := (4 : Int32)) (tgt := 74) (d_M_may (k := 1) rfl) (by decide) (by decide) rfl rfl ?_
      refine m_iload_n (d_M_may (k := 17) rfl) rfl ?_
      refine m_bipush (v := 100) (d_M_may (k := 18) rfl) (by decide) ?_
      refine m_sipush (v := 20000) (d_M_may (k := 19) rfl) (by decide) ?_
      refine m_csI (vs := [.inl i1, .inl (100 : Int32), .inl (20000 : Int32)]) (st := []) (d_M_may (k := 20) rfl) (s_M_in i1 (100 : Int32) (20000 : Int32) M) cd_M_in ml_M_203 sa_M_in (by decide) rfl (Nat.le_of_ble_eq_true rfl) (fun x4 M => ?_)
      exact m_zret (d_M_may (k := 21) rfl) rfl
    refine List.forall_mem_cons.mpr ⟨?_, ?_⟩
    · dsimp only
      refine m_tin (x := (5 : Int32)) (tgt := 84) (d_M_may (k := 1) rfl) (by decide) (by decide) rfl rfl ?_
      refine m_iload_n (d_M_may (k := 22) rfl) rfl ?_
      refine m_iconst (v := 1) (d_M_may (k := 23) rfl) (by decide) ?_
      refine m_sipush (v := 255) (d_M_may (k := 24) rfl) (by decide) ?_
      refine m_csI (vs := [.inl i1, .inl (1 : Int32), .inl (255 : Int32)]) (st := []) (d_M_may (k := 25) rfl) (s_M_in i1 (1 : Int32) (255 : Int32) M) cd_M_in ml_M_203 sa_M_in (by decide) rfl (Nat.le_of_ble_eq_true rfl) (fun x5 M => ?_)
      exact m_zret (d_M_may (k := 26) rfl) rfl
    refine List.forall_mem_cons.mpr ⟨?_, ?_⟩
    · dsimp only
      refine m_tin (x := (6 : Int32)) (tgt := 93) (d_M_may (k := 1) rfl) (by decide) (by decide) rfl rfl ?_
      refine m_iload_n (d_M_may (k := 27) rfl) rfl ?_
      refine m_if_eq (tgt := 110) (d_M_may (k := 28) rfl) rfl ?_ ?_
      · exact m_drop (mles_n (mles_n mles_0)) (v_M_may_110 M)
      · refine m_iload_n (d_M_may (k := 29) rfl) rfl ?_
        refine m_sipush (v := 200) (d_M_may (k := 30) rfl) (by decide) ?_
        refine m_sipush (v := 20000) (d_M_may (k := 31) rfl) (by decide) ?_
        refine m_csI (vs := [.inl i1, .inl (200 : Int32), .inl (20000 : Int32)]) (st := []) (d_M_may (k := 32) rfl) (s_M_in i1 (200 : Int32) (20000 : Int32) M) cd_M_in ml_M_203 sa_M_in (by decide) rfl (Nat.le_of_ble_eq_true rfl) (fun x6 M => ?_)
        refine m_if_eq (tgt := 114) (d_M_may (k := 33) rfl) rfl ?_ ?_
        · refine m_iconst (v := 0) (d_M_may (k := 36) rfl) (by decide) ?_
          exact m_zret (d_M_may (k := 37) rfl) rfl
        · exact m_drop (mles_n (mles_n mles_0)) (v_M_may_110 M)
    refine List.forall_mem_cons.mpr ⟨?_, ?_⟩
    · dsimp only
      refine m_tin (x := (7 : Int32)) (tgt := 116) (d_M_may (k := 1) rfl) (by decide) (by decide) rfl rfl ?_
      refine m_iload_n (d_M_may (k := 38) rfl) rfl ?_
      refine m_iconst (v := 0) (d_M_may (k := 39) rfl) (by decide) ?_
      refine m_sipush (v := 4096) (d_M_may (k := 40) rfl) (by decide) ?_
      refine m_csI (vs := [.inl i1, .inl (0 : Int32), .inl (4096 : Int32)]) (st := []) (d_M_may (k := 41) rfl) (s_M_in i1 (0 : Int32) (4096 : Int32) M) cd_M_in ml_M_203 sa_M_in (by decide) rfl (Nat.le_of_ble_eq_true rfl) (fun x7 M => ?_)
      exact m_zret (d_M_may (k := 42) rfl) rfl
    exact fun _ h => absurd h List.not_mem_nil
  · refine m_tout (ks := [0, 1, 2, 3, 4, 5, 6, 7]) (tgt := 125) (d_M_may (k := 1) rfl) (m_ks hx) (by decide) rfl ?_
    exact m_drop (mles_s (mles_n mles_0)) (v_M_may_125 i0 M)
theorem s_M_may {E : mE} (i0 : Int32) (i1 : Int32) (M : mM) : mSnd E mi_M_may 1 [.inl i0, .inl i1] M enI (q_M_may i0 i1 M) := m_entryZ (by decide) (Nat.le_of_ble_eq_true rfl) rfl (m_drop (mles_s (mles_s mles_0)) (v_M_may i0 i1 M))
def dt_M_tune : List (Nat × Instr × Nat) := [(0, .iload_n 1, 1), (1, .invokestatic 207, 3), (4, .ifCond .eq 11, 3), (7, .iload_n 2, 1), (8, .iload_n 3, 1), (9, .invokestatic 261, 3), (12, .ifCond .ne 5, 3), (15, .iconst 0, 1), (16, .ireturn, 1), (17, .aload_n 0, 1), (18, .getfield 44, 3), (21, .bipush 9, 2), (23, .iload_n 1, 1), (24, .imul, 1), (25, .iload_n 2, 1), (26, .iadd, 1), (27, .iload_n 3, 1), (28, .iastore, 1), (29, .iconst 1, 1), (30, .ireturn, 1)]
theorem dx_M_tune : ∀ p ∈ dt_M_tune, decode prog_12_method_24_code p.1 = .ok p.2 := by decide +kernel
theorem d_M_tune {k pc : Nat} {i : Instr} {n : Nat} (h : dt_M_tune[k]? = some (pc, i, n)) : decode mi_M_tune.2.1 pc = .ok (i, n) := dx_M_tune (pc, i, n) (List.mem_of_getElem? h)
def q_M_tune (t0 : Option Nat) (i1 : Int32) (i2 : Int32) (i3 : Int32) (M : mM) : Option (Int32 × mM) :=
    x_cl (q_M_isStation i1 M) fun x1 M =>
    if x1 = 0 then
      x_rz (0 : Int32) M
    else
      x_cl (q_M_may i2 i3 M) fun x2 M =>
      if x2 = 0 then
        x_rz (0 : Int32) M
      else
        x_gR M 10 t0 16 fun a3 =>
        x_wI M a3 (((9 : Int32) * i1) + i2) i3 fun M =>
        x_rz (1 : Int32) M
set_option maxRecDepth 20000 in
theorem v_M_tune {E : mE} (t0 : Option Nat) (i1 : Int32) (i2 : Int32) (i3 : Int32) (M : mM) : mVr E mi_M_tune 2 0 [some (.inr t0), some (.inl i1), some (.inl i2), some (.inl i3)] [] M enI (q_M_tune t0 i1 i2 i3 M) := by
  unfold q_M_tune
  refine m_iload_n (d_M_tune (k := 0) rfl) rfl ?_
  refine m_csI (vs := [.inl i1]) (st := []) (d_M_tune (k := 1) rfl) (s_M_isStation i1 M) cd_M_isStation ml_M_207 sa_M_isStation (by decide) rfl (Nat.le_of_ble_eq_true rfl) (fun x1 M => ?_)
  refine m_if_eq (tgt := 15) (d_M_tune (k := 2) rfl) rfl ?_ ?_
  · refine m_iconst (v := 0) (d_M_tune (k := 7) rfl) (by decide) ?_
    exact m_zret (d_M_tune (k := 8) rfl) rfl
  · refine m_iload_n (d_M_tune (k := 3) rfl) rfl ?_
    refine m_iload_n (d_M_tune (k := 4) rfl) rfl ?_
    refine m_csI (vs := [.inl i2, .inl i3]) (st := []) (d_M_tune (k := 5) rfl) (s_M_may i2 i3 M) cd_M_may ml_M_261 sa_M_may (by decide) rfl (Nat.le_of_ble_eq_true rfl) (fun x2 M => ?_)
    refine m_if_ne (tgt := 17) (d_M_tune (k := 6) rfl) rfl ?_ ?_
    · refine m_iconst (v := 0) (d_M_tune (k := 7) rfl) (by decide) ?_
      exact m_zret (d_M_tune (k := 8) rfl) rfl
    · refine m_aload_n (d_M_tune (k := 9) rfl) rfl ?_
      refine m_getR (d_M_tune (k := 10) rfl) fl_M_44 rfl (fun a3 => ?_)
      refine m_bipush (v := 9) (d_M_tune (k := 11) rfl) (by decide) ?_
      refine m_iload_n (d_M_tune (k := 12) rfl) rfl ?_
      refine m_imul (d_M_tune (k := 13) rfl) ?_
      refine m_iload_n (d_M_tune (k := 14) rfl) rfl ?_
      refine m_iadd (d_M_tune (k := 15) rfl) ?_
      refine m_iload_n (d_M_tune (k := 16) rfl) rfl ?_
      refine m_iast (d_M_tune (k := 17) rfl) (fun M => ?_)
      refine m_iconst (v := 1) (d_M_tune (k := 18) rfl) (by decide) ?_
      exact m_zret (d_M_tune (k := 19) rfl) rfl
theorem s_M_tune {E : mE} (t0 : Option Nat) (i1 : Int32) (i2 : Int32) (i3 : Int32) (M : mM) : mSnd E mi_M_tune 2 [.inr t0, .inl i1, .inl i2, .inl i3] M enI (q_M_tune t0 i1 i2 i3 M) := m_entryZ (by decide) (Nat.le_of_ble_eq_true rfl) rfl (m_drop (mles_s (mles_s (mles_s (mles_s mles_0)))) (v_M_tune t0 i1 i2 i3 M))
def dt_M_unbits : List (Nat × Instr × Nat) := [(0, .aload_n 0, 1), (1, .getfield 211, 3), (4, .istore_n 1, 1), (5, .aload_n 0, 1), (6, .iconst 0, 1), (7, .putfield 211, 3), (10, .aload_n 0, 1), (11, .getfield 19, 3), (14, .bipush 6, 2), (16, .iconst 0, 1), (17, .iastore, 1), (18, .aload_n 0, 1), (19, .getfield 22, 3), (22, .bipush 6, 2), (24, .iconst 0, 1), (25, .iastore, 1), (26, .aload_n 0, 1), (27, .getfield 25, 3), (30, .bipush 6, 2), (32, .iconst 0, 1), (33, .bastore, 1), (34, .aload_n 0, 1), (35, .getfield 29, 3), (38, .bipush 6, 2), (40, .iconst 0, 1), (41, .iastore, 1), (42, .iconst 0, 1), (43, .istore_n 2, 1), (44, .iconst 0, 1), (45, .istore_n 3, 1), (46, .iload_n 3, 1), (47, .bipush 8, 2), (49, .iload_n 1, 1), (50, .imul, 1), (51, .if_icmp .ge 42, 3), (54, .iload_n 2, 1), (55, .aload_n 0, 1), (56, .bipush 6, 2), (58, .aload_n 0, 1), (59, .getfield 7, 3), (62, .iload_n 3, 1), (63, .bipush 8, 2), (65, .idiv, 1), (66, .iaload, 1), (67, .iload_n 3, 1), (68, .bipush 8, 2), (70, .irem, 1), (71, .ishr, 1), (72, .iconst 1, 1), (73, .iand, 1), (74, .invokevirtual 254, 3), (77, .ifCond .eq 7, 3), (80, .iconst 1, 1), (81, .goto 4, 3), (84, .iconst 0, 1), (85, .iadd, 1), (86, .istore_n 2, 1), (87, .iinc 3 1, 3), (90, .goto (-44), 3), (93, .iload_n 2, 1), (94, .ifCond .ne 5, 3), (97, .iconst 0, 1), (98, .ireturn, 1), (99, .aload_n 0, 1), (100, .aload_n 0, 1), (101, .getfield 35, 3), (104, .bipush 6, 2), (106, .iaload, 1), (107, .putfield 219, 3), (110, .iconst 0, 1), (111, .istore_n 3, 1), (112, .iload_n 3, 1), (113, .aload_n 0, 1), (114, .getfield 219, 3), (117, .if_icmp .ge 25, 3), (120, .aload_n 0, 1), (121, .getfield 13, 3), (124, .iload_n 3, 1), (125, .aload_n 0, 1), (126, .getfield 38, 3), (129, .sipush 540, 3), (132, .iload_n 3, 1), (133, .iadd, 1), (134, .iaload, 1), (135, .iastore, 1), (136, .iinc 3 1, 3), (139, .goto (-27), 3), (142, .iload_n 2, 1), (143, .ireturn, 1)]
theorem dx_M_unbits : ∀ p ∈ dt_M_unbits, decode prog_12_method_20_code p.1 = .ok p.2 := by decide +kernel
theorem d_M_unbits {k pc : Nat} {i : Instr} {n : Nat} (h : dt_M_unbits[k]? = some (pc, i, n)) : decode mi_M_unbits.2.1 pc = .ok (i, n) := dx_M_unbits (pc, i, n) (List.mem_of_getElem? h)
def q_M_unbits_85 (r46 : Option Nat → Int32 → Int32 → Int32 → mM → Option (Int32 × mM)) (t0 : Option Nat) (i1 : Int32) (i3 : Int32) (j0 : Int32) (j1 : Int32) (M : mM) : Option (Int32 × mM) :=
    x_lt (j1 + j0) fun x1 =>
    r46 t0 i1 x1 (i3 + 1) M
set_option maxRecDepth 20000 in
theorem v_M_unbits_85 {E : mE} (r46 : Option Nat → Int32 → Int32 → Int32 → mM → Option (Int32 × mM)) (h46 : ∀ (t0 : Option Nat) (i1 : Int32) (i2 : Int32) (i3 : Int32) (M : mM), mVr E mi_M_unbits 3 46 [some (.inr t0), some (.inl i1), some (.inl i2), some (.inl i3)] [] M enI (r46 t0 i1 i2 i3 M)) (t0 : Option Nat) (i1 : Int32) (i3 : Int32) (j0 : Int32) (j1 : Int32) (M : mM) : mVr E mi_M_unbits 3 85 [some (.inr t0), some (.inl i1), none, some (.inl i3)] [.inl j0, .inl j1] M enI (q_M_unbits_85 r46 t0 i1 i3 j0 j1 M) := by
  unfold q_M_unbits_85
  refine m_iadd (d_M_unbits (k := 55) rfl) ?_
  refine m_lt (fun x1 => ?_)
  refine m_ist_n (ls' := [some (.inr t0), some (.inl i1), some (.inl x1), some (.inl i3)]) (d_M_unbits (k := 56) rfl) (by decide) rfl ?_
  refine m_inc (v := 1) (ls' := [some (.inr t0), some (.inl i1), some (.inl x1), some (.inl (i3 + 1))]) (d_M_unbits (k := 57) rfl) rfl (by decide) (by decide) rfl ?_
  refine m_goto (tgt := 46) (d_M_unbits (k := 58) rfl) rfl ?_
  exact m_drop (mles_s (mles_s (mles_s (mles_s mles_0)))) (h46 t0 i1 x1 (i3 + 1) M)
def q_M_unbits_112_b (r112 : Option Nat → Int32 → Int32 → mM → Option (Int32 × mM)) (t0 : Option Nat) (i2 : Int32) (i3 : Int32) (M : mM) : Option (Int32 × mM) :=
    x_gI M 10 t0 3 fun x1 =>
    if i3 < x1 then
      x_gR M 10 t0 2 fun a2 =>
      x_gR M 10 t0 13 fun a3 =>
      x_aI M 0 a3 ((540 : Int32) + i3) fun x4 =>
      x_wI M a2 i3 x4 fun M =>
      r112 t0 i2 (i3 + 1) M
    else
      some (i2, M)
def q_M_unbits_112 : Nat → Option Nat → Int32 → Int32 → mM → Option (Int32 × mM)
  | 0, _, _, _, _ => none
  | n + 1, t0, i2, i3, M => q_M_unbits_112_b (q_M_unbits_112 n) t0 i2 i3 M
set_option maxRecDepth 20000 in
theorem v_M_unbits_112_b {E : mE} (r112 : Option Nat → Int32 → Int32 → mM → Option (Int32 × mM)) (h112 : ∀ (t0 : Option Nat) (i2 : Int32) (i3 : Int32) (M : mM), mVr E mi_M_unbits 3 112 [some (.inr t0), none, some (.inl i2), some (.inl i3)] [] M enI (r112 t0 i2 i3 M)) (t0 : Option Nat) (i2 : Int32) (i3 : Int32) (M : mM) : mVr E mi_M_unbits 3 112 [some (.inr t0), none, some (.inl i2), some (.inl i3)] [] M enI (q_M_unbits_112_b r112 t0 i2 i3 M) := by
  unfold q_M_unbits_112_b
  refine m_iload_n (d_M_unbits (k := 71) rfl) rfl ?_
  refine m_aload_n (d_M_unbits (k := 72) rfl) rfl ?_
  refine m_getI (d_M_unbits (k := 73) rfl) fl_M_219 rfl (fun x1 => ?_)
  refine m_icmp_ge (tgt := 142) (d_M_unbits (k := 74) rfl) rfl ?_ ?_
  · refine m_aload_n (d_M_unbits (k := 75) rfl) rfl ?_
    refine m_getR (d_M_unbits (k := 76) rfl) fl_M_13 rfl (fun a2 => ?_)
    refine m_iload_n (d_M_unbits (k := 77) rfl) rfl ?_
    refine m_aload_n (d_M_unbits (k := 78) rfl) rfl ?_
    refine m_getR (d_M_unbits (k := 79) rfl) fl_M_38 rfl (fun a3 => ?_)
    refine m_sipush (v := 540) (d_M_unbits (k := 80) rfl) (by decide) ?_
    refine m_iload_n (d_M_unbits (k := 81) rfl) rfl ?_
    refine m_iadd (d_M_unbits (k := 82) rfl) ?_
    refine m_iald (d_M_unbits (k := 83) rfl) (fun x4 => ?_)
    refine m_iast (d_M_unbits (k := 84) rfl) (fun M => ?_)
    refine m_inc (v := 1) (ls' := [some (.inr t0), none, some (.inl i2), some (.inl (i3 + 1))]) (d_M_unbits (k := 85) rfl) rfl (by decide) (by decide) rfl ?_
    refine m_goto (tgt := 112) (d_M_unbits (k := 86) rfl) rfl ?_
    exact m_drop (mles_s (mles_n (mles_s (mles_s mles_0)))) (h112 t0 i2 (i3 + 1) M)
  · refine m_iload_n (d_M_unbits (k := 87) rfl) rfl ?_
    exact m_iret (d_M_unbits (k := 88) rfl) rfl
theorem v_M_unbits_112 {E : mE} : ∀ (n : Nat) (t0 : Option Nat) (i2 : Int32) (i3 : Int32) (M : mM), mVr E mi_M_unbits 3 112 [some (.inr t0), none, some (.inl i2), some (.inl i3)] [] M enI (q_M_unbits_112 n t0 i2 i3 M)
  | 0, _, _, _, _ => m_none
  | n + 1, t0, i2, i3, M => v_M_unbits_112_b _ (v_M_unbits_112 n) t0 i2 i3 M
def q_M_unbits_46_b (r46 : Option Nat → Int32 → Int32 → Int32 → mM → Option (Int32 × mM)) (t0 : Option Nat) (i1 : Int32) (i2 : Int32) (i3 : Int32) (M : mM) : Option (Int32 × mM) :=
    if i3 < ((8 : Int32) * i1) then
      x_gR M 10 t0 0 fun a1 =>
      x_dv i3 (8 : Int32) fun x2 =>
      x_aI M 0 a1 x2 fun x3 =>
      x_rm i3 (8 : Int32) fun x4 =>
      x_cv M 10 t0 (q_M_hear t0 (6 : Int32) ((x3 >>> (x4 &&& 31)) &&& (1 : Int32)) M) fun x5 M =>
      if x5 = 0 then
        q_M_unbits_85 r46 t0 i1 i3 (0 : Int32) i2 M
      else
        q_M_unbits_85 r46 t0 i1 i3 (1 : Int32) i2 M
    else
      if i2 = 0 then
        some ((0 : Int32), M)
      else
        x_gR M 10 t0 12 fun a6 =>
        x_aI M 0 a6 (6 : Int32) fun x7 =>
        x_pI M 10 t0 3 x7 fun M =>
        q_M_unbits_112 mFU t0 i2 (0 : Int32) M
def q_M_unbits_46 : Nat → Option Nat → Int32 → Int32 → Int32 → mM → Option (Int32 × mM)
  | 0, _, _, _, _, _ => none
  | n + 1, t0, i1, i2, i3, M => q_M_unbits_46_b (q_M_unbits_46 n) t0 i1 i2 i3 M
set_option maxRecDepth 20000 in
theorem v_M_unbits_46_b {E : mE} (r46 : Option Nat → Int32 → Int32 → Int32 → mM → Option (Int32 × mM)) (h46 : ∀ (t0 : Option Nat) (i1 : Int32) (i2 : Int32) (i3 : Int32) (M : mM), mVr E mi_M_unbits 3 46 [some (.inr t0), some (.inl i1), some (.inl i2), some (.inl i3)] [] M enI (r46 t0 i1 i2 i3 M)) (t0 : Option Nat) (i1 : Int32) (i2 : Int32) (i3 : Int32) (M : mM) : mVr E mi_M_unbits 3 46 [some (.inr t0), some (.inl i1), some (.inl i2), some (.inl i3)] [] M enI (q_M_unbits_46_b r46 t0 i1 i2 i3 M) := by
  unfold q_M_unbits_46_b
  refine m_iload_n (d_M_unbits (k := 30) rfl) rfl ?_
  refine m_bipush (v := 8) (d_M_unbits (k := 31) rfl) (by decide) ?_
  refine m_iload_n (d_M_unbits (k := 32) rfl) rfl ?_
  refine m_imul (d_M_unbits (k := 33) rfl) ?_
  refine m_icmp_ge (tgt := 93) (d_M_unbits (k := 34) rfl) rfl ?_ ?_
  · refine m_iload_n (d_M_unbits (k := 35) rfl) rfl ?_
    refine m_aload_n (d_M_unbits (k := 36) rfl) rfl ?_
    refine m_bipush (v := 6) (d_M_unbits (k := 37) rfl) (by decide) ?_
    refine m_aload_n (d_M_unbits (k := 38) rfl) rfl ?_
    refine m_getR (d_M_unbits (k := 39) rfl) fl_M_7 rfl (fun a1 => ?_)
    refine m_iload_n (d_M_unbits (k := 40) rfl) rfl ?_
    refine m_bipush (v := 8) (d_M_unbits (k := 41) rfl) (by decide) ?_
    refine m_idiv (d_M_unbits (k := 42) rfl) (fun x2 => ?_)
    refine m_iald (d_M_unbits (k := 43) rfl) (fun x3 => ?_)
    refine m_iload_n (d_M_unbits (k := 44) rfl) rfl ?_
    refine m_bipush (v := 8) (d_M_unbits (k := 45) rfl) (by decide) ?_
    refine m_irem (d_M_unbits (k := 46) rfl) (fun x4 => ?_)
    refine m_ishr (d_M_unbits (k := 47) rfl) ?_
    refine m_iconst (v := 1) (d_M_unbits (k := 48) rfl) (by decide) ?_
    refine m_iand (d_M_unbits (k := 49) rfl) ?_
    refine m_cvI (c := 10) (vs := [.inl (6 : Int32), .inl ((x3 >>> (x4 &&& 31)) &&& (1 : Int32))]) (st := [.inl i2]) (d_M_unbits (k := 50) rfl) (s_M_hear t0 (6 : Int32) ((x3 >>> (x4 &&& 31)) &&& (1 : Int32)) M) cd_M_hear ml_M_254 im_M_hear se_M_hear rfl (by decide) rfl (Nat.le_of_ble_eq_true rfl) (fun x5 M => ?_)
    refine m_if_eq (tgt := 84) (d_M_unbits (k := 51) rfl) rfl ?_ ?_
    · refine m_iconst (v := 0) (d_M_unbits (k := 54) rfl) (by decide) ?_
      exact m_drop (mles_s (mles_s (mles_n (mles_s mles_0)))) (v_M_unbits_85 r46 h46 t0 i1 i3 (0 : Int32) i2 M)
    · refine m_iconst (v := 1) (d_M_unbits (k := 52) rfl) (by decide) ?_
      refine m_goto (tgt := 85) (d_M_unbits (k := 53) rfl) rfl ?_
      exact m_drop (mles_s (mles_s (mles_n (mles_s mles_0)))) (v_M_unbits_85 r46 h46 t0 i1 i3 (1 : Int32) i2 M)
  · refine m_iload_n (d_M_unbits (k := 59) rfl) rfl ?_
    refine m_if_ne (tgt := 99) (d_M_unbits (k := 60) rfl) rfl ?_ ?_
    · refine m_iconst (v := 0) (d_M_unbits (k := 61) rfl) (by decide) ?_
      exact m_iret (d_M_unbits (k := 62) rfl) rfl
    · refine m_aload_n (d_M_unbits (k := 63) rfl) rfl ?_
      refine m_aload_n (d_M_unbits (k := 64) rfl) rfl ?_
      refine m_getR (d_M_unbits (k := 65) rfl) fl_M_35 rfl (fun a6 => ?_)
      refine m_bipush (v := 6) (d_M_unbits (k := 66) rfl) (by decide) ?_
      refine m_iald (d_M_unbits (k := 67) rfl) (fun x7 => ?_)
      refine m_pI (d_M_unbits (k := 68) rfl) fp_M_219 (fun h => absurd h (by decide)) rfl (fun M => ?_)
      refine m_iconst (v := 0) (d_M_unbits (k := 69) rfl) (by decide) ?_
      refine m_ist_n (ls' := [some (.inr t0), some (.inl i1), some (.inl i2), some (.inl (0 : Int32))]) (d_M_unbits (k := 70) rfl) (by decide) rfl ?_
      exact m_drop (mles_s (mles_n (mles_s (mles_s mles_0)))) (v_M_unbits_112 mFU t0 i2 (0 : Int32) M)
theorem v_M_unbits_46 {E : mE} : ∀ (n : Nat) (t0 : Option Nat) (i1 : Int32) (i2 : Int32) (i3 : Int32) (M : mM), mVr E mi_M_unbits 3 46 [some (.inr t0), some (.inl i1), some (.inl i2), some (.inl i3)] [] M enI (q_M_unbits_46 n t0 i1 i2 i3 M)
  | 0, _, _, _, _, _ => m_none
  | n + 1, t0, i1, i2, i3, M => v_M_unbits_46_b _ (v_M_unbits_46 n) t0 i1 i2 i3 M
def q_M_unbits (t0 : Option Nat) (M : mM) : Option (Int32 × mM) :=
    x_gI M 10 t0 1 fun x1 =>
    x_pI M 10 t0 1 (0 : Int32) fun M =>
    x_gR M 10 t0 7 fun a2 =>
    x_wI M a2 (6 : Int32) (0 : Int32) fun M =>
    x_gR M 10 t0 8 fun a3 =>
    x_wI M a3 (6 : Int32) (0 : Int32) fun M =>
    x_gR M 10 t0 9 fun a4 =>
    x_wZ M a4 (6 : Int32) (0 : Int32) fun M =>
    x_gR M 10 t0 10 fun a5 =>
    x_wI M a5 (6 : Int32) (0 : Int32) fun M =>
    q_M_unbits_46 mFU t0 x1 (0 : Int32) (0 : Int32) M
set_option maxRecDepth 20000 in
theorem v_M_unbits {E : mE} (t0 : Option Nat) (M : mM) : mVr E mi_M_unbits 3 0 [some (.inr t0), none, none, none] [] M enI (q_M_unbits t0 M) := by
  unfold q_M_unbits
  refine m_aload_n (d_M_unbits (k := 0) rfl) rfl ?_
  refine m_getI (d_M_unbits (k := 1) rfl) fl_M_211 rfl (fun x1 => ?_)
  refine m_ist_n (ls' := [some (.inr t0), some (.inl x1), none, none]) (d_M_unbits (k := 2) rfl) (by decide) rfl ?_
  refine m_aload_n (d_M_unbits (k := 3) rfl) rfl ?_
  refine m_iconst (v := 0) (d_M_unbits (k := 4) rfl) (by decide) ?_
  refine m_pI (d_M_unbits (k := 5) rfl) fp_M_211 (fun h => absurd h (by decide)) rfl (fun M => ?_)
  refine m_aload_n (d_M_unbits (k := 6) rfl) rfl ?_
  refine m_getR (d_M_unbits (k := 7) rfl) fl_M_19 rfl (fun a2 => ?_)
  refine m_bipush (v := 6) (d_M_unbits (k := 8) rfl) (by decide) ?_
  refine m_iconst (v := 0) (d_M_unbits (k := 9) rfl) (by decide) ?_
  refine m_iast (d_M_unbits (k := 10) rfl) (fun M => ?_)
  refine m_aload_n (d_M_unbits (k := 11) rfl) rfl ?_
  refine m_getR (d_M_unbits (k := 12) rfl) fl_M_22 rfl (fun a3 => ?_)
  refine m_bipush (v := 6) (d_M_unbits (k := 13) rfl) (by decide) ?_
  refine m_iconst (v := 0) (d_M_unbits (k := 14) rfl) (by decide) ?_
  refine m_iast (d_M_unbits (k := 15) rfl) (fun M => ?_)
  refine m_aload_n (d_M_unbits (k := 16) rfl) rfl ?_
  refine m_getR (d_M_unbits (k := 17) rfl) fl_M_25 rfl (fun a4 => ?_)
  refine m_bipush (v := 6) (d_M_unbits (k := 18) rfl) (by decide) ?_
  refine m_iconst (v := 0) (d_M_unbits (k := 19) rfl) (by decide) ?_
  refine m_zast (d_M_unbits (k := 20) rfl) (fun M => ?_)
  refine m_aload_n (d_M_unbits (k := 21) rfl) rfl ?_
  refine m_getR (d_M_unbits (k := 22) rfl) fl_M_29 rfl (fun a5 => ?_)
  refine m_bipush (v := 6) (d_M_unbits (k := 23) rfl) (by decide) ?_
  refine m_iconst (v := 0) (d_M_unbits (k := 24) rfl) (by decide) ?_
  refine m_iast (d_M_unbits (k := 25) rfl) (fun M => ?_)
  refine m_iconst (v := 0) (d_M_unbits (k := 26) rfl) (by decide) ?_
  refine m_ist_n (ls' := [some (.inr t0), some (.inl x1), some (.inl (0 : Int32)), none]) (d_M_unbits (k := 27) rfl) (by decide) rfl ?_
  refine m_iconst (v := 0) (d_M_unbits (k := 28) rfl) (by decide) ?_
  refine m_ist_n (ls' := [some (.inr t0), some (.inl x1), some (.inl (0 : Int32)), some (.inl (0 : Int32))]) (d_M_unbits (k := 29) rfl) (by decide) rfl ?_
  exact m_drop (mles_s (mles_s (mles_s (mles_s mles_0)))) (v_M_unbits_46 mFU t0 x1 (0 : Int32) (0 : Int32) M)
theorem s_M_unbits {E : mE} (t0 : Option Nat) (M : mM) : mSnd E mi_M_unbits 3 [.inr t0] M enI (q_M_unbits t0 M) := m_entryI (by decide) (Nat.le_of_ble_eq_true rfl) rfl (m_drop (mles_s (mles_e (mles_e (mles_e mles_0)))) (v_M_unbits t0 M))
def dt_L_law_0 : List (Nat × Instr × Nat) := [(0, .new 7, 3), (3, .dup, 1), (4, .invokespecial 9, 3), (7, .astore_n 1, 1), (8, .new 10, 3), (11, .dup, 1), (12, .invokespecial 12, 3), (15, .astore_n 2, 1), (16, .iconst 0, 1), (17, .istore_n 3, 1), (18, .iload_n 3, 1), (19, .aload_n 0, 1), (20, .arraylength, 1), (21, .bipush 6, 2), (23, .isub, 1), (24, .if_icmp .gt 870, 3), (27, .aload_n 0, 1), (28, .iload_n 3, 1), (29, .iaload, 1), (30, .bipush 31, 2), (32, .iand, 1), (33, .tableswitch 855 0 21 #[103, 166, 189, 212, 235, 248, 307, 350, 373, 426, 459, 492, 535, 568, 591, 614, 637, 650, 683, 726, 779, 812], 103), (136, .aload_n 1, 1), (137, .aload_n 0, 1), (138, .iload_n 3, 1), (139, .iconst 1, 1), (140, .iadd, 1), (141, .iaload, 1), (142, .aload_n 0, 1), (143, .iload_n 3, 1), (144, .iconst 2, 1), (145, .iadd, 1), (146, .iaload, 1), (147, .aload_n 0, 1), (148, .iload_n 3, 1), (149, .iconst 3, 1), (150, .iadd, 1), (151, .iaload, 1), (152, .aload_n 0, 1), (153, .iload_n 3, 1)]
theorem dx_L_law_0 : ∀ p ∈ dt_L_law_0, decode code p.1 = .ok p.2 := by decide +kernel
theorem d_L_law_0 {k pc : Nat} {i : Instr} {n : Nat} (h : dt_L_law_0[k]? = some (pc, i, n)) : decode mi_L_law.2.1 pc = .ok (i, n) := dx_L_law_0 (pc, i, n) (List.mem_of_getElem? h)
def dt_L_law_1 : List (Nat × Instr × Nat) := [(154, .iconst 4, 1), (155, .iadd, 1), (156, .iaload, 1), (157, .aload_n 0, 1), (158, .iload_n 3, 1), (159, .iconst 5, 1), (160, .iadd, 1), (161, .iaload, 1), (162, .invokevirtual 13, 3), (165, .aload_n 2, 1), (166, .aload_n 0, 1), (167, .iload_n 3, 1), (168, .iconst 1, 1), (169, .iadd, 1), (170, .iaload, 1), (171, .aload_n 0, 1), (172, .iload_n 3, 1), (173, .iconst 2, 1), (174, .iadd, 1), (175, .iaload, 1), (176, .aload_n 0, 1), (177, .iload_n 3, 1), (178, .iconst 3, 1), (179, .iadd, 1), (180, .iaload, 1), (181, .aload_n 0, 1), (182, .iload_n 3, 1), (183, .iconst 4, 1), (184, .iadd, 1), (185, .iaload, 1), (186, .aload_n 0, 1), (187, .iload_n 3, 1), (188, .iconst 5, 1), (189, .iadd, 1), (190, .iaload, 1), (191, .invokevirtual 17, 3), (194, .if_icmp .eq 694, 3), (197, .iconst 0, 1), (198, .ireturn, 1), (199, .aload_n 1, 1)]
theorem dx_L_law_1 : ∀ p ∈ dt_L_law_1, decode code p.1 = .ok p.2 := by decide +kernel
theorem d_L_law_1 {k pc : Nat} {i : Instr} {n : Nat} (h : dt_L_law_1[k]? = some (pc, i, n)) : decode mi_L_law.2.1 pc = .ok (i, n) := dx_L_law_1 (pc, i, n) (List.mem_of_getElem? h)
def dt_L_law_2 : List (Nat × Instr × Nat) := [(200, .aload_n 0, 1), (201, .iload_n 3, 1), (202, .iconst 1, 1), (203, .iadd, 1), (204, .iaload, 1), (205, .invokevirtual 18, 3), (208, .aload_n 2, 1), (209, .aload_n 0, 1), (210, .iload_n 3, 1), (211, .iconst 1, 1), (212, .iadd, 1), (213, .iaload, 1), (214, .invokevirtual 22, 3), (217, .if_icmp .eq 671, 3), (220, .iconst 0, 1), (221, .ireturn, 1), (222, .aload_n 1, 1), (223, .aload_n 0, 1), (224, .iload_n 3, 1), (225, .iconst 1, 1), (226, .iadd, 1), (227, .iaload, 1), (228, .invokevirtual 23, 3), (231, .aload_n 2, 1), (232, .aload_n 0, 1), (233, .iload_n 3, 1), (234, .iconst 1, 1), (235, .iadd, 1), (236, .iaload, 1), (237, .invokevirtual 27, 3), (240, .if_icmp .eq 648, 3), (243, .iconst 0, 1), (244, .ireturn, 1), (245, .aload_n 1, 1), (246, .aload_n 0, 1), (247, .iload_n 3, 1), (248, .iconst 1, 1), (249, .iadd, 1), (250, .iaload, 1), (251, .invokevirtual 28, 3)]
theorem dx_L_law_2 : ∀ p ∈ dt_L_law_2, decode code p.1 = .ok p.2 := by decide +kernel
theorem d_L_law_2 {k pc : Nat} {i : Instr} {n : Nat} (h : dt_L_law_2[k]? = some (pc, i, n)) : decode mi_L_law.2.1 pc = .ok (i, n) := dx_L_law_2 (pc, i, n) (List.mem_of_getElem? h)
def dt_L_law_3 : List (Nat × Instr × Nat) := [(254, .aload_n 2, 1), (255, .aload_n 0, 1), (256, .iload_n 3, 1), (257, .iconst 1, 1), (258, .iadd, 1), (259, .iaload, 1), (260, .invokevirtual 31, 3), (263, .if_icmp .eq 625, 3), (266, .iconst 0, 1), (267, .ireturn, 1), (268, .aload_n 1, 1), (269, .invokevirtual 32, 3), (272, .aload_n 2, 1), (273, .invokevirtual 36, 3), (276, .if_icmp .eq 612, 3), (279, .iconst 0, 1), (280, .ireturn, 1), (281, .aload_n 1, 1), (282, .aload_n 0, 1), (283, .iload_n 3, 1), (284, .iconst 1, 1), (285, .iadd, 1), (286, .iaload, 1), (287, .aload_n 0, 1), (288, .iload_n 3, 1), (289, .iconst 2, 1), (290, .iadd, 1), (291, .iaload, 1), (292, .aload_n 0, 1), (293, .iload_n 3, 1), (294, .iconst 3, 1), (295, .iadd, 1), (296, .iaload, 1), (297, .ifCond .eq 7, 3), (300, .iconst 1, 1), (301, .goto 4, 3), (304, .iconst 0, 1), (305, .invokevirtual 37, 3), (308, .aload_n 2, 1), (309, .aload_n 0, 1)]
theorem dx_L_law_3 : ∀ p ∈ dt_L_law_3, decode code p.1 = .ok p.2 := by decide +kernel
theorem d_L_law_3 {k pc : Nat} {i : Instr} {n : Nat} (h : dt_L_law_3[k]? = some (pc, i, n)) : decode mi_L_law.2.1 pc = .ok (i, n) := dx_L_law_3 (pc, i, n) (List.mem_of_getElem? h)
def dt_L_law_4 : List (Nat × Instr × Nat) := [(310, .iload_n 3, 1), (311, .iconst 1, 1), (312, .iadd, 1), (313, .iaload, 1), (314, .aload_n 0, 1), (315, .iload_n 3, 1), (316, .iconst 2, 1), (317, .iadd, 1), (318, .iaload, 1), (319, .aload_n 0, 1), (320, .iload_n 3, 1), (321, .iconst 3, 1), (322, .iadd, 1), (323, .iaload, 1), (324, .ifCond .eq 7, 3), (327, .iconst 1, 1), (328, .goto 4, 3), (331, .iconst 0, 1), (332, .invokevirtual 41, 3), (335, .if_icmp .eq 553, 3), (338, .iconst 0, 1), (339, .ireturn, 1), (340, .aload_n 1, 1), (341, .aload_n 0, 1), (342, .iload_n 3, 1), (343, .iconst 1, 1), (344, .iadd, 1), (345, .iaload, 1), (346, .aload_n 0, 1), (347, .iload_n 3, 1), (348, .iconst 2, 1), (349, .iadd, 1), (350, .iaload, 1), (351, .aload_n 0, 1), (352, .iload_n 3, 1), (353, .iconst 3, 1), (354, .iadd, 1), (355, .iaload, 1), (356, .invokevirtual 42, 3), (359, .aload_n 2, 1)]
theorem dx_L_law_4 : ∀ p ∈ dt_L_law_4, decode code p.1 = .ok p.2 := by decide +kernel
theorem d_L_law_4 {k pc : Nat} {i : Instr} {n : Nat} (h : dt_L_law_4[k]? = some (pc, i, n)) : decode mi_L_law.2.1 pc = .ok (i, n) := dx_L_law_4 (pc, i, n) (List.mem_of_getElem? h)
def dt_L_law_5 : List (Nat × Instr × Nat) := [(360, .aload_n 0, 1), (361, .iload_n 3, 1), (362, .iconst 1, 1), (363, .iadd, 1), (364, .iaload, 1), (365, .aload_n 0, 1), (366, .iload_n 3, 1), (367, .iconst 2, 1), (368, .iadd, 1), (369, .iaload, 1), (370, .aload_n 0, 1), (371, .iload_n 3, 1), (372, .iconst 3, 1), (373, .iadd, 1), (374, .iaload, 1), (375, .invokevirtual 46, 3), (378, .if_icmp .eq 510, 3), (381, .iconst 0, 1), (382, .ireturn, 1), (383, .aload_n 1, 1), (384, .aload_n 0, 1), (385, .iload_n 3, 1), (386, .iconst 1, 1), (387, .iadd, 1), (388, .iaload, 1), (389, .invokevirtual 47, 3), (392, .aload_n 2, 1), (393, .aload_n 0, 1), (394, .iload_n 3, 1), (395, .iconst 1, 1), (396, .iadd, 1), (397, .iaload, 1), (398, .invokevirtual 50, 3), (401, .if_icmp .eq 487, 3), (404, .iconst 0, 1), (405, .ireturn, 1), (406, .aload_n 1, 1), (407, .aload_n 0, 1), (408, .iload_n 3, 1), (409, .iconst 1, 1)]
theorem dx_L_law_5 : ∀ p ∈ dt_L_law_5, decode code p.1 = .ok p.2 := by decide +kernel
theorem d_L_law_5 {k pc : Nat} {i : Instr} {n : Nat} (h : dt_L_law_5[k]? = some (pc, i, n)) : decode mi_L_law.2.1 pc = .ok (i, n) := dx_L_law_5 (pc, i, n) (List.mem_of_getElem? h)
def dt_L_law_6 : List (Nat × Instr × Nat) := [(410, .iadd, 1), (411, .iaload, 1), (412, .aload_n 0, 1), (413, .iload_n 3, 1), (414, .iconst 2, 1), (415, .iadd, 1), (416, .iaload, 1), (417, .aload_n 0, 1), (418, .iload_n 3, 1), (419, .iconst 3, 1), (420, .iadd, 1), (421, .iaload, 1), (422, .aload_n 0, 1), (423, .iload_n 3, 1), (424, .iconst 4, 1), (425, .iadd, 1), (426, .iaload, 1), (427, .invokevirtual 51, 3), (430, .aload_n 2, 1), (431, .aload_n 0, 1), (432, .iload_n 3, 1), (433, .iconst 1, 1), (434, .iadd, 1), (435, .iaload, 1), (436, .aload_n 0, 1), (437, .iload_n 3, 1), (438, .iconst 2, 1), (439, .iadd, 1), (440, .iaload, 1), (441, .aload_n 0, 1), (442, .iload_n 3, 1), (443, .iconst 3, 1), (444, .iadd, 1), (445, .iaload, 1), (446, .aload_n 0, 1), (447, .iload_n 3, 1), (448, .iconst 4, 1), (449, .iadd, 1), (450, .iaload, 1), (451, .invokevirtual 55, 3)]
theorem dx_L_law_6 : ∀ p ∈ dt_L_law_6, decode code p.1 = .ok p.2 := by decide +kernel
theorem d_L_law_6 {k pc : Nat} {i : Instr} {n : Nat} (h : dt_L_law_6[k]? = some (pc, i, n)) : decode mi_L_law.2.1 pc = .ok (i, n) := dx_L_law_6 (pc, i, n) (List.mem_of_getElem? h)
def dt_L_law_7 : List (Nat × Instr × Nat) := [(454, .if_icmp .eq 434, 3), (457, .iconst 0, 1), (458, .ireturn, 1), (459, .aload_n 1, 1), (460, .aload_n 0, 1), (461, .iload_n 3, 1), (462, .iconst 1, 1), (463, .iadd, 1), (464, .iaload, 1), (465, .aload_n 0, 1), (466, .iload_n 3, 1), (467, .iconst 2, 1), (468, .iadd, 1), (469, .iaload, 1), (470, .invokevirtual 56, 3), (473, .aload_n 2, 1), (474, .aload_n 0, 1), (475, .iload_n 3, 1), (476, .iconst 1, 1), (477, .iadd, 1), (478, .iaload, 1), (479, .aload_n 0, 1), (480, .iload_n 3, 1), (481, .iconst 2, 1), (482, .iadd, 1), (483, .iaload, 1), (484, .invokevirtual 60, 3), (487, .if_icmp .eq 401, 3), (490, .iconst 0, 1), (491, .ireturn, 1), (492, .aload_n 1, 1), (493, .aload_n 0, 1), (494, .iload_n 3, 1), (495, .iconst 1, 1), (496, .iadd, 1), (497, .iaload, 1), (498, .aload_n 0, 1), (499, .iload_n 3, 1), (500, .iconst 2, 1), (501, .iadd, 1)]
theorem dx_L_law_7 : ∀ p ∈ dt_L_law_7, decode code p.1 = .ok p.2 := by decide +kernel
theorem d_L_law_7 {k pc : Nat} {i : Instr} {n : Nat} (h : dt_L_law_7[k]? = some (pc, i, n)) : decode mi_L_law.2.1 pc = .ok (i, n) := dx_L_law_7 (pc, i, n) (List.mem_of_getElem? h)
def dt_L_law_8 : List (Nat × Instr × Nat) := [(502, .iaload, 1), (503, .invokevirtual 61, 3), (506, .aload_n 2, 1), (507, .aload_n 0, 1), (508, .iload_n 3, 1), (509, .iconst 1, 1), (510, .iadd, 1), (511, .iaload, 1), (512, .aload_n 0, 1), (513, .iload_n 3, 1), (514, .iconst 2, 1), (515, .iadd, 1), (516, .iaload, 1), (517, .invokevirtual 65, 3), (520, .if_icmp .eq 368, 3), (523, .iconst 0, 1), (524, .ireturn, 1), (525, .aload_n 1, 1), (526, .aload_n 0, 1), (527, .iload_n 3, 1), (528, .iconst 1, 1), (529, .iadd, 1), (530, .iaload, 1), (531, .aload_n 0, 1), (532, .iload_n 3, 1), (533, .iconst 2, 1), (534, .iadd, 1), (535, .iaload, 1), (536, .aload_n 0, 1), (537, .iload_n 3, 1), (538, .iconst 3, 1), (539, .iadd, 1), (540, .iaload, 1), (541, .invokevirtual 66, 3), (544, .aload_n 2, 1), (545, .aload_n 0, 1), (546, .iload_n 3, 1), (547, .iconst 1, 1), (548, .iadd, 1), (549, .iaload, 1)]
theorem dx_L_law_8 : ∀ p ∈ dt_L_law_8, decode code p.1 = .ok p.2 := by decide +kernel
theorem d_L_law_8 {k pc : Nat} {i : Instr} {n : Nat} (h : dt_L_law_8[k]? = some (pc, i, n)) : decode mi_L_law.2.1 pc = .ok (i, n) := dx_L_law_8 (pc, i, n) (List.mem_of_getElem? h)
def dt_L_law_9 : List (Nat × Instr × Nat) := [(550, .aload_n 0, 1), (551, .iload_n 3, 1), (552, .iconst 2, 1), (553, .iadd, 1), (554, .iaload, 1), (555, .aload_n 0, 1), (556, .iload_n 3, 1), (557, .iconst 3, 1), (558, .iadd, 1), (559, .iaload, 1), (560, .invokevirtual 70, 3), (563, .if_icmp .eq 325, 3), (566, .iconst 0, 1), (567, .ireturn, 1), (568, .aload_n 1, 1), (569, .aload_n 0, 1), (570, .iload_n 3, 1), (571, .iconst 1, 1), (572, .iadd, 1), (573, .iaload, 1), (574, .aload_n 0, 1), (575, .iload_n 3, 1), (576, .iconst 2, 1), (577, .iadd, 1), (578, .iaload, 1), (579, .invokevirtual 71, 3), (582, .aload_n 2, 1), (583, .aload_n 0, 1), (584, .iload_n 3, 1), (585, .iconst 1, 1), (586, .iadd, 1), (587, .iaload, 1), (588, .aload_n 0, 1), (589, .iload_n 3, 1), (590, .iconst 2, 1), (591, .iadd, 1), (592, .iaload, 1), (593, .invokevirtual 74, 3), (596, .if_icmp .eq 292, 3), (599, .iconst 0, 1)]
theorem dx_L_law_9 : ∀ p ∈ dt_L_law_9, decode code p.1 = .ok p.2 := by decide +kernel
theorem d_L_law_9 {k pc : Nat} {i : Instr} {n : Nat} (h : dt_L_law_9[k]? = some (pc, i, n)) : decode mi_L_law.2.1 pc = .ok (i, n) := dx_L_law_9 (pc, i, n) (List.mem_of_getElem? h)
def dt_L_law_10 : List (Nat × Instr × Nat) := [(600, .ireturn, 1), (601, .aload_n 1, 1), (602, .aload_n 0, 1), (603, .iload_n 3, 1), (604, .iconst 1, 1), (605, .iadd, 1), (606, .iaload, 1), (607, .invokevirtual 75, 3), (610, .aload_n 2, 1), (611, .aload_n 0, 1), (612, .iload_n 3, 1), (613, .iconst 1, 1), (614, .iadd, 1), (615, .iaload, 1), (616, .invokevirtual 78, 3), (619, .if_icmp .eq 269, 3), (622, .iconst 0, 1), (623, .ireturn, 1), (624, .aload_n 1, 1), (625, .aload_n 0, 1), (626, .iload_n 3, 1), (627, .iconst 1, 1), (628, .iadd, 1), (629, .iaload, 1), (630, .invokevirtual 79, 3), (633, .aload_n 2, 1), (634, .aload_n 0, 1), (635, .iload_n 3, 1), (636, .iconst 1, 1), (637, .iadd, 1), (638, .iaload, 1), (639, .invokevirtual 82, 3), (642, .if_icmp .eq 246, 3), (645, .iconst 0, 1), (646, .ireturn, 1), (647, .aload_n 1, 1), (648, .aload_n 0, 1), (649, .iload_n 3, 1), (650, .iconst 1, 1), (651, .iadd, 1)]
theorem dx_L_law_10 : ∀ p ∈ dt_L_law_10, decode code p.1 = .ok p.2 := by decide +kernel
theorem d_L_law_10 {k pc : Nat} {i : Instr} {n : Nat} (h : dt_L_law_10[k]? = some (pc, i, n)) : decode mi_L_law.2.1 pc = .ok (i, n) := dx_L_law_10 (pc, i, n) (List.mem_of_getElem? h)
def dt_L_law_11 : List (Nat × Instr × Nat) := [(652, .iaload, 1), (653, .invokevirtual 83, 3), (656, .aload_n 2, 1), (657, .aload_n 0, 1), (658, .iload_n 3, 1), (659, .iconst 1, 1), (660, .iadd, 1), (661, .iaload, 1), (662, .invokevirtual 86, 3), (665, .if_icmp .eq 223, 3), (668, .iconst 0, 1), (669, .ireturn, 1), (670, .aload_n 1, 1), (671, .invokevirtual 87, 3), (674, .aload_n 2, 1), (675, .invokevirtual 90, 3), (678, .if_icmp .eq 210, 3), (681, .iconst 0, 1), (682, .ireturn, 1), (683, .aload_n 1, 1), (684, .aload_n 0, 1), (685, .iload_n 3, 1), (686, .iconst 1, 1), (687, .iadd, 1), (688, .iaload, 1), (689, .aload_n 0, 1), (690, .iload_n 3, 1), (691, .iconst 2, 1), (692, .iadd, 1), (693, .iaload, 1), (694, .invokevirtual 91, 3), (697, .aload_n 2, 1), (698, .aload_n 0, 1), (699, .iload_n 3, 1), (700, .iconst 1, 1), (701, .iadd, 1), (702, .iaload, 1), (703, .aload_n 0, 1), (704, .iload_n 3, 1), (705, .iconst 2, 1)]
theorem dx_L_law_11 : ∀ p ∈ dt_L_law_11, decode code p.1 = .ok p.2 := by decide +kernel
theorem d_L_law_11 {k pc : Nat} {i : Instr} {n : Nat} (h : dt_L_law_11[k]? = some (pc, i, n)) : decode mi_L_law.2.1 pc = .ok (i, n) := dx_L_law_11 (pc, i, n) (List.mem_of_getElem? h)
def dt_L_law_12 : List (Nat × Instr × Nat) := [(706, .iadd, 1), (707, .iaload, 1), (708, .invokevirtual 94, 3), (711, .if_icmp .eq 177, 3), (714, .iconst 0, 1), (715, .ireturn, 1), (716, .aload_n 1, 1), (717, .aload_n 0, 1), (718, .iload_n 3, 1), (719, .iconst 1, 1), (720, .iadd, 1), (721, .iaload, 1), (722, .aload_n 0, 1), (723, .iload_n 3, 1), (724, .iconst 2, 1), (725, .iadd, 1), (726, .iaload, 1), (727, .aload_n 0, 1), (728, .iload_n 3, 1), (729, .iconst 3, 1), (730, .iadd, 1), (731, .iaload, 1), (732, .invokevirtual 95, 3), (735, .aload_n 2, 1), (736, .aload_n 0, 1), (737, .iload_n 3, 1), (738, .iconst 1, 1), (739, .iadd, 1), (740, .iaload, 1), (741, .aload_n 0, 1), (742, .iload_n 3, 1), (743, .iconst 2, 1), (744, .iadd, 1), (745, .iaload, 1), (746, .aload_n 0, 1), (747, .iload_n 3, 1), (748, .iconst 3, 1), (749, .iadd, 1), (750, .iaload, 1), (751, .invokevirtual 98, 3)]
theorem dx_L_law_12 : ∀ p ∈ dt_L_law_12, decode code p.1 = .ok p.2 := by decide +kernel
theorem d_L_law_12 {k pc : Nat} {i : Instr} {n : Nat} (h : dt_L_law_12[k]? = some (pc, i, n)) : decode mi_L_law.2.1 pc = .ok (i, n) := dx_L_law_12 (pc, i, n) (List.mem_of_getElem? h)
def dt_L_law_13 : List (Nat × Instr × Nat) := [(754, .if_icmp .eq 134, 3), (757, .iconst 0, 1), (758, .ireturn, 1), (759, .aload_n 1, 1), (760, .aload_n 0, 1), (761, .iload_n 3, 1), (762, .iconst 1, 1), (763, .iadd, 1), (764, .iaload, 1), (765, .aload_n 0, 1), (766, .iload_n 3, 1), (767, .iconst 2, 1), (768, .iadd, 1), (769, .iaload, 1), (770, .aload_n 0, 1), (771, .iload_n 3, 1), (772, .iconst 3, 1), (773, .iadd, 1), (774, .iaload, 1), (775, .aload_n 0, 1), (776, .iload_n 3, 1), (777, .iconst 4, 1), (778, .iadd, 1), (779, .iaload, 1), (780, .invokevirtual 99, 3), (783, .aload_n 2, 1), (784, .aload_n 0, 1), (785, .iload_n 3, 1), (786, .iconst 1, 1), (787, .iadd, 1), (788, .iaload, 1), (789, .aload_n 0, 1), (790, .iload_n 3, 1), (791, .iconst 2, 1), (792, .iadd, 1), (793, .iaload, 1), (794, .aload_n 0, 1), (795, .iload_n 3, 1), (796, .iconst 3, 1), (797, .iadd, 1)]
theorem dx_L_law_13 : ∀ p ∈ dt_L_law_13, decode code p.1 = .ok p.2 := by decide +kernel
theorem d_L_law_13 {k pc : Nat} {i : Instr} {n : Nat} (h : dt_L_law_13[k]? = some (pc, i, n)) : decode mi_L_law.2.1 pc = .ok (i, n) := dx_L_law_13 (pc, i, n) (List.mem_of_getElem? h)
def dt_L_law_14 : List (Nat × Instr × Nat) := [(798, .iaload, 1), (799, .aload_n 0, 1), (800, .iload_n 3, 1), (801, .iconst 4, 1), (802, .iadd, 1), (803, .iaload, 1), (804, .invokevirtual 103, 3), (807, .if_icmp .eq 81, 3), (810, .iconst 0, 1), (811, .ireturn, 1), (812, .aload_n 1, 1), (813, .aload_n 0, 1), (814, .iload_n 3, 1), (815, .iconst 1, 1), (816, .iadd, 1), (817, .iaload, 1), (818, .aload_n 0, 1), (819, .iload_n 3, 1), (820, .iconst 2, 1), (821, .iadd, 1), (822, .iaload, 1), (823, .invokevirtual 104, 3), (826, .aload_n 2, 1), (827, .aload_n 0, 1), (828, .iload_n 3, 1), (829, .iconst 1, 1), (830, .iadd, 1), (831, .iaload, 1), (832, .aload_n 0, 1), (833, .iload_n 3, 1), (834, .iconst 2, 1), (835, .iadd, 1), (836, .iaload, 1), (837, .invokevirtual 107, 3), (840, .if_icmp .eq 48, 3), (843, .iconst 0, 1), (844, .ireturn, 1), (845, .aload_n 1, 1), (846, .aload_n 0, 1), (847, .iload_n 3, 1)]
theorem dx_L_law_14 : ∀ p ∈ dt_L_law_14, decode code p.1 = .ok p.2 := by decide +kernel
theorem d_L_law_14 {k pc : Nat} {i : Instr} {n : Nat} (h : dt_L_law_14[k]? = some (pc, i, n)) : decode mi_L_law.2.1 pc = .ok (i, n) := dx_L_law_14 (pc, i, n) (List.mem_of_getElem? h)
def dt_L_law_15 : List (Nat × Instr × Nat) := [(848, .iconst 1, 1), (849, .iadd, 1), (850, .iaload, 1), (851, .aload_n 0, 1), (852, .iload_n 3, 1), (853, .iconst 2, 1), (854, .iadd, 1), (855, .iaload, 1), (856, .aload_n 0, 1), (857, .iload_n 3, 1), (858, .iconst 3, 1), (859, .iadd, 1), (860, .iaload, 1), (861, .invokevirtual 108, 3), (864, .aload_n 2, 1), (865, .aload_n 0, 1), (866, .iload_n 3, 1), (867, .iconst 1, 1), (868, .iadd, 1), (869, .iaload, 1), (870, .aload_n 0, 1), (871, .iload_n 3, 1), (872, .iconst 2, 1), (873, .iadd, 1), (874, .iaload, 1), (875, .aload_n 0, 1), (876, .iload_n 3, 1), (877, .iconst 3, 1), (878, .iadd, 1), (879, .iaload, 1), (880, .invokevirtual 111, 3), (883, .if_icmp .eq 5, 3), (886, .iconst 0, 1), (887, .ireturn, 1), (888, .iinc 3 6, 3), (891, .goto (-873), 3), (894, .iconst 1, 1), (895, .ireturn, 1)]
theorem dx_L_law_15 : ∀ p ∈ dt_L_law_15, decode code p.1 = .ok p.2 := by decide +kernel
theorem d_L_law_15 {k pc : Nat} {i : Instr} {n : Nat} (h : dt_L_law_15[k]? = some (pc, i, n)) : decode mi_L_law.2.1 pc = .ok (i, n) := dx_L_law_15 (pc, i, n) (List.mem_of_getElem? h)
def q_L_law_888 (L : Nat) (xs : Nat → Int32) (r18 : Option Nat → Option Nat → Int32 → mM → Option (Int32 × mM)) (t1 : Option Nat) (t2 : Option Nat) (i3 : Int32) (M : mM) : Option (Int32 × mM) :=
    r18 t1 t2 (i3 + 6) M
set_option maxRecDepth 20000 in
theorem v_L_law_888 {E : mE} (r18 : Option Nat → Option Nat → Int32 → mM → Option (Int32 × mM)) (h18 : ∀ (t1 : Option Nat) (t2 : Option Nat) (i3 : Int32) (M : mM), mVr E mi_L_law 14 18 [some (.inr (some 0)), some (.inr t1), some (.inr t2), some (.inl i3)] [] M enI (r18 t1 t2 i3 M)) (t1 : Option Nat) (t2 : Option Nat) (i3 : Int32) (M : mM) : mVr E mi_L_law 14 888 [some (.inr (some 0)), some (.inr t1), some (.inr t2), some (.inl i3)] [] M enI (q_L_law_888 (eL E) (eX E) r18 t1 t2 i3 M) := by
  unfold q_L_law_888
  refine m_inc (v := 6) (ls' := [some (.inr (some 0)), some (.inr t1), some (.inr t2), some (.inl (i3 + 6))]) (d_L_law_15 (k := 34) rfl) rfl (by decide) (by decide) rfl ?_
  refine m_goto (tgt := 18) (d_L_law_15 (k := 35) rfl) rfl ?_
  exact m_drop (mles_s (mles_s (mles_s (mles_s mles_0)))) (h18 t1 t2 (i3 + 6) M)
def q_L_law_332 (L : Nat) (xs : Nat → Int32) (r18 : Option Nat → Option Nat → Int32 → mM → Option (Int32 × mM)) (t1 : Option Nat) (t2 : Option Nat) (i3 : Int32) (j0 : Int32) (j1 : Int32) (j2 : Int32) (u3 : Option Nat) (j4 : Int32) (M : mM) : Option (Int32 × mM) :=
    x_cv M 10 u3 (q_M_hears u3 j2 j1 j0 M) fun x1 M =>
    if j4 = x1 then
      q_L_law_888 L xs r18 t1 t2 i3 M
    else
      x_rz (0 : Int32) M
set_option maxRecDepth 20000 in
theorem v_L_law_332 {E : mE} (r18 : Option Nat → Option Nat → Int32 → mM → Option (Int32 × mM)) (h18 : ∀ (t1 : Option Nat) (t2 : Option Nat) (i3 : Int32) (M : mM), mVr E mi_L_law 14 18 [some (.inr (some 0)), some (.inr t1), some (.inr t2), some (.inl i3)] [] M enI (r18 t1 t2 i3 M)) (t1 : Option Nat) (t2 : Option Nat) (i3 : Int32) (j0 : Int32) (j1 : Int32) (j2 : Int32) (u3 : Option Nat) (j4 : Int32) (M : mM) : mVr E mi_L_law 14 332 [some (.inr (some 0)), some (.inr t1), some (.inr t2), some (.inl i3)] [.inl j0, .inl j1, .inl j2, .inr u3, .inl j4] M enI (q_L_law_332 (eL E) (eX E) r18 t1 t2 i3 j0 j1 j2 u3 j4 M) := by
  unfold q_L_law_332
  refine m_cvI (c := 10) (vs := [.inl j2, .inl j1, .inl j0]) (st := [.inl j4]) (d_L_law_4 (k := 18) rfl) (s_M_hears u3 j2 j1 j0 M) cd_M_hears ml_L_41 im_M_hears se_M_hears rfl (by decide) rfl (Nat.le_of_ble_eq_true rfl) (fun x1 M => ?_)
  refine m_icmp_eq (tgt := 888) (d_L_law_4 (k := 19) rfl) rfl ?_ ?_
  · exact m_drop (mles_s (mles_s (mles_s (mles_s mles_0)))) (v_L_law_888 r18 h18 t1 t2 i3 M)
  · refine m_iconst (v := 0) (d_L_law_4 (k := 20) rfl) (by decide) ?_
    exact m_zret (d_L_law_4 (k := 21) rfl) rfl
def q_L_law_305 (L : Nat) (xs : Nat → Int32) (r18 : Option Nat → Option Nat → Int32 → mM → Option (Int32 × mM)) (t1 : Option Nat) (t2 : Option Nat) (i3 : Int32) (j0 : Int32) (j1 : Int32) (j2 : Int32) (u3 : Option Nat) (M : mM) : Option (Int32 × mM) :=
    x_cv M 9 u3 (q_C_hears u3 j2 j1 j0 M) fun x1 M =>
    x_xI L xs (i3 + (1 : Int32)) fun x2 =>
    x_xI L xs (i3 + (2 : Int32)) fun x3 =>
    x_xI L xs (i3 + (3 : Int32)) fun x4 =>
    if x4 = 0 then
      q_L_law_332 L xs r18 t1 t2 i3 (0 : Int32) x3 x2 t2 x1 M
    else
      q_L_law_332 L xs r18 t1 t2 i3 (1 : Int32) x3 x2 t2 x1 M
set_option maxRecDepth 20000 in
theorem v_L_law_305 {E : mE} (r18 : Option Nat → Option Nat → Int32 → mM → Option (Int32 × mM)) (h18 : ∀ (t1 : Option Nat) (t2 : Option Nat) (i3 : Int32) (M : mM), mVr E mi_L_law 14 18 [some (.inr (some 0)), some (.inr t1), some (.inr t2), some (.inl i3)] [] M enI (r18 t1 t2 i3 M)) (t1 : Option Nat) (t2 : Option Nat) (i3 : Int32) (j0 : Int32) (j1 : Int32) (j2 : Int32) (u3 : Option Nat) (M : mM) : mVr E mi_L_law 14 305 [some (.inr (some 0)), some (.inr t1), some (.inr t2), some (.inl i3)] [.inl j0, .inl j1, .inl j2, .inr u3] M enI (q_L_law_305 (eL E) (eX E) r18 t1 t2 i3 j0 j1 j2 u3 M) := by
  unfold q_L_law_305
  refine m_cvI (c := 9) (vs := [.inl j2, .inl j1, .inl j0]) (st := []) (d_L_law_3 (k := 37) rfl) (s_C_hears u3 j2 j1 j0 M) cd_C_hears ml_L_37 im_C_hears se_C_hears rfl (by decide) rfl (Nat.le_of_ble_eq_true rfl) (fun x1 M => ?_)
  refine m_aload_n (d_L_law_3 (k := 38) rfl) rfl ?_
  refine m_aload_n (d_L_law_3 (k := 39) rfl) rfl ?_
  refine m_iload_n (d_L_law_4 (k := 0) rfl) rfl ?_
  refine m_iconst (v := 1) (d_L_law_4 (k := 1) rfl) (by decide) ?_
  refine m_iadd (d_L_law_4 (k := 2) rfl) ?_
  refine m_xld (d_L_law_4 (k := 3) rfl) (fun x2 => ?_)
  refine m_aload_n (d_L_law_4 (k := 4) rfl) rfl ?_
  refine m_iload_n (d_L_law_4 (k := 5) rfl) rfl ?_
  refine m_iconst (v := 2) (d_L_law_4 (k := 6) rfl) (by decide) ?_
  refine m_iadd (d_L_law_4 (k := 7) rfl) ?_
  refine m_xld (d_L_law_4 (k := 8) rfl) (fun x3 => ?_)
  refine m_aload_n (d_L_law_4 (k := 9) rfl) rfl ?_
  refine m_iload_n (d_L_law_4 (k := 10) rfl) rfl ?_
  refine m_iconst (v := 3) (d_L_law_4 (k := 11) rfl) (by decide) ?_
  refine m_iadd (d_L_law_4 (k := 12) rfl) ?_
  refine m_xld (d_L_law_4 (k := 13) rfl) (fun x4 => ?_)
  refine m_if_eq (tgt := 331) (d_L_law_4 (k := 14) rfl) rfl ?_ ?_
  · refine m_iconst (v := 0) (d_L_law_4 (k := 17) rfl) (by decide) ?_
    exact m_drop (mles_s (mles_s (mles_s (mles_s mles_0)))) (v_L_law_332 r18 h18 t1 t2 i3 (0 : Int32) x3 x2 t2 x1 M)
  · refine m_iconst (v := 1) (d_L_law_4 (k := 15) rfl) (by decide) ?_
    refine m_goto (tgt := 332) (d_L_law_4 (k := 16) rfl) rfl ?_
    exact m_drop (mles_s (mles_s (mles_s (mles_s mles_0)))) (v_L_law_332 r18 h18 t1 t2 i3 (1 : Int32) x3 x2 t2 x1 M)
def q_L_law_18_b (L : Nat) (xs : Nat → Int32) (r18 : Option Nat → Option Nat → Int32 → mM → Option (Int32 × mM)) (t1 : Option Nat) (t2 : Option Nat) (i3 : Int32) (M : mM) : Option (Int32 × mM) :=
    if ((Int32.ofNat L) - (6 : Int32)) < i3 then
      x_rz (1 : Int32) M
    else
      x_xI L xs i3 fun x1 =>
      x_sw (x1 &&& (31 : Int32)) [
        ((0 : Int32), (
          x_xI L xs (i3 + (1 : Int32)) fun x2 =>
          x_xI L xs (i3 + (2 : Int32)) fun x3 =>
          x_xI L xs (i3 + (3 : Int32)) fun x4 =>
          x_xI L xs (i3 + (4 : Int32)) fun x5 =>
          x_xI L xs (i3 + (5 : Int32)) fun x6 =>
          x_cv M 9 t1 (q_C_feed t1 x2 x3 x4 x5 x6 M) fun x7 M =>
          x_xI L xs (i3 + (1 : Int32)) fun x8 =>
          x_xI L xs (i3 + (2 : Int32)) fun x9 =>
          x_xI L xs (i3 + (3 : Int32)) fun x10 =>
          x_xI L xs (i3 + (4 : Int32)) fun x11 =>
          x_xI L xs (i3 + (5 : Int32)) fun x12 =>
          x_cv M 10 t2 (q_M_feed t2 x8 x9 x10 x11 x12 M) fun x13 M =>
          if x7 = x13 then
            q_L_law_888 L xs r18 t1 t2 i3 M
          else
            x_rz (0 : Int32) M
        )),
        ((1 : Int32), (
          x_xI L xs (i3 + (1 : Int32)) fun x14 =>
          x_cv M 9 t1 (q_C_end t1 x14 M) fun x15 M =>
          x_xI L xs (i3 + (1 : Int32)) fun x16 =>
          x_cv M 10 t2 (q_M_end t2 x16 M) fun x17 M =>
          if x15 = x17 then
            q_L_law_888 L xs r18 t1 t2 i3 M
          else
            x_rz (0 : Int32) M
        )),
        ((2 : Int32), (
          x_xI L xs (i3 + (1 : Int32)) fun x18 =>
          x_cv M 9 t1 (q_C_out t1 x18 M) fun x19 M =>
          x_xI L xs (i3 + (1 : Int32)) fun x20 =>
          x_cv M 10 t2 (q_M_out t2 x20 M) fun x21 M =>
          if x19 = x21 then
            q_L_law_888 L xs r18 t1 t2 i3 M
          else
            x_rz (0 : Int32) M
        )),
        ((3 : Int32), (
          x_xI L xs (i3 + (1 : Int32)) fun x22 =>
          x_cv M 9 t1 (q_C_bits t1 x22 M) fun x23 M =>
          x_xI L xs (i3 + (1 : Int32)) fun x24 =>
          x_cv M 10 t2 (q_M_bits t2 x24 M) fun x25 M =>
          if x23 = x25 then
            q_L_law_888 L xs r18 t1 t2 i3 M
          else
            x_rz (0 : Int32) M
        )),
        ((4 : Int32), (
          x_cv M 9 t1 (q_C_unbits t1 M) fun x26 M =>
          x_cv M 10 t2 (q_M_unbits t2 M) fun x27 M =>
          if x26 = x27 then
            q_L_law_888 L xs r18 t1 t2 i3 M
          else
            x_rz (0 : Int32) M
        )),
        ((5 : Int32), (
          x_xI L xs (i3 + (1 : Int32)) fun x28 =>
          x_xI L xs (i3 + (2 : Int32)) fun x29 =>
          x_xI L xs (i3 + (3 : Int32)) fun x30 =>
          if x30 = 0 then
            q_L_law_305 L xs r18 t1 t2 i3 (0 : Int32) x29 x28 t1 M
          else
            q_L_law_305 L xs r18 t1 t2 i3 (1 : Int32) x29 x28 t1 M
        )),
        ((6 : Int32), (
          x_xI L xs (i3 + (1 : Int32)) fun x31 =>
          x_xI L xs (i3 + (2 : Int32)) fun x32 =>
          x_xI L xs (i3 + (3 : Int32)) fun x33 =>
          x_cv M 9 t1 (q_C_tune t1 x31 x32 x33 M) fun x34 M =>
          x_xI L xs (i3 + (1 : Int32)) fun x35 =>
          x_xI L xs (i3 + (2 : Int32)) fun x36 =>
          x_xI L xs (i3 + (3 : Int32)) fun x37 =>
          x_cv M 10 t2 (q_M_tune t2 x35 x36 x37 M) fun x38 M =>
          if x34 = x38 then
            q_L_law_888 L xs r18 t1 t2 i3 M
          else
            x_rz (0 : Int32) M
        )),
        ((7 : Int32), (
          x_xI L xs (i3 + (1 : Int32)) fun x39 =>
          x_cv M 9 t1 (q_C_raw t1 x39 M) fun x40 M =>
          x_xI L xs (i3 + (1 : Int32)) fun x41 =>
          x_cv M 10 t2 (q_M_raw t2 x41 M) fun x42 M =>
          if x40 = x42 then
            q_L_law_888 L xs r18 t1 t2 i3 M
          else
            x_rz (0 : Int32) M
        )),
        ((8 : Int32), (
          x_xI L xs (i3 + (1 : Int32)) fun x43 =>
          x_xI L xs (i3 + (2 : Int32)) fun x44 =>
          x_xI L xs (i3 + (3 : Int32)) fun x45 =>
          x_xI L xs (i3 + (4 : Int32)) fun x46 =>
          x_cv M 9 t1 (q_C_call t1 x43 x44 x45 x46 M) fun x47 M =>
          x_xI L xs (i3 + (1 : Int32)) fun x48 =>
          x_xI L xs (i3 + (2 : Int32)) fun x49 =>
          x_xI L xs (i3 + (3 : Int32)) fun x50 =>
          x_xI L xs (i3 + (4 : Int32)) fun x51 =>
          x_cv M 10 t2 (q_M_call t2 x48 x49 x50 x51 M) fun x52 M =>
          if x47 = x52 then
            q_L_law_888 L xs r18 t1 t2 i3 M
          else
            x_rz (0 : Int32) M
        )),
        ((9 : Int32), (
          x_xI L xs (i3 + (1 : Int32)) fun x53 =>
          x_xI L xs (i3 + (2 : Int32)) fun x54 =>
          x_cv M 9 t1 (q_C_leave t1 x53 x54 M) fun x55 M =>
          x_xI L xs (i3 + (1 : Int32)) fun x56 =>
          x_xI L xs (i3 + (2 : Int32)) fun x57 =>
          x_cv M 10 t2 (q_M_leave t2 x56 x57 M) fun x58 M =>
          if x55 = x58 then
            q_L_law_888 L xs r18 t1 t2 i3 M
          else
            x_rz (0 : Int32) M
        )),
        ((10 : Int32), (
          x_xI L xs (i3 + (1 : Int32)) fun x59 =>
          x_xI L xs (i3 + (2 : Int32)) fun x60 =>
          x_cv M 9 t1 (q_C_give t1 x59 x60 M) fun x61 M =>
          x_xI L xs (i3 + (1 : Int32)) fun x62 =>
          x_xI L xs (i3 + (2 : Int32)) fun x63 =>
          x_cv M 10 t2 (q_M_give t2 x62 x63 M) fun x64 M =>
          if x61 = x64 then
            q_L_law_888 L xs r18 t1 t2 i3 M
          else
            x_rz (0 : Int32) M
        )),
        ((11 : Int32), (
          x_xI L xs (i3 + (1 : Int32)) fun x65 =>
          x_xI L xs (i3 + (2 : Int32)) fun x66 =>
          x_xI L xs (i3 + (3 : Int32)) fun x67 =>
          x_cv M 9 t1 (q_C_read t1 x65 x66 x67 M) fun x68 M =>
          x_xI L xs (i3 + (1 : Int32)) fun x69 =>
          x_xI L xs (i3 + (2 : Int32)) fun x70 =>
          x_xI L xs (i3 + (3 : Int32)) fun x71 =>
          x_cv M 10 t2 (q_M_read t2 x69 x70 x71 M) fun x72 M =>
          if x68 = x72 then
            q_L_law_888 L xs r18 t1 t2 i3 M
          else
            x_rz (0 : Int32) M
        )),
        ((12 : Int32), (
          x_xI L xs (i3 + (1 : Int32)) fun x73 =>
          x_xI L xs (i3 + (2 : Int32)) fun x74 =>
          x_cv M 9 t1 (q_C_letter t1 x73 x74 M) fun x75 M =>
          x_xI L xs (i3 + (1 : Int32)) fun x76 =>
          x_xI L xs (i3 + (2 : Int32)) fun x77 =>
          x_cv M 10 t2 (q_M_letter2 t2 x76 x77 M) fun x78 M =>
          if x75 = x78 then
            q_L_law_888 L xs r18 t1 t2 i3 M
          else
            x_rz (0 : Int32) M
        )),
        ((13 : Int32), (
          x_xI L xs (i3 + (1 : Int32)) fun x79 =>
          x_cv M 9 t1 (q_C_take t1 x79 M) fun x80 M =>
          x_xI L xs (i3 + (1 : Int32)) fun x81 =>
          x_cv M 10 t2 (q_M_take t2 x81 M) fun x82 M =>
          if x80 = x82 then
            q_L_law_888 L xs r18 t1 t2 i3 M
          else
            x_rz (0 : Int32) M
        )),
        ((14 : Int32), (
          x_xI L xs (i3 + (1 : Int32)) fun x83 =>
          x_cv M 9 t1 (q_C_beacon t1 x83 M) fun x84 M =>
          x_xI L xs (i3 + (1 : Int32)) fun x85 =>
          x_cv M 10 t2 (q_M_beacon t2 x85 M) fun x86 M =>
          if x84 = x86 then
            q_L_law_888 L xs r18 t1 t2 i3 M
          else
            x_rz (0 : Int32) M
        )),
        ((15 : Int32), (
          x_xI L xs (i3 + (1 : Int32)) fun x87 =>
          x_cv M 9 t1 (q_C_run t1 x87 M) fun x88 M =>
          x_xI L xs (i3 + (1 : Int32)) fun x89 =>
          x_cv M 10 t2 (q_M_run t2 x89 M) fun x90 M =>
          if x88 = x90 then
            q_L_law_888 L xs r18 t1 t2 i3 M
          else
            x_rz (0 : Int32) M
        )),
        ((16 : Int32), (
          x_cv M 9 t1 (q_C_time t1 M) fun x91 M =>
          x_cv M 10 t2 (q_M_time t2 M) fun x92 M =>
          if x91 = x92 then
            q_L_law_888 L xs r18 t1 t2 i3 M
          else
            x_rz (0 : Int32) M
        )),
        ((17 : Int32), (
          x_xI L xs (i3 + (1 : Int32)) fun x93 =>
          x_xI L xs (i3 + (2 : Int32)) fun x94 =>
          x_cv M 9 t1 (q_C_station t1 x93 x94 M) fun x95 M =>
          x_xI L xs (i3 + (1 : Int32)) fun x96 =>
          x_xI L xs (i3 + (2 : Int32)) fun x97 =>
          x_cv M 10 t2 (q_M_station t2 x96 x97 M) fun x98 M =>
          if x95 = x98 then
            q_L_law_888 L xs r18 t1 t2 i3 M
          else
            x_rz (0 : Int32) M
        )),
        ((18 : Int32), (
          x_xI L xs (i3 + (1 : Int32)) fun x99 =>
          x_xI L xs (i3 + (2 : Int32)) fun x100 =>
          x_xI L xs (i3 + (3 : Int32)) fun x101 =>
          x_cv M 9 t1 (q_C_link t1 x99 x100 x101 M) fun x102 M =>
          x_xI L xs (i3 + (1 : Int32)) fun x103 =>
          x_xI L xs (i3 + (2 : Int32)) fun x104 =>
          x_xI L xs (i3 + (3 : Int32)) fun x105 =>
          x_cv M 10 t2 (q_M_link t2 x103 x104 x105 M) fun x106 M =>
          if x102 = x106 then
            q_L_law_888 L xs r18 t1 t2 i3 M
          else
            x_rz (0 : Int32) M
        )),
        ((19 : Int32), (
          x_xI L xs (i3 + (1 : Int32)) fun x107 =>
          x_xI L xs (i3 + (2 : Int32)) fun x108 =>
          x_xI L xs (i3 + (3 : Int32)) fun x109 =>
          x_xI L xs (i3 + (4 : Int32)) fun x110 =>
          x_cv M 9 t1 (q_C_route t1 x107 x108 x109 x110 M) fun x111 M =>
          x_xI L xs (i3 + (1 : Int32)) fun x112 =>
          x_xI L xs (i3 + (2 : Int32)) fun x113 =>
          x_xI L xs (i3 + (3 : Int32)) fun x114 =>
          x_xI L xs (i3 + (4 : Int32)) fun x115 =>
          x_cv M 10 t2 (q_M_route t2 x112 x113 x114 x115 M) fun x116 M =>
          if x111 = x116 then
            q_L_law_888 L xs r18 t1 t2 i3 M
          else
            x_rz (0 : Int32) M
        )),
        ((20 : Int32), (
          x_xI L xs (i3 + (1 : Int32)) fun x117 =>
          x_xI L xs (i3 + (2 : Int32)) fun x118 =>
          x_cv M 9 t1 (q_C_best t1 x117 x118 M) fun x119 M =>
          x_xI L xs (i3 + (1 : Int32)) fun x120 =>
          x_xI L xs (i3 + (2 : Int32)) fun x121 =>
          x_cv M 10 t2 (q_M_best t2 x120 x121 M) fun x122 M =>
          if x119 = x122 then
            q_L_law_888 L xs r18 t1 t2 i3 M
          else
            x_rz (0 : Int32) M
        )),
        ((21 : Int32), (
          x_xI L xs (i3 + (1 : Int32)) fun x123 =>
          x_xI L xs (i3 + (2 : Int32)) fun x124 =>
          x_xI L xs (i3 + (3 : Int32)) fun x125 =>
          x_cv M 9 t1 (q_C_queued t1 x123 x124 x125 M) fun x126 M =>
          x_xI L xs (i3 + (1 : Int32)) fun x127 =>
          x_xI L xs (i3 + (2 : Int32)) fun x128 =>
          x_xI L xs (i3 + (3 : Int32)) fun x129 =>
          x_cv M 10 t2 (q_M_queued t2 x127 x128 x129 M) fun x130 M =>
          if x126 = x130 then
            q_L_law_888 L xs r18 t1 t2 i3 M
          else
            x_rz (0 : Int32) M
        ))
      ] (
        q_L_law_888 L xs r18 t1 t2 i3 M
      )
def q_L_law_18 (L : Nat) (xs : Nat → Int32) : Nat → Option Nat → Option Nat → Int32 → mM → Option (Int32 × mM)
  | 0, _, _, _, _ => none
  | n + 1, t1, t2, i3, M => q_L_law_18_b L xs (q_L_law_18 L xs n) t1 t2 i3 M
set_option maxRecDepth 20000 in
theorem v_L_law_18_b {E : mE} (r18 : Option Nat → Option Nat → Int32 → mM → Option (Int32 × mM)) (h18 : ∀ (t1 : Option Nat) (t2 : Option Nat) (i3 : Int32) (M : mM), mVr E mi_L_law 14 18 [some (.inr (some 0)), some (.inr t1), some (.inr t2), some (.inl i3)] [] M enI (r18 t1 t2 i3 M)) (t1 : Option Nat) (t2 : Option Nat) (i3 : Int32) (M : mM) : mVr E mi_L_law 14 18 [some (.inr (some 0)), some (.inr t1), some (.inr t2), some (.inl i3)] [] M enI (q_L_law_18_b (eL E) (eX E) r18 t1 t2 i3 M) := by
  unfold q_L_law_18_b
  refine m_iload_n (d_L_law_0 (k := 10) rfl) rfl ?_
  refine m_aload_n (d_L_law_0 (k := 11) rfl) rfl ?_
  refine m_xlen (d_L_law_0 (k := 12) rfl) ?_
  refine m_bipush (v := 6) (d_L_law_0 (k := 13) rfl) (by decide) ?_
  refine m_isub (d_L_law_0 (k := 14) rfl) ?_
  refine m_icmp_gt (tgt := 894) (d_L_law_0 (k := 15) rfl) rfl ?_ ?_
  · refine m_iconst (v := 1) (d_L_law_15 (k := 36) rfl) (by decide) ?_
    exact m_zret (d_L_law_15 (k := 37) rfl) rfl
  · refine m_aload_n (d_L_law_0 (k := 16) rfl) rfl ?_
    refine m_iload_n (d_L_law_0 (k := 17) rfl) rfl ?_
    refine m_xld (d_L_law_0 (k := 18) rfl) (fun x1 => ?_)
    refine m_bipush (v := 31) (d_L_law_0 (k := 19) rfl) (by decide) ?_
    refine m_iand (d_L_law_0 (k := 20) rfl) ?_
    refine m_sw ?_ (fun hx => ?_)
    ·
      refine List.forall_mem_cons.mpr ⟨?_, ?_⟩
      · dsimp only
        refine m_tin (x := (0 : Int32)) (tgt := 136) (d_L_law_0 (k := 21) rfl) (by decide) (by decide) rfl rfl ?_
        refine m_aload_n (d_L_law_0 (k := 22) rfl) rfl ?_
        refine m_aload_n (d_L_law_0 (k := 23) rfl) rfl ?_
        refine m_iload_n (d_L_law_0 (k := 24) rfl) rfl ?_
        refine m_iconst (v := 1) (d_L_law_0 (k := 25) rfl) (by decide) ?_
        refine m_iadd (d_L_law_0 (k := 26) rfl) ?_
        refine m_xld (d_L_law_0 (k := 27) rfl) (fun x2 => ?_)
        refine m_aload_n (d_L_law_0 (k := 28) rfl) rfl ?_
        refine m_iload_n (d_L_law_0 (k := 29) rfl) rfl ?_
        refine m_iconst (v := 2) (d_L_law_0 (k := 30) rfl) (by decide) ?_
        refine m_iadd (d_L_law_0 (k := 31) rfl) ?_
        refine m_xld (d_L_law_0 (k := 32) rfl) (fun x3 => ?_)
        refine m_aload_n (d_L_law_0 (k := 33) rfl) rfl ?_
        refine m_iload_n (d_L_law_0 (k := 34) rfl) rfl ?_
        refine m_iconst (v := 3) (d_L_law_0 (k := 35) rfl) (by decide) ?_
        refine m_iadd (d_L_law_0 (k := 36) rfl) ?_
        refine m_xld (d_L_law_0 (k := 37) rfl) (fun x4 => ?_)
        refine m_aload_n (d_L_law_0 (k := 38) rfl) rfl ?_
        refine m_iload_n (d_L_law_0 (k := 39) rfl) rfl ?_
        refine m_iconst (v := 4) (d_L_law_1 (k := 0) rfl) (by decide) ?_
        refine m_iadd (d_L_law_1 (k := 1) rfl) ?_
        refine m_xld (d_L_law_1 (k := 2) rfl) (fun x5 => ?_)
        refine m_aload_n (d_L_law_1 (k := 3) rfl) rfl ?_
        refine m_iload_n (d_L_law_1 (k := 4) rfl) rfl ?_
        refine m_iconst (v := 5) (d_L_law_1 (k := 5) rfl) (by decide) ?_
        refine m_iadd (d_L_law_1 (k := 6) rfl) ?_
        refine m_xld (d_L_law_1 (k := 7) rfl) (fun x6 => ?_)
        refine m_cvI (c := 9) (vs := [.inl x2, .inl x3, .inl x4, .inl x5, .inl x6]) (st := []) (d_L_law_1 (k := 8) rfl) (s_C_feed t1 x2 x3 x4 x5 x6 M) cd_C_feed ml_L_13 im_C_feed se_C_feed rfl (by decide) rfl (Nat.le_of_ble_eq_true rfl) (fun x7 M => ?_)
        refine m_aload_n (d_L_law_1 (k := 9) rfl) rfl ?_
        refine m_aload_n (d_L_law_1 (k := 10) rfl) rfl ?_
        refine m_iload_n (d_L_law_1 (k := 11) rfl) rfl ?_
        refine m_iconst (v := 1) (d_L_law_1 (k := 12) rfl) (by decide) ?_
        refine m_iadd (d_L_law_1 (k := 13) rfl) ?_
        refine m_xld (d_L_law_1 (k := 14) rfl) (fun x8 => ?_)
        refine m_aload_n (d_L_law_1 (k := 15) rfl) rfl ?_
        refine m_iload_n (d_L_law_1 (k := 16) rfl) rfl ?_
        refine m_iconst (v := 2) (d_L_law_1 (k := 17) rfl) (by decide) ?_
        refine m_iadd (d_L_law_1 (k := 18) rfl) ?_
        refine m_xld (d_L_law_1 (k := 19) rfl) (fun x9 => ?_)
        refine m_aload_n (d_L_law_1 (k := 20) rfl) rfl ?_
        refine m_iload_n (d_L_law_1 (k := 21) rfl) rfl ?_
        refine m_iconst (v := 3) (d_L_law_1 (k := 22) rfl) (by decide) ?_
        refine m_iadd (d_L_law_1 (k := 23) rfl) ?_
        refine m_xld (d_L_law_1 (k := 24) rfl) (fun x10 => ?_)
        refine m_aload_n (d_L_law_1 (k := 25) rfl) rfl ?_
        refine m_iload_n (d_L_law_1 (k := 26) rfl) rfl ?_
        refine m_iconst (v := 4) (d_L_law_1 (k := 27) rfl) (by decide) ?_
        refine m_iadd (d_L_law_1 (k := 28) rfl) ?_
        refine m_xld (d_L_law_1 (k := 29) rfl) (fun x11 => ?_)
        refine m_aload_n (d_L_law_1 (k := 30) rfl) rfl ?_
        refine m_iload_n (d_L_law_1 (k := 31) rfl) rfl ?_
        refine m_iconst (v := 5) (d_L_law_1 (k := 32) rfl) (by decide) ?_
        refine m_iadd (d_L_law_1 (k := 33) rfl) ?_
        refine m_xld (d_L_law_1 (k := 34) rfl) (fun x12 => ?_)
        refine m_cvI (c := 10) (vs := [.inl x8, .inl x9, .inl x10, .inl x11, .inl x12]) (st := [.inl x7]) (d_L_law_1 (k := 35) rfl) (s_M_feed t2 x8 x9 x10 x11 x12 M) cd_M_feed ml_L_17 im_M_feed se_M_feed rfl (by decide) rfl (Nat.le_of_ble_eq_true rfl) (fun x13 M => ?_)
        refine m_icmp_eq (tgt := 888) (d_L_law_1 (k := 36) rfl) rfl ?_ ?_
        · exact m_drop (mles_s (mles_s (mles_s (mles_s mles_0)))) (v_L_law_888 r18 h18 t1 t2 i3 M)
        · refine m_iconst (v := 0) (d_L_law_1 (k := 37) rfl) (by decide) ?_
          exact m_zret (d_L_law_1 (k := 38) rfl) rfl
      refine List.forall_mem_cons.mpr ⟨?_, ?_⟩
      · dsimp only
        refine m_tin (x := (1 : Int32)) (tgt := 199) (d_L_law_0 (k := 21) rfl) (by decide) (by decide) rfl rfl ?_
        refine m_aload_n (d_L_law_1 (k := 39) rfl) rfl ?_
        refine m_aload_n (d_L_law_2 (k := 0) rfl) rfl ?_
        refine m_iload_n (d_L_law_2 (k := 1) rfl) rfl ?_
        refine m_iconst (v := 1) (d_L_law_2 (k := 2) rfl) (by decide) ?_
        refine m_iadd (d_L_law_2 (k := 3) rfl) ?_
        refine m_xld (d_L_law_2 (k := 4) rfl) (fun x14 => ?_)
        refine m_cvI (c := 9) (vs := [.inl x14]) (st := []) (d_L_law_2 (k := 5) rfl) (s_C_end t1 x14 M) cd_C_end ml_L_18 im_C_end se_C_end rfl (by decide) rfl (Nat.le_of_ble_eq_true rfl) (fun x15 M => ?_)
        refine m_aload_n (d_L_law_2 (k := 6) rfl) rfl ?_
        refine m_aload_n (d_L_law_2 (k := 7) rfl) rfl ?_
        refine m_iload_n (d_L_law_2 (k := 8) rfl) rfl ?_
        refine m_iconst (v := 1) (d_L_law_2 (k := 9) rfl) (by decide) ?_
        refine m_iadd (d_L_law_2 (k := 10) rfl) ?_
        refine m_xld (d_L_law_2 (k := 11) rfl) (fun x16 => ?_)
        refine m_cvI (c := 10) (vs := [.inl x16]) (st := [.inl x15]) (d_L_law_2 (k := 12) rfl) (s_M_end t2 x16 M) cd_M_end ml_L_22 im_M_end se_M_end rfl (by decide) rfl (Nat.le_of_ble_eq_true rfl) (fun x17 M => ?_)
        refine m_icmp_eq (tgt := 888) (d_L_law_2 (k := 13) rfl) rfl ?_ ?_
        · exact m_drop (mles_s (mles_s (mles_s (mles_s mles_0)))) (v_L_law_888 r18 h18 t1 t2 i3 M)
        · refine m_iconst (v := 0) (d_L_law_2 (k := 14) rfl) (by decide) ?_
          exact m_zret (d_L_law_2 (k := 15) rfl) rfl
      refine List.forall_mem_cons.mpr ⟨?_, ?_⟩
      · dsimp only
        refine m_tin (x := (2 : Int32)) (tgt := 222) (d_L_law_0 (k := 21) rfl) (by decide) (by decide) rfl rfl ?_
        refine m_aload_n (d_L_law_2 (k := 16) rfl) rfl ?_
        refine m_aload_n (d_L_law_2 (k := 17) rfl) rfl ?_
        refine m_iload_n (d_L_law_2 (k := 18) rfl) rfl ?_
        refine m_iconst (v := 1) (d_L_law_2 (k := 19) rfl) (by decide) ?_
        refine m_iadd (d_L_law_2 (k := 20) rfl) ?_
        refine m_xld (d_L_law_2 (k := 21) rfl) (fun x18 => ?_)
        refine m_cvI (c := 9) (vs := [.inl x18]) (st := []) (d_L_law_2 (k := 22) rfl) (s_C_out t1 x18 M) cd_C_out ml_L_23 im_C_out se_C_out rfl (by decide) rfl (Nat.le_of_ble_eq_true rfl) (fun x19 M => ?_)
        refine m_aload_n (d_L_law_2 (k := 23) rfl) rfl ?_
        refine m_aload_n (d_L_law_2 (k := 24) rfl) rfl ?_
        refine m_iload_n (d_L_law_2 (k := 25) rfl) rfl ?_
        refine m_iconst (v := 1) (d_L_law_2 (k := 26) rfl) (by decide) ?_
        refine m_iadd (d_L_law_2 (k := 27) rfl) ?_
        refine m_xld (d_L_law_2 (k := 28) rfl) (fun x20 => ?_)
        refine m_cvI (c := 10) (vs := [.inl x20]) (st := [.inl x19]) (d_L_law_2 (k := 29) rfl) (s_M_out t2 x20 M) cd_M_out ml_L_27 im_M_out se_M_out rfl (by decide) rfl (Nat.le_of_ble_eq_true rfl) (fun x21 M => ?_)
        refine m_icmp_eq (tgt := 888) (d_L_law_2 (k := 30) rfl) rfl ?_ ?_
        · exact m_drop (mles_s (mles_s (mles_s (mles_s mles_0)))) (v_L_law_888 r18 h18 t1 t2 i3 M)
        · refine m_iconst (v := 0) (d_L_law_2 (k := 31) rfl) (by decide) ?_
          exact m_zret (d_L_law_2 (k := 32) rfl) rfl
      refine List.forall_mem_cons.mpr ⟨?_, ?_⟩
      · dsimp only
        refine m_tin (x := (3 : Int32)) (tgt := 245) (d_L_law_0 (k := 21) rfl) (by decide) (by decide) rfl rfl ?_
        refine m_aload_n (d_L_law_2 (k := 33) rfl) rfl ?_
        refine m_aload_n (d_L_law_2 (k := 34) rfl) rfl ?_
        refine m_iload_n (d_L_law_2 (k := 35) rfl) rfl ?_
        refine m_iconst (v := 1) (d_L_law_2 (k := 36) rfl) (by decide) ?_
        refine m_iadd (d_L_law_2 (k := 37) rfl) ?_
        refine m_xld (d_L_law_2 (k := 38) rfl) (fun x22 => ?_)
        refine m_cvI (c := 9) (vs := [.inl x22]) (st := []) (d_L_law_2 (k := 39) rfl) (s_C_bits t1 x22 M) cd_C_bits ml_L_28 im_C_bits se_C_bits rfl (by decide) rfl (Nat.le_of_ble_eq_true rfl) (fun x23 M => ?_)
        refine m_aload_n (d_L_law_3 (k := 0) rfl) rfl ?_
        refine m_aload_n (d_L_law_3 (k := 1) rfl) rfl ?_
        refine m_iload_n (d_L_law_3 (k := 2) rfl) rfl ?_
        refine m_iconst (v := 1) (d_L_law_3 (k := 3) rfl) (by decide) ?_
        refine m_iadd (d_L_law_3 (k := 4) rfl) ?_
        refine m_xld (d_L_law_3 (k := 5) rfl) (fun x24 => ?_)
        refine m_cvI (c := 10) (vs := [.inl x24]) (st := [.inl x23]) (d_L_law_3 (k := 6) rfl) (s_M_bits t2 x24 M) cd_M_bits ml_L_31 im_M_bits se_M_bits rfl (by decide) rfl (Nat.le_of_ble_eq_true rfl) (fun x25 M => ?_)
        refine m_icmp_eq (tgt := 888) (d_L_law_3 (k := 7) rfl) rfl ?_ ?_
        · exact m_drop (mles_s (mles_s (mles_s (mles_s mles_0)))) (v_L_law_888 r18 h18 t1 t2 i3 M)
        · refine m_iconst (v := 0) (d_L_law_3 (k := 8) rfl) (by decide) ?_
          exact m_zret (d_L_law_3 (k := 9) rfl) rfl
      refine List.forall_mem_cons.mpr ⟨?_, ?_⟩
      · dsimp only
        refine m_tin (x := (4 : Int32)) (tgt := 268) (d_L_law_0 (k := 21) rfl) (by decide) (by decide) rfl rfl ?_
        refine m_aload_n (d_L_law_3 (k := 10) rfl) rfl ?_
        refine m_cvI (c := 9) (vs := []) (st := []) (d_L_law_3 (k := 11) rfl) (s_C_unbits t1 M) cd_C_unbits ml_L_32 im_C_unbits se_C_unbits rfl (by decide) rfl (Nat.le_of_ble_eq_true rfl) (fun x26 M => ?_)
        refine m_aload_n (d_L_law_3 (k := 12) rfl) rfl ?_
        refine m_cvI (c := 10) (vs := []) (st := [.inl x26]) (d_L_law_3 (k := 13) rfl) (s_M_unbits t2 M) cd_M_unbits ml_L_36 im_M_unbits se_M_unbits rfl (by decide) rfl (Nat.le_of_ble_eq_true rfl) (fun x27 M => ?_)
        refine m_icmp_eq (tgt := 888) (d_L_law_3 (k := 14) rfl) rfl ?_ ?_
        · exact m_drop (mles_s (mles_s (mles_s (mles_s mles_0)))) (v_L_law_888 r18 h18 t1 t2 i3 M)
        · refine m_iconst (v := 0) (d_L_law_3 (k := 15) rfl) (by decide) ?_
          exact m_zret (d_L_law_3 (k := 16) rfl) rfl
      refine List.forall_mem_cons.mpr ⟨?_, ?_⟩
      · dsimp only
        refine m_tin (x := (5 : Int32)) (tgt := 281) (d_L_law_0 (k := 21) rfl) (by decide) (by decide) rfl rfl ?_
        refine m_aload_n (d_L_law_3 (k := 17) rfl) rfl ?_
        refine m_aload_n (d_L_law_3 (k := 18) rfl) rfl ?_
        refine m_iload_n (d_L_law_3 (k := 19) rfl) rfl ?_
        refine m_iconst (v := 1) (d_L_law_3 (k := 20) rfl) (by decide) ?_
        refine m_iadd (d_L_law_3 (k := 21) rfl) ?_
        refine m_xld (d_L_law_3 (k := 22) rfl) (fun x28 => ?_)
        refine m_aload_n (d_L_law_3 (k := 23) rfl) rfl ?_
        refine m_iload_n (d_L_law_3 (k := 24) rfl) rfl ?_
        refine m_iconst (v := 2) (d_L_law_3 (k := 25) rfl) (by decide) ?_
        refine m_iadd (d_L_law_3 (k := 26) rfl) ?_
        refine m_xld (d_L_law_3 (k := 27) rfl) (fun x29 => ?_)
        refine m_aload_n (d_L_law_3 (k := 28) rfl) rfl ?_
        refine m_iload_n (d_L_law_3 (k := 29) rfl) rfl ?_
        refine m_iconst (v := 3) (d_L_law_3 (k := 30) rfl) (by decide) ?_
        refine m_iadd (d_L_law_3 (k := 31) rfl) ?_
        refine m_xld (d_L_law_3 (k := 32) rfl) (fun x30 => ?_)
        refine m_if_eq (tgt := 304) (d_L_law_3 (k := 33) rfl) rfl ?_ ?_
        · refine m_iconst (v := 0) (d_L_law_3 (k := 36) rfl) (by decide) ?_
          exact m_drop (mles_s (mles_s (mles_s (mles_s mles_0)))) (v_L_law_305 r18 h18 t1 t2 i3 (0 : Int32) x29 x28 t1 M)
        · refine m_iconst (v := 1) (d_L_law_3 (k := 34) rfl) (by decide) ?_
          refine m_goto (tgt := 305) (d_L_law_3 (k := 35) rfl) rfl ?_
          exact m_drop (mles_s (mles_s (mles_s (mles_s mles_0)))) (v_L_law_305 r18 h18 t1 t2 i3 (1 : Int32) x29 x28 t1 M)
      refine List.forall_mem_cons.mpr ⟨?_, ?_⟩
      · dsimp only
        refine m_tin (x := (6 : Int32)) (tgt := 340) (d_L_law_0 (k := 21) rfl) (by decide) (by decide) rfl rfl ?_
        refine m_aload_n (d_L_law_4 (k := 22) rfl) rfl ?_
        refine m_aload_n (d_L_law_4 (k := 23) rfl) rfl ?_
        refine m_iload_n (d_L_law_4 (k := 24) rfl) rfl ?_
        refine m_iconst (v := 1) (d_L_law_4 (k := 25) rfl) (by decide) ?_
        refine m_iadd (d_L_law_4 (k := 26) rfl) ?_
        refine m_xld (d_L_law_4 (k := 27) rfl) (fun x31 => ?_)
        refine m_aload_n (d_L_law_4 (k := 28) rfl) rfl ?_
        refine m_iload_n (d_L_law_4 (k := 29) rfl) rfl ?_
        refine m_iconst (v := 2) (d_L_law_4 (k := 30) rfl) (by decide) ?_
        refine m_iadd (d_L_law_4 (k := 31) rfl) ?_
        refine m_xld (d_L_law_4 (k := 32) rfl) (fun x32 => ?_)
        refine m_aload_n (d_L_law_4 (k := 33) rfl) rfl ?_
        refine m_iload_n (d_L_law_4 (k := 34) rfl) rfl ?_
        refine m_iconst (v := 3) (d_L_law_4 (k := 35) rfl) (by decide) ?_
        refine m_iadd (d_L_law_4 (k := 36) rfl) ?_
        refine m_xld (d_L_law_4 (k := 37) rfl) (fun x33 => ?_)
        refine m_cvI (c := 9) (vs := [.inl x31, .inl x32, .inl x33]) (st := []) (d_L_law_4 (k := 38) rfl) (s_C_tune t1 x31 x32 x33 M) cd_C_tune ml_L_42 im_C_tune se_C_tune rfl (by decide) rfl (Nat.le_of_ble_eq_true rfl) (fun x34 M => ?_)
        refine m_aload_n (d_L_law_4 (k := 39) rfl) rfl ?_
        refine m_aload_n (d_L_law_5 (k := 0) rfl) rfl ?_
        refine m_iload_n (d_L_law_5 (k := 1) rfl) rfl ?_
        refine m_iconst (v := 1) (d_L_law_5 (k := 2) rfl) (by decide) ?_
        refine m_iadd (d_L_law_5 (k := 3) rfl) ?_
        refine m_xld (d_L_law_5 (k := 4) rfl) (fun x35 => ?_)
        refine m_aload_n (d_L_law_5 (k := 5) rfl) rfl ?_
        refine m_iload_n (d_L_law_5 (k := 6) rfl) rfl ?_
        refine m_iconst (v := 2) (d_L_law_5 (k := 7) rfl) (by decide) ?_
        refine m_iadd (d_L_law_5 (k := 8) rfl) ?_
        refine m_xld (d_L_law_5 (k := 9) rfl) (fun x36 => ?_)
        refine m_aload_n (d_L_law_5 (k := 10) rfl) rfl ?_
        refine m_iload_n (d_L_law_5 (k := 11) rfl) rfl ?_
        refine m_iconst (v := 3) (d_L_law_5 (k := 12) rfl) (by decide) ?_
        refine m_iadd (d_L_law_5 (k := 13) rfl) ?_
        refine m_xld (d_L_law_5 (k := 14) rfl) (fun x37 => ?_)
        refine m_cvI (c := 10) (vs := [.inl x35, .inl x36, .inl x37]) (st := [.inl x34]) (d_L_law_5 (k := 15) rfl) (s_M_tune t2 x35 x36 x37 M) cd_M_tune ml_L_46 im_M_tune se_M_tune rfl (by decide) rfl (Nat.le_of_ble_eq_true rfl) (fun x38 M => ?_)
        refine m_icmp_eq (tgt := 888) (d_L_law_5 (k := 16) rfl) rfl ?_ ?_
        · exact m_drop (mles_s (mles_s (mles_s (mles_s mles_0)))) (v_L_law_888 r18 h18 t1 t2 i3 M)
        · refine m_iconst (v := 0) (d_L_law_5 (k := 17) rfl) (by decide) ?_
          exact m_zret (d_L_law_5 (k := 18) rfl) rfl
      refine List.forall_mem_cons.mpr ⟨?_, ?_⟩
      · dsimp only
        refine m_tin (x := (7 : Int32)) (tgt := 383) (d_L_law_0 (k := 21) rfl) (by decide) (by decide) rfl rfl ?_
        refine m_aload_n (d_L_law_5 (k := 19) rfl) rfl ?_
        refine m_aload_n (d_L_law_5 (k := 20) rfl) rfl ?_
        refine m_iload_n (d_L_law_5 (k := 21) rfl) rfl ?_
        refine m_iconst (v := 1) (d_L_law_5 (k := 22) rfl) (by decide) ?_
        refine m_iadd (d_L_law_5 (k := 23) rfl) ?_
        refine m_xld (d_L_law_5 (k := 24) rfl) (fun x39 => ?_)
        refine m_cvI (c := 9) (vs := [.inl x39]) (st := []) (d_L_law_5 (k := 25) rfl) (s_C_raw t1 x39 M) cd_C_raw ml_L_47 im_C_raw se_C_raw rfl (by decide) rfl (Nat.le_of_ble_eq_true rfl) (fun x40 M => ?_)
        refine m_aload_n (d_L_law_5 (k := 26) rfl) rfl ?_
        refine m_aload_n (d_L_law_5 (k := 27) rfl) rfl ?_
        refine m_iload_n (d_L_law_5 (k := 28) rfl) rfl ?_
        refine m_iconst (v := 1) (d_L_law_5 (k := 29) rfl) (by decide) ?_
        refine m_iadd (d_L_law_5 (k := 30) rfl) ?_
        refine m_xld (d_L_law_5 (k := 31) rfl) (fun x41 => ?_)
        refine m_cvI (c := 10) (vs := [.inl x41]) (st := [.inl x40]) (d_L_law_5 (k := 32) rfl) (s_M_raw t2 x41 M) cd_M_raw ml_L_50 im_M_raw se_M_raw rfl (by decide) rfl (Nat.le_of_ble_eq_true rfl) (fun x42 M => ?_)
        refine m_icmp_eq (tgt := 888) (d_L_law_5 (k := 33) rfl) rfl ?_ ?_
        · exact m_drop (mles_s (mles_s (mles_s (mles_s mles_0)))) (v_L_law_888 r18 h18 t1 t2 i3 M)
        · refine m_iconst (v := 0) (d_L_law_5 (k := 34) rfl) (by decide) ?_
          exact m_zret (d_L_law_5 (k := 35) rfl) rfl
      refine List.forall_mem_cons.mpr ⟨?_, ?_⟩
      · dsimp only
        refine m_tin (x := (8 : Int32)) (tgt := 406) (d_L_law_0 (k := 21) rfl) (by decide) (by decide) rfl rfl ?_
        refine m_aload_n (d_L_law_5 (k := 36) rfl) rfl ?_
        refine m_aload_n (d_L_law_5 (k := 37) rfl) rfl ?_
        refine m_iload_n (d_L_law_5 (k := 38) rfl) rfl ?_
        refine m_iconst (v := 1) (d_L_law_5 (k := 39) rfl) (by decide) ?_
        refine m_iadd (d_L_law_6 (k := 0) rfl) ?_
        refine m_xld (d_L_law_6 (k := 1) rfl) (fun x43 => ?_)
        refine m_aload_n (d_L_law_6 (k := 2) rfl) rfl ?_
        refine m_iload_n (d_L_law_6 (k := 3) rfl) rfl ?_
        refine m_iconst (v := 2) (d_L_law_6 (k := 4) rfl) (by decide) ?_
        refine m_iadd (d_L_law_6 (k := 5) rfl) ?_
        refine m_xld (d_L_law_6 (k := 6) rfl) (fun x44 => ?_)
        refine m_aload_n (d_L_law_6 (k := 7) rfl) rfl ?_
        refine m_iload_n (d_L_law_6 (k := 8) rfl) rfl ?_
        refine m_iconst (v := 3) (d_L_law_6 (k := 9) rfl) (by decide) ?_
        refine m_iadd (d_L_law_6 (k := 10) rfl) ?_
        refine m_xld (d_L_law_6 (k := 11) rfl) (fun x45 => ?_)
        refine m_aload_n (d_L_law_6 (k := 12) rfl) rfl ?_
        refine m_iload_n (d_L_law_6 (k := 13) rfl) rfl ?_
        refine m_iconst (v := 4) (d_L_law_6 (k := 14) rfl) (by decide) ?_
        refine m_iadd (d_L_law_6 (k := 15) rfl) ?_
        refine m_xld (d_L_law_6 (k := 16) rfl) (fun x46 => ?_)
        refine m_cvI (c := 9) (vs := [.inl x43, .inl x44, .inl x45, .inl x46]) (st := []) (d_L_law_6 (k := 17) rfl) (s_C_call t1 x43 x44 x45 x46 M) cd_C_call ml_L_51 im_C_call se_C_call rfl (by decide) rfl (Nat.le_of_ble_eq_true rfl) (fun x47 M => ?_)
        refine m_aload_n (d_L_law_6 (k := 18) rfl) rfl ?_
        refine m_aload_n (d_L_law_6 (k := 19) rfl) rfl ?_
        refine m_iload_n (d_L_law_6 (k := 20) rfl) rfl ?_
        refine m_iconst (v := 1) (d_L_law_6 (k := 21) rfl) (by decide) ?_
        refine m_iadd (d_L_law_6 (k := 22) rfl) ?_
        refine m_xld (d_L_law_6 (k := 23) rfl) (fun x48 => ?_)
        refine m_aload_n (d_L_law_6 (k := 24) rfl) rfl ?_
        refine m_iload_n (d_L_law_6 (k := 25) rfl) rfl ?_
        refine m_iconst (v := 2) (d_L_law_6 (k := 26) rfl) (by decide) ?_
        refine m_iadd (d_L_law_6 (k := 27) rfl) ?_
        refine m_xld (d_L_law_6 (k := 28) rfl) (fun x49 => ?_)
        refine m_aload_n (d_L_law_6 (k := 29) rfl) rfl ?_
        refine m_iload_n (d_L_law_6 (k := 30) rfl) rfl ?_
        refine m_iconst (v := 3) (d_L_law_6 (k := 31) rfl) (by decide) ?_
        refine m_iadd (d_L_law_6 (k := 32) rfl) ?_
        refine m_xld (d_L_law_6 (k := 33) rfl) (fun x50 => ?_)
        refine m_aload_n (d_L_law_6 (k := 34) rfl) rfl ?_
        refine m_iload_n (d_L_law_6 (k := 35) rfl) rfl ?_
        refine m_iconst (v := 4) (d_L_law_6 (k := 36) rfl) (by decide) ?_
        refine m_iadd (d_L_law_6 (k := 37) rfl) ?_
        refine m_xld (d_L_law_6 (k := 38) rfl) (fun x51 => ?_)
        refine m_cvI (c := 10) (vs := [.inl x48, .inl x49, .inl x50, .inl x51]) (st := [.inl x47]) (d_L_law_6 (k := 39) rfl) (s_M_call t2 x48 x49 x50 x51 M) cd_M_call ml_L_55 im_M_call se_M_call rfl (by decide) rfl (Nat.le_of_ble_eq_true rfl) (fun x52 M => ?_)
        refine m_icmp_eq (tgt := 888) (d_L_law_7 (k := 0) rfl) rfl ?_ ?_
        · exact m_drop (mles_s (mles_s (mles_s (mles_s mles_0)))) (v_L_law_888 r18 h18 t1 t2 i3 M)
        · refine m_iconst (v := 0) (d_L_law_7 (k := 1) rfl) (by decide) ?_
          exact m_zret (d_L_law_7 (k := 2) rfl) rfl
      refine List.forall_mem_cons.mpr ⟨?_, ?_⟩
      · dsimp only
        refine m_tin (x := (9 : Int32)) (tgt := 459) (d_L_law_0 (k := 21) rfl) (by decide) (by decide) rfl rfl ?_
        refine m_aload_n (d_L_law_7 (k := 3) rfl) rfl ?_
        refine m_aload_n (d_L_law_7 (k := 4) rfl) rfl ?_
        refine m_iload_n (d_L_law_7 (k := 5) rfl) rfl ?_
        refine m_iconst (v := 1) (d_L_law_7 (k := 6) rfl) (by decide) ?_
        refine m_iadd (d_L_law_7 (k := 7) rfl) ?_
        refine m_xld (d_L_law_7 (k := 8) rfl) (fun x53 => ?_)
        refine m_aload_n (d_L_law_7 (k := 9) rfl) rfl ?_
        refine m_iload_n (d_L_law_7 (k := 10) rfl) rfl ?_
        refine m_iconst (v := 2) (d_L_law_7 (k := 11) rfl) (by decide) ?_
        refine m_iadd (d_L_law_7 (k := 12) rfl) ?_
        refine m_xld (d_L_law_7 (k := 13) rfl) (fun x54 => ?_)
        refine m_cvI (c := 9) (vs := [.inl x53, .inl x54]) (st := []) (d_L_law_7 (k := 14) rfl) (s_C_leave t1 x53 x54 M) cd_C_leave ml_L_56 im_C_leave se_C_leave rfl (by decide) rfl (Nat.le_of_ble_eq_true rfl) (fun x55 M => ?_)
        refine m_aload_n (d_L_law_7 (k := 15) rfl) rfl ?_
        refine m_aload_n (d_L_law_7 (k := 16) rfl) rfl ?_
        refine m_iload_n (d_L_law_7 (k := 17) rfl) rfl ?_
        refine m_iconst (v := 1) (d_L_law_7 (k := 18) rfl) (by decide) ?_
        refine m_iadd (d_L_law_7 (k := 19) rfl) ?_
        refine m_xld (d_L_law_7 (k := 20) rfl) (fun x56 => ?_)
        refine m_aload_n (d_L_law_7 (k := 21) rfl) rfl ?_
        refine m_iload_n (d_L_law_7 (k := 22) rfl) rfl ?_
        refine m_iconst (v := 2) (d_L_law_7 (k := 23) rfl) (by decide) ?_
        refine m_iadd (d_L_law_7 (k := 24) rfl) ?_
        refine m_xld (d_L_law_7 (k := 25) rfl) (fun x57 => ?_)
        refine m_cvI (c := 10) (vs := [.inl x56, .inl x57]) (st := [.inl x55]) (d_L_law_7 (k := 26) rfl) (s_M_leave t2 x56 x57 M) cd_M_leave ml_L_60 im_M_leave se_M_leave rfl (by decide) rfl (Nat.le_of_ble_eq_true rfl) (fun x58 M => ?_)
        refine m_icmp_eq (tgt := 888) (d_L_law_7 (k := 27) rfl) rfl ?_ ?_
        · exact m_drop (mles_s (mles_s (mles_s (mles_s mles_0)))) (v_L_law_888 r18 h18 t1 t2 i3 M)
        · refine m_iconst (v := 0) (d_L_law_7 (k := 28) rfl) (by decide) ?_
          exact m_zret (d_L_law_7 (k := 29) rfl) rfl
      refine List.forall_mem_cons.mpr ⟨?_, ?_⟩
      · dsimp only
        refine m_tin (x := (10 : Int32)) (tgt := 492) (d_L_law_0 (k := 21) rfl) (by decide) (by decide) rfl rfl ?_
        refine m_aload_n (d_L_law_7 (k := 30) rfl) rfl ?_
        refine m_aload_n (d_L_law_7 (k := 31) rfl) rfl ?_
        refine m_iload_n (d_L_law_7 (k := 32) rfl) rfl ?_
        refine m_iconst (v := 1) (d_L_law_7 (k := 33) rfl) (by decide) ?_
        refine m_iadd (d_L_law_7 (k := 34) rfl) ?_
        refine m_xld (d_L_law_7 (k := 35) rfl) (fun x59 => ?_)
        refine m_aload_n (d_L_law_7 (k := 36) rfl) rfl ?_
        refine m_iload_n (d_L_law_7 (k := 37) rfl) rfl ?_
        refine m_iconst (v := 2) (d_L_law_7 (k := 38) rfl) (by decide) ?_
        refine m_iadd (d_L_law_7 (k := 39) rfl) ?_
        refine m_xld (d_L_law_8 (k := 0) rfl) (fun x60 => ?_)
        refine m_cvI (c := 9) (vs := [.inl x59, .inl x60]) (st := []) (d_L_law_8 (k := 1) rfl) (s_C_give t1 x59 x60 M) cd_C_give ml_L_61 im_C_give se_C_give rfl (by decide) rfl (Nat.le_of_ble_eq_true rfl) (fun x61 M => ?_)
        refine m_aload_n (d_L_law_8 (k := 2) rfl) rfl ?_
        refine m_aload_n (d_L_law_8 (k := 3) rfl) rfl ?_
        refine m_iload_n (d_L_law_8 (k := 4) rfl) rfl ?_
        refine m_iconst (v := 1) (d_L_law_8 (k := 5) rfl) (by decide) ?_
        refine m_iadd (d_L_law_8 (k := 6) rfl) ?_
        refine m_xld (d_L_law_8 (k := 7) rfl) (fun x62 => ?_)
        refine m_aload_n (d_L_law_8 (k := 8) rfl) rfl ?_
        refine m_iload_n (d_L_law_8 (k := 9) rfl) rfl ?_
        refine m_iconst (v := 2) (d_L_law_8 (k := 10) rfl) (by decide) ?_
        refine m_iadd (d_L_law_8 (k := 11) rfl) ?_
        refine m_xld (d_L_law_8 (k := 12) rfl) (fun x63 => ?_)
        refine m_cvI (c := 10) (vs := [.inl x62, .inl x63]) (st := [.inl x61]) (d_L_law_8 (k := 13) rfl) (s_M_give t2 x62 x63 M) cd_M_give ml_L_65 im_M_give se_M_give rfl (by decide) rfl (Nat.le_of_ble_eq_true rfl) (fun x64 M => ?_)
        refine m_icmp_eq (tgt := 888) (d_L_law_8 (k := 14) rfl) rfl ?_ ?_
        · exact m_drop (mles_s (mles_s (mles_s (mles_s mles_0)))) (v_L_law_888 r18 h18 t1 t2 i3 M)
        · refine m_iconst (v := 0) (d_L_law_8 (k := 15) rfl) (by decide) ?_
          exact m_zret (d_L_law_8 (k := 16) rfl) rfl
      refine List.forall_mem_cons.mpr ⟨?_, ?_⟩
      · dsimp only
        refine m_tin (x := (11 : Int32)) (tgt := 525) (d_L_law_0 (k := 21) rfl) (by decide) (by decide) rfl rfl ?_
        refine m_aload_n (d_L_law_8 (k := 17) rfl) rfl ?_
        refine m_aload_n (d_L_law_8 (k := 18) rfl) rfl ?_
        refine m_iload_n (d_L_law_8 (k := 19) rfl) rfl ?_
        refine m_iconst (v := 1) (d_L_law_8 (k := 20) rfl) (by decide) ?_
        refine m_iadd (d_L_law_8 (k := 21) rfl) ?_
        refine m_xld (d_L_law_8 (k := 22) rfl) (fun x65 => ?_)
        refine m_aload_n (d_L_law_8 (k := 23) rfl) rfl ?_
        refine m_iload_n (d_L_law_8 (k := 24) rfl) rfl ?_
        refine m_iconst (v := 2) (d_L_law_8 (k := 25) rfl) (by decide) ?_
        refine m_iadd (d_L_law_8 (k := 26) rfl) ?_
        refine m_xld (d_L_law_8 (k := 27) rfl) (fun x66 => ?_)
        refine m_aload_n (d_L_law_8 (k := 28) rfl) rfl ?_
        refine m_iload_n (d_L_law_8 (k := 29) rfl) rfl ?_
        refine m_iconst (v := 3) (d_L_law_8 (k := 30) rfl) (by decide) ?_
        refine m_iadd (d_L_law_8 (k := 31) rfl) ?_
        refine m_xld (d_L_law_8 (k := 32) rfl) (fun x67 => ?_)
        refine m_cvI (c := 9) (vs := [.inl x65, .inl x66, .inl x67]) (st := []) (d_L_law_8 (k := 33) rfl) (s_C_read t1 x65 x66 x67 M) cd_C_read ml_L_66 im_C_read se_C_read rfl (by decide) rfl (Nat.le_of_ble_eq_true rfl) (fun x68 M => ?_)
        refine m_aload_n (d_L_law_8 (k := 34) rfl) rfl ?_
        refine m_aload_n (d_L_law_8 (k := 35) rfl) rfl ?_
        refine m_iload_n (d_L_law_8 (k := 36) rfl) rfl ?_
        refine m_iconst (v := 1) (d_L_law_8 (k := 37) rfl) (by decide) ?_
        refine m_iadd (d_L_law_8 (k := 38) rfl) ?_
        refine m_xld (d_L_law_8 (k := 39) rfl) (fun x69 => ?_)
        refine m_aload_n (d_L_law_9 (k := 0) rfl) rfl ?_
        refine m_iload_n (d_L_law_9 (k := 1) rfl) rfl ?_
        refine m_iconst (v := 2) (d_L_law_9 (k := 2) rfl) (by decide) ?_
        refine m_iadd (d_L_law_9 (k := 3) rfl) ?_
        refine m_xld (d_L_law_9 (k := 4) rfl) (fun x70 => ?_)
        refine m_aload_n (d_L_law_9 (k := 5) rfl) rfl ?_
        refine m_iload_n (d_L_law_9 (k := 6) rfl) rfl ?_
        refine m_iconst (v := 3) (d_L_law_9 (k := 7) rfl) (by decide) ?_
        refine m_iadd (d_L_law_9 (k := 8) rfl) ?_
        refine m_xld (d_L_law_9 (k := 9) rfl) (fun x71 => ?_)
        refine m_cvI (c := 10) (vs := [.inl x69, .inl x70, .inl x71]) (st := [.inl x68]) (d_L_law_9 (k := 10) rfl) (s_M_read t2 x69 x70 x71 M) cd_M_read ml_L_70 im_M_read se_M_read rfl (by decide) rfl (Nat.le_of_ble_eq_true rfl) (fun x72 M => ?_)
        refine m_icmp_eq (tgt := 888) (d_L_law_9 (k := 11) rfl) rfl ?_ ?_
        · exact m_drop (mles_s (mles_s (mles_s (mles_s mles_0)))) (v_L_law_888 r18 h18 t1 t2 i3 M)
        · refine m_iconst (v := 0) (d_L_law_9 (k := 12) rfl) (by decide) ?_
          exact m_zret (d_L_law_9 (k := 13) rfl) rfl
      refine List.forall_mem_cons.mpr ⟨?_, ?_⟩
      · dsimp only
        refine m_tin (x := (12 : Int32)) (tgt := 568) (d_L_law_0 (k := 21) rfl) (by decide) (by decide) rfl rfl ?_
        refine m_aload_n (d_L_law_9 (k := 14) rfl) rfl ?_
        refine m_aload_n (d_L_law_9 (k := 15) rfl) rfl ?_
        refine m_iload_n (d_L_law_9 (k := 16) rfl) rfl ?_
        refine m_iconst (v := 1) (d_L_law_9 (k := 17) rfl) (by decide) ?_
        refine m_iadd (d_L_law_9 (k := 18) rfl) ?_
        refine m_xld (d_L_law_9 (k := 19) rfl) (fun x73 => ?_)
        refine m_aload_n (d_L_law_9 (k := 20) rfl) rfl ?_
        refine m_iload_n (d_L_law_9 (k := 21) rfl) rfl ?_
        refine m_iconst (v := 2) (d_L_law_9 (k := 22) rfl) (by decide) ?_
        refine m_iadd (d_L_law_9 (k := 23) rfl) ?_
        refine m_xld (d_L_law_9 (k := 24) rfl) (fun x74 => ?_)
        refine m_cvI (c := 9) (vs := [.inl x73, .inl x74]) (st := []) (d_L_law_9 (k := 25) rfl) (s_C_letter t1 x73 x74 M) cd_C_letter ml_L_71 im_C_letter se_C_letter rfl (by decide) rfl (Nat.le_of_ble_eq_true rfl) (fun x75 M => ?_)
        refine m_aload_n (d_L_law_9 (k := 26) rfl) rfl ?_
        refine m_aload_n (d_L_law_9 (k := 27) rfl) rfl ?_
        refine m_iload_n (d_L_law_9 (k := 28) rfl) rfl ?_
        refine m_iconst (v := 1) (d_L_law_9 (k := 29) rfl) (by decide) ?_
        refine m_iadd (d_L_law_9 (k := 30) rfl) ?_
        refine m_xld (d_L_law_9 (k := 31) rfl) (fun x76 => ?_)
        refine m_aload_n (d_L_law_9 (k := 32) rfl) rfl ?_
        refine m_iload_n (d_L_law_9 (k := 33) rfl) rfl ?_
        refine m_iconst (v := 2) (d_L_law_9 (k := 34) rfl) (by decide) ?_
        refine m_iadd (d_L_law_9 (k := 35) rfl) ?_
        refine m_xld (d_L_law_9 (k := 36) rfl) (fun x77 => ?_)
        refine m_cvI (c := 10) (vs := [.inl x76, .inl x77]) (st := [.inl x75]) (d_L_law_9 (k := 37) rfl) (s_M_letter2 t2 x76 x77 M) cd_M_letter2 ml_L_74 im_M_letter2 se_M_letter2 rfl (by decide) rfl (Nat.le_of_ble_eq_true rfl) (fun x78 M => ?_)
        refine m_icmp_eq (tgt := 888) (d_L_law_9 (k := 38) rfl) rfl ?_ ?_
        · exact m_drop (mles_s (mles_s (mles_s (mles_s mles_0)))) (v_L_law_888 r18 h18 t1 t2 i3 M)
        · refine m_iconst (v := 0) (d_L_law_9 (k := 39) rfl) (by decide) ?_
          exact m_zret (d_L_law_10 (k := 0) rfl) rfl
      refine List.forall_mem_cons.mpr ⟨?_, ?_⟩
      · dsimp only
        refine m_tin (x := (13 : Int32)) (tgt := 601) (d_L_law_0 (k := 21) rfl) (by decide) (by decide) rfl rfl ?_
        refine m_aload_n (d_L_law_10 (k := 1) rfl) rfl ?_
        refine m_aload_n (d_L_law_10 (k := 2) rfl) rfl ?_
        refine m_iload_n (d_L_law_10 (k := 3) rfl) rfl ?_
        refine m_iconst (v := 1) (d_L_law_10 (k := 4) rfl) (by decide) ?_
        refine m_iadd (d_L_law_10 (k := 5) rfl) ?_
        refine m_xld (d_L_law_10 (k := 6) rfl) (fun x79 => ?_)
        refine m_cvI (c := 9) (vs := [.inl x79]) (st := []) (d_L_law_10 (k := 7) rfl) (s_C_take t1 x79 M) cd_C_take ml_L_75 im_C_take se_C_take rfl (by decide) rfl (Nat.le_of_ble_eq_true rfl) (fun x80 M => ?_)
        refine m_aload_n (d_L_law_10 (k := 8) rfl) rfl ?_
        refine m_aload_n (d_L_law_10 (k := 9) rfl) rfl ?_
        refine m_iload_n (d_L_law_10 (k := 10) rfl) rfl ?_
        refine m_iconst (v := 1) (d_L_law_10 (k := 11) rfl) (by decide) ?_
        refine m_iadd (d_L_law_10 (k := 12) rfl) ?_
        refine m_xld (d_L_law_10 (k := 13) rfl) (fun x81 => ?_)
        refine m_cvI (c := 10) (vs := [.inl x81]) (st := [.inl x80]) (d_L_law_10 (k := 14) rfl) (s_M_take t2 x81 M) cd_M_take ml_L_78 im_M_take se_M_take rfl (by decide) rfl (Nat.le_of_ble_eq_true rfl) (fun x82 M => ?_)
        refine m_icmp_eq (tgt := 888) (d_L_law_10 (k := 15) rfl) rfl ?_ ?_
        · exact m_drop (mles_s (mles_s (mles_s (mles_s mles_0)))) (v_L_law_888 r18 h18 t1 t2 i3 M)
        · refine m_iconst (v := 0) (d_L_law_10 (k := 16) rfl) (by decide) ?_
          exact m_zret (d_L_law_10 (k := 17) rfl) rfl
      refine List.forall_mem_cons.mpr ⟨?_, ?_⟩
      · dsimp only
        refine m_tin (x := (14 : Int32)) (tgt := 624) (d_L_law_0 (k := 21) rfl) (by decide) (by decide) rfl rfl ?_
        refine m_aload_n (d_L_law_10 (k := 18) rfl) rfl ?_
        refine m_aload_n (d_L_law_10 (k := 19) rfl) rfl ?_
        refine m_iload_n (d_L_law_10 (k := 20) rfl) rfl ?_
        refine m_iconst (v := 1) (d_L_law_10 (k := 21) rfl) (by decide) ?_
        refine m_iadd (d_L_law_10 (k := 22) rfl) ?_
        refine m_xld (d_L_law_10 (k := 23) rfl) (fun x83 => ?_)
        refine m_cvI (c := 9) (vs := [.inl x83]) (st := []) (d_L_law_10 (k := 24) rfl) (s_C_beacon t1 x83 M) cd_C_beacon ml_L_79 im_C_beacon se_C_beacon rfl (by decide) rfl (Nat.le_of_ble_eq_true rfl) (fun x84 M => ?_)
        refine m_aload_n (d_L_law_10 (k := 25) rfl) rfl ?_
        refine m_aload_n (d_L_law_10 (k := 26) rfl) rfl ?_
        refine m_iload_n (d_L_law_10 (k := 27) rfl) rfl ?_
        refine m_iconst (v := 1) (d_L_law_10 (k := 28) rfl) (by decide) ?_
        refine m_iadd (d_L_law_10 (k := 29) rfl) ?_
        refine m_xld (d_L_law_10 (k := 30) rfl) (fun x85 => ?_)
        refine m_cvI (c := 10) (vs := [.inl x85]) (st := [.inl x84]) (d_L_law_10 (k := 31) rfl) (s_M_beacon t2 x85 M) cd_M_beacon ml_L_82 im_M_beacon se_M_beacon rfl (by decide) rfl (Nat.le_of_ble_eq_true rfl) (fun x86 M => ?_)
        refine m_icmp_eq (tgt := 888) (d_L_law_10 (k := 32) rfl) rfl ?_ ?_
        · exact m_drop (mles_s (mles_s (mles_s (mles_s mles_0)))) (v_L_law_888 r18 h18 t1 t2 i3 M)
        · refine m_iconst (v := 0) (d_L_law_10 (k := 33) rfl) (by decide) ?_
          exact m_zret (d_L_law_10 (k := 34) rfl) rfl
      refine List.forall_mem_cons.mpr ⟨?_, ?_⟩
      · dsimp only
        refine m_tin (x := (15 : Int32)) (tgt := 647) (d_L_law_0 (k := 21) rfl) (by decide) (by decide) rfl rfl ?_
        refine m_aload_n (d_L_law_10 (k := 35) rfl) rfl ?_
        refine m_aload_n (d_L_law_10 (k := 36) rfl) rfl ?_
        refine m_iload_n (d_L_law_10 (k := 37) rfl) rfl ?_
        refine m_iconst (v := 1) (d_L_law_10 (k := 38) rfl) (by decide) ?_
        refine m_iadd (d_L_law_10 (k := 39) rfl) ?_
        refine m_xld (d_L_law_11 (k := 0) rfl) (fun x87 => ?_)
        refine m_cvI (c := 9) (vs := [.inl x87]) (st := []) (d_L_law_11 (k := 1) rfl) (s_C_run t1 x87 M) cd_C_run ml_L_83 im_C_run se_C_run rfl (by decide) rfl (Nat.le_of_ble_eq_true rfl) (fun x88 M => ?_)
        refine m_aload_n (d_L_law_11 (k := 2) rfl) rfl ?_
        refine m_aload_n (d_L_law_11 (k := 3) rfl) rfl ?_
        refine m_iload_n (d_L_law_11 (k := 4) rfl) rfl ?_
        refine m_iconst (v := 1) (d_L_law_11 (k := 5) rfl) (by decide) ?_
        refine m_iadd (d_L_law_11 (k := 6) rfl) ?_
        refine m_xld (d_L_law_11 (k := 7) rfl) (fun x89 => ?_)
        refine m_cvI (c := 10) (vs := [.inl x89]) (st := [.inl x88]) (d_L_law_11 (k := 8) rfl) (s_M_run t2 x89 M) cd_M_run ml_L_86 im_M_run se_M_run rfl (by decide) rfl (Nat.le_of_ble_eq_true rfl) (fun x90 M => ?_)
        refine m_icmp_eq (tgt := 888) (d_L_law_11 (k := 9) rfl) rfl ?_ ?_
        · exact m_drop (mles_s (mles_s (mles_s (mles_s mles_0)))) (v_L_law_888 r18 h18 t1 t2 i3 M)
        · refine m_iconst (v := 0) (d_L_law_11 (k := 10) rfl) (by decide) ?_
          exact m_zret (d_L_law_11 (k := 11) rfl) rfl
      refine List.forall_mem_cons.mpr ⟨?_, ?_⟩
      · dsimp only
        refine m_tin (x := (16 : Int32)) (tgt := 670) (d_L_law_0 (k := 21) rfl) (by decide) (by decide) rfl rfl ?_
        refine m_aload_n (d_L_law_11 (k := 12) rfl) rfl ?_
        refine m_cvI (c := 9) (vs := []) (st := []) (d_L_law_11 (k := 13) rfl) (s_C_time t1 M) cd_C_time ml_L_87 im_C_time se_C_time rfl (by decide) rfl (Nat.le_of_ble_eq_true rfl) (fun x91 M => ?_)
        refine m_aload_n (d_L_law_11 (k := 14) rfl) rfl ?_
        refine m_cvI (c := 10) (vs := []) (st := [.inl x91]) (d_L_law_11 (k := 15) rfl) (s_M_time t2 M) cd_M_time ml_L_90 im_M_time se_M_time rfl (by decide) rfl (Nat.le_of_ble_eq_true rfl) (fun x92 M => ?_)
        refine m_icmp_eq (tgt := 888) (d_L_law_11 (k := 16) rfl) rfl ?_ ?_
        · exact m_drop (mles_s (mles_s (mles_s (mles_s mles_0)))) (v_L_law_888 r18 h18 t1 t2 i3 M)
        · refine m_iconst (v := 0) (d_L_law_11 (k := 17) rfl) (by decide) ?_
          exact m_zret (d_L_law_11 (k := 18) rfl) rfl
      refine List.forall_mem_cons.mpr ⟨?_, ?_⟩
      · dsimp only
        refine m_tin (x := (17 : Int32)) (tgt := 683) (d_L_law_0 (k := 21) rfl) (by decide) (by decide) rfl rfl ?_
        refine m_aload_n (d_L_law_11 (k := 19) rfl) rfl ?_
        refine m_aload_n (d_L_law_11 (k := 20) rfl) rfl ?_
        refine m_iload_n (d_L_law_11 (k := 21) rfl) rfl ?_
        refine m_iconst (v := 1) (d_L_law_11 (k := 22) rfl) (by decide) ?_
        refine m_iadd (d_L_law_11 (k := 23) rfl) ?_
        refine m_xld (d_L_law_11 (k := 24) rfl) (fun x93 => ?_)
        refine m_aload_n (d_L_law_11 (k := 25) rfl) rfl ?_
        refine m_iload_n (d_L_law_11 (k := 26) rfl) rfl ?_
        refine m_iconst (v := 2) (d_L_law_11 (k := 27) rfl) (by decide) ?_
        refine m_iadd (d_L_law_11 (k := 28) rfl) ?_
        refine m_xld (d_L_law_11 (k := 29) rfl) (fun x94 => ?_)
        refine m_cvI (c := 9) (vs := [.inl x93, .inl x94]) (st := []) (d_L_law_11 (k := 30) rfl) (s_C_station t1 x93 x94 M) cd_C_station ml_L_91 im_C_station se_C_station rfl (by decide) rfl (Nat.le_of_ble_eq_true rfl) (fun x95 M => ?_)
        refine m_aload_n (d_L_law_11 (k := 31) rfl) rfl ?_
        refine m_aload_n (d_L_law_11 (k := 32) rfl) rfl ?_
        refine m_iload_n (d_L_law_11 (k := 33) rfl) rfl ?_
        refine m_iconst (v := 1) (d_L_law_11 (k := 34) rfl) (by decide) ?_
        refine m_iadd (d_L_law_11 (k := 35) rfl) ?_
        refine m_xld (d_L_law_11 (k := 36) rfl) (fun x96 => ?_)
        refine m_aload_n (d_L_law_11 (k := 37) rfl) rfl ?_
        refine m_iload_n (d_L_law_11 (k := 38) rfl) rfl ?_
        refine m_iconst (v := 2) (d_L_law_11 (k := 39) rfl) (by decide) ?_
        refine m_iadd (d_L_law_12 (k := 0) rfl) ?_
        refine m_xld (d_L_law_12 (k := 1) rfl) (fun x97 => ?_)
        refine m_cvI (c := 10) (vs := [.inl x96, .inl x97]) (st := [.inl x95]) (d_L_law_12 (k := 2) rfl) (s_M_station t2 x96 x97 M) cd_M_station ml_L_94 im_M_station se_M_station rfl (by decide) rfl (Nat.le_of_ble_eq_true rfl) (fun x98 M => ?_)
        refine m_icmp_eq (tgt := 888) (d_L_law_12 (k := 3) rfl) rfl ?_ ?_
        · exact m_drop (mles_s (mles_s (mles_s (mles_s mles_0)))) (v_L_law_888 r18 h18 t1 t2 i3 M)
        · refine m_iconst (v := 0) (d_L_law_12 (k := 4) rfl) (by decide) ?_
          exact m_zret (d_L_law_12 (k := 5) rfl) rfl
      refine List.forall_mem_cons.mpr ⟨?_, ?_⟩
      · dsimp only
        refine m_tin (x := (18 : Int32)) (tgt := 716) (d_L_law_0 (k := 21) rfl) (by decide) (by decide) rfl rfl ?_
        refine m_aload_n (d_L_law_12 (k := 6) rfl) rfl ?_
        refine m_aload_n (d_L_law_12 (k := 7) rfl) rfl ?_
        refine m_iload_n (d_L_law_12 (k := 8) rfl) rfl ?_
        refine m_iconst (v := 1) (d_L_law_12 (k := 9) rfl) (by decide) ?_
        refine m_iadd (d_L_law_12 (k := 10) rfl) ?_
        refine m_xld (d_L_law_12 (k := 11) rfl) (fun x99 => ?_)
        refine m_aload_n (d_L_law_12 (k := 12) rfl) rfl ?_
        refine m_iload_n (d_L_law_12 (k := 13) rfl) rfl ?_
        refine m_iconst (v := 2) (d_L_law_12 (k := 14) rfl) (by decide) ?_
        refine m_iadd (d_L_law_12 (k := 15) rfl) ?_
        refine m_xld (d_L_law_12 (k := 16) rfl) (fun x100 => ?_)
        refine m_aload_n (d_L_law_12 (k := 17) rfl) rfl ?_
        refine m_iload_n (d_L_law_12 (k := 18) rfl) rfl ?_
        refine m_iconst (v := 3) (d_L_law_12 (k := 19) rfl) (by decide) ?_
        refine m_iadd (d_L_law_12 (k := 20) rfl) ?_
        refine m_xld (d_L_law_12 (k := 21) rfl) (fun x101 => ?_)
        refine m_cvI (c := 9) (vs := [.inl x99, .inl x100, .inl x101]) (st := []) (d_L_law_12 (k := 22) rfl) (s_C_link t1 x99 x100 x101 M) cd_C_link ml_L_95 im_C_link se_C_link rfl (by decide) rfl (Nat.le_of_ble_eq_true rfl) (fun x102 M => ?_)
        refine m_aload_n (d_L_law_12 (k := 23) rfl) rfl ?_
        refine m_aload_n (d_L_law_12 (k := 24) rfl) rfl ?_
        refine m_iload_n (d_L_law_12 (k := 25) rfl) rfl ?_
        refine m_iconst (v := 1) (d_L_law_12 (k := 26) rfl) (by decide) ?_
        refine m_iadd (d_L_law_12 (k := 27) rfl) ?_
        refine m_xld (d_L_law_12 (k := 28) rfl) (fun x103 => ?_)
        refine m_aload_n (d_L_law_12 (k := 29) rfl) rfl ?_
        refine m_iload_n (d_L_law_12 (k := 30) rfl) rfl ?_
        refine m_iconst (v := 2) (d_L_law_12 (k := 31) rfl) (by decide) ?_
        refine m_iadd (d_L_law_12 (k := 32) rfl) ?_
        refine m_xld (d_L_law_12 (k := 33) rfl) (fun x104 => ?_)
        refine m_aload_n (d_L_law_12 (k := 34) rfl) rfl ?_
        refine m_iload_n (d_L_law_12 (k := 35) rfl) rfl ?_
        refine m_iconst (v := 3) (d_L_law_12 (k := 36) rfl) (by decide) ?_
        refine m_iadd (d_L_law_12 (k := 37) rfl) ?_
        refine m_xld (d_L_law_12 (k := 38) rfl) (fun x105 => ?_)
        refine m_cvI (c := 10) (vs := [.inl x103, .inl x104, .inl x105]) (st := [.inl x102]) (d_L_law_12 (k := 39) rfl) (s_M_link t2 x103 x104 x105 M) cd_M_link ml_L_98 im_M_link se_M_link rfl (by decide) rfl (Nat.le_of_ble_eq_true rfl) (fun x106 M => ?_)
        refine m_icmp_eq (tgt := 888) (d_L_law_13 (k := 0) rfl) rfl ?_ ?_
        · exact m_drop (mles_s (mles_s (mles_s (mles_s mles_0)))) (v_L_law_888 r18 h18 t1 t2 i3 M)
        · refine m_iconst (v := 0) (d_L_law_13 (k := 1) rfl) (by decide) ?_
          exact m_zret (d_L_law_13 (k := 2) rfl) rfl
      refine List.forall_mem_cons.mpr ⟨?_, ?_⟩
      · dsimp only
        refine m_tin (x := (19 : Int32)) (tgt := 759) (d_L_law_0 (k := 21) rfl) (by decide) (by decide) rfl rfl ?_
        refine m_aload_n (d_L_law_13 (k := 3) rfl) rfl ?_
        refine m_aload_n (d_L_law_13 (k := 4) rfl) rfl ?_
        refine m_iload_n (d_L_law_13 (k := 5) rfl) rfl ?_
        refine m_iconst (v := 1) (d_L_law_13 (k := 6) rfl) (by decide) ?_
        refine m_iadd (d_L_law_13 (k := 7) rfl) ?_
        refine m_xld (d_L_law_13 (k := 8) rfl) (fun x107 => ?_)
        refine m_aload_n (d_L_law_13 (k := 9) rfl) rfl ?_
        refine m_iload_n (d_L_law_13 (k := 10) rfl) rfl ?_
        refine m_iconst (v := 2) (d_L_law_13 (k := 11) rfl) (by decide) ?_
        refine m_iadd (d_L_law_13 (k := 12) rfl) ?_
        refine m_xld (d_L_law_13 (k := 13) rfl) (fun x108 => ?_)
        refine m_aload_n (d_L_law_13 (k := 14) rfl) rfl ?_
        refine m_iload_n (d_L_law_13 (k := 15) rfl) rfl ?_
        refine m_iconst (v := 3) (d_L_law_13 (k := 16) rfl) (by decide) ?_
        refine m_iadd (d_L_law_13 (k := 17) rfl) ?_
        refine m_xld (d_L_law_13 (k := 18) rfl) (fun x109 => ?_)
        refine m_aload_n (d_L_law_13 (k := 19) rfl) rfl ?_
        refine m_iload_n (d_L_law_13 (k := 20) rfl) rfl ?_
        refine m_iconst (v := 4) (d_L_law_13 (k := 21) rfl) (by decide) ?_
        refine m_iadd (d_L_law_13 (k := 22) rfl) ?_
        refine m_xld (d_L_law_13 (k := 23) rfl) (fun x110 => ?_)
        refine m_cvI (c := 9) (vs := [.inl x107, .inl x108, .inl x109, .inl x110]) (st := []) (d_L_law_13 (k := 24) rfl) (s_C_route t1 x107 x108 x109 x110 M) cd_C_route ml_L_99 im_C_route se_C_route rfl (by decide) rfl (Nat.le_of_ble_eq_true rfl) (fun x111 M => ?_)
        refine m_aload_n (d_L_law_13 (k := 25) rfl) rfl ?_
        refine m_aload_n (d_L_law_13 (k := 26) rfl) rfl ?_
        refine m_iload_n (d_L_law_13 (k := 27) rfl) rfl ?_
        refine m_iconst (v := 1) (d_L_law_13 (k := 28) rfl) (by decide) ?_
        refine m_iadd (d_L_law_13 (k := 29) rfl) ?_
        refine m_xld (d_L_law_13 (k := 30) rfl) (fun x112 => ?_)
        refine m_aload_n (d_L_law_13 (k := 31) rfl) rfl ?_
        refine m_iload_n (d_L_law_13 (k := 32) rfl) rfl ?_
        refine m_iconst (v := 2) (d_L_law_13 (k := 33) rfl) (by decide) ?_
        refine m_iadd (d_L_law_13 (k := 34) rfl) ?_
        refine m_xld (d_L_law_13 (k := 35) rfl) (fun x113 => ?_)
        refine m_aload_n (d_L_law_13 (k := 36) rfl) rfl ?_
        refine m_iload_n (d_L_law_13 (k := 37) rfl) rfl ?_
        refine m_iconst (v := 3) (d_L_law_13 (k := 38) rfl) (by decide) ?_
        refine m_iadd (d_L_law_13 (k := 39) rfl) ?_
        refine m_xld (d_L_law_14 (k := 0) rfl) (fun x114 => ?_)
        refine m_aload_n (d_L_law_14 (k := 1) rfl) rfl ?_
        refine m_iload_n (d_L_law_14 (k := 2) rfl) rfl ?_
        refine m_iconst (v := 4) (d_L_law_14 (k := 3) rfl) (by decide) ?_
        refine m_iadd (d_L_law_14 (k := 4) rfl) ?_
        refine m_xld (d_L_law_14 (k := 5) rfl) (fun x115 => ?_)
        refine m_cvI (c := 10) (vs := [.inl x112, .inl x113, .inl x114, .inl x115]) (st := [.inl x111]) (d_L_law_14 (k := 6) rfl) (s_M_route t2 x112 x113 x114 x115 M) cd_M_route ml_L_103 im_M_route se_M_route rfl (by decide) rfl (Nat.le_of_ble_eq_true rfl) (fun x116 M => ?_)
        refine m_icmp_eq (tgt := 888) (d_L_law_14 (k := 7) rfl) rfl ?_ ?_
        · exact m_drop (mles_s (mles_s (mles_s (mles_s mles_0)))) (v_L_law_888 r18 h18 t1 t2 i3 M)
        · refine m_iconst (v := 0) (d_L_law_14 (k := 8) rfl) (by decide) ?_
          exact m_zret (d_L_law_14 (k := 9) rfl) rfl
      refine List.forall_mem_cons.mpr ⟨?_, ?_⟩
      · dsimp only
        refine m_tin (x := (20 : Int32)) (tgt := 812) (d_L_law_0 (k := 21) rfl) (by decide) (by decide) rfl rfl ?_
        refine m_aload_n (d_L_law_14 (k := 10) rfl) rfl ?_
        refine m_aload_n (d_L_law_14 (k := 11) rfl) rfl ?_
        refine m_iload_n (d_L_law_14 (k := 12) rfl) rfl ?_
        refine m_iconst (v := 1) (d_L_law_14 (k := 13) rfl) (by decide) ?_
        refine m_iadd (d_L_law_14 (k := 14) rfl) ?_
        refine m_xld (d_L_law_14 (k := 15) rfl) (fun x117 => ?_)
        refine m_aload_n (d_L_law_14 (k := 16) rfl) rfl ?_
        refine m_iload_n (d_L_law_14 (k := 17) rfl) rfl ?_
        refine m_iconst (v := 2) (d_L_law_14 (k := 18) rfl) (by decide) ?_
        refine m_iadd (d_L_law_14 (k := 19) rfl) ?_
        refine m_xld (d_L_law_14 (k := 20) rfl) (fun x118 => ?_)
        refine m_cvI (c := 9) (vs := [.inl x117, .inl x118]) (st := []) (d_L_law_14 (k := 21) rfl) (s_C_best t1 x117 x118 M) cd_C_best ml_L_104 im_C_best se_C_best rfl (by decide) rfl (Nat.le_of_ble_eq_true rfl) (fun x119 M => ?_)
        refine m_aload_n (d_L_law_14 (k := 22) rfl) rfl ?_
        refine m_aload_n (d_L_law_14 (k := 23) rfl) rfl ?_
        refine m_iload_n (d_L_law_14 (k := 24) rfl) rfl ?_
        refine m_iconst (v := 1) (d_L_law_14 (k := 25) rfl) (by decide) ?_
        refine m_iadd (d_L_law_14 (k := 26) rfl) ?_
        refine m_xld (d_L_law_14 (k := 27) rfl) (fun x120 => ?_)
        refine m_aload_n (d_L_law_14 (k := 28) rfl) rfl ?_
        refine m_iload_n (d_L_law_14 (k := 29) rfl) rfl ?_
        refine m_iconst (v := 2) (d_L_law_14 (k := 30) rfl) (by decide) ?_
        refine m_iadd (d_L_law_14 (k := 31) rfl) ?_
        refine m_xld (d_L_law_14 (k := 32) rfl) (fun x121 => ?_)
        refine m_cvI (c := 10) (vs := [.inl x120, .inl x121]) (st := [.inl x119]) (d_L_law_14 (k := 33) rfl) (s_M_best t2 x120 x121 M) cd_M_best ml_L_107 im_M_best se_M_best rfl (by decide) rfl (Nat.le_of_ble_eq_true rfl) (fun x122 M => ?_)
        refine m_icmp_eq (tgt := 888) (d_L_law_14 (k := 34) rfl) rfl ?_ ?_
        · exact m_drop (mles_s (mles_s (mles_s (mles_s mles_0)))) (v_L_law_888 r18 h18 t1 t2 i3 M)
        · refine m_iconst (v := 0) (d_L_law_14 (k := 35) rfl) (by decide) ?_
          exact m_zret (d_L_law_14 (k := 36) rfl) rfl
      refine List.forall_mem_cons.mpr ⟨?_, ?_⟩
      · dsimp only
        refine m_tin (x := (21 : Int32)) (tgt := 845) (d_L_law_0 (k := 21) rfl) (by decide) (by decide) rfl rfl ?_
        refine m_aload_n (d_L_law_14 (k := 37) rfl) rfl ?_
        refine m_aload_n (d_L_law_14 (k := 38) rfl) rfl ?_
        refine m_iload_n (d_L_law_14 (k := 39) rfl) rfl ?_
        refine m_iconst (v := 1) (d_L_law_15 (k := 0) rfl) (by decide) ?_
        refine m_iadd (d_L_law_15 (k := 1) rfl) ?_
        refine m_xld (d_L_law_15 (k := 2) rfl) (fun x123 => ?_)
        refine m_aload_n (d_L_law_15 (k := 3) rfl) rfl ?_
        refine m_iload_n (d_L_law_15 (k := 4) rfl) rfl ?_
        refine m_iconst (v := 2) (d_L_law_15 (k := 5) rfl) (by decide) ?_
        refine m_iadd (d_L_law_15 (k := 6) rfl) ?_
        refine m_xld (d_L_law_15 (k := 7) rfl) (fun x124 => ?_)
        refine m_aload_n (d_L_law_15 (k := 8) rfl) rfl ?_
        refine m_iload_n (d_L_law_15 (k := 9) rfl) rfl ?_
        refine m_iconst (v := 3) (d_L_law_15 (k := 10) rfl) (by decide) ?_
        refine m_iadd (d_L_law_15 (k := 11) rfl) ?_
        refine m_xld (d_L_law_15 (k := 12) rfl) (fun x125 => ?_)
        refine m_cvI (c := 9) (vs := [.inl x123, .inl x124, .inl x125]) (st := []) (d_L_law_15 (k := 13) rfl) (s_C_queued t1 x123 x124 x125 M) cd_C_queued ml_L_108 im_C_queued se_C_queued rfl (by decide) rfl (Nat.le_of_ble_eq_true rfl) (fun x126 M => ?_)
        refine m_aload_n (d_L_law_15 (k := 14) rfl) rfl ?_
        refine m_aload_n (d_L_law_15 (k := 15) rfl) rfl ?_
        refine m_iload_n (d_L_law_15 (k := 16) rfl) rfl ?_
        refine m_iconst (v := 1) (d_L_law_15 (k := 17) rfl) (by decide) ?_
        refine m_iadd (d_L_law_15 (k := 18) rfl) ?_
        refine m_xld (d_L_law_15 (k := 19) rfl) (fun x127 => ?_)
        refine m_aload_n (d_L_law_15 (k := 20) rfl) rfl ?_
        refine m_iload_n (d_L_law_15 (k := 21) rfl) rfl ?_
        refine m_iconst (v := 2) (d_L_law_15 (k := 22) rfl) (by decide) ?_
        refine m_iadd (d_L_law_15 (k := 23) rfl) ?_
        refine m_xld (d_L_law_15 (k := 24) rfl) (fun x128 => ?_)
        refine m_aload_n (d_L_law_15 (k := 25) rfl) rfl ?_
        refine m_iload_n (d_L_law_15 (k := 26) rfl) rfl ?_
        refine m_iconst (v := 3) (d_L_law_15 (k := 27) rfl) (by decide) ?_
        refine m_iadd (d_L_law_15 (k := 28) rfl) ?_
        refine m_xld (d_L_law_15 (k := 29) rfl) (fun x129 => ?_)
        refine m_cvI (c := 10) (vs := [.inl x127, .inl x128, .inl x129]) (st := [.inl x126]) (d_L_law_15 (k := 30) rfl) (s_M_queued t2 x127 x128 x129 M) cd_M_queued ml_L_111 im_M_queued se_M_queued rfl (by decide) rfl (Nat.le_of_ble_eq_true rfl) (fun x130 M => ?_)
        refine m_icmp_eq (tgt := 888) (d_L_law_15 (k := 31) rfl) rfl ?_ ?_
        · exact m_drop (mles_s (mles_s (mles_s (mles_s mles_0)))) (v_L_law_888 r18 h18 t1 t2 i3 M)
        · refine m_iconst (v := 0) (d_L_law_15 (k := 32) rfl) (by decide) ?_
          exact m_zret (d_L_law_15 (k := 33) rfl) rfl
      exact fun _ h => absurd h List.not_mem_nil
    · refine m_tout (ks := [0, 1, 2, 3, 4, 5, 6, 7, 8, 9, 10, 11, 12, 13, 14, 15, 16, 17, 18, 19, 20, 21]) (tgt := 888) (d_L_law_0 (k := 21) rfl) (m_ks hx) (by decide) rfl ?_
      exact m_drop (mles_s (mles_s (mles_s (mles_s mles_0)))) (v_L_law_888 r18 h18 t1 t2 i3 M)
theorem v_L_law_18 {E : mE} : ∀ (n : Nat) (t1 : Option Nat) (t2 : Option Nat) (i3 : Int32) (M : mM), mVr E mi_L_law 14 18 [some (.inr (some 0)), some (.inr t1), some (.inr t2), some (.inl i3)] [] M enI (q_L_law_18 (eL E) (eX E) n t1 t2 i3 M)
  | 0, _, _, _, _ => m_none
  | n + 1, t1, t2, i3, M => v_L_law_18_b _ (v_L_law_18 n) t1 t2 i3 M
def q_L_law (L : Nat) (xs : Nat → Int32) (M : mM) : Option (Int32 × mM) :=
    x_nw M 9 fun a1 M =>
    x_ci a1 (q_C_init a1 M) fun _ M =>
    x_nw M 10 fun a2 M =>
    x_ci a2 (q_M_init a2 M) fun _ M =>
    q_L_law_18 L xs mFU a1 a2 (0 : Int32) M
set_option maxRecDepth 20000 in
theorem v_L_law {E : mE} (M : mM) : mVr E mi_L_law 14 0 [some (.inr (some 0)), none, none, none] [] M enI (q_L_law (eL E) (eX E) M) := by
  unfold q_L_law
  refine m_new (d_L_law_0 (k := 0) rfl) mcl_9 cl_L_7 ik_9 ii_9 dz_9 (fun a1 M => ?_)
  refine m_dup (d_L_law_0 (k := 1) rfl) ?_
  refine m_ciU (vs := []) (st := [.inr a1]) (d_L_law_0 (k := 2) rfl) (s_C_init a1 M) cd_C_init rfl rfl ml_L_9 im_C_init (by decide) rfl (Nat.le_of_ble_eq_true rfl) (fun _ M => ?_)
  refine m_ast_n (ls' := [some (.inr (some 0)), some (.inr a1), none, none]) (d_L_law_0 (k := 3) rfl) (by decide) rfl ?_
  refine m_new (d_L_law_0 (k := 4) rfl) mcl_10 cl_L_10 ik_10 ii_10 dz_10 (fun a2 M => ?_)
  refine m_dup (d_L_law_0 (k := 5) rfl) ?_
  refine m_ciU (vs := []) (st := [.inr a2]) (d_L_law_0 (k := 6) rfl) (s_M_init a2 M) cd_M_init rfl rfl ml_L_12 im_M_init (by decide) rfl (Nat.le_of_ble_eq_true rfl) (fun _ M => ?_)
  refine m_ast_n (ls' := [some (.inr (some 0)), some (.inr a1), some (.inr a2), none]) (d_L_law_0 (k := 7) rfl) (by decide) rfl ?_
  refine m_iconst (v := 0) (d_L_law_0 (k := 8) rfl) (by decide) ?_
  refine m_ist_n (ls' := [some (.inr (some 0)), some (.inr a1), some (.inr a2), some (.inl (0 : Int32))]) (d_L_law_0 (k := 9) rfl) (by decide) rfl ?_
  exact m_drop (mles_s (mles_s (mles_s (mles_s mles_0)))) (v_L_law_18 mFU a1 a2 (0 : Int32) M)
