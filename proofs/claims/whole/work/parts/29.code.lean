def dt_M_areUnlike : List (Nat × Instr × Nat) := [(0, .aload_n 0, 1), (1, .getfield 334, 3), (4, .aload_n 0, 1), (5, .getfield 337, 3), (8, .if_icmp .eq 7, 3), (11, .iconst 1, 1), (12, .goto 4, 3), (15, .iconst 0, 1), (16, .istore_n 1, 1), (17, .iconst 0, 1), (18, .istore_n 2, 1), (19, .iload_n 2, 1), (20, .aload_n 0, 1), (21, .getfield 344, 3), (24, .if_icmp .ge 45, 3), (27, .iload_n 1, 1), (28, .ifCond .eq 33, 3), (31, .aload_n 0, 1), (32, .getfield 104, 3), (35, .iload_n 2, 1), (36, .iaload, 1), (37, .aload_n 0, 1), (38, .getfield 334, 3), (41, .if_icmp .eq 20, 3), (44, .aload_n 0, 1), (45, .getfield 104, 3), (48, .iload_n 2, 1), (49, .iaload, 1), (50, .aload_n 0, 1), (51, .getfield 337, 3), (54, .if_icmp .eq 7, 3), (57, .iconst 1, 1), (58, .goto 4, 3), (61, .iconst 0, 1), (62, .istore_n 1, 1), (63, .iinc 2 1, 3), (66, .goto (-47), 3), (69, .iload_n 1, 1), (70, .ifCond .eq 30, 3), (73, .aload_n 0, 1), (74, .getfield 344, 3), (77, .iconst 2, 1), (78, .if_icmp .lt 18, 3), (81, .aload_n 0, 1), (82, .getfield 104, 3), (85, .iconst 0, 1), (86, .iaload, 1), (87, .aload_n 0, 1), (88, .getfield 104, 3), (91, .iconst 1, 1), (92, .iaload, 1), (93, .if_icmp .eq 7, 3), (96, .iconst 1, 1), (97, .goto 4, 3), (100, .iconst 0, 1), (101, .ireturn, 1)]
theorem dx_M_areUnlike : ∀ p ∈ dt_M_areUnlike, decode prog_12_method_43_code p.1 = .ok p.2 := by decide +kernel
theorem d_M_areUnlike {k pc : Nat} {i : Instr} {n : Nat} (h : dt_M_areUnlike[k]? = some (pc, i, n)) : decode mi_M_areUnlike.2.1 pc = .ok (i, n) := dx_M_areUnlike (pc, i, n) (List.mem_of_getElem? h)
def q_M_areUnlike_62 (r19 : Option Nat → Int32 → Int32 → mM → Option (Int32 × mM)) (t0 : Option Nat) (i2 : Int32) (j0 : Int32) (M : mM) : Option (Int32 × mM) :=
    r19 t0 j0 (i2 + 1) M
set_option maxRecDepth 20000 in
theorem v_M_areUnlike_62 {E : mE} (r19 : Option Nat → Int32 → Int32 → mM → Option (Int32 × mM)) (h19 : ∀ (t0 : Option Nat) (i1 : Int32) (i2 : Int32) (M : mM), mVr E mi_M_areUnlike 0 19 [some (.inr t0), some (.inl i1), some (.inl i2)] [] M enI (r19 t0 i1 i2 M)) (t0 : Option Nat) (i2 : Int32) (j0 : Int32) (M : mM) : mVr E mi_M_areUnlike 0 62 [some (.inr t0), none, some (.inl i2)] [.inl j0] M enI (q_M_areUnlike_62 r19 t0 i2 j0 M) := by
  unfold q_M_areUnlike_62
  refine m_ist_n (ls' := [some (.inr t0), some (.inl j0), some (.inl i2)]) (d_M_areUnlike (k := 34) rfl) (by decide) rfl ?_
  refine m_inc (v := 1) (ls' := [some (.inr t0), some (.inl j0), some (.inl (i2 + 1))]) (d_M_areUnlike (k := 35) rfl) rfl (by decide) (by decide) rfl ?_
  refine m_goto (tgt := 19) (d_M_areUnlike (k := 36) rfl) rfl ?_
  exact m_drop (mles_s (mles_s (mles_s mles_0))) (h19 t0 j0 (i2 + 1) M)
def q_M_areUnlike_61 (r19 : Option Nat → Int32 → Int32 → mM → Option (Int32 × mM)) (t0 : Option Nat) (i2 : Int32) (M : mM) : Option (Int32 × mM) :=
    q_M_areUnlike_62 r19 t0 i2 (0 : Int32) M
set_option maxRecDepth 20000 in
theorem v_M_areUnlike_61 {E : mE} (r19 : Option Nat → Int32 → Int32 → mM → Option (Int32 × mM)) (h19 : ∀ (t0 : Option Nat) (i1 : Int32) (i2 : Int32) (M : mM), mVr E mi_M_areUnlike 0 19 [some (.inr t0), some (.inl i1), some (.inl i2)] [] M enI (r19 t0 i1 i2 M)) (t0 : Option Nat) (i2 : Int32) (M : mM) : mVr E mi_M_areUnlike 0 61 [some (.inr t0), none, some (.inl i2)] [] M enI (q_M_areUnlike_61 r19 t0 i2 M) := by
  unfold q_M_areUnlike_61
  refine m_iconst (v := 0) (d_M_areUnlike (k := 33) rfl) (by decide) ?_
  exact m_drop (mles_s (mles_n (mles_s mles_0))) (v_M_areUnlike_62 r19 h19 t0 i2 (0 : Int32) M)
def q_M_areUnlike_96 (M : mM) : Option (Int32 × mM) :=
    x_rz (1 : Int32) M
set_option maxRecDepth 20000 in
theorem v_M_areUnlike_96 {E : mE} (M : mM) : mVr E mi_M_areUnlike 0 96 [none, none, none] [] M enI (q_M_areUnlike_96 M) := by
  unfold q_M_areUnlike_96
  refine m_iconst (v := 1) (d_M_areUnlike (k := 52) rfl) (by decide) ?_
  refine m_goto (tgt := 101) (d_M_areUnlike (k := 53) rfl) rfl ?_
  exact m_zret (d_M_areUnlike (k := 55) rfl) rfl
def q_M_areUnlike_19_b (r19 : Option Nat → Int32 → Int32 → mM → Option (Int32 × mM)) (t0 : Option Nat) (i1 : Int32) (i2 : Int32) (M : mM) : Option (Int32 × mM) :=
    x_gI M 10 t0 40 fun x1 =>
    if i2 < x1 then
      if i1 = 0 then
        q_M_areUnlike_61 r19 t0 i2 M
      else
        x_gR M 10 t0 46 fun a2 =>
        x_aI M 0 a2 i2 fun x3 =>
        x_gI M 10 t0 38 fun x4 =>
        if x3 = x4 then
          q_M_areUnlike_61 r19 t0 i2 M
        else
          x_gR M 10 t0 46 fun a5 =>
          x_aI M 0 a5 i2 fun x6 =>
          x_gI M 10 t0 39 fun x7 =>
          if x6 = x7 then
            q_M_areUnlike_61 r19 t0 i2 M
          else
            q_M_areUnlike_62 r19 t0 i2 (1 : Int32) M
    else
      if i1 = 0 then
        x_rz (0 : Int32) M
      else
        x_gI M 10 t0 40 fun x8 =>
        if x8 < (2 : Int32) then
          q_M_areUnlike_96 M
        else
          x_gR M 10 t0 46 fun a9 =>
          x_aI M 0 a9 (0 : Int32) fun x10 =>
          x_gR M 10 t0 46 fun a11 =>
          x_aI M 0 a11 (1 : Int32) fun x12 =>
          if x10 = x12 then
            x_rz (0 : Int32) M
          else
            q_M_areUnlike_96 M
def q_M_areUnlike_19 : Nat → Option Nat → Int32 → Int32 → mM → Option (Int32 × mM)
  | 0, _, _, _, _ => none
  | n + 1, t0, i1, i2, M => q_M_areUnlike_19_b (q_M_areUnlike_19 n) t0 i1 i2 M
set_option maxRecDepth 20000 in
theorem v_M_areUnlike_19_b {E : mE} (r19 : Option Nat → Int32 → Int32 → mM → Option (Int32 × mM)) (h19 : ∀ (t0 : Option Nat) (i1 : Int32) (i2 : Int32) (M : mM), mVr E mi_M_areUnlike 0 19 [some (.inr t0), some (.inl i1), some (.inl i2)] [] M enI (r19 t0 i1 i2 M)) (t0 : Option Nat) (i1 : Int32) (i2 : Int32) (M : mM) : mVr E mi_M_areUnlike 0 19 [some (.inr t0), some (.inl i1), some (.inl i2)] [] M enI (q_M_areUnlike_19_b r19 t0 i1 i2 M) := by
  unfold q_M_areUnlike_19_b
  refine m_iload_n (d_M_areUnlike (k := 11) rfl) rfl ?_
  refine m_aload_n (d_M_areUnlike (k := 12) rfl) rfl ?_
  refine m_getI (d_M_areUnlike (k := 13) rfl) fl_M_344 rfl (fun x1 => ?_)
  refine m_icmp_ge (tgt := 69) (d_M_areUnlike (k := 14) rfl) rfl ?_ ?_
  · refine m_iload_n (d_M_areUnlike (k := 15) rfl) rfl ?_
    refine m_if_eq (tgt := 61) (d_M_areUnlike (k := 16) rfl) rfl ?_ ?_
    · exact m_drop (mles_s (mles_n (mles_s mles_0))) (v_M_areUnlike_61 r19 h19 t0 i2 M)
    · refine m_aload_n (d_M_areUnlike (k := 17) rfl) rfl ?_
      refine m_getR (d_M_areUnlike (k := 18) rfl) fl_M_104 rfl (fun a2 => ?_)
      refine m_iload_n (d_M_areUnlike (k := 19) rfl) rfl ?_
      refine m_iald (d_M_areUnlike (k := 20) rfl) (fun x3 => ?_)
      refine m_aload_n (d_M_areUnlike (k := 21) rfl) rfl ?_
      refine m_getI (d_M_areUnlike (k := 22) rfl) fl_M_334 rfl (fun x4 => ?_)
      refine m_icmp_eq (tgt := 61) (d_M_areUnlike (k := 23) rfl) rfl ?_ ?_
      · exact m_drop (mles_s (mles_n (mles_s mles_0))) (v_M_areUnlike_61 r19 h19 t0 i2 M)
      · refine m_aload_n (d_M_areUnlike (k := 24) rfl) rfl ?_
        refine m_getR (d_M_areUnlike (k := 25) rfl) fl_M_104 rfl (fun a5 => ?_)
        refine m_iload_n (d_M_areUnlike (k := 26) rfl) rfl ?_
        refine m_iald (d_M_areUnlike (k := 27) rfl) (fun x6 => ?_)
        refine m_aload_n (d_M_areUnlike (k := 28) rfl) rfl ?_
        refine m_getI (d_M_areUnlike (k := 29) rfl) fl_M_337 rfl (fun x7 => ?_)
        refine m_icmp_eq (tgt := 61) (d_M_areUnlike (k := 30) rfl) rfl ?_ ?_
        · exact m_drop (mles_s (mles_n (mles_s mles_0))) (v_M_areUnlike_61 r19 h19 t0 i2 M)
        · refine m_iconst (v := 1) (d_M_areUnlike (k := 31) rfl) (by decide) ?_
          refine m_goto (tgt := 62) (d_M_areUnlike (k := 32) rfl) rfl ?_
          exact m_drop (mles_s (mles_n (mles_s mles_0))) (v_M_areUnlike_62 r19 h19 t0 i2 (1 : Int32) M)
  · refine m_iload_n (d_M_areUnlike (k := 37) rfl) rfl ?_
    refine m_if_eq (tgt := 100) (d_M_areUnlike (k := 38) rfl) rfl ?_ ?_
    · refine m_iconst (v := 0) (d_M_areUnlike (k := 54) rfl) (by decide) ?_
      exact m_zret (d_M_areUnlike (k := 55) rfl) rfl
    · refine m_aload_n (d_M_areUnlike (k := 39) rfl) rfl ?_
      refine m_getI (d_M_areUnlike (k := 40) rfl) fl_M_344 rfl (fun x8 => ?_)
      refine m_iconst (v := 2) (d_M_areUnlike (k := 41) rfl) (by decide) ?_
      refine m_icmp_lt (tgt := 96) (d_M_areUnlike (k := 42) rfl) rfl ?_ ?_
      · exact m_drop (mles_n (mles_n (mles_n mles_0))) (v_M_areUnlike_96 M)
      · refine m_aload_n (d_M_areUnlike (k := 43) rfl) rfl ?_
        refine m_getR (d_M_areUnlike (k := 44) rfl) fl_M_104 rfl (fun a9 => ?_)
        refine m_iconst (v := 0) (d_M_areUnlike (k := 45) rfl) (by decide) ?_
        refine m_iald (d_M_areUnlike (k := 46) rfl) (fun x10 => ?_)
        refine m_aload_n (d_M_areUnlike (k := 47) rfl) rfl ?_
        refine m_getR (d_M_areUnlike (k := 48) rfl) fl_M_104 rfl (fun a11 => ?_)
        refine m_iconst (v := 1) (d_M_areUnlike (k := 49) rfl) (by decide) ?_
        refine m_iald (d_M_areUnlike (k := 50) rfl) (fun x12 => ?_)
        refine m_icmp_eq (tgt := 100) (d_M_areUnlike (k := 51) rfl) rfl ?_ ?_
        · refine m_iconst (v := 0) (d_M_areUnlike (k := 54) rfl) (by decide) ?_
          exact m_zret (d_M_areUnlike (k := 55) rfl) rfl
        · exact m_drop (mles_n (mles_n (mles_n mles_0))) (v_M_areUnlike_96 M)
theorem v_M_areUnlike_19 {E : mE} : ∀ (n : Nat) (t0 : Option Nat) (i1 : Int32) (i2 : Int32) (M : mM), mVr E mi_M_areUnlike 0 19 [some (.inr t0), some (.inl i1), some (.inl i2)] [] M enI (q_M_areUnlike_19 n t0 i1 i2 M)
  | 0, _, _, _, _ => m_none
  | n + 1, t0, i1, i2, M => v_M_areUnlike_19_b _ (v_M_areUnlike_19 n) t0 i1 i2 M
def q_M_areUnlike_16 (t0 : Option Nat) (j0 : Int32) (M : mM) : Option (Int32 × mM) :=
    q_M_areUnlike_19 mFU t0 j0 (0 : Int32) M
set_option maxRecDepth 20000 in
theorem v_M_areUnlike_16 {E : mE} (t0 : Option Nat) (j0 : Int32) (M : mM) : mVr E mi_M_areUnlike 0 16 [some (.inr t0), none, none] [.inl j0] M enI (q_M_areUnlike_16 t0 j0 M) := by
  unfold q_M_areUnlike_16
  refine m_ist_n (ls' := [some (.inr t0), some (.inl j0), none]) (d_M_areUnlike (k := 8) rfl) (by decide) rfl ?_
  refine m_iconst (v := 0) (d_M_areUnlike (k := 9) rfl) (by decide) ?_
  refine m_ist_n (ls' := [some (.inr t0), some (.inl j0), some (.inl (0 : Int32))]) (d_M_areUnlike (k := 10) rfl) (by decide) rfl ?_
  exact m_drop (mles_s (mles_s (mles_s mles_0))) (v_M_areUnlike_19 mFU t0 j0 (0 : Int32) M)
def q_M_areUnlike (t0 : Option Nat) (M : mM) : Option (Int32 × mM) :=
    x_gI M 10 t0 38 fun x1 =>
    x_gI M 10 t0 39 fun x2 =>
    if x1 = x2 then
      q_M_areUnlike_16 t0 (0 : Int32) M
    else
      q_M_areUnlike_16 t0 (1 : Int32) M
set_option maxRecDepth 20000 in
theorem v_M_areUnlike {E : mE} (t0 : Option Nat) (M : mM) : mVr E mi_M_areUnlike 0 0 [some (.inr t0), none, none] [] M enI (q_M_areUnlike t0 M) := by
  unfold q_M_areUnlike
  refine m_aload_n (d_M_areUnlike (k := 0) rfl) rfl ?_
  refine m_getI (d_M_areUnlike (k := 1) rfl) fl_M_334 rfl (fun x1 => ?_)
  refine m_aload_n (d_M_areUnlike (k := 2) rfl) rfl ?_
  refine m_getI (d_M_areUnlike (k := 3) rfl) fl_M_337 rfl (fun x2 => ?_)
  refine m_icmp_eq (tgt := 15) (d_M_areUnlike (k := 4) rfl) rfl ?_ ?_
  · refine m_iconst (v := 0) (d_M_areUnlike (k := 7) rfl) (by decide) ?_
    exact m_drop (mles_s (mles_n (mles_n mles_0))) (v_M_areUnlike_16 t0 (0 : Int32) M)
  · refine m_iconst (v := 1) (d_M_areUnlike (k := 5) rfl) (by decide) ?_
    refine m_goto (tgt := 16) (d_M_areUnlike (k := 6) rfl) rfl ?_
    exact m_drop (mles_s (mles_n (mles_n mles_0))) (v_M_areUnlike_16 t0 (1 : Int32) M)
theorem s_M_areUnlike {E : mE} (t0 : Option Nat) (M : mM) : mSnd E mi_M_areUnlike 0 [.inr t0] M enI (q_M_areUnlike t0 M) := m_entryZ (by decide) (Nat.le_of_ble_eq_true rfl) rfl (m_drop (mles_s (mles_e (mles_e mles_0))) (v_M_areUnlike t0 M))
def dt_M_addressAt : List (Nat × Instr × Nat) := [(0, .iconst 1, 1), (1, .istore_n 2, 1), (2, .iconst 1, 1), (3, .istore_n 3, 1), (4, .iconst 0, 1), (5, .istore 4, 2), (7, .iload 4, 2), (9, .bipush 6, 2), (11, .if_icmp .ge 69, 3), (14, .iload_n 2, 1), (15, .ifCond .eq 27, 3), (18, .aload_n 0, 1), (19, .getfield 101, 3), (22, .iload_n 1, 1), (23, .iload 4, 2), (25, .iadd, 1), (26, .iaload, 1), (27, .iconst 2, 1), (28, .iload 4, 2), (30, .iconst 0, 1), (31, .invokestatic 324, 3), (34, .imul, 1), (35, .if_icmp .ne 7, 3), (38, .iconst 1, 1), (39, .goto 4, 3), (42, .iconst 0, 1), (43, .istore_n 2, 1), (44, .iload_n 3, 1), (45, .ifCond .eq 27, 3), (48, .aload_n 0, 1), (49, .getfield 101, 3), (52, .iload_n 1, 1), (53, .iload 4, 2), (55, .iadd, 1), (56, .iaload, 1), (57, .iconst 2, 1), (58, .iload 4, 2), (60, .iconst 1, 1), (61, .invokestatic 324, 3), (64, .imul, 1), (65, .if_icmp .ne 7, 3), (68, .iconst 1, 1), (69, .goto 4, 3), (72, .iconst 0, 1), (73, .istore_n 3, 1), (74, .iinc 4 1, 3), (77, .goto (-70), 3), (80, .aload_n 0, 1), (81, .aload_n 0, 1), (82, .getfield 101, 3), (85, .iload_n 1, 1), (86, .bipush 6, 2), (88, .iadd, 1), (89, .iaload, 1), (90, .putfield 328, 3), (93, .aload_n 0, 1), (94, .getfield 328, 3), (97, .bipush 126, 2), (99, .iand, 1), (100, .bipush 96, 2), (102, .isub, 1), (103, .istore 4, 2), (105, .iload_n 3, 1), (106, .ifCond .eq 15, 3), (109, .iload 4, 2), (111, .ifCond .ne 8, 3), (114, .bipush 6, 2), (116, .goto 4, 3), (119, .iconst (-1), 1), (120, .ireturn, 1), (121, .iload_n 2, 1), (122, .ifCond .eq 22, 3), (125, .iload 4, 2), (127, .ifCond .lt 17, 3), (130, .iload 4, 2), (132, .bipush 10, 2), (134, .if_icmp .gt 10, 3), (137, .iload 4, 2), (139, .iconst 2, 1), (140, .idiv, 1), (141, .goto 4, 3), (144, .iconst (-1), 1), (145, .ireturn, 1)]
theorem dx_M_addressAt : ∀ p ∈ dt_M_addressAt, decode prog_12_method_41_code p.1 = .ok p.2 := by decide +kernel
theorem d_M_addressAt {k pc : Nat} {i : Instr} {n : Nat} (h : dt_M_addressAt[k]? = some (pc, i, n)) : decode mi_M_addressAt.2.1 pc = .ok (i, n) := dx_M_addressAt (pc, i, n) (List.mem_of_getElem? h)
def q_M_addressAt_73 (r7 : Option Nat → Int32 → Int32 → Int32 → Int32 → mM → Option (Int32 × mM)) (t0 : Option Nat) (i1 : Int32) (i2 : Int32) (i4 : Int32) (j0 : Int32) (M : mM) : Option (Int32 × mM) :=
    r7 t0 i1 i2 j0 (i4 + 1) M
set_option maxRecDepth 20000 in
theorem v_M_addressAt_73 {E : mE} (r7 : Option Nat → Int32 → Int32 → Int32 → Int32 → mM → Option (Int32 × mM)) (h7 : ∀ (t0 : Option Nat) (i1 : Int32) (i2 : Int32) (i3 : Int32) (i4 : Int32) (M : mM), mVr E mi_M_addressAt 1 7 [some (.inr t0), some (.inl i1), some (.inl i2), some (.inl i3), some (.inl i4)] [] M enI (r7 t0 i1 i2 i3 i4 M)) (t0 : Option Nat) (i1 : Int32) (i2 : Int32) (i4 : Int32) (j0 : Int32) (M : mM) : mVr E mi_M_addressAt 1 73 [some (.inr t0), some (.inl i1), some (.inl i2), none, some (.inl i4)] [.inl j0] M enI (q_M_addressAt_73 r7 t0 i1 i2 i4 j0 M) := by
  unfold q_M_addressAt_73
  refine m_ist_n (ls' := [some (.inr t0), some (.inl i1), some (.inl i2), some (.inl j0), some (.inl i4)]) (d_M_addressAt (k := 44) rfl) (by decide) rfl ?_
  refine m_inc (v := 1) (ls' := [some (.inr t0), some (.inl i1), some (.inl i2), some (.inl j0), some (.inl (i4 + 1))]) (d_M_addressAt (k := 45) rfl) rfl (by decide) (by decide) rfl ?_
  refine m_goto (tgt := 7) (d_M_addressAt (k := 46) rfl) rfl ?_
  exact m_drop (mles_s (mles_s (mles_s (mles_s (mles_s mles_0))))) (h7 t0 i1 i2 j0 (i4 + 1) M)
def q_M_addressAt_72 (r7 : Option Nat → Int32 → Int32 → Int32 → Int32 → mM → Option (Int32 × mM)) (t0 : Option Nat) (i1 : Int32) (i2 : Int32) (i4 : Int32) (M : mM) : Option (Int32 × mM) :=
    q_M_addressAt_73 r7 t0 i1 i2 i4 (0 : Int32) M
set_option maxRecDepth 20000 in
theorem v_M_addressAt_72 {E : mE} (r7 : Option Nat → Int32 → Int32 → Int32 → Int32 → mM → Option (Int32 × mM)) (h7 : ∀ (t0 : Option Nat) (i1 : Int32) (i2 : Int32) (i3 : Int32) (i4 : Int32) (M : mM), mVr E mi_M_addressAt 1 7 [some (.inr t0), some (.inl i1), some (.inl i2), some (.inl i3), some (.inl i4)] [] M enI (r7 t0 i1 i2 i3 i4 M)) (t0 : Option Nat) (i1 : Int32) (i2 : Int32) (i4 : Int32) (M : mM) : mVr E mi_M_addressAt 1 72 [some (.inr t0), some (.inl i1), some (.inl i2), none, some (.inl i4)] [] M enI (q_M_addressAt_72 r7 t0 i1 i2 i4 M) := by
  unfold q_M_addressAt_72
  refine m_iconst (v := 0) (d_M_addressAt (k := 43) rfl) (by decide) ?_
  exact m_drop (mles_s (mles_s (mles_s (mles_n (mles_s mles_0))))) (v_M_addressAt_73 r7 h7 t0 i1 i2 i4 (0 : Int32) M)
def q_M_addressAt_43 (r7 : Option Nat → Int32 → Int32 → Int32 → Int32 → mM → Option (Int32 × mM)) (t0 : Option Nat) (i1 : Int32) (i3 : Int32) (i4 : Int32) (j0 : Int32) (M : mM) : Option (Int32 × mM) :=
    if i3 = 0 then
      q_M_addressAt_72 r7 t0 i1 j0 i4 M
    else
      x_gR M 10 t0 36 fun a1 =>
      x_aI M 0 a1 (i1 + i4) fun x2 =>
      x_cl (q_M_letter i4 (1 : Int32) M) fun x3 M =>
      if x2 = ((2 : Int32) * x3) then
        q_M_addressAt_73 r7 t0 i1 j0 i4 (1 : Int32) M
      else
        q_M_addressAt_72 r7 t0 i1 j0 i4 M
set_option maxRecDepth 20000 in
theorem v_M_addressAt_43 {E : mE} (r7 : Option Nat → Int32 → Int32 → Int32 → Int32 → mM → Option (Int32 × mM)) (h7 : ∀ (t0 : Option Nat) (i1 : Int32) (i2 : Int32) (i3 : Int32) (i4 : Int32) (M : mM), mVr E mi_M_addressAt 1 7 [some (.inr t0), some (.inl i1), some (.inl i2), some (.inl i3), some (.inl i4)] [] M enI (r7 t0 i1 i2 i3 i4 M)) (t0 : Option Nat) (i1 : Int32) (i3 : Int32) (i4 : Int32) (j0 : Int32) (M : mM) : mVr E mi_M_addressAt 1 43 [some (.inr t0), some (.inl i1), none, some (.inl i3), some (.inl i4)] [.inl j0] M enI (q_M_addressAt_43 r7 t0 i1 i3 i4 j0 M) := by
  unfold q_M_addressAt_43
  refine m_ist_n (ls' := [some (.inr t0), some (.inl i1), some (.inl j0), some (.inl i3), some (.inl i4)]) (d_M_addressAt (k := 26) rfl) (by decide) rfl ?_
  refine m_iload_n (d_M_addressAt (k := 27) rfl) rfl ?_
  refine m_if_eq (tgt := 72) (d_M_addressAt (k := 28) rfl) rfl ?_ ?_
  · exact m_drop (mles_s (mles_s (mles_s (mles_n (mles_s mles_0))))) (v_M_addressAt_72 r7 h7 t0 i1 j0 i4 M)
  · refine m_aload_n (d_M_addressAt (k := 29) rfl) rfl ?_
    refine m_getR (d_M_addressAt (k := 30) rfl) fl_M_101 rfl (fun a1 => ?_)
    refine m_iload_n (d_M_addressAt (k := 31) rfl) rfl ?_
    refine m_iload (d_M_addressAt (k := 32) rfl) rfl ?_
    refine m_iadd (d_M_addressAt (k := 33) rfl) ?_
    refine m_iald (d_M_addressAt (k := 34) rfl) (fun x2 => ?_)
    refine m_iconst (v := 2) (d_M_addressAt (k := 35) rfl) (by decide) ?_
    refine m_iload (d_M_addressAt (k := 36) rfl) rfl ?_
    refine m_iconst (v := 1) (d_M_addressAt (k := 37) rfl) (by decide) ?_
    refine m_csI (vs := [.inl i4, .inl (1 : Int32)]) (st := [.inl (2 : Int32), .inl x2]) (d_M_addressAt (k := 38) rfl) (s_M_letter i4 (1 : Int32) M) cd_M_letter ml_M_324 sa_M_letter (by decide) rfl (Nat.le_of_ble_eq_true rfl) (fun x3 M => ?_)
    refine m_imul (d_M_addressAt (k := 39) rfl) ?_
    refine m_icmp_ne (tgt := 72) (d_M_addressAt (k := 40) rfl) rfl ?_ ?_
    · refine m_iconst (v := 1) (d_M_addressAt (k := 41) rfl) (by decide) ?_
      refine m_goto (tgt := 73) (d_M_addressAt (k := 42) rfl) rfl ?_
      exact m_drop (mles_s (mles_s (mles_s (mles_n (mles_s mles_0))))) (v_M_addressAt_73 r7 h7 t0 i1 j0 i4 (1 : Int32) M)
    · exact m_drop (mles_s (mles_s (mles_s (mles_n (mles_s mles_0))))) (v_M_addressAt_72 r7 h7 t0 i1 j0 i4 M)
def q_M_addressAt_42 (r7 : Option Nat → Int32 → Int32 → Int32 → Int32 → mM → Option (Int32 × mM)) (t0 : Option Nat) (i1 : Int32) (i3 : Int32) (i4 : Int32) (M : mM) : Option (Int32 × mM) :=
    q_M_addressAt_43 r7 t0 i1 i3 i4 (0 : Int32) M
set_option maxRecDepth 20000 in
theorem v_M_addressAt_42 {E : mE} (r7 : Option Nat → Int32 → Int32 → Int32 → Int32 → mM → Option (Int32 × mM)) (h7 : ∀ (t0 : Option Nat) (i1 : Int32) (i2 : Int32) (i3 : Int32) (i4 : Int32) (M : mM), mVr E mi_M_addressAt 1 7 [some (.inr t0), some (.inl i1), some (.inl i2), some (.inl i3), some (.inl i4)] [] M enI (r7 t0 i1 i2 i3 i4 M)) (t0 : Option Nat) (i1 : Int32) (i3 : Int32) (i4 : Int32) (M : mM) : mVr E mi_M_addressAt 1 42 [some (.inr t0), some (.inl i1), none, some (.inl i3), some (.inl i4)] [] M enI (q_M_addressAt_42 r7 t0 i1 i3 i4 M) := by
  unfold q_M_addressAt_42
  refine m_iconst (v := 0) (d_M_addressAt (k := 25) rfl) (by decide) ?_
  exact m_drop (mles_s (mles_s (mles_n (mles_s (mles_s mles_0))))) (v_M_addressAt_43 r7 h7 t0 i1 i3 i4 (0 : Int32) M)
def q_M_addressAt_7_b (r7 : Option Nat → Int32 → Int32 → Int32 → Int32 → mM → Option (Int32 × mM)) (t0 : Option Nat) (i1 : Int32) (i2 : Int32) (i3 : Int32) (i4 : Int32) (M : mM) : Option (Int32 × mM) :=
    if i4 < (6 : Int32) then
      if i2 = 0 then
        q_M_addressAt_42 r7 t0 i1 i3 i4 M
      else
        x_gR M 10 t0 36 fun a1 =>
        x_aI M 0 a1 (i1 + i4) fun x2 =>
        x_cl (q_M_letter i4 (0 : Int32) M) fun x3 M =>
        if x2 = ((2 : Int32) * x3) then
          q_M_addressAt_43 r7 t0 i1 i3 i4 (1 : Int32) M
        else
          q_M_addressAt_42 r7 t0 i1 i3 i4 M
    else
      x_gR M 10 t0 36 fun a4 =>
      x_aI M 0 a4 (i1 + (6 : Int32)) fun x5 =>
      x_pI M 10 t0 48 x5 fun M =>
      x_gI M 10 t0 48 fun x6 =>
      x_lt ((x6 &&& (126 : Int32)) - (96 : Int32)) fun x7 =>
      if i3 = 0 then
        if i2 = 0 then
          some ((-1 : Int32), M)
        else
          if x7 < 0 then
            some ((-1 : Int32), M)
          else
            if (10 : Int32) < x7 then
              some ((-1 : Int32), M)
            else
              x_dv x7 (2 : Int32) fun x8 =>
              some (x8, M)
      else
        if x7 = 0 then
          some ((6 : Int32), M)
        else
          some ((-1 : Int32), M)
def q_M_addressAt_7 : Nat → Option Nat → Int32 → Int32 → Int32 → Int32 → mM → Option (Int32 × mM)
  | 0, _, _, _, _, _, _ => none
  | n + 1, t0, i1, i2, i3, i4, M => q_M_addressAt_7_b (q_M_addressAt_7 n) t0 i1 i2 i3 i4 M
set_option maxRecDepth 20000 in
theorem v_M_addressAt_7_b {E : mE} (r7 : Option Nat → Int32 → Int32 → Int32 → Int32 → mM → Option (Int32 × mM)) (h7 : ∀ (t0 : Option Nat) (i1 : Int32) (i2 : Int32) (i3 : Int32) (i4 : Int32) (M : mM), mVr E mi_M_addressAt 1 7 [some (.inr t0), some (.inl i1), some (.inl i2), some (.inl i3), some (.inl i4)] [] M enI (r7 t0 i1 i2 i3 i4 M)) (t0 : Option Nat) (i1 : Int32) (i2 : Int32) (i3 : Int32) (i4 : Int32) (M : mM) : mVr E mi_M_addressAt 1 7 [some (.inr t0), some (.inl i1), some (.inl i2), some (.inl i3), some (.inl i4)] [] M enI (q_M_addressAt_7_b r7 t0 i1 i2 i3 i4 M) := by
  unfold q_M_addressAt_7_b
  refine m_iload (d_M_addressAt (k := 6) rfl) rfl ?_
  refine m_bipush (v := 6) (d_M_addressAt (k := 7) rfl) (by decide) ?_
  refine m_icmp_ge (tgt := 80) (d_M_addressAt (k := 8) rfl) rfl ?_ ?_
  · refine m_iload_n (d_M_addressAt (k := 9) rfl) rfl ?_
    refine m_if_eq (tgt := 42) (d_M_addressAt (k := 10) rfl) rfl ?_ ?_
    · exact m_drop (mles_s (mles_s (mles_n (mles_s (mles_s mles_0))))) (v_M_addressAt_42 r7 h7 t0 i1 i3 i4 M)
    · refine m_aload_n (d_M_addressAt (k := 11) rfl) rfl ?_
      refine m_getR (d_M_addressAt (k := 12) rfl) fl_M_101 rfl (fun a1 => ?_)
      refine m_iload_n (d_M_addressAt (k := 13) rfl) rfl ?_
      refine m_iload (d_M_addressAt (k := 14) rfl) rfl ?_
      refine m_iadd (d_M_addressAt (k := 15) rfl) ?_
      refine m_iald (d_M_addressAt (k := 16) rfl) (fun x2 => ?_)
      refine m_iconst (v := 2) (d_M_addressAt (k := 17) rfl) (by decide) ?_
      refine m_iload (d_M_addressAt (k := 18) rfl) rfl ?_
      refine m_iconst (v := 0) (d_M_addressAt (k := 19) rfl) (by decide) ?_
      refine m_csI (vs := [.inl i4, .inl (0 : Int32)]) (st := [.inl (2 : Int32), .inl x2]) (d_M_addressAt (k := 20) rfl) (s_M_letter i4 (0 : Int32) M) cd_M_letter ml_M_324 sa_M_letter (by decide) rfl (Nat.le_of_ble_eq_true rfl) (fun x3 M => ?_)
      refine m_imul (d_M_addressAt (k := 21) rfl) ?_
      refine m_icmp_ne (tgt := 42) (d_M_addressAt (k := 22) rfl) rfl ?_ ?_
      · refine m_iconst (v := 1) (d_M_addressAt (k := 23) rfl) (by decide) ?_
        refine m_goto (tgt := 43) (d_M_addressAt (k := 24) rfl) rfl ?_
        exact m_drop (mles_s (mles_s (mles_n (mles_s (mles_s mles_0))))) (v_M_addressAt_43 r7 h7 t0 i1 i3 i4 (1 : Int32) M)
      · exact m_drop (mles_s (mles_s (mles_n (mles_s (mles_s mles_0))))) (v_M_addressAt_42 r7 h7 t0 i1 i3 i4 M)
  · refine m_aload_n (d_M_addressAt (k := 47) rfl) rfl ?_
    refine m_aload_n (d_M_addressAt (k := 48) rfl) rfl ?_
    refine m_getR (d_M_addressAt (k := 49) rfl) fl_M_101 rfl (fun a4 => ?_)
    refine m_iload_n (d_M_addressAt (k := 50) rfl) rfl ?_
    refine m_bipush (v := 6) (d_M_addressAt (k := 51) rfl) (by decide) ?_
    refine m_iadd (d_M_addressAt (k := 52) rfl) ?_
    refine m_iald (d_M_addressAt (k := 53) rfl) (fun x5 => ?_)
    refine m_pI (d_M_addressAt (k := 54) rfl) fp_M_328 (fun h => absurd h (by decide)) rfl (fun M => ?_)
    refine m_aload_n (d_M_addressAt (k := 55) rfl) rfl ?_
    refine m_getI (d_M_addressAt (k := 56) rfl) fl_M_328 rfl (fun x6 => ?_)
    refine m_bipush (v := 126) (d_M_addressAt (k := 57) rfl) (by decide) ?_
    refine m_iand (d_M_addressAt (k := 58) rfl) ?_
    refine m_bipush (v := 96) (d_M_addressAt (k := 59) rfl) (by decide) ?_
    refine m_isub (d_M_addressAt (k := 60) rfl) ?_
    refine m_lt (fun x7 => ?_)
    refine m_ist (ls' := [some (.inr t0), some (.inl i1), some (.inl i2), some (.inl i3), some (.inl x7)]) (d_M_addressAt (k := 61) rfl) (by decide) rfl ?_
    refine m_iload_n (d_M_addressAt (k := 62) rfl) rfl ?_
    refine m_if_eq (tgt := 121) (d_M_addressAt (k := 63) rfl) rfl ?_ ?_
    · refine m_iload_n (d_M_addressAt (k := 70) rfl) rfl ?_
      refine m_if_eq (tgt := 144) (d_M_addressAt (k := 71) rfl) rfl ?_ ?_
      · refine m_iconst (v := (-1)) (d_M_addressAt (k := 81) rfl) (by decide) ?_
        exact m_iret (d_M_addressAt (k := 82) rfl) rfl
      · refine m_iload (d_M_addressAt (k := 72) rfl) rfl ?_
        refine m_if_lt (tgt := 144) (d_M_addressAt (k := 73) rfl) rfl ?_ ?_
        · refine m_iconst (v := (-1)) (d_M_addressAt (k := 81) rfl) (by decide) ?_
          exact m_iret (d_M_addressAt (k := 82) rfl) rfl
        · refine m_iload (d_M_addressAt (k := 74) rfl) rfl ?_
          refine m_bipush (v := 10) (d_M_addressAt (k := 75) rfl) (by decide) ?_
          refine m_icmp_gt (tgt := 144) (d_M_addressAt (k := 76) rfl) rfl ?_ ?_
          · refine m_iconst (v := (-1)) (d_M_addressAt (k := 81) rfl) (by decide) ?_
            exact m_iret (d_M_addressAt (k := 82) rfl) rfl
          · refine m_iload (d_M_addressAt (k := 77) rfl) rfl ?_
            refine m_iconst (v := 2) (d_M_addressAt (k := 78) rfl) (by decide) ?_
            refine m_idiv (d_M_addressAt (k := 79) rfl) (fun x8 => ?_)
            refine m_goto (tgt := 145) (d_M_addressAt (k := 80) rfl) rfl ?_
            exact m_iret (d_M_addressAt (k := 82) rfl) rfl
    · refine m_iload (d_M_addressAt (k := 64) rfl) rfl ?_
      refine m_if_ne (tgt := 119) (d_M_addressAt (k := 65) rfl) rfl ?_ ?_
      · refine m_bipush (v := 6) (d_M_addressAt (k := 66) rfl) (by decide) ?_
        refine m_goto (tgt := 120) (d_M_addressAt (k := 67) rfl) rfl ?_
        exact m_iret (d_M_addressAt (k := 69) rfl) rfl
      · refine m_iconst (v := (-1)) (d_M_addressAt (k := 68) rfl) (by decide) ?_
        exact m_iret (d_M_addressAt (k := 69) rfl) rfl
theorem v_M_addressAt_7 {E : mE} : ∀ (n : Nat) (t0 : Option Nat) (i1 : Int32) (i2 : Int32) (i3 : Int32) (i4 : Int32) (M : mM), mVr E mi_M_addressAt 1 7 [some (.inr t0), some (.inl i1), some (.inl i2), some (.inl i3), some (.inl i4)] [] M enI (q_M_addressAt_7 n t0 i1 i2 i3 i4 M)
  | 0, _, _, _, _, _, _ => m_none
  | n + 1, t0, i1, i2, i3, i4, M => v_M_addressAt_7_b _ (v_M_addressAt_7 n) t0 i1 i2 i3 i4 M
def q_M_addressAt (t0 : Option Nat) (i1 : Int32) (M : mM) : Option (Int32 × mM) :=
    q_M_addressAt_7 mFU t0 i1 (1 : Int32) (1 : Int32) (0 : Int32) M
set_option maxRecDepth 20000 in
theorem v_M_addressAt {E : mE} (t0 : Option Nat) (i1 : Int32) (M : mM) : mVr E mi_M_addressAt 1 0 [some (.inr t0), some (.inl i1), none, none, none] [] M enI (q_M_addressAt t0 i1 M) := by
  unfold q_M_addressAt
  refine m_iconst (v := 1) (d_M_addressAt (k := 0) rfl) (by decide) ?_
  refine m_ist_n (ls' := [some (.inr t0), some (.inl i1), some (.inl (1 : Int32)), none, none]) (d_M_addressAt (k := 1) rfl) (by decide) rfl ?_
  refine m_iconst (v := 1) (d_M_addressAt (k := 2) rfl) (by decide) ?_
  refine m_ist_n (ls' := [some (.inr t0), some (.inl i1), some (.inl (1 : Int32)), some (.inl (1 : Int32)), none]) (d_M_addressAt (k := 3) rfl) (by decide) rfl ?_
  refine m_iconst (v := 0) (d_M_addressAt (k := 4) rfl) (by decide) ?_
  refine m_ist (ls' := [some (.inr t0), some (.inl i1), some (.inl (1 : Int32)), some (.inl (1 : Int32)), some (.inl (0 : Int32))]) (d_M_addressAt (k := 5) rfl) (by decide) rfl ?_
  exact m_drop (mles_s (mles_s (mles_s (mles_s (mles_s mles_0))))) (v_M_addressAt_7 mFU t0 i1 (1 : Int32) (1 : Int32) (0 : Int32) M)
theorem s_M_addressAt {E : mE} (t0 : Option Nat) (i1 : Int32) (M : mM) : mSnd E mi_M_addressAt 1 [.inr t0, .inl i1] M enI (q_M_addressAt t0 i1 M) := m_entryI (by decide) (Nat.le_of_ble_eq_true rfl) rfl (m_drop (mles_s (mles_s (mles_e (mles_e (mles_e mles_0))))) (v_M_addressAt t0 i1 M))
def dt_M_hasAddresses_0 : List (Nat × Instr × Nat) := [(0, .aload_n 0, 1), (1, .aload_n 0, 1), (2, .iconst 0, 1), (3, .invokevirtual 331, 3), (6, .putfield 334, 3), (9, .aload_n 0, 1), (10, .getfield 328, 3), (13, .bipush 127, 2), (15, .if_icmp .le 7, 3), (18, .iconst 1, 1), (19, .goto 4, 3), (22, .iconst 0, 1), (23, .istore_n 1, 1), (24, .aload_n 0, 1), (25, .getfield 334, 3), (28, .iconst (-1), 1), (29, .if_icmp .eq 13, 3), (32, .aload_n 0, 1), (33, .getfield 328, 3), (36, .iconst 2, 1), (37, .irem, 1), (38, .iconst 1, 1), (39, .if_icmp .ne 5, 3), (42, .iconst 0, 1), (43, .ireturn, 1), (44, .aload_n 0, 1), (45, .aload_n 0, 1), (46, .bipush 7, 2), (48, .invokevirtual 331, 3), (51, .putfield 337, 3), (54, .aload_n 0, 1), (55, .iload_n 1, 1), (56, .putfield 340, 3), (59, .aload_n 0, 1), (60, .getfield 337, 3), (63, .invokestatic 207, 3), (66, .ifCond .eq 21, 3), (69, .iload_n 1, 1), (70, .aload_n 0, 1), (71, .getfield 328, 3)]
theorem dx_M_hasAddresses_0 : ∀ p ∈ dt_M_hasAddresses_0, decode prog_12_method_42_code p.1 = .ok p.2 := by decide +kernel
theorem d_M_hasAddresses_0 {k pc : Nat} {i : Instr} {n : Nat} (h : dt_M_hasAddresses_0[k]? = some (pc, i, n)) : decode mi_M_hasAddresses.2.1 pc = .ok (i, n) := dx_M_hasAddresses_0 (pc, i, n) (List.mem_of_getElem? h)
def dt_M_hasAddresses_1 : List (Nat × Instr × Nat) := [(74, .bipush 127, 2), (76, .if_icmp .le 7, 3), (79, .iconst 1, 1), (80, .goto 4, 3), (83, .iconst 0, 1), (84, .if_icmp .ne 5, 3), (87, .iconst 0, 1), (88, .ireturn, 1), (89, .aload_n 0, 1), (90, .iconst 0, 1), (91, .putfield 344, 3), (94, .bipush 14, 2), (96, .istore_n 2, 1), (97, .aload_n 0, 1), (98, .getfield 328, 3), (101, .iconst 2, 1), (102, .irem, 1), (103, .ifCond .ne 94, 3), (106, .aload_n 0, 1), (107, .getfield 344, 3), (110, .iconst 2, 1), (111, .if_icmp .eq 14, 3), (114, .iload_n 2, 1), (115, .bipush 7, 2), (117, .iadd, 1), (118, .aload_n 0, 1), (119, .getfield 347, 3), (122, .if_icmp .le 5, 3), (125, .iconst 0, 1), (126, .ireturn, 1), (127, .aload_n 0, 1), (128, .getfield 104, 3), (131, .aload_n 0, 1), (132, .getfield 344, 3), (135, .aload_n 0, 1), (136, .iload_n 2, 1), (137, .invokevirtual 331, 3), (140, .iastore, 1), (141, .aload_n 0, 1), (142, .getfield 104, 3)]
theorem dx_M_hasAddresses_1 : ∀ p ∈ dt_M_hasAddresses_1, decode prog_12_method_42_code p.1 = .ok p.2 := by decide +kernel
theorem d_M_hasAddresses_1 {k pc : Nat} {i : Instr} {n : Nat} (h : dt_M_hasAddresses_1[k]? = some (pc, i, n)) : decode mi_M_hasAddresses.2.1 pc = .ok (i, n) := dx_M_hasAddresses_1 (pc, i, n) (List.mem_of_getElem? h)
def dt_M_hasAddresses_2 : List (Nat × Instr × Nat) := [(145, .aload_n 0, 1), (146, .getfield 344, 3), (149, .iaload, 1), (150, .invokestatic 207, 3), (153, .ifCond .ne 5, 3), (156, .iconst 0, 1), (157, .ireturn, 1), (158, .aload_n 0, 1), (159, .getfield 107, 3), (162, .aload_n 0, 1), (163, .getfield 344, 3), (166, .aload_n 0, 1), (167, .getfield 328, 3), (170, .bipush 127, 2), (172, .if_icmp .le 7, 3), (175, .iconst 1, 1), (176, .goto 4, 3), (179, .iconst 0, 1), (180, .bastore, 1), (181, .aload_n 0, 1), (182, .dup, 1), (183, .getfield 344, 3), (186, .iconst 1, 1), (187, .iadd, 1), (188, .putfield 344, 3), (191, .iinc 2 7, 3), (194, .goto (-97), 3), (197, .aload_n 0, 1), (198, .iload_n 2, 1), (199, .putfield 350, 3), (202, .iconst 1, 1), (203, .ireturn, 1)]
theorem dx_M_hasAddresses_2 : ∀ p ∈ dt_M_hasAddresses_2, decode prog_12_method_42_code p.1 = .ok p.2 := by decide +kernel
theorem d_M_hasAddresses_2 {k pc : Nat} {i : Instr} {n : Nat} (h : dt_M_hasAddresses_2[k]? = some (pc, i, n)) : decode mi_M_hasAddresses.2.1 pc = .ok (i, n) := dx_M_hasAddresses_2 (pc, i, n) (List.mem_of_getElem? h)
def q_M_hasAddresses_180 (r97 : Option Nat → Int32 → mM → Option (Int32 × mM)) (t0 : Option Nat) (i2 : Int32) (j0 : Int32) (j1 : Int32) (u2 : Option Nat) (M : mM) : Option (Int32 × mM) :=
    x_wZ M u2 j1 j0 fun M =>
    x_gI M 10 t0 40 fun x1 =>
    x_pI M 10 t0 40 (x1 + (1 : Int32)) fun M =>
    r97 t0 (i2 + 7) M
set_option maxRecDepth 20000 in
theorem v_M_hasAddresses_180 {E : mE} (r97 : Option Nat → Int32 → mM → Option (Int32 × mM)) (h97 : ∀ (t0 : Option Nat) (i2 : Int32) (M : mM), mVr E mi_M_hasAddresses 2 97 [some (.inr t0), none, some (.inl i2)] [] M enI (r97 t0 i2 M)) (t0 : Option Nat) (i2 : Int32) (j0 : Int32) (j1 : Int32) (u2 : Option Nat) (M : mM) : mVr E mi_M_hasAddresses 2 180 [some (.inr t0), none, some (.inl i2)] [.inl j0, .inl j1, .inr u2] M enI (q_M_hasAddresses_180 r97 t0 i2 j0 j1 u2 M) := by
  unfold q_M_hasAddresses_180
  refine m_zast (d_M_hasAddresses_2 (k := 18) rfl) (fun M => ?_)
  refine m_aload_n (d_M_hasAddresses_2 (k := 19) rfl) rfl ?_
  refine m_dup (d_M_hasAddresses_2 (k := 20) rfl) ?_
  refine m_getI (d_M_hasAddresses_2 (k := 21) rfl) fl_M_344 rfl (fun x1 => ?_)
  refine m_iconst (v := 1) (d_M_hasAddresses_2 (k := 22) rfl) (by decide) ?_
  refine m_iadd (d_M_hasAddresses_2 (k := 23) rfl) ?_
  refine m_pI (d_M_hasAddresses_2 (k := 24) rfl) fp_M_344 (fun h => absurd h (by decide)) rfl (fun M => ?_)
  refine m_inc (v := 7) (ls' := [some (.inr t0), none, some (.inl (i2 + 7))]) (d_M_hasAddresses_2 (k := 25) rfl) rfl (by decide) (by decide) rfl ?_
  refine m_goto (tgt := 97) (d_M_hasAddresses_2 (k := 26) rfl) rfl ?_
  exact m_drop (mles_s (mles_n (mles_s mles_0))) (h97 t0 (i2 + 7) M)
def q_M_hasAddresses_97_b (r97 : Option Nat → Int32 → mM → Option (Int32 × mM)) (t0 : Option Nat) (i2 : Int32) (M : mM) : Option (Int32 × mM) :=
    x_gI M 10 t0 48 fun x1 =>
    x_rm x1 (2 : Int32) fun x2 =>
    if x2 = 0 then
      x_gI M 10 t0 40 fun x3 =>
      if x3 = (2 : Int32) then
        x_rz (0 : Int32) M
      else
        x_gI M 10 t0 37 fun x4 =>
        if x4 < (i2 + (7 : Int32)) then
          x_rz (0 : Int32) M
        else
          x_gR M 10 t0 46 fun a5 =>
          x_gI M 10 t0 40 fun x6 =>
          x_cv M 10 t0 (q_M_addressAt t0 i2 M) fun x7 M =>
          x_wI M a5 x6 x7 fun M =>
          x_gR M 10 t0 46 fun a8 =>
          x_gI M 10 t0 40 fun x9 =>
          x_aI M 0 a8 x9 fun x10 =>
          x_cl (q_M_isStation x10 M) fun x11 M =>
          if x11 = 0 then
            x_rz (0 : Int32) M
          else
            x_gR M 10 t0 47 fun a12 =>
            x_gI M 10 t0 40 fun x13 =>
            x_gI M 10 t0 48 fun x14 =>
            if (127 : Int32) < x14 then
              q_M_hasAddresses_180 r97 t0 i2 (1 : Int32) x13 a12 M
            else
              q_M_hasAddresses_180 r97 t0 i2 (0 : Int32) x13 a12 M
    else
      x_pI M 10 t0 43 i2 fun M =>
      x_rz (1 : Int32) M
def q_M_hasAddresses_97 : Nat → Option Nat → Int32 → mM → Option (Int32 × mM)
  | 0, _, _, _ => none
  | n + 1, t0, i2, M => q_M_hasAddresses_97_b (q_M_hasAddresses_97 n) t0 i2 M
set_option maxRecDepth 20000 in
theorem v_M_hasAddresses_97_b {E : mE} (r97 : Option Nat → Int32 → mM → Option (Int32 × mM)) (h97 : ∀ (t0 : Option Nat) (i2 : Int32) (M : mM), mVr E mi_M_hasAddresses 2 97 [some (.inr t0), none, some (.inl i2)] [] M enI (r97 t0 i2 M)) (t0 : Option Nat) (i2 : Int32) (M : mM) : mVr E mi_M_hasAddresses 2 97 [some (.inr t0), none, some (.inl i2)] [] M enI (q_M_hasAddresses_97_b r97 t0 i2 M) := by
  unfold q_M_hasAddresses_97_b
  refine m_aload_n (d_M_hasAddresses_1 (k := 13) rfl) rfl ?_
  refine m_getI (d_M_hasAddresses_1 (k := 14) rfl) fl_M_328 rfl (fun x1 => ?_)
  refine m_iconst (v := 2) (d_M_hasAddresses_1 (k := 15) rfl) (by decide) ?_
  refine m_irem (d_M_hasAddresses_1 (k := 16) rfl) (fun x2 => ?_)
  refine m_if_ne (tgt := 197) (d_M_hasAddresses_1 (k := 17) rfl) rfl ?_ ?_
  · refine m_aload_n (d_M_hasAddresses_1 (k := 18) rfl) rfl ?_
    refine m_getI (d_M_hasAddresses_1 (k := 19) rfl) fl_M_344 rfl (fun x3 => ?_)
    refine m_iconst (v := 2) (d_M_hasAddresses_1 (k := 20) rfl) (by decide) ?_
    refine m_icmp_eq (tgt := 125) (d_M_hasAddresses_1 (k := 21) rfl) rfl ?_ ?_
    · refine m_iconst (v := 0) (d_M_hasAddresses_1 (k := 28) rfl) (by decide) ?_
      exact m_zret (d_M_hasAddresses_1 (k := 29) rfl) rfl
    · refine m_iload_n (d_M_hasAddresses_1 (k := 22) rfl) rfl ?_
      refine m_bipush (v := 7) (d_M_hasAddresses_1 (k := 23) rfl) (by decide) ?_
      refine m_iadd (d_M_hasAddresses_1 (k := 24) rfl) ?_
      refine m_aload_n (d_M_hasAddresses_1 (k := 25) rfl) rfl ?_
      refine m_getI (d_M_hasAddresses_1 (k := 26) rfl) fl_M_347 rfl (fun x4 => ?_)
      refine m_icmp_le (tgt := 127) (d_M_hasAddresses_1 (k := 27) rfl) rfl ?_ ?_
      · refine m_iconst (v := 0) (d_M_hasAddresses_1 (k := 28) rfl) (by decide) ?_
        exact m_zret (d_M_hasAddresses_1 (k := 29) rfl) rfl
      · refine m_aload_n (d_M_hasAddresses_1 (k := 30) rfl) rfl ?_
        refine m_getR (d_M_hasAddresses_1 (k := 31) rfl) fl_M_104 rfl (fun a5 => ?_)
        refine m_aload_n (d_M_hasAddresses_1 (k := 32) rfl) rfl ?_
        refine m_getI (d_M_hasAddresses_1 (k := 33) rfl) fl_M_344 rfl (fun x6 => ?_)
        refine m_aload_n (d_M_hasAddresses_1 (k := 34) rfl) rfl ?_
        refine m_iload_n (d_M_hasAddresses_1 (k := 35) rfl) rfl ?_
        refine m_cvI (c := 10) (vs := [.inl i2]) (st := [.inl x6, .inr a5]) (d_M_hasAddresses_1 (k := 36) rfl) (s_M_addressAt t0 i2 M) cd_M_addressAt ml_M_331 im_M_addressAt se_M_addressAt rfl (by decide) rfl (Nat.le_of_ble_eq_true rfl) (fun x7 M => ?_)
        refine m_iast (d_M_hasAddresses_1 (k := 37) rfl) (fun M => ?_)
        refine m_aload_n (d_M_hasAddresses_1 (k := 38) rfl) rfl ?_
        refine m_getR (d_M_hasAddresses_1 (k := 39) rfl) fl_M_104 rfl (fun a8 => ?_)
        refine m_aload_n (d_M_hasAddresses_2 (k := 0) rfl) rfl ?_
        refine m_getI (d_M_hasAddresses_2 (k := 1) rfl) fl_M_344 rfl (fun x9 => ?_)
        refine m_iald (d_M_hasAddresses_2 (k := 2) rfl) (fun x10 => ?_)
        refine m_csI (vs := [.inl x10]) (st := []) (d_M_hasAddresses_2 (k := 3) rfl) (s_M_isStation x10 M) cd_M_isStation ml_M_207 sa_M_isStation (by decide) rfl (Nat.le_of_ble_eq_true rfl) (fun x11 M => ?_)
        refine m_if_ne (tgt := 158) (d_M_hasAddresses_2 (k := 4) rfl) rfl ?_ ?_
        · refine m_iconst (v := 0) (d_M_hasAddresses_2 (k := 5) rfl) (by decide) ?_
          exact m_zret (d_M_hasAddresses_2 (k := 6) rfl) rfl
        · refine m_aload_n (d_M_hasAddresses_2 (k := 7) rfl) rfl ?_
          refine m_getR (d_M_hasAddresses_2 (k := 8) rfl) fl_M_107 rfl (fun a12 => ?_)
          refine m_aload_n (d_M_hasAddresses_2 (k := 9) rfl) rfl ?_
          refine m_getI (d_M_hasAddresses_2 (k := 10) rfl) fl_M_344 rfl (fun x13 => ?_)
          refine m_aload_n (d_M_hasAddresses_2 (k := 11) rfl) rfl ?_
          refine m_getI (d_M_hasAddresses_2 (k := 12) rfl) fl_M_328 rfl (fun x14 => ?_)
          refine m_bipush (v := 127) (d_M_hasAddresses_2 (k := 13) rfl) (by decide) ?_
          refine m_icmp_le (tgt := 179) (d_M_hasAddresses_2 (k := 14) rfl) rfl ?_ ?_
          · refine m_iconst (v := 1) (d_M_hasAddresses_2 (k := 15) rfl) (by decide) ?_
            refine m_goto (tgt := 180) (d_M_hasAddresses_2 (k := 16) rfl) rfl ?_
            exact m_drop (mles_s (mles_n (mles_s mles_0))) (v_M_hasAddresses_180 r97 h97 t0 i2 (1 : Int32) x13 a12 M)
          · refine m_iconst (v := 0) (d_M_hasAddresses_2 (k := 17) rfl) (by decide) ?_
            exact m_drop (mles_s (mles_n (mles_s mles_0))) (v_M_hasAddresses_180 r97 h97 t0 i2 (0 : Int32) x13 a12 M)
  · refine m_aload_n (d_M_hasAddresses_2 (k := 27) rfl) rfl ?_
    refine m_iload_n (d_M_hasAddresses_2 (k := 28) rfl) rfl ?_
    refine m_pI (d_M_hasAddresses_2 (k := 29) rfl) fp_M_350 (fun h => absurd h (by decide)) rfl (fun M => ?_)
    refine m_iconst (v := 1) (d_M_hasAddresses_2 (k := 30) rfl) (by decide) ?_
    exact m_zret (d_M_hasAddresses_2 (k := 31) rfl) rfl
theorem v_M_hasAddresses_97 {E : mE} : ∀ (n : Nat) (t0 : Option Nat) (i2 : Int32) (M : mM), mVr E mi_M_hasAddresses 2 97 [some (.inr t0), none, some (.inl i2)] [] M enI (q_M_hasAddresses_97 n t0 i2 M)
  | 0, _, _, _ => m_none
  | n + 1, t0, i2, M => v_M_hasAddresses_97_b _ (v_M_hasAddresses_97 n) t0 i2 M
def q_M_hasAddresses_84 (t0 : Option Nat) (j0 : Int32) (j1 : Int32) (M : mM) : Option (Int32 × mM) :=
    if j1 = j0 then
      x_rz (0 : Int32) M
    else
      x_pI M 10 t0 40 (0 : Int32) fun M =>
      q_M_hasAddresses_97 mFU t0 (14 : Int32) M
set_option maxRecDepth 20000 in
theorem v_M_hasAddresses_84 {E : mE} (t0 : Option Nat) (j0 : Int32) (j1 : Int32) (M : mM) : mVr E mi_M_hasAddresses 2 84 [some (.inr t0), none, none] [.inl j0, .inl j1] M enI (q_M_hasAddresses_84 t0 j0 j1 M) := by
  unfold q_M_hasAddresses_84
  refine m_icmp_ne (tgt := 89) (d_M_hasAddresses_1 (k := 5) rfl) rfl ?_ ?_
  · refine m_iconst (v := 0) (d_M_hasAddresses_1 (k := 6) rfl) (by decide) ?_
    exact m_zret (d_M_hasAddresses_1 (k := 7) rfl) rfl
  · refine m_aload_n (d_M_hasAddresses_1 (k := 8) rfl) rfl ?_
    refine m_iconst (v := 0) (d_M_hasAddresses_1 (k := 9) rfl) (by decide) ?_
    refine m_pI (d_M_hasAddresses_1 (k := 10) rfl) fp_M_344 (fun h => absurd h (by decide)) rfl (fun M => ?_)
    refine m_bipush (v := 14) (d_M_hasAddresses_1 (k := 11) rfl) (by decide) ?_
    refine m_ist_n (ls' := [some (.inr t0), none, some (.inl (14 : Int32))]) (d_M_hasAddresses_1 (k := 12) rfl) (by decide) rfl ?_
    exact m_drop (mles_s (mles_n (mles_s mles_0))) (v_M_hasAddresses_97 mFU t0 (14 : Int32) M)
def q_M_hasAddresses_23 (t0 : Option Nat) (j0 : Int32) (M : mM) : Option (Int32 × mM) :=
    x_gI M 10 t0 38 fun x1 =>
    if x1 = (-1 : Int32) then
      x_rz (0 : Int32) M
    else
      x_gI M 10 t0 48 fun x2 =>
      x_rm x2 (2 : Int32) fun x3 =>
      if x3 = (1 : Int32) then
        x_rz (0 : Int32) M
      else
        x_cv M 10 t0 (q_M_addressAt t0 (7 : Int32) M) fun x4 M =>
        x_pI M 10 t0 39 x4 fun M =>
        x_pZ M 10 t0 44 j0 fun M =>
        x_gI M 10 t0 39 fun x5 =>
        x_cl (q_M_isStation x5 M) fun x6 M =>
        if x6 = 0 then
          x_rz (0 : Int32) M
        else
          x_gI M 10 t0 48 fun x7 =>
          if (127 : Int32) < x7 then
            q_M_hasAddresses_84 t0 (1 : Int32) j0 M
          else
            q_M_hasAddresses_84 t0 (0 : Int32) j0 M
set_option maxRecDepth 20000 in
theorem v_M_hasAddresses_23 {E : mE} (t0 : Option Nat) (j0 : Int32) (M : mM) : mVr E mi_M_hasAddresses 2 23 [some (.inr t0), none, none] [.inl j0] M enI (q_M_hasAddresses_23 t0 j0 M) := by
  unfold q_M_hasAddresses_23
  refine m_ist_n (ls' := [some (.inr t0), some (.inl j0), none]) (d_M_hasAddresses_0 (k := 12) rfl) (by decide) rfl ?_
  refine m_aload_n (d_M_hasAddresses_0 (k := 13) rfl) rfl ?_
  refine m_getI (d_M_hasAddresses_0 (k := 14) rfl) fl_M_334 rfl (fun x1 => ?_)
  refine m_iconst (v := (-1)) (d_M_hasAddresses_0 (k := 15) rfl) (by decide) ?_
  refine m_icmp_eq (tgt := 42) (d_M_hasAddresses_0 (k := 16) rfl) rfl ?_ ?_
  · refine m_iconst (v := 0) (d_M_hasAddresses_0 (k := 23) rfl) (by decide) ?_
    exact m_zret (d_M_hasAddresses_0 (k := 24) rfl) rfl
  · refine m_aload_n (d_M_hasAddresses_0 (k := 17) rfl) rfl ?_
    refine m_getI (d_M_hasAddresses_0 (k := 18) rfl) fl_M_328 rfl (fun x2 => ?_)
    refine m_iconst (v := 2) (d_M_hasAddresses_0 (k := 19) rfl) (by decide) ?_
    refine m_irem (d_M_hasAddresses_0 (k := 20) rfl) (fun x3 => ?_)
    refine m_iconst (v := 1) (d_M_hasAddresses_0 (k := 21) rfl) (by decide) ?_
    refine m_icmp_ne (tgt := 44) (d_M_hasAddresses_0 (k := 22) rfl) rfl ?_ ?_
    · refine m_iconst (v := 0) (d_M_hasAddresses_0 (k := 23) rfl) (by decide) ?_
      exact m_zret (d_M_hasAddresses_0 (k := 24) rfl) rfl
    · refine m_aload_n (d_M_hasAddresses_0 (k := 25) rfl) rfl ?_
      refine m_aload_n (d_M_hasAddresses_0 (k := 26) rfl) rfl ?_
      refine m_bipush (v := 7) (d_M_hasAddresses_0 (k := 27) rfl) (by decide) ?_
      refine m_cvI (c := 10) (vs := [.inl (7 : Int32)]) (st := [.inr t0]) (d_M_hasAddresses_0 (k := 28) rfl) (s_M_addressAt t0 (7 : Int32) M) cd_M_addressAt ml_M_331 im_M_addressAt se_M_addressAt rfl (by decide) rfl (Nat.le_of_ble_eq_true rfl) (fun x4 M => ?_)
      refine m_pI (d_M_hasAddresses_0 (k := 29) rfl) fp_M_337 (fun h => absurd h (by decide)) rfl (fun M => ?_)
      refine m_aload_n (d_M_hasAddresses_0 (k := 30) rfl) rfl ?_
      refine m_iload_n (d_M_hasAddresses_0 (k := 31) rfl) rfl ?_
      refine m_pZ (d_M_hasAddresses_0 (k := 32) rfl) fp_M_340 (fun h => absurd h (by decide)) rfl (fun M => ?_)
      refine m_aload_n (d_M_hasAddresses_0 (k := 33) rfl) rfl ?_
      refine m_getI (d_M_hasAddresses_0 (k := 34) rfl) fl_M_337 rfl (fun x5 => ?_)
      refine m_csI (vs := [.inl x5]) (st := []) (d_M_hasAddresses_0 (k := 35) rfl) (s_M_isStation x5 M) cd_M_isStation ml_M_207 sa_M_isStation (by decide) rfl (Nat.le_of_ble_eq_true rfl) (fun x6 M => ?_)
      refine m_if_eq (tgt := 87) (d_M_hasAddresses_0 (k := 36) rfl) rfl ?_ ?_
      · refine m_iconst (v := 0) (d_M_hasAddresses_1 (k := 6) rfl) (by decide) ?_
        exact m_zret (d_M_hasAddresses_1 (k := 7) rfl) rfl
      · refine m_iload_n (d_M_hasAddresses_0 (k := 37) rfl) rfl ?_
        refine m_aload_n (d_M_hasAddresses_0 (k := 38) rfl) rfl ?_
        refine m_getI (d_M_hasAddresses_0 (k := 39) rfl) fl_M_328 rfl (fun x7 => ?_)
        refine m_bipush (v := 127) (d_M_hasAddresses_1 (k := 0) rfl) (by decide) ?_
        refine m_icmp_le (tgt := 83) (d_M_hasAddresses_1 (k := 1) rfl) rfl ?_ ?_
        · refine m_iconst (v := 1) (d_M_hasAddresses_1 (k := 2) rfl) (by decide) ?_
          refine m_goto (tgt := 84) (d_M_hasAddresses_1 (k := 3) rfl) rfl ?_
          exact m_drop (mles_s (mles_n (mles_n mles_0))) (v_M_hasAddresses_84 t0 (1 : Int32) j0 M)
        · refine m_iconst (v := 0) (d_M_hasAddresses_1 (k := 4) rfl) (by decide) ?_
          exact m_drop (mles_s (mles_n (mles_n mles_0))) (v_M_hasAddresses_84 t0 (0 : Int32) j0 M)
def q_M_hasAddresses (t0 : Option Nat) (M : mM) : Option (Int32 × mM) :=
    x_cv M 10 t0 (q_M_addressAt t0 (0 : Int32) M) fun x1 M =>
    x_pI M 10 t0 38 x1 fun M =>
    x_gI M 10 t0 48 fun x2 =>
    if (127 : Int32) < x2 then
      q_M_hasAddresses_23 t0 (1 : Int32) M
    else
      q_M_hasAddresses_23 t0 (0 : Int32) M
set_option maxRecDepth 20000 in
theorem v_M_hasAddresses {E : mE} (t0 : Option Nat) (M : mM) : mVr E mi_M_hasAddresses 2 0 [some (.inr t0), none, none] [] M enI (q_M_hasAddresses t0 M) := by
  unfold q_M_hasAddresses
  refine m_aload_n (d_M_hasAddresses_0 (k := 0) rfl) rfl ?_
  refine m_aload_n (d_M_hasAddresses_0 (k := 1) rfl) rfl ?_
  refine m_iconst (v := 0) (d_M_hasAddresses_0 (k := 2) rfl) (by decide) ?_
  refine m_cvI (c := 10) (vs := [.inl (0 : Int32)]) (st := [.inr t0]) (d_M_hasAddresses_0 (k := 3) rfl) (s_M_addressAt t0 (0 : Int32) M) cd_M_addressAt ml_M_331 im_M_addressAt se_M_addressAt rfl (by decide) rfl (Nat.le_of_ble_eq_true rfl) (fun x1 M => ?_)
  refine m_pI (d_M_hasAddresses_0 (k := 4) rfl) fp_M_334 (fun h => absurd h (by decide)) rfl (fun M => ?_)
  refine m_aload_n (d_M_hasAddresses_0 (k := 5) rfl) rfl ?_
  refine m_getI (d_M_hasAddresses_0 (k := 6) rfl) fl_M_328 rfl (fun x2 => ?_)
  refine m_bipush (v := 127) (d_M_hasAddresses_0 (k := 7) rfl) (by decide) ?_
  refine m_icmp_le (tgt := 22) (d_M_hasAddresses_0 (k := 8) rfl) rfl ?_ ?_
  · refine m_iconst (v := 1) (d_M_hasAddresses_0 (k := 9) rfl) (by decide) ?_
    refine m_goto (tgt := 23) (d_M_hasAddresses_0 (k := 10) rfl) rfl ?_
    exact m_drop (mles_s (mles_n (mles_n mles_0))) (v_M_hasAddresses_23 t0 (1 : Int32) M)
  · refine m_iconst (v := 0) (d_M_hasAddresses_0 (k := 11) rfl) (by decide) ?_
    exact m_drop (mles_s (mles_n (mles_n mles_0))) (v_M_hasAddresses_23 t0 (0 : Int32) M)
theorem s_M_hasAddresses {E : mE} (t0 : Option Nat) (M : mM) : mSnd E mi_M_hasAddresses 2 [.inr t0] M enI (q_M_hasAddresses t0 M) := m_entryZ (by decide) (Nat.le_of_ble_eq_true rfl) rfl (m_drop (mles_s (mles_e (mles_e mles_0))) (v_M_hasAddresses t0 M))
def dt_M_hasRoutes : List (Nat × Instr × Nat) := [(0, .aload_n 0, 1), (1, .getfield 347, 3), (4, .aload_n 0, 1), (5, .getfield 350, 3), (8, .isub, 1), (9, .iconst 3, 1), (10, .isub, 1), (11, .istore_n 1, 1), (12, .aload_n 0, 1), (13, .getfield 340, 3), (16, .ifCond .eq 26, 3), (19, .aload_n 0, 1), (20, .getfield 344, 3), (23, .ifCond .gt 19, 3), (26, .iload_n 1, 1), (27, .ifCond .lt 15, 3), (30, .iload_n 1, 1), (31, .bipush 15, 2), (33, .if_icmp .gt 9, 3), (36, .iload_n 1, 1), (37, .iconst 3, 1), (38, .irem, 1), (39, .ifCond .eq 5, 3), (42, .iconst 0, 1), (43, .ireturn, 1), (44, .aload_n 0, 1), (45, .getfield 101, 3), (48, .aload_n 0, 1), (49, .getfield 350, 3), (52, .iaload, 1), (53, .iconst 3, 1), (54, .if_icmp .ne 41, 3), (57, .aload_n 0, 1), (58, .getfield 101, 3), (61, .aload_n 0, 1), (62, .getfield 350, 3), (65, .iconst 1, 1), (66, .iadd, 1), (67, .iaload, 1), (68, .sipush 207, 3), (71, .if_icmp .ne 24, 3), (74, .aload_n 0, 1), (75, .getfield 101, 3), (78, .aload_n 0, 1), (79, .getfield 350, 3), (82, .iconst 2, 1), (83, .iadd, 1), (84, .iaload, 1), (85, .sipush 255, 3), (88, .if_icmp .ne 7, 3), (91, .iconst 1, 1), (92, .goto 4, 3), (95, .iconst 0, 1), (96, .istore_n 2, 1), (97, .iconst 0, 1), (98, .istore_n 3, 1), (99, .iload_n 3, 1), (100, .iload_n 1, 1), (101, .if_icmp .ge 57, 3), (104, .iload_n 2, 1), (105, .ifCond .eq 45, 3), (108, .aload_n 0, 1), (109, .getfield 101, 3), (112, .aload_n 0, 1), (113, .getfield 350, 3), (116, .iconst 3, 1), (117, .iadd, 1), (118, .iload_n 3, 1), (119, .iadd, 1), (120, .iaload, 1), (121, .invokestatic 207, 3), (124, .ifCond .eq 26, 3), (127, .aload_n 0, 1), (128, .getfield 101, 3), (131, .aload_n 0, 1), (132, .getfield 350, 3), (135, .iconst 4, 1), (136, .iadd, 1), (137, .iload_n 3, 1), (138, .iadd, 1), (139, .iaload, 1), (140, .invokestatic 207, 3), (143, .ifCond .eq 7, 3), (146, .iconst 1, 1), (147, .goto 4, 3), (150, .iconst 0, 1), (151, .istore_n 2, 1), (152, .iinc 3 3, 3), (155, .goto (-56), 3), (158, .iload_n 2, 1), (159, .ireturn, 1)]
theorem dx_M_hasRoutes : ∀ p ∈ dt_M_hasRoutes, decode prog_12_method_44_code p.1 = .ok p.2 := by decide +kernel
theorem d_M_hasRoutes {k pc : Nat} {i : Instr} {n : Nat} (h : dt_M_hasRoutes[k]? = some (pc, i, n)) : decode mi_M_hasRoutes.2.1 pc = .ok (i, n) := dx_M_hasRoutes (pc, i, n) (List.mem_of_getElem? h)
def q_M_hasRoutes_151 (r99 : Option Nat → Int32 → Int32 → Int32 → mM → Option (Int32 × mM)) (t0 : Option Nat) (i1 : Int32) (i3 : Int32) (j0 : Int32) (M : mM) : Option (Int32 × mM) :=
    r99 t0 i1 j0 (i3 + 3) M
set_option maxRecDepth 20000 in
theorem v_M_hasRoutes_151 {E : mE} (r99 : Option Nat → Int32 → Int32 → Int32 → mM → Option (Int32 × mM)) (h99 : ∀ (t0 : Option Nat) (i1 : Int32) (i2 : Int32) (i3 : Int32) (M : mM), mVr E mi_M_hasRoutes 2 99 [some (.inr t0), some (.inl i1), some (.inl i2), some (.inl i3)] [] M enI (r99 t0 i1 i2 i3 M)) (t0 : Option Nat) (i1 : Int32) (i3 : Int32) (j0 : Int32) (M : mM) : mVr E mi_M_hasRoutes 2 151 [some (.inr t0), some (.inl i1), none, some (.inl i3)] [.inl j0] M enI (q_M_hasRoutes_151 r99 t0 i1 i3 j0 M) := by
  unfold q_M_hasRoutes_151
  refine m_ist_n (ls' := [some (.inr t0), some (.inl i1), some (.inl j0), some (.inl i3)]) (d_M_hasRoutes (k := 86) rfl) (by decide) rfl ?_
  refine m_inc (v := 3) (ls' := [some (.inr t0), some (.inl i1), some (.inl j0), some (.inl (i3 + 3))]) (d_M_hasRoutes (k := 87) rfl) rfl (by decide) (by decide) rfl ?_
  refine m_goto (tgt := 99) (d_M_hasRoutes (k := 88) rfl) rfl ?_
  exact m_drop (mles_s (mles_s (mles_s (mles_s mles_0)))) (h99 t0 i1 j0 (i3 + 3) M)
def q_M_hasRoutes_150 (r99 : Option Nat → Int32 → Int32 → Int32 → mM → Option (Int32 × mM)) (t0 : Option Nat) (i1 : Int32) (i3 : Int32) (M : mM) : Option (Int32 × mM) :=
    q_M_hasRoutes_151 r99 t0 i1 i3 (0 : Int32) M
set_option maxRecDepth 20000 in
theorem v_M_hasRoutes_150 {E : mE} (r99 : Option Nat → Int32 → Int32 → Int32 → mM → Option (Int32 × mM)) (h99 : ∀ (t0 : Option Nat) (i1 : Int32) (i2 : Int32) (i3 : Int32) (M : mM), mVr E mi_M_hasRoutes 2 99 [some (.inr t0), some (.inl i1), some (.inl i2), some (.inl i3)] [] M enI (r99 t0 i1 i2 i3 M)) (t0 : Option Nat) (i1 : Int32) (i3 : Int32) (M : mM) : mVr E mi_M_hasRoutes 2 150 [some (.inr t0), some (.inl i1), none, some (.inl i3)] [] M enI (q_M_hasRoutes_150 r99 t0 i1 i3 M) := by
  unfold q_M_hasRoutes_150
  refine m_iconst (v := 0) (d_M_hasRoutes (k := 85) rfl) (by decide) ?_
  exact m_drop (mles_s (mles_s (mles_n (mles_s mles_0)))) (v_M_hasRoutes_151 r99 h99 t0 i1 i3 (0 : Int32) M)
def q_M_hasRoutes_99_b (r99 : Option Nat → Int32 → Int32 → Int32 → mM → Option (Int32 × mM)) (t0 : Option Nat) (i1 : Int32) (i2 : Int32) (i3 : Int32) (M : mM) : Option (Int32 × mM) :=
    if i3 < i1 then
      if i2 = 0 then
        q_M_hasRoutes_150 r99 t0 i1 i3 M
      else
        x_gR M 10 t0 36 fun a1 =>
        x_gI M 10 t0 43 fun x2 =>
        x_aI M 0 a1 ((x2 + (3 : Int32)) + i3) fun x3 =>
        x_cl (q_M_isStation x3 M) fun x4 M =>
        if x4 = 0 then
          q_M_hasRoutes_150 r99 t0 i1 i3 M
        else
          x_gR M 10 t0 36 fun a5 =>
          x_gI M 10 t0 43 fun x6 =>
          x_aI M 0 a5 ((x6 + (4 : Int32)) + i3) fun x7 =>
          x_cl (q_M_isStation x7 M) fun x8 M =>
          if x8 = 0 then
            q_M_hasRoutes_150 r99 t0 i1 i3 M
          else
            q_M_hasRoutes_151 r99 t0 i1 i3 (1 : Int32) M
    else
      x_rz i2 M
def q_M_hasRoutes_99 : Nat → Option Nat → Int32 → Int32 → Int32 → mM → Option (Int32 × mM)
  | 0, _, _, _, _, _ => none
  | n + 1, t0, i1, i2, i3, M => q_M_hasRoutes_99_b (q_M_hasRoutes_99 n) t0 i1 i2 i3 M
set_option maxRecDepth 20000 in
theorem v_M_hasRoutes_99_b {E : mE} (r99 : Option Nat → Int32 → Int32 → Int32 → mM → Option (Int32 × mM)) (h99 : ∀ (t0 : Option Nat) (i1 : Int32) (i2 : Int32) (i3 : Int32) (M : mM), mVr E mi_M_hasRoutes 2 99 [some (.inr t0), some (.inl i1), some (.inl i2), some (.inl i3)] [] M enI (r99 t0 i1 i2 i3 M)) (t0 : Option Nat) (i1 : Int32) (i2 : Int32) (i3 : Int32) (M : mM) : mVr E mi_M_hasRoutes 2 99 [some (.inr t0), some (.inl i1), some (.inl i2), some (.inl i3)] [] M enI (q_M_hasRoutes_99_b r99 t0 i1 i2 i3 M) := by
  unfold q_M_hasRoutes_99_b
  refine m_iload_n (d_M_hasRoutes (k := 56) rfl) rfl ?_
  refine m_iload_n (d_M_hasRoutes (k := 57) rfl) rfl ?_
  refine m_icmp_ge (tgt := 158) (d_M_hasRoutes (k := 58) rfl) rfl ?_ ?_
  · refine m_iload_n (d_M_hasRoutes (k := 59) rfl) rfl ?_
    refine m_if_eq (tgt := 150) (d_M_hasRoutes (k := 60) rfl) rfl ?_ ?_
    · exact m_drop (mles_s (mles_s (mles_n (mles_s mles_0)))) (v_M_hasRoutes_150 r99 h99 t0 i1 i3 M)
    · refine m_aload_n (d_M_hasRoutes (k := 61) rfl) rfl ?_
      refine m_getR (d_M_hasRoutes (k := 62) rfl) fl_M_101 rfl (fun a1 => ?_)
      refine m_aload_n (d_M_hasRoutes (k := 63) rfl) rfl ?_
      refine m_getI (d_M_hasRoutes (k := 64) rfl) fl_M_350 rfl (fun x2 => ?_)
      refine m_iconst (v := 3) (d_M_hasRoutes (k := 65) rfl) (by decide) ?_
      refine m_iadd (d_M_hasRoutes (k := 66) rfl) ?_
      refine m_iload_n (d_M_hasRoutes (k := 67) rfl) rfl ?_
      refine m_iadd (d_M_hasRoutes (k := 68) rfl) ?_
      refine m_iald (d_M_hasRoutes (k := 69) rfl) (fun x3 => ?_)
      refine m_csI (vs := [.inl x3]) (st := []) (d_M_hasRoutes (k := 70) rfl) (s_M_isStation x3 M) cd_M_isStation ml_M_207 sa_M_isStation (by decide) rfl (Nat.le_of_ble_eq_true rfl) (fun x4 M => ?_)
      refine m_if_eq (tgt := 150) (d_M_hasRoutes (k := 71) rfl) rfl ?_ ?_
      · exact m_drop (mles_s (mles_s (mles_n (mles_s mles_0)))) (v_M_hasRoutes_150 r99 h99 t0 i1 i3 M)
      · refine m_aload_n (d_M_hasRoutes (k := 72) rfl) rfl ?_
        refine m_getR (d_M_hasRoutes (k := 73) rfl) fl_M_101 rfl (fun a5 => ?_)
        refine m_aload_n (d_M_hasRoutes (k := 74) rfl) rfl ?_
        refine m_getI (d_M_hasRoutes (k := 75) rfl) fl_M_350 rfl (fun x6 => ?_)
        refine m_iconst (v := 4) (d_M_hasRoutes (k := 76) rfl) (by decide) ?_
        refine m_iadd (d_M_hasRoutes (k := 77) rfl) ?_
        refine m_iload_n (d_M_hasRoutes (k := 78) rfl) rfl ?_
        refine m_iadd (d_M_hasRoutes (k := 79) rfl) ?_
        refine m_iald (d_M_hasRoutes (k := 80) rfl) (fun x7 => ?_)
        refine m_csI (vs := [.inl x7]) (st := []) (d_M_hasRoutes (k := 81) rfl) (s_M_isStation x7 M) cd_M_isStation ml_M_207 sa_M_isStation (by decide) rfl (Nat.le_of_ble_eq_true rfl) (fun x8 M => ?_)
        refine m_if_eq (tgt := 150) (d_M_hasRoutes (k := 82) rfl) rfl ?_ ?_
        · exact m_drop (mles_s (mles_s (mles_n (mles_s mles_0)))) (v_M_hasRoutes_150 r99 h99 t0 i1 i3 M)
        · refine m_iconst (v := 1) (d_M_hasRoutes (k := 83) rfl) (by decide) ?_
          refine m_goto (tgt := 151) (d_M_hasRoutes (k := 84) rfl) rfl ?_
          exact m_drop (mles_s (mles_s (mles_n (mles_s mles_0)))) (v_M_hasRoutes_151 r99 h99 t0 i1 i3 (1 : Int32) M)
  · refine m_iload_n (d_M_hasRoutes (k := 89) rfl) rfl ?_
    exact m_zret (d_M_hasRoutes (k := 90) rfl) rfl
theorem v_M_hasRoutes_99 {E : mE} : ∀ (n : Nat) (t0 : Option Nat) (i1 : Int32) (i2 : Int32) (i3 : Int32) (M : mM), mVr E mi_M_hasRoutes 2 99 [some (.inr t0), some (.inl i1), some (.inl i2), some (.inl i3)] [] M enI (q_M_hasRoutes_99 n t0 i1 i2 i3 M)
  | 0, _, _, _, _, _ => m_none
  | n + 1, t0, i1, i2, i3, M => v_M_hasRoutes_99_b _ (v_M_hasRoutes_99 n) t0 i1 i2 i3 M
def q_M_hasRoutes_96 (t0 : Option Nat) (i1 : Int32) (j0 : Int32) (M : mM) : Option (Int32 × mM) :=
    q_M_hasRoutes_99 mFU t0 i1 j0 (0 : Int32) M
set_option maxRecDepth 20000 in
theorem v_M_hasRoutes_96 {E : mE} (t0 : Option Nat) (i1 : Int32) (j0 : Int32) (M : mM) : mVr E mi_M_hasRoutes 2 96 [some (.inr t0), some (.inl i1), none, none] [.inl j0] M enI (q_M_hasRoutes_96 t0 i1 j0 M) := by
  unfold q_M_hasRoutes_96
  refine m_ist_n (ls' := [some (.inr t0), some (.inl i1), some (.inl j0), none]) (d_M_hasRoutes (k := 53) rfl) (by decide) rfl ?_
  refine m_iconst (v := 0) (d_M_hasRoutes (k := 54) rfl) (by decide) ?_
  refine m_ist_n (ls' := [some (.inr t0), some (.inl i1), some (.inl j0), some (.inl (0 : Int32))]) (d_M_hasRoutes (k := 55) rfl) (by decide) rfl ?_
  exact m_drop (mles_s (mles_s (mles_s (mles_s mles_0)))) (v_M_hasRoutes_99 mFU t0 i1 j0 (0 : Int32) M)
def q_M_hasRoutes_95 (t0 : Option Nat) (i1 : Int32) (M : mM) : Option (Int32 × mM) :=
    q_M_hasRoutes_96 t0 i1 (0 : Int32) M
set_option maxRecDepth 20000 in
theorem v_M_hasRoutes_95 {E : mE} (t0 : Option Nat) (i1 : Int32) (M : mM) : mVr E mi_M_hasRoutes 2 95 [some (.inr t0), some (.inl i1), none, none] [] M enI (q_M_hasRoutes_95 t0 i1 M) := by
  unfold q_M_hasRoutes_95
  refine m_iconst (v := 0) (d_M_hasRoutes (k := 52) rfl) (by decide) ?_
  exact m_drop (mles_s (mles_s (mles_n (mles_n mles_0)))) (v_M_hasRoutes_96 t0 i1 (0 : Int32) M)
def q_M_hasRoutes (t0 : Option Nat) (M : mM) : Option (Int32 × mM) :=
    x_gI M 10 t0 37 fun x1 =>
    x_gI M 10 t0 43 fun x2 =>
    x_lt ((x1 - x2) - (3 : Int32)) fun x3 =>
    x_gI M 10 t0 44 fun x4 =>
    if x4 = 0 then
      x_rz (0 : Int32) M
    else
      x_gI M 10 t0 40 fun x5 =>
      if 0 < x5 then
        x_rz (0 : Int32) M
      else
        if x3 < 0 then
          x_rz (0 : Int32) M
        else
          if (15 : Int32) < x3 then
            x_rz (0 : Int32) M
          else
            x_rm x3 (3 : Int32) fun x6 =>
            if x6 = 0 then
              x_gR M 10 t0 36 fun a7 =>
              x_gI M 10 t0 43 fun x8 =>
              x_aI M 0 a7 x8 fun x9 =>
              if x9 = (3 : Int32) then
                x_gR M 10 t0 36 fun a10 =>
                x_gI M 10 t0 43 fun x11 =>
                x_aI M 0 a10 (x11 + (1 : Int32)) fun x12 =>
                if x12 = (207 : Int32) then
                  x_gR M 10 t0 36 fun a13 =>
                  x_gI M 10 t0 43 fun x14 =>
                  x_aI M 0 a13 (x14 + (2 : Int32)) fun x15 =>
                  if x15 = (255 : Int32) then
                    q_M_hasRoutes_96 t0 x3 (1 : Int32) M
                  else
                    q_M_hasRoutes_95 t0 x3 M
                else
                  q_M_hasRoutes_95 t0 x3 M
              else
                q_M_hasRoutes_95 t0 x3 M
            else
              x_rz (0 : Int32) M
set_option maxRecDepth 20000 in
theorem v_M_hasRoutes {E : mE} (t0 : Option Nat) (M : mM) : mVr E mi_M_hasRoutes 2 0 [some (.inr t0), none, none, none] [] M enI (q_M_hasRoutes t0 M) := by
  unfold q_M_hasRoutes
  refine m_aload_n (d_M_hasRoutes (k := 0) rfl) rfl ?_
  refine m_getI (d_M_hasRoutes (k := 1) rfl) fl_M_347 rfl (fun x1 => ?_)
  refine m_aload_n (d_M_hasRoutes (k := 2) rfl) rfl ?_
  refine m_getI (d_M_hasRoutes (k := 3) rfl) fl_M_350 rfl (fun x2 => ?_)
  refine m_isub (d_M_hasRoutes (k := 4) rfl) ?_
  refine m_iconst (v := 3) (d_M_hasRoutes (k := 5) rfl) (by decide) ?_
  refine m_isub (d_M_hasRoutes (k := 6) rfl) ?_
  refine m_lt (fun x3 => ?_)
  refine m_ist_n (ls' := [some (.inr t0), some (.inl x3), none, none]) (d_M_hasRoutes (k := 7) rfl) (by decide) rfl ?_
  refine m_aload_n (d_M_hasRoutes (k := 8) rfl) rfl ?_
  refine m_getI (d_M_hasRoutes (k := 9) rfl) fl_M_340 rfl (fun x4 => ?_)
  refine m_if_eq (tgt := 42) (d_M_hasRoutes (k := 10) rfl) rfl ?_ ?_
  · refine m_iconst (v := 0) (d_M_hasRoutes (k := 23) rfl) (by decide) ?_
    exact m_zret (d_M_hasRoutes (k := 24) rfl) rfl
  · refine m_aload_n (d_M_hasRoutes (k := 11) rfl) rfl ?_
    refine m_getI (d_M_hasRoutes (k := 12) rfl) fl_M_344 rfl (fun x5 => ?_)
    refine m_if_gt (tgt := 42) (d_M_hasRoutes (k := 13) rfl) rfl ?_ ?_
    · refine m_iconst (v := 0) (d_M_hasRoutes (k := 23) rfl) (by decide) ?_
      exact m_zret (d_M_hasRoutes (k := 24) rfl) rfl
    · refine m_iload_n (d_M_hasRoutes (k := 14) rfl) rfl ?_
      refine m_if_lt (tgt := 42) (d_M_hasRoutes (k := 15) rfl) rfl ?_ ?_
      · refine m_iconst (v := 0) (d_M_hasRoutes (k := 23) rfl) (by decide) ?_
        exact m_zret (d_M_hasRoutes (k := 24) rfl) rfl
      · refine m_iload_n (d_M_hasRoutes (k := 16) rfl) rfl ?_
        refine m_bipush (v := 15) (d_M_hasRoutes (k := 17) rfl) (by decide) ?_
        refine m_icmp_gt (tgt := 42) (d_M_hasRoutes (k := 18) rfl) rfl ?_ ?_
        · refine m_iconst (v := 0) (d_M_hasRoutes (k := 23) rfl) (by decide) ?_
          exact m_zret (d_M_hasRoutes (k := 24) rfl) rfl
        · refine m_iload_n (d_M_hasRoutes (k := 19) rfl) rfl ?_
          refine m_iconst (v := 3) (d_M_hasRoutes (k := 20) rfl) (by decide) ?_
          refine m_irem (d_M_hasRoutes (k := 21) rfl) (fun x6 => ?_)
          refine m_if_eq (tgt := 44) (d_M_hasRoutes (k := 22) rfl) rfl ?_ ?_
          · refine m_aload_n (d_M_hasRoutes (k := 25) rfl) rfl ?_
            refine m_getR (d_M_hasRoutes (k := 26) rfl) fl_M_101 rfl (fun a7 => ?_)
            refine m_aload_n (d_M_hasRoutes (k := 27) rfl) rfl ?_
            refine m_getI (d_M_hasRoutes (k := 28) rfl) fl_M_350 rfl (fun x8 => ?_)
            refine m_iald (d_M_hasRoutes (k := 29) rfl) (fun x9 => ?_)
            refine m_iconst (v := 3) (d_M_hasRoutes (k := 30) rfl) (by decide) ?_
            refine m_icmp_ne (tgt := 95) (d_M_hasRoutes (k := 31) rfl) rfl ?_ ?_
            · refine m_aload_n (d_M_hasRoutes (k := 32) rfl) rfl ?_
              refine m_getR (d_M_hasRoutes (k := 33) rfl) fl_M_101 rfl (fun a10 => ?_)
              refine m_aload_n (d_M_hasRoutes (k := 34) rfl) rfl ?_
              refine m_getI (d_M_hasRoutes (k := 35) rfl) fl_M_350 rfl (fun x11 => ?_)
              refine m_iconst (v := 1) (d_M_hasRoutes (k := 36) rfl) (by decide) ?_
              refine m_iadd (d_M_hasRoutes (k := 37) rfl) ?_
              refine m_iald (d_M_hasRoutes (k := 38) rfl) (fun x12 => ?_)
              refine m_sipush (v := 207) (d_M_hasRoutes (k := 39) rfl) (by decide) ?_
              refine m_icmp_ne (tgt := 95) (d_M_hasRoutes (k := 40) rfl) rfl ?_ ?_
              · refine m_aload_n (d_M_hasRoutes (k := 41) rfl) rfl ?_
                refine m_getR (d_M_hasRoutes (k := 42) rfl) fl_M_101 rfl (fun a13 => ?_)
                refine m_aload_n (d_M_hasRoutes (k := 43) rfl) rfl ?_
                refine m_getI (d_M_hasRoutes (k := 44) rfl) fl_M_350 rfl (fun x14 => ?_)
                refine m_iconst (v := 2) (d_M_hasRoutes (k := 45) rfl) (by decide) ?_
                refine m_iadd (d_M_hasRoutes (k := 46) rfl) ?_
                refine m_iald (d_M_hasRoutes (k := 47) rfl) (fun x15 => ?_)
                refine m_sipush (v := 255) (d_M_hasRoutes (k := 48) rfl) (by decide) ?_
                refine m_icmp_ne (tgt := 95) (d_M_hasRoutes (k := 49) rfl) rfl ?_ ?_
                · refine m_iconst (v := 1) (d_M_hasRoutes (k := 50) rfl) (by decide) ?_
                  refine m_goto (tgt := 96) (d_M_hasRoutes (k := 51) rfl) rfl ?_
                  exact m_drop (mles_s (mles_s (mles_n (mles_n mles_0)))) (v_M_hasRoutes_96 t0 x3 (1 : Int32) M)
                · exact m_drop (mles_s (mles_s (mles_n (mles_n mles_0)))) (v_M_hasRoutes_95 t0 x3 M)
              · exact m_drop (mles_s (mles_s (mles_n (mles_n mles_0)))) (v_M_hasRoutes_95 t0 x3 M)
            · exact m_drop (mles_s (mles_s (mles_n (mles_n mles_0)))) (v_M_hasRoutes_95 t0 x3 M)
          · refine m_iconst (v := 0) (d_M_hasRoutes (k := 23) rfl) (by decide) ?_
            exact m_zret (d_M_hasRoutes (k := 24) rfl) rfl
theorem s_M_hasRoutes {E : mE} (t0 : Option Nat) (M : mM) : mSnd E mi_M_hasRoutes 2 [.inr t0] M enI (q_M_hasRoutes t0 M) := m_entryZ (by decide) (Nat.le_of_ble_eq_true rfl) rfl (m_drop (mles_s (mles_e (mles_e (mles_e mles_0)))) (v_M_hasRoutes t0 M))
def dt_M_isNumbered : List (Nat × Instr × Nat) := [(0, .iload_n 0, 1), (1, .bipush 15, 2), (3, .iand, 1), (4, .iconst 1, 1), (5, .if_icmp .eq 20, 3), (8, .iload_n 0, 1), (9, .bipush 15, 2), (11, .iand, 1), (12, .iconst 5, 1), (13, .if_icmp .eq 12, 3), (16, .iload_n 0, 1), (17, .bipush 15, 2), (19, .iand, 1), (20, .bipush 9, 2), (22, .if_icmp .ne 7, 3), (25, .iconst 1, 1), (26, .goto 4, 3), (29, .iconst 0, 1), (30, .ireturn, 1)]
theorem dx_M_isNumbered : ∀ p ∈ dt_M_isNumbered, decode prog_12_method_45_code p.1 = .ok p.2 := by decide +kernel
theorem d_M_isNumbered {k pc : Nat} {i : Instr} {n : Nat} (h : dt_M_isNumbered[k]? = some (pc, i, n)) : decode mi_M_isNumbered.2.1 pc = .ok (i, n) := dx_M_isNumbered (pc, i, n) (List.mem_of_getElem? h)
def q_M_isNumbered_25 (M : mM) : Option (Int32 × mM) :=
    x_rz (1 : Int32) M
set_option maxRecDepth 20000 in
theorem v_M_isNumbered_25 {E : mE} (M : mM) : mVr E mi_M_isNumbered 0 25 [none] [] M enI (q_M_isNumbered_25 M) := by
  unfold q_M_isNumbered_25
  refine m_iconst (v := 1) (d_M_isNumbered (k := 15) rfl) (by decide) ?_
  refine m_goto (tgt := 30) (d_M_isNumbered (k := 16) rfl) rfl ?_
  exact m_zret (d_M_isNumbered (k := 18) rfl) rfl
def q_M_isNumbered (i0 : Int32) (M : mM) : Option (Int32 × mM) :=
    if (i0 &&& (15 : Int32)) = (1 : Int32) then
      q_M_isNumbered_25 M
    else
      if (i0 &&& (15 : Int32)) = (5 : Int32) then
        q_M_isNumbered_25 M
      else
        if (i0 &&& (15 : Int32)) = (9 : Int32) then
          q_M_isNumbered_25 M
        else
          x_rz (0 : Int32) M
set_option maxRecDepth 20000 in
theorem v_M_isNumbered {E : mE} (i0 : Int32) (M : mM) : mVr E mi_M_isNumbered 0 0 [some (.inl i0)] [] M enI (q_M_isNumbered i0 M) := by
  unfold q_M_isNumbered
  refine m_iload_n (d_M_isNumbered (k := 0) rfl) rfl ?_
  refine m_bipush (v := 15) (d_M_isNumbered (k := 1) rfl) (by decide) ?_
  refine m_iand (d_M_isNumbered (k := 2) rfl) ?_
  refine m_iconst (v := 1) (d_M_isNumbered (k := 3) rfl) (by decide) ?_
  refine m_icmp_eq (tgt := 25) (d_M_isNumbered (k := 4) rfl) rfl ?_ ?_
  · exact m_drop (mles_n mles_0) (v_M_isNumbered_25 M)
  · refine m_iload_n (d_M_isNumbered (k := 5) rfl) rfl ?_
    refine m_bipush (v := 15) (d_M_isNumbered (k := 6) rfl) (by decide) ?_
    refine m_iand (d_M_isNumbered (k := 7) rfl) ?_
    refine m_iconst (v := 5) (d_M_isNumbered (k := 8) rfl) (by decide) ?_
    refine m_icmp_eq (tgt := 25) (d_M_isNumbered (k := 9) rfl) rfl ?_ ?_
    · exact m_drop (mles_n mles_0) (v_M_isNumbered_25 M)
    · refine m_iload_n (d_M_isNumbered (k := 10) rfl) rfl ?_
      refine m_bipush (v := 15) (d_M_isNumbered (k := 11) rfl) (by decide) ?_
      refine m_iand (d_M_isNumbered (k := 12) rfl) ?_
      refine m_bipush (v := 9) (d_M_isNumbered (k := 13) rfl) (by decide) ?_
      refine m_icmp_ne (tgt := 29) (d_M_isNumbered (k := 14) rfl) rfl ?_ ?_
      · exact m_drop (mles_n mles_0) (v_M_isNumbered_25 M)
      · refine m_iconst (v := 0) (d_M_isNumbered (k := 17) rfl) (by decide) ?_
        exact m_zret (d_M_isNumbered (k := 18) rfl) rfl
theorem s_M_isNumbered {E : mE} (i0 : Int32) (M : mM) : mSnd E mi_M_isNumbered 0 [.inl i0] M enI (q_M_isNumbered i0 M) := m_entryZ (by decide) (Nat.le_of_ble_eq_true rfl) rfl (m_drop (mles_s mles_0) (v_M_isNumbered i0 M))
def dt_M_isRight_0 : List (Nat × Instr × Nat) := [(0, .aload_n 0, 1), (1, .invokevirtual 353, 3), (4, .ifCond .eq 14, 3), (7, .aload_n 0, 1), (8, .getfield 350, 3), (11, .aload_n 0, 1), (12, .getfield 347, 3), (15, .if_icmp .lt 5, 3), (18, .iconst 0, 1), (19, .ireturn, 1), (20, .aload_n 0, 1), (21, .getfield 334, 3), (24, .bipush 6, 2), (26, .if_icmp .ne 8, 3), (29, .aload_n 0, 1), (30, .invokevirtual 357, 3), (33, .ireturn, 1), (34, .aload_n 0, 1), (35, .invokevirtual 360, 3), (38, .ifCond .ne 5, 3), (41, .iconst 0, 1), (42, .ireturn, 1), (43, .aload_n 0, 1), (44, .getfield 101, 3), (47, .aload_n 0, 1), (48, .getfield 350, 3), (51, .iaload, 1), (52, .istore_n 1, 1), (53, .aload_n 0, 1), (54, .iload_n 1, 1), (55, .bipush 16, 2), (57, .iand, 1), (58, .ifCond .eq 7, 3), (61, .iconst 1, 1), (62, .goto 4, 3), (65, .iconst 0, 1), (66, .putfield 363, 3), (69, .aload_n 0, 1), (70, .iload_n 1, 1), (71, .sipush 239, 3)]
theorem dx_M_isRight_0 : ∀ p ∈ dt_M_isRight_0, decode prog_12_method_46_code p.1 = .ok p.2 := by decide +kernel
theorem d_M_isRight_0 {k pc : Nat} {i : Instr} {n : Nat} (h : dt_M_isRight_0[k]? = some (pc, i, n)) : decode mi_M_isRight.2.1 pc = .ok (i, n) := dx_M_isRight_0 (pc, i, n) (List.mem_of_getElem? h)
def dt_M_isRight_1 : List (Nat × Instr × Nat) := [(74, .iand, 1), (75, .putfield 366, 3), (78, .aload_n 0, 1), (79, .getfield 347, 3), (82, .aload_n 0, 1), (83, .getfield 350, 3), (86, .isub, 1), (87, .iconst 1, 1), (88, .isub, 1), (89, .istore_n 2, 1), (90, .iload_n 2, 1), (91, .iconst 1, 1), (92, .if_icmp .ge 5, 3), (95, .iconst 0, 1), (96, .ireturn, 1), (97, .aload_n 0, 1), (98, .aload_n 0, 1), (99, .getfield 101, 3), (102, .aload_n 0, 1), (103, .getfield 350, 3), (106, .iconst 1, 1), (107, .iadd, 1), (108, .iaload, 1), (109, .putfield 369, 3), (112, .aload_n 0, 1), (113, .getfield 366, 3), (116, .iconst 2, 1), (117, .irem, 1), (118, .ifCond .ne 61, 3), (121, .aload_n 0, 1), (122, .getfield 340, 3), (125, .ifCond .eq 52, 3), (128, .iload_n 2, 1), (129, .iconst 3, 1), (130, .if_icmp .lt 47, 3), (133, .iload_n 2, 1), (134, .bipush 18, 2), (136, .if_icmp .gt 41, 3), (139, .aload_n 0, 1), (140, .getfield 101, 3)]
theorem dx_M_isRight_1 : ∀ p ∈ dt_M_isRight_1, decode prog_12_method_46_code p.1 = .ok p.2 := by decide +kernel
theorem d_M_isRight_1 {k pc : Nat} {i : Instr} {n : Nat} (h : dt_M_isRight_1[k]? = some (pc, i, n)) : decode mi_M_isRight.2.1 pc = .ok (i, n) := dx_M_isRight_1 (pc, i, n) (List.mem_of_getElem? h)
def dt_M_isRight_2 : List (Nat × Instr × Nat) := [(143, .aload_n 0, 1), (144, .getfield 350, 3), (147, .iconst 2, 1), (148, .iadd, 1), (149, .iaload, 1), (150, .sipush 240, 3), (153, .if_icmp .eq 20, 3), (156, .aload_n 0, 1), (157, .getfield 101, 3), (160, .aload_n 0, 1), (161, .getfield 350, 3), (164, .iconst 2, 1), (165, .iadd, 1), (166, .iaload, 1), (167, .sipush 207, 3), (170, .if_icmp .ne 7, 3), (173, .iconst 1, 1), (174, .goto 4, 3), (177, .iconst 0, 1), (178, .ireturn, 1), (179, .iload_n 2, 1), (180, .iconst 1, 1), (181, .if_icmp .le 5, 3), (184, .iconst 0, 1), (185, .ireturn, 1), (186, .aload_n 0, 1), (187, .getfield 366, 3), (190, .bipush 47, 2), (192, .if_icmp .eq 12, 3), (195, .aload_n 0, 1), (196, .getfield 366, 3), (199, .bipush 67, 2), (201, .if_icmp .ne 8, 3), (204, .aload_n 0, 1), (205, .getfield 340, 3), (208, .ireturn, 1), (209, .aload_n 0, 1), (210, .getfield 366, 3), (213, .bipush 15, 2), (215, .if_icmp .eq 12, 3)]
theorem dx_M_isRight_2 : ∀ p ∈ dt_M_isRight_2, decode prog_12_method_46_code p.1 = .ok p.2 := by decide +kernel
theorem d_M_isRight_2 {k pc : Nat} {i : Instr} {n : Nat} (h : dt_M_isRight_2[k]? = some (pc, i, n)) : decode mi_M_isRight.2.1 pc = .ok (i, n) := dx_M_isRight_2 (pc, i, n) (List.mem_of_getElem? h)
def dt_M_isRight_3 : List (Nat × Instr × Nat) := [(218, .aload_n 0, 1), (219, .getfield 366, 3), (222, .bipush 99, 2), (224, .if_icmp .ne 16, 3), (227, .aload_n 0, 1), (228, .getfield 340, 3), (231, .ifCond .ne 7, 3), (234, .iconst 1, 1), (235, .goto 4, 3), (238, .iconst 0, 1), (239, .ireturn, 1), (240, .aload_n 0, 1), (241, .getfield 366, 3), (244, .invokestatic 372, 3), (247, .ireturn, 1)]
theorem dx_M_isRight_3 : ∀ p ∈ dt_M_isRight_3, decode prog_12_method_46_code p.1 = .ok p.2 := by decide +kernel
theorem d_M_isRight_3 {k pc : Nat} {i : Instr} {n : Nat} (h : dt_M_isRight_3[k]? = some (pc, i, n)) : decode mi_M_isRight.2.1 pc = .ok (i, n) := dx_M_isRight_3 (pc, i, n) (List.mem_of_getElem? h)
def q_M_isRight_173 (M : mM) : Option (Int32 × mM) :=
    x_rz (1 : Int32) M
set_option maxRecDepth 20000 in
theorem v_M_isRight_173 {E : mE} (M : mM) : mVr E mi_M_isRight 3 173 [none, none, none] [] M enI (q_M_isRight_173 M) := by
  unfold q_M_isRight_173
  refine m_iconst (v := 1) (d_M_isRight_2 (k := 16) rfl) (by decide) ?_
  refine m_goto (tgt := 178) (d_M_isRight_2 (k := 17) rfl) rfl ?_
  exact m_zret (d_M_isRight_2 (k := 19) rfl) rfl
def q_M_isRight_227 (t0 : Option Nat) (M : mM) : Option (Int32 × mM) :=
    x_gI M 10 t0 44 fun x1 =>
    if x1 = 0 then
      x_rz (1 : Int32) M
    else
      x_rz (0 : Int32) M
set_option maxRecDepth 20000 in
theorem v_M_isRight_227 {E : mE} (t0 : Option Nat) (M : mM) : mVr E mi_M_isRight 3 227 [some (.inr t0), none, none] [] M enI (q_M_isRight_227 t0 M) := by
  unfold q_M_isRight_227
  refine m_aload_n (d_M_isRight_3 (k := 4) rfl) rfl ?_
  refine m_getI (d_M_isRight_3 (k := 5) rfl) fl_M_340 rfl (fun x1 => ?_)
  refine m_if_ne (tgt := 238) (d_M_isRight_3 (k := 6) rfl) rfl ?_ ?_
  · refine m_iconst (v := 1) (d_M_isRight_3 (k := 7) rfl) (by decide) ?_
    refine m_goto (tgt := 239) (d_M_isRight_3 (k := 8) rfl) rfl ?_
    exact m_zret (d_M_isRight_3 (k := 10) rfl) rfl
  · refine m_iconst (v := 0) (d_M_isRight_3 (k := 9) rfl) (by decide) ?_
    exact m_zret (d_M_isRight_3 (k := 10) rfl) rfl
def q_M_isRight_66 (t0 : Option Nat) (i1 : Int32) (j0 : Int32) (u1 : Option Nat) (M : mM) : Option (Int32 × mM) :=
    x_pZ M 10 u1 45 j0 fun M =>
    x_pI M 10 t0 41 (i1 &&& (239 : Int32)) fun M =>
    x_gI M 10 t0 37 fun x1 =>
    x_gI M 10 t0 43 fun x2 =>
    x_lt ((x1 - x2) - (1 : Int32)) fun x3 =>
    if x3 < (1 : Int32) then
      x_rz (0 : Int32) M
    else
      x_gR M 10 t0 36 fun a4 =>
      x_gI M 10 t0 43 fun x5 =>
      x_aI M 0 a4 (x5 + (1 : Int32)) fun x6 =>
      x_pI M 10 t0 42 x6 fun M =>
      x_gI M 10 t0 41 fun x7 =>
      x_rm x7 (2 : Int32) fun x8 =>
      if x8 = 0 then
        x_gI M 10 t0 44 fun x9 =>
        if x9 = 0 then
          x_rz (0 : Int32) M
        else
          if x3 < (3 : Int32) then
            x_rz (0 : Int32) M
          else
            if (18 : Int32) < x3 then
              x_rz (0 : Int32) M
            else
              x_gR M 10 t0 36 fun a10 =>
              x_gI M 10 t0 43 fun x11 =>
              x_aI M 0 a10 (x11 + (2 : Int32)) fun x12 =>
              if x12 = (240 : Int32) then
                q_M_isRight_173 M
              else
                x_gR M 10 t0 36 fun a13 =>
                x_gI M 10 t0 43 fun x14 =>
                x_aI M 0 a13 (x14 + (2 : Int32)) fun x15 =>
                if x15 = (207 : Int32) then
                  q_M_isRight_173 M
                else
                  x_rz (0 : Int32) M
      else
        if (1 : Int32) < x3 then
          x_rz (0 : Int32) M
        else
          x_gI M 10 t0 41 fun x16 =>
          if x16 = (47 : Int32) then
            x_gI M 10 t0 44 fun x17 =>
            x_rz x17 M
          else
            x_gI M 10 t0 41 fun x18 =>
            if x18 = (67 : Int32) then
              x_gI M 10 t0 44 fun x19 =>
              x_rz x19 M
            else
              x_gI M 10 t0 41 fun x20 =>
              if x20 = (15 : Int32) then
                q_M_isRight_227 t0 M
              else
                x_gI M 10 t0 41 fun x21 =>
                if x21 = (99 : Int32) then
                  q_M_isRight_227 t0 M
                else
                  x_gI M 10 t0 41 fun x22 =>
                  x_cl (q_M_isNumbered x22 M) fun x23 M =>
                  x_rz x23 M
set_option maxRecDepth 20000 in
theorem v_M_isRight_66 {E : mE} (t0 : Option Nat) (i1 : Int32) (j0 : Int32) (u1 : Option Nat) (M : mM) : mVr E mi_M_isRight 3 66 [some (.inr t0), some (.inl i1), none] [.inl j0, .inr u1] M enI (q_M_isRight_66 t0 i1 j0 u1 M) := by
  unfold q_M_isRight_66
  refine m_pZ (d_M_isRight_0 (k := 36) rfl) fp_M_363 (fun h => absurd h (by decide)) rfl (fun M => ?_)
  refine m_aload_n (d_M_isRight_0 (k := 37) rfl) rfl ?_
  refine m_iload_n (d_M_isRight_0 (k := 38) rfl) rfl ?_
  refine m_sipush (v := 239) (d_M_isRight_0 (k := 39) rfl) (by decide) ?_
  refine m_iand (d_M_isRight_1 (k := 0) rfl) ?_
  refine m_pI (d_M_isRight_1 (k := 1) rfl) fp_M_366 (fun h => absurd h (by decide)) rfl (fun M => ?_)
  refine m_aload_n (d_M_isRight_1 (k := 2) rfl) rfl ?_
  refine m_getI (d_M_isRight_1 (k := 3) rfl) fl_M_347 rfl (fun x1 => ?_)
  refine m_aload_n (d_M_isRight_1 (k := 4) rfl) rfl ?_
  refine m_getI (d_M_isRight_1 (k := 5) rfl) fl_M_350 rfl (fun x2 => ?_)
  refine m_isub (d_M_isRight_1 (k := 6) rfl) ?_
  refine m_iconst (v := 1) (d_M_isRight_1 (k := 7) rfl) (by decide) ?_
  refine m_isub (d_M_isRight_1 (k := 8) rfl) ?_
  refine m_lt (fun x3 => ?_)
  refine m_ist_n (ls' := [some (.inr t0), some (.inl i1), some (.inl x3)]) (d_M_isRight_1 (k := 9) rfl) (by decide) rfl ?_
  refine m_iload_n (d_M_isRight_1 (k := 10) rfl) rfl ?_
  refine m_iconst (v := 1) (d_M_isRight_1 (k := 11) rfl) (by decide) ?_
  refine m_icmp_ge (tgt := 97) (d_M_isRight_1 (k := 12) rfl) rfl ?_ ?_
  · refine m_iconst (v := 0) (d_M_isRight_1 (k := 13) rfl) (by decide) ?_
    exact m_zret (d_M_isRight_1 (k := 14) rfl) rfl
  · refine m_aload_n (d_M_isRight_1 (k := 15) rfl) rfl ?_
    refine m_aload_n (d_M_isRight_1 (k := 16) rfl) rfl ?_
    refine m_getR (d_M_isRight_1 (k := 17) rfl) fl_M_101 rfl (fun a4 => ?_)
    refine m_aload_n (d_M_isRight_1 (k := 18) rfl) rfl ?_
    refine m_getI (d_M_isRight_1 (k := 19) rfl) fl_M_350 rfl (fun x5 => ?_)
    refine m_iconst (v := 1) (d_M_isRight_1 (k := 20) rfl) (by decide) ?_
    refine m_iadd (d_M_isRight_1 (k := 21) rfl) ?_
    refine m_iald (d_M_isRight_1 (k := 22) rfl) (fun x6 => ?_)
    refine m_pI (d_M_isRight_1 (k := 23) rfl) fp_M_369 (fun h => absurd h (by decide)) rfl (fun M => ?_)
    refine m_aload_n (d_M_isRight_1 (k := 24) rfl) rfl ?_
    refine m_getI (d_M_isRight_1 (k := 25) rfl) fl_M_366 rfl (fun x7 => ?_)
    refine m_iconst (v := 2) (d_M_isRight_1 (k := 26) rfl) (by decide) ?_
    refine m_irem (d_M_isRight_1 (k := 27) rfl) (fun x8 => ?_)
    refine m_if_ne (tgt := 179) (d_M_isRight_1 (k := 28) rfl) rfl ?_ ?_
    · refine m_aload_n (d_M_isRight_1 (k := 29) rfl) rfl ?_
      refine m_getI (d_M_isRight_1 (k := 30) rfl) fl_M_340 rfl (fun x9 => ?_)
      refine m_if_eq (tgt := 177) (d_M_isRight_1 (k := 31) rfl) rfl ?_ ?_
      · refine m_iconst (v := 0) (d_M_isRight_2 (k := 18) rfl) (by decide) ?_
        exact m_zret (d_M_isRight_2 (k := 19) rfl) rfl
      · refine m_iload_n (d_M_isRight_1 (k := 32) rfl) rfl ?_
        refine m_iconst (v := 3) (d_M_isRight_1 (k := 33) rfl) (by decide) ?_
        refine m_icmp_lt (tgt := 177) (d_M_isRight_1 (k := 34) rfl) rfl ?_ ?_
        · refine m_iconst (v := 0) (d_M_isRight_2 (k := 18) rfl) (by decide) ?_
          exact m_zret (d_M_isRight_2 (k := 19) rfl) rfl
        · refine m_iload_n (d_M_isRight_1 (k := 35) rfl) rfl ?_
          refine m_bipush (v := 18) (d_M_isRight_1 (k := 36) rfl) (by decide) ?_
          refine m_icmp_gt (tgt := 177) (d_M_isRight_1 (k := 37) rfl) rfl ?_ ?_
          · refine m_iconst (v := 0) (d_M_isRight_2 (k := 18) rfl) (by decide) ?_
            exact m_zret (d_M_isRight_2 (k := 19) rfl) rfl
          · refine m_aload_n (d_M_isRight_1 (k := 38) rfl) rfl ?_
            refine m_getR (d_M_isRight_1 (k := 39) rfl) fl_M_101 rfl (fun a10 => ?_)
            refine m_aload_n (d_M_isRight_2 (k := 0) rfl) rfl ?_
            refine m_getI (d_M_isRight_2 (k := 1) rfl) fl_M_350 rfl (fun x11 => ?_)
            refine m_iconst (v := 2) (d_M_isRight_2 (k := 2) rfl) (by decide) ?_
            refine m_iadd (d_M_isRight_2 (k := 3) rfl) ?_
            refine m_iald (d_M_isRight_2 (k := 4) rfl) (fun x12 => ?_)
            refine m_sipush (v := 240) (d_M_isRight_2 (k := 5) rfl) (by decide) ?_
            refine m_icmp_eq (tgt := 173) (d_M_isRight_2 (k := 6) rfl) rfl ?_ ?_
            · exact m_drop (mles_n (mles_n (mles_n mles_0))) (v_M_isRight_173 M)
            · refine m_aload_n (d_M_isRight_2 (k := 7) rfl) rfl ?_
              refine m_getR (d_M_isRight_2 (k := 8) rfl) fl_M_101 rfl (fun a13 => ?_)
              refine m_aload_n (d_M_isRight_2 (k := 9) rfl) rfl ?_
              refine m_getI (d_M_isRight_2 (k := 10) rfl) fl_M_350 rfl (fun x14 => ?_)
              refine m_iconst (v := 2) (d_M_isRight_2 (k := 11) rfl) (by decide) ?_
              refine m_iadd (d_M_isRight_2 (k := 12) rfl) ?_
              refine m_iald (d_M_isRight_2 (k := 13) rfl) (fun x15 => ?_)
              refine m_sipush (v := 207) (d_M_isRight_2 (k := 14) rfl) (by decide) ?_
              refine m_icmp_ne (tgt := 177) (d_M_isRight_2 (k := 15) rfl) rfl ?_ ?_
              · exact m_drop (mles_n (mles_n (mles_n mles_0))) (v_M_isRight_173 M)
              · refine m_iconst (v := 0) (d_M_isRight_2 (k := 18) rfl) (by decide) ?_
                exact m_zret (d_M_isRight_2 (k := 19) rfl) rfl
    · refine m_iload_n (d_M_isRight_2 (k := 20) rfl) rfl ?_
      refine m_iconst (v := 1) (d_M_isRight_2 (k := 21) rfl) (by decide) ?_
      refine m_icmp_le (tgt := 186) (d_M_isRight_2 (k := 22) rfl) rfl ?_ ?_
      · refine m_iconst (v := 0) (d_M_isRight_2 (k := 23) rfl) (by decide) ?_
        exact m_zret (d_M_isRight_2 (k := 24) rfl) rfl
      · refine m_aload_n (d_M_isRight_2 (k := 25) rfl) rfl ?_
        refine m_getI (d_M_isRight_2 (k := 26) rfl) fl_M_366 rfl (fun x16 => ?_)
        refine m_bipush (v := 47) (d_M_isRight_2 (k := 27) rfl) (by decide) ?_
        refine m_icmp_eq (tgt := 204) (d_M_isRight_2 (k := 28) rfl) rfl ?_ ?_
        · refine m_aload_n (d_M_isRight_2 (k := 33) rfl) rfl ?_
          refine m_getI (d_M_isRight_2 (k := 34) rfl) fl_M_340 rfl (fun x17 => ?_)
          exact m_zret (d_M_isRight_2 (k := 35) rfl) rfl
        · refine m_aload_n (d_M_isRight_2 (k := 29) rfl) rfl ?_
          refine m_getI (d_M_isRight_2 (k := 30) rfl) fl_M_366 rfl (fun x18 => ?_)
          refine m_bipush (v := 67) (d_M_isRight_2 (k := 31) rfl) (by decide) ?_
          refine m_icmp_ne (tgt := 209) (d_M_isRight_2 (k := 32) rfl) rfl ?_ ?_
          · refine m_aload_n (d_M_isRight_2 (k := 33) rfl) rfl ?_
            refine m_getI (d_M_isRight_2 (k := 34) rfl) fl_M_340 rfl (fun x19 => ?_)
            exact m_zret (d_M_isRight_2 (k := 35) rfl) rfl
          · refine m_aload_n (d_M_isRight_2 (k := 36) rfl) rfl ?_
            refine m_getI (d_M_isRight_2 (k := 37) rfl) fl_M_366 rfl (fun x20 => ?_)
            refine m_bipush (v := 15) (d_M_isRight_2 (k := 38) rfl) (by decide) ?_
            refine m_icmp_eq (tgt := 227) (d_M_isRight_2 (k := 39) rfl) rfl ?_ ?_
            · exact m_drop (mles_s (mles_n (mles_n mles_0))) (v_M_isRight_227 t0 M)
            · refine m_aload_n (d_M_isRight_3 (k := 0) rfl) rfl ?_
              refine m_getI (d_M_isRight_3 (k := 1) rfl) fl_M_366 rfl (fun x21 => ?_)
              refine m_bipush (v := 99) (d_M_isRight_3 (k := 2) rfl) (by decide) ?_
              refine m_icmp_ne (tgt := 240) (d_M_isRight_3 (k := 3) rfl) rfl ?_ ?_
              · exact m_drop (mles_s (mles_n (mles_n mles_0))) (v_M_isRight_227 t0 M)
              · refine m_aload_n (d_M_isRight_3 (k := 11) rfl) rfl ?_
                refine m_getI (d_M_isRight_3 (k := 12) rfl) fl_M_366 rfl (fun x22 => ?_)
                refine m_csI (vs := [.inl x22]) (st := []) (d_M_isRight_3 (k := 13) rfl) (s_M_isNumbered x22 M) cd_M_isNumbered ml_M_372 sa_M_isNumbered (by decide) rfl (Nat.le_of_ble_eq_true rfl) (fun x23 M => ?_)
                exact m_zret (d_M_isRight_3 (k := 14) rfl) rfl
def q_M_isRight (t0 : Option Nat) (M : mM) : Option (Int32 × mM) :=
    x_cv M 10 t0 (q_M_hasAddresses t0 M) fun x1 M =>
    if x1 = 0 then
      x_rz (0 : Int32) M
    else
      x_gI M 10 t0 43 fun x2 =>
      x_gI M 10 t0 37 fun x3 =>
      if x2 < x3 then
        x_gI M 10 t0 38 fun x4 =>
        if x4 = (6 : Int32) then
          x_cv M 10 t0 (q_M_hasRoutes t0 M) fun x5 M =>
          x_rz x5 M
        else
          x_cv M 10 t0 (q_M_areUnlike t0 M) fun x6 M =>
          if x6 = 0 then
            x_rz (0 : Int32) M
          else
            x_gR M 10 t0 36 fun a7 =>
            x_gI M 10 t0 43 fun x8 =>
            x_aI M 0 a7 x8 fun x9 =>
            if (x9 &&& (16 : Int32)) = 0 then
              q_M_isRight_66 t0 x9 (0 : Int32) t0 M
            else
              q_M_isRight_66 t0 x9 (1 : Int32) t0 M
      else
        x_rz (0 : Int32) M
set_option maxRecDepth 20000 in
theorem v_M_isRight {E : mE} (t0 : Option Nat) (M : mM) : mVr E mi_M_isRight 3 0 [some (.inr t0), none, none] [] M enI (q_M_isRight t0 M) := by
  unfold q_M_isRight
  refine m_aload_n (d_M_isRight_0 (k := 0) rfl) rfl ?_
  refine m_cvI (c := 10) (vs := []) (st := []) (d_M_isRight_0 (k := 1) rfl) (s_M_hasAddresses t0 M) cd_M_hasAddresses ml_M_353 im_M_hasAddresses se_M_hasAddresses rfl (by decide) rfl (Nat.le_of_ble_eq_true rfl) (fun x1 M => ?_)
  refine m_if_eq (tgt := 18) (d_M_isRight_0 (k := 2) rfl) rfl ?_ ?_
  · refine m_iconst (v := 0) (d_M_isRight_0 (k := 8) rfl) (by decide) ?_
    exact m_zret (d_M_isRight_0 (k := 9) rfl) rfl
  · refine m_aload_n (d_M_isRight_0 (k := 3) rfl) rfl ?_
    refine m_getI (d_M_isRight_0 (k := 4) rfl) fl_M_350 rfl (fun x2 => ?_)
    refine m_aload_n (d_M_isRight_0 (k := 5) rfl) rfl ?_
    refine m_getI (d_M_isRight_0 (k := 6) rfl) fl_M_347 rfl (fun x3 => ?_)
    refine m_icmp_lt (tgt := 20) (d_M_isRight_0 (k := 7) rfl) rfl ?_ ?_
    · refine m_aload_n (d_M_isRight_0 (k := 10) rfl) rfl ?_
      refine m_getI (d_M_isRight_0 (k := 11) rfl) fl_M_334 rfl (fun x4 => ?_)
      refine m_bipush (v := 6) (d_M_isRight_0 (k := 12) rfl) (by decide) ?_
      refine m_icmp_ne (tgt := 34) (d_M_isRight_0 (k := 13) rfl) rfl ?_ ?_
      · refine m_aload_n (d_M_isRight_0 (k := 14) rfl) rfl ?_
        refine m_cvI (c := 10) (vs := []) (st := []) (d_M_isRight_0 (k := 15) rfl) (s_M_hasRoutes t0 M) cd_M_hasRoutes ml_M_357 im_M_hasRoutes se_M_hasRoutes rfl (by decide) rfl (Nat.le_of_ble_eq_true rfl) (fun x5 M => ?_)
        exact m_zret (d_M_isRight_0 (k := 16) rfl) rfl
      · refine m_aload_n (d_M_isRight_0 (k := 17) rfl) rfl ?_
        refine m_cvI (c := 10) (vs := []) (st := []) (d_M_isRight_0 (k := 18) rfl) (s_M_areUnlike t0 M) cd_M_areUnlike ml_M_360 im_M_areUnlike se_M_areUnlike rfl (by decide) rfl (Nat.le_of_ble_eq_true rfl) (fun x6 M => ?_)
        refine m_if_ne (tgt := 43) (d_M_isRight_0 (k := 19) rfl) rfl ?_ ?_
        · refine m_iconst (v := 0) (d_M_isRight_0 (k := 20) rfl) (by decide) ?_
          exact m_zret (d_M_isRight_0 (k := 21) rfl) rfl
        · refine m_aload_n (d_M_isRight_0 (k := 22) rfl) rfl ?_
          refine m_getR (d_M_isRight_0 (k := 23) rfl) fl_M_101 rfl (fun a7 => ?_)
          refine m_aload_n (d_M_isRight_0 (k := 24) rfl) rfl ?_
          refine m_getI (d_M_isRight_0 (k := 25) rfl) fl_M_350 rfl (fun x8 => ?_)
          refine m_iald (d_M_isRight_0 (k := 26) rfl) (fun x9 => ?_)
          refine m_ist_n (ls' := [some (.inr t0), some (.inl x9), none]) (d_M_isRight_0 (k := 27) rfl) (by decide) rfl ?_
          refine m_aload_n (d_M_isRight_0 (k := 28) rfl) rfl ?_
          refine m_iload_n (d_M_isRight_0 (k := 29) rfl) rfl ?_
          refine m_bipush (v := 16) (d_M_isRight_0 (k := 30) rfl) (by decide) ?_
          refine m_iand (d_M_isRight_0 (k := 31) rfl) ?_
          refine m_if_eq (tgt := 65) (d_M_isRight_0 (k := 32) rfl) rfl ?_ ?_
          · refine m_iconst (v := 0) (d_M_isRight_0 (k := 35) rfl) (by decide) ?_
            exact m_drop (mles_s (mles_s (mles_n mles_0))) (v_M_isRight_66 t0 x9 (0 : Int32) t0 M)
          · refine m_iconst (v := 1) (d_M_isRight_0 (k := 33) rfl) (by decide) ?_
            refine m_goto (tgt := 66) (d_M_isRight_0 (k := 34) rfl) rfl ?_
            exact m_drop (mles_s (mles_s (mles_n mles_0))) (v_M_isRight_66 t0 x9 (1 : Int32) t0 M)
    · refine m_iconst (v := 0) (d_M_isRight_0 (k := 8) rfl) (by decide) ?_
      exact m_zret (d_M_isRight_0 (k := 9) rfl) rfl
theorem s_M_isRight {E : mE} (t0 : Option Nat) (M : mM) : mSnd E mi_M_isRight 3 [.inr t0] M enI (q_M_isRight t0 M) := m_entryZ (by decide) (Nat.le_of_ble_eq_true rfl) rfl (m_drop (mles_s (mles_e (mles_e mles_0))) (v_M_isRight t0 M))
def dt_M_learn : List (Nat × Instr × Nat) := [(0, .aload_n 0, 1), (1, .getfield 185, 3), (4, .bipush 36, 2), (6, .iload_n 1, 1), (7, .imul, 1), (8, .bipush 6, 2), (10, .iload_n 2, 1), (11, .imul, 1), (12, .iadd, 1), (13, .iload_n 3, 1), (14, .iadd, 1), (15, .iload 4, 2), (17, .iastore, 1), (18, .aload_n 0, 1), (19, .getfield 188, 3), (22, .bipush 36, 2), (24, .iload_n 1, 1), (25, .imul, 1), (26, .bipush 6, 2), (28, .iload_n 2, 1), (29, .imul, 1), (30, .iadd, 1), (31, .iload_n 3, 1), (32, .iadd, 1), (33, .iconst 5, 1), (34, .iastore, 1), (35, .return_, 1)]
theorem dx_M_learn : ∀ p ∈ dt_M_learn, decode prog_12_method_72_code p.1 = .ok p.2 := by decide +kernel
theorem d_M_learn {k pc : Nat} {i : Instr} {n : Nat} (h : dt_M_learn[k]? = some (pc, i, n)) : decode mi_M_learn.2.1 pc = .ok (i, n) := dx_M_learn (pc, i, n) (List.mem_of_getElem? h)
def q_M_learn (t0 : Option Nat) (i1 : Int32) (i2 : Int32) (i3 : Int32) (i4 : Int32) (M : mM) : Option (Unit × mM) :=
    x_gR M 10 t0 74 fun a1 =>
    x_wI M a1 ((((36 : Int32) * i1) + ((6 : Int32) * i2)) + i3) i4 fun M =>
    x_gR M 10 t0 75 fun a2 =>
    x_wI M a2 ((((36 : Int32) * i1) + ((6 : Int32) * i2)) + i3) (5 : Int32) fun M =>
    some ((), M)
set_option maxRecDepth 20000 in
theorem v_M_learn {E : mE} (t0 : Option Nat) (i1 : Int32) (i2 : Int32) (i3 : Int32) (i4 : Int32) (M : mM) : mVr E mi_M_learn 0 0 [some (.inr t0), some (.inl i1), some (.inl i2), some (.inl i3), some (.inl i4)] [] M enU (q_M_learn t0 i1 i2 i3 i4 M) := by
  unfold q_M_learn
  refine m_aload_n (d_M_learn (k := 0) rfl) rfl ?_
  refine m_getR (d_M_learn (k := 1) rfl) fl_M_185 rfl (fun a1 => ?_)
  refine m_bipush (v := 36) (d_M_learn (k := 2) rfl) (by decide) ?_
  refine m_iload_n (d_M_learn (k := 3) rfl) rfl ?_
  refine m_imul (d_M_learn (k := 4) rfl) ?_
  refine m_bipush (v := 6) (d_M_learn (k := 5) rfl) (by decide) ?_
  refine m_iload_n (d_M_learn (k := 6) rfl) rfl ?_
  refine m_imul (d_M_learn (k := 7) rfl) ?_
  refine m_iadd (d_M_learn (k := 8) rfl) ?_
  refine m_iload_n (d_M_learn (k := 9) rfl) rfl ?_
  refine m_iadd (d_M_learn (k := 10) rfl) ?_
  refine m_iload (d_M_learn (k := 11) rfl) rfl ?_
  refine m_iast (d_M_learn (k := 12) rfl) (fun M => ?_)
  refine m_aload_n (d_M_learn (k := 13) rfl) rfl ?_
  refine m_getR (d_M_learn (k := 14) rfl) fl_M_188 rfl (fun a2 => ?_)
  refine m_bipush (v := 36) (d_M_learn (k := 15) rfl) (by decide) ?_
  refine m_iload_n (d_M_learn (k := 16) rfl) rfl ?_
  refine m_imul (d_M_learn (k := 17) rfl) ?_
  refine m_bipush (v := 6) (d_M_learn (k := 18) rfl) (by decide) ?_
  refine m_iload_n (d_M_learn (k := 19) rfl) rfl ?_
  refine m_imul (d_M_learn (k := 20) rfl) ?_
  refine m_iadd (d_M_learn (k := 21) rfl) ?_
  refine m_iload_n (d_M_learn (k := 22) rfl) rfl ?_
  refine m_iadd (d_M_learn (k := 23) rfl) ?_
  refine m_iconst (v := 5) (d_M_learn (k := 24) rfl) (by decide) ?_
  refine m_iast (d_M_learn (k := 25) rfl) (fun M => ?_)
  exact m_vret (d_M_learn (k := 26) rfl) rfl
theorem s_M_learn {E : mE} (t0 : Option Nat) (i1 : Int32) (i2 : Int32) (i3 : Int32) (i4 : Int32) (M : mM) : mSnd E mi_M_learn 0 [.inr t0, .inl i1, .inl i2, .inl i3, .inl i4] M enU (q_M_learn t0 i1 i2 i3 i4 M) := m_entryU (by decide) (Nat.le_of_ble_eq_true rfl) rfl (m_drop (mles_s (mles_s (mles_s (mles_s (mles_s mles_0))))) (v_M_learn t0 i1 i2 i3 i4 M))
def dt_M_learns : List (Nat × Instr × Nat) := [(0, .aload_n 0, 1), (1, .getfield 44, 3), (4, .bipush 9, 2), (6, .iload_n 1, 1), (7, .imul, 1), (8, .iconst 5, 1), (9, .iadd, 1), (10, .iaload, 1), (11, .istore_n 2, 1), (12, .aload_n 0, 1), (13, .iload_n 1, 1), (14, .aload_n 0, 1), (15, .getfield 337, 3), (18, .aload_n 0, 1), (19, .getfield 337, 3), (22, .iload_n 2, 1), (23, .invokevirtual 452, 3), (26, .aload_n 0, 1), (27, .getfield 350, 3), (30, .iconst 3, 1), (31, .iadd, 1), (32, .istore_n 3, 1), (33, .iload_n 3, 1), (34, .aload_n 0, 1), (35, .getfield 347, 3), (38, .if_icmp .ge 68, 3), (41, .aload_n 0, 1), (42, .getfield 101, 3), (45, .iload_n 3, 1), (46, .iaload, 1), (47, .iload_n 1, 1), (48, .if_icmp .eq 52, 3), (51, .aload_n 0, 1), (52, .iload_n 1, 1), (53, .aload_n 0, 1), (54, .getfield 101, 3), (57, .iload_n 3, 1), (58, .iaload, 1), (59, .aload_n 0, 1), (60, .getfield 337, 3), (63, .aload_n 0, 1), (64, .getfield 101, 3), (67, .iload_n 3, 1), (68, .iconst 1, 1), (69, .iadd, 1), (70, .iaload, 1), (71, .iload_n 1, 1), (72, .if_icmp .ne 7, 3), (75, .iconst 0, 1), (76, .goto 21, 3), (79, .aload_n 0, 1), (80, .getfield 101, 3), (83, .iload_n 3, 1), (84, .iconst 2, 1), (85, .iadd, 1), (86, .iaload, 1), (87, .iload_n 2, 1), (88, .imul, 1), (89, .sipush 128, 3), (92, .iadd, 1), (93, .sipush 256, 3), (96, .idiv, 1), (97, .invokevirtual 452, 3), (100, .iinc 3 3, 3), (103, .goto (-70), 3), (106, .return_, 1)]
theorem dx_M_learns : ∀ p ∈ dt_M_learns, decode prog_12_method_73_code p.1 = .ok p.2 := by decide +kernel
theorem d_M_learns {k pc : Nat} {i : Instr} {n : Nat} (h : dt_M_learns[k]? = some (pc, i, n)) : decode mi_M_learns.2.1 pc = .ok (i, n) := dx_M_learns (pc, i, n) (List.mem_of_getElem? h)
def q_M_learns_100 (r33 : Option Nat → Int32 → Int32 → Int32 → mM → Option (Unit × mM)) (t0 : Option Nat) (i1 : Int32) (i2 : Int32) (i3 : Int32) (M : mM) : Option (Unit × mM) :=
    r33 t0 i1 i2 (i3 + 3) M
set_option maxRecDepth 20000 in
theorem v_M_learns_100 {E : mE} (r33 : Option Nat → Int32 → Int32 → Int32 → mM → Option (Unit × mM)) (h33 : ∀ (t0 : Option Nat) (i1 : Int32) (i2 : Int32) (i3 : Int32) (M : mM), mVr E mi_M_learns 1 33 [some (.inr t0), some (.inl i1), some (.inl i2), some (.inl i3)] [] M enU (r33 t0 i1 i2 i3 M)) (t0 : Option Nat) (i1 : Int32) (i2 : Int32) (i3 : Int32) (M : mM) : mVr E mi_M_learns 1 100 [some (.inr t0), some (.inl i1), some (.inl i2), some (.inl i3)] [] M enU (q_M_learns_100 r33 t0 i1 i2 i3 M) := by
  unfold q_M_learns_100
  refine m_inc (v := 3) (ls' := [some (.inr t0), some (.inl i1), some (.inl i2), some (.inl (i3 + 3))]) (d_M_learns (k := 63) rfl) rfl (by decide) (by decide) rfl ?_
  refine m_goto (tgt := 33) (d_M_learns (k := 64) rfl) rfl ?_
  exact m_drop (mles_s (mles_s (mles_s (mles_s mles_0)))) (h33 t0 i1 i2 (i3 + 3) M)
def q_M_learns_97 (r33 : Option Nat → Int32 → Int32 → Int32 → mM → Option (Unit × mM)) (t0 : Option Nat) (i1 : Int32) (i2 : Int32) (i3 : Int32) (j0 : Int32) (j1 : Int32) (j2 : Int32) (j3 : Int32) (u4 : Option Nat) (M : mM) : Option (Unit × mM) :=
    x_cv M 10 u4 (q_M_learn u4 j3 j2 j1 j0 M) fun _ M =>
    q_M_learns_100 r33 t0 i1 i2 i3 M
set_option maxRecDepth 20000 in
theorem v_M_learns_97 {E : mE} (r33 : Option Nat → Int32 → Int32 → Int32 → mM → Option (Unit × mM)) (h33 : ∀ (t0 : Option Nat) (i1 : Int32) (i2 : Int32) (i3 : Int32) (M : mM), mVr E mi_M_learns 1 33 [some (.inr t0), some (.inl i1), some (.inl i2), some (.inl i3)] [] M enU (r33 t0 i1 i2 i3 M)) (t0 : Option Nat) (i1 : Int32) (i2 : Int32) (i3 : Int32) (j0 : Int32) (j1 : Int32) (j2 : Int32) (j3 : Int32) (u4 : Option Nat) (M : mM) : mVr E mi_M_learns 1 97 [some (.inr t0), some (.inl i1), some (.inl i2), some (.inl i3)] [.inl j0, .inl j1, .inl j2, .inl j3, .inr u4] M enU (q_M_learns_97 r33 t0 i1 i2 i3 j0 j1 j2 j3 u4 M) := by
  unfold q_M_learns_97
  refine m_cvU (c := 10) (vs := [.inl j3, .inl j2, .inl j1, .inl j0]) (st := []) (d_M_learns (k := 62) rfl) (s_M_learn u4 j3 j2 j1 j0 M) cd_M_learn ml_M_452 im_M_learn se_M_learn rfl (by decide) rfl (Nat.le_of_ble_eq_true rfl) (fun _ M => ?_)
  exact m_drop (mles_s (mles_s (mles_s (mles_s mles_0)))) (v_M_learns_100 r33 h33 t0 i1 i2 i3 M)
def q_M_learns_33_b (r33 : Option Nat → Int32 → Int32 → Int32 → mM → Option (Unit × mM)) (t0 : Option Nat) (i1 : Int32) (i2 : Int32) (i3 : Int32) (M : mM) : Option (Unit × mM) :=
    x_gI M 10 t0 37 fun x1 =>
    if i3 < x1 then
      x_gR M 10 t0 36 fun a2 =>
      x_aI M 0 a2 i3 fun x3 =>
      if x3 = i1 then
        q_M_learns_100 r33 t0 i1 i2 i3 M
      else
        x_gR M 10 t0 36 fun a4 =>
        x_aI M 0 a4 i3 fun x5 =>
        x_gI M 10 t0 39 fun x6 =>
        x_gR M 10 t0 36 fun a7 =>
        x_aI M 0 a7 (i3 + (1 : Int32)) fun x8 =>
        if x8 = i1 then
          q_M_learns_97 r33 t0 i1 i2 i3 (0 : Int32) x6 x5 i1 t0 M
        else
          x_gR M 10 t0 36 fun a9 =>
          x_aI M 0 a9 (i3 + (2 : Int32)) fun x10 =>
          x_dv ((x10 * i2) + (128 : Int32)) (256 : Int32) fun x11 =>
          q_M_learns_97 r33 t0 i1 i2 i3 x11 x6 x5 i1 t0 M
    else
      some ((), M)
def q_M_learns_33 : Nat → Option Nat → Int32 → Int32 → Int32 → mM → Option (Unit × mM)
  | 0, _, _, _, _, _ => none
  | n + 1, t0, i1, i2, i3, M => q_M_learns_33_b (q_M_learns_33 n) t0 i1 i2 i3 M
set_option maxRecDepth 20000 in
theorem v_M_learns_33_b {E : mE} (r33 : Option Nat → Int32 → Int32 → Int32 → mM → Option (Unit × mM)) (h33 : ∀ (t0 : Option Nat) (i1 : Int32) (i2 : Int32) (i3 : Int32) (M : mM), mVr E mi_M_learns 1 33 [some (.inr t0), some (.inl i1), some (.inl i2), some (.inl i3)] [] M enU (r33 t0 i1 i2 i3 M)) (t0 : Option Nat) (i1 : Int32) (i2 : Int32) (i3 : Int32) (M : mM) : mVr E mi_M_learns 1 33 [some (.inr t0), some (.inl i1), some (.inl i2), some (.inl i3)] [] M enU (q_M_learns_33_b r33 t0 i1 i2 i3 M) := by
  unfold q_M_learns_33_b
  refine m_iload_n (d_M_learns (k := 22) rfl) rfl ?_
  refine m_aload_n (d_M_learns (k := 23) rfl) rfl ?_
  refine m_getI (d_M_learns (k := 24) rfl) fl_M_347 rfl (fun x1 => ?_)
  refine m_icmp_ge (tgt := 106) (d_M_learns (k := 25) rfl) rfl ?_ ?_
  · refine m_aload_n (d_M_learns (k := 26) rfl) rfl ?_
    refine m_getR (d_M_learns (k := 27) rfl) fl_M_101 rfl (fun a2 => ?_)
    refine m_iload_n (d_M_learns (k := 28) rfl) rfl ?_
    refine m_iald (d_M_learns (k := 29) rfl) (fun x3 => ?_)
    refine m_iload_n (d_M_learns (k := 30) rfl) rfl ?_
    refine m_icmp_eq (tgt := 100) (d_M_learns (k := 31) rfl) rfl ?_ ?_
    · exact m_drop (mles_s (mles_s (mles_s (mles_s mles_0)))) (v_M_learns_100 r33 h33 t0 i1 i2 i3 M)
    · refine m_aload_n (d_M_learns (k := 32) rfl) rfl ?_
      refine m_iload_n (d_M_learns (k := 33) rfl) rfl ?_
      refine m_aload_n (d_M_learns (k := 34) rfl) rfl ?_
      refine m_getR (d_M_learns (k := 35) rfl) fl_M_101 rfl (fun a4 => ?_)
      refine m_iload_n (d_M_learns (k := 36) rfl) rfl ?_
      refine m_iald (d_M_learns (k := 37) rfl) (fun x5 => ?_)
      refine m_aload_n (d_M_learns (k := 38) rfl) rfl ?_
      refine m_getI (d_M_learns (k := 39) rfl) fl_M_337 rfl (fun x6 => ?_)
      refine m_aload_n (d_M_learns (k := 40) rfl) rfl ?_
      refine m_getR (d_M_learns (k := 41) rfl) fl_M_101 rfl (fun a7 => ?_)
      refine m_iload_n (d_M_learns (k := 42) rfl) rfl ?_
      refine m_iconst (v := 1) (d_M_learns (k := 43) rfl) (by decide) ?_
      refine m_iadd (d_M_learns (k := 44) rfl) ?_
      refine m_iald (d_M_learns (k := 45) rfl) (fun x8 => ?_)
      refine m_iload_n (d_M_learns (k := 46) rfl) rfl ?_
      refine m_icmp_ne (tgt := 79) (d_M_learns (k := 47) rfl) rfl ?_ ?_
      · refine m_iconst (v := 0) (d_M_learns (k := 48) rfl) (by decide) ?_
        refine m_goto (tgt := 97) (d_M_learns (k := 49) rfl) rfl ?_
        exact m_drop (mles_s (mles_s (mles_s (mles_s mles_0)))) (v_M_learns_97 r33 h33 t0 i1 i2 i3 (0 : Int32) x6 x5 i1 t0 M)
      · refine m_aload_n (d_M_learns (k := 50) rfl) rfl ?_
        refine m_getR (d_M_learns (k := 51) rfl) fl_M_101 rfl (fun a9 => ?_)
        refine m_iload_n (d_M_learns (k := 52) rfl) rfl ?_
        refine m_iconst (v := 2) (d_M_learns (k := 53) rfl) (by decide) ?_
        refine m_iadd (d_M_learns (k := 54) rfl) ?_
        refine m_iald (d_M_learns (k := 55) rfl) (fun x10 => ?_)
        refine m_iload_n (d_M_learns (k := 56) rfl) rfl ?_
        refine m_imul (d_M_learns (k := 57) rfl) ?_
        refine m_sipush (v := 128) (d_M_learns (k := 58) rfl) (by decide) ?_
        refine m_iadd (d_M_learns (k := 59) rfl) ?_
        refine m_sipush (v := 256) (d_M_learns (k := 60) rfl) (by decide) ?_
        refine m_idiv (d_M_learns (k := 61) rfl) (fun x11 => ?_)
        exact m_drop (mles_s (mles_s (mles_s (mles_s mles_0)))) (v_M_learns_97 r33 h33 t0 i1 i2 i3 x11 x6 x5 i1 t0 M)
  · exact m_vret (d_M_learns (k := 65) rfl) rfl
theorem v_M_learns_33 {E : mE} : ∀ (n : Nat) (t0 : Option Nat) (i1 : Int32) (i2 : Int32) (i3 : Int32) (M : mM), mVr E mi_M_learns 1 33 [some (.inr t0), some (.inl i1), some (.inl i2), some (.inl i3)] [] M enU (q_M_learns_33 n t0 i1 i2 i3 M)
  | 0, _, _, _, _, _ => m_none
  | n + 1, t0, i1, i2, i3, M => v_M_learns_33_b _ (v_M_learns_33 n) t0 i1 i2 i3 M
def q_M_learns (t0 : Option Nat) (i1 : Int32) (M : mM) : Option (Unit × mM) :=
    x_gR M 10 t0 16 fun a1 =>
    x_aI M 0 a1 (((9 : Int32) * i1) + (5 : Int32)) fun x2 =>
    x_gI M 10 t0 39 fun x3 =>
    x_gI M 10 t0 39 fun x4 =>
    x_cv M 10 t0 (q_M_learn t0 i1 x3 x4 x2 M) fun _ M =>
    x_gI M 10 t0 43 fun x5 =>
    x_lt (x5 + (3 : Int32)) fun x6 =>
    q_M_learns_33 mFU t0 i1 x2 x6 M
set_option maxRecDepth 20000 in
theorem v_M_learns {E : mE} (t0 : Option Nat) (i1 : Int32) (M : mM) : mVr E mi_M_learns 1 0 [some (.inr t0), some (.inl i1), none, none] [] M enU (q_M_learns t0 i1 M) := by
  unfold q_M_learns
  refine m_aload_n (d_M_learns (k := 0) rfl) rfl ?_
  refine m_getR (d_M_learns (k := 1) rfl) fl_M_44 rfl (fun a1 => ?_)
  refine m_bipush (v := 9) (d_M_learns (k := 2) rfl) (by decide) ?_
  refine m_iload_n (d_M_learns (k := 3) rfl) rfl ?_
  refine m_imul (d_M_learns (k := 4) rfl) ?_
  refine m_iconst (v := 5) (d_M_learns (k := 5) rfl) (by decide) ?_
  refine m_iadd (d_M_learns (k := 6) rfl) ?_
  refine m_iald (d_M_learns (k := 7) rfl) (fun x2 => ?_)
  refine m_ist_n (ls' := [some (.inr t0), some (.inl i1), some (.inl x2), none]) (d_M_learns (k := 8) rfl) (by decide) rfl ?_
  refine m_aload_n (d_M_learns (k := 9) rfl) rfl ?_
  refine m_iload_n (d_M_learns (k := 10) rfl) rfl ?_
  refine m_aload_n (d_M_learns (k := 11) rfl) rfl ?_
  refine m_getI (d_M_learns (k := 12) rfl) fl_M_337 rfl (fun x3 => ?_)
  refine m_aload_n (d_M_learns (k := 13) rfl) rfl ?_
  refine m_getI (d_M_learns (k := 14) rfl) fl_M_337 rfl (fun x4 => ?_)
  refine m_iload_n (d_M_learns (k := 15) rfl) rfl ?_
  refine m_cvU (c := 10) (vs := [.inl i1, .inl x3, .inl x4, .inl x2]) (st := []) (d_M_learns (k := 16) rfl) (s_M_learn t0 i1 x3 x4 x2 M) cd_M_learn ml_M_452 im_M_learn se_M_learn rfl (by decide) rfl (Nat.le_of_ble_eq_true rfl) (fun _ M => ?_)
  refine m_aload_n (d_M_learns (k := 17) rfl) rfl ?_
  refine m_getI (d_M_learns (k := 18) rfl) fl_M_350 rfl (fun x5 => ?_)
  refine m_iconst (v := 3) (d_M_learns (k := 19) rfl) (by decide) ?_
  refine m_iadd (d_M_learns (k := 20) rfl) ?_
  refine m_lt (fun x6 => ?_)
  refine m_ist_n (ls' := [some (.inr t0), some (.inl i1), some (.inl x2), some (.inl x6)]) (d_M_learns (k := 21) rfl) (by decide) rfl ?_
  exact m_drop (mles_s (mles_s (mles_s (mles_s mles_0)))) (v_M_learns_33 mFU t0 i1 x2 x6 M)
theorem s_M_learns {E : mE} (t0 : Option Nat) (i1 : Int32) (M : mM) : mSnd E mi_M_learns 1 [.inr t0, .inl i1] M enU (q_M_learns t0 i1 M) := m_entryU (by decide) (Nat.le_of_ble_eq_true rfl) rfl (m_drop (mles_s (mles_s (mles_e (mles_e mles_0)))) (v_M_learns t0 i1 M))
def dt_M_taken_0 : List (Nat × Instr × Nat) := [(0, .aload_n 0, 1), (1, .aload_n 0, 1), (2, .getfield 35, 3), (5, .iload_n 1, 1), (6, .iaload, 1), (7, .putfield 347, 3), (10, .iconst 0, 1), (11, .istore_n 2, 1), (12, .iload_n 2, 1), (13, .aload_n 0, 1), (14, .getfield 347, 3), (17, .if_icmp .ge 26, 3), (20, .aload_n 0, 1), (21, .getfield 101, 3), (24, .iload_n 2, 1), (25, .aload_n 0, 1), (26, .getfield 38, 3), (29, .bipush 90, 2), (31, .iload_n 1, 1), (32, .imul, 1), (33, .iload_n 2, 1), (34, .iadd, 1), (35, .iaload, 1), (36, .iastore, 1), (37, .iinc 2 1, 3), (40, .goto (-28), 3), (43, .aload_n 0, 1), (44, .invokevirtual 375, 3), (47, .ifCond .ne 10, 3), (50, .aload_n 0, 1), (51, .iload_n 1, 1), (52, .iconst 3, 1), (53, .invokevirtual 267, 3), (56, .return_, 1), (57, .iconst 0, 1), (58, .istore_n 2, 1), (59, .iload_n 2, 1), (60, .aload_n 0, 1), (61, .getfield 344, 3), (64, .if_icmp .ge 89, 3)]
theorem dx_M_taken_0 : ∀ p ∈ dt_M_taken_0, decode prog_12_method_47_code p.1 = .ok p.2 := by decide +kernel
theorem d_M_taken_0 {k pc : Nat} {i : Instr} {n : Nat} (h : dt_M_taken_0[k]? = some (pc, i, n)) : decode mi_M_taken.2.1 pc = .ok (i, n) := dx_M_taken_0 (pc, i, n) (List.mem_of_getElem? h)
def dt_M_taken_1 : List (Nat × Instr × Nat) := [(67, .aload_n 0, 1), (68, .getfield 107, 3), (71, .iload_n 2, 1), (72, .baload, 1), (73, .ifCond .eq 6, 3), (76, .goto 71, 3), (79, .aload_n 0, 1), (80, .getfield 104, 3), (83, .iload_n 2, 1), (84, .iaload, 1), (85, .iload_n 1, 1), (86, .if_icmp .ne 60, 3), (89, .aload_n 0, 1), (90, .iconst 0, 1), (91, .putfield 264, 3), (94, .iconst 0, 1), (95, .istore_n 3, 1), (96, .iload_n 3, 1), (97, .aload_n 0, 1), (98, .getfield 347, 3), (101, .if_icmp .ge 19, 3), (104, .aload_n 0, 1), (105, .aload_n 0, 1), (106, .getfield 101, 3), (109, .iload_n 3, 1), (110, .iaload, 1), (111, .invokevirtual 270, 3), (114, .iinc 3 1, 3), (117, .goto (-21), 3), (120, .aload_n 0, 1), (121, .getfield 95, 3), (124, .bipush 14, 2), (126, .bipush 7, 2), (128, .iload_n 2, 1), (129, .imul, 1), (130, .iadd, 1), (131, .bipush 6, 2), (133, .iadd, 1), (134, .dup2, 1), (135, .iaload, 1)]
theorem dx_M_taken_1 : ∀ p ∈ dt_M_taken_1, decode prog_12_method_47_code p.1 = .ok p.2 := by decide +kernel
theorem d_M_taken_1 {k pc : Nat} {i : Instr} {n : Nat} (h : dt_M_taken_1[k]? = some (pc, i, n)) : decode mi_M_taken.2.1 pc = .ok (i, n) := dx_M_taken_1 (pc, i, n) (List.mem_of_getElem? h)
def dt_M_taken_2 : List (Nat × Instr × Nat) := [(136, .sipush 128, 3), (139, .iadd, 1), (140, .iastore, 1), (141, .aload_n 0, 1), (142, .iload_n 1, 1), (143, .invokevirtual 273, 3), (146, .return_, 1), (147, .iinc 2 1, 3), (150, .goto (-91), 3), (153, .aload_n 0, 1), (154, .getfield 334, 3), (157, .bipush 6, 2), (159, .if_icmp .ne 16, 3), (162, .aload_n 0, 1), (163, .getfield 337, 3), (166, .iload_n 1, 1), (167, .if_icmp .eq 8, 3), (170, .aload_n 0, 1), (171, .iload_n 1, 1), (172, .invokevirtual 378, 3), (175, .aload_n 0, 1), (176, .getfield 334, 3), (179, .iload_n 1, 1), (180, .if_icmp .ne 8, 3), (183, .aload_n 0, 1), (184, .iload_n 1, 1), (185, .invokevirtual 381, 3), (188, .return_, 1)]
theorem dx_M_taken_2 : ∀ p ∈ dt_M_taken_2, decode prog_12_method_47_code p.1 = .ok p.2 := by decide +kernel
theorem d_M_taken_2 {k pc : Nat} {i : Instr} {n : Nat} (h : dt_M_taken_2[k]? = some (pc, i, n)) : decode mi_M_taken.2.1 pc = .ok (i, n) := dx_M_taken_2 (pc, i, n) (List.mem_of_getElem? h)
def q_M_taken_96_b (r96 : Option Nat → Int32 → Int32 → Int32 → mM → Option (Unit × mM)) (t0 : Option Nat) (i1 : Int32) (i2 : Int32) (i3 : Int32) (M : mM) : Option (Unit × mM) :=
    x_gI M 10 t0 37 fun x1 =>
    if i3 < x1 then
      x_gR M 10 t0 36 fun a2 =>
      x_aI M 0 a2 i3 fun x3 =>
      x_cv M 10 t0 (q_M_put t0 x3 M) fun _ M =>
      r96 t0 i1 i2 (i3 + 1) M
    else
      x_gR M 10 t0 33 fun a4 =>
      x_lt (((14 : Int32) + ((7 : Int32) * i2)) + (6 : Int32)) fun x5 =>
      x_aI M 0 a4 x5 fun x6 =>
      x_wI M a4 x5 (x6 + (128 : Int32)) fun M =>
      x_cv M 10 t0 (q_M_enqueue t0 i1 M) fun _ M =>
      some ((), M)
def q_M_taken_96 : Nat → Option Nat → Int32 → Int32 → Int32 → mM → Option (Unit × mM)
  | 0, _, _, _, _, _ => none
  | n + 1, t0, i1, i2, i3, M => q_M_taken_96_b (q_M_taken_96 n) t0 i1 i2 i3 M
set_option maxRecDepth 20000 in
theorem v_M_taken_96_b {E : mE} (r96 : Option Nat → Int32 → Int32 → Int32 → mM → Option (Unit × mM)) (h96 : ∀ (t0 : Option Nat) (i1 : Int32) (i2 : Int32) (i3 : Int32) (M : mM), mVr E mi_M_taken 9 96 [some (.inr t0), some (.inl i1), some (.inl i2), some (.inl i3)] [] M enU (r96 t0 i1 i2 i3 M)) (t0 : Option Nat) (i1 : Int32) (i2 : Int32) (i3 : Int32) (M : mM) : mVr E mi_M_taken 9 96 [some (.inr t0), some (.inl i1), some (.inl i2), some (.inl i3)] [] M enU (q_M_taken_96_b r96 t0 i1 i2 i3 M) := by
  unfold q_M_taken_96_b
  refine m_iload_n (d_M_taken_1 (k := 17) rfl) rfl ?_
  refine m_aload_n (d_M_taken_1 (k := 18) rfl) rfl ?_
  refine m_getI (d_M_taken_1 (k := 19) rfl) fl_M_347 rfl (fun x1 => ?_)
  refine m_icmp_ge (tgt := 120) (d_M_taken_1 (k := 20) rfl) rfl ?_ ?_
  · refine m_aload_n (d_M_taken_1 (k := 21) rfl) rfl ?_
    refine m_aload_n (d_M_taken_1 (k := 22) rfl) rfl ?_
    refine m_getR (d_M_taken_1 (k := 23) rfl) fl_M_101 rfl (fun a2 => ?_)
    refine m_iload_n (d_M_taken_1 (k := 24) rfl) rfl ?_
    refine m_iald (d_M_taken_1 (k := 25) rfl) (fun x3 => ?_)
    refine m_cvU (c := 10) (vs := [.inl x3]) (st := []) (d_M_taken_1 (k := 26) rfl) (s_M_put t0 x3 M) cd_M_put ml_M_270 im_M_put se_M_put rfl (by decide) rfl (Nat.le_of_ble_eq_true rfl) (fun _ M => ?_)
    refine m_inc (v := 1) (ls' := [some (.inr t0), some (.inl i1), some (.inl i2), some (.inl (i3 + 1))]) (d_M_taken_1 (k := 27) rfl) rfl (by decide) (by decide) rfl ?_
    refine m_goto (tgt := 96) (d_M_taken_1 (k := 28) rfl) rfl ?_
    exact m_drop (mles_s (mles_s (mles_s (mles_s mles_0)))) (h96 t0 i1 i2 (i3 + 1) M)
  · refine m_aload_n (d_M_taken_1 (k := 29) rfl) rfl ?_
    refine m_getR (d_M_taken_1 (k := 30) rfl) fl_M_95 rfl (fun a4 => ?_)
    refine m_bipush (v := 14) (d_M_taken_1 (k := 31) rfl) (by decide) ?_
    refine m_bipush (v := 7) (d_M_taken_1 (k := 32) rfl) (by decide) ?_
    refine m_iload_n (d_M_taken_1 (k := 33) rfl) rfl ?_
    refine m_imul (d_M_taken_1 (k := 34) rfl) ?_
    refine m_iadd (d_M_taken_1 (k := 35) rfl) ?_
    refine m_bipush (v := 6) (d_M_taken_1 (k := 36) rfl) (by decide) ?_
    refine m_iadd (d_M_taken_1 (k := 37) rfl) ?_
    refine m_lt (fun x5 => ?_)
    refine m_dup2 (d_M_taken_1 (k := 38) rfl) ?_
    refine m_iald (d_M_taken_1 (k := 39) rfl) (fun x6 => ?_)
    refine m_sipush (v := 128) (d_M_taken_2 (k := 0) rfl) (by decide) ?_
    refine m_iadd (d_M_taken_2 (k := 1) rfl) ?_
    refine m_iast (d_M_taken_2 (k := 2) rfl) (fun M => ?_)
    refine m_aload_n (d_M_taken_2 (k := 3) rfl) rfl ?_
    refine m_iload_n (d_M_taken_2 (k := 4) rfl) rfl ?_
    refine m_cvU (c := 10) (vs := [.inl i1]) (st := []) (d_M_taken_2 (k := 5) rfl) (s_M_enqueue t0 i1 M) cd_M_enqueue ml_M_273 im_M_enqueue se_M_enqueue rfl (by decide) rfl (Nat.le_of_ble_eq_true rfl) (fun _ M => ?_)
    exact m_vret (d_M_taken_2 (k := 6) rfl) rfl
theorem v_M_taken_96 {E : mE} : ∀ (n : Nat) (t0 : Option Nat) (i1 : Int32) (i2 : Int32) (i3 : Int32) (M : mM), mVr E mi_M_taken 9 96 [some (.inr t0), some (.inl i1), some (.inl i2), some (.inl i3)] [] M enU (q_M_taken_96 n t0 i1 i2 i3 M)
  | 0, _, _, _, _, _ => m_none
  | n + 1, t0, i1, i2, i3, M => v_M_taken_96_b _ (v_M_taken_96 n) t0 i1 i2 i3 M
def q_M_taken_175 (t0 : Option Nat) (i1 : Int32) (M : mM) : Option (Unit × mM) :=
    x_gI M 10 t0 38 fun x1 =>
    if x1 = i1 then
      x_cv M 10 t0 (q_M_answers t0 i1 M) fun _ M =>
      some ((), M)
    else
      some ((), M)
set_option maxRecDepth 20000 in
theorem v_M_taken_175 {E : mE} (t0 : Option Nat) (i1 : Int32) (M : mM) : mVr E mi_M_taken 9 175 [some (.inr t0), some (.inl i1), none, none] [] M enU (q_M_taken_175 t0 i1 M) := by
  unfold q_M_taken_175
  refine m_aload_n (d_M_taken_2 (k := 20) rfl) rfl ?_
  refine m_getI (d_M_taken_2 (k := 21) rfl) fl_M_334 rfl (fun x1 => ?_)
  refine m_iload_n (d_M_taken_2 (k := 22) rfl) rfl ?_
  refine m_icmp_ne (tgt := 188) (d_M_taken_2 (k := 23) rfl) rfl ?_ ?_
  · refine m_aload_n (d_M_taken_2 (k := 24) rfl) rfl ?_
    refine m_iload_n (d_M_taken_2 (k := 25) rfl) rfl ?_
    refine m_cvU (c := 10) (vs := [.inl i1]) (st := []) (d_M_taken_2 (k := 26) rfl) (s_M_answers t0 i1 M) cd_M_answers ml_M_381 im_M_answers se_M_answers rfl (by decide) rfl (Nat.le_of_ble_eq_true rfl) (fun _ M => ?_)
    exact m_vret (d_M_taken_2 (k := 27) rfl) rfl
  · exact m_vret (d_M_taken_2 (k := 27) rfl) rfl
def q_M_taken_59_b (r59 : Option Nat → Int32 → Int32 → mM → Option (Unit × mM)) (t0 : Option Nat) (i1 : Int32) (i2 : Int32) (M : mM) : Option (Unit × mM) :=
    x_gI M 10 t0 40 fun x1 =>
    if i2 < x1 then
      x_gR M 10 t0 47 fun a2 =>
      x_aI M 1 a2 i2 fun x3 =>
      if x3 = 0 then
        x_gR M 10 t0 46 fun a4 =>
        x_aI M 0 a4 i2 fun x5 =>
        if x5 = i1 then
          x_pI M 10 t0 34 (0 : Int32) fun M =>
          q_M_taken_96 mFU t0 i1 i2 (0 : Int32) M
        else
          some ((), M)
      else
        r59 t0 i1 (i2 + 1) M
    else
      x_gI M 10 t0 38 fun x6 =>
      if x6 = (6 : Int32) then
        x_gI M 10 t0 39 fun x7 =>
        if x7 = i1 then
          q_M_taken_175 t0 i1 M
        else
          x_cv M 10 t0 (q_M_learns t0 i1 M) fun _ M =>
          q_M_taken_175 t0 i1 M
      else
        q_M_taken_175 t0 i1 M
def q_M_taken_59 : Nat → Option Nat → Int32 → Int32 → mM → Option (Unit × mM)
  | 0, _, _, _, _ => none
  | n + 1, t0, i1, i2, M => q_M_taken_59_b (q_M_taken_59 n) t0 i1 i2 M
set_option maxRecDepth 20000 in
theorem v_M_taken_59_b {E : mE} (r59 : Option Nat → Int32 → Int32 → mM → Option (Unit × mM)) (h59 : ∀ (t0 : Option Nat) (i1 : Int32) (i2 : Int32) (M : mM), mVr E mi_M_taken 9 59 [some (.inr t0), some (.inl i1), some (.inl i2), none] [] M enU (r59 t0 i1 i2 M)) (t0 : Option Nat) (i1 : Int32) (i2 : Int32) (M : mM) : mVr E mi_M_taken 9 59 [some (.inr t0), some (.inl i1), some (.inl i2), none] [] M enU (q_M_taken_59_b r59 t0 i1 i2 M) := by
  unfold q_M_taken_59_b
  refine m_iload_n (d_M_taken_0 (k := 36) rfl) rfl ?_
  refine m_aload_n (d_M_taken_0 (k := 37) rfl) rfl ?_
  refine m_getI (d_M_taken_0 (k := 38) rfl) fl_M_344 rfl (fun x1 => ?_)
  refine m_icmp_ge (tgt := 153) (d_M_taken_0 (k := 39) rfl) rfl ?_ ?_
  · refine m_aload_n (d_M_taken_1 (k := 0) rfl) rfl ?_
    refine m_getR (d_M_taken_1 (k := 1) rfl) fl_M_107 rfl (fun a2 => ?_)
    refine m_iload_n (d_M_taken_1 (k := 2) rfl) rfl ?_
    refine m_zald (d_M_taken_1 (k := 3) rfl) (fun x3 => ?_)
    refine m_if_eq (tgt := 79) (d_M_taken_1 (k := 4) rfl) rfl ?_ ?_
    · refine m_aload_n (d_M_taken_1 (k := 6) rfl) rfl ?_
      refine m_getR (d_M_taken_1 (k := 7) rfl) fl_M_104 rfl (fun a4 => ?_)
      refine m_iload_n (d_M_taken_1 (k := 8) rfl) rfl ?_
      refine m_iald (d_M_taken_1 (k := 9) rfl) (fun x5 => ?_)
      refine m_iload_n (d_M_taken_1 (k := 10) rfl) rfl ?_
      refine m_icmp_ne (tgt := 146) (d_M_taken_1 (k := 11) rfl) rfl ?_ ?_
      · refine m_aload_n (d_M_taken_1 (k := 12) rfl) rfl ?_
        refine m_iconst (v := 0) (d_M_taken_1 (k := 13) rfl) (by decide) ?_
        refine m_pI (d_M_taken_1 (k := 14) rfl) fp_M_264 (fun h => absurd h (by decide)) rfl (fun M => ?_)
        refine m_iconst (v := 0) (d_M_taken_1 (k := 15) rfl) (by decide) ?_
        refine m_ist_n (ls' := [some (.inr t0), some (.inl i1), some (.inl i2), some (.inl (0 : Int32))]) (d_M_taken_1 (k := 16) rfl) (by decide) rfl ?_
        exact m_drop (mles_s (mles_s (mles_s (mles_s mles_0)))) (v_M_taken_96 mFU t0 i1 i2 (0 : Int32) M)
      · exact m_vret (d_M_taken_2 (k := 6) rfl) rfl
    · refine m_goto (tgt := 147) (d_M_taken_1 (k := 5) rfl) rfl ?_
      refine m_inc (v := 1) (ls' := [some (.inr t0), some (.inl i1), some (.inl (i2 + 1)), none]) (d_M_taken_2 (k := 7) rfl) rfl (by decide) (by decide) rfl ?_
      refine m_goto (tgt := 59) (d_M_taken_2 (k := 8) rfl) rfl ?_
      exact m_drop (mles_s (mles_s (mles_s (mles_n mles_0)))) (h59 t0 i1 (i2 + 1) M)
  · refine m_aload_n (d_M_taken_2 (k := 9) rfl) rfl ?_
    refine m_getI (d_M_taken_2 (k := 10) rfl) fl_M_334 rfl (fun x6 => ?_)
    refine m_bipush (v := 6) (d_M_taken_2 (k := 11) rfl) (by decide) ?_
    refine m_icmp_ne (tgt := 175) (d_M_taken_2 (k := 12) rfl) rfl ?_ ?_
    · refine m_aload_n (d_M_taken_2 (k := 13) rfl) rfl ?_
      refine m_getI (d_M_taken_2 (k := 14) rfl) fl_M_337 rfl (fun x7 => ?_)
      refine m_iload_n (d_M_taken_2 (k := 15) rfl) rfl ?_
      refine m_icmp_eq (tgt := 175) (d_M_taken_2 (k := 16) rfl) rfl ?_ ?_
      · exact m_drop (mles_s (mles_s (mles_n (mles_n mles_0)))) (v_M_taken_175 t0 i1 M)
      · refine m_aload_n (d_M_taken_2 (k := 17) rfl) rfl ?_
        refine m_iload_n (d_M_taken_2 (k := 18) rfl) rfl ?_
        refine m_cvU (c := 10) (vs := [.inl i1]) (st := []) (d_M_taken_2 (k := 19) rfl) (s_M_learns t0 i1 M) cd_M_learns ml_M_378 im_M_learns se_M_learns rfl (by decide) rfl (Nat.le_of_ble_eq_true rfl) (fun _ M => ?_)
        exact m_drop (mles_s (mles_s (mles_n (mles_n mles_0)))) (v_M_taken_175 t0 i1 M)
    · exact m_drop (mles_s (mles_s (mles_n (mles_n mles_0)))) (v_M_taken_175 t0 i1 M)
theorem v_M_taken_59 {E : mE} : ∀ (n : Nat) (t0 : Option Nat) (i1 : Int32) (i2 : Int32) (M : mM), mVr E mi_M_taken 9 59 [some (.inr t0), some (.inl i1), some (.inl i2), none] [] M enU (q_M_taken_59 n t0 i1 i2 M)
  | 0, _, _, _, _ => m_none
  | n + 1, t0, i1, i2, M => v_M_taken_59_b _ (v_M_taken_59 n) t0 i1 i2 M
def q_M_taken_12_b (r12 : Option Nat → Int32 → Int32 → mM → Option (Unit × mM)) (t0 : Option Nat) (i1 : Int32) (i2 : Int32) (M : mM) : Option (Unit × mM) :=
    x_gI M 10 t0 37 fun x1 =>
    if i2 < x1 then
      x_gR M 10 t0 36 fun a2 =>
      x_gR M 10 t0 13 fun a3 =>
      x_aI M 0 a3 (((90 : Int32) * i1) + i2) fun x4 =>
      x_wI M a2 i2 x4 fun M =>
      r12 t0 i1 (i2 + 1) M
    else
      x_cv M 10 t0 (q_M_isRight t0 M) fun x5 M =>
      if x5 = 0 then
        x_cv M 10 t0 (q_M_count t0 i1 (3 : Int32) M) fun _ M =>
        some ((), M)
      else
        q_M_taken_59 mFU t0 i1 (0 : Int32) M
def q_M_taken_12 : Nat → Option Nat → Int32 → Int32 → mM → Option (Unit × mM)
  | 0, _, _, _, _ => none
  | n + 1, t0, i1, i2, M => q_M_taken_12_b (q_M_taken_12 n) t0 i1 i2 M
set_option maxRecDepth 20000 in
theorem v_M_taken_12_b {E : mE} (r12 : Option Nat → Int32 → Int32 → mM → Option (Unit × mM)) (h12 : ∀ (t0 : Option Nat) (i1 : Int32) (i2 : Int32) (M : mM), mVr E mi_M_taken 9 12 [some (.inr t0), some (.inl i1), some (.inl i2), none] [] M enU (r12 t0 i1 i2 M)) (t0 : Option Nat) (i1 : Int32) (i2 : Int32) (M : mM) : mVr E mi_M_taken 9 12 [some (.inr t0), some (.inl i1), some (.inl i2), none] [] M enU (q_M_taken_12_b r12 t0 i1 i2 M) := by
  unfold q_M_taken_12_b
  refine m_iload_n (d_M_taken_0 (k := 8) rfl) rfl ?_
  refine m_aload_n (d_M_taken_0 (k := 9) rfl) rfl ?_
  refine m_getI (d_M_taken_0 (k := 10) rfl) fl_M_347 rfl (fun x1 => ?_)
  refine m_icmp_ge (tgt := 43) (d_M_taken_0 (k := 11) rfl) rfl ?_ ?_
  · refine m_aload_n (d_M_taken_0 (k := 12) rfl) rfl ?_
    refine m_getR (d_M_taken_0 (k := 13) rfl) fl_M_101 rfl (fun a2 => ?_)
    refine m_iload_n (d_M_taken_0 (k := 14) rfl) rfl ?_
    refine m_aload_n (d_M_taken_0 (k := 15) rfl) rfl ?_
    refine m_getR (d_M_taken_0 (k := 16) rfl) fl_M_38 rfl (fun a3 => ?_)
    refine m_bipush (v := 90) (d_M_taken_0 (k := 17) rfl) (by decide) ?_
    refine m_iload_n (d_M_taken_0 (k := 18) rfl) rfl ?_
    refine m_imul (d_M_taken_0 (k := 19) rfl) ?_
    refine m_iload_n (d_M_taken_0 (k := 20) rfl) rfl ?_
    refine m_iadd (d_M_taken_0 (k := 21) rfl) ?_
    refine m_iald (d_M_taken_0 (k := 22) rfl) (fun x4 => ?_)
    refine m_iast (d_M_taken_0 (k := 23) rfl) (fun M => ?_)
    refine m_inc (v := 1) (ls' := [some (.inr t0), some (.inl i1), some (.inl (i2 + 1)), none]) (d_M_taken_0 (k := 24) rfl) rfl (by decide) (by decide) rfl ?_
    refine m_goto (tgt := 12) (d_M_taken_0 (k := 25) rfl) rfl ?_
    exact m_drop (mles_s (mles_s (mles_s (mles_n mles_0)))) (h12 t0 i1 (i2 + 1) M)
  · refine m_aload_n (d_M_taken_0 (k := 26) rfl) rfl ?_
    refine m_cvI (c := 10) (vs := []) (st := []) (d_M_taken_0 (k := 27) rfl) (s_M_isRight t0 M) cd_M_isRight ml_M_375 im_M_isRight se_M_isRight rfl (by decide) rfl (Nat.le_of_ble_eq_true rfl) (fun x5 M => ?_)
    refine m_if_ne (tgt := 57) (d_M_taken_0 (k := 28) rfl) rfl ?_ ?_
    · refine m_aload_n (d_M_taken_0 (k := 29) rfl) rfl ?_
      refine m_iload_n (d_M_taken_0 (k := 30) rfl) rfl ?_
      refine m_iconst (v := 3) (d_M_taken_0 (k := 31) rfl) (by decide) ?_
      refine m_cvU (c := 10) (vs := [.inl i1, .inl (3 : Int32)]) (st := []) (d_M_taken_0 (k := 32) rfl) (s_M_count t0 i1 (3 : Int32) M) cd_M_count ml_M_267 im_M_count se_M_count rfl (by decide) rfl (Nat.le_of_ble_eq_true rfl) (fun _ M => ?_)
      exact m_vret (d_M_taken_0 (k := 33) rfl) rfl
    · refine m_iconst (v := 0) (d_M_taken_0 (k := 34) rfl) (by decide) ?_
      refine m_ist_n (ls' := [some (.inr t0), some (.inl i1), some (.inl (0 : Int32)), none]) (d_M_taken_0 (k := 35) rfl) (by decide) rfl ?_
      exact m_drop (mles_s (mles_s (mles_s (mles_n mles_0)))) (v_M_taken_59 mFU t0 i1 (0 : Int32) M)
theorem v_M_taken_12 {E : mE} : ∀ (n : Nat) (t0 : Option Nat) (i1 : Int32) (i2 : Int32) (M : mM), mVr E mi_M_taken 9 12 [some (.inr t0), some (.inl i1), some (.inl i2), none] [] M enU (q_M_taken_12 n t0 i1 i2 M)
  | 0, _, _, _, _ => m_none
  | n + 1, t0, i1, i2, M => v_M_taken_12_b _ (v_M_taken_12 n) t0 i1 i2 M
def q_M_taken (t0 : Option Nat) (i1 : Int32) (M : mM) : Option (Unit × mM) :=
    x_gR M 10 t0 12 fun a1 =>
    x_aI M 0 a1 i1 fun x2 =>
    x_pI M 10 t0 37 x2 fun M =>
    q_M_taken_12 mFU t0 i1 (0 : Int32) M
set_option maxRecDepth 20000 in
theorem v_M_taken {E : mE} (t0 : Option Nat) (i1 : Int32) (M : mM) : mVr E mi_M_taken 9 0 [some (.inr t0), some (.inl i1), none, none] [] M enU (q_M_taken t0 i1 M) := by
  unfold q_M_taken
  refine m_aload_n (d_M_taken_0 (k := 0) rfl) rfl ?_
  refine m_aload_n (d_M_taken_0 (k := 1) rfl) rfl ?_
  refine m_getR (d_M_taken_0 (k := 2) rfl) fl_M_35 rfl (fun a1 => ?_)
  refine m_iload_n (d_M_taken_0 (k := 3) rfl) rfl ?_
  refine m_iald (d_M_taken_0 (k := 4) rfl) (fun x2 => ?_)
  refine m_pI (d_M_taken_0 (k := 5) rfl) fp_M_347 (fun h => absurd h (by decide)) rfl (fun M => ?_)
  refine m_iconst (v := 0) (d_M_taken_0 (k := 6) rfl) (by decide) ?_
  refine m_ist_n (ls' := [some (.inr t0), some (.inl i1), some (.inl (0 : Int32)), none]) (d_M_taken_0 (k := 7) rfl) (by decide) rfl ?_
  exact m_drop (mles_s (mles_s (mles_s (mles_n mles_0)))) (v_M_taken_12 mFU t0 i1 (0 : Int32) M)
theorem s_M_taken {E : mE} (t0 : Option Nat) (i1 : Int32) (M : mM) : mSnd E mi_M_taken 9 [.inr t0, .inl i1] M enU (q_M_taken t0 i1 M) := m_entryU (by decide) (Nat.le_of_ble_eq_true rfl) rfl (m_drop (mles_s (mles_s (mles_e (mles_e mles_0)))) (v_M_taken t0 i1 M))
def dt_M_tick_0 : List (Nat × Instr × Nat) := [(0, .aload_n 0, 1), (1, .dup, 1), (2, .getfield 288, 3), (5, .iconst 1, 1), (6, .iadd, 1), (7, .putfield 288, 3), (10, .iconst 0, 1), (11, .istore_n 1, 1), (12, .iload_n 1, 1), (13, .bipush 6, 2), (15, .if_icmp .ge 14, 3), (18, .aload_n 0, 1), (19, .iload_n 1, 1), (20, .invokevirtual 298, 3), (23, .iinc 1 1, 3), (26, .goto (-14), 3), (29, .iconst 0, 1), (30, .istore_n 1, 1), (31, .iload_n 1, 1), (32, .bipush 6, 2), (34, .if_icmp .ge 14, 3), (37, .aload_n 0, 1), (38, .iload_n 1, 1), (39, .invokevirtual 301, 3), (42, .iinc 1 1, 3), (45, .goto (-14), 3), (48, .iconst 0, 1), (49, .istore_n 1, 1), (50, .iconst 0, 1), (51, .istore_n 2, 1), (52, .iload_n 2, 1), (53, .bipush 6, 2), (55, .if_icmp .ge 37, 3), (58, .aload_n 0, 1), (59, .getfield 98, 3), (62, .iload_n 2, 1), (63, .aload_n 0, 1), (64, .iload_n 2, 1), (65, .invokevirtual 304, 3), (68, .bastore, 1)]
theorem dx_M_tick_0 : ∀ p ∈ dt_M_tick_0, decode prog_12_method_36_code p.1 = .ok p.2 := by decide +kernel
theorem d_M_tick_0 {k pc : Nat} {i : Instr} {n : Nat} (h : dt_M_tick_0[k]? = some (pc, i, n)) : decode mi_M_tick.2.1 pc = .ok (i, n) := dx_M_tick_0 (pc, i, n) (List.mem_of_getElem? h)
def dt_M_tick_1 : List (Nat × Instr × Nat) := [(69, .iload_n 1, 1), (70, .aload_n 0, 1), (71, .getfield 98, 3), (74, .iload_n 2, 1), (75, .baload, 1), (76, .ifCond .eq 7, 3), (79, .iconst 1, 1), (80, .goto 4, 3), (83, .iconst 0, 1), (84, .iadd, 1), (85, .istore_n 1, 1), (86, .iinc 2 1, 3), (89, .goto (-37), 3), (92, .iconst 0, 1), (93, .istore_n 2, 1), (94, .iload_n 2, 1), (95, .bipush 6, 2), (97, .if_icmp .ge 23, 3), (100, .aload_n 0, 1), (101, .getfield 98, 3), (104, .iload_n 2, 1), (105, .baload, 1), (106, .ifCond .eq 8, 3), (109, .aload_n 0, 1), (110, .iload_n 2, 1), (111, .invokevirtual 307, 3), (114, .iinc 2 1, 3), (117, .goto (-23), 3), (120, .iconst 0, 1), (121, .istore_n 2, 1), (122, .iload_n 2, 1), (123, .bipush 6, 2), (125, .if_icmp .ge 34, 3), (128, .iconst 0, 1), (129, .istore_n 3, 1), (130, .iload_n 3, 1), (131, .bipush 6, 2), (133, .if_icmp .ge 20, 3), (136, .iload_n 2, 1), (137, .iload_n 3, 1)]
theorem dx_M_tick_1 : ∀ p ∈ dt_M_tick_1, decode prog_12_method_36_code p.1 = .ok p.2 := by decide +kernel
theorem d_M_tick_1 {k pc : Nat} {i : Instr} {n : Nat} (h : dt_M_tick_1[k]? = some (pc, i, n)) : decode mi_M_tick.2.1 pc = .ok (i, n) := dx_M_tick_1 (pc, i, n) (List.mem_of_getElem? h)
def dt_M_tick_2 : List (Nat × Instr × Nat) := [(138, .if_icmp .eq 9, 3), (141, .aload_n 0, 1), (142, .iload_n 2, 1), (143, .iload_n 3, 1), (144, .invokevirtual 310, 3), (147, .iinc 3 1, 3), (150, .goto (-20), 3), (153, .iinc 2 1, 3), (156, .goto (-34), 3), (159, .iconst 0, 1), (160, .istore_n 2, 1), (161, .iload_n 2, 1), (162, .bipush 6, 2), (164, .if_icmp .ge 41, 3), (167, .aload_n 0, 1), (168, .getfield 44, 3), (171, .bipush 9, 2), (173, .iload_n 2, 1), (174, .imul, 1), (175, .bipush 6, 2), (177, .iadd, 1), (178, .iaload, 1), (179, .istore_n 3, 1), (180, .iload_n 3, 1), (181, .ifCond .le 18, 3), (184, .aload_n 0, 1), (185, .getfield 288, 3), (188, .iload_n 3, 1), (189, .irem, 1), (190, .ifCond .ne 9, 3), (193, .aload_n 0, 1), (194, .iload_n 2, 1), (195, .invokevirtual 313, 3), (198, .pop, 1), (199, .iinc 2 1, 3), (202, .goto (-41), 3), (205, .iconst 0, 1), (206, .istore_n 2, 1), (207, .iload_n 2, 1), (208, .bipush 6, 2)]
theorem dx_M_tick_2 : ∀ p ∈ dt_M_tick_2, decode prog_12_method_36_code p.1 = .ok p.2 := by decide +kernel
theorem d_M_tick_2 {k pc : Nat} {i : Instr} {n : Nat} (h : dt_M_tick_2[k]? = some (pc, i, n)) : decode mi_M_tick.2.1 pc = .ok (i, n) := dx_M_tick_2 (pc, i, n) (List.mem_of_getElem? h)
def dt_M_tick_3 : List (Nat × Instr × Nat) := [(210, .if_icmp .ge 34, 3), (213, .iconst 0, 1), (214, .istore_n 3, 1), (215, .iload_n 3, 1), (216, .bipush 6, 2), (218, .if_icmp .ge 20, 3), (221, .iload_n 2, 1), (222, .iload_n 3, 1), (223, .if_icmp .eq 9, 3), (226, .aload_n 0, 1), (227, .iload_n 2, 1), (228, .iload_n 3, 1), (229, .invokevirtual 317, 3), (232, .iinc 3 1, 3), (235, .goto (-20), 3), (238, .iinc 2 1, 3), (241, .goto (-34), 3), (244, .iload_n 1, 1), (245, .ireturn, 1)]
theorem dx_M_tick_3 : ∀ p ∈ dt_M_tick_3, decode prog_12_method_36_code p.1 = .ok p.2 := by decide +kernel
theorem d_M_tick_3 {k pc : Nat} {i : Instr} {n : Nat} (h : dt_M_tick_3[k]? = some (pc, i, n)) : decode mi_M_tick.2.1 pc = .ok (i, n) := dx_M_tick_3 (pc, i, n) (List.mem_of_getElem? h)
def q_M_tick_84 (r52 : Option Nat → Int32 → Int32 → mM → Option (Int32 × mM)) (t0 : Option Nat) (i2 : Int32) (j0 : Int32) (j1 : Int32) (M : mM) : Option (Int32 × mM) :=
    x_lt (j1 + j0) fun x1 =>
    r52 t0 x1 (i2 + 1) M
set_option maxRecDepth 20000 in
theorem v_M_tick_84 {E : mE} (r52 : Option Nat → Int32 → Int32 → mM → Option (Int32 × mM)) (h52 : ∀ (t0 : Option Nat) (i1 : Int32) (i2 : Int32) (M : mM), mVr E mi_M_tick 10 52 [some (.inr t0), some (.inl i1), some (.inl i2), none] [] M enI (r52 t0 i1 i2 M)) (t0 : Option Nat) (i2 : Int32) (j0 : Int32) (j1 : Int32) (M : mM) : mVr E mi_M_tick 10 84 [some (.inr t0), none, some (.inl i2), none] [.inl j0, .inl j1] M enI (q_M_tick_84 r52 t0 i2 j0 j1 M) := by
  unfold q_M_tick_84
  refine m_iadd (d_M_tick_1 (k := 9) rfl) ?_
  refine m_lt (fun x1 => ?_)
  refine m_ist_n (ls' := [some (.inr t0), some (.inl x1), some (.inl i2), none]) (d_M_tick_1 (k := 10) rfl) (by decide) rfl ?_
  refine m_inc (v := 1) (ls' := [some (.inr t0), some (.inl x1), some (.inl (i2 + 1)), none]) (d_M_tick_1 (k := 11) rfl) rfl (by decide) (by decide) rfl ?_
  refine m_goto (tgt := 52) (d_M_tick_1 (k := 12) rfl) rfl ?_
  exact m_drop (mles_s (mles_s (mles_s (mles_n mles_0)))) (h52 t0 x1 (i2 + 1) M)
def q_M_tick_114 (r94 : Option Nat → Int32 → Int32 → mM → Option (Int32 × mM)) (t0 : Option Nat) (i1 : Int32) (i2 : Int32) (M : mM) : Option (Int32 × mM) :=
    r94 t0 i1 (i2 + 1) M
set_option maxRecDepth 20000 in
theorem v_M_tick_114 {E : mE} (r94 : Option Nat → Int32 → Int32 → mM → Option (Int32 × mM)) (h94 : ∀ (t0 : Option Nat) (i1 : Int32) (i2 : Int32) (M : mM), mVr E mi_M_tick 10 94 [some (.inr t0), some (.inl i1), some (.inl i2), none] [] M enI (r94 t0 i1 i2 M)) (t0 : Option Nat) (i1 : Int32) (i2 : Int32) (M : mM) : mVr E mi_M_tick 10 114 [some (.inr t0), some (.inl i1), some (.inl i2), none] [] M enI (q_M_tick_114 r94 t0 i1 i2 M) := by
  unfold q_M_tick_114
  refine m_inc (v := 1) (ls' := [some (.inr t0), some (.inl i1), some (.inl (i2 + 1)), none]) (d_M_tick_1 (k := 26) rfl) rfl (by decide) (by decide) rfl ?_
  refine m_goto (tgt := 94) (d_M_tick_1 (k := 27) rfl) rfl ?_
  exact m_drop (mles_s (mles_s (mles_s (mles_n mles_0)))) (h94 t0 i1 (i2 + 1) M)
def q_M_tick_147 (r122 : Option Nat → Int32 → Int32 → mM → Option (Int32 × mM)) (r130 : Option Nat → Int32 → Int32 → Int32 → mM → Option (Int32 × mM)) (t0 : Option Nat) (i1 : Int32) (i2 : Int32) (i3 : Int32) (M : mM) : Option (Int32 × mM) :=
    r130 t0 i1 i2 (i3 + 1) M
set_option maxRecDepth 20000 in
theorem v_M_tick_147 {E : mE} (r122 : Option Nat → Int32 → Int32 → mM → Option (Int32 × mM)) (h122 : ∀ (t0 : Option Nat) (i1 : Int32) (i2 : Int32) (M : mM), mVr E mi_M_tick 10 122 [some (.inr t0), some (.inl i1), some (.inl i2), none] [] M enI (r122 t0 i1 i2 M)) (r130 : Option Nat → Int32 → Int32 → Int32 → mM → Option (Int32 × mM)) (h130 : ∀ (t0 : Option Nat) (i1 : Int32) (i2 : Int32) (i3 : Int32) (M : mM), mVr E mi_M_tick 10 130 [some (.inr t0), some (.inl i1), some (.inl i2), some (.inl i3)] [] M enI (r130 t0 i1 i2 i3 M)) (t0 : Option Nat) (i1 : Int32) (i2 : Int32) (i3 : Int32) (M : mM) : mVr E mi_M_tick 10 147 [some (.inr t0), some (.inl i1), some (.inl i2), some (.inl i3)] [] M enI (q_M_tick_147 r122 r130 t0 i1 i2 i3 M) := by
  unfold q_M_tick_147
  refine m_inc (v := 1) (ls' := [some (.inr t0), some (.inl i1), some (.inl i2), some (.inl (i3 + 1))]) (d_M_tick_2 (k := 5) rfl) rfl (by decide) (by decide) rfl ?_
  refine m_goto (tgt := 130) (d_M_tick_2 (k := 6) rfl) rfl ?_
  exact m_drop (mles_s (mles_s (mles_s (mles_s mles_0)))) (h130 t0 i1 i2 (i3 + 1) M)
def q_M_tick_130_b (r122 : Option Nat → Int32 → Int32 → mM → Option (Int32 × mM)) (r130 : Option Nat → Int32 → Int32 → Int32 → mM → Option (Int32 × mM)) (t0 : Option Nat) (i1 : Int32) (i2 : Int32) (i3 : Int32) (M : mM) : Option (Int32 × mM) :=
    if i3 < (6 : Int32) then
      if i2 = i3 then
        q_M_tick_147 r122 r130 t0 i1 i2 i3 M
      else
        x_cv M 10 t0 (q_M_clockGoes t0 i2 i3 M) fun _ M =>
        q_M_tick_147 r122 r130 t0 i1 i2 i3 M
    else
      r122 t0 i1 (i2 + 1) M
def q_M_tick_130 (r122 : Option Nat → Int32 → Int32 → mM → Option (Int32 × mM)) : Nat → Option Nat → Int32 → Int32 → Int32 → mM → Option (Int32 × mM)
  | 0, _, _, _, _, _ => none
  | n + 1, t0, i1, i2, i3, M => q_M_tick_130_b r122 (q_M_tick_130 r122 n) t0 i1 i2 i3 M
set_option maxRecDepth 20000 in
theorem v_M_tick_130_b {E : mE} (r122 : Option Nat → Int32 → Int32 → mM → Option (Int32 × mM)) (h122 : ∀ (t0 : Option Nat) (i1 : Int32) (i2 : Int32) (M : mM), mVr E mi_M_tick 10 122 [some (.inr t0), some (.inl i1), some (.inl i2), none] [] M enI (r122 t0 i1 i2 M)) (r130 : Option Nat → Int32 → Int32 → Int32 → mM → Option (Int32 × mM)) (h130 : ∀ (t0 : Option Nat) (i1 : Int32) (i2 : Int32) (i3 : Int32) (M : mM), mVr E mi_M_tick 10 130 [some (.inr t0), some (.inl i1), some (.inl i2), some (.inl i3)] [] M enI (r130 t0 i1 i2 i3 M)) (t0 : Option Nat) (i1 : Int32) (i2 : Int32) (i3 : Int32) (M : mM) : mVr E mi_M_tick 10 130 [some (.inr t0), some (.inl i1), some (.inl i2), some (.inl i3)] [] M enI (q_M_tick_130_b r122 r130 t0 i1 i2 i3 M) := by
  unfold q_M_tick_130_b
  refine m_iload_n (d_M_tick_1 (k := 35) rfl) rfl ?_
  refine m_bipush (v := 6) (d_M_tick_1 (k := 36) rfl) (by decide) ?_
  refine m_icmp_ge (tgt := 153) (d_M_tick_1 (k := 37) rfl) rfl ?_ ?_
  · refine m_iload_n (d_M_tick_1 (k := 38) rfl) rfl ?_
    refine m_iload_n (d_M_tick_1 (k := 39) rfl) rfl ?_
    refine m_icmp_eq (tgt := 147) (d_M_tick_2 (k := 0) rfl) rfl ?_ ?_
    · exact m_drop (mles_s (mles_s (mles_s (mles_s mles_0)))) (v_M_tick_147 r122 h122 r130 h130 t0 i1 i2 i3 M)
    · refine m_aload_n (d_M_tick_2 (k := 1) rfl) rfl ?_
      refine m_iload_n (d_M_tick_2 (k := 2) rfl) rfl ?_
      refine m_iload_n (d_M_tick_2 (k := 3) rfl) rfl ?_
      refine m_cvU (c := 10) (vs := [.inl i2, .inl i3]) (st := []) (d_M_tick_2 (k := 4) rfl) (s_M_clockGoes t0 i2 i3 M) cd_M_clockGoes ml_M_310 im_M_clockGoes se_M_clockGoes rfl (by decide) rfl (Nat.le_of_ble_eq_true rfl) (fun _ M => ?_)
      exact m_drop (mles_s (mles_s (mles_s (mles_s mles_0)))) (v_M_tick_147 r122 h122 r130 h130 t0 i1 i2 i3 M)
  · refine m_inc (v := 1) (ls' := [some (.inr t0), some (.inl i1), some (.inl (i2 + 1)), some (.inl i3)]) (d_M_tick_2 (k := 7) rfl) rfl (by decide) (by decide) rfl ?_
    refine m_goto (tgt := 122) (d_M_tick_2 (k := 8) rfl) rfl ?_
    exact m_drop (mles_s (mles_s (mles_s (mles_n mles_0)))) (h122 t0 i1 (i2 + 1) M)
theorem v_M_tick_130 {E : mE} (r122 : Option Nat → Int32 → Int32 → mM → Option (Int32 × mM)) (h122 : ∀ (t0 : Option Nat) (i1 : Int32) (i2 : Int32) (M : mM), mVr E mi_M_tick 10 122 [some (.inr t0), some (.inl i1), some (.inl i2), none] [] M enI (r122 t0 i1 i2 M)) : ∀ (n : Nat) (t0 : Option Nat) (i1 : Int32) (i2 : Int32) (i3 : Int32) (M : mM), mVr E mi_M_tick 10 130 [some (.inr t0), some (.inl i1), some (.inl i2), some (.inl i3)] [] M enI (q_M_tick_130 r122 n t0 i1 i2 i3 M)
  | 0, _, _, _, _, _ => m_none
  | n + 1, t0, i1, i2, i3, M => v_M_tick_130_b r122 h122 _ (v_M_tick_130 r122 h122 n) t0 i1 i2 i3 M
def q_M_tick_199 (r161 : Option Nat → Int32 → Int32 → mM → Option (Int32 × mM)) (t0 : Option Nat) (i1 : Int32) (i2 : Int32) (M : mM) : Option (Int32 × mM) :=
    r161 t0 i1 (i2 + 1) M
set_option maxRecDepth 20000 in
theorem v_M_tick_199 {E : mE} (r161 : Option Nat → Int32 → Int32 → mM → Option (Int32 × mM)) (h161 : ∀ (t0 : Option Nat) (i1 : Int32) (i2 : Int32) (M : mM), mVr E mi_M_tick 10 161 [some (.inr t0), some (.inl i1), some (.inl i2), none] [] M enI (r161 t0 i1 i2 M)) (t0 : Option Nat) (i1 : Int32) (i2 : Int32) (M : mM) : mVr E mi_M_tick 10 199 [some (.inr t0), some (.inl i1), some (.inl i2), none] [] M enI (q_M_tick_199 r161 t0 i1 i2 M) := by
  unfold q_M_tick_199
  refine m_inc (v := 1) (ls' := [some (.inr t0), some (.inl i1), some (.inl (i2 + 1)), none]) (d_M_tick_2 (k := 34) rfl) rfl (by decide) (by decide) rfl ?_
  refine m_goto (tgt := 161) (d_M_tick_2 (k := 35) rfl) rfl ?_
  exact m_drop (mles_s (mles_s (mles_s (mles_n mles_0)))) (h161 t0 i1 (i2 + 1) M)
def q_M_tick_232 (r207 : Option Nat → Int32 → Int32 → mM → Option (Int32 × mM)) (r215 : Option Nat → Int32 → Int32 → Int32 → mM → Option (Int32 × mM)) (t0 : Option Nat) (i1 : Int32) (i2 : Int32) (i3 : Int32) (M : mM) : Option (Int32 × mM) :=
    r215 t0 i1 i2 (i3 + 1) M
set_option maxRecDepth 20000 in
theorem v_M_tick_232 {E : mE} (r207 : Option Nat → Int32 → Int32 → mM → Option (Int32 × mM)) (h207 : ∀ (t0 : Option Nat) (i1 : Int32) (i2 : Int32) (M : mM), mVr E mi_M_tick 10 207 [some (.inr t0), some (.inl i1), some (.inl i2), none] [] M enI (r207 t0 i1 i2 M)) (r215 : Option Nat → Int32 → Int32 → Int32 → mM → Option (Int32 × mM)) (h215 : ∀ (t0 : Option Nat) (i1 : Int32) (i2 : Int32) (i3 : Int32) (M : mM), mVr E mi_M_tick 10 215 [some (.inr t0), some (.inl i1), some (.inl i2), some (.inl i3)] [] M enI (r215 t0 i1 i2 i3 M)) (t0 : Option Nat) (i1 : Int32) (i2 : Int32) (i3 : Int32) (M : mM) : mVr E mi_M_tick 10 232 [some (.inr t0), some (.inl i1), some (.inl i2), some (.inl i3)] [] M enI (q_M_tick_232 r207 r215 t0 i1 i2 i3 M) := by
  unfold q_M_tick_232
  refine m_inc (v := 1) (ls' := [some (.inr t0), some (.inl i1), some (.inl i2), some (.inl (i3 + 1))]) (d_M_tick_3 (k := 13) rfl) rfl (by decide) (by decide) rfl ?_
  refine m_goto (tgt := 215) (d_M_tick_3 (k := 14) rfl) rfl ?_
  exact m_drop (mles_s (mles_s (mles_s (mles_s mles_0)))) (h215 t0 i1 i2 (i3 + 1) M)
def q_M_tick_215_b (r207 : Option Nat → Int32 → Int32 → mM → Option (Int32 × mM)) (r215 : Option Nat → Int32 → Int32 → Int32 → mM → Option (Int32 × mM)) (t0 : Option Nat) (i1 : Int32) (i2 : Int32) (i3 : Int32) (M : mM) : Option (Int32 × mM) :=
    if i3 < (6 : Int32) then
      if i2 = i3 then
        q_M_tick_232 r207 r215 t0 i1 i2 i3 M
      else
        x_cv M 10 t0 (q_M_maySay t0 i2 i3 M) fun _ M =>
        q_M_tick_232 r207 r215 t0 i1 i2 i3 M
    else
      r207 t0 i1 (i2 + 1) M
def q_M_tick_215 (r207 : Option Nat → Int32 → Int32 → mM → Option (Int32 × mM)) : Nat → Option Nat → Int32 → Int32 → Int32 → mM → Option (Int32 × mM)
  | 0, _, _, _, _, _ => none
  | n + 1, t0, i1, i2, i3, M => q_M_tick_215_b r207 (q_M_tick_215 r207 n) t0 i1 i2 i3 M
set_option maxRecDepth 20000 in
theorem v_M_tick_215_b {E : mE} (r207 : Option Nat → Int32 → Int32 → mM → Option (Int32 × mM)) (h207 : ∀ (t0 : Option Nat) (i1 : Int32) (i2 : Int32) (M : mM), mVr E mi_M_tick 10 207 [some (.inr t0), some (.inl i1), some (.inl i2), none] [] M enI (r207 t0 i1 i2 M)) (r215 : Option Nat → Int32 → Int32 → Int32 → mM → Option (Int32 × mM)) (h215 : ∀ (t0 : Option Nat) (i1 : Int32) (i2 : Int32) (i3 : Int32) (M : mM), mVr E mi_M_tick 10 215 [some (.inr t0), some (.inl i1), some (.inl i2), some (.inl i3)] [] M enI (r215 t0 i1 i2 i3 M)) (t0 : Option Nat) (i1 : Int32) (i2 : Int32) (i3 : Int32) (M : mM) : mVr E mi_M_tick 10 215 [some (.inr t0), some (.inl i1), some (.inl i2), some (.inl i3)] [] M enI (q_M_tick_215_b r207 r215 t0 i1 i2 i3 M) := by
  unfold q_M_tick_215_b
  refine m_iload_n (d_M_tick_3 (k := 3) rfl) rfl ?_
  refine m_bipush (v := 6) (d_M_tick_3 (k := 4) rfl) (by decide) ?_
  refine m_icmp_ge (tgt := 238) (d_M_tick_3 (k := 5) rfl) rfl ?_ ?_
  · refine m_iload_n (d_M_tick_3 (k := 6) rfl) rfl ?_
    refine m_iload_n (d_M_tick_3 (k := 7) rfl) rfl ?_
    refine m_icmp_eq (tgt := 232) (d_M_tick_3 (k := 8) rfl) rfl ?_ ?_
    · exact m_drop (mles_s (mles_s (mles_s (mles_s mles_0)))) (v_M_tick_232 r207 h207 r215 h215 t0 i1 i2 i3 M)
    · refine m_aload_n (d_M_tick_3 (k := 9) rfl) rfl ?_
      refine m_iload_n (d_M_tick_3 (k := 10) rfl) rfl ?_
      refine m_iload_n (d_M_tick_3 (k := 11) rfl) rfl ?_
      refine m_cvU (c := 10) (vs := [.inl i2, .inl i3]) (st := []) (d_M_tick_3 (k := 12) rfl) (s_M_maySay t0 i2 i3 M) cd_M_maySay ml_M_317 im_M_maySay se_M_maySay rfl (by decide) rfl (Nat.le_of_ble_eq_true rfl) (fun _ M => ?_)
      exact m_drop (mles_s (mles_s (mles_s (mles_s mles_0)))) (v_M_tick_232 r207 h207 r215 h215 t0 i1 i2 i3 M)
  · refine m_inc (v := 1) (ls' := [some (.inr t0), some (.inl i1), some (.inl (i2 + 1)), some (.inl i3)]) (d_M_tick_3 (k := 15) rfl) rfl (by decide) (by decide) rfl ?_
    refine m_goto (tgt := 207) (d_M_tick_3 (k := 16) rfl) rfl ?_
    exact m_drop (mles_s (mles_s (mles_s (mles_n mles_0)))) (h207 t0 i1 (i2 + 1) M)
theorem v_M_tick_215 {E : mE} (r207 : Option Nat → Int32 → Int32 → mM → Option (Int32 × mM)) (h207 : ∀ (t0 : Option Nat) (i1 : Int32) (i2 : Int32) (M : mM), mVr E mi_M_tick 10 207 [some (.inr t0), some (.inl i1), some (.inl i2), none] [] M enI (r207 t0 i1 i2 M)) : ∀ (n : Nat) (t0 : Option Nat) (i1 : Int32) (i2 : Int32) (i3 : Int32) (M : mM), mVr E mi_M_tick 10 215 [some (.inr t0), some (.inl i1), some (.inl i2), some (.inl i3)] [] M enI (q_M_tick_215 r207 n t0 i1 i2 i3 M)
  | 0, _, _, _, _, _ => m_none
  | n + 1, t0, i1, i2, i3, M => v_M_tick_215_b r207 h207 _ (v_M_tick_215 r207 h207 n) t0 i1 i2 i3 M
def q_M_tick_207_b (r207 : Option Nat → Int32 → Int32 → mM → Option (Int32 × mM)) (t0 : Option Nat) (i1 : Int32) (i2 : Int32) (M : mM) : Option (Int32 × mM) :=
    if i2 < (6 : Int32) then
      q_M_tick_215 r207 mFU t0 i1 i2 (0 : Int32) M
    else
      some (i1, M)
def q_M_tick_207 : Nat → Option Nat → Int32 → Int32 → mM → Option (Int32 × mM)
  | 0, _, _, _, _ => none
  | n + 1, t0, i1, i2, M => q_M_tick_207_b (q_M_tick_207 n) t0 i1 i2 M
set_option maxRecDepth 20000 in
theorem v_M_tick_207_b {E : mE} (r207 : Option Nat → Int32 → Int32 → mM → Option (Int32 × mM)) (h207 : ∀ (t0 : Option Nat) (i1 : Int32) (i2 : Int32) (M : mM), mVr E mi_M_tick 10 207 [some (.inr t0), some (.inl i1), some (.inl i2), none] [] M enI (r207 t0 i1 i2 M)) (t0 : Option Nat) (i1 : Int32) (i2 : Int32) (M : mM) : mVr E mi_M_tick 10 207 [some (.inr t0), some (.inl i1), some (.inl i2), none] [] M enI (q_M_tick_207_b r207 t0 i1 i2 M) := by
  unfold q_M_tick_207_b
  refine m_iload_n (d_M_tick_2 (k := 38) rfl) rfl ?_
  refine m_bipush (v := 6) (d_M_tick_2 (k := 39) rfl) (by decide) ?_
  refine m_icmp_ge (tgt := 244) (d_M_tick_3 (k := 0) rfl) rfl ?_ ?_
  · refine m_iconst (v := 0) (d_M_tick_3 (k := 1) rfl) (by decide) ?_
    refine m_ist_n (ls' := [some (.inr t0), some (.inl i1), some (.inl i2), some (.inl (0 : Int32))]) (d_M_tick_3 (k := 2) rfl) (by decide) rfl ?_
    exact m_drop (mles_s (mles_s (mles_s (mles_s mles_0)))) (v_M_tick_215 r207 h207 mFU t0 i1 i2 (0 : Int32) M)
  · refine m_iload_n (d_M_tick_3 (k := 17) rfl) rfl ?_
    exact m_iret (d_M_tick_3 (k := 18) rfl) rfl
theorem v_M_tick_207 {E : mE} : ∀ (n : Nat) (t0 : Option Nat) (i1 : Int32) (i2 : Int32) (M : mM), mVr E mi_M_tick 10 207 [some (.inr t0), some (.inl i1), some (.inl i2), none] [] M enI (q_M_tick_207 n t0 i1 i2 M)
  | 0, _, _, _, _ => m_none
  | n + 1, t0, i1, i2, M => v_M_tick_207_b _ (v_M_tick_207 n) t0 i1 i2 M
def q_M_tick_161_b (r161 : Option Nat → Int32 → Int32 → mM → Option (Int32 × mM)) (t0 : Option Nat) (i1 : Int32) (i2 : Int32) (M : mM) : Option (Int32 × mM) :=
    if i2 < (6 : Int32) then
      x_gR M 10 t0 16 fun a1 =>
      x_aI M 0 a1 (((9 : Int32) * i2) + (6 : Int32)) fun x2 =>
      if 0 < x2 then
        x_gI M 10 t0 15 fun x3 =>
        x_rm x3 x2 fun x4 =>
        if x4 = 0 then
          x_cv M 10 t0 (q_M_tells t0 i2 M) fun x5 M =>
          q_M_tick_199 r161 t0 i1 i2 M
        else
          q_M_tick_199 r161 t0 i1 i2 M
      else
        q_M_tick_199 r161 t0 i1 i2 M
    else
      q_M_tick_207 mFU t0 i1 (0 : Int32) M
def q_M_tick_161 : Nat → Option Nat → Int32 → Int32 → mM → Option (Int32 × mM)
  | 0, _, _, _, _ => none
  | n + 1, t0, i1, i2, M => q_M_tick_161_b (q_M_tick_161 n) t0 i1 i2 M
set_option maxRecDepth 20000 in
theorem v_M_tick_161_b {E : mE} (r161 : Option Nat → Int32 → Int32 → mM → Option (Int32 × mM)) (h161 : ∀ (t0 : Option Nat) (i1 : Int32) (i2 : Int32) (M : mM), mVr E mi_M_tick 10 161 [some (.inr t0), some (.inl i1), some (.inl i2), none] [] M enI (r161 t0 i1 i2 M)) (t0 : Option Nat) (i1 : Int32) (i2 : Int32) (M : mM) : mVr E mi_M_tick 10 161 [some (.inr t0), some (.inl i1), some (.inl i2), none] [] M enI (q_M_tick_161_b r161 t0 i1 i2 M) := by
  unfold q_M_tick_161_b
  refine m_iload_n (d_M_tick_2 (k := 11) rfl) rfl ?_
  refine m_bipush (v := 6) (d_M_tick_2 (k := 12) rfl) (by decide) ?_
  refine m_icmp_ge (tgt := 205) (d_M_tick_2 (k := 13) rfl) rfl ?_ ?_
  · refine m_aload_n (d_M_tick_2 (k := 14) rfl) rfl ?_
    refine m_getR (d_M_tick_2 (k := 15) rfl) fl_M_44 rfl (fun a1 => ?_)
    refine m_bipush (v := 9) (d_M_tick_2 (k := 16) rfl) (by decide) ?_
    refine m_iload_n (d_M_tick_2 (k := 17) rfl) rfl ?_
    refine m_imul (d_M_tick_2 (k := 18) rfl) ?_
    refine m_bipush (v := 6) (d_M_tick_2 (k := 19) rfl) (by decide) ?_
    refine m_iadd (d_M_tick_2 (k := 20) rfl) ?_
    refine m_iald (d_M_tick_2 (k := 21) rfl) (fun x2 => ?_)
    refine m_ist_n (ls' := [some (.inr t0), some (.inl i1), some (.inl i2), some (.inl x2)]) (d_M_tick_2 (k := 22) rfl) (by decide) rfl ?_
    refine m_iload_n (d_M_tick_2 (k := 23) rfl) rfl ?_
    refine m_if_le (tgt := 199) (d_M_tick_2 (k := 24) rfl) rfl ?_ ?_
    · refine m_aload_n (d_M_tick_2 (k := 25) rfl) rfl ?_
      refine m_getI (d_M_tick_2 (k := 26) rfl) fl_M_288 rfl (fun x3 => ?_)
      refine m_iload_n (d_M_tick_2 (k := 27) rfl) rfl ?_
      refine m_irem (d_M_tick_2 (k := 28) rfl) (fun x4 => ?_)
      refine m_if_ne (tgt := 199) (d_M_tick_2 (k := 29) rfl) rfl ?_ ?_
      · refine m_aload_n (d_M_tick_2 (k := 30) rfl) rfl ?_
        refine m_iload_n (d_M_tick_2 (k := 31) rfl) rfl ?_
        refine m_cvI (c := 10) (vs := [.inl i2]) (st := []) (d_M_tick_2 (k := 32) rfl) (s_M_tells t0 i2 M) cd_M_tells ml_M_313 im_M_tells se_M_tells rfl (by decide) rfl (Nat.le_of_ble_eq_true rfl) (fun x5 M => ?_)
        refine m_pop (d_M_tick_2 (k := 33) rfl) ?_
        exact m_drop (mles_s (mles_s (mles_s (mles_n mles_0)))) (v_M_tick_199 r161 h161 t0 i1 i2 M)
      · exact m_drop (mles_s (mles_s (mles_s (mles_n mles_0)))) (v_M_tick_199 r161 h161 t0 i1 i2 M)
    · exact m_drop (mles_s (mles_s (mles_s (mles_n mles_0)))) (v_M_tick_199 r161 h161 t0 i1 i2 M)
  · refine m_iconst (v := 0) (d_M_tick_2 (k := 36) rfl) (by decide) ?_
    refine m_ist_n (ls' := [some (.inr t0), some (.inl i1), some (.inl (0 : Int32)), none]) (d_M_tick_2 (k := 37) rfl) (by decide) rfl ?_
    exact m_drop (mles_s (mles_s (mles_s (mles_n mles_0)))) (v_M_tick_207 mFU t0 i1 (0 : Int32) M)
theorem v_M_tick_161 {E : mE} : ∀ (n : Nat) (t0 : Option Nat) (i1 : Int32) (i2 : Int32) (M : mM), mVr E mi_M_tick 10 161 [some (.inr t0), some (.inl i1), some (.inl i2), none] [] M enI (q_M_tick_161 n t0 i1 i2 M)
  | 0, _, _, _, _ => m_none
  | n + 1, t0, i1, i2, M => v_M_tick_161_b _ (v_M_tick_161 n) t0 i1 i2 M
def q_M_tick_122_b (r122 : Option Nat → Int32 → Int32 → mM → Option (Int32 × mM)) (t0 : Option Nat) (i1 : Int32) (i2 : Int32) (M : mM) : Option (Int32 × mM) :=
    if i2 < (6 : Int32) then
      q_M_tick_130 r122 mFU t0 i1 i2 (0 : Int32) M
    else
      q_M_tick_161 mFU t0 i1 (0 : Int32) M
def q_M_tick_122 : Nat → Option Nat → Int32 → Int32 → mM → Option (Int32 × mM)
  | 0, _, _, _, _ => none
  | n + 1, t0, i1, i2, M => q_M_tick_122_b (q_M_tick_122 n) t0 i1 i2 M
set_option maxRecDepth 20000 in
theorem v_M_tick_122_b {E : mE} (r122 : Option Nat → Int32 → Int32 → mM → Option (Int32 × mM)) (h122 : ∀ (t0 : Option Nat) (i1 : Int32) (i2 : Int32) (M : mM), mVr E mi_M_tick 10 122 [some (.inr t0), some (.inl i1), some (.inl i2), none] [] M enI (r122 t0 i1 i2 M)) (t0 : Option Nat) (i1 : Int32) (i2 : Int32) (M : mM) : mVr E mi_M_tick 10 122 [some (.inr t0), some (.inl i1), some (.inl i2), none] [] M enI (q_M_tick_122_b r122 t0 i1 i2 M) := by
  unfold q_M_tick_122_b
  refine m_iload_n (d_M_tick_1 (k := 30) rfl) rfl ?_
  refine m_bipush (v := 6) (d_M_tick_1 (k := 31) rfl) (by decide) ?_
  refine m_icmp_ge (tgt := 159) (d_M_tick_1 (k := 32) rfl) rfl ?_ ?_
  · refine m_iconst (v := 0) (d_M_tick_1 (k := 33) rfl) (by decide) ?_
    refine m_ist_n (ls' := [some (.inr t0), some (.inl i1), some (.inl i2), some (.inl (0 : Int32))]) (d_M_tick_1 (k := 34) rfl) (by decide) rfl ?_
    exact m_drop (mles_s (mles_s (mles_s (mles_s mles_0)))) (v_M_tick_130 r122 h122 mFU t0 i1 i2 (0 : Int32) M)
  · refine m_iconst (v := 0) (d_M_tick_2 (k := 9) rfl) (by decide) ?_
    refine m_ist_n (ls' := [some (.inr t0), some (.inl i1), some (.inl (0 : Int32)), none]) (d_M_tick_2 (k := 10) rfl) (by decide) rfl ?_
    exact m_drop (mles_s (mles_s (mles_s (mles_n mles_0)))) (v_M_tick_161 mFU t0 i1 (0 : Int32) M)
theorem v_M_tick_122 {E : mE} : ∀ (n : Nat) (t0 : Option Nat) (i1 : Int32) (i2 : Int32) (M : mM), mVr E mi_M_tick 10 122 [some (.inr t0), some (.inl i1), some (.inl i2), none] [] M enI (q_M_tick_122 n t0 i1 i2 M)
  | 0, _, _, _, _ => m_none
  | n + 1, t0, i1, i2, M => v_M_tick_122_b _ (v_M_tick_122 n) t0 i1 i2 M
def q_M_tick_94_b (r94 : Option Nat → Int32 → Int32 → mM → Option (Int32 × mM)) (t0 : Option Nat) (i1 : Int32) (i2 : Int32) (M : mM) : Option (Int32 × mM) :=
    if i2 < (6 : Int32) then
      x_gR M 10 t0 35 fun a1 =>
      x_aI M 1 a1 i2 fun x2 =>
      if x2 = 0 then
        q_M_tick_114 r94 t0 i1 i2 M
      else
        x_cv M 10 t0 (q_M_taken t0 i2 M) fun _ M =>
        q_M_tick_114 r94 t0 i1 i2 M
    else
      q_M_tick_122 mFU t0 i1 (0 : Int32) M
def q_M_tick_94 : Nat → Option Nat → Int32 → Int32 → mM → Option (Int32 × mM)
  | 0, _, _, _, _ => none
  | n + 1, t0, i1, i2, M => q_M_tick_94_b (q_M_tick_94 n) t0 i1 i2 M
set_option maxRecDepth 20000 in
theorem v_M_tick_94_b {E : mE} (r94 : Option Nat → Int32 → Int32 → mM → Option (Int32 × mM)) (h94 : ∀ (t0 : Option Nat) (i1 : Int32) (i2 : Int32) (M : mM), mVr E mi_M_tick 10 94 [some (.inr t0), some (.inl i1), some (.inl i2), none] [] M enI (r94 t0 i1 i2 M)) (t0 : Option Nat) (i1 : Int32) (i2 : Int32) (M : mM) : mVr E mi_M_tick 10 94 [some (.inr t0), some (.inl i1), some (.inl i2), none] [] M enI (q_M_tick_94_b r94 t0 i1 i2 M) := by
  unfold q_M_tick_94_b
  refine m_iload_n (d_M_tick_1 (k := 15) rfl) rfl ?_
  refine m_bipush (v := 6) (d_M_tick_1 (k := 16) rfl) (by decide) ?_
  refine m_icmp_ge (tgt := 120) (d_M_tick_1 (k := 17) rfl) rfl ?_ ?_
  · refine m_aload_n (d_M_tick_1 (k := 18) rfl) rfl ?_
    refine m_getR (d_M_tick_1 (k := 19) rfl) fl_M_98 rfl (fun a1 => ?_)
    refine m_iload_n (d_M_tick_1 (k := 20) rfl) rfl ?_
    refine m_zald (d_M_tick_1 (k := 21) rfl) (fun x2 => ?_)
    refine m_if_eq (tgt := 114) (d_M_tick_1 (k := 22) rfl) rfl ?_ ?_
    · exact m_drop (mles_s (mles_s (mles_s (mles_n mles_0)))) (v_M_tick_114 r94 h94 t0 i1 i2 M)
    · refine m_aload_n (d_M_tick_1 (k := 23) rfl) rfl ?_
      refine m_iload_n (d_M_tick_1 (k := 24) rfl) rfl ?_
      refine m_cvU (c := 10) (vs := [.inl i2]) (st := []) (d_M_tick_1 (k := 25) rfl) (s_M_taken t0 i2 M) cd_M_taken ml_M_307 im_M_taken se_M_taken rfl (by decide) rfl (Nat.le_of_ble_eq_true rfl) (fun _ M => ?_)
      exact m_drop (mles_s (mles_s (mles_s (mles_n mles_0)))) (v_M_tick_114 r94 h94 t0 i1 i2 M)
  · refine m_iconst (v := 0) (d_M_tick_1 (k := 28) rfl) (by decide) ?_
    refine m_ist_n (ls' := [some (.inr t0), some (.inl i1), some (.inl (0 : Int32)), none]) (d_M_tick_1 (k := 29) rfl) (by decide) rfl ?_
    exact m_drop (mles_s (mles_s (mles_s (mles_n mles_0)))) (v_M_tick_122 mFU t0 i1 (0 : Int32) M)
theorem v_M_tick_94 {E : mE} : ∀ (n : Nat) (t0 : Option Nat) (i1 : Int32) (i2 : Int32) (M : mM), mVr E mi_M_tick 10 94 [some (.inr t0), some (.inl i1), some (.inl i2), none] [] M enI (q_M_tick_94 n t0 i1 i2 M)
  | 0, _, _, _, _ => m_none
  | n + 1, t0, i1, i2, M => v_M_tick_94_b _ (v_M_tick_94 n) t0 i1 i2 M
def q_M_tick_52_b (r52 : Option Nat → Int32 → Int32 → mM → Option (Int32 × mM)) (t0 : Option Nat) (i1 : Int32) (i2 : Int32) (M : mM) : Option (Int32 × mM) :=
    if i2 < (6 : Int32) then
      x_gR M 10 t0 35 fun a1 =>
      x_cv M 10 t0 (q_M_listens t0 i2 M) fun x2 M =>
      x_wZ M a1 i2 x2 fun M =>
      x_gR M 10 t0 35 fun a3 =>
      x_aI M 1 a3 i2 fun x4 =>
      if x4 = 0 then
        q_M_tick_84 r52 t0 i2 (0 : Int32) i1 M
      else
        q_M_tick_84 r52 t0 i2 (1 : Int32) i1 M
    else
      q_M_tick_94 mFU t0 i1 (0 : Int32) M
def q_M_tick_52 : Nat → Option Nat → Int32 → Int32 → mM → Option (Int32 × mM)
  | 0, _, _, _, _ => none
  | n + 1, t0, i1, i2, M => q_M_tick_52_b (q_M_tick_52 n) t0 i1 i2 M
set_option maxRecDepth 20000 in
theorem v_M_tick_52_b {E : mE} (r52 : Option Nat → Int32 → Int32 → mM → Option (Int32 × mM)) (h52 : ∀ (t0 : Option Nat) (i1 : Int32) (i2 : Int32) (M : mM), mVr E mi_M_tick 10 52 [some (.inr t0), some (.inl i1), some (.inl i2), none] [] M enI (r52 t0 i1 i2 M)) (t0 : Option Nat) (i1 : Int32) (i2 : Int32) (M : mM) : mVr E mi_M_tick 10 52 [some (.inr t0), some (.inl i1), some (.inl i2), none] [] M enI (q_M_tick_52_b r52 t0 i1 i2 M) := by
  unfold q_M_tick_52_b
  refine m_iload_n (d_M_tick_0 (k := 30) rfl) rfl ?_
  refine m_bipush (v := 6) (d_M_tick_0 (k := 31) rfl) (by decide) ?_
  refine m_icmp_ge (tgt := 92) (d_M_tick_0 (k := 32) rfl) rfl ?_ ?_
  · refine m_aload_n (d_M_tick_0 (k := 33) rfl) rfl ?_
    refine m_getR (d_M_tick_0 (k := 34) rfl) fl_M_98 rfl (fun a1 => ?_)
    refine m_iload_n (d_M_tick_0 (k := 35) rfl) rfl ?_
    refine m_aload_n (d_M_tick_0 (k := 36) rfl) rfl ?_
    refine m_iload_n (d_M_tick_0 (k := 37) rfl) rfl ?_
    refine m_cvI (c := 10) (vs := [.inl i2]) (st := [.inl i2, .inr a1]) (d_M_tick_0 (k := 38) rfl) (s_M_listens t0 i2 M) cd_M_listens ml_M_304 im_M_listens se_M_listens rfl (by decide) rfl (Nat.le_of_ble_eq_true rfl) (fun x2 M => ?_)
    refine m_zast (d_M_tick_0 (k := 39) rfl) (fun M => ?_)
    refine m_iload_n (d_M_tick_1 (k := 0) rfl) rfl ?_
    refine m_aload_n (d_M_tick_1 (k := 1) rfl) rfl ?_
    refine m_getR (d_M_tick_1 (k := 2) rfl) fl_M_98 rfl (fun a3 => ?_)
    refine m_iload_n (d_M_tick_1 (k := 3) rfl) rfl ?_
    refine m_zald (d_M_tick_1 (k := 4) rfl) (fun x4 => ?_)
    refine m_if_eq (tgt := 83) (d_M_tick_1 (k := 5) rfl) rfl ?_ ?_
    · refine m_iconst (v := 0) (d_M_tick_1 (k := 8) rfl) (by decide) ?_
      exact m_drop (mles_s (mles_n (mles_s (mles_n mles_0)))) (v_M_tick_84 r52 h52 t0 i2 (0 : Int32) i1 M)
    · refine m_iconst (v := 1) (d_M_tick_1 (k := 6) rfl) (by decide) ?_
      refine m_goto (tgt := 84) (d_M_tick_1 (k := 7) rfl) rfl ?_
      exact m_drop (mles_s (mles_n (mles_s (mles_n mles_0)))) (v_M_tick_84 r52 h52 t0 i2 (1 : Int32) i1 M)
  · refine m_iconst (v := 0) (d_M_tick_1 (k := 13) rfl) (by decide) ?_
    refine m_ist_n (ls' := [some (.inr t0), some (.inl i1), some (.inl (0 : Int32)), none]) (d_M_tick_1 (k := 14) rfl) (by decide) rfl ?_
    exact m_drop (mles_s (mles_s (mles_s (mles_n mles_0)))) (v_M_tick_94 mFU t0 i1 (0 : Int32) M)
theorem v_M_tick_52 {E : mE} : ∀ (n : Nat) (t0 : Option Nat) (i1 : Int32) (i2 : Int32) (M : mM), mVr E mi_M_tick 10 52 [some (.inr t0), some (.inl i1), some (.inl i2), none] [] M enI (q_M_tick_52 n t0 i1 i2 M)
  | 0, _, _, _, _ => m_none
  | n + 1, t0, i1, i2, M => v_M_tick_52_b _ (v_M_tick_52 n) t0 i1 i2 M
def q_M_tick_31_b (r31 : Option Nat → Int32 → mM → Option (Int32 × mM)) (t0 : Option Nat) (i1 : Int32) (M : mM) : Option (Int32 × mM) :=
    if i1 < (6 : Int32) then
      x_cv M 10 t0 (q_M_sends t0 i1 M) fun _ M =>
      r31 t0 (i1 + 1) M
    else
      q_M_tick_52 mFU t0 (0 : Int32) (0 : Int32) M
def q_M_tick_31 : Nat → Option Nat → Int32 → mM → Option (Int32 × mM)
  | 0, _, _, _ => none
  | n + 1, t0, i1, M => q_M_tick_31_b (q_M_tick_31 n) t0 i1 M
set_option maxRecDepth 20000 in
theorem v_M_tick_31_b {E : mE} (r31 : Option Nat → Int32 → mM → Option (Int32 × mM)) (h31 : ∀ (t0 : Option Nat) (i1 : Int32) (M : mM), mVr E mi_M_tick 10 31 [some (.inr t0), some (.inl i1), none, none] [] M enI (r31 t0 i1 M)) (t0 : Option Nat) (i1 : Int32) (M : mM) : mVr E mi_M_tick 10 31 [some (.inr t0), some (.inl i1), none, none] [] M enI (q_M_tick_31_b r31 t0 i1 M) := by
  unfold q_M_tick_31_b
  refine m_iload_n (d_M_tick_0 (k := 18) rfl) rfl ?_
  refine m_bipush (v := 6) (d_M_tick_0 (k := 19) rfl) (by decide) ?_
  refine m_icmp_ge (tgt := 48) (d_M_tick_0 (k := 20) rfl) rfl ?_ ?_
  · refine m_aload_n (d_M_tick_0 (k := 21) rfl) rfl ?_
    refine m_iload_n (d_M_tick_0 (k := 22) rfl) rfl ?_
    refine m_cvU (c := 10) (vs := [.inl i1]) (st := []) (d_M_tick_0 (k := 23) rfl) (s_M_sends t0 i1 M) cd_M_sends ml_M_301 im_M_sends se_M_sends rfl (by decide) rfl (Nat.le_of_ble_eq_true rfl) (fun _ M => ?_)
    refine m_inc (v := 1) (ls' := [some (.inr t0), some (.inl (i1 + 1)), none, none]) (d_M_tick_0 (k := 24) rfl) rfl (by decide) (by decide) rfl ?_
    refine m_goto (tgt := 31) (d_M_tick_0 (k := 25) rfl) rfl ?_
    exact m_drop (mles_s (mles_s (mles_n (mles_n mles_0)))) (h31 t0 (i1 + 1) M)
  · refine m_iconst (v := 0) (d_M_tick_0 (k := 26) rfl) (by decide) ?_
    refine m_ist_n (ls' := [some (.inr t0), some (.inl (0 : Int32)), none, none]) (d_M_tick_0 (k := 27) rfl) (by decide) rfl ?_
    refine m_iconst (v := 0) (d_M_tick_0 (k := 28) rfl) (by decide) ?_
    refine m_ist_n (ls' := [some (.inr t0), some (.inl (0 : Int32)), some (.inl (0 : Int32)), none]) (d_M_tick_0 (k := 29) rfl) (by decide) rfl ?_
    exact m_drop (mles_s (mles_s (mles_s (mles_n mles_0)))) (v_M_tick_52 mFU t0 (0 : Int32) (0 : Int32) M)
theorem v_M_tick_31 {E : mE} : ∀ (n : Nat) (t0 : Option Nat) (i1 : Int32) (M : mM), mVr E mi_M_tick 10 31 [some (.inr t0), some (.inl i1), none, none] [] M enI (q_M_tick_31 n t0 i1 M)
  | 0, _, _, _ => m_none
  | n + 1, t0, i1, M => v_M_tick_31_b _ (v_M_tick_31 n) t0 i1 M
def q_M_tick_12_b (r12 : Option Nat → Int32 → mM → Option (Int32 × mM)) (t0 : Option Nat) (i1 : Int32) (M : mM) : Option (Int32 × mM) :=
    if i1 < (6 : Int32) then
      x_cv M 10 t0 (q_M_draws t0 i1 M) fun _ M =>
      r12 t0 (i1 + 1) M
    else
      q_M_tick_31 mFU t0 (0 : Int32) M
def q_M_tick_12 : Nat → Option Nat → Int32 → mM → Option (Int32 × mM)
  | 0, _, _, _ => none
  | n + 1, t0, i1, M => q_M_tick_12_b (q_M_tick_12 n) t0 i1 M
set_option maxRecDepth 20000 in
theorem v_M_tick_12_b {E : mE} (r12 : Option Nat → Int32 → mM → Option (Int32 × mM)) (h12 : ∀ (t0 : Option Nat) (i1 : Int32) (M : mM), mVr E mi_M_tick 10 12 [some (.inr t0), some (.inl i1), none, none] [] M enI (r12 t0 i1 M)) (t0 : Option Nat) (i1 : Int32) (M : mM) : mVr E mi_M_tick 10 12 [some (.inr t0), some (.inl i1), none, none] [] M enI (q_M_tick_12_b r12 t0 i1 M) := by
  unfold q_M_tick_12_b
  refine m_iload_n (d_M_tick_0 (k := 8) rfl) rfl ?_
  refine m_bipush (v := 6) (d_M_tick_0 (k := 9) rfl) (by decide) ?_
  refine m_icmp_ge (tgt := 29) (d_M_tick_0 (k := 10) rfl) rfl ?_ ?_
  · refine m_aload_n (d_M_tick_0 (k := 11) rfl) rfl ?_
    refine m_iload_n (d_M_tick_0 (k := 12) rfl) rfl ?_
    refine m_cvU (c := 10) (vs := [.inl i1]) (st := []) (d_M_tick_0 (k := 13) rfl) (s_M_draws t0 i1 M) cd_M_draws ml_M_298 im_M_draws se_M_draws rfl (by decide) rfl (Nat.le_of_ble_eq_true rfl) (fun _ M => ?_)
    refine m_inc (v := 1) (ls' := [some (.inr t0), some (.inl (i1 + 1)), none, none]) (d_M_tick_0 (k := 14) rfl) rfl (by decide) (by decide) rfl ?_
    refine m_goto (tgt := 12) (d_M_tick_0 (k := 15) rfl) rfl ?_
    exact m_drop (mles_s (mles_s (mles_n (mles_n mles_0)))) (h12 t0 (i1 + 1) M)
  · refine m_iconst (v := 0) (d_M_tick_0 (k := 16) rfl) (by decide) ?_
    refine m_ist_n (ls' := [some (.inr t0), some (.inl (0 : Int32)), none, none]) (d_M_tick_0 (k := 17) rfl) (by decide) rfl ?_
    exact m_drop (mles_s (mles_s (mles_n (mles_n mles_0)))) (v_M_tick_31 mFU t0 (0 : Int32) M)
theorem v_M_tick_12 {E : mE} : ∀ (n : Nat) (t0 : Option Nat) (i1 : Int32) (M : mM), mVr E mi_M_tick 10 12 [some (.inr t0), some (.inl i1), none, none] [] M enI (q_M_tick_12 n t0 i1 M)
  | 0, _, _, _ => m_none
  | n + 1, t0, i1, M => v_M_tick_12_b _ (v_M_tick_12 n) t0 i1 M
def q_M_tick (t0 : Option Nat) (M : mM) : Option (Int32 × mM) :=
    x_gI M 10 t0 15 fun x1 =>
    x_pI M 10 t0 15 (x1 + (1 : Int32)) fun M =>
    q_M_tick_12 mFU t0 (0 : Int32) M
set_option maxRecDepth 20000 in
theorem v_M_tick {E : mE} (t0 : Option Nat) (M : mM) : mVr E mi_M_tick 10 0 [some (.inr t0), none, none, none] [] M enI (q_M_tick t0 M) := by
  unfold q_M_tick
  refine m_aload_n (d_M_tick_0 (k := 0) rfl) rfl ?_
  refine m_dup (d_M_tick_0 (k := 1) rfl) ?_
  refine m_getI (d_M_tick_0 (k := 2) rfl) fl_M_288 rfl (fun x1 => ?_)
  refine m_iconst (v := 1) (d_M_tick_0 (k := 3) rfl) (by decide) ?_
  refine m_iadd (d_M_tick_0 (k := 4) rfl) ?_
  refine m_pI (d_M_tick_0 (k := 5) rfl) fp_M_288 (fun h => absurd h (by decide)) rfl (fun M => ?_)
  refine m_iconst (v := 0) (d_M_tick_0 (k := 6) rfl) (by decide) ?_
  refine m_ist_n (ls' := [some (.inr t0), some (.inl (0 : Int32)), none, none]) (d_M_tick_0 (k := 7) rfl) (by decide) rfl ?_
  exact m_drop (mles_s (mles_s (mles_n (mles_n mles_0)))) (v_M_tick_12 mFU t0 (0 : Int32) M)
theorem s_M_tick {E : mE} (t0 : Option Nat) (M : mM) : mSnd E mi_M_tick 10 [.inr t0] M enI (q_M_tick t0 M) := m_entryI (by decide) (Nat.le_of_ble_eq_true rfl) rfl (m_drop (mles_s (mles_e (mles_e (mles_e mles_0)))) (v_M_tick t0 M))
def dt_M_run : List (Nat × Instr × Nat) := [(0, .iload_n 1, 1), (1, .iconst 1, 1), (2, .sipush 1000, 3), (5, .invokestatic 203, 3), (8, .ifCond .ne 5, 3), (11, .iconst (-1), 1), (12, .ireturn, 1), (13, .iconst 0, 1), (14, .istore_n 2, 1), (15, .iconst 0, 1), (16, .istore_n 3, 1), (17, .iload_n 3, 1), (18, .iload_n 1, 1), (19, .if_icmp .ge 16, 3), (22, .iload_n 2, 1), (23, .aload_n 0, 1), (24, .invokevirtual 320, 3), (27, .iadd, 1), (28, .istore_n 2, 1), (29, .iinc 3 1, 3), (32, .goto (-15), 3), (35, .iload_n 2, 1), (36, .ireturn, 1)]
theorem dx_M_run : ∀ p ∈ dt_M_run, decode prog_12_method_37_code p.1 = .ok p.2 := by decide +kernel
theorem d_M_run {k pc : Nat} {i : Instr} {n : Nat} (h : dt_M_run[k]? = some (pc, i, n)) : decode mi_M_run.2.1 pc = .ok (i, n) := dx_M_run (pc, i, n) (List.mem_of_getElem? h)
def q_M_run_17_b (r17 : Option Nat → Int32 → Int32 → Int32 → mM → Option (Int32 × mM)) (t0 : Option Nat) (i1 : Int32) (i2 : Int32) (i3 : Int32) (M : mM) : Option (Int32 × mM) :=
    if i3 < i1 then
      x_cv M 10 t0 (q_M_tick t0 M) fun x1 M =>
      x_lt (i2 + x1) fun x2 =>
      r17 t0 i1 x2 (i3 + 1) M
    else
      some (i2, M)
def q_M_run_17 : Nat → Option Nat → Int32 → Int32 → Int32 → mM → Option (Int32 × mM)
  | 0, _, _, _, _, _ => none
  | n + 1, t0, i1, i2, i3, M => q_M_run_17_b (q_M_run_17 n) t0 i1 i2 i3 M
set_option maxRecDepth 20000 in
theorem v_M_run_17_b {E : mE} (r17 : Option Nat → Int32 → Int32 → Int32 → mM → Option (Int32 × mM)) (h17 : ∀ (t0 : Option Nat) (i1 : Int32) (i2 : Int32) (i3 : Int32) (M : mM), mVr E mi_M_run 11 17 [some (.inr t0), some (.inl i1), some (.inl i2), some (.inl i3)] [] M enI (r17 t0 i1 i2 i3 M)) (t0 : Option Nat) (i1 : Int32) (i2 : Int32) (i3 : Int32) (M : mM) : mVr E mi_M_run 11 17 [some (.inr t0), some (.inl i1), some (.inl i2), some (.inl i3)] [] M enI (q_M_run_17_b r17 t0 i1 i2 i3 M) := by
  unfold q_M_run_17_b
  refine m_iload_n (d_M_run (k := 11) rfl) rfl ?_
  refine m_iload_n (d_M_run (k := 12) rfl) rfl ?_
  refine m_icmp_ge (tgt := 35) (d_M_run (k := 13) rfl) rfl ?_ ?_
  · refine m_iload_n (d_M_run (k := 14) rfl) rfl ?_
    refine m_aload_n (d_M_run (k := 15) rfl) rfl ?_
    refine m_cvI (c := 10) (vs := []) (st := [.inl i2]) (d_M_run (k := 16) rfl) (s_M_tick t0 M) cd_M_tick ml_M_320 im_M_tick se_M_tick rfl (by decide) rfl (Nat.le_of_ble_eq_true rfl) (fun x1 M => ?_)
    refine m_iadd (d_M_run (k := 17) rfl) ?_
    refine m_lt (fun x2 => ?_)
    refine m_ist_n (ls' := [some (.inr t0), some (.inl i1), some (.inl x2), some (.inl i3)]) (d_M_run (k := 18) rfl) (by decide) rfl ?_
    refine m_inc (v := 1) (ls' := [some (.inr t0), some (.inl i1), some (.inl x2), some (.inl (i3 + 1))]) (d_M_run (k := 19) rfl) rfl (by decide) (by decide) rfl ?_
    refine m_goto (tgt := 17) (d_M_run (k := 20) rfl) rfl ?_
    exact m_drop (mles_s (mles_s (mles_s (mles_s mles_0)))) (h17 t0 i1 x2 (i3 + 1) M)
  · refine m_iload_n (d_M_run (k := 21) rfl) rfl ?_
    exact m_iret (d_M_run (k := 22) rfl) rfl
theorem v_M_run_17 {E : mE} : ∀ (n : Nat) (t0 : Option Nat) (i1 : Int32) (i2 : Int32) (i3 : Int32) (M : mM), mVr E mi_M_run 11 17 [some (.inr t0), some (.inl i1), some (.inl i2), some (.inl i3)] [] M enI (q_M_run_17 n t0 i1 i2 i3 M)
  | 0, _, _, _, _, _ => m_none
  | n + 1, t0, i1, i2, i3, M => v_M_run_17_b _ (v_M_run_17 n) t0 i1 i2 i3 M
def q_M_run (t0 : Option Nat) (i1 : Int32) (M : mM) : Option (Int32 × mM) :=
    x_cl (q_M_in i1 (1 : Int32) (1000 : Int32) M) fun x1 M =>
    if x1 = 0 then
      some ((-1 : Int32), M)
    else
      q_M_run_17 mFU t0 i1 (0 : Int32) (0 : Int32) M
set_option maxRecDepth 20000 in
theorem v_M_run {E : mE} (t0 : Option Nat) (i1 : Int32) (M : mM) : mVr E mi_M_run 11 0 [some (.inr t0), some (.inl i1), none, none] [] M enI (q_M_run t0 i1 M) := by
  unfold q_M_run
  refine m_iload_n (d_M_run (k := 0) rfl) rfl ?_
  refine m_iconst (v := 1) (d_M_run (k := 1) rfl) (by decide) ?_
  refine m_sipush (v := 1000) (d_M_run (k := 2) rfl) (by decide) ?_
  refine m_csI (vs := [.inl i1, .inl (1 : Int32), .inl (1000 : Int32)]) (st := []) (d_M_run (k := 3) rfl) (s_M_in i1 (1 : Int32) (1000 : Int32) M) cd_M_in ml_M_203 sa_M_in (by decide) rfl (Nat.le_of_ble_eq_true rfl) (fun x1 M => ?_)
  refine m_if_ne (tgt := 13) (d_M_run (k := 4) rfl) rfl ?_ ?_
  · refine m_iconst (v := (-1)) (d_M_run (k := 5) rfl) (by decide) ?_
    exact m_iret (d_M_run (k := 6) rfl) rfl
  · refine m_iconst (v := 0) (d_M_run (k := 7) rfl) (by decide) ?_
    refine m_ist_n (ls' := [some (.inr t0), some (.inl i1), some (.inl (0 : Int32)), none]) (d_M_run (k := 8) rfl) (by decide) rfl ?_
    refine m_iconst (v := 0) (d_M_run (k := 9) rfl) (by decide) ?_
    refine m_ist_n (ls' := [some (.inr t0), some (.inl i1), some (.inl (0 : Int32)), some (.inl (0 : Int32))]) (d_M_run (k := 10) rfl) (by decide) rfl ?_
    exact m_drop (mles_s (mles_s (mles_s (mles_s mles_0)))) (v_M_run_17 mFU t0 i1 (0 : Int32) (0 : Int32) M)
theorem s_M_run {E : mE} (t0 : Option Nat) (i1 : Int32) (M : mM) : mSnd E mi_M_run 11 [.inr t0, .inl i1] M enI (q_M_run t0 i1 M) := m_entryI (by decide) (Nat.le_of_ble_eq_true rfl) rfl (m_drop (mles_s (mles_s (mles_e (mles_e mles_0)))) (v_M_run t0 i1 M))
def dt_M_station : List (Nat × Instr × Nat) := [(0, .iload_n 1, 1), (1, .invokestatic 207, 3), (4, .ifCond .ne 5, 3), (7, .iconst (-1), 1), (8, .ireturn, 1), (9, .iload_n 2, 1), (10, .tableswitch 116 0 10 #[58, 73, 80, 95, 102, 116, 116, 116, 116, 116, 109], 58), (68, .aload_n 0, 1), (69, .getfield 68, 3), (72, .iload_n 1, 1), (73, .baload, 1), (74, .ifCond .eq 7, 3), (77, .iconst 1, 1), (78, .goto 4, 3), (81, .iconst 0, 1), (82, .ireturn, 1), (83, .aload_n 0, 1), (84, .getfield 50, 3), (87, .iload_n 1, 1), (88, .iaload, 1), (89, .ireturn, 1), (90, .aload_n 0, 1), (91, .getfield 62, 3), (94, .iload_n 1, 1), (95, .baload, 1), (96, .ifCond .eq 7, 3), (99, .iconst 1, 1), (100, .goto 4, 3), (103, .iconst 0, 1), (104, .ireturn, 1), (105, .aload_n 0, 1), (106, .getfield 65, 3), (109, .iload_n 1, 1), (110, .iaload, 1), (111, .ireturn, 1), (112, .aload_n 0, 1), (113, .getfield 59, 3), (116, .iload_n 1, 1), (117, .iaload, 1), (118, .ireturn, 1), (119, .aload_n 0, 1), (120, .getfield 194, 3), (123, .iload_n 1, 1), (124, .iaload, 1), (125, .ireturn, 1), (126, .iload_n 2, 1), (127, .iconst 5, 1), (128, .bipush 9, 2), (130, .invokestatic 203, 3), (133, .ifCond .eq 18, 3), (136, .aload_n 0, 1), (137, .getfield 92, 3), (140, .iconst 5, 1), (141, .iload_n 1, 1), (142, .imul, 1), (143, .iload_n 2, 1), (144, .iadd, 1), (145, .iconst 5, 1), (146, .isub, 1), (147, .iaload, 1), (148, .goto 4, 3), (151, .iconst (-1), 1), (152, .ireturn, 1)]
theorem dx_M_station : ∀ p ∈ dt_M_station, decode prog_12_method_39_code p.1 = .ok p.2 := by decide +kernel
theorem d_M_station {k pc : Nat} {i : Instr} {n : Nat} (h : dt_M_station[k]? = some (pc, i, n)) : decode mi_M_station.2.1 pc = .ok (i, n) := dx_M_station (pc, i, n) (List.mem_of_getElem? h)
def q_M_station_126 (t0 : Option Nat) (i1 : Int32) (i2 : Int32) (M : mM) : Option (Int32 × mM) :=
    x_cl (q_M_in i2 (5 : Int32) (9 : Int32) M) fun x1 M =>
    if x1 = 0 then
      some ((-1 : Int32), M)
    else
      x_gR M 10 t0 32 fun a2 =>
      x_aI M 0 a2 ((((5 : Int32) * i1) + i2) - (5 : Int32)) fun x3 =>
      some (x3, M)
set_option maxRecDepth 20000 in
theorem v_M_station_126 {E : mE} (t0 : Option Nat) (i1 : Int32) (i2 : Int32) (M : mM) : mVr E mi_M_station 2 126 [some (.inr t0), some (.inl i1), some (.inl i2)] [] M enI (q_M_station_126 t0 i1 i2 M) := by
  unfold q_M_station_126
  refine m_iload_n (d_M_station (k := 45) rfl) rfl ?_
  refine m_iconst (v := 5) (d_M_station (k := 46) rfl) (by decide) ?_
  refine m_bipush (v := 9) (d_M_station (k := 47) rfl) (by decide) ?_
  refine m_csI (vs := [.inl i2, .inl (5 : Int32), .inl (9 : Int32)]) (st := []) (d_M_station (k := 48) rfl) (s_M_in i2 (5 : Int32) (9 : Int32) M) cd_M_in ml_M_203 sa_M_in (by decide) rfl (Nat.le_of_ble_eq_true rfl) (fun x1 M => ?_)
  refine m_if_eq (tgt := 151) (d_M_station (k := 49) rfl) rfl ?_ ?_
  · refine m_iconst (v := (-1)) (d_M_station (k := 61) rfl) (by decide) ?_
    exact m_iret (d_M_station (k := 62) rfl) rfl
  · refine m_aload_n (d_M_station (k := 50) rfl) rfl ?_
    refine m_getR (d_M_station (k := 51) rfl) fl_M_92 rfl (fun a2 => ?_)
    refine m_iconst (v := 5) (d_M_station (k := 52) rfl) (by decide) ?_
    refine m_iload_n (d_M_station (k := 53) rfl) rfl ?_
    refine m_imul (d_M_station (k := 54) rfl) ?_
    refine m_iload_n (d_M_station (k := 55) rfl) rfl ?_
    refine m_iadd (d_M_station (k := 56) rfl) ?_
    refine m_iconst (v := 5) (d_M_station (k := 57) rfl) (by decide) ?_
    refine m_isub (d_M_station (k := 58) rfl) ?_
    refine m_iald (d_M_station (k := 59) rfl) (fun x3 => ?_)
    refine m_goto (tgt := 152) (d_M_station (k := 60) rfl) rfl ?_
    exact m_iret (d_M_station (k := 62) rfl) rfl
def q_M_station (t0 : Option Nat) (i1 : Int32) (i2 : Int32) (M : mM) : Option (Int32 × mM) :=
    x_cl (q_M_isStation i1 M) fun x1 M =>
    if x1 = 0 then
      some ((-1 : Int32), M)
    else
      x_sw i2 [
        ((0 : Int32), (
          x_gR M 10 t0 24 fun a2 =>
          x_aI M 1 a2 i1 fun x3 =>
          if x3 = 0 then
            some ((0 : Int32), M)
          else
            some ((1 : Int32), M)
        )),
        ((1 : Int32), (
          x_gR M 10 t0 18 fun a4 =>
          x_aI M 0 a4 i1 fun x5 =>
          some (x5, M)
        )),
        ((2 : Int32), (
          x_gR M 10 t0 22 fun a6 =>
          x_aI M 1 a6 i1 fun x7 =>
          if x7 = 0 then
            some ((0 : Int32), M)
          else
            some ((1 : Int32), M)
        )),
        ((3 : Int32), (
          x_gR M 10 t0 23 fun a8 =>
          x_aI M 0 a8 i1 fun x9 =>
          some (x9, M)
        )),
        ((4 : Int32), (
          x_gR M 10 t0 21 fun a10 =>
          x_aI M 0 a10 i1 fun x11 =>
          some (x11, M)
        )),
        ((5 : Int32), (
          q_M_station_126 t0 i1 i2 M
        )),
        ((6 : Int32), (
          q_M_station_126 t0 i1 i2 M
        )),
        ((7 : Int32), (
          q_M_station_126 t0 i1 i2 M
        )),
        ((8 : Int32), (
          q_M_station_126 t0 i1 i2 M
        )),
        ((9 : Int32), (
          q_M_station_126 t0 i1 i2 M
        )),
        ((10 : Int32), (
          x_gR M 10 t0 78 fun a12 =>
          x_aI M 0 a12 i1 fun x13 =>
          some (x13, M)
        ))
      ] (
        q_M_station_126 t0 i1 i2 M
      )
set_option maxRecDepth 20000 in
theorem v_M_station {E : mE} (t0 : Option Nat) (i1 : Int32) (i2 : Int32) (M : mM) : mVr E mi_M_station 2 0 [some (.inr t0), some (.inl i1), some (.inl i2)] [] M enI (q_M_station t0 i1 i2 M) := by
  unfold q_M_station
  refine m_iload_n (d_M_station (k := 0) rfl) rfl ?_
  refine m_csI (vs := [.inl i1]) (st := []) (d_M_station (k := 1) rfl) (s_M_isStation i1 M) cd_M_isStation ml_M_207 sa_M_isStation (by decide) rfl (Nat.le_of_ble_eq_true rfl) (fun x1 M => ?_)
  refine m_if_ne (tgt := 9) (d_M_station (k := 2) rfl) rfl ?_ ?_
  · refine m_iconst (v := (-1)) (d_M_station (k := 3) rfl) (by decide) ?_
    exact m_iret (d_M_station (k := 4) rfl) rfl
  · refine m_iload_n (d_M_station (k := 5) rfl) rfl ?_
    refine m_sw ?_ (fun hx => ?_)
    ·
      refine List.forall_mem_cons.mpr ⟨?_, ?_⟩
      · dsimp only
        refine m_tin (x := (0 : Int32)) (tgt := 68) (d_M_station (k := 6) rfl) (by decide) (by decide) rfl rfl ?_
        refine m_aload_n (d_M_station (k := 7) rfl) rfl ?_
        refine m_getR (d_M_station (k := 8) rfl) fl_M_68 rfl (fun a2 => ?_)
        refine m_iload_n (d_M_station (k := 9) rfl) rfl ?_
        refine m_zald (d_M_station (k := 10) rfl) (fun x3 => ?_)
        refine m_if_eq (tgt := 81) (d_M_station (k := 11) rfl) rfl ?_ ?_
        · refine m_iconst (v := 0) (d_M_station (k := 14) rfl) (by decide) ?_
          exact m_iret (d_M_station (k := 15) rfl) rfl
        · refine m_iconst (v := 1) (d_M_station (k := 12) rfl) (by decide) ?_
          refine m_goto (tgt := 82) (d_M_station (k := 13) rfl) rfl ?_
          exact m_iret (d_M_station (k := 15) rfl) rfl
      refine List.forall_mem_cons.mpr ⟨?_, ?_⟩
      · dsimp only
        refine m_tin (x := (1 : Int32)) (tgt := 83) (d_M_station (k := 6) rfl) (by decide) (by decide) rfl rfl ?_
        refine m_aload_n (d_M_station (k := 16) rfl) rfl ?_
        refine m_getR (d_M_station (k := 17) rfl) fl_M_50 rfl (fun a4 => ?_)
        refine m_iload_n (d_M_station (k := 18) rfl) rfl ?_
        refine m_iald (d_M_station (k := 19) rfl) (fun x5 => ?_)
        exact m_iret (d_M_station (k := 20) rfl) rfl
      refine List.forall_mem_cons.mpr ⟨?_, ?_⟩
      · dsimp only
        refine m_tin (x := (2 : Int32)) (tgt := 90) (d_M_station (k := 6) rfl) (by decide) (by decide) rfl rfl ?_
        refine m_aload_n (d_M_station (k := 21) rfl) rfl ?_
        refine m_getR (d_M_station (k := 22) rfl) fl_M_62 rfl (fun a6 => ?_)
        refine m_iload_n (d_M_station (k := 23) rfl) rfl ?_
        refine m_zald (d_M_station (k := 24) rfl) (fun x7 => ?_)
        refine m_if_eq (tgt := 103) (d_M_station (k := 25) rfl) rfl ?_ ?_
        · refine m_iconst (v := 0) (d_M_station (k := 28) rfl) (by decide) ?_
          exact m_iret (d_M_station (k := 29) rfl) rfl
        · refine m_iconst (v := 1) (d_M_station (k := 26) rfl) (by decide) ?_
          refine m_goto (tgt := 104) (d_M_station (k := 27) rfl) rfl ?_
          exact m_iret (d_M_station (k := 29) rfl) rfl
      refine List.forall_mem_cons.mpr ⟨?_, ?_⟩
      · dsimp only
        refine m_tin (x := (3 : Int32)) (tgt := 105) (d_M_station (k := 6) rfl) (by decide) (by decide) rfl rfl ?_
        refine m_aload_n (d_M_station (k := 30) rfl) rfl ?_
        refine m_getR (d_M_station (k := 31) rfl) fl_M_65 rfl (fun a8 => ?_)
        refine m_iload_n (d_M_station (k := 32) rfl) rfl ?_
        refine m_iald (d_M_station (k := 33) rfl) (fun x9 => ?_)
        exact m_iret (d_M_station (k := 34) rfl) rfl
      refine List.forall_mem_cons.mpr ⟨?_, ?_⟩
      · dsimp only
        refine m_tin (x := (4 : Int32)) (tgt := 112) (d_M_station (k := 6) rfl) (by decide) (by decide) rfl rfl ?_
        refine m_aload_n (d_M_station (k := 35) rfl) rfl ?_
        refine m_getR (d_M_station (k := 36) rfl) fl_M_59 rfl (fun a10 => ?_)
        refine m_iload_n (d_M_station (k := 37) rfl) rfl ?_
        refine m_iald (d_M_station (k := 38) rfl) (fun x11 => ?_)
        exact m_iret (d_M_station (k := 39) rfl) rfl
      refine List.forall_mem_cons.mpr ⟨?_, ?_⟩
      · dsimp only
        refine m_tin (x := (5 : Int32)) (tgt := 126) (d_M_station (k := 6) rfl) (by decide) (by decide) rfl rfl ?_
        exact m_drop (mles_s (mles_s (mles_s mles_0))) (v_M_station_126 t0 i1 i2 M)
      refine List.forall_mem_cons.mpr ⟨?_, ?_⟩
      · dsimp only
        refine m_tin (x := (6 : Int32)) (tgt := 126) (d_M_station (k := 6) rfl) (by decide) (by decide) rfl rfl ?_
        exact m_drop (mles_s (mles_s (mles_s mles_0))) (v_M_station_126 t0 i1 i2 M)
      refine List.forall_mem_cons.mpr ⟨?_, ?_⟩
      · dsimp only
        refine m_tin (x := (7 : Int32)) (tgt := 126) (d_M_station (k := 6) rfl) (by decide) (by decide) rfl rfl ?_
        exact m_drop (mles_s (mles_s (mles_s mles_0))) (v_M_station_126 t0 i1 i2 M)
      refine List.forall_mem_cons.mpr ⟨?_, ?_⟩
      · dsimp only
        refine m_tin (x := (8 : Int32)) (tgt := 126) (d_M_station (k := 6) rfl) (by decide) (by decide) rfl rfl ?_
        exact m_drop (mles_s (mles_s (mles_s mles_0))) (v_M_station_126 t0 i1 i2 M)
      refine List.forall_mem_cons.mpr ⟨?_, ?_⟩
      · dsimp only
        refine m_tin (x := (9 : Int32)) (tgt := 126) (d_M_station (k := 6) rfl) (by decide) (by decide) rfl rfl ?_
        exact m_drop (mles_s (mles_s (mles_s mles_0))) (v_M_station_126 t0 i1 i2 M)
      refine List.forall_mem_cons.mpr ⟨?_, ?_⟩
      · dsimp only
        refine m_tin (x := (10 : Int32)) (tgt := 119) (d_M_station (k := 6) rfl) (by decide) (by decide) rfl rfl ?_
        refine m_aload_n (d_M_station (k := 40) rfl) rfl ?_
        refine m_getR (d_M_station (k := 41) rfl) fl_M_194 rfl (fun a12 => ?_)
        refine m_iload_n (d_M_station (k := 42) rfl) rfl ?_
        refine m_iald (d_M_station (k := 43) rfl) (fun x13 => ?_)
        exact m_iret (d_M_station (k := 44) rfl) rfl
      exact fun _ h => absurd h List.not_mem_nil
    · refine m_tout (ks := [0, 1, 2, 3, 4, 5, 6, 7, 8, 9, 10]) (tgt := 126) (d_M_station (k := 6) rfl) (m_ks hx) (by decide) rfl ?_
      exact m_drop (mles_s (mles_s (mles_s mles_0))) (v_M_station_126 t0 i1 i2 M)
theorem s_M_station {E : mE} (t0 : Option Nat) (i1 : Int32) (i2 : Int32) (M : mM) : mSnd E mi_M_station 2 [.inr t0, .inl i1, .inl i2] M enI (q_M_station t0 i1 i2 M) := m_entryI (by decide) (Nat.le_of_ble_eq_true rfl) rfl (m_drop (mles_s (mles_s (mles_s mles_0))) (v_M_station t0 i1 i2 M))
