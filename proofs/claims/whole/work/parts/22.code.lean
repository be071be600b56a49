def dt_K_isBusy : List (Nat × Instr × Nat) := [(0, .aload_n 0, 1), (1, .getfield 38, 3), (4, .getfield 53, 3), (7, .bipush 48, 2), (9, .if_icmp .le 7, 3), (12, .iconst 1, 1), (13, .goto 4, 3), (16, .iconst 0, 1), (17, .ireturn, 1)]
theorem dx_K_isBusy : ∀ p ∈ dt_K_isBusy, decode prog_4_method_2_code p.1 = .ok p.2 := by decide +kernel
theorem d_K_isBusy {k pc : Nat} {i : Instr} {n : Nat} (h : dt_K_isBusy[k]? = some (pc, i, n)) : decode mi_K_isBusy.2.1 pc = .ok (i, n) := dx_K_isBusy (pc, i, n) (List.mem_of_getElem? h)
def q_K_isBusy (t0 : Option Nat) (M : mM) : Option (Int32 × mM) :=
    x_gR M 2 t0 4 fun a1 =>
    x_gI M 0 a1 1 fun x2 =>
    if (48 : Int32) < x2 then
      x_rz (1 : Int32) M
    else
      x_rz (0 : Int32) M
set_option maxRecDepth 20000 in
theorem v_K_isBusy {E : mE} (t0 : Option Nat) (M : mM) : mVr E mi_K_isBusy 0 0 [some (.inr t0)] [] M enI (q_K_isBusy t0 M) := by
  unfold q_K_isBusy
  refine m_aload_n (d_K_isBusy (k := 0) rfl) rfl ?_
  refine m_getR (d_K_isBusy (k := 1) rfl) fl_K_38 rfl (fun a1 => ?_)
  refine m_getI (d_K_isBusy (k := 2) rfl) fl_K_53 rfl (fun x2 => ?_)
  refine m_bipush (v := 48) (d_K_isBusy (k := 3) rfl) (by decide) ?_
  refine m_icmp_le (tgt := 16) (d_K_isBusy (k := 4) rfl) rfl ?_ ?_
  · refine m_iconst (v := 1) (d_K_isBusy (k := 5) rfl) (by decide) ?_
    refine m_goto (tgt := 17) (d_K_isBusy (k := 6) rfl) rfl ?_
    exact m_zret (d_K_isBusy (k := 8) rfl) rfl
  · refine m_iconst (v := 0) (d_K_isBusy (k := 7) rfl) (by decide) ?_
    exact m_zret (d_K_isBusy (k := 8) rfl) rfl
theorem s_K_isBusy {E : mE} (t0 : Option Nat) (M : mM) : mSnd E mi_K_isBusy 0 [.inr t0] M enI (q_K_isBusy t0 M) := m_entryZ (by decide) (Nat.le_of_ble_eq_true rfl) rfl (m_drop (mles_s mles_0) (v_K_isBusy t0 M))
def dt_C_sayReady : List (Nat × Instr × Nat) := [(0, .aload_n 0, 1), (1, .invokevirtual 184, 3), (4, .ifCond .eq 7, 3), (7, .iconst 5, 1), (8, .goto 4, 3), (11, .iconst 1, 1), (12, .istore_n 3, 1), (13, .aload_n 0, 1), (14, .getfield 169, 3), (17, .aload_n 0, 1), (18, .getfield 148, 3), (21, .iload_n 3, 1), (22, .iload_n 1, 1), (23, .iadd, 1), (24, .bipush 32, 2), (26, .aload_n 0, 1), (27, .getfield 294, 3), (30, .imul, 1), (31, .iadd, 1), (32, .iload_n 2, 1), (33, .invokestatic 176, 3), (36, .pop, 1), (37, .return_, 1)]
theorem dx_C_sayReady : ∀ p ∈ dt_C_sayReady, decode prog_1_method_51_code p.1 = .ok p.2 := by decide +kernel
theorem d_C_sayReady {k pc : Nat} {i : Instr} {n : Nat} (h : dt_C_sayReady[k]? = some (pc, i, n)) : decode mi_C_sayReady.2.1 pc = .ok (i, n) := dx_C_sayReady (pc, i, n) (List.mem_of_getElem? h)
def q_C_sayReady_12 (t0 : Option Nat) (i1 : Int32) (i2 : Int32) (j0 : Int32) (M : mM) : Option (Unit × mM) :=
    x_gR M 2 t0 0 fun a1 =>
    x_gR M 2 t0 2 fun a2 =>
    x_gI M 2 t0 10 fun x3 =>
    x_cl (q_C_say a1 a2 ((j0 + i1) + ((32 : Int32) * x3)) i2 M) fun a4 M =>
    some ((), M)
set_option maxRecDepth 20000 in
theorem v_C_sayReady_12 {E : mE} (t0 : Option Nat) (i1 : Int32) (i2 : Int32) (j0 : Int32) (M : mM) : mVr E mi_C_sayReady 2 12 [some (.inr t0), some (.inl i1), some (.inl i2), none] [.inl j0] M enU (q_C_sayReady_12 t0 i1 i2 j0 M) := by
  unfold q_C_sayReady_12
  refine m_ist_n (ls' := [some (.inr t0), some (.inl i1), some (.inl i2), some (.inl j0)]) (d_C_sayReady (k := 6) rfl) (by decide) rfl ?_
  refine m_aload_n (d_C_sayReady (k := 7) rfl) rfl ?_
  refine m_getR (d_C_sayReady (k := 8) rfl) fl_C_169 rfl (fun a1 => ?_)
  refine m_aload_n (d_C_sayReady (k := 9) rfl) rfl ?_
  refine m_getR (d_C_sayReady (k := 10) rfl) fl_C_148 rfl (fun a2 => ?_)
  refine m_iload_n (d_C_sayReady (k := 11) rfl) rfl ?_
  refine m_iload_n (d_C_sayReady (k := 12) rfl) rfl ?_
  refine m_iadd (d_C_sayReady (k := 13) rfl) ?_
  refine m_bipush (v := 32) (d_C_sayReady (k := 14) rfl) (by decide) ?_
  refine m_aload_n (d_C_sayReady (k := 15) rfl) rfl ?_
  refine m_getI (d_C_sayReady (k := 16) rfl) fl_C_294 rfl (fun x3 => ?_)
  refine m_imul (d_C_sayReady (k := 17) rfl) ?_
  refine m_iadd (d_C_sayReady (k := 18) rfl) ?_
  refine m_iload_n (d_C_sayReady (k := 19) rfl) rfl ?_
  refine m_csR (vs := [.inr a1, .inr a2, .inl ((j0 + i1) + ((32 : Int32) * x3)), .inl i2]) (st := []) (d_C_sayReady (k := 20) rfl) (s_C_say a1 a2 ((j0 + i1) + ((32 : Int32) * x3)) i2 M) cd_C_say ml_C_176 sa_C_say (by decide) rfl (Nat.le_of_ble_eq_true rfl) (fun a4 M => ?_)
  refine m_pop (d_C_sayReady (k := 21) rfl) ?_
  exact m_vret (d_C_sayReady (k := 22) rfl) rfl
def q_C_sayReady (t0 : Option Nat) (i1 : Int32) (i2 : Int32) (M : mM) : Option (Unit × mM) :=
    x_cv M 2 t0 (q_K_isBusy t0 M) fun x1 M =>
    if x1 = 0 then
      q_C_sayReady_12 t0 i1 i2 (1 : Int32) M
    else
      q_C_sayReady_12 t0 i1 i2 (5 : Int32) M
set_option maxRecDepth 20000 in
theorem v_C_sayReady {E : mE} (t0 : Option Nat) (i1 : Int32) (i2 : Int32) (M : mM) : mVr E mi_C_sayReady 2 0 [some (.inr t0), some (.inl i1), some (.inl i2), none] [] M enU (q_C_sayReady t0 i1 i2 M) := by
  unfold q_C_sayReady
  refine m_aload_n (d_C_sayReady (k := 0) rfl) rfl ?_
  refine m_cvI (c := 2) (vs := []) (st := []) (d_C_sayReady (k := 1) rfl) (s_K_isBusy t0 M) cd_K_isBusy ml_C_184 im_K_isBusy se_K_isBusy rfl (by decide) rfl (Nat.le_of_ble_eq_true rfl) (fun x1 M => ?_)
  refine m_if_eq (tgt := 11) (d_C_sayReady (k := 2) rfl) rfl ?_ ?_
  · refine m_iconst (v := 1) (d_C_sayReady (k := 5) rfl) (by decide) ?_
    exact m_drop (mles_s (mles_s (mles_s (mles_n mles_0)))) (v_C_sayReady_12 t0 i1 i2 (1 : Int32) M)
  · refine m_iconst (v := 5) (d_C_sayReady (k := 3) rfl) (by decide) ?_
    refine m_goto (tgt := 12) (d_C_sayReady (k := 4) rfl) rfl ?_
    exact m_drop (mles_s (mles_s (mles_s (mles_n mles_0)))) (v_C_sayReady_12 t0 i1 i2 (5 : Int32) M)
theorem s_C_sayReady {E : mE} (t0 : Option Nat) (i1 : Int32) (i2 : Int32) (M : mM) : mSnd E mi_C_sayReady 2 [.inr t0, .inl i1, .inl i2] M enU (q_C_sayReady t0 i1 i2 M) := m_entryU (by decide) (Nat.le_of_ble_eq_true rfl) rfl (m_drop (mles_s (mles_s (mles_s (mles_e mles_0)))) (v_C_sayReady t0 i1 i2 M))
def dt_C_read : List (Nat × Instr × Nat) := [(0, .aload_n 0, 1), (1, .iload_n 1, 1), (2, .iload_n 2, 1), (3, .invokevirtual 137, 3), (6, .astore 4, 2), (8, .aload 4, 2), (10, .ifnull 14, 3), (13, .iload_n 3, 1), (14, .iconst 1, 1), (15, .if_icmp .lt 9, 3), (18, .iload_n 3, 1), (19, .bipush 64, 2), (21, .if_icmp .le 5, 3), (24, .iconst (-1), 1), (25, .ireturn, 1), (26, .aload 4, 2), (28, .invokevirtual 184, 3), (31, .istore 5, 2), (33, .iload_n 3, 1), (34, .aload 4, 2), (36, .getfield 188, 3), (39, .getfield 61, 3), (42, .invokestatic 191, 3), (45, .istore 6, 2), (47, .aload_n 0, 1), (48, .aload 4, 2), (50, .getfield 188, 3), (53, .iconst 0, 1), (54, .iload 6, 2), (56, .invokevirtual 102, 3), (59, .aload 4, 2), (61, .getfield 188, 3), (64, .iload 6, 2), (66, .invokevirtual 197, 3), (69, .iload 5, 2), (71, .ifCond .eq 27, 3), (74, .aload 4, 2), (76, .invokevirtual 184, 3), (79, .ifCond .ne 19, 3), (82, .aload 4, 2), (84, .getfield 141, 3), (87, .iconst 2, 1), (88, .if_icmp .ne 10, 3), (91, .aload 4, 2), (93, .iconst 0, 1), (94, .iconst 0, 1), (95, .invokestatic 200, 3), (98, .iload 6, 2), (100, .ireturn, 1)]
theorem dx_C_read : ∀ p ∈ dt_C_read, decode prog_1_method_13_code p.1 = .ok p.2 := by decide +kernel
theorem d_C_read {k pc : Nat} {i : Instr} {n : Nat} (h : dt_C_read[k]? = some (pc, i, n)) : decode mi_C_read.2.1 pc = .ok (i, n) := dx_C_read (pc, i, n) (List.mem_of_getElem? h)
def q_C_read (t0 : Option Nat) (i1 : Int32) (i2 : Int32) (i3 : Int32) (M : mM) : Option (Int32 × mM) :=
    x_cv M 9 t0 (q_C_linkAt t0 i1 i2 M) fun a1 M =>
    x_nl a1 (
      some ((-1 : Int32), M)
    ) (
      if i3 < (1 : Int32) then
        some ((-1 : Int32), M)
      else
        if (64 : Int32) < i3 then
          some ((-1 : Int32), M)
        else
          x_cv M 2 a1 (q_K_isBusy a1 M) fun x2 M =>
          x_gR M 2 a1 4 fun a3 =>
          x_gI M 0 a3 1 fun x4 =>
          x_lt (if x4 < i3 then x4 else i3) fun x5 =>
          x_gR M 2 a1 4 fun a6 =>
          x_cv M 9 t0 (q_C_putOut t0 a6 (0 : Int32) x5 M) fun _ M =>
          x_gR M 2 a1 4 fun a7 =>
          x_cv M 0 a7 (q_B_dropFirst a7 x5 M) fun _ M =>
          if x2 = 0 then
            some (x5, M)
          else
            x_cv M 2 a1 (q_K_isBusy a1 M) fun x8 M =>
            if x8 = 0 then
              x_gI M 2 a1 7 fun x9 =>
              if x9 = (2 : Int32) then
                x_cl (q_C_sayReady a1 (0 : Int32) (0 : Int32) M) fun _ M =>
                some (x5, M)
              else
                some (x5, M)
            else
              some (x5, M)
    )
set_option maxRecDepth 20000 in
theorem v_C_read {E : mE} (t0 : Option Nat) (i1 : Int32) (i2 : Int32) (i3 : Int32) (M : mM) : mVr E mi_C_read 4 0 [some (.inr t0), some (.inl i1), some (.inl i2), some (.inl i3), none, none, none] [] M enI (q_C_read t0 i1 i2 i3 M) := by
  unfold q_C_read
  refine m_aload_n (d_C_read (k := 0) rfl) rfl ?_
  refine m_iload_n (d_C_read (k := 1) rfl) rfl ?_
  refine m_iload_n (d_C_read (k := 2) rfl) rfl ?_
  refine m_cvR (c := 9) (vs := [.inl i1, .inl i2]) (st := []) (d_C_read (k := 3) rfl) (s_C_linkAt t0 i1 i2 M) cd_C_linkAt ml_C_137 im_C_linkAt se_C_linkAt rfl (by decide) rfl (Nat.le_of_ble_eq_true rfl) (fun a1 M => ?_)
  refine m_ast (ls' := [some (.inr t0), some (.inl i1), some (.inl i2), some (.inl i3), some (.inr a1), none, none]) (d_C_read (k := 4) rfl) (by decide) rfl ?_
  refine m_aload (d_C_read (k := 5) rfl) rfl ?_
  refine m_ifnull (tgt := 24) (d_C_read (k := 6) rfl) rfl ?_ ?_
  · refine m_iconst (v := (-1)) (d_C_read (k := 13) rfl) (by decide) ?_
    exact m_iret (d_C_read (k := 14) rfl) rfl
  · refine m_iload_n (d_C_read (k := 7) rfl) rfl ?_
    refine m_iconst (v := 1) (d_C_read (k := 8) rfl) (by decide) ?_
    refine m_icmp_lt (tgt := 24) (d_C_read (k := 9) rfl) rfl ?_ ?_
    · refine m_iconst (v := (-1)) (d_C_read (k := 13) rfl) (by decide) ?_
      exact m_iret (d_C_read (k := 14) rfl) rfl
    · refine m_iload_n (d_C_read (k := 10) rfl) rfl ?_
      refine m_bipush (v := 64) (d_C_read (k := 11) rfl) (by decide) ?_
      refine m_icmp_le (tgt := 26) (d_C_read (k := 12) rfl) rfl ?_ ?_
      · refine m_iconst (v := (-1)) (d_C_read (k := 13) rfl) (by decide) ?_
        exact m_iret (d_C_read (k := 14) rfl) rfl
      · refine m_aload (d_C_read (k := 15) rfl) rfl ?_
        refine m_cvI (c := 2) (vs := []) (st := []) (d_C_read (k := 16) rfl) (s_K_isBusy a1 M) cd_K_isBusy ml_C_184 im_K_isBusy se_K_isBusy rfl (by decide) rfl (Nat.le_of_ble_eq_true rfl) (fun x2 M => ?_)
        refine m_ist (ls' := [some (.inr t0), some (.inl i1), some (.inl i2), some (.inl i3), some (.inr a1), some (.inl x2), none]) (d_C_read (k := 17) rfl) (by decide) rfl ?_
        refine m_iload_n (d_C_read (k := 18) rfl) rfl ?_
        refine m_aload (d_C_read (k := 19) rfl) rfl ?_
        refine m_getR (d_C_read (k := 20) rfl) fl_C_188 rfl (fun a3 => ?_)
        refine m_getI (d_C_read (k := 21) rfl) fl_C_61 rfl (fun x4 => ?_)
        refine m_min (d_C_read (k := 22) rfl) mm_C_191 ms_min mi_math mc_min (Nat.le_of_ble_eq_true rfl) ?_
        refine m_lt (fun x5 => ?_)
        refine m_ist (ls' := [some (.inr t0), some (.inl i1), some (.inl i2), some (.inl i3), some (.inr a1), some (.inl x2), some (.inl x5)]) (d_C_read (k := 23) rfl) (by decide) rfl ?_
        refine m_aload_n (d_C_read (k := 24) rfl) rfl ?_
        refine m_aload (d_C_read (k := 25) rfl) rfl ?_
        refine m_getR (d_C_read (k := 26) rfl) fl_C_188 rfl (fun a6 => ?_)
        refine m_iconst (v := 0) (d_C_read (k := 27) rfl) (by decide) ?_
        refine m_iload (d_C_read (k := 28) rfl) rfl ?_
        refine m_cvU (c := 9) (vs := [.inr a6, .inl (0 : Int32), .inl x5]) (st := []) (d_C_read (k := 29) rfl) (s_C_putOut t0 a6 (0 : Int32) x5 M) cd_C_putOut ml_C_102 im_C_putOut se_C_putOut rfl (by decide) rfl (Nat.le_of_ble_eq_true rfl) (fun _ M => ?_)
        refine m_aload (d_C_read (k := 30) rfl) rfl ?_
        refine m_getR (d_C_read (k := 31) rfl) fl_C_188 rfl (fun a7 => ?_)
        refine m_iload (d_C_read (k := 32) rfl) rfl ?_
        refine m_cvU (c := 0) (vs := [.inl x5]) (st := []) (d_C_read (k := 33) rfl) (s_B_dropFirst a7 x5 M) cd_B_dropFirst ml_C_197 im_B_dropFirst se_B_dropFirst rfl (by decide) rfl (Nat.le_of_ble_eq_true rfl) (fun _ M => ?_)
        refine m_iload (d_C_read (k := 34) rfl) rfl ?_
        refine m_if_eq (tgt := 98) (d_C_read (k := 35) rfl) rfl ?_ ?_
        · refine m_iload (d_C_read (k := 47) rfl) rfl ?_
          exact m_iret (d_C_read (k := 48) rfl) rfl
        · refine m_aload (d_C_read (k := 36) rfl) rfl ?_
          refine m_cvI (c := 2) (vs := []) (st := []) (d_C_read (k := 37) rfl) (s_K_isBusy a1 M) cd_K_isBusy ml_C_184 im_K_isBusy se_K_isBusy rfl (by decide) rfl (Nat.le_of_ble_eq_true rfl) (fun x8 M => ?_)
          refine m_if_ne (tgt := 98) (d_C_read (k := 38) rfl) rfl ?_ ?_
          · refine m_aload (d_C_read (k := 39) rfl) rfl ?_
            refine m_getI (d_C_read (k := 40) rfl) fl_C_141 rfl (fun x9 => ?_)
            refine m_iconst (v := 2) (d_C_read (k := 41) rfl) (by decide) ?_
            refine m_icmp_ne (tgt := 98) (d_C_read (k := 42) rfl) rfl ?_ ?_
            · refine m_aload (d_C_read (k := 43) rfl) rfl ?_
              refine m_iconst (v := 0) (d_C_read (k := 44) rfl) (by decide) ?_
              refine m_iconst (v := 0) (d_C_read (k := 45) rfl) (by decide) ?_
              refine m_csU (vs := [.inr a1, .inl (0 : Int32), .inl (0 : Int32)]) (st := []) (d_C_read (k := 46) rfl) (s_C_sayReady a1 (0 : Int32) (0 : Int32) M) cd_C_sayReady ml_C_200 sa_C_sayReady (by decide) rfl (Nat.le_of_ble_eq_true rfl) (fun _ M => ?_)
              refine m_iload (d_C_read (k := 47) rfl) rfl ?_
              exact m_iret (d_C_read (k := 48) rfl) rfl
            · refine m_iload (d_C_read (k := 47) rfl) rfl ?_
              exact m_iret (d_C_read (k := 48) rfl) rfl
          · refine m_iload (d_C_read (k := 47) rfl) rfl ?_
            exact m_iret (d_C_read (k := 48) rfl) rfl
theorem s_C_read {E : mE} (t0 : Option Nat) (i1 : Int32) (i2 : Int32) (i3 : Int32) (M : mM) : mSnd E mi_C_read 4 [.inr t0, .inl i1, .inl i2, .inl i3] M enI (q_C_read t0 i1 i2 i3 M) := m_entryI (by decide) (Nat.le_of_ble_eq_true rfl) rfl (m_drop (mles_s (mles_s (mles_s (mles_s (mles_e (mles_e (mles_e mles_0))))))) (v_C_read t0 i1 i2 i3 M))
def dt_T_ageOf : List (Nat × Instr × Nat) := [(0, .aload_n 0, 1), (1, .iload_n 1, 1), (2, .iload_n 2, 1), (3, .invokevirtual 26, 3), (6, .ifCond .le 17, 3), (9, .aload_n 0, 1), (10, .getfield 19, 3), (13, .bipush 6, 2), (15, .iload_n 1, 1), (16, .imul, 1), (17, .iload_n 2, 1), (18, .iadd, 1), (19, .iaload, 1), (20, .goto 4, 3), (23, .iconst 0, 1), (24, .ireturn, 1)]
theorem dx_T_ageOf : ∀ p ∈ dt_T_ageOf, decode prog_7_method_3_code p.1 = .ok p.2 := by decide +kernel
theorem d_T_ageOf {k pc : Nat} {i : Instr} {n : Nat} (h : dt_T_ageOf[k]? = some (pc, i, n)) : decode mi_T_ageOf.2.1 pc = .ok (i, n) := dx_T_ageOf (pc, i, n) (List.mem_of_getElem? h)
def q_T_ageOf (t0 : Option Nat) (i1 : Int32) (i2 : Int32) (M : mM) : Option (Int32 × mM) :=
    x_cv M 5 t0 (q_T_qualityOf t0 i1 i2 M) fun x1 M =>
    if 0 < x1 then
      x_gR M 5 t0 2 fun a2 =>
      x_aI M 0 a2 (((6 : Int32) * i1) + i2) fun x3 =>
      some (x3, M)
    else
      some ((0 : Int32), M)
set_option maxRecDepth 20000 in
theorem v_T_ageOf {E : mE} (t0 : Option Nat) (i1 : Int32) (i2 : Int32) (M : mM) : mVr E mi_T_ageOf 2 0 [some (.inr t0), some (.inl i1), some (.inl i2)] [] M enI (q_T_ageOf t0 i1 i2 M) := by
  unfold q_T_ageOf
  refine m_aload_n (d_T_ageOf (k := 0) rfl) rfl ?_
  refine m_iload_n (d_T_ageOf (k := 1) rfl) rfl ?_
  refine m_iload_n (d_T_ageOf (k := 2) rfl) rfl ?_
  refine m_cvI (c := 5) (vs := [.inl i1, .inl i2]) (st := []) (d_T_ageOf (k := 3) rfl) (s_T_qualityOf t0 i1 i2 M) cd_T_qualityOf ml_T_26 im_T_qualityOf se_T_qualityOf rfl (by decide) rfl (Nat.le_of_ble_eq_true rfl) (fun x1 M => ?_)
  refine m_if_le (tgt := 23) (d_T_ageOf (k := 4) rfl) rfl ?_ ?_
  · refine m_aload_n (d_T_ageOf (k := 5) rfl) rfl ?_
    refine m_getR (d_T_ageOf (k := 6) rfl) fl_T_19 rfl (fun a2 => ?_)
    refine m_bipush (v := 6) (d_T_ageOf (k := 7) rfl) (by decide) ?_
    refine m_iload_n (d_T_ageOf (k := 8) rfl) rfl ?_
    refine m_imul (d_T_ageOf (k := 9) rfl) ?_
    refine m_iload_n (d_T_ageOf (k := 10) rfl) rfl ?_
    refine m_iadd (d_T_ageOf (k := 11) rfl) ?_
    refine m_iald (d_T_ageOf (k := 12) rfl) (fun x3 => ?_)
    refine m_goto (tgt := 24) (d_T_ageOf (k := 13) rfl) rfl ?_
    exact m_iret (d_T_ageOf (k := 15) rfl) rfl
  · refine m_iconst (v := 0) (d_T_ageOf (k := 14) rfl) (by decide) ?_
    exact m_iret (d_T_ageOf (k := 15) rfl) rfl
theorem s_T_ageOf {E : mE} (t0 : Option Nat) (i1 : Int32) (i2 : Int32) (M : mM) : mSnd E mi_T_ageOf 2 [.inr t0, .inl i1, .inl i2] M enI (q_T_ageOf t0 i1 i2 M) := m_entryI (by decide) (Nat.le_of_ble_eq_true rfl) rfl (m_drop (mles_s (mles_s (mles_s mles_0))) (v_T_ageOf t0 i1 i2 M))
def dt_C_route : List (Nat × Instr × Nat) := [(0, .aload_n 0, 1), (1, .iload_n 1, 1), (2, .invokevirtual 106, 3), (5, .astore 5, 2), (7, .aload 5, 2), (9, .ifnull 27, 3), (12, .iload_n 2, 1), (13, .invokestatic 110, 3), (16, .ifCond .eq 20, 3), (19, .iload_n 3, 1), (20, .invokestatic 110, 3), (23, .ifCond .eq 13, 3), (26, .iload_n 2, 1), (27, .iload_n 1, 1), (28, .if_icmp .eq 8, 3), (31, .iload_n 3, 1), (32, .iload_n 1, 1), (33, .if_icmp .ne 5, 3), (36, .iconst (-1), 1), (37, .ireturn, 1), (38, .iload 4, 2), (40, .lookupswitch 50 #[(0, 28), (1, 39)], 28), (68, .aload 5, 2), (70, .getfield 318, 3), (73, .iload_n 2, 1), (74, .iload_n 3, 1), (75, .invokevirtual 322, 3), (78, .ireturn, 1), (79, .aload 5, 2), (81, .getfield 318, 3), (84, .iload_n 2, 1), (85, .iload_n 3, 1), (86, .invokevirtual 327, 3), (89, .ireturn, 1), (90, .iconst (-1), 1), (91, .ireturn, 1)]
theorem dx_C_route : ∀ p ∈ dt_C_route, decode prog_1_method_21_code p.1 = .ok p.2 := by decide +kernel
theorem d_C_route {k pc : Nat} {i : Instr} {n : Nat} (h : dt_C_route[k]? = some (pc, i, n)) : decode mi_C_route.2.1 pc = .ok (i, n) := dx_C_route (pc, i, n) (List.mem_of_getElem? h)
def q_C_route (t0 : Option Nat) (i1 : Int32) (i2 : Int32) (i3 : Int32) (i4 : Int32) (M : mM) : Option (Int32 × mM) :=
    x_cv M 9 t0 (q_C_stationAt t0 i1 M) fun a1 M =>
    x_nl a1 (
      some ((-1 : Int32), M)
    ) (
      x_cl (q_C_isStation i2 M) fun x2 M =>
      if x2 = 0 then
        some ((-1 : Int32), M)
      else
        x_cl (q_C_isStation i3 M) fun x3 M =>
        if x3 = 0 then
          some ((-1 : Int32), M)
        else
          if i2 = i1 then
            some ((-1 : Int32), M)
          else
            if i3 = i1 then
              some ((-1 : Int32), M)
            else
              x_sw i4 [
                ((0 : Int32), (
                  x_gR M 8 a1 7 fun a4 =>
                  x_cv M 5 a4 (q_T_qualityOf a4 i2 i3 M) fun x5 M =>
                  some (x5, M)
                )),
                ((1 : Int32), (
                  x_gR M 8 a1 7 fun a6 =>
                  x_cv M 5 a6 (q_T_ageOf a6 i2 i3 M) fun x7 M =>
                  some (x7, M)
                ))
              ] (
                some ((-1 : Int32), M)
              )
    )
set_option maxRecDepth 20000 in
theorem v_C_route {E : mE} (t0 : Option Nat) (i1 : Int32) (i2 : Int32) (i3 : Int32) (i4 : Int32) (M : mM) : mVr E mi_C_route 3 0 [some (.inr t0), some (.inl i1), some (.inl i2), some (.inl i3), some (.inl i4), none] [] M enI (q_C_route t0 i1 i2 i3 i4 M) := by
  unfold q_C_route
  refine m_aload_n (d_C_route (k := 0) rfl) rfl ?_
  refine m_iload_n (d_C_route (k := 1) rfl) rfl ?_
  refine m_cvR (c := 9) (vs := [.inl i1]) (st := []) (d_C_route (k := 2) rfl) (s_C_stationAt t0 i1 M) cd_C_stationAt ml_C_106 im_C_stationAt se_C_stationAt rfl (by decide) rfl (Nat.le_of_ble_eq_true rfl) (fun a1 M => ?_)
  refine m_ast (ls' := [some (.inr t0), some (.inl i1), some (.inl i2), some (.inl i3), some (.inl i4), some (.inr a1)]) (d_C_route (k := 3) rfl) (by decide) rfl ?_
  refine m_aload (d_C_route (k := 4) rfl) rfl ?_
  refine m_ifnull (tgt := 36) (d_C_route (k := 5) rfl) rfl ?_ ?_
  · refine m_iconst (v := (-1)) (d_C_route (k := 18) rfl) (by decide) ?_
    exact m_iret (d_C_route (k := 19) rfl) rfl
  · refine m_iload_n (d_C_route (k := 6) rfl) rfl ?_
    refine m_csI (vs := [.inl i2]) (st := []) (d_C_route (k := 7) rfl) (s_C_isStation i2 M) cd_C_isStation ml_C_110 sa_C_isStation (by decide) rfl (Nat.le_of_ble_eq_true rfl) (fun x2 M => ?_)
    refine m_if_eq (tgt := 36) (d_C_route (k := 8) rfl) rfl ?_ ?_
    · refine m_iconst (v := (-1)) (d_C_route (k := 18) rfl) (by decide) ?_
      exact m_iret (d_C_route (k := 19) rfl) rfl
    · refine m_iload_n (d_C_route (k := 9) rfl) rfl ?_
      refine m_csI (vs := [.inl i3]) (st := []) (d_C_route (k := 10) rfl) (s_C_isStation i3 M) cd_C_isStation ml_C_110 sa_C_isStation (by decide) rfl (Nat.le_of_ble_eq_true rfl) (fun x3 M => ?_)
      refine m_if_eq (tgt := 36) (d_C_route (k := 11) rfl) rfl ?_ ?_
      · refine m_iconst (v := (-1)) (d_C_route (k := 18) rfl) (by decide) ?_
        exact m_iret (d_C_route (k := 19) rfl) rfl
      · refine m_iload_n (d_C_route (k := 12) rfl) rfl ?_
        refine m_iload_n (d_C_route (k := 13) rfl) rfl ?_
        refine m_icmp_eq (tgt := 36) (d_C_route (k := 14) rfl) rfl ?_ ?_
        · refine m_iconst (v := (-1)) (d_C_route (k := 18) rfl) (by decide) ?_
          exact m_iret (d_C_route (k := 19) rfl) rfl
        · refine m_iload_n (d_C_route (k := 15) rfl) rfl ?_
          refine m_iload_n (d_C_route (k := 16) rfl) rfl ?_
          refine m_icmp_ne (tgt := 38) (d_C_route (k := 17) rfl) rfl ?_ ?_
          · refine m_iconst (v := (-1)) (d_C_route (k := 18) rfl) (by decide) ?_
            exact m_iret (d_C_route (k := 19) rfl) rfl
          · refine m_iload (d_C_route (k := 20) rfl) rfl ?_
            refine m_sw ?_ (fun hx => ?_)
            ·
              refine List.forall_mem_cons.mpr ⟨?_, ?_⟩
              · dsimp only
                refine m_lin (x := (0 : Int32)) (off := 28) (tgt := 68) (d_C_route (k := 21) rfl) (by decide) (by decide) rfl ?_
                refine m_aload (d_C_route (k := 22) rfl) rfl ?_
                refine m_getR (d_C_route (k := 23) rfl) fl_C_318 rfl (fun a4 => ?_)
                refine m_iload_n (d_C_route (k := 24) rfl) rfl ?_
                refine m_iload_n (d_C_route (k := 25) rfl) rfl ?_
                refine m_cvI (c := 5) (vs := [.inl i2, .inl i3]) (st := []) (d_C_route (k := 26) rfl) (s_T_qualityOf a4 i2 i3 M) cd_T_qualityOf ml_C_322 im_T_qualityOf se_T_qualityOf rfl (by decide) rfl (Nat.le_of_ble_eq_true rfl) (fun x5 M => ?_)
                exact m_iret (d_C_route (k := 27) rfl) rfl
              refine List.forall_mem_cons.mpr ⟨?_, ?_⟩
              · dsimp only
                refine m_lin (x := (1 : Int32)) (off := 39) (tgt := 79) (d_C_route (k := 21) rfl) (by decide) (by decide) rfl ?_
                refine m_aload (d_C_route (k := 28) rfl) rfl ?_
                refine m_getR (d_C_route (k := 29) rfl) fl_C_318 rfl (fun a6 => ?_)
                refine m_iload_n (d_C_route (k := 30) rfl) rfl ?_
                refine m_iload_n (d_C_route (k := 31) rfl) rfl ?_
                refine m_cvI (c := 5) (vs := [.inl i2, .inl i3]) (st := []) (d_C_route (k := 32) rfl) (s_T_ageOf a6 i2 i3 M) cd_T_ageOf ml_C_327 im_T_ageOf se_T_ageOf rfl (by decide) rfl (Nat.le_of_ble_eq_true rfl) (fun x7 M => ?_)
                exact m_iret (d_C_route (k := 33) rfl) rfl
              exact fun _ h => absurd h List.not_mem_nil
            · refine m_lout (ks := [0, 1]) (tgt := 90) (d_C_route (k := 21) rfl) (by decide) (m_ks hx) (by decide) rfl ?_
              refine m_iconst (v := (-1)) (d_C_route (k := 34) rfl) (by decide) ?_
              exact m_iret (d_C_route (k := 35) rfl) rfl
theorem s_C_route {E : mE} (t0 : Option Nat) (i1 : Int32) (i2 : Int32) (i3 : Int32) (i4 : Int32) (M : mM) : mSnd E mi_C_route 3 [.inr t0, .inl i1, .inl i2, .inl i3, .inl i4] M enI (q_C_route t0 i1 i2 i3 i4 M) := m_entryI (by decide) (Nat.le_of_ble_eq_true rfl) rfl (m_drop (mles_s (mles_s (mles_s (mles_s (mles_s (mles_e mles_0)))))) (v_C_route t0 i1 i2 i3 i4 M))
def dt_C_waitOrDraw : List (Nat × Instr × Nat) := [(0, .aload_n 0, 1), (1, .getfield 270, 3), (4, .ifCond .le 14, 3), (7, .aload_n 0, 1), (8, .dup, 1), (9, .getfield 270, 3), (12, .iconst 1, 1), (13, .isub, 1), (14, .putfield 270, 3), (17, .return_, 1), (18, .aload_n 0, 1), (19, .getfield 120, 3), (22, .iconst 3, 1), (23, .iaload, 1), (24, .ldc_w 352, 3), (27, .imul, 1), (28, .sipush 12345, 3), (31, .iadd, 1), (32, .istore_n 1, 1), (33, .aload_n 0, 1), (34, .getfield 120, 3), (37, .iconst 3, 1), (38, .iload_n 1, 1), (39, .iastore, 1), (40, .iload_n 1, 1), (41, .bipush 24, 2), (43, .iushr, 1), (44, .aload_n 0, 1), (45, .getfield 120, 3), (48, .iconst 0, 1), (49, .iaload, 1), (50, .if_icmp .ge 35, 3), (53, .aload_n 0, 1), (54, .getfield 257, 3), (57, .iconst 1, 1), (58, .putfield 260, 3), (61, .aload_n 0, 1), (62, .getfield 257, 3), (65, .iconst 0, 1), (66, .putfield 353, 3), (69, .aload_n 0, 1), (70, .getfield 257, 3), (73, .aload_n 0, 1), (74, .getfield 120, 3), (77, .iconst 2, 1), (78, .iaload, 1), (79, .invokevirtual 82, 3), (82, .goto 13, 3), (85, .aload_n 0, 1), (86, .aload_n 0, 1), (87, .getfield 120, 3), (90, .iconst 1, 1), (91, .iaload, 1), (92, .putfield 270, 3), (95, .return_, 1)]
theorem dx_C_waitOrDraw : ∀ p ∈ dt_C_waitOrDraw, decode prog_1_method_34_code p.1 = .ok p.2 := by decide +kernel
theorem d_C_waitOrDraw {k pc : Nat} {i : Instr} {n : Nat} (h : dt_C_waitOrDraw[k]? = some (pc, i, n)) : decode mi_C_waitOrDraw.2.1 pc = .ok (i, n) := dx_C_waitOrDraw (pc, i, n) (List.mem_of_getElem? h)
def q_C_waitOrDraw (t0 : Option Nat) (M : mM) : Option (Unit × mM) :=
    x_gI M 8 t0 9 fun x1 =>
    if 0 < x1 then
      x_gI M 8 t0 9 fun x2 =>
      x_pI M 8 t0 9 (x2 - (1 : Int32)) fun M =>
      some ((), M)
    else
      x_gR M 8 t0 1 fun a3 =>
      x_aI M 0 a3 (3 : Int32) fun x4 =>
      x_lt ((x4 * (1103515245 : Int32)) + (12345 : Int32)) fun x5 =>
      x_gR M 8 t0 1 fun a6 =>
      x_wI M a6 (3 : Int32) x5 fun M =>
      x_gR M 8 t0 1 fun a7 =>
      x_aI M 0 a7 (0 : Int32) fun x8 =>
      if (mush x5 (24 : Int32)) < x8 then
        x_gR M 8 t0 2 fun a9 =>
        x_pZ M 7 a9 5 (1 : Int32) fun M =>
        x_gR M 8 t0 2 fun a10 =>
        x_pI M 7 a10 6 (0 : Int32) fun M =>
        x_gR M 8 t0 2 fun a11 =>
        x_gR M 8 t0 1 fun a12 =>
        x_aI M 0 a12 (2 : Int32) fun x13 =>
        x_cv M 7 a11 (q_S_startFlags a11 x13 M) fun _ M =>
        some ((), M)
      else
        x_gR M 8 t0 1 fun a14 =>
        x_aI M 0 a14 (1 : Int32) fun x15 =>
        x_pI M 8 t0 9 x15 fun M =>
        some ((), M)
set_option maxRecDepth 20000 in
theorem v_C_waitOrDraw {E : mE} (t0 : Option Nat) (M : mM) : mVr E mi_C_waitOrDraw 2 0 [some (.inr t0), none] [] M enU (q_C_waitOrDraw t0 M) := by
  unfold q_C_waitOrDraw
  refine m_aload_n (d_C_waitOrDraw (k := 0) rfl) rfl ?_
  refine m_getI (d_C_waitOrDraw (k := 1) rfl) fl_C_270 rfl (fun x1 => ?_)
  refine m_if_le (tgt := 18) (d_C_waitOrDraw (k := 2) rfl) rfl ?_ ?_
  · refine m_aload_n (d_C_waitOrDraw (k := 3) rfl) rfl ?_
    refine m_dup (d_C_waitOrDraw (k := 4) rfl) ?_
    refine m_getI (d_C_waitOrDraw (k := 5) rfl) fl_C_270 rfl (fun x2 => ?_)
    refine m_iconst (v := 1) (d_C_waitOrDraw (k := 6) rfl) (by decide) ?_
    refine m_isub (d_C_waitOrDraw (k := 7) rfl) ?_
    refine m_pI (d_C_waitOrDraw (k := 8) rfl) fp_C_270 (fun h => absurd h (by decide)) rfl (fun M => ?_)
    exact m_vret (d_C_waitOrDraw (k := 9) rfl) rfl
  · refine m_aload_n (d_C_waitOrDraw (k := 10) rfl) rfl ?_
    refine m_getR (d_C_waitOrDraw (k := 11) rfl) fl_C_120 rfl (fun a3 => ?_)
    refine m_iconst (v := 3) (d_C_waitOrDraw (k := 12) rfl) (by decide) ?_
    refine m_iald (d_C_waitOrDraw (k := 13) rfl) (fun x4 => ?_)
    refine m_ldcw (d_C_waitOrDraw (k := 14) rfl) ct_C_352 ?_
    refine m_imul (d_C_waitOrDraw (k := 15) rfl) ?_
    refine m_sipush (v := 12345) (d_C_waitOrDraw (k := 16) rfl) (by decide) ?_
    refine m_iadd (d_C_waitOrDraw (k := 17) rfl) ?_
    refine m_lt (fun x5 => ?_)
    refine m_ist_n (ls' := [some (.inr t0), some (.inl x5)]) (d_C_waitOrDraw (k := 18) rfl) (by decide) rfl ?_
    refine m_aload_n (d_C_waitOrDraw (k := 19) rfl) rfl ?_
    refine m_getR (d_C_waitOrDraw (k := 20) rfl) fl_C_120 rfl (fun a6 => ?_)
    refine m_iconst (v := 3) (d_C_waitOrDraw (k := 21) rfl) (by decide) ?_
    refine m_iload_n (d_C_waitOrDraw (k := 22) rfl) rfl ?_
    refine m_iast (d_C_waitOrDraw (k := 23) rfl) (fun M => ?_)
    refine m_iload_n (d_C_waitOrDraw (k := 24) rfl) rfl ?_
    refine m_bipush (v := 24) (d_C_waitOrDraw (k := 25) rfl) (by decide) ?_
    refine m_iushr (d_C_waitOrDraw (k := 26) rfl) ?_
    refine m_aload_n (d_C_waitOrDraw (k := 27) rfl) rfl ?_
    refine m_getR (d_C_waitOrDraw (k := 28) rfl) fl_C_120 rfl (fun a7 => ?_)
    refine m_iconst (v := 0) (d_C_waitOrDraw (k := 29) rfl) (by decide) ?_
    refine m_iald (d_C_waitOrDraw (k := 30) rfl) (fun x8 => ?_)
    refine m_icmp_ge (tgt := 85) (d_C_waitOrDraw (k := 31) rfl) rfl ?_ ?_
    · refine m_aload_n (d_C_waitOrDraw (k := 32) rfl) rfl ?_
      refine m_getR (d_C_waitOrDraw (k := 33) rfl) fl_C_257 rfl (fun a9 => ?_)
      refine m_iconst (v := 1) (d_C_waitOrDraw (k := 34) rfl) (by decide) ?_
      refine m_pZ (d_C_waitOrDraw (k := 35) rfl) fp_C_260 (fun h => absurd h (by decide)) rfl (fun M => ?_)
      refine m_aload_n (d_C_waitOrDraw (k := 36) rfl) rfl ?_
      refine m_getR (d_C_waitOrDraw (k := 37) rfl) fl_C_257 rfl (fun a10 => ?_)
      refine m_iconst (v := 0) (d_C_waitOrDraw (k := 38) rfl) (by decide) ?_
      refine m_pI (d_C_waitOrDraw (k := 39) rfl) fp_C_353 (fun h => absurd h (by decide)) rfl (fun M => ?_)
      refine m_aload_n (d_C_waitOrDraw (k := 40) rfl) rfl ?_
      refine m_getR (d_C_waitOrDraw (k := 41) rfl) fl_C_257 rfl (fun a11 => ?_)
      refine m_aload_n (d_C_waitOrDraw (k := 42) rfl) rfl ?_
      refine m_getR (d_C_waitOrDraw (k := 43) rfl) fl_C_120 rfl (fun a12 => ?_)
      refine m_iconst (v := 2) (d_C_waitOrDraw (k := 44) rfl) (by decide) ?_
      refine m_iald (d_C_waitOrDraw (k := 45) rfl) (fun x13 => ?_)
      refine m_cvU (c := 7) (vs := [.inl x13]) (st := []) (d_C_waitOrDraw (k := 46) rfl) (s_S_startFlags a11 x13 M) cd_S_startFlags ml_C_82 im_S_startFlags se_S_startFlags rfl (by decide) rfl (Nat.le_of_ble_eq_true rfl) (fun _ M => ?_)
      refine m_goto (tgt := 95) (d_C_waitOrDraw (k := 47) rfl) rfl ?_
      exact m_vret (d_C_waitOrDraw (k := 54) rfl) rfl
    · refine m_aload_n (d_C_waitOrDraw (k := 48) rfl) rfl ?_
      refine m_aload_n (d_C_waitOrDraw (k := 49) rfl) rfl ?_
      refine m_getR (d_C_waitOrDraw (k := 50) rfl) fl_C_120 rfl (fun a14 => ?_)
      refine m_iconst (v := 1) (d_C_waitOrDraw (k := 51) rfl) (by decide) ?_
      refine m_iald (d_C_waitOrDraw (k := 52) rfl) (fun x15 => ?_)
      refine m_pI (d_C_waitOrDraw (k := 53) rfl) fp_C_270 (fun h => absurd h (by decide)) rfl (fun M => ?_)
      exact m_vret (d_C_waitOrDraw (k := 54) rfl) rfl
theorem s_C_waitOrDraw {E : mE} (t0 : Option Nat) (M : mM) : mSnd E mi_C_waitOrDraw 2 [.inr t0] M enU (q_C_waitOrDraw t0 M) := m_entryU (by decide) (Nat.le_of_ble_eq_true rfl) rfl (m_drop (mles_s (mles_e mles_0)) (v_C_waitOrDraw t0 M))
def dt_C_drawForChannel : List (Nat × Instr × Nat) := [(0, .iconst 0, 1), (1, .istore_n 1, 1), (2, .iload_n 1, 1), (3, .bipush 6, 2), (5, .if_icmp .ge 47, 3), (8, .aload_n 0, 1), (9, .getfield 11, 3), (12, .iload_n 1, 1), (13, .aaload, 1), (14, .astore_n 2, 1), (15, .aload_n 2, 1), (16, .getfield 124, 3), (19, .getfield 264, 3), (22, .ifCond .le 24, 3), (25, .aload_n 2, 1), (26, .getfield 257, 3), (29, .getfield 260, 3), (32, .ifCond .ne 14, 3), (35, .aload_n 2, 1), (36, .getfield 267, 3), (39, .ifCond .ne 7, 3), (42, .aload_n 2, 1), (43, .invokestatic 349, 3), (46, .iinc 1 1, 3), (49, .goto (-47), 3), (52, .return_, 1)]
theorem dx_C_drawForChannel : ∀ p ∈ dt_C_drawForChannel, decode prog_1_method_33_code p.1 = .ok p.2 := by decide +kernel
theorem d_C_drawForChannel {k pc : Nat} {i : Instr} {n : Nat} (h : dt_C_drawForChannel[k]? = some (pc, i, n)) : decode mi_C_drawForChannel.2.1 pc = .ok (i, n) := dx_C_drawForChannel (pc, i, n) (List.mem_of_getElem? h)
def q_C_drawForChannel_46 (r2 : Option Nat → Int32 → mM → Option (Unit × mM)) (t0 : Option Nat) (i1 : Int32) (M : mM) : Option (Unit × mM) :=
    r2 t0 (i1 + 1) M
set_option maxRecDepth 20000 in
theorem v_C_drawForChannel_46 {E : mE} (r2 : Option Nat → Int32 → mM → Option (Unit × mM)) (h2 : ∀ (t0 : Option Nat) (i1 : Int32) (M : mM), mVr E mi_C_drawForChannel 3 2 [some (.inr t0), some (.inl i1), none] [] M enU (r2 t0 i1 M)) (t0 : Option Nat) (i1 : Int32) (M : mM) : mVr E mi_C_drawForChannel 3 46 [some (.inr t0), some (.inl i1), none] [] M enU (q_C_drawForChannel_46 r2 t0 i1 M) := by
  unfold q_C_drawForChannel_46
  refine m_inc (v := 1) (ls' := [some (.inr t0), some (.inl (i1 + 1)), none]) (d_C_drawForChannel (k := 23) rfl) rfl (by decide) (by decide) rfl ?_
  refine m_goto (tgt := 2) (d_C_drawForChannel (k := 24) rfl) rfl ?_
  exact m_drop (mles_s (mles_s (mles_n mles_0))) (h2 t0 (i1 + 1) M)
def q_C_drawForChannel_2_b (r2 : Option Nat → Int32 → mM → Option (Unit × mM)) (t0 : Option Nat) (i1 : Int32) (M : mM) : Option (Unit × mM) :=
    if i1 < (6 : Int32) then
      x_gR M 9 t0 0 fun a1 =>
      x_aR M 2 a1 i1 fun a2 =>
      x_gR M 8 a2 4 fun a3 =>
      x_gI M 6 a3 2 fun x4 =>
      if 0 < x4 then
        x_gR M 8 a2 2 fun a5 =>
        x_gI M 7 a5 5 fun x6 =>
        if x6 = 0 then
          x_gI M 8 a2 10 fun x7 =>
          if x7 = 0 then
            x_cl (q_C_waitOrDraw a2 M) fun _ M =>
            q_C_drawForChannel_46 r2 t0 i1 M
          else
            q_C_drawForChannel_46 r2 t0 i1 M
        else
          q_C_drawForChannel_46 r2 t0 i1 M
      else
        q_C_drawForChannel_46 r2 t0 i1 M
    else
      some ((), M)
def q_C_drawForChannel_2 : Nat → Option Nat → Int32 → mM → Option (Unit × mM)
  | 0, _, _, _ => none
  | n + 1, t0, i1, M => q_C_drawForChannel_2_b (q_C_drawForChannel_2 n) t0 i1 M
set_option maxRecDepth 20000 in
theorem v_C_drawForChannel_2_b {E : mE} (r2 : Option Nat → Int32 → mM → Option (Unit × mM)) (h2 : ∀ (t0 : Option Nat) (i1 : Int32) (M : mM), mVr E mi_C_drawForChannel 3 2 [some (.inr t0), some (.inl i1), none] [] M enU (r2 t0 i1 M)) (t0 : Option Nat) (i1 : Int32) (M : mM) : mVr E mi_C_drawForChannel 3 2 [some (.inr t0), some (.inl i1), none] [] M enU (q_C_drawForChannel_2_b r2 t0 i1 M) := by
  unfold q_C_drawForChannel_2_b
  refine m_iload_n (d_C_drawForChannel (k := 2) rfl) rfl ?_
  refine m_bipush (v := 6) (d_C_drawForChannel (k := 3) rfl) (by decide) ?_
  refine m_icmp_ge (tgt := 52) (d_C_drawForChannel (k := 4) rfl) rfl ?_ ?_
  · refine m_aload_n (d_C_drawForChannel (k := 5) rfl) rfl ?_
    refine m_getR (d_C_drawForChannel (k := 6) rfl) fl_C_11 rfl (fun a1 => ?_)
    refine m_iload_n (d_C_drawForChannel (k := 7) rfl) rfl ?_
    refine m_aald (t := 2) (d_C_drawForChannel (k := 8) rfl) rfl (fun a2 => ?_)
    refine m_ast_n (ls' := [some (.inr t0), some (.inl i1), some (.inr a2)]) (d_C_drawForChannel (k := 9) rfl) (by decide) rfl ?_
    refine m_aload_n (d_C_drawForChannel (k := 10) rfl) rfl ?_
    refine m_getR (d_C_drawForChannel (k := 11) rfl) fl_C_124 rfl (fun a3 => ?_)
    refine m_getI (d_C_drawForChannel (k := 12) rfl) fl_C_264 rfl (fun x4 => ?_)
    refine m_if_le (tgt := 46) (d_C_drawForChannel (k := 13) rfl) rfl ?_ ?_
    · refine m_aload_n (d_C_drawForChannel (k := 14) rfl) rfl ?_
      refine m_getR (d_C_drawForChannel (k := 15) rfl) fl_C_257 rfl (fun a5 => ?_)
      refine m_getI (d_C_drawForChannel (k := 16) rfl) fl_C_260 rfl (fun x6 => ?_)
      refine m_if_ne (tgt := 46) (d_C_drawForChannel (k := 17) rfl) rfl ?_ ?_
      · refine m_aload_n (d_C_drawForChannel (k := 18) rfl) rfl ?_
        refine m_getI (d_C_drawForChannel (k := 19) rfl) fl_C_267 rfl (fun x7 => ?_)
        refine m_if_ne (tgt := 46) (d_C_drawForChannel (k := 20) rfl) rfl ?_ ?_
        · refine m_aload_n (d_C_drawForChannel (k := 21) rfl) rfl ?_
          refine m_csU (vs := [.inr a2]) (st := []) (d_C_drawForChannel (k := 22) rfl) (s_C_waitOrDraw a2 M) cd_C_waitOrDraw ml_C_349 sa_C_waitOrDraw (by decide) rfl (Nat.le_of_ble_eq_true rfl) (fun _ M => ?_)
          exact m_drop (mles_s (mles_s (mles_n mles_0))) (v_C_drawForChannel_46 r2 h2 t0 i1 M)
        · exact m_drop (mles_s (mles_s (mles_n mles_0))) (v_C_drawForChannel_46 r2 h2 t0 i1 M)
      · exact m_drop (mles_s (mles_s (mles_n mles_0))) (v_C_drawForChannel_46 r2 h2 t0 i1 M)
    · exact m_drop (mles_s (mles_s (mles_n mles_0))) (v_C_drawForChannel_46 r2 h2 t0 i1 M)
  · exact m_vret (d_C_drawForChannel (k := 25) rfl) rfl
theorem v_C_drawForChannel_2 {E : mE} : ∀ (n : Nat) (t0 : Option Nat) (i1 : Int32) (M : mM), mVr E mi_C_drawForChannel 3 2 [some (.inr t0), some (.inl i1), none] [] M enU (q_C_drawForChannel_2 n t0 i1 M)
  | 0, _, _, _ => m_none
  | n + 1, t0, i1, M => v_C_drawForChannel_2_b _ (v_C_drawForChannel_2 n) t0 i1 M
def q_C_drawForChannel (t0 : Option Nat) (M : mM) : Option (Unit × mM) :=
    q_C_drawForChannel_2 mFU t0 (0 : Int32) M
set_option maxRecDepth 20000 in
theorem v_C_drawForChannel {E : mE} (t0 : Option Nat) (M : mM) : mVr E mi_C_drawForChannel 3 0 [some (.inr t0), none, none] [] M enU (q_C_drawForChannel t0 M) := by
  unfold q_C_drawForChannel
  refine m_iconst (v := 0) (d_C_drawForChannel (k := 0) rfl) (by decide) ?_
  refine m_ist_n (ls' := [some (.inr t0), some (.inl (0 : Int32)), none]) (d_C_drawForChannel (k := 1) rfl) (by decide) rfl ?_
  exact m_drop (mles_s (mles_s (mles_n mles_0))) (v_C_drawForChannel_2 mFU t0 (0 : Int32) M)
theorem s_C_drawForChannel {E : mE} (t0 : Option Nat) (M : mM) : mSnd E mi_C_drawForChannel 3 [.inr t0] M enU (q_C_drawForChannel t0 M) := m_entryU (by decide) (Nat.le_of_ble_eq_true rfl) rfl (m_drop (mles_s (mles_e (mles_e mles_0))) (v_C_drawForChannel t0 M))
def dt_S_hasSent : List (Nat × Instr × Nat) := [(0, .aload_n 0, 1), (1, .getfield 14, 3), (4, .getfield 36, 3), (7, .aload_n 1, 1), (8, .getfield 36, 3), (11, .iconst 2, 1), (12, .iadd, 1), (13, .if_icmp .eq 5, 3), (16, .iconst 0, 1), (17, .ireturn, 1), (18, .iconst 0, 1), (19, .istore_n 2, 1), (20, .iload_n 2, 1), (21, .aload_n 1, 1), (22, .getfield 36, 3), (25, .if_icmp .ge 27, 3), (28, .aload_n 0, 1), (29, .getfield 14, 3), (32, .iload_n 2, 1), (33, .invokevirtual 57, 3), (36, .aload_n 1, 1), (37, .iload_n 2, 1), (38, .invokevirtual 57, 3), (41, .if_icmp .eq 5, 3), (44, .iconst 0, 1), (45, .ireturn, 1), (46, .iinc 2 1, 3), (49, .goto (-29), 3), (52, .iconst 1, 1), (53, .ireturn, 1)]
theorem dx_S_hasSent : ∀ p ∈ dt_S_hasSent, decode prog_9_method_8_code p.1 = .ok p.2 := by decide +kernel
theorem d_S_hasSent {k pc : Nat} {i : Instr} {n : Nat} (h : dt_S_hasSent[k]? = some (pc, i, n)) : decode mi_S_hasSent.2.1 pc = .ok (i, n) := dx_S_hasSent (pc, i, n) (List.mem_of_getElem? h)
def q_S_hasSent_20_b (r20 : Option Nat → Option Nat → Int32 → mM → Option (Int32 × mM)) (t0 : Option Nat) (t1 : Option Nat) (i2 : Int32) (M : mM) : Option (Int32 × mM) :=
    x_gI M 0 t1 1 fun x1 =>
    if i2 < x1 then
      x_gR M 7 t0 0 fun a2 =>
      x_cv M 0 a2 (q_B_at a2 i2 M) fun x3 M =>
      x_cv M 0 t1 (q_B_at t1 i2 M) fun x4 M =>
      if x3 = x4 then
        r20 t0 t1 (i2 + 1) M
      else
        x_rz (0 : Int32) M
    else
      x_rz (1 : Int32) M
def q_S_hasSent_20 : Nat → Option Nat → Option Nat → Int32 → mM → Option (Int32 × mM)
  | 0, _, _, _, _ => none
  | n + 1, t0, t1, i2, M => q_S_hasSent_20_b (q_S_hasSent_20 n) t0 t1 i2 M
set_option maxRecDepth 20000 in
theorem v_S_hasSent_20_b {E : mE} (r20 : Option Nat → Option Nat → Int32 → mM → Option (Int32 × mM)) (h20 : ∀ (t0 : Option Nat) (t1 : Option Nat) (i2 : Int32) (M : mM), mVr E mi_S_hasSent 1 20 [some (.inr t0), some (.inr t1), some (.inl i2)] [] M enI (r20 t0 t1 i2 M)) (t0 : Option Nat) (t1 : Option Nat) (i2 : Int32) (M : mM) : mVr E mi_S_hasSent 1 20 [some (.inr t0), some (.inr t1), some (.inl i2)] [] M enI (q_S_hasSent_20_b r20 t0 t1 i2 M) := by
  unfold q_S_hasSent_20_b
  refine m_iload_n (d_S_hasSent (k := 12) rfl) rfl ?_
  refine m_aload_n (d_S_hasSent (k := 13) rfl) rfl ?_
  refine m_getI (d_S_hasSent (k := 14) rfl) fl_S_36 rfl (fun x1 => ?_)
  refine m_icmp_ge (tgt := 52) (d_S_hasSent (k := 15) rfl) rfl ?_ ?_
  · refine m_aload_n (d_S_hasSent (k := 16) rfl) rfl ?_
    refine m_getR (d_S_hasSent (k := 17) rfl) fl_S_14 rfl (fun a2 => ?_)
    refine m_iload_n (d_S_hasSent (k := 18) rfl) rfl ?_
    refine m_cvI (c := 0) (vs := [.inl i2]) (st := []) (d_S_hasSent (k := 19) rfl) (s_B_at a2 i2 M) cd_B_at ml_S_57 im_B_at se_B_at rfl (by decide) rfl (Nat.le_of_ble_eq_true rfl) (fun x3 M => ?_)
    refine m_aload_n (d_S_hasSent (k := 20) rfl) rfl ?_
    refine m_iload_n (d_S_hasSent (k := 21) rfl) rfl ?_
    refine m_cvI (c := 0) (vs := [.inl i2]) (st := [.inl x3]) (d_S_hasSent (k := 22) rfl) (s_B_at t1 i2 M) cd_B_at ml_S_57 im_B_at se_B_at rfl (by decide) rfl (Nat.le_of_ble_eq_true rfl) (fun x4 M => ?_)
    refine m_icmp_eq (tgt := 46) (d_S_hasSent (k := 23) rfl) rfl ?_ ?_
    · refine m_inc (v := 1) (ls' := [some (.inr t0), some (.inr t1), some (.inl (i2 + 1))]) (d_S_hasSent (k := 26) rfl) rfl (by decide) (by decide) rfl ?_
      refine m_goto (tgt := 20) (d_S_hasSent (k := 27) rfl) rfl ?_
      exact m_drop (mles_s (mles_s (mles_s mles_0))) (h20 t0 t1 (i2 + 1) M)
    · refine m_iconst (v := 0) (d_S_hasSent (k := 24) rfl) (by decide) ?_
      exact m_zret (d_S_hasSent (k := 25) rfl) rfl
  · refine m_iconst (v := 1) (d_S_hasSent (k := 28) rfl) (by decide) ?_
    exact m_zret (d_S_hasSent (k := 29) rfl) rfl
theorem v_S_hasSent_20 {E : mE} : ∀ (n : Nat) (t0 : Option Nat) (t1 : Option Nat) (i2 : Int32) (M : mM), mVr E mi_S_hasSent 1 20 [some (.inr t0), some (.inr t1), some (.inl i2)] [] M enI (q_S_hasSent_20 n t0 t1 i2 M)
  | 0, _, _, _, _ => m_none
  | n + 1, t0, t1, i2, M => v_S_hasSent_20_b _ (v_S_hasSent_20 n) t0 t1 i2 M
def q_S_hasSent (t0 : Option Nat) (t1 : Option Nat) (M : mM) : Option (Int32 × mM) :=
    x_gR M 7 t0 0 fun a1 =>
    x_gI M 0 a1 1 fun x2 =>
    x_gI M 0 t1 1 fun x3 =>
    if x2 = (x3 + (2 : Int32)) then
      q_S_hasSent_20 mFU t0 t1 (0 : Int32) M
    else
      x_rz (0 : Int32) M
set_option maxRecDepth 20000 in
theorem v_S_hasSent {E : mE} (t0 : Option Nat) (t1 : Option Nat) (M : mM) : mVr E mi_S_hasSent 1 0 [some (.inr t0), some (.inr t1), none] [] M enI (q_S_hasSent t0 t1 M) := by
  unfold q_S_hasSent
  refine m_aload_n (d_S_hasSent (k := 0) rfl) rfl ?_
  refine m_getR (d_S_hasSent (k := 1) rfl) fl_S_14 rfl (fun a1 => ?_)
  refine m_getI (d_S_hasSent (k := 2) rfl) fl_S_36 rfl (fun x2 => ?_)
  refine m_aload_n (d_S_hasSent (k := 3) rfl) rfl ?_
  refine m_getI (d_S_hasSent (k := 4) rfl) fl_S_36 rfl (fun x3 => ?_)
  refine m_iconst (v := 2) (d_S_hasSent (k := 5) rfl) (by decide) ?_
  refine m_iadd (d_S_hasSent (k := 6) rfl) ?_
  refine m_icmp_eq (tgt := 18) (d_S_hasSent (k := 7) rfl) rfl ?_ ?_
  · refine m_iconst (v := 0) (d_S_hasSent (k := 10) rfl) (by decide) ?_
    refine m_ist_n (ls' := [some (.inr t0), some (.inr t1), some (.inl (0 : Int32))]) (d_S_hasSent (k := 11) rfl) (by decide) rfl ?_
    exact m_drop (mles_s (mles_s (mles_s mles_0))) (v_S_hasSent_20 mFU t0 t1 (0 : Int32) M)
  · refine m_iconst (v := 0) (d_S_hasSent (k := 8) rfl) (by decide) ?_
    exact m_zret (d_S_hasSent (k := 9) rfl) rfl
theorem s_S_hasSent {E : mE} (t0 : Option Nat) (t1 : Option Nat) (M : mM) : mSnd E mi_S_hasSent 1 [.inr t0, .inr t1] M enI (q_S_hasSent t0 t1 M) := m_entryZ (by decide) (Nat.le_of_ble_eq_true rfl) rfl (m_drop (mles_s (mles_s (mles_e mles_0))) (v_S_hasSent t0 t1 M))
def dt_C_isStray : List (Nat × Instr × Nat) := [(0, .iconst 0, 1), (1, .istore_n 3, 1), (2, .iload_n 3, 1), (3, .bipush 6, 2), (5, .if_icmp .ge 35, 3), (8, .iload_n 2, 1), (9, .iload_n 3, 1), (10, .ishr, 1), (11, .iconst 1, 1), (12, .iand, 1), (13, .ifCond .eq 21, 3), (16, .aload_n 0, 1), (17, .getfield 11, 3), (20, .iload_n 3, 1), (21, .aaload, 1), (22, .getfield 257, 3), (25, .aload_n 1, 1), (26, .invokevirtual 393, 3), (29, .ifCond .eq 5, 3), (32, .iconst 0, 1), (33, .ireturn, 1), (34, .iinc 3 1, 3), (37, .goto (-35), 3), (40, .iconst 1, 1), (41, .ireturn, 1)]
theorem dx_C_isStray : ∀ p ∈ dt_C_isStray, decode prog_1_method_40_code p.1 = .ok p.2 := by decide +kernel
theorem d_C_isStray {k pc : Nat} {i : Instr} {n : Nat} (h : dt_C_isStray[k]? = some (pc, i, n)) : decode mi_C_isStray.2.1 pc = .ok (i, n) := dx_C_isStray (pc, i, n) (List.mem_of_getElem? h)
def q_C_isStray_34 (r2 : Option Nat → Option Nat → Int32 → Int32 → mM → Option (Int32 × mM)) (t0 : Option Nat) (t1 : Option Nat) (i2 : Int32) (i3 : Int32) (M : mM) : Option (Int32 × mM) :=
    r2 t0 t1 i2 (i3 + 1) M
set_option maxRecDepth 20000 in
theorem v_C_isStray_34 {E : mE} (r2 : Option Nat → Option Nat → Int32 → Int32 → mM → Option (Int32 × mM)) (h2 : ∀ (t0 : Option Nat) (t1 : Option Nat) (i2 : Int32) (i3 : Int32) (M : mM), mVr E mi_C_isStray 2 2 [some (.inr t0), some (.inr t1), some (.inl i2), some (.inl i3)] [] M enI (r2 t0 t1 i2 i3 M)) (t0 : Option Nat) (t1 : Option Nat) (i2 : Int32) (i3 : Int32) (M : mM) : mVr E mi_C_isStray 2 34 [some (.inr t0), some (.inr t1), some (.inl i2), some (.inl i3)] [] M enI (q_C_isStray_34 r2 t0 t1 i2 i3 M) := by
  unfold q_C_isStray_34
  refine m_inc (v := 1) (ls' := [some (.inr t0), some (.inr t1), some (.inl i2), some (.inl (i3 + 1))]) (d_C_isStray (k := 21) rfl) rfl (by decide) (by decide) rfl ?_
  refine m_goto (tgt := 2) (d_C_isStray (k := 22) rfl) rfl ?_
  exact m_drop (mles_s (mles_s (mles_s (mles_s mles_0)))) (h2 t0 t1 i2 (i3 + 1) M)
def q_C_isStray_2_b (r2 : Option Nat → Option Nat → Int32 → Int32 → mM → Option (Int32 × mM)) (t0 : Option Nat) (t1 : Option Nat) (i2 : Int32) (i3 : Int32) (M : mM) : Option (Int32 × mM) :=
    if i3 < (6 : Int32) then
      if ((i2 >>> (i3 &&& 31)) &&& (1 : Int32)) = 0 then
        q_C_isStray_34 r2 t0 t1 i2 i3 M
      else
        x_gR M 9 t0 0 fun a1 =>
        x_aR M 2 a1 i3 fun a2 =>
        x_gR M 8 a2 2 fun a3 =>
        x_cv M 7 a3 (q_S_hasSent a3 t1 M) fun x4 M =>
        if x4 = 0 then
          q_C_isStray_34 r2 t0 t1 i2 i3 M
        else
          x_rz (0 : Int32) M
    else
      x_rz (1 : Int32) M
def q_C_isStray_2 : Nat → Option Nat → Option Nat → Int32 → Int32 → mM → Option (Int32 × mM)
  | 0, _, _, _, _, _ => none
  | n + 1, t0, t1, i2, i3, M => q_C_isStray_2_b (q_C_isStray_2 n) t0 t1 i2 i3 M
set_option maxRecDepth 20000 in
theorem v_C_isStray_2_b {E : mE} (r2 : Option Nat → Option Nat → Int32 → Int32 → mM → Option (Int32 × mM)) (h2 : ∀ (t0 : Option Nat) (t1 : Option Nat) (i2 : Int32) (i3 : Int32) (M : mM), mVr E mi_C_isStray 2 2 [some (.inr t0), some (.inr t1), some (.inl i2), some (.inl i3)] [] M enI (r2 t0 t1 i2 i3 M)) (t0 : Option Nat) (t1 : Option Nat) (i2 : Int32) (i3 : Int32) (M : mM) : mVr E mi_C_isStray 2 2 [some (.inr t0), some (.inr t1), some (.inl i2), some (.inl i3)] [] M enI (q_C_isStray_2_b r2 t0 t1 i2 i3 M) := by
  unfold q_C_isStray_2_b
  refine m_iload_n (d_C_isStray (k := 2) rfl) rfl ?_
  refine m_bipush (v := 6) (d_C_isStray (k := 3) rfl) (by decide) ?_
  refine m_icmp_ge (tgt := 40) (d_C_isStray (k := 4) rfl) rfl ?_ ?_
  · refine m_iload_n (d_C_isStray (k := 5) rfl) rfl ?_
    refine m_iload_n (d_C_isStray (k := 6) rfl) rfl ?_
    refine m_ishr (d_C_isStray (k := 7) rfl) ?_
    refine m_iconst (v := 1) (d_C_isStray (k := 8) rfl) (by decide) ?_
    refine m_iand (d_C_isStray (k := 9) rfl) ?_
    refine m_if_eq (tgt := 34) (d_C_isStray (k := 10) rfl) rfl ?_ ?_
    · exact m_drop (mles_s (mles_s (mles_s (mles_s mles_0)))) (v_C_isStray_34 r2 h2 t0 t1 i2 i3 M)
    · refine m_aload_n (d_C_isStray (k := 11) rfl) rfl ?_
      refine m_getR (d_C_isStray (k := 12) rfl) fl_C_11 rfl (fun a1 => ?_)
      refine m_iload_n (d_C_isStray (k := 13) rfl) rfl ?_
      refine m_aald (t := 2) (d_C_isStray (k := 14) rfl) rfl (fun a2 => ?_)
      refine m_getR (d_C_isStray (k := 15) rfl) fl_C_257 rfl (fun a3 => ?_)
      refine m_aload_n (d_C_isStray (k := 16) rfl) rfl ?_
      refine m_cvI (c := 7) (vs := [.inr t1]) (st := []) (d_C_isStray (k := 17) rfl) (s_S_hasSent a3 t1 M) cd_S_hasSent ml_C_393 im_S_hasSent se_S_hasSent rfl (by decide) rfl (Nat.le_of_ble_eq_true rfl) (fun x4 M => ?_)
      refine m_if_eq (tgt := 34) (d_C_isStray (k := 18) rfl) rfl ?_ ?_
      · exact m_drop (mles_s (mles_s (mles_s (mles_s mles_0)))) (v_C_isStray_34 r2 h2 t0 t1 i2 i3 M)
      · refine m_iconst (v := 0) (d_C_isStray (k := 19) rfl) (by decide) ?_
        exact m_zret (d_C_isStray (k := 20) rfl) rfl
  · refine m_iconst (v := 1) (d_C_isStray (k := 23) rfl) (by decide) ?_
    exact m_zret (d_C_isStray (k := 24) rfl) rfl
theorem v_C_isStray_2 {E : mE} : ∀ (n : Nat) (t0 : Option Nat) (t1 : Option Nat) (i2 : Int32) (i3 : Int32) (M : mM), mVr E mi_C_isStray 2 2 [some (.inr t0), some (.inr t1), some (.inl i2), some (.inl i3)] [] M enI (q_C_isStray_2 n t0 t1 i2 i3 M)
  | 0, _, _, _, _, _ => m_none
  | n + 1, t0, t1, i2, i3, M => v_C_isStray_2_b _ (v_C_isStray_2 n) t0 t1 i2 i3 M
def q_C_isStray (t0 : Option Nat) (t1 : Option Nat) (i2 : Int32) (M : mM) : Option (Int32 × mM) :=
    q_C_isStray_2 mFU t0 t1 i2 (0 : Int32) M
set_option maxRecDepth 20000 in
theorem v_C_isStray {E : mE} (t0 : Option Nat) (t1 : Option Nat) (i2 : Int32) (M : mM) : mVr E mi_C_isStray 2 0 [some (.inr t0), some (.inr t1), some (.inl i2), none] [] M enI (q_C_isStray t0 t1 i2 M) := by
  unfold q_C_isStray
  refine m_iconst (v := 0) (d_C_isStray (k := 0) rfl) (by decide) ?_
  refine m_ist_n (ls' := [some (.inr t0), some (.inr t1), some (.inl i2), some (.inl (0 : Int32))]) (d_C_isStray (k := 1) rfl) (by decide) rfl ?_
  exact m_drop (mles_s (mles_s (mles_s (mles_s mles_0)))) (v_C_isStray_2 mFU t0 t1 i2 (0 : Int32) M)
theorem s_C_isStray {E : mE} (t0 : Option Nat) (t1 : Option Nat) (i2 : Int32) (M : mM) : mSnd E mi_C_isStray 2 [.inr t0, .inr t1, .inl i2] M enI (q_C_isStray t0 t1 i2 M) := m_entryZ (by decide) (Nat.le_of_ble_eq_true rfl) rfl (m_drop (mles_s (mles_s (mles_s (mles_e mles_0)))) (v_C_isStray t0 t1 i2 M))
def dt_C_hash : List (Nat × Instr × Nat) := [(0, .iload_n 0, 1), (1, .ldc_w 391, 3), (4, .imul, 1), (5, .iload_n 1, 1), (6, .iadd, 1), (7, .istore_n 2, 1), (8, .iload_n 2, 1), (9, .iload_n 2, 1), (10, .bipush 15, 2), (12, .iushr, 1), (13, .ixor, 1), (14, .ldc_w 392, 3), (17, .imul, 1), (18, .istore_n 2, 1), (19, .iload_n 2, 1), (20, .iload_n 2, 1), (21, .bipush 13, 2), (23, .iushr, 1), (24, .ixor, 1), (25, .ireturn, 1)]
theorem dx_C_hash : ∀ p ∈ dt_C_hash, decode prog_1_method_39_code p.1 = .ok p.2 := by decide +kernel
theorem d_C_hash {k pc : Nat} {i : Instr} {n : Nat} (h : dt_C_hash[k]? = some (pc, i, n)) : decode mi_C_hash.2.1 pc = .ok (i, n) := dx_C_hash (pc, i, n) (List.mem_of_getElem? h)
def q_C_hash (i0 : Int32) (i1 : Int32) (M : mM) : Option (Int32 × mM) :=
    x_lt ((i0 * (1000003 : Int32)) + i1) fun x1 =>
    x_lt ((x1 ^^^ (mush x1 (15 : Int32))) * (1540483477 : Int32)) fun x2 =>
    some ((x2 ^^^ (mush x2 (13 : Int32))), M)
set_option maxRecDepth 20000 in
theorem v_C_hash {E : mE} (i0 : Int32) (i1 : Int32) (M : mM) : mVr E mi_C_hash 0 0 [some (.inl i0), some (.inl i1), none] [] M enI (q_C_hash i0 i1 M) := by
  unfold q_C_hash
  refine m_iload_n (d_C_hash (k := 0) rfl) rfl ?_
  refine m_ldcw (d_C_hash (k := 1) rfl) ct_C_391 ?_
  refine m_imul (d_C_hash (k := 2) rfl) ?_
  refine m_iload_n (d_C_hash (k := 3) rfl) rfl ?_
  refine m_iadd (d_C_hash (k := 4) rfl) ?_
  refine m_lt (fun x1 => ?_)
  refine m_ist_n (ls' := [some (.inl i0), some (.inl i1), some (.inl x1)]) (d_C_hash (k := 5) rfl) (by decide) rfl ?_
  refine m_iload_n (d_C_hash (k := 6) rfl) rfl ?_
  refine m_iload_n (d_C_hash (k := 7) rfl) rfl ?_
  refine m_bipush (v := 15) (d_C_hash (k := 8) rfl) (by decide) ?_
  refine m_iushr (d_C_hash (k := 9) rfl) ?_
  refine m_ixor (d_C_hash (k := 10) rfl) ?_
  refine m_ldcw (d_C_hash (k := 11) rfl) ct_C_392 ?_
  refine m_imul (d_C_hash (k := 12) rfl) ?_
  refine m_lt (fun x2 => ?_)
  refine m_ist_n (ls' := [some (.inl i0), some (.inl i1), some (.inl x2)]) (d_C_hash (k := 13) rfl) (by decide) rfl ?_
  refine m_iload_n (d_C_hash (k := 14) rfl) rfl ?_
  refine m_iload_n (d_C_hash (k := 15) rfl) rfl ?_
  refine m_bipush (v := 13) (d_C_hash (k := 16) rfl) (by decide) ?_
  refine m_iushr (d_C_hash (k := 17) rfl) ?_
  refine m_ixor (d_C_hash (k := 18) rfl) ?_
  exact m_iret (d_C_hash (k := 19) rfl) rfl
theorem s_C_hash {E : mE} (i0 : Int32) (i1 : Int32) (M : mM) : mSnd E mi_C_hash 0 [.inl i0, .inl i1] M enI (q_C_hash i0 i1 M) := m_entryI (by decide) (Nat.le_of_ble_eq_true rfl) rfl (m_drop (mles_s (mles_s (mles_e mles_0))) (v_C_hash i0 i1 M))
def dt_J_bitCount : List (Nat × Instr × Nat) := [(0, .iload_n 0, 1), (1, .iload_n 0, 1), (2, .iconst 1, 1), (3, .iushr, 1), (4, .ldc_w 265, 3), (7, .iand, 1), (8, .isub, 1), (9, .istore_n 0, 1), (10, .iload_n 0, 1), (11, .ldc_w 266, 3), (14, .iand, 1), (15, .iload_n 0, 1), (16, .iconst 2, 1), (17, .iushr, 1), (18, .ldc_w 266, 3), (21, .iand, 1), (22, .iadd, 1), (23, .istore_n 0, 1), (24, .iload_n 0, 1), (25, .iload_n 0, 1), (26, .iconst 4, 1), (27, .iushr, 1), (28, .iadd, 1), (29, .ldc_w 267, 3), (32, .iand, 1), (33, .istore_n 0, 1), (34, .iload_n 0, 1), (35, .iload_n 0, 1), (36, .bipush 8, 2), (38, .iushr, 1), (39, .iadd, 1), (40, .istore_n 0, 1), (41, .iload_n 0, 1), (42, .iload_n 0, 1), (43, .bipush 16, 2), (45, .iushr, 1), (46, .iadd, 1), (47, .istore_n 0, 1), (48, .iload_n 0, 1), (49, .bipush 63, 2), (51, .iand, 1), (52, .ireturn, 1)]
theorem dx_J_bitCount : ∀ p ∈ dt_J_bitCount, decode prog_13_method_49_code p.1 = .ok p.2 := by decide +kernel
theorem d_J_bitCount {k pc : Nat} {i : Instr} {n : Nat} (h : dt_J_bitCount[k]? = some (pc, i, n)) : decode mi_J_bitCount.2.1 pc = .ok (i, n) := dx_J_bitCount (pc, i, n) (List.mem_of_getElem? h)
def q_J_bitCount (i0 : Int32) (M : mM) : Option (Int32 × mM) :=
    x_lt (i0 - ((mush i0 (1 : Int32)) &&& (1431655765 : Int32))) fun x1 =>
    x_lt ((x1 &&& (858993459 : Int32)) + ((mush x1 (2 : Int32)) &&& (858993459 : Int32))) fun x2 =>
    x_lt ((x2 + (mush x2 (4 : Int32))) &&& (252645135 : Int32)) fun x3 =>
    x_lt (x3 + (mush x3 (8 : Int32))) fun x4 =>
    x_lt (x4 + (mush x4 (16 : Int32))) fun x5 =>
    some ((x5 &&& (63 : Int32)), M)
set_option maxRecDepth 20000 in
theorem v_J_bitCount {E : mE} (i0 : Int32) (M : mM) : mVr E mi_J_bitCount 0 0 [some (.inl i0)] [] M enI (q_J_bitCount i0 M) := by
  unfold q_J_bitCount
  refine m_iload_n (d_J_bitCount (k := 0) rfl) rfl ?_
  refine m_iload_n (d_J_bitCount (k := 1) rfl) rfl ?_
  refine m_iconst (v := 1) (d_J_bitCount (k := 2) rfl) (by decide) ?_
  refine m_iushr (d_J_bitCount (k := 3) rfl) ?_
  refine m_ldcw (d_J_bitCount (k := 4) rfl) ct_J_265 ?_
  refine m_iand (d_J_bitCount (k := 5) rfl) ?_
  refine m_isub (d_J_bitCount (k := 6) rfl) ?_
  refine m_lt (fun x1 => ?_)
  refine m_ist_n (ls' := [some (.inl x1)]) (d_J_bitCount (k := 7) rfl) (by decide) rfl ?_
  refine m_iload_n (d_J_bitCount (k := 8) rfl) rfl ?_
  refine m_ldcw (d_J_bitCount (k := 9) rfl) ct_J_266 ?_
  refine m_iand (d_J_bitCount (k := 10) rfl) ?_
  refine m_iload_n (d_J_bitCount (k := 11) rfl) rfl ?_
  refine m_iconst (v := 2) (d_J_bitCount (k := 12) rfl) (by decide) ?_
  refine m_iushr (d_J_bitCount (k := 13) rfl) ?_
  refine m_ldcw (d_J_bitCount (k := 14) rfl) ct_J_266 ?_
  refine m_iand (d_J_bitCount (k := 15) rfl) ?_
  refine m_iadd (d_J_bitCount (k := 16) rfl) ?_
  refine m_lt (fun x2 => ?_)
  refine m_ist_n (ls' := [some (.inl x2)]) (d_J_bitCount (k := 17) rfl) (by decide) rfl ?_
  refine m_iload_n (d_J_bitCount (k := 18) rfl) rfl ?_
  refine m_iload_n (d_J_bitCount (k := 19) rfl) rfl ?_
  refine m_iconst (v := 4) (d_J_bitCount (k := 20) rfl) (by decide) ?_
  refine m_iushr (d_J_bitCount (k := 21) rfl) ?_
  refine m_iadd (d_J_bitCount (k := 22) rfl) ?_
  refine m_ldcw (d_J_bitCount (k := 23) rfl) ct_J_267 ?_
  refine m_iand (d_J_bitCount (k := 24) rfl) ?_
  refine m_lt (fun x3 => ?_)
  refine m_ist_n (ls' := [some (.inl x3)]) (d_J_bitCount (k := 25) rfl) (by decide) rfl ?_
  refine m_iload_n (d_J_bitCount (k := 26) rfl) rfl ?_
  refine m_iload_n (d_J_bitCount (k := 27) rfl) rfl ?_
  refine m_bipush (v := 8) (d_J_bitCount (k := 28) rfl) (by decide) ?_
  refine m_iushr (d_J_bitCount (k := 29) rfl) ?_
  refine m_iadd (d_J_bitCount (k := 30) rfl) ?_
  refine m_lt (fun x4 => ?_)
  refine m_ist_n (ls' := [some (.inl x4)]) (d_J_bitCount (k := 31) rfl) (by decide) rfl ?_
  refine m_iload_n (d_J_bitCount (k := 32) rfl) rfl ?_
  refine m_iload_n (d_J_bitCount (k := 33) rfl) rfl ?_
  refine m_bipush (v := 16) (d_J_bitCount (k := 34) rfl) (by decide) ?_
  refine m_iushr (d_J_bitCount (k := 35) rfl) ?_
  refine m_iadd (d_J_bitCount (k := 36) rfl) ?_
  refine m_lt (fun x5 => ?_)
  refine m_ist_n (ls' := [some (.inl x5)]) (d_J_bitCount (k := 37) rfl) (by decide) rfl ?_
  refine m_iload_n (d_J_bitCount (k := 38) rfl) rfl ?_
  refine m_bipush (v := 63) (d_J_bitCount (k := 39) rfl) (by decide) ?_
  refine m_iand (d_J_bitCount (k := 40) rfl) ?_
  exact m_iret (d_J_bitCount (k := 41) rfl) rfl
theorem s_J_bitCount {E : mE} (i0 : Int32) (M : mM) : mSnd E mi_J_bitCount 0 [.inl i0] M enI (q_J_bitCount i0 M) := m_entryI (by decide) (Nat.le_of_ble_eq_true rfl) rfl (m_drop (mles_s mles_0) (v_J_bitCount i0 M))
def dt_C_levelOf : List (Nat × Instr × Nat) := [(0, .iload_n 2, 1), (1, .aload_n 0, 1), (2, .getfield 359, 3), (5, .iand, 1), (6, .invokestatic 239, 3), (9, .iconst 1, 1), (10, .iand, 1), (11, .istore_n 3, 1), (12, .aload_n 1, 1), (13, .getfield 120, 3), (16, .bipush 7, 2), (18, .iaload, 1), (19, .ifCond .le 34, 3), (22, .aload_n 1, 1), (23, .getfield 120, 3), (26, .bipush 8, 2), (28, .iaload, 1), (29, .aload_n 0, 1), (30, .getfield 226, 3), (33, .invokestatic 388, 3), (36, .bipush 20, 2), (38, .iushr, 1), (39, .aload_n 1, 1), (40, .getfield 120, 3), (43, .bipush 7, 2), (45, .iaload, 1), (46, .if_icmp .ge 7, 3), (49, .iconst 1, 1), (50, .goto 4, 3), (53, .iconst 0, 1), (54, .istore 4, 2), (56, .iload 4, 2), (58, .ifCond .eq 9, 3), (61, .iconst 1, 1), (62, .iload_n 3, 1), (63, .isub, 1), (64, .goto 4, 3), (67, .iload_n 3, 1), (68, .ireturn, 1)]
theorem dx_C_levelOf : ∀ p ∈ dt_C_levelOf, decode prog_1_method_38_code p.1 = .ok p.2 := by decide +kernel
theorem d_C_levelOf {k pc : Nat} {i : Instr} {n : Nat} (h : dt_C_levelOf[k]? = some (pc, i, n)) : decode mi_C_levelOf.2.1 pc = .ok (i, n) := dx_C_levelOf (pc, i, n) (List.mem_of_getElem? h)
def q_C_levelOf_54 (i3 : Int32) (j0 : Int32) (M : mM) : Option (Int32 × mM) :=
    if j0 = 0 then
      some (i3, M)
    else
      some (((1 : Int32) - i3), M)
set_option maxRecDepth 20000 in
theorem v_C_levelOf_54 {E : mE} (i3 : Int32) (j0 : Int32) (M : mM) : mVr E mi_C_levelOf 1 54 [none, none, none, some (.inl i3), none] [.inl j0] M enI (q_C_levelOf_54 i3 j0 M) := by
  unfold q_C_levelOf_54
  refine m_ist (ls' := [none, none, none, some (.inl i3), some (.inl j0)]) (d_C_levelOf (k := 30) rfl) (by decide) rfl ?_
  refine m_iload (d_C_levelOf (k := 31) rfl) rfl ?_
  refine m_if_eq (tgt := 67) (d_C_levelOf (k := 32) rfl) rfl ?_ ?_
  · refine m_iload_n (d_C_levelOf (k := 37) rfl) rfl ?_
    exact m_iret (d_C_levelOf (k := 38) rfl) rfl
  · refine m_iconst (v := 1) (d_C_levelOf (k := 33) rfl) (by decide) ?_
    refine m_iload_n (d_C_levelOf (k := 34) rfl) rfl ?_
    refine m_isub (d_C_levelOf (k := 35) rfl) ?_
    refine m_goto (tgt := 68) (d_C_levelOf (k := 36) rfl) rfl ?_
    exact m_iret (d_C_levelOf (k := 38) rfl) rfl
def q_C_levelOf_53 (i3 : Int32) (M : mM) : Option (Int32 × mM) :=
    q_C_levelOf_54 i3 (0 : Int32) M
set_option maxRecDepth 20000 in
theorem v_C_levelOf_53 {E : mE} (i3 : Int32) (M : mM) : mVr E mi_C_levelOf 1 53 [none, none, none, some (.inl i3), none] [] M enI (q_C_levelOf_53 i3 M) := by
  unfold q_C_levelOf_53
  refine m_iconst (v := 0) (d_C_levelOf (k := 29) rfl) (by decide) ?_
  exact m_drop (mles_n (mles_n (mles_n (mles_s (mles_n mles_0))))) (v_C_levelOf_54 i3 (0 : Int32) M)
def q_C_levelOf (t0 : Option Nat) (t1 : Option Nat) (i2 : Int32) (M : mM) : Option (Int32 × mM) :=
    x_gI M 9 t0 9 fun x1 =>
    x_cl (q_J_bitCount (i2 &&& x1) M) fun x2 M =>
    x_lt (x2 &&& (1 : Int32)) fun x3 =>
    x_gR M 8 t1 1 fun a4 =>
    x_aI M 0 a4 (7 : Int32) fun x5 =>
    if 0 < x5 then
      x_gR M 8 t1 1 fun a6 =>
      x_aI M 0 a6 (8 : Int32) fun x7 =>
      x_gI M 9 t0 7 fun x8 =>
      x_cl (q_C_hash x7 x8 M) fun x9 M =>
      x_gR M 8 t1 1 fun a10 =>
      x_aI M 0 a10 (7 : Int32) fun x11 =>
      if (mush x9 (20 : Int32)) < x11 then
        q_C_levelOf_54 x3 (1 : Int32) M
      else
        q_C_levelOf_53 x3 M
    else
      q_C_levelOf_53 x3 M
set_option maxRecDepth 20000 in
theorem v_C_levelOf {E : mE} (t0 : Option Nat) (t1 : Option Nat) (i2 : Int32) (M : mM) : mVr E mi_C_levelOf 1 0 [some (.inr t0), some (.inr t1), some (.inl i2), none, none] [] M enI (q_C_levelOf t0 t1 i2 M) := by
  unfold q_C_levelOf
  refine m_iload_n (d_C_levelOf (k := 0) rfl) rfl ?_
  refine m_aload_n (d_C_levelOf (k := 1) rfl) rfl ?_
  refine m_getI (d_C_levelOf (k := 2) rfl) fl_C_359 rfl (fun x1 => ?_)
  refine m_iand (d_C_levelOf (k := 3) rfl) ?_
  refine m_csI (vs := [.inl (i2 &&& x1)]) (st := []) (d_C_levelOf (k := 4) rfl) (s_J_bitCount (i2 &&& x1) M) cd_J_bitCount ml_C_239 sa_J_bitCount (by decide) rfl (Nat.le_of_ble_eq_true rfl) (fun x2 M => ?_)
  refine m_iconst (v := 1) (d_C_levelOf (k := 5) rfl) (by decide) ?_
  refine m_iand (d_C_levelOf (k := 6) rfl) ?_
  refine m_lt (fun x3 => ?_)
  refine m_ist_n (ls' := [some (.inr t0), some (.inr t1), some (.inl i2), some (.inl x3), none]) (d_C_levelOf (k := 7) rfl) (by decide) rfl ?_
  refine m_aload_n (d_C_levelOf (k := 8) rfl) rfl ?_
  refine m_getR (d_C_levelOf (k := 9) rfl) fl_C_120 rfl (fun a4 => ?_)
  refine m_bipush (v := 7) (d_C_levelOf (k := 10) rfl) (by decide) ?_
  refine m_iald (d_C_levelOf (k := 11) rfl) (fun x5 => ?_)
  refine m_if_le (tgt := 53) (d_C_levelOf (k := 12) rfl) rfl ?_ ?_
  · refine m_aload_n (d_C_levelOf (k := 13) rfl) rfl ?_
    refine m_getR (d_C_levelOf (k := 14) rfl) fl_C_120 rfl (fun a6 => ?_)
    refine m_bipush (v := 8) (d_C_levelOf (k := 15) rfl) (by decide) ?_
    refine m_iald (d_C_levelOf (k := 16) rfl) (fun x7 => ?_)
    refine m_aload_n (d_C_levelOf (k := 17) rfl) rfl ?_
    refine m_getI (d_C_levelOf (k := 18) rfl) fl_C_226 rfl (fun x8 => ?_)
    refine m_csI (vs := [.inl x7, .inl x8]) (st := []) (d_C_levelOf (k := 19) rfl) (s_C_hash x7 x8 M) cd_C_hash ml_C_388 sa_C_hash (by decide) rfl (Nat.le_of_ble_eq_true rfl) (fun x9 M => ?_)
    refine m_bipush (v := 20) (d_C_levelOf (k := 20) rfl) (by decide) ?_
    refine m_iushr (d_C_levelOf (k := 21) rfl) ?_
    refine m_aload_n (d_C_levelOf (k := 22) rfl) rfl ?_
    refine m_getR (d_C_levelOf (k := 23) rfl) fl_C_120 rfl (fun a10 => ?_)
    refine m_bipush (v := 7) (d_C_levelOf (k := 24) rfl) (by decide) ?_
    refine m_iald (d_C_levelOf (k := 25) rfl) (fun x11 => ?_)
    refine m_icmp_ge (tgt := 53) (d_C_levelOf (k := 26) rfl) rfl ?_ ?_
    · refine m_iconst (v := 1) (d_C_levelOf (k := 27) rfl) (by decide) ?_
      refine m_goto (tgt := 54) (d_C_levelOf (k := 28) rfl) rfl ?_
      exact m_drop (mles_n (mles_n (mles_n (mles_s (mles_n mles_0))))) (v_C_levelOf_54 x3 (1 : Int32) M)
    · exact m_drop (mles_n (mles_n (mles_n (mles_s (mles_n mles_0))))) (v_C_levelOf_53 x3 M)
  · exact m_drop (mles_n (mles_n (mles_n (mles_s (mles_n mles_0))))) (v_C_levelOf_53 x3 M)
theorem s_C_levelOf {E : mE} (t0 : Option Nat) (t1 : Option Nat) (i2 : Int32) (M : mM) : mSnd E mi_C_levelOf 1 [.inr t0, .inr t1, .inl i2] M enI (q_C_levelOf t0 t1 i2 M) := m_entryI (by decide) (Nat.le_of_ble_eq_true rfl) rfl (m_drop (mles_s (mles_s (mles_s (mles_e (mles_e mles_0))))) (v_C_levelOf t0 t1 i2 M))
def dt_V_addBit : List (Nat × Instr × Nat) := [(0, .aload_n 0, 1), (1, .getfield 44, 3), (4, .sipush 743, 3), (7, .if_icmp .lt 8, 3), (10, .aload_n 0, 1), (11, .iconst 0, 1), (12, .putfield 30, 3), (15, .aload_n 0, 1), (16, .getfield 30, 3), (19, .ifCond .ne 4, 3), (22, .return_, 1), (23, .aload_n 0, 1), (24, .getfield 44, 3), (27, .bipush 7, 2), (29, .iand, 1), (30, .ifCond .ne 14, 3), (33, .aload_n 0, 1), (34, .getfield 16, 3), (37, .iload_n 1, 1), (38, .invokevirtual 53, 3), (41, .goto 25, 3), (44, .aload_n 0, 1), (45, .getfield 16, 3), (48, .aload_n 0, 1), (49, .getfield 44, 3), (52, .iconst 3, 1), (53, .ishr, 1), (54, .iload_n 1, 1), (55, .aload_n 0, 1), (56, .getfield 44, 3), (59, .bipush 7, 2), (61, .iand, 1), (62, .ishl, 1), (63, .invokevirtual 56, 3), (66, .aload_n 0, 1), (67, .dup, 1), (68, .getfield 44, 3), (71, .iconst 1, 1), (72, .iadd, 1), (73, .putfield 44, 3), (76, .return_, 1)]
theorem dx_V_addBit : ∀ p ∈ dt_V_addBit, decode prog_6_method_6_code p.1 = .ok p.2 := by decide +kernel
theorem d_V_addBit {k pc : Nat} {i : Instr} {n : Nat} (h : dt_V_addBit[k]? = some (pc, i, n)) : decode mi_V_addBit.2.1 pc = .ok (i, n) := dx_V_addBit (pc, i, n) (List.mem_of_getElem? h)
def q_V_addBit_66 (t0 : Option Nat) (M : mM) : Option (Unit × mM) :=
    x_gI M 4 t0 1 fun x1 =>
    x_pI M 4 t0 1 (x1 + (1 : Int32)) fun M =>
    some ((), M)
set_option maxRecDepth 20000 in
theorem v_V_addBit_66 {E : mE} (t0 : Option Nat) (M : mM) : mVr E mi_V_addBit 1 66 [some (.inr t0), none] [] M enU (q_V_addBit_66 t0 M) := by
  unfold q_V_addBit_66
  refine m_aload_n (d_V_addBit (k := 34) rfl) rfl ?_
  refine m_dup (d_V_addBit (k := 35) rfl) ?_
  refine m_getI (d_V_addBit (k := 36) rfl) fl_V_44 rfl (fun x1 => ?_)
  refine m_iconst (v := 1) (d_V_addBit (k := 37) rfl) (by decide) ?_
  refine m_iadd (d_V_addBit (k := 38) rfl) ?_
  refine m_pI (d_V_addBit (k := 39) rfl) fp_V_44 (fun h => absurd h (by decide)) rfl (fun M => ?_)
  exact m_vret (d_V_addBit (k := 40) rfl) rfl
def q_V_addBit_15 (t0 : Option Nat) (i1 : Int32) (M : mM) : Option (Unit × mM) :=
    x_gI M 4 t0 2 fun x1 =>
    if x1 = 0 then
      some ((), M)
    else
      x_gI M 4 t0 1 fun x2 =>
      if (x2 &&& (7 : Int32)) = 0 then
        x_gR M 4 t0 0 fun a3 =>
        x_cv M 0 a3 (q_B_add a3 i1 M) fun _ M =>
        q_V_addBit_66 t0 M
      else
        x_gR M 4 t0 0 fun a4 =>
        x_gI M 4 t0 1 fun x5 =>
        x_gI M 4 t0 1 fun x6 =>
        x_cv M 0 a4 (q_B_raise a4 (x5 >>> ((3 : Int32) &&& 31)) (i1 <<< ((x6 &&& (7 : Int32)) &&& 31)) M) fun _ M =>
        q_V_addBit_66 t0 M
set_option maxRecDepth 20000 in
theorem v_V_addBit_15 {E : mE} (t0 : Option Nat) (i1 : Int32) (M : mM) : mVr E mi_V_addBit 1 15 [some (.inr t0), some (.inl i1)] [] M enU (q_V_addBit_15 t0 i1 M) := by
  unfold q_V_addBit_15
  refine m_aload_n (d_V_addBit (k := 7) rfl) rfl ?_
  refine m_getI (d_V_addBit (k := 8) rfl) fl_V_30 rfl (fun x1 => ?_)
  refine m_if_ne (tgt := 23) (d_V_addBit (k := 9) rfl) rfl ?_ ?_
  · exact m_vret (d_V_addBit (k := 10) rfl) rfl
  · refine m_aload_n (d_V_addBit (k := 11) rfl) rfl ?_
    refine m_getI (d_V_addBit (k := 12) rfl) fl_V_44 rfl (fun x2 => ?_)
    refine m_bipush (v := 7) (d_V_addBit (k := 13) rfl) (by decide) ?_
    refine m_iand (d_V_addBit (k := 14) rfl) ?_
    refine m_if_ne (tgt := 44) (d_V_addBit (k := 15) rfl) rfl ?_ ?_
    · refine m_aload_n (d_V_addBit (k := 16) rfl) rfl ?_
      refine m_getR (d_V_addBit (k := 17) rfl) fl_V_16 rfl (fun a3 => ?_)
      refine m_iload_n (d_V_addBit (k := 18) rfl) rfl ?_
      refine m_cvU (c := 0) (vs := [.inl i1]) (st := []) (d_V_addBit (k := 19) rfl) (s_B_add a3 i1 M) cd_B_add ml_V_53 im_B_add se_B_add rfl (by decide) rfl (Nat.le_of_ble_eq_true rfl) (fun _ M => ?_)
      refine m_goto (tgt := 66) (d_V_addBit (k := 20) rfl) rfl ?_
      exact m_drop (mles_s (mles_n mles_0)) (v_V_addBit_66 t0 M)
    · refine m_aload_n (d_V_addBit (k := 21) rfl) rfl ?_
      refine m_getR (d_V_addBit (k := 22) rfl) fl_V_16 rfl (fun a4 => ?_)
      refine m_aload_n (d_V_addBit (k := 23) rfl) rfl ?_
      refine m_getI (d_V_addBit (k := 24) rfl) fl_V_44 rfl (fun x5 => ?_)
      refine m_iconst (v := 3) (d_V_addBit (k := 25) rfl) (by decide) ?_
      refine m_ishr (d_V_addBit (k := 26) rfl) ?_
      refine m_iload_n (d_V_addBit (k := 27) rfl) rfl ?_
      refine m_aload_n (d_V_addBit (k := 28) rfl) rfl ?_
      refine m_getI (d_V_addBit (k := 29) rfl) fl_V_44 rfl (fun x6 => ?_)
      refine m_bipush (v := 7) (d_V_addBit (k := 30) rfl) (by decide) ?_
      refine m_iand (d_V_addBit (k := 31) rfl) ?_
      refine m_ishl (d_V_addBit (k := 32) rfl) ?_
      refine m_cvU (c := 0) (vs := [.inl (x5 >>> ((3 : Int32) &&& 31)), .inl (i1 <<< ((x6 &&& (7 : Int32)) &&& 31))]) (st := []) (d_V_addBit (k := 33) rfl) (s_B_raise a4 (x5 >>> ((3 : Int32) &&& 31)) (i1 <<< ((x6 &&& (7 : Int32)) &&& 31)) M) cd_B_raise ml_V_56 im_B_raise se_B_raise rfl (by decide) rfl (Nat.le_of_ble_eq_true rfl) (fun _ M => ?_)
      exact m_drop (mles_s (mles_n mles_0)) (v_V_addBit_66 t0 M)
def q_V_addBit (t0 : Option Nat) (i1 : Int32) (M : mM) : Option (Unit × mM) :=
    x_gI M 4 t0 1 fun x1 =>
    if x1 < (743 : Int32) then
      q_V_addBit_15 t0 i1 M
    else
      x_pZ M 4 t0 2 (0 : Int32) fun M =>
      q_V_addBit_15 t0 i1 M
set_option maxRecDepth 20000 in
theorem v_V_addBit {E : mE} (t0 : Option Nat) (i1 : Int32) (M : mM) : mVr E mi_V_addBit 1 0 [some (.inr t0), some (.inl i1)] [] M enU (q_V_addBit t0 i1 M) := by
  unfold q_V_addBit
  refine m_aload_n (d_V_addBit (k := 0) rfl) rfl ?_
  refine m_getI (d_V_addBit (k := 1) rfl) fl_V_44 rfl (fun x1 => ?_)
  refine m_sipush (v := 743) (d_V_addBit (k := 2) rfl) (by decide) ?_
  refine m_icmp_lt (tgt := 15) (d_V_addBit (k := 3) rfl) rfl ?_ ?_
  · exact m_drop (mles_s (mles_s mles_0)) (v_V_addBit_15 t0 i1 M)
  · refine m_aload_n (d_V_addBit (k := 4) rfl) rfl ?_
    refine m_iconst (v := 0) (d_V_addBit (k := 5) rfl) (by decide) ?_
    refine m_pZ (d_V_addBit (k := 6) rfl) fp_V_30 (fun h => absurd h (by decide)) rfl (fun M => ?_)
    exact m_drop (mles_s (mles_s mles_0)) (v_V_addBit_15 t0 i1 M)
theorem s_V_addBit {E : mE} (t0 : Option Nat) (i1 : Int32) (M : mM) : mSnd E mi_V_addBit 1 [.inr t0, .inl i1] M enU (q_V_addBit t0 i1 M) := m_entryU (by decide) (Nat.le_of_ble_eq_true rfl) rfl (m_drop (mles_s (mles_s mles_0)) (v_V_addBit t0 i1 M))
def dt_V_hearOne : List (Nat × Instr × Nat) := [(0, .aload_n 0, 1), (1, .dup, 1), (2, .getfield 34, 3), (5, .iconst 1, 1), (6, .iadd, 1), (7, .putfield 34, 3), (10, .aload_n 0, 1), (11, .getfield 34, 3), (14, .bipush 7, 2), (16, .if_icmp .lt 11, 3), (19, .aload_n 0, 1), (20, .iconst 0, 1), (21, .putfield 30, 3), (24, .goto 8, 3), (27, .aload_n 0, 1), (28, .iconst 1, 1), (29, .invokevirtual 50, 3), (32, .return_, 1)]
theorem dx_V_hearOne : ∀ p ∈ dt_V_hearOne, decode prog_6_method_5_code p.1 = .ok p.2 := by decide +kernel
theorem d_V_hearOne {k pc : Nat} {i : Instr} {n : Nat} (h : dt_V_hearOne[k]? = some (pc, i, n)) : decode mi_V_hearOne.2.1 pc = .ok (i, n) := dx_V_hearOne (pc, i, n) (List.mem_of_getElem? h)
def q_V_hearOne (t0 : Option Nat) (M : mM) : Option (Unit × mM) :=
    x_gI M 4 t0 4 fun x1 =>
    x_pI M 4 t0 4 (x1 + (1 : Int32)) fun M =>
    x_gI M 4 t0 4 fun x2 =>
    if x2 < (7 : Int32) then
      x_cv M 4 t0 (q_V_addBit t0 (1 : Int32) M) fun _ M =>
      some ((), M)
    else
      x_pZ M 4 t0 2 (0 : Int32) fun M =>
      some ((), M)
set_option maxRecDepth 20000 in
theorem v_V_hearOne {E : mE} (t0 : Option Nat) (M : mM) : mVr E mi_V_hearOne 2 0 [some (.inr t0)] [] M enU (q_V_hearOne t0 M) := by
  unfold q_V_hearOne
  refine m_aload_n (d_V_hearOne (k := 0) rfl) rfl ?_
  refine m_dup (d_V_hearOne (k := 1) rfl) ?_
  refine m_getI (d_V_hearOne (k := 2) rfl) fl_V_34 rfl (fun x1 => ?_)
  refine m_iconst (v := 1) (d_V_hearOne (k := 3) rfl) (by decide) ?_
  refine m_iadd (d_V_hearOne (k := 4) rfl) ?_
  refine m_pI (d_V_hearOne (k := 5) rfl) fp_V_34 (fun h => absurd h (by decide)) rfl (fun M => ?_)
  refine m_aload_n (d_V_hearOne (k := 6) rfl) rfl ?_
  refine m_getI (d_V_hearOne (k := 7) rfl) fl_V_34 rfl (fun x2 => ?_)
  refine m_bipush (v := 7) (d_V_hearOne (k := 8) rfl) (by decide) ?_
  refine m_icmp_lt (tgt := 27) (d_V_hearOne (k := 9) rfl) rfl ?_ ?_
  · refine m_aload_n (d_V_hearOne (k := 14) rfl) rfl ?_
    refine m_iconst (v := 1) (d_V_hearOne (k := 15) rfl) (by decide) ?_
    refine m_cvU (c := 4) (vs := [.inl (1 : Int32)]) (st := []) (d_V_hearOne (k := 16) rfl) (s_V_addBit t0 (1 : Int32) M) cd_V_addBit ml_V_50 im_V_addBit se_V_addBit rfl (by decide) rfl (Nat.le_of_ble_eq_true rfl) (fun _ M => ?_)
    exact m_vret (d_V_hearOne (k := 17) rfl) rfl
  · refine m_aload_n (d_V_hearOne (k := 10) rfl) rfl ?_
    refine m_iconst (v := 0) (d_V_hearOne (k := 11) rfl) (by decide) ?_
    refine m_pZ (d_V_hearOne (k := 12) rfl) fp_V_30 (fun h => absurd h (by decide)) rfl (fun M => ?_)
    refine m_goto (tgt := 32) (d_V_hearOne (k := 13) rfl) rfl ?_
    exact m_vret (d_V_hearOne (k := 17) rfl) rfl
theorem s_V_hearOne {E : mE} (t0 : Option Nat) (M : mM) : mSnd E mi_V_hearOne 2 [.inr t0] M enU (q_V_hearOne t0 M) := m_entryU (by decide) (Nat.le_of_ble_eq_true rfl) rfl (m_drop (mles_s mles_0) (v_V_hearOne t0 M))
def dt_V_holdsFrame : List (Nat × Instr × Nat) := [(0, .aload_n 0, 1), (1, .getfield 44, 3), (4, .bipush 7, 2), (6, .isub, 1), (7, .istore_n 1, 1), (8, .iload_n 1, 1), (9, .bipush 8, 2), (11, .irem, 1), (12, .ifCond .ne 17, 3), (15, .iload_n 1, 1), (16, .sipush 136, 3), (19, .if_icmp .lt 10, 3), (22, .iload_n 1, 1), (23, .sipush 736, 3), (26, .if_icmp .le 5, 3), (29, .iconst 0, 1), (30, .ireturn, 1), (31, .iload_n 1, 1), (32, .bipush 8, 2), (34, .idiv, 1), (35, .iconst 2, 1), (36, .isub, 1), (37, .istore_n 2, 1), (38, .aload_n 0, 1), (39, .getfield 16, 3), (42, .iload_n 2, 1), (43, .invokevirtual 60, 3), (46, .sipush 256, 3), (49, .aload_n 0, 1), (50, .getfield 16, 3), (53, .iload_n 2, 1), (54, .iconst 1, 1), (55, .iadd, 1), (56, .invokevirtual 60, 3), (59, .imul, 1), (60, .iadd, 1), (61, .aload_n 0, 1), (62, .getfield 16, 3), (65, .iload_n 2, 1), (66, .invokestatic 64, 3), (69, .if_icmp .eq 5, 3), (72, .iconst 0, 1), (73, .ireturn, 1), (74, .aload_n 0, 1), (75, .getfield 20, 3), (78, .invokevirtual 47, 3), (81, .aload_n 0, 1), (82, .getfield 20, 3), (85, .aload_n 0, 1), (86, .getfield 16, 3), (89, .iconst 0, 1), (90, .iload_n 2, 1), (91, .invokevirtual 68, 3), (94, .iconst 1, 1), (95, .ireturn, 1)]
theorem dx_V_holdsFrame : ∀ p ∈ dt_V_holdsFrame, decode prog_6_method_7_code p.1 = .ok p.2 := by decide +kernel
theorem d_V_holdsFrame {k pc : Nat} {i : Instr} {n : Nat} (h : dt_V_holdsFrame[k]? = some (pc, i, n)) : decode mi_V_holdsFrame.2.1 pc = .ok (i, n) := dx_V_holdsFrame (pc, i, n) (List.mem_of_getElem? h)
def q_V_holdsFrame (t0 : Option Nat) (M : mM) : Option (Int32 × mM) :=
    x_gI M 4 t0 1 fun x1 =>
    x_lt (x1 - (7 : Int32)) fun x2 =>
    x_rm x2 (8 : Int32) fun x3 =>
    if x3 = 0 then
      if x2 < (136 : Int32) then
        x_rz (0 : Int32) M
      else
        if (736 : Int32) < x2 then
          x_rz (0 : Int32) M
        else
          x_dv x2 (8 : Int32) fun x4 =>
          x_lt (x4 - (2 : Int32)) fun x5 =>
          x_gR M 4 t0 0 fun a6 =>
          x_cv M 0 a6 (q_B_at a6 x5 M) fun x7 M =>
          x_gR M 4 t0 0 fun a8 =>
          x_cv M 0 a8 (q_B_at a8 (x5 + (1 : Int32)) M) fun x9 M =>
          x_gR M 4 t0 0 fun a10 =>
          x_cl (q_C_checkOf a10 x5 M) fun x11 M =>
          if (x7 + ((256 : Int32) * x9)) = x11 then
            x_gR M 4 t0 5 fun a12 =>
            x_cv M 0 a12 (q_B_clear a12 M) fun _ M =>
            x_gR M 4 t0 5 fun a13 =>
            x_gR M 4 t0 0 fun a14 =>
            x_cv M 0 a13 (q_B_addFrom a13 a14 (0 : Int32) x5 M) fun _ M =>
            x_rz (1 : Int32) M
          else
            x_rz (0 : Int32) M
    else
      x_rz (0 : Int32) M
set_option maxRecDepth 20000 in
theorem v_V_holdsFrame {E : mE} (t0 : Option Nat) (M : mM) : mVr E mi_V_holdsFrame 3 0 [some (.inr t0), none, none] [] M enI (q_V_holdsFrame t0 M) := by
  unfold q_V_holdsFrame
  refine m_aload_n (d_V_holdsFrame (k := 0) rfl) rfl ?_
  refine m_getI (d_V_holdsFrame (k := 1) rfl) fl_V_44 rfl (fun x1 => ?_)
  refine m_bipush (v := 7) (d_V_holdsFrame (k := 2) rfl) (by decide) ?_
  refine m_isub (d_V_holdsFrame (k := 3) rfl) ?_
  refine m_lt (fun x2 => ?_)
  refine m_ist_n (ls' := [some (.inr t0), some (.inl x2), none]) (d_V_holdsFrame (k := 4) rfl) (by decide) rfl ?_
  refine m_iload_n (d_V_holdsFrame (k := 5) rfl) rfl ?_
  refine m_bipush (v := 8) (d_V_holdsFrame (k := 6) rfl) (by decide) ?_
  refine m_irem (d_V_holdsFrame (k := 7) rfl) (fun x3 => ?_)
  refine m_if_ne (tgt := 29) (d_V_holdsFrame (k := 8) rfl) rfl ?_ ?_
  · refine m_iload_n (d_V_holdsFrame (k := 9) rfl) rfl ?_
    refine m_sipush (v := 136) (d_V_holdsFrame (k := 10) rfl) (by decide) ?_
    refine m_icmp_lt (tgt := 29) (d_V_holdsFrame (k := 11) rfl) rfl ?_ ?_
    · refine m_iconst (v := 0) (d_V_holdsFrame (k := 15) rfl) (by decide) ?_
      exact m_zret (d_V_holdsFrame (k := 16) rfl) rfl
    · refine m_iload_n (d_V_holdsFrame (k := 12) rfl) rfl ?_
      refine m_sipush (v := 736) (d_V_holdsFrame (k := 13) rfl) (by decide) ?_
      refine m_icmp_le (tgt := 31) (d_V_holdsFrame (k := 14) rfl) rfl ?_ ?_
      · refine m_iconst (v := 0) (d_V_holdsFrame (k := 15) rfl) (by decide) ?_
        exact m_zret (d_V_holdsFrame (k := 16) rfl) rfl
      · refine m_iload_n (d_V_holdsFrame (k := 17) rfl) rfl ?_
        refine m_bipush (v := 8) (d_V_holdsFrame (k := 18) rfl) (by decide) ?_
        refine m_idiv (d_V_holdsFrame (k := 19) rfl) (fun x4 => ?_)
        refine m_iconst (v := 2) (d_V_holdsFrame (k := 20) rfl) (by decide) ?_
        refine m_isub (d_V_holdsFrame (k := 21) rfl) ?_
        refine m_lt (fun x5 => ?_)
        refine m_ist_n (ls' := [some (.inr t0), some (.inl x2), some (.inl x5)]) (d_V_holdsFrame (k := 22) rfl) (by decide) rfl ?_
        refine m_aload_n (d_V_holdsFrame (k := 23) rfl) rfl ?_
        refine m_getR (d_V_holdsFrame (k := 24) rfl) fl_V_16 rfl (fun a6 => ?_)
        refine m_iload_n (d_V_holdsFrame (k := 25) rfl) rfl ?_
        refine m_cvI (c := 0) (vs := [.inl x5]) (st := []) (d_V_holdsFrame (k := 26) rfl) (s_B_at a6 x5 M) cd_B_at ml_V_60 im_B_at se_B_at rfl (by decide) rfl (Nat.le_of_ble_eq_true rfl) (fun x7 M => ?_)
        refine m_sipush (v := 256) (d_V_holdsFrame (k := 27) rfl) (by decide) ?_
        refine m_aload_n (d_V_holdsFrame (k := 28) rfl) rfl ?_
        refine m_getR (d_V_holdsFrame (k := 29) rfl) fl_V_16 rfl (fun a8 => ?_)
        refine m_iload_n (d_V_holdsFrame (k := 30) rfl) rfl ?_
        refine m_iconst (v := 1) (d_V_holdsFrame (k := 31) rfl) (by decide) ?_
        refine m_iadd (d_V_holdsFrame (k := 32) rfl) ?_
        refine m_cvI (c := 0) (vs := [.inl (x5 + (1 : Int32))]) (st := [.inl (256 : Int32), .inl x7]) (d_V_holdsFrame (k := 33) rfl) (s_B_at a8 (x5 + (1 : Int32)) M) cd_B_at ml_V_60 im_B_at se_B_at rfl (by decide) rfl (Nat.le_of_ble_eq_true rfl) (fun x9 M => ?_)
        refine m_imul (d_V_holdsFrame (k := 34) rfl) ?_
        refine m_iadd (d_V_holdsFrame (k := 35) rfl) ?_
        refine m_aload_n (d_V_holdsFrame (k := 36) rfl) rfl ?_
        refine m_getR (d_V_holdsFrame (k := 37) rfl) fl_V_16 rfl (fun a10 => ?_)
        refine m_iload_n (d_V_holdsFrame (k := 38) rfl) rfl ?_
        refine m_nsI (vs := [.inr a10, .inl x5]) (st := [.inl (x7 + ((256 : Int32) * x9))]) (d_V_holdsFrame (k := 39) rfl) (s_C_checkOf a10 x5 M) cd_C_checkOf mn_V_64 sa_C_checkOf (by decide) rfl (Nat.le_of_ble_eq_true rfl) (fun x11 M => ?_)
        refine m_icmp_eq (tgt := 74) (d_V_holdsFrame (k := 40) rfl) rfl ?_ ?_
        · refine m_aload_n (d_V_holdsFrame (k := 43) rfl) rfl ?_
          refine m_getR (d_V_holdsFrame (k := 44) rfl) fl_V_20 rfl (fun a12 => ?_)
          refine m_cvU (c := 0) (vs := []) (st := []) (d_V_holdsFrame (k := 45) rfl) (s_B_clear a12 M) cd_B_clear ml_V_47 im_B_clear se_B_clear rfl (by decide) rfl (Nat.le_of_ble_eq_true rfl) (fun _ M => ?_)
          refine m_aload_n (d_V_holdsFrame (k := 46) rfl) rfl ?_
          refine m_getR (d_V_holdsFrame (k := 47) rfl) fl_V_20 rfl (fun a13 => ?_)
          refine m_aload_n (d_V_holdsFrame (k := 48) rfl) rfl ?_
          refine m_getR (d_V_holdsFrame (k := 49) rfl) fl_V_16 rfl (fun a14 => ?_)
          refine m_iconst (v := 0) (d_V_holdsFrame (k := 50) rfl) (by decide) ?_
          refine m_iload_n (d_V_holdsFrame (k := 51) rfl) rfl ?_
          refine m_cvU (c := 0) (vs := [.inr a14, .inl (0 : Int32), .inl x5]) (st := []) (d_V_holdsFrame (k := 52) rfl) (s_B_addFrom a13 a14 (0 : Int32) x5 M) cd_B_addFrom ml_V_68 im_B_addFrom se_B_addFrom rfl (by decide) rfl (Nat.le_of_ble_eq_true rfl) (fun _ M => ?_)
          refine m_iconst (v := 1) (d_V_holdsFrame (k := 53) rfl) (by decide) ?_
          exact m_zret (d_V_holdsFrame (k := 54) rfl) rfl
        · refine m_iconst (v := 0) (d_V_holdsFrame (k := 41) rfl) (by decide) ?_
          exact m_zret (d_V_holdsFrame (k := 42) rfl) rfl
  · refine m_iconst (v := 0) (d_V_holdsFrame (k := 15) rfl) (by decide) ?_
    exact m_zret (d_V_holdsFrame (k := 16) rfl) rfl
theorem s_V_holdsFrame {E : mE} (t0 : Option Nat) (M : mM) : mSnd E mi_V_holdsFrame 3 [.inr t0] M enI (q_V_holdsFrame t0 M) := m_entryZ (by decide) (Nat.le_of_ble_eq_true rfl) rfl (m_drop (mles_s (mles_e (mles_e mles_0))) (v_V_holdsFrame t0 M))
def dt_V_hear : List (Nat × Instr × Nat) := [(0, .iload_n 1, 1), (1, .aload_n 0, 1), (2, .getfield 23, 3), (5, .if_icmp .ne 7, 3), (8, .iconst 1, 1), (9, .goto 4, 3), (12, .iconst 0, 1), (13, .istore_n 2, 1), (14, .aload_n 0, 1), (15, .iload_n 1, 1), (16, .putfield 23, 3), (19, .iload_n 2, 1), (20, .ifCond .eq 9, 3), (23, .aload_n 0, 1), (24, .invokevirtual 37, 3), (27, .iconst 0, 1), (28, .ireturn, 1), (29, .iconst 0, 1), (30, .istore_n 3, 1), (31, .aload_n 0, 1), (32, .getfield 34, 3), (35, .bipush 6, 2), (37, .if_icmp .ne 43, 3), (40, .aload_n 0, 1), (41, .getfield 30, 3), (44, .ifCond .eq 14, 3), (47, .aload_n 0, 1), (48, .invokevirtual 40, 3), (51, .ifCond .eq 7, 3), (54, .iconst 1, 1), (55, .goto 4, 3), (58, .iconst 0, 1), (59, .istore_n 3, 1), (60, .aload_n 0, 1), (61, .iconst 1, 1), (62, .putfield 30, 3), (65, .aload_n 0, 1), (66, .iconst 0, 1), (67, .putfield 44, 3), (70, .aload_n 0, 1), (71, .getfield 16, 3), (74, .invokevirtual 47, 3), (77, .goto 16, 3), (80, .aload_n 0, 1), (81, .getfield 34, 3), (84, .iconst 5, 1), (85, .if_icmp .eq 8, 3), (88, .aload_n 0, 1), (89, .iconst 0, 1), (90, .invokevirtual 50, 3), (93, .aload_n 0, 1), (94, .iconst 0, 1), (95, .putfield 34, 3), (98, .iload_n 3, 1), (99, .ireturn, 1)]
theorem dx_V_hear : ∀ p ∈ dt_V_hear, decode prog_6_method_4_code p.1 = .ok p.2 := by decide +kernel
theorem d_V_hear {k pc : Nat} {i : Instr} {n : Nat} (h : dt_V_hear[k]? = some (pc, i, n)) : decode mi_V_hear.2.1 pc = .ok (i, n) := dx_V_hear (pc, i, n) (List.mem_of_getElem? h)
def q_V_hear_93 (t0 : Option Nat) (i3 : Int32) (M : mM) : Option (Int32 × mM) :=
    x_pI M 4 t0 4 (0 : Int32) fun M =>
    x_rz i3 M
set_option maxRecDepth 20000 in
theorem v_V_hear_93 {E : mE} (t0 : Option Nat) (i3 : Int32) (M : mM) : mVr E mi_V_hear 4 93 [some (.inr t0), none, none, some (.inl i3)] [] M enI (q_V_hear_93 t0 i3 M) := by
  unfold q_V_hear_93
  refine m_aload_n (d_V_hear (k := 50) rfl) rfl ?_
  refine m_iconst (v := 0) (d_V_hear (k := 51) rfl) (by decide) ?_
  refine m_pI (d_V_hear (k := 52) rfl) fp_V_34 (fun h => absurd h (by decide)) rfl (fun M => ?_)
  refine m_iload_n (d_V_hear (k := 53) rfl) rfl ?_
  exact m_zret (d_V_hear (k := 54) rfl) rfl
def q_V_hear_59 (t0 : Option Nat) (j0 : Int32) (M : mM) : Option (Int32 × mM) :=
    x_pZ M 4 t0 2 (1 : Int32) fun M =>
    x_pI M 4 t0 1 (0 : Int32) fun M =>
    x_gR M 4 t0 0 fun a1 =>
    x_cv M 0 a1 (q_B_clear a1 M) fun _ M =>
    q_V_hear_93 t0 j0 M
set_option maxRecDepth 20000 in
theorem v_V_hear_59 {E : mE} (t0 : Option Nat) (j0 : Int32) (M : mM) : mVr E mi_V_hear 4 59 [some (.inr t0), none, none, none] [.inl j0] M enI (q_V_hear_59 t0 j0 M) := by
  unfold q_V_hear_59
  refine m_ist_n (ls' := [some (.inr t0), none, none, some (.inl j0)]) (d_V_hear (k := 32) rfl) (by decide) rfl ?_
  refine m_aload_n (d_V_hear (k := 33) rfl) rfl ?_
  refine m_iconst (v := 1) (d_V_hear (k := 34) rfl) (by decide) ?_
  refine m_pZ (d_V_hear (k := 35) rfl) fp_V_30 (fun h => absurd h (by decide)) rfl (fun M => ?_)
  refine m_aload_n (d_V_hear (k := 36) rfl) rfl ?_
  refine m_iconst (v := 0) (d_V_hear (k := 37) rfl) (by decide) ?_
  refine m_pI (d_V_hear (k := 38) rfl) fp_V_44 (fun h => absurd h (by decide)) rfl (fun M => ?_)
  refine m_aload_n (d_V_hear (k := 39) rfl) rfl ?_
  refine m_getR (d_V_hear (k := 40) rfl) fl_V_16 rfl (fun a1 => ?_)
  refine m_cvU (c := 0) (vs := []) (st := []) (d_V_hear (k := 41) rfl) (s_B_clear a1 M) cd_B_clear ml_V_47 im_B_clear se_B_clear rfl (by decide) rfl (Nat.le_of_ble_eq_true rfl) (fun _ M => ?_)
  refine m_goto (tgt := 93) (d_V_hear (k := 42) rfl) rfl ?_
  exact m_drop (mles_s (mles_n (mles_n (mles_s mles_0)))) (v_V_hear_93 t0 j0 M)
def q_V_hear_58 (t0 : Option Nat) (M : mM) : Option (Int32 × mM) :=
    q_V_hear_59 t0 (0 : Int32) M
set_option maxRecDepth 20000 in
theorem v_V_hear_58 {E : mE} (t0 : Option Nat) (M : mM) : mVr E mi_V_hear 4 58 [some (.inr t0), none, none, none] [] M enI (q_V_hear_58 t0 M) := by
  unfold q_V_hear_58
  refine m_iconst (v := 0) (d_V_hear (k := 31) rfl) (by decide) ?_
  exact m_drop (mles_s (mles_n (mles_n (mles_n mles_0)))) (v_V_hear_59 t0 (0 : Int32) M)
def q_V_hear_13 (t0 : Option Nat) (i1 : Int32) (j0 : Int32) (M : mM) : Option (Int32 × mM) :=
    x_pI M 4 t0 3 i1 fun M =>
    if j0 = 0 then
      x_gI M 4 t0 4 fun x1 =>
      if x1 = (6 : Int32) then
        x_gI M 4 t0 2 fun x2 =>
        if x2 = 0 then
          q_V_hear_58 t0 M
        else
          x_cv M 4 t0 (q_V_holdsFrame t0 M) fun x3 M =>
          if x3 = 0 then
            q_V_hear_58 t0 M
          else
            q_V_hear_59 t0 (1 : Int32) M
      else
        x_gI M 4 t0 4 fun x4 =>
        if x4 = (5 : Int32) then
          q_V_hear_93 t0 (0 : Int32) M
        else
          x_cv M 4 t0 (q_V_addBit t0 (0 : Int32) M) fun _ M =>
          q_V_hear_93 t0 (0 : Int32) M
    else
      x_cv M 4 t0 (q_V_hearOne t0 M) fun _ M =>
      x_rz (0 : Int32) M
set_option maxRecDepth 20000 in
theorem v_V_hear_13 {E : mE} (t0 : Option Nat) (i1 : Int32) (j0 : Int32) (M : mM) : mVr E mi_V_hear 4 13 [some (.inr t0), some (.inl i1), none, none] [.inl j0] M enI (q_V_hear_13 t0 i1 j0 M) := by
  unfold q_V_hear_13
  refine m_ist_n (ls' := [some (.inr t0), some (.inl i1), some (.inl j0), none]) (d_V_hear (k := 7) rfl) (by decide) rfl ?_
  refine m_aload_n (d_V_hear (k := 8) rfl) rfl ?_
  refine m_iload_n (d_V_hear (k := 9) rfl) rfl ?_
  refine m_pI (d_V_hear (k := 10) rfl) fp_V_23 (fun h => absurd h (by decide)) rfl (fun M => ?_)
  refine m_iload_n (d_V_hear (k := 11) rfl) rfl ?_
  refine m_if_eq (tgt := 29) (d_V_hear (k := 12) rfl) rfl ?_ ?_
  · refine m_iconst (v := 0) (d_V_hear (k := 17) rfl) (by decide) ?_
    refine m_ist_n (ls' := [some (.inr t0), some (.inl i1), some (.inl j0), some (.inl (0 : Int32))]) (d_V_hear (k := 18) rfl) (by decide) rfl ?_
    refine m_aload_n (d_V_hear (k := 19) rfl) rfl ?_
    refine m_getI (d_V_hear (k := 20) rfl) fl_V_34 rfl (fun x1 => ?_)
    refine m_bipush (v := 6) (d_V_hear (k := 21) rfl) (by decide) ?_
    refine m_icmp_ne (tgt := 80) (d_V_hear (k := 22) rfl) rfl ?_ ?_
    · refine m_aload_n (d_V_hear (k := 23) rfl) rfl ?_
      refine m_getI (d_V_hear (k := 24) rfl) fl_V_30 rfl (fun x2 => ?_)
      refine m_if_eq (tgt := 58) (d_V_hear (k := 25) rfl) rfl ?_ ?_
      · exact m_drop (mles_s (mles_n (mles_n (mles_n mles_0)))) (v_V_hear_58 t0 M)
      · refine m_aload_n (d_V_hear (k := 26) rfl) rfl ?_
        refine m_cvI (c := 4) (vs := []) (st := []) (d_V_hear (k := 27) rfl) (s_V_holdsFrame t0 M) cd_V_holdsFrame ml_V_40 im_V_holdsFrame se_V_holdsFrame rfl (by decide) rfl (Nat.le_of_ble_eq_true rfl) (fun x3 M => ?_)
        refine m_if_eq (tgt := 58) (d_V_hear (k := 28) rfl) rfl ?_ ?_
        · exact m_drop (mles_s (mles_n (mles_n (mles_n mles_0)))) (v_V_hear_58 t0 M)
        · refine m_iconst (v := 1) (d_V_hear (k := 29) rfl) (by decide) ?_
          refine m_goto (tgt := 59) (d_V_hear (k := 30) rfl) rfl ?_
          exact m_drop (mles_s (mles_n (mles_n (mles_n mles_0)))) (v_V_hear_59 t0 (1 : Int32) M)
    · refine m_aload_n (d_V_hear (k := 43) rfl) rfl ?_
      refine m_getI (d_V_hear (k := 44) rfl) fl_V_34 rfl (fun x4 => ?_)
      refine m_iconst (v := 5) (d_V_hear (k := 45) rfl) (by decide) ?_
      refine m_icmp_eq (tgt := 93) (d_V_hear (k := 46) rfl) rfl ?_ ?_
      · exact m_drop (mles_s (mles_n (mles_n (mles_s mles_0)))) (v_V_hear_93 t0 (0 : Int32) M)
      · refine m_aload_n (d_V_hear (k := 47) rfl) rfl ?_
        refine m_iconst (v := 0) (d_V_hear (k := 48) rfl) (by decide) ?_
        refine m_cvU (c := 4) (vs := [.inl (0 : Int32)]) (st := []) (d_V_hear (k := 49) rfl) (s_V_addBit t0 (0 : Int32) M) cd_V_addBit ml_V_50 im_V_addBit se_V_addBit rfl (by decide) rfl (Nat.le_of_ble_eq_true rfl) (fun _ M => ?_)
        exact m_drop (mles_s (mles_n (mles_n (mles_s mles_0)))) (v_V_hear_93 t0 (0 : Int32) M)
  · refine m_aload_n (d_V_hear (k := 13) rfl) rfl ?_
    refine m_cvU (c := 4) (vs := []) (st := []) (d_V_hear (k := 14) rfl) (s_V_hearOne t0 M) cd_V_hearOne ml_V_37 im_V_hearOne se_V_hearOne rfl (by decide) rfl (Nat.le_of_ble_eq_true rfl) (fun _ M => ?_)
    refine m_iconst (v := 0) (d_V_hear (k := 15) rfl) (by decide) ?_
    exact m_zret (d_V_hear (k := 16) rfl) rfl
def q_V_hear (t0 : Option Nat) (i1 : Int32) (M : mM) : Option (Int32 × mM) :=
    x_gI M 4 t0 3 fun x1 =>
    if i1 = x1 then
      q_V_hear_13 t0 i1 (1 : Int32) M
    else
      q_V_hear_13 t0 i1 (0 : Int32) M
set_option maxRecDepth 20000 in
theorem v_V_hear {E : mE} (t0 : Option Nat) (i1 : Int32) (M : mM) : mVr E mi_V_hear 4 0 [some (.inr t0), some (.inl i1), none, none] [] M enI (q_V_hear t0 i1 M) := by
  unfold q_V_hear
  refine m_iload_n (d_V_hear (k := 0) rfl) rfl ?_
  refine m_aload_n (d_V_hear (k := 1) rfl) rfl ?_
  refine m_getI (d_V_hear (k := 2) rfl) fl_V_23 rfl (fun x1 => ?_)
  refine m_icmp_ne (tgt := 12) (d_V_hear (k := 3) rfl) rfl ?_ ?_
  · refine m_iconst (v := 1) (d_V_hear (k := 4) rfl) (by decide) ?_
    refine m_goto (tgt := 13) (d_V_hear (k := 5) rfl) rfl ?_
    exact m_drop (mles_s (mles_s (mles_n (mles_n mles_0)))) (v_V_hear_13 t0 i1 (1 : Int32) M)
  · refine m_iconst (v := 0) (d_V_hear (k := 6) rfl) (by decide) ?_
    exact m_drop (mles_s (mles_s (mles_n (mles_n mles_0)))) (v_V_hear_13 t0 i1 (0 : Int32) M)
theorem s_V_hear {E : mE} (t0 : Option Nat) (i1 : Int32) (M : mM) : mSnd E mi_V_hear 4 [.inr t0, .inl i1] M enI (q_V_hear t0 i1 M) := m_entryZ (by decide) (Nat.le_of_ble_eq_true rfl) rfl (m_drop (mles_s (mles_s (mles_e (mles_e mles_0)))) (v_V_hear t0 i1 M))
def dt_V_hearNothing : List (Nat × Instr × Nat) := [(0, .aload_n 0, 1), (1, .iconst 0, 1), (2, .putfield 30, 3), (5, .aload_n 0, 1), (6, .iconst 0, 1), (7, .putfield 34, 3), (10, .return_, 1)]
theorem dx_V_hearNothing : ∀ p ∈ dt_V_hearNothing, decode prog_6_method_3_code p.1 = .ok p.2 := by decide +kernel
theorem d_V_hearNothing {k pc : Nat} {i : Instr} {n : Nat} (h : dt_V_hearNothing[k]? = some (pc, i, n)) : decode mi_V_hearNothing.2.1 pc = .ok (i, n) := dx_V_hearNothing (pc, i, n) (List.mem_of_getElem? h)
def q_V_hearNothing (t0 : Option Nat) (M : mM) : Option (Unit × mM) :=
    x_pZ M 4 t0 2 (0 : Int32) fun M =>
    x_pI M 4 t0 4 (0 : Int32) fun M =>
    some ((), M)
set_option maxRecDepth 20000 in
theorem v_V_hearNothing {E : mE} (t0 : Option Nat) (M : mM) : mVr E mi_V_hearNothing 0 0 [some (.inr t0)] [] M enU (q_V_hearNothing t0 M) := by
  unfold q_V_hearNothing
  refine m_aload_n (d_V_hearNothing (k := 0) rfl) rfl ?_
  refine m_iconst (v := 0) (d_V_hearNothing (k := 1) rfl) (by decide) ?_
  refine m_pZ (d_V_hearNothing (k := 2) rfl) fp_V_30 (fun h => absurd h (by decide)) rfl (fun M => ?_)
  refine m_aload_n (d_V_hearNothing (k := 3) rfl) rfl ?_
  refine m_iconst (v := 0) (d_V_hearNothing (k := 4) rfl) (by decide) ?_
  refine m_pI (d_V_hearNothing (k := 5) rfl) fp_V_34 (fun h => absurd h (by decide)) rfl (fun M => ?_)
  exact m_vret (d_V_hearNothing (k := 6) rfl) rfl
theorem s_V_hearNothing {E : mE} (t0 : Option Nat) (M : mM) : mSnd E mi_V_hearNothing 0 [.inr t0] M enU (q_V_hearNothing t0 M) := m_entryU (by decide) (Nat.le_of_ble_eq_true rfl) rfl (m_drop (mles_s mles_0) (v_V_hearNothing t0 M))
def dt_C_hearLevels : List (Nat × Instr × Nat) := [(0, .iconst 0, 1), (1, .istore_n 1, 1), (2, .iconst 0, 1), (3, .istore_n 2, 1), (4, .iload_n 2, 1), (5, .bipush 6, 2), (7, .if_icmp .ge 134, 3), (10, .aload_n 0, 1), (11, .getfield 11, 3), (14, .iload_n 2, 1), (15, .aaload, 1), (16, .astore_n 3, 1), (17, .aload_n 3, 1), (18, .getfield 257, 3), (21, .getfield 260, 3), (24, .ifCond .eq 7, 3), (27, .iconst 0, 1), (28, .goto 12, 3), (31, .aload_n 3, 1), (32, .getfield 113, 3), (35, .aload_n 0, 1), (36, .getfield 356, 3), (39, .iand, 1), (40, .istore 4, 2), (42, .aload_n 3, 1), (43, .iload 4, 2), (45, .ifCond .eq 7, 3), (48, .iconst 1, 1), (49, .goto 4, 3), (52, .iconst 0, 1), (53, .putfield 267, 3), (56, .iload 4, 2), (58, .ifCond .ne 13, 3), (61, .aload_n 3, 1), (62, .getfield 374, 3), (65, .invokevirtual 377, 3), (68, .goto 67, 3), (71, .aload_n 3, 1), (72, .getfield 374, 3), (75, .aload_n 0, 1), (76, .aload_n 3, 1), (77, .iload 4, 2), (79, .invokevirtual 380, 3), (82, .invokevirtual 95, 3), (85, .ifCond .eq 50, 3), (88, .iload_n 1, 1), (89, .iconst 1, 1), (90, .iload_n 2, 1), (91, .ishl, 1), (92, .ior, 1), (93, .istore_n 1, 1), (94, .aload_n 3, 1), (95, .dup, 1), (96, .getfield 276, 3), (99, .iconst 1, 1), (100, .iadd, 1), (101, .putfield 276, 3), (104, .aload_n 0, 1), (105, .aload_n 3, 1), (106, .getfield 374, 3), (109, .getfield 99, 3), (112, .iload 4, 2), (114, .aload_n 0, 1), (115, .getfield 362, 3), (118, .iand, 1), (119, .invokevirtual 384, 3), (122, .ifCond .eq 13, 3), (125, .aload_n 3, 1), (126, .dup, 1), (127, .getfield 279, 3), (130, .iconst 1, 1), (131, .iadd, 1), (132, .putfield 279, 3), (135, .iinc 2 1, 3), (138, .goto (-134), 3), (141, .iload_n 1, 1), (142, .ireturn, 1)]
theorem dx_C_hearLevels : ∀ p ∈ dt_C_hearLevels, decode prog_1_method_37_code p.1 = .ok p.2 := by decide +kernel
theorem d_C_hearLevels {k pc : Nat} {i : Instr} {n : Nat} (h : dt_C_hearLevels[k]? = some (pc, i, n)) : decode mi_C_hearLevels.2.1 pc = .ok (i, n) := dx_C_hearLevels (pc, i, n) (List.mem_of_getElem? h)
def q_C_hearLevels_135 (r4 : Option Nat → Int32 → Int32 → mM → Option (Int32 × mM)) (t0 : Option Nat) (i1 : Int32) (i2 : Int32) (M : mM) : Option (Int32 × mM) :=
    r4 t0 i1 (i2 + 1) M
set_option maxRecDepth 20000 in
theorem v_C_hearLevels_135 {E : mE} (r4 : Option Nat → Int32 → Int32 → mM → Option (Int32 × mM)) (h4 : ∀ (t0 : Option Nat) (i1 : Int32) (i2 : Int32) (M : mM), mVr E mi_C_hearLevels 5 4 [some (.inr t0), some (.inl i1), some (.inl i2), none, none] [] M enI (r4 t0 i1 i2 M)) (t0 : Option Nat) (i1 : Int32) (i2 : Int32) (M : mM) : mVr E mi_C_hearLevels 5 135 [some (.inr t0), some (.inl i1), some (.inl i2), none, none] [] M enI (q_C_hearLevels_135 r4 t0 i1 i2 M) := by
  unfold q_C_hearLevels_135
  refine m_inc (v := 1) (ls' := [some (.inr t0), some (.inl i1), some (.inl (i2 + 1)), none, none]) (d_C_hearLevels (k := 73) rfl) rfl (by decide) (by decide) rfl ?_
  refine m_goto (tgt := 4) (d_C_hearLevels (k := 74) rfl) rfl ?_
  exact m_drop (mles_s (mles_s (mles_s (mles_n (mles_n mles_0))))) (h4 t0 i1 (i2 + 1) M)
def q_C_hearLevels_53 (r4 : Option Nat → Int32 → Int32 → mM → Option (Int32 × mM)) (t0 : Option Nat) (i1 : Int32) (i2 : Int32) (t3 : Option Nat) (i4 : Int32) (j0 : Int32) (u1 : Option Nat) (M : mM) : Option (Int32 × mM) :=
    x_pZ M 8 u1 10 j0 fun M =>
    if i4 = 0 then
      x_gR M 8 t3 3 fun a1 =>
      x_cv M 4 a1 (q_V_hearNothing a1 M) fun _ M =>
      q_C_hearLevels_135 r4 t0 i1 i2 M
    else
      x_gR M 8 t3 3 fun a2 =>
      x_cv M 9 t0 (q_C_levelOf t0 t3 i4 M) fun x3 M =>
      x_cv M 4 a2 (q_V_hear a2 x3 M) fun x4 M =>
      if x4 = 0 then
        q_C_hearLevels_135 r4 t0 i1 i2 M
      else
        x_lt (i1 ||| ((1 : Int32) <<< (i2 &&& 31))) fun x5 =>
        x_gI M 8 t3 14 fun x6 =>
        x_pI M 8 t3 14 (x6 + (1 : Int32)) fun M =>
        x_gR M 8 t3 3 fun a7 =>
        x_gR M 4 a7 5 fun a8 =>
        x_gI M 9 t0 10 fun x9 =>
        x_cv M 9 t0 (q_C_isStray t0 a8 (i4 &&& x9) M) fun x10 M =>
        if x10 = 0 then
          q_C_hearLevels_135 r4 t0 x5 i2 M
        else
          x_gI M 8 t3 15 fun x11 =>
          x_pI M 8 t3 15 (x11 + (1 : Int32)) fun M =>
          q_C_hearLevels_135 r4 t0 x5 i2 M
set_option maxRecDepth 20000 in
theorem v_C_hearLevels_53 {E : mE} (r4 : Option Nat → Int32 → Int32 → mM → Option (Int32 × mM)) (h4 : ∀ (t0 : Option Nat) (i1 : Int32) (i2 : Int32) (M : mM), mVr E mi_C_hearLevels 5 4 [some (.inr t0), some (.inl i1), some (.inl i2), none, none] [] M enI (r4 t0 i1 i2 M)) (t0 : Option Nat) (i1 : Int32) (i2 : Int32) (t3 : Option Nat) (i4 : Int32) (j0 : Int32) (u1 : Option Nat) (M : mM) : mVr E mi_C_hearLevels 5 53 [some (.inr t0), some (.inl i1), some (.inl i2), some (.inr t3), some (.inl i4)] [.inl j0, .inr u1] M enI (q_C_hearLevels_53 r4 t0 i1 i2 t3 i4 j0 u1 M) := by
  unfold q_C_hearLevels_53
  refine m_pZ (d_C_hearLevels (k := 30) rfl) fp_C_267 (fun h => absurd h (by decide)) rfl (fun M => ?_)
  refine m_iload (d_C_hearLevels (k := 31) rfl) rfl ?_
  refine m_if_ne (tgt := 71) (d_C_hearLevels (k := 32) rfl) rfl ?_ ?_
  · refine m_aload_n (d_C_hearLevels (k := 33) rfl) rfl ?_
    refine m_getR (d_C_hearLevels (k := 34) rfl) fl_C_374 rfl (fun a1 => ?_)
    refine m_cvU (c := 4) (vs := []) (st := []) (d_C_hearLevels (k := 35) rfl) (s_V_hearNothing a1 M) cd_V_hearNothing ml_C_377 im_V_hearNothing se_V_hearNothing rfl (by decide) rfl (Nat.le_of_ble_eq_true rfl) (fun _ M => ?_)
    refine m_goto (tgt := 135) (d_C_hearLevels (k := 36) rfl) rfl ?_
    exact m_drop (mles_s (mles_s (mles_s (mles_n (mles_n mles_0))))) (v_C_hearLevels_135 r4 h4 t0 i1 i2 M)
  · refine m_aload_n (d_C_hearLevels (k := 37) rfl) rfl ?_
    refine m_getR (d_C_hearLevels (k := 38) rfl) fl_C_374 rfl (fun a2 => ?_)
    refine m_aload_n (d_C_hearLevels (k := 39) rfl) rfl ?_
    refine m_aload_n (d_C_hearLevels (k := 40) rfl) rfl ?_
    refine m_iload (d_C_hearLevels (k := 41) rfl) rfl ?_
    refine m_cvI (c := 9) (vs := [.inr t3, .inl i4]) (st := [.inr a2]) (d_C_hearLevels (k := 42) rfl) (s_C_levelOf t0 t3 i4 M) cd_C_levelOf ml_C_380 im_C_levelOf se_C_levelOf rfl (by decide) rfl (Nat.le_of_ble_eq_true rfl) (fun x3 M => ?_)
    refine m_cvI (c := 4) (vs := [.inl x3]) (st := []) (d_C_hearLevels (k := 43) rfl) (s_V_hear a2 x3 M) cd_V_hear ml_C_95 im_V_hear se_V_hear rfl (by decide) rfl (Nat.le_of_ble_eq_true rfl) (fun x4 M => ?_)
    refine m_if_eq (tgt := 135) (d_C_hearLevels (k := 44) rfl) rfl ?_ ?_
    · exact m_drop (mles_s (mles_s (mles_s (mles_n (mles_n mles_0))))) (v_C_hearLevels_135 r4 h4 t0 i1 i2 M)
    · refine m_iload_n (d_C_hearLevels (k := 45) rfl) rfl ?_
      refine m_iconst (v := 1) (d_C_hearLevels (k := 46) rfl) (by decide) ?_
      refine m_iload_n (d_C_hearLevels (k := 47) rfl) rfl ?_
      refine m_ishl (d_C_hearLevels (k := 48) rfl) ?_
      refine m_ior (d_C_hearLevels (k := 49) rfl) ?_
      refine m_lt (fun x5 => ?_)
      refine m_ist_n (ls' := [some (.inr t0), some (.inl x5), some (.inl i2), some (.inr t3), some (.inl i4)]) (d_C_hearLevels (k := 50) rfl) (by decide) rfl ?_
      refine m_aload_n (d_C_hearLevels (k := 51) rfl) rfl ?_
      refine m_dup (d_C_hearLevels (k := 52) rfl) ?_
      refine m_getI (d_C_hearLevels (k := 53) rfl) fl_C_276 rfl (fun x6 => ?_)
      refine m_iconst (v := 1) (d_C_hearLevels (k := 54) rfl) (by decide) ?_
      refine m_iadd (d_C_hearLevels (k := 55) rfl) ?_
      refine m_pI (d_C_hearLevels (k := 56) rfl) fp_C_276 (fun h => absurd h (by decide)) rfl (fun M => ?_)
      refine m_aload_n (d_C_hearLevels (k := 57) rfl) rfl ?_
      refine m_aload_n (d_C_hearLevels (k := 58) rfl) rfl ?_
      refine m_getR (d_C_hearLevels (k := 59) rfl) fl_C_374 rfl (fun a7 => ?_)
      refine m_getR (d_C_hearLevels (k := 60) rfl) fl_C_99 rfl (fun a8 => ?_)
      refine m_iload (d_C_hearLevels (k := 61) rfl) rfl ?_
      refine m_aload_n (d_C_hearLevels (k := 62) rfl) rfl ?_
      refine m_getI (d_C_hearLevels (k := 63) rfl) fl_C_362 rfl (fun x9 => ?_)
      refine m_iand (d_C_hearLevels (k := 64) rfl) ?_
      refine m_cvI (c := 9) (vs := [.inr a8, .inl (i4 &&& x9)]) (st := []) (d_C_hearLevels (k := 65) rfl) (s_C_isStray t0 a8 (i4 &&& x9) M) cd_C_isStray ml_C_384 im_C_isStray se_C_isStray rfl (by decide) rfl (Nat.le_of_ble_eq_true rfl) (fun x10 M => ?_)
      refine m_if_eq (tgt := 135) (d_C_hearLevels (k := 66) rfl) rfl ?_ ?_
      · exact m_drop (mles_s (mles_s (mles_s (mles_n (mles_n mles_0))))) (v_C_hearLevels_135 r4 h4 t0 x5 i2 M)
      · refine m_aload_n (d_C_hearLevels (k := 67) rfl) rfl ?_
        refine m_dup (d_C_hearLevels (k := 68) rfl) ?_
        refine m_getI (d_C_hearLevels (k := 69) rfl) fl_C_279 rfl (fun x11 => ?_)
        refine m_iconst (v := 1) (d_C_hearLevels (k := 70) rfl) (by decide) ?_
        refine m_iadd (d_C_hearLevels (k := 71) rfl) ?_
        refine m_pI (d_C_hearLevels (k := 72) rfl) fp_C_279 (fun h => absurd h (by decide)) rfl (fun M => ?_)
        exact m_drop (mles_s (mles_s (mles_s (mles_n (mles_n mles_0))))) (v_C_hearLevels_135 r4 h4 t0 x5 i2 M)
def q_C_hearLevels_40 (r4 : Option Nat → Int32 → Int32 → mM → Option (Int32 × mM)) (t0 : Option Nat) (i1 : Int32) (i2 : Int32) (t3 : Option Nat) (j0 : Int32) (M : mM) : Option (Int32 × mM) :=
    if j0 = 0 then
      q_C_hearLevels_53 r4 t0 i1 i2 t3 j0 (0 : Int32) t3 M
    else
      q_C_hearLevels_53 r4 t0 i1 i2 t3 j0 (1 : Int32) t3 M
set_option maxRecDepth 20000 in
theorem v_C_hearLevels_40 {E : mE} (r4 : Option Nat → Int32 → Int32 → mM → Option (Int32 × mM)) (h4 : ∀ (t0 : Option Nat) (i1 : Int32) (i2 : Int32) (M : mM), mVr E mi_C_hearLevels 5 4 [some (.inr t0), some (.inl i1), some (.inl i2), none, none] [] M enI (r4 t0 i1 i2 M)) (t0 : Option Nat) (i1 : Int32) (i2 : Int32) (t3 : Option Nat) (j0 : Int32) (M : mM) : mVr E mi_C_hearLevels 5 40 [some (.inr t0), some (.inl i1), some (.inl i2), some (.inr t3), none] [.inl j0] M enI (q_C_hearLevels_40 r4 t0 i1 i2 t3 j0 M) := by
  unfold q_C_hearLevels_40
  refine m_ist (ls' := [some (.inr t0), some (.inl i1), some (.inl i2), some (.inr t3), some (.inl j0)]) (d_C_hearLevels (k := 23) rfl) (by decide) rfl ?_
  refine m_aload_n (d_C_hearLevels (k := 24) rfl) rfl ?_
  refine m_iload (d_C_hearLevels (k := 25) rfl) rfl ?_
  refine m_if_eq (tgt := 52) (d_C_hearLevels (k := 26) rfl) rfl ?_ ?_
  · refine m_iconst (v := 0) (d_C_hearLevels (k := 29) rfl) (by decide) ?_
    exact m_drop (mles_s (mles_s (mles_s (mles_s (mles_s mles_0))))) (v_C_hearLevels_53 r4 h4 t0 i1 i2 t3 j0 (0 : Int32) t3 M)
  · refine m_iconst (v := 1) (d_C_hearLevels (k := 27) rfl) (by decide) ?_
    refine m_goto (tgt := 53) (d_C_hearLevels (k := 28) rfl) rfl ?_
    exact m_drop (mles_s (mles_s (mles_s (mles_s (mles_s mles_0))))) (v_C_hearLevels_53 r4 h4 t0 i1 i2 t3 j0 (1 : Int32) t3 M)
def q_C_hearLevels_4_b (r4 : Option Nat → Int32 → Int32 → mM → Option (Int32 × mM)) (t0 : Option Nat) (i1 : Int32) (i2 : Int32) (M : mM) : Option (Int32 × mM) :=
    if i2 < (6 : Int32) then
      x_gR M 9 t0 0 fun a1 =>
      x_aR M 2 a1 i2 fun a2 =>
      x_gR M 8 a2 2 fun a3 =>
      x_gI M 7 a3 5 fun x4 =>
      if x4 = 0 then
        x_gI M 8 a2 8 fun x5 =>
        x_gI M 9 t0 8 fun x6 =>
        q_C_hearLevels_40 r4 t0 i1 i2 a2 (x5 &&& x6) M
      else
        q_C_hearLevels_40 r4 t0 i1 i2 a2 (0 : Int32) M
    else
      some (i1, M)
def q_C_hearLevels_4 : Nat → Option Nat → Int32 → Int32 → mM → Option (Int32 × mM)
  | 0, _, _, _, _ => none
  | n + 1, t0, i1, i2, M => q_C_hearLevels_4_b (q_C_hearLevels_4 n) t0 i1 i2 M
set_option maxRecDepth 20000 in
theorem v_C_hearLevels_4_b {E : mE} (r4 : Option Nat → Int32 → Int32 → mM → Option (Int32 × mM)) (h4 : ∀ (t0 : Option Nat) (i1 : Int32) (i2 : Int32) (M : mM), mVr E mi_C_hearLevels 5 4 [some (.inr t0), some (.inl i1), some (.inl i2), none, none] [] M enI (r4 t0 i1 i2 M)) (t0 : Option Nat) (i1 : Int32) (i2 : Int32) (M : mM) : mVr E mi_C_hearLevels 5 4 [some (.inr t0), some (.inl i1), some (.inl i2), none, none] [] M enI (q_C_hearLevels_4_b r4 t0 i1 i2 M) := by
  unfold q_C_hearLevels_4_b
  refine m_iload_n (d_C_hearLevels (k := 4) rfl) rfl ?_
  refine m_bipush (v := 6) (d_C_hearLevels (k := 5) rfl) (by decide) ?_
  refine m_icmp_ge (tgt := 141) (d_C_hearLevels (k := 6) rfl) rfl ?_ ?_
  · refine m_aload_n (d_C_hearLevels (k := 7) rfl) rfl ?_
    refine m_getR (d_C_hearLevels (k := 8) rfl) fl_C_11 rfl (fun a1 => ?_)
    refine m_iload_n (d_C_hearLevels (k := 9) rfl) rfl ?_
    refine m_aald (t := 2) (d_C_hearLevels (k := 10) rfl) rfl (fun a2 => ?_)
    refine m_ast_n (ls' := [some (.inr t0), some (.inl i1), some (.inl i2), some (.inr a2), none]) (d_C_hearLevels (k := 11) rfl) (by decide) rfl ?_
    refine m_aload_n (d_C_hearLevels (k := 12) rfl) rfl ?_
    refine m_getR (d_C_hearLevels (k := 13) rfl) fl_C_257 rfl (fun a3 => ?_)
    refine m_getI (d_C_hearLevels (k := 14) rfl) fl_C_260 rfl (fun x4 => ?_)
    refine m_if_eq (tgt := 31) (d_C_hearLevels (k := 15) rfl) rfl ?_ ?_
    · refine m_aload_n (d_C_hearLevels (k := 18) rfl) rfl ?_
      refine m_getI (d_C_hearLevels (k := 19) rfl) fl_C_113 rfl (fun x5 => ?_)
      refine m_aload_n (d_C_hearLevels (k := 20) rfl) rfl ?_
      refine m_getI (d_C_hearLevels (k := 21) rfl) fl_C_356 rfl (fun x6 => ?_)
      refine m_iand (d_C_hearLevels (k := 22) rfl) ?_
      exact m_drop (mles_s (mles_s (mles_s (mles_s (mles_n mles_0))))) (v_C_hearLevels_40 r4 h4 t0 i1 i2 a2 (x5 &&& x6) M)
    · refine m_iconst (v := 0) (d_C_hearLevels (k := 16) rfl) (by decide) ?_
      refine m_goto (tgt := 40) (d_C_hearLevels (k := 17) rfl) rfl ?_
      exact m_drop (mles_s (mles_s (mles_s (mles_s (mles_n mles_0))))) (v_C_hearLevels_40 r4 h4 t0 i1 i2 a2 (0 : Int32) M)
  · refine m_iload_n (d_C_hearLevels (k := 75) rfl) rfl ?_
    exact m_iret (d_C_hearLevels (k := 76) rfl) rfl
theorem v_C_hearLevels_4 {E : mE} : ∀ (n : Nat) (t0 : Option Nat) (i1 : Int32) (i2 : Int32) (M : mM), mVr E mi_C_hearLevels 5 4 [some (.inr t0), some (.inl i1), some (.inl i2), none, none] [] M enI (q_C_hearLevels_4 n t0 i1 i2 M)
  | 0, _, _, _, _ => m_none
  | n + 1, t0, i1, i2, M => v_C_hearLevels_4_b _ (v_C_hearLevels_4 n) t0 i1 i2 M
def q_C_hearLevels (t0 : Option Nat) (M : mM) : Option (Int32 × mM) :=
    q_C_hearLevels_4 mFU t0 (0 : Int32) (0 : Int32) M
set_option maxRecDepth 20000 in
theorem v_C_hearLevels {E : mE} (t0 : Option Nat) (M : mM) : mVr E mi_C_hearLevels 5 0 [some (.inr t0), none, none, none, none] [] M enI (q_C_hearLevels t0 M) := by
  unfold q_C_hearLevels
  refine m_iconst (v := 0) (d_C_hearLevels (k := 0) rfl) (by decide) ?_
  refine m_ist_n (ls' := [some (.inr t0), some (.inl (0 : Int32)), none, none, none]) (d_C_hearLevels (k := 1) rfl) (by decide) rfl ?_
  refine m_iconst (v := 0) (d_C_hearLevels (k := 2) rfl) (by decide) ?_
  refine m_ist_n (ls' := [some (.inr t0), some (.inl (0 : Int32)), some (.inl (0 : Int32)), none, none]) (d_C_hearLevels (k := 3) rfl) (by decide) rfl ?_
  exact m_drop (mles_s (mles_s (mles_s (mles_n (mles_n mles_0))))) (v_C_hearLevels_4 mFU t0 (0 : Int32) (0 : Int32) M)
theorem s_C_hearLevels {E : mE} (t0 : Option Nat) (M : mM) : mSnd E mi_C_hearLevels 5 [.inr t0] M enI (q_C_hearLevels t0 M) := m_entryI (by decide) (Nat.le_of_ble_eq_true rfl) rfl (m_drop (mles_s (mles_e (mles_e (mles_e (mles_e mles_0))))) (v_C_hearLevels t0 M))
def dt_C_sayInformation : List (Nat × Instr × Nat) := [(0, .aload_n 0, 1), (1, .getfield 169, 3), (4, .aload_n 0, 1), (5, .getfield 148, 3), (8, .iconst 0, 1), (9, .iconst 2, 1), (10, .iload_n 1, 1), (11, .imul, 1), (12, .iadd, 1), (13, .bipush 32, 2), (15, .aload_n 0, 1), (16, .getfield 294, 3), (19, .imul, 1), (20, .iadd, 1), (21, .iconst 1, 1), (22, .invokestatic 176, 3), (25, .astore_n 3, 1), (26, .aload_n 3, 1), (27, .ifnull 17, 3), (30, .aload_n 2, 1), (31, .ifnull 13, 3), (34, .aload_n 3, 1), (35, .aload_n 2, 1), (36, .iconst 0, 1), (37, .aload_n 2, 1), (38, .getfield 61, 3), (41, .invokevirtual 134, 3), (44, .return_, 1)]
theorem dx_C_sayInformation : ∀ p ∈ dt_C_sayInformation, decode prog_1_method_52_code p.1 = .ok p.2 := by decide +kernel
theorem d_C_sayInformation {k pc : Nat} {i : Instr} {n : Nat} (h : dt_C_sayInformation[k]? = some (pc, i, n)) : decode mi_C_sayInformation.2.1 pc = .ok (i, n) := dx_C_sayInformation (pc, i, n) (List.mem_of_getElem? h)
def q_C_sayInformation (t0 : Option Nat) (i1 : Int32) (t2 : Option Nat) (M : mM) : Option (Unit × mM) :=
    x_gR M 2 t0 0 fun a1 =>
    x_gR M 2 t0 2 fun a2 =>
    x_gI M 2 t0 10 fun x3 =>
    x_cl (q_C_say a1 a2 (((0 : Int32) + ((2 : Int32) * i1)) + ((32 : Int32) * x3)) (1 : Int32) M) fun a4 M =>
    x_nl a4 (
      some ((), M)
    ) (
      x_nl t2 (
        some ((), M)
      ) (
        x_gI M 0 t2 1 fun x5 =>
        x_cv M 0 a4 (q_B_addFrom a4 t2 (0 : Int32) x5 M) fun _ M =>
        some ((), M)
      )
    )
set_option maxRecDepth 20000 in
theorem v_C_sayInformation {E : mE} (t0 : Option Nat) (i1 : Int32) (t2 : Option Nat) (M : mM) : mVr E mi_C_sayInformation 3 0 [some (.inr t0), some (.inl i1), some (.inr t2), none] [] M enU (q_C_sayInformation t0 i1 t2 M) := by
  unfold q_C_sayInformation
  refine m_aload_n (d_C_sayInformation (k := 0) rfl) rfl ?_
  refine m_getR (d_C_sayInformation (k := 1) rfl) fl_C_169 rfl (fun a1 => ?_)
  refine m_aload_n (d_C_sayInformation (k := 2) rfl) rfl ?_
  refine m_getR (d_C_sayInformation (k := 3) rfl) fl_C_148 rfl (fun a2 => ?_)
  refine m_iconst (v := 0) (d_C_sayInformation (k := 4) rfl) (by decide) ?_
  refine m_iconst (v := 2) (d_C_sayInformation (k := 5) rfl) (by decide) ?_
  refine m_iload_n (d_C_sayInformation (k := 6) rfl) rfl ?_
  refine m_imul (d_C_sayInformation (k := 7) rfl) ?_
  refine m_iadd (d_C_sayInformation (k := 8) rfl) ?_
  refine m_bipush (v := 32) (d_C_sayInformation (k := 9) rfl) (by decide) ?_
  refine m_aload_n (d_C_sayInformation (k := 10) rfl) rfl ?_
  refine m_getI (d_C_sayInformation (k := 11) rfl) fl_C_294 rfl (fun x3 => ?_)
  refine m_imul (d_C_sayInformation (k := 12) rfl) ?_
  refine m_iadd (d_C_sayInformation (k := 13) rfl) ?_
  refine m_iconst (v := 1) (d_C_sayInformation (k := 14) rfl) (by decide) ?_
  refine m_csR (vs := [.inr a1, .inr a2, .inl (((0 : Int32) + ((2 : Int32) * i1)) + ((32 : Int32) * x3)), .inl (1 : Int32)]) (st := []) (d_C_sayInformation (k := 15) rfl) (s_C_say a1 a2 (((0 : Int32) + ((2 : Int32) * i1)) + ((32 : Int32) * x3)) (1 : Int32) M) cd_C_say ml_C_176 sa_C_say (by decide) rfl (Nat.le_of_ble_eq_true rfl) (fun a4 M => ?_)
  refine m_ast_n (ls' := [some (.inr t0), some (.inl i1), some (.inr t2), some (.inr a4)]) (d_C_sayInformation (k := 16) rfl) (by decide) rfl ?_
  refine m_aload_n (d_C_sayInformation (k := 17) rfl) rfl ?_
  refine m_ifnull (tgt := 44) (d_C_sayInformation (k := 18) rfl) rfl ?_ ?_
  · exact m_vret (d_C_sayInformation (k := 27) rfl) rfl
  · refine m_aload_n (d_C_sayInformation (k := 19) rfl) rfl ?_
    refine m_ifnull (tgt := 44) (d_C_sayInformation (k := 20) rfl) rfl ?_ ?_
    · exact m_vret (d_C_sayInformation (k := 27) rfl) rfl
    · refine m_aload_n (d_C_sayInformation (k := 21) rfl) rfl ?_
      refine m_aload_n (d_C_sayInformation (k := 22) rfl) rfl ?_
      refine m_iconst (v := 0) (d_C_sayInformation (k := 23) rfl) (by decide) ?_
      refine m_aload_n (d_C_sayInformation (k := 24) rfl) rfl ?_
      refine m_getI (d_C_sayInformation (k := 25) rfl) fl_C_61 rfl (fun x5 => ?_)
      refine m_cvU (c := 0) (vs := [.inr t2, .inl (0 : Int32), .inl x5]) (st := []) (d_C_sayInformation (k := 26) rfl) (s_B_addFrom a4 t2 (0 : Int32) x5 M) cd_B_addFrom ml_C_134 im_B_addFrom se_B_addFrom rfl (by decide) rfl (Nat.le_of_ble_eq_true rfl) (fun _ M => ?_)
      exact m_vret (d_C_sayInformation (k := 27) rfl) rfl
theorem s_C_sayInformation {E : mE} (t0 : Option Nat) (i1 : Int32) (t2 : Option Nat) (M : mM) : mSnd E mi_C_sayInformation 3 [.inr t0, .inl i1, .inr t2] M enU (q_C_sayInformation t0 i1 t2 M) := m_entryU (by decide) (Nat.le_of_ble_eq_true rfl) rfl (m_drop (mles_s (mles_s (mles_s (mles_e mles_0)))) (v_C_sayInformation t0 i1 t2 M))
def dt_W_dropFirst : List (Nat × Instr × Nat) := [(0, .iconst 0, 1), (1, .iload_n 1, 1), (2, .aload_n 0, 1), (3, .getfield 24, 3), (6, .invokestatic 34, 3), (9, .invokestatic 7, 3), (12, .istore_n 2, 1), (13, .aload_n 0, 1), (14, .aload_n 0, 1), (15, .getfield 28, 3), (18, .iload_n 2, 1), (19, .iadd, 1), (20, .aload_n 0, 1), (21, .getfield 15, 3), (24, .arraylength, 1), (25, .irem, 1), (26, .putfield 28, 3), (29, .aload_n 0, 1), (30, .dup, 1), (31, .getfield 24, 3), (34, .iload_n 2, 1), (35, .isub, 1), (36, .putfield 24, 3), (39, .return_, 1)]
theorem dx_W_dropFirst : ∀ p ∈ dt_W_dropFirst, decode prog_8_method_5_code p.1 = .ok p.2 := by decide +kernel
theorem d_W_dropFirst {k pc : Nat} {i : Instr} {n : Nat} (h : dt_W_dropFirst[k]? = some (pc, i, n)) : decode mi_W_dropFirst.2.1 pc = .ok (i, n) := dx_W_dropFirst (pc, i, n) (List.mem_of_getElem? h)
def q_W_dropFirst (t0 : Option Nat) (i1 : Int32) (M : mM) : Option (Unit × mM) :=
    x_gI M 6 t0 2 fun x1 =>
    x_lt (if (0 : Int32) < (if x1 < i1 then x1 else i1) then (if x1 < i1 then x1 else i1) else (0 : Int32)) fun x2 =>
    x_gI M 6 t0 1 fun x3 =>
    x_gR M 6 t0 0 fun a4 =>
    x_al M 2 a4 fun x5 =>
    x_rm (x3 + x2) x5 fun x6 =>
    x_pI M 6 t0 1 x6 fun M =>
    x_gI M 6 t0 2 fun x7 =>
    x_pI M 6 t0 2 (x7 - x2) fun M =>
    some ((), M)
set_option maxRecDepth 20000 in
theorem v_W_dropFirst {E : mE} (t0 : Option Nat) (i1 : Int32) (M : mM) : mVr E mi_W_dropFirst 1 0 [some (.inr t0), some (.inl i1), none] [] M enU (q_W_dropFirst t0 i1 M) := by
  unfold q_W_dropFirst
  refine m_iconst (v := 0) (d_W_dropFirst (k := 0) rfl) (by decide) ?_
  refine m_iload_n (d_W_dropFirst (k := 1) rfl) rfl ?_
  refine m_aload_n (d_W_dropFirst (k := 2) rfl) rfl ?_
  refine m_getI (d_W_dropFirst (k := 3) rfl) fl_W_24 rfl (fun x1 => ?_)
  refine m_min (d_W_dropFirst (k := 4) rfl) mm_W_34 ms_min mi_math mc_min (Nat.le_of_ble_eq_true rfl) ?_
  refine m_max (d_W_dropFirst (k := 5) rfl) mm_W_7 ms_max mi_math mc_max (Nat.le_of_ble_eq_true rfl) ?_
  refine m_lt (fun x2 => ?_)
  refine m_ist_n (ls' := [some (.inr t0), some (.inl i1), some (.inl x2)]) (d_W_dropFirst (k := 6) rfl) (by decide) rfl ?_
  refine m_aload_n (d_W_dropFirst (k := 7) rfl) rfl ?_
  refine m_aload_n (d_W_dropFirst (k := 8) rfl) rfl ?_
  refine m_getI (d_W_dropFirst (k := 9) rfl) fl_W_28 rfl (fun x3 => ?_)
  refine m_iload_n (d_W_dropFirst (k := 10) rfl) rfl ?_
  refine m_iadd (d_W_dropFirst (k := 11) rfl) ?_
  refine m_aload_n (d_W_dropFirst (k := 12) rfl) rfl ?_
  refine m_getR (d_W_dropFirst (k := 13) rfl) fl_W_15 rfl (fun a4 => ?_)
  refine m_alen (t := 2) (d_W_dropFirst (k := 14) rfl) rfl (fun x5 => ?_)
  refine m_irem (d_W_dropFirst (k := 15) rfl) (fun x6 => ?_)
  refine m_pI (d_W_dropFirst (k := 16) rfl) fp_W_28 (fun h => absurd h (by decide)) rfl (fun M => ?_)
  refine m_aload_n (d_W_dropFirst (k := 17) rfl) rfl ?_
  refine m_dup (d_W_dropFirst (k := 18) rfl) ?_
  refine m_getI (d_W_dropFirst (k := 19) rfl) fl_W_24 rfl (fun x7 => ?_)
  refine m_iload_n (d_W_dropFirst (k := 20) rfl) rfl ?_
  refine m_isub (d_W_dropFirst (k := 21) rfl) ?_
  refine m_pI (d_W_dropFirst (k := 22) rfl) fp_W_24 (fun h => absurd h (by decide)) rfl (fun M => ?_)
  exact m_vret (d_W_dropFirst (k := 23) rfl) rfl
theorem s_W_dropFirst {E : mE} (t0 : Option Nat) (i1 : Int32) (M : mM) : mSnd E mi_W_dropFirst 1 [.inr t0, .inl i1] M enU (q_W_dropFirst t0 i1 M) := m_entryU (by decide) (Nat.le_of_ble_eq_true rfl) rfl (m_drop (mles_s (mles_s (mles_e mles_0))) (v_W_dropFirst t0 i1 M))
def dt_C_sayContent : List (Nat × Instr × Nat) := [(0, .aload_n 0, 1), (1, .getfield 309, 3), (4, .iconst 0, 1), (5, .invokevirtual 217, 3), (8, .astore_n 1, 1), (9, .aload_n 1, 1), (10, .ifnonnull 17, 3), (13, .aload_n 0, 1), (14, .getfield 306, 3), (17, .getfield 61, 3), (20, .ifCond .ne 7, 3), (23, .aconst_null, 1), (24, .goto 10, 3), (27, .aload_n 0, 1), (28, .getfield 312, 3), (31, .invokevirtual 128, 3), (34, .astore_n 2, 1), (35, .aload_n 2, 1), (36, .ifnonnull 4, 3), (39, .return_, 1), (40, .aload_n 1, 1), (41, .ifnull 31, 3), (44, .aload_n 2, 1), (45, .sipush 207, 3), (48, .invokevirtual 207, 3), (51, .aload_n 2, 1), (52, .aload_n 1, 1), (53, .iconst 0, 1), (54, .aload_n 1, 1), (55, .getfield 61, 3), (58, .invokevirtual 134, 3), (61, .aload_n 0, 1), (62, .getfield 309, 3), (65, .iconst 1, 1), (66, .invokevirtual 221, 3), (69, .goto 41, 3), (72, .bipush 16, 2), (74, .aload_n 0, 1), (75, .getfield 306, 3), (78, .getfield 61, 3), (81, .invokestatic 191, 3), (84, .istore_n 3, 1), (85, .aload_n 2, 1), (86, .sipush 240, 3), (89, .invokevirtual 207, 3), (92, .aload_n 2, 1), (93, .aload_n 0, 1), (94, .getfield 306, 3), (97, .iconst 0, 1), (98, .iload_n 3, 1), (99, .invokevirtual 134, 3), (102, .aload_n 0, 1), (103, .getfield 306, 3), (106, .iload_n 3, 1), (107, .invokevirtual 197, 3), (110, .aload_n 0, 1), (111, .aload_n 0, 1), (112, .getfield 288, 3), (115, .aload_n 2, 1), (116, .invokestatic 496, 3), (119, .aload_n 0, 1), (120, .aload_n 0, 1), (121, .getfield 288, 3), (124, .iconst 1, 1), (125, .iadd, 1), (126, .bipush 7, 2), (128, .iand, 1), (129, .putfield 288, 3), (132, .aload_n 0, 1), (133, .getfield 173, 3), (136, .ifCond .ne 16, 3), (139, .aload_n 0, 1), (140, .aload_n 0, 1), (141, .getfield 169, 3), (144, .getfield 120, 3), (147, .iconst 4, 1), (148, .iaload, 1), (149, .putfield 173, 3), (152, .return_, 1)]
theorem dx_C_sayContent : ∀ p ∈ dt_C_sayContent, decode prog_1_method_59_code p.1 = .ok p.2 := by decide +kernel
theorem d_C_sayContent {k pc : Nat} {i : Instr} {n : Nat} (h : dt_C_sayContent[k]? = some (pc, i, n)) : decode mi_C_sayContent.2.1 pc = .ok (i, n) := dx_C_sayContent (pc, i, n) (List.mem_of_getElem? h)
def q_C_sayContent_110 (t0 : Option Nat) (t2 : Option Nat) (M : mM) : Option (Unit × mM) :=
    x_gI M 2 t0 8 fun x1 =>
    x_cl (q_C_sayInformation t0 x1 t2 M) fun _ M =>
    x_gI M 2 t0 8 fun x2 =>
    x_pI M 2 t0 8 ((x2 + (1 : Int32)) &&& (7 : Int32)) fun M =>
    x_gI M 2 t0 11 fun x3 =>
    if x3 = 0 then
      x_gR M 2 t0 0 fun a4 =>
      x_gR M 8 a4 1 fun a5 =>
      x_aI M 0 a5 (4 : Int32) fun x6 =>
      x_pI M 2 t0 11 x6 fun M =>
      some ((), M)
    else
      some ((), M)
set_option maxRecDepth 20000 in
theorem v_C_sayContent_110 {E : mE} (t0 : Option Nat) (t2 : Option Nat) (M : mM) : mVr E mi_C_sayContent 4 110 [some (.inr t0), none, some (.inr t2), none] [] M enU (q_C_sayContent_110 t0 t2 M) := by
  unfold q_C_sayContent_110
  refine m_aload_n (d_C_sayContent (k := 55) rfl) rfl ?_
  refine m_aload_n (d_C_sayContent (k := 56) rfl) rfl ?_
  refine m_getI (d_C_sayContent (k := 57) rfl) fl_C_288 rfl (fun x1 => ?_)
  refine m_aload_n (d_C_sayContent (k := 58) rfl) rfl ?_
  refine m_csU (vs := [.inr t0, .inl x1, .inr t2]) (st := []) (d_C_sayContent (k := 59) rfl) (s_C_sayInformation t0 x1 t2 M) cd_C_sayInformation ml_C_496 sa_C_sayInformation (by decide) rfl (Nat.le_of_ble_eq_true rfl) (fun _ M => ?_)
  refine m_aload_n (d_C_sayContent (k := 60) rfl) rfl ?_
  refine m_aload_n (d_C_sayContent (k := 61) rfl) rfl ?_
  refine m_getI (d_C_sayContent (k := 62) rfl) fl_C_288 rfl (fun x2 => ?_)
  refine m_iconst (v := 1) (d_C_sayContent (k := 63) rfl) (by decide) ?_
  refine m_iadd (d_C_sayContent (k := 64) rfl) ?_
  refine m_bipush (v := 7) (d_C_sayContent (k := 65) rfl) (by decide) ?_
  refine m_iand (d_C_sayContent (k := 66) rfl) ?_
  refine m_pI (d_C_sayContent (k := 67) rfl) fp_C_288 (fun h => absurd h (by decide)) rfl (fun M => ?_)
  refine m_aload_n (d_C_sayContent (k := 68) rfl) rfl ?_
  refine m_getI (d_C_sayContent (k := 69) rfl) fl_C_173 rfl (fun x3 => ?_)
  refine m_if_ne (tgt := 152) (d_C_sayContent (k := 70) rfl) rfl ?_ ?_
  · refine m_aload_n (d_C_sayContent (k := 71) rfl) rfl ?_
    refine m_aload_n (d_C_sayContent (k := 72) rfl) rfl ?_
    refine m_getR (d_C_sayContent (k := 73) rfl) fl_C_169 rfl (fun a4 => ?_)
    refine m_getR (d_C_sayContent (k := 74) rfl) fl_C_120 rfl (fun a5 => ?_)
    refine m_iconst (v := 4) (d_C_sayContent (k := 75) rfl) (by decide) ?_
    refine m_iald (d_C_sayContent (k := 76) rfl) (fun x6 => ?_)
    refine m_pI (d_C_sayContent (k := 77) rfl) fp_C_173 (fun h => absurd h (by decide)) rfl (fun M => ?_)
    exact m_vret (d_C_sayContent (k := 78) rfl) rfl
  · exact m_vret (d_C_sayContent (k := 78) rfl) rfl
def q_C_sayContent_34 (t0 : Option Nat) (t1 : Option Nat) (u0 : Option Nat) (M : mM) : Option (Unit × mM) :=
    x_nl u0 (
      some ((), M)
    ) (
      x_nl t1 (
        x_gR M 2 t0 3 fun a1 =>
        x_gI M 0 a1 1 fun x2 =>
        x_lt (if x2 < (16 : Int32) then x2 else (16 : Int32)) fun x3 =>
        x_cv M 0 u0 (q_B_add u0 (240 : Int32) M) fun _ M =>
        x_gR M 2 t0 3 fun a4 =>
        x_cv M 0 u0 (q_B_addFrom u0 a4 (0 : Int32) x3 M) fun _ M =>
        x_gR M 2 t0 3 fun a5 =>
        x_cv M 0 a5 (q_B_dropFirst a5 x3 M) fun _ M =>
        q_C_sayContent_110 t0 u0 M
      ) (
        x_cv M 0 u0 (q_B_add u0 (207 : Int32) M) fun _ M =>
        x_gI M 0 t1 1 fun x6 =>
        x_cv M 0 u0 (q_B_addFrom u0 t1 (0 : Int32) x6 M) fun _ M =>
        x_gR M 2 t0 5 fun a7 =>
        x_cv M 6 a7 (q_W_dropFirst a7 (1 : Int32) M) fun _ M =>
        q_C_sayContent_110 t0 u0 M
      )
    )
set_option maxRecDepth 20000 in
theorem v_C_sayContent_34 {E : mE} (t0 : Option Nat) (t1 : Option Nat) (u0 : Option Nat) (M : mM) : mVr E mi_C_sayContent 4 34 [some (.inr t0), some (.inr t1), none, none] [.inr u0] M enU (q_C_sayContent_34 t0 t1 u0 M) := by
  unfold q_C_sayContent_34
  refine m_ast_n (ls' := [some (.inr t0), some (.inr t1), some (.inr u0), none]) (d_C_sayContent (k := 16) rfl) (by decide) rfl ?_
  refine m_aload_n (d_C_sayContent (k := 17) rfl) rfl ?_
  refine m_ifnonnull (tgt := 40) (d_C_sayContent (k := 18) rfl) rfl ?_ ?_
  · exact m_vret (d_C_sayContent (k := 19) rfl) rfl
  · refine m_aload_n (d_C_sayContent (k := 20) rfl) rfl ?_
    refine m_ifnull (tgt := 72) (d_C_sayContent (k := 21) rfl) rfl ?_ ?_
    · refine m_bipush (v := 16) (d_C_sayContent (k := 36) rfl) (by decide) ?_
      refine m_aload_n (d_C_sayContent (k := 37) rfl) rfl ?_
      refine m_getR (d_C_sayContent (k := 38) rfl) fl_C_306 rfl (fun a1 => ?_)
      refine m_getI (d_C_sayContent (k := 39) rfl) fl_C_61 rfl (fun x2 => ?_)
      refine m_min (d_C_sayContent (k := 40) rfl) mm_C_191 ms_min mi_math mc_min (Nat.le_of_ble_eq_true rfl) ?_
      refine m_lt (fun x3 => ?_)
      refine m_ist_n (ls' := [some (.inr t0), some (.inr t1), some (.inr u0), some (.inl x3)]) (d_C_sayContent (k := 41) rfl) (by decide) rfl ?_
      refine m_aload_n (d_C_sayContent (k := 42) rfl) rfl ?_
      refine m_sipush (v := 240) (d_C_sayContent (k := 43) rfl) (by decide) ?_
      refine m_cvU (c := 0) (vs := [.inl (240 : Int32)]) (st := []) (d_C_sayContent (k := 44) rfl) (s_B_add u0 (240 : Int32) M) cd_B_add ml_C_207 im_B_add se_B_add rfl (by decide) rfl (Nat.le_of_ble_eq_true rfl) (fun _ M => ?_)
      refine m_aload_n (d_C_sayContent (k := 45) rfl) rfl ?_
      refine m_aload_n (d_C_sayContent (k := 46) rfl) rfl ?_
      refine m_getR (d_C_sayContent (k := 47) rfl) fl_C_306 rfl (fun a4 => ?_)
      refine m_iconst (v := 0) (d_C_sayContent (k := 48) rfl) (by decide) ?_
      refine m_iload_n (d_C_sayContent (k := 49) rfl) rfl ?_
      refine m_cvU (c := 0) (vs := [.inr a4, .inl (0 : Int32), .inl x3]) (st := []) (d_C_sayContent (k := 50) rfl) (s_B_addFrom u0 a4 (0 : Int32) x3 M) cd_B_addFrom ml_C_134 im_B_addFrom se_B_addFrom rfl (by decide) rfl (Nat.le_of_ble_eq_true rfl) (fun _ M => ?_)
      refine m_aload_n (d_C_sayContent (k := 51) rfl) rfl ?_
      refine m_getR (d_C_sayContent (k := 52) rfl) fl_C_306 rfl (fun a5 => ?_)
      refine m_iload_n (d_C_sayContent (k := 53) rfl) rfl ?_
      refine m_cvU (c := 0) (vs := [.inl x3]) (st := []) (d_C_sayContent (k := 54) rfl) (s_B_dropFirst a5 x3 M) cd_B_dropFirst ml_C_197 im_B_dropFirst se_B_dropFirst rfl (by decide) rfl (Nat.le_of_ble_eq_true rfl) (fun _ M => ?_)
      exact m_drop (mles_s (mles_n (mles_s (mles_n mles_0)))) (v_C_sayContent_110 t0 u0 M)
    · refine m_aload_n (d_C_sayContent (k := 22) rfl) rfl ?_
      refine m_sipush (v := 207) (d_C_sayContent (k := 23) rfl) (by decide) ?_
      refine m_cvU (c := 0) (vs := [.inl (207 : Int32)]) (st := []) (d_C_sayContent (k := 24) rfl) (s_B_add u0 (207 : Int32) M) cd_B_add ml_C_207 im_B_add se_B_add rfl (by decide) rfl (Nat.le_of_ble_eq_true rfl) (fun _ M => ?_)
      refine m_aload_n (d_C_sayContent (k := 25) rfl) rfl ?_
      refine m_aload_n (d_C_sayContent (k := 26) rfl) rfl ?_
      refine m_iconst (v := 0) (d_C_sayContent (k := 27) rfl) (by decide) ?_
      refine m_aload_n (d_C_sayContent (k := 28) rfl) rfl ?_
      refine m_getI (d_C_sayContent (k := 29) rfl) fl_C_61 rfl (fun x6 => ?_)
      refine m_cvU (c := 0) (vs := [.inr t1, .inl (0 : Int32), .inl x6]) (st := []) (d_C_sayContent (k := 30) rfl) (s_B_addFrom u0 t1 (0 : Int32) x6 M) cd_B_addFrom ml_C_134 im_B_addFrom se_B_addFrom rfl (by decide) rfl (Nat.le_of_ble_eq_true rfl) (fun _ M => ?_)
      refine m_aload_n (d_C_sayContent (k := 31) rfl) rfl ?_
      refine m_getR (d_C_sayContent (k := 32) rfl) fl_C_309 rfl (fun a7 => ?_)
      refine m_iconst (v := 1) (d_C_sayContent (k := 33) rfl) (by decide) ?_
      refine m_cvU (c := 6) (vs := [.inl (1 : Int32)]) (st := []) (d_C_sayContent (k := 34) rfl) (s_W_dropFirst a7 (1 : Int32) M) cd_W_dropFirst ml_C_221 im_W_dropFirst se_W_dropFirst rfl (by decide) rfl (Nat.le_of_ble_eq_true rfl) (fun _ M => ?_)
      refine m_goto (tgt := 110) (d_C_sayContent (k := 35) rfl) rfl ?_
      exact m_drop (mles_s (mles_n (mles_s (mles_n mles_0)))) (v_C_sayContent_110 t0 u0 M)
def q_C_sayContent_27 (t0 : Option Nat) (t1 : Option Nat) (M : mM) : Option (Unit × mM) :=
    x_gR M 2 t0 6 fun a1 =>
    x_cv M 6 a1 (q_W_addRow a1 M) fun a2 M =>
    q_C_sayContent_34 t0 t1 a2 M
set_option maxRecDepth 20000 in
theorem v_C_sayContent_27 {E : mE} (t0 : Option Nat) (t1 : Option Nat) (M : mM) : mVr E mi_C_sayContent 4 27 [some (.inr t0), some (.inr t1), none, none] [] M enU (q_C_sayContent_27 t0 t1 M) := by
  unfold q_C_sayContent_27
  refine m_aload_n (d_C_sayContent (k := 13) rfl) rfl ?_
  refine m_getR (d_C_sayContent (k := 14) rfl) fl_C_312 rfl (fun a1 => ?_)
  refine m_cvR (c := 6) (vs := []) (st := []) (d_C_sayContent (k := 15) rfl) (s_W_addRow a1 M) cd_W_addRow ml_C_128 im_W_addRow se_W_addRow rfl (by decide) rfl (Nat.le_of_ble_eq_true rfl) (fun a2 M => ?_)
  exact m_drop (mles_s (mles_s (mles_n (mles_n mles_0)))) (v_C_sayContent_34 t0 t1 a2 M)
def q_C_sayContent (t0 : Option Nat) (M : mM) : Option (Unit × mM) :=
    x_gR M 2 t0 5 fun a1 =>
    x_cv M 6 a1 (q_W_rowAt a1 (0 : Int32) M) fun a2 M =>
    x_nl a2 (
      x_gR M 2 t0 3 fun a3 =>
      x_gI M 0 a3 1 fun x4 =>
      if x4 = 0 then
        q_C_sayContent_34 t0 a2 none M
      else
        q_C_sayContent_27 t0 a2 M
    ) (
      q_C_sayContent_27 t0 a2 M
    )
set_option maxRecDepth 20000 in
theorem v_C_sayContent {E : mE} (t0 : Option Nat) (M : mM) : mVr E mi_C_sayContent 4 0 [some (.inr t0), none, none, none] [] M enU (q_C_sayContent t0 M) := by
  unfold q_C_sayContent
  refine m_aload_n (d_C_sayContent (k := 0) rfl) rfl ?_
  refine m_getR (d_C_sayContent (k := 1) rfl) fl_C_309 rfl (fun a1 => ?_)
  refine m_iconst (v := 0) (d_C_sayContent (k := 2) rfl) (by decide) ?_
  refine m_cvR (c := 6) (vs := [.inl (0 : Int32)]) (st := []) (d_C_sayContent (k := 3) rfl) (s_W_rowAt a1 (0 : Int32) M) cd_W_rowAt ml_C_217 im_W_rowAt se_W_rowAt rfl (by decide) rfl (Nat.le_of_ble_eq_true rfl) (fun a2 M => ?_)
  refine m_ast_n (ls' := [some (.inr t0), some (.inr a2), none, none]) (d_C_sayContent (k := 4) rfl) (by decide) rfl ?_
  refine m_aload_n (d_C_sayContent (k := 5) rfl) rfl ?_
  refine m_ifnonnull (tgt := 27) (d_C_sayContent (k := 6) rfl) rfl ?_ ?_
  · refine m_aload_n (d_C_sayContent (k := 7) rfl) rfl ?_
    refine m_getR (d_C_sayContent (k := 8) rfl) fl_C_306 rfl (fun a3 => ?_)
    refine m_getI (d_C_sayContent (k := 9) rfl) fl_C_61 rfl (fun x4 => ?_)
    refine m_if_ne (tgt := 27) (d_C_sayContent (k := 10) rfl) rfl ?_ ?_
    · refine m_null (d_C_sayContent (k := 11) rfl) ?_
      refine m_goto (tgt := 34) (d_C_sayContent (k := 12) rfl) rfl ?_
      exact m_drop (mles_s (mles_s (mles_n (mles_n mles_0)))) (v_C_sayContent_34 t0 a2 none M)
    · exact m_drop (mles_s (mles_s (mles_n (mles_n mles_0)))) (v_C_sayContent_27 t0 a2 M)
  · exact m_drop (mles_s (mles_s (mles_n (mles_n mles_0)))) (v_C_sayContent_27 t0 a2 M)
theorem s_C_sayContent {E : mE} (t0 : Option Nat) (M : mM) : mSnd E mi_C_sayContent 4 [.inr t0] M enU (q_C_sayContent t0 M) := m_entryU (by decide) (Nat.le_of_ble_eq_true rfl) rfl (m_drop (mles_s (mles_e (mles_e (mles_e mles_0)))) (v_C_sayContent t0 M))
def dt_C_sayNext : List (Nat × Instr × Nat) := [(0, .aload_n 0, 1), (1, .getfield 297, 3), (4, .ifCond .ne 29, 3), (7, .aload_n 0, 1), (8, .getfield 303, 3), (11, .ifCond .ne 22, 3), (14, .aload_n 0, 1), (15, .getfield 169, 3), (18, .getfield 124, 3), (21, .getfield 264, 3), (24, .bipush 8, 2), (26, .if_icmp .ge 7, 3), (29, .aload_n 0, 1), (30, .invokestatic 515, 3), (33, .aload_n 0, 1), (34, .getfield 303, 3), (37, .ifCond .eq 23, 3), (40, .aload_n 0, 1), (41, .getfield 173, 3), (44, .ifCond .ne 16, 3), (47, .aload_n 0, 1), (48, .aload_n 0, 1), (49, .getfield 169, 3), (52, .getfield 120, 3), (55, .iconst 4, 1), (56, .iaload, 1), (57, .putfield 173, 3), (60, .return_, 1)]
theorem dx_C_sayNext : ∀ p ∈ dt_C_sayNext, decode prog_1_method_58_code p.1 = .ok p.2 := by decide +kernel
theorem d_C_sayNext {k pc : Nat} {i : Instr} {n : Nat} (h : dt_C_sayNext[k]? = some (pc, i, n)) : decode mi_C_sayNext.2.1 pc = .ok (i, n) := dx_C_sayNext (pc, i, n) (List.mem_of_getElem? h)
def q_C_sayNext_33 (t0 : Option Nat) (M : mM) : Option (Unit × mM) :=
    x_gI M 2 t0 15 fun x1 =>
    if x1 = 0 then
      some ((), M)
    else
      x_gI M 2 t0 11 fun x2 =>
      if x2 = 0 then
        x_gR M 2 t0 0 fun a3 =>
        x_gR M 8 a3 1 fun a4 =>
        x_aI M 0 a4 (4 : Int32) fun x5 =>
        x_pI M 2 t0 11 x5 fun M =>
        some ((), M)
      else
        some ((), M)
set_option maxRecDepth 20000 in
theorem v_C_sayNext_33 {E : mE} (t0 : Option Nat) (M : mM) : mVr E mi_C_sayNext 5 33 [some (.inr t0)] [] M enU (q_C_sayNext_33 t0 M) := by
  unfold q_C_sayNext_33
  refine m_aload_n (d_C_sayNext (k := 14) rfl) rfl ?_
  refine m_getI (d_C_sayNext (k := 15) rfl) fl_C_303 rfl (fun x1 => ?_)
  refine m_if_eq (tgt := 60) (d_C_sayNext (k := 16) rfl) rfl ?_ ?_
  · exact m_vret (d_C_sayNext (k := 27) rfl) rfl
  · refine m_aload_n (d_C_sayNext (k := 17) rfl) rfl ?_
    refine m_getI (d_C_sayNext (k := 18) rfl) fl_C_173 rfl (fun x2 => ?_)
    refine m_if_ne (tgt := 60) (d_C_sayNext (k := 19) rfl) rfl ?_ ?_
    · refine m_aload_n (d_C_sayNext (k := 20) rfl) rfl ?_
      refine m_aload_n (d_C_sayNext (k := 21) rfl) rfl ?_
      refine m_getR (d_C_sayNext (k := 22) rfl) fl_C_169 rfl (fun a3 => ?_)
      refine m_getR (d_C_sayNext (k := 23) rfl) fl_C_120 rfl (fun a4 => ?_)
      refine m_iconst (v := 4) (d_C_sayNext (k := 24) rfl) (by decide) ?_
      refine m_iald (d_C_sayNext (k := 25) rfl) (fun x5 => ?_)
      refine m_pI (d_C_sayNext (k := 26) rfl) fp_C_173 (fun h => absurd h (by decide)) rfl (fun M => ?_)
      exact m_vret (d_C_sayNext (k := 27) rfl) rfl
    · exact m_vret (d_C_sayNext (k := 27) rfl) rfl
def q_C_sayNext (t0 : Option Nat) (M : mM) : Option (Unit × mM) :=
    x_gI M 2 t0 13 fun x1 =>
    if x1 = 0 then
      x_gI M 2 t0 15 fun x2 =>
      if x2 = 0 then
        x_gR M 2 t0 0 fun a3 =>
        x_gR M 8 a3 4 fun a4 =>
        x_gI M 6 a4 2 fun x5 =>
        if x5 < (8 : Int32) then
          x_cl (q_C_sayContent t0 M) fun _ M =>
          q_C_sayNext_33 t0 M
        else
          q_C_sayNext_33 t0 M
      else
        q_C_sayNext_33 t0 M
    else
      q_C_sayNext_33 t0 M
set_option maxRecDepth 20000 in
theorem v_C_sayNext {E : mE} (t0 : Option Nat) (M : mM) : mVr E mi_C_sayNext 5 0 [some (.inr t0)] [] M enU (q_C_sayNext t0 M) := by
  unfold q_C_sayNext
  refine m_aload_n (d_C_sayNext (k := 0) rfl) rfl ?_
  refine m_getI (d_C_sayNext (k := 1) rfl) fl_C_297 rfl (fun x1 => ?_)
  refine m_if_ne (tgt := 33) (d_C_sayNext (k := 2) rfl) rfl ?_ ?_
  · refine m_aload_n (d_C_sayNext (k := 3) rfl) rfl ?_
    refine m_getI (d_C_sayNext (k := 4) rfl) fl_C_303 rfl (fun x2 => ?_)
    refine m_if_ne (tgt := 33) (d_C_sayNext (k := 5) rfl) rfl ?_ ?_
    · refine m_aload_n (d_C_sayNext (k := 6) rfl) rfl ?_
      refine m_getR (d_C_sayNext (k := 7) rfl) fl_C_169 rfl (fun a3 => ?_)
      refine m_getR (d_C_sayNext (k := 8) rfl) fl_C_124 rfl (fun a4 => ?_)
      refine m_getI (d_C_sayNext (k := 9) rfl) fl_C_264 rfl (fun x5 => ?_)
      refine m_bipush (v := 8) (d_C_sayNext (k := 10) rfl) (by decide) ?_
      refine m_icmp_ge (tgt := 33) (d_C_sayNext (k := 11) rfl) rfl ?_ ?_
      · refine m_aload_n (d_C_sayNext (k := 12) rfl) rfl ?_
        refine m_csU (vs := [.inr t0]) (st := []) (d_C_sayNext (k := 13) rfl) (s_C_sayContent t0 M) cd_C_sayContent ml_C_515 sa_C_sayContent (by decide) rfl (Nat.le_of_ble_eq_true rfl) (fun _ M => ?_)
        exact m_drop (mles_s mles_0) (v_C_sayNext_33 t0 M)
      · exact m_drop (mles_s mles_0) (v_C_sayNext_33 t0 M)
    · exact m_drop (mles_s mles_0) (v_C_sayNext_33 t0 M)
  · exact m_drop (mles_s mles_0) (v_C_sayNext_33 t0 M)
theorem s_C_sayNext {E : mE} (t0 : Option Nat) (M : mM) : mSnd E mi_C_sayNext 5 [.inr t0] M enU (q_C_sayNext t0 M) := m_entryU (by decide) (Nat.le_of_ble_eq_true rfl) rfl (m_drop (mles_s mles_0) (v_C_sayNext t0 M))
def dt_K_hasWork : List (Nat × Instr × Nat) := [(0, .aload_n 0, 1), (1, .getfield 34, 3), (4, .getfield 53, 3), (7, .ifCond .gt 23, 3), (10, .aload_n 0, 1), (11, .getfield 46, 3), (14, .getfield 56, 3), (17, .ifCond .gt 13, 3), (20, .aload_n 0, 1), (21, .getfield 50, 3), (24, .getfield 56, 3), (27, .ifCond .le 7, 3), (30, .iconst 1, 1), (31, .goto 4, 3), (34, .iconst 0, 1), (35, .ireturn, 1)]
theorem dx_K_hasWork : ∀ p ∈ dt_K_hasWork, decode prog_4_method_3_code p.1 = .ok p.2 := by decide +kernel
theorem d_K_hasWork {k pc : Nat} {i : Instr} {n : Nat} (h : dt_K_hasWork[k]? = some (pc, i, n)) : decode mi_K_hasWork.2.1 pc = .ok (i, n) := dx_K_hasWork (pc, i, n) (List.mem_of_getElem? h)
def q_K_hasWork_30 (M : mM) : Option (Int32 × mM) :=
    x_rz (1 : Int32) M
set_option maxRecDepth 20000 in
theorem v_K_hasWork_30 {E : mE} (M : mM) : mVr E mi_K_hasWork 0 30 [none] [] M enI (q_K_hasWork_30 M) := by
  unfold q_K_hasWork_30
  refine m_iconst (v := 1) (d_K_hasWork (k := 12) rfl) (by decide) ?_
  refine m_goto (tgt := 35) (d_K_hasWork (k := 13) rfl) rfl ?_
  exact m_zret (d_K_hasWork (k := 15) rfl) rfl
def q_K_hasWork (t0 : Option Nat) (M : mM) : Option (Int32 × mM) :=
    x_gR M 2 t0 3 fun a1 =>
    x_gI M 0 a1 1 fun x2 =>
    if 0 < x2 then
      q_K_hasWork_30 M
    else
      x_gR M 2 t0 5 fun a3 =>
      x_gI M 6 a3 2 fun x4 =>
      if 0 < x4 then
        q_K_hasWork_30 M
      else
        x_gR M 2 t0 6 fun a5 =>
        x_gI M 6 a5 2 fun x6 =>
        if 0 < x6 then
          q_K_hasWork_30 M
        else
          x_rz (0 : Int32) M
set_option maxRecDepth 20000 in
theorem v_K_hasWork {E : mE} (t0 : Option Nat) (M : mM) : mVr E mi_K_hasWork 0 0 [some (.inr t0)] [] M enI (q_K_hasWork t0 M) := by
  unfold q_K_hasWork
  refine m_aload_n (d_K_hasWork (k := 0) rfl) rfl ?_
  refine m_getR (d_K_hasWork (k := 1) rfl) fl_K_34 rfl (fun a1 => ?_)
  refine m_getI (d_K_hasWork (k := 2) rfl) fl_K_53 rfl (fun x2 => ?_)
  refine m_if_gt (tgt := 30) (d_K_hasWork (k := 3) rfl) rfl ?_ ?_
  · exact m_drop (mles_n mles_0) (v_K_hasWork_30 M)
  · refine m_aload_n (d_K_hasWork (k := 4) rfl) rfl ?_
    refine m_getR (d_K_hasWork (k := 5) rfl) fl_K_46 rfl (fun a3 => ?_)
    refine m_getI (d_K_hasWork (k := 6) rfl) fl_K_56 rfl (fun x4 => ?_)
    refine m_if_gt (tgt := 30) (d_K_hasWork (k := 7) rfl) rfl ?_ ?_
    · exact m_drop (mles_n mles_0) (v_K_hasWork_30 M)
    · refine m_aload_n (d_K_hasWork (k := 8) rfl) rfl ?_
      refine m_getR (d_K_hasWork (k := 9) rfl) fl_K_50 rfl (fun a5 => ?_)
      refine m_getI (d_K_hasWork (k := 10) rfl) fl_K_56 rfl (fun x6 => ?_)
      refine m_if_le (tgt := 34) (d_K_hasWork (k := 11) rfl) rfl ?_ ?_
      · exact m_drop (mles_n mles_0) (v_K_hasWork_30 M)
      · refine m_iconst (v := 0) (d_K_hasWork (k := 14) rfl) (by decide) ?_
        exact m_zret (d_K_hasWork (k := 15) rfl) rfl
theorem s_K_hasWork {E : mE} (t0 : Option Nat) (M : mM) : mSnd E mi_K_hasWork 0 [.inr t0] M enI (q_K_hasWork t0 M) := m_entryZ (by decide) (Nat.le_of_ble_eq_true rfl) rfl (m_drop (mles_s mles_0) (v_K_hasWork t0 M))
def dt_C_sayWhatMayBeSaid : List (Nat × Instr × Nat) := [(0, .iconst 0, 1), (1, .istore_n 1, 1), (2, .iload_n 1, 1), (3, .bipush 6, 2), (5, .if_icmp .ge 72, 3), (8, .aload_n 0, 1), (9, .getfield 11, 3), (12, .iload_n 1, 1), (13, .aaload, 1), (14, .astore_n 2, 1), (15, .iconst 0, 1), (16, .istore_n 3, 1), (17, .iload_n 3, 1), (18, .bipush 6, 2), (20, .if_icmp .ge 51, 3), (23, .aload_n 2, 1), (24, .getfield 503, 3), (27, .ifCond .le 44, 3), (30, .aload_n 2, 1), (31, .getfield 18, 3), (34, .iload_n 3, 1), (35, .aaload, 1), (36, .astore 4, 2), (38, .aload 4, 2), (40, .ifnull 25, 3), (43, .aload 4, 2), (45, .getfield 141, 3), (48, .iconst 2, 1), (49, .if_icmp .ne 16, 3), (52, .aload 4, 2), (54, .invokevirtual 509, 3), (57, .ifCond .eq 8, 3), (60, .aload 4, 2), (62, .invokestatic 512, 3), (65, .iinc 3 1, 3), (68, .goto (-51), 3), (71, .iinc 1 1, 3), (74, .goto (-72), 3), (77, .return_, 1)]
theorem dx_C_sayWhatMayBeSaid : ∀ p ∈ dt_C_sayWhatMayBeSaid, decode prog_1_method_57_code p.1 = .ok p.2 := by decide +kernel
theorem d_C_sayWhatMayBeSaid {k pc : Nat} {i : Instr} {n : Nat} (h : dt_C_sayWhatMayBeSaid[k]? = some (pc, i, n)) : decode mi_C_sayWhatMayBeSaid.2.1 pc = .ok (i, n) := dx_C_sayWhatMayBeSaid (pc, i, n) (List.mem_of_getElem? h)
def q_C_sayWhatMayBeSaid_65 (r2 : Option Nat → Int32 → mM → Option (Unit × mM)) (r17 : Option Nat → Int32 → Option Nat → Int32 → mM → Option (Unit × mM)) (t0 : Option Nat) (i1 : Int32) (t2 : Option Nat) (i3 : Int32) (M : mM) : Option (Unit × mM) :=
    r17 t0 i1 t2 (i3 + 1) M
set_option maxRecDepth 20000 in
theorem v_C_sayWhatMayBeSaid_65 {E : mE} (r2 : Option Nat → Int32 → mM → Option (Unit × mM)) (h2 : ∀ (t0 : Option Nat) (i1 : Int32) (M : mM), mVr E mi_C_sayWhatMayBeSaid 6 2 [some (.inr t0), some (.inl i1), none, none, none] [] M enU (r2 t0 i1 M)) (r17 : Option Nat → Int32 → Option Nat → Int32 → mM → Option (Unit × mM)) (h17 : ∀ (t0 : Option Nat) (i1 : Int32) (t2 : Option Nat) (i3 : Int32) (M : mM), mVr E mi_C_sayWhatMayBeSaid 6 17 [some (.inr t0), some (.inl i1), some (.inr t2), some (.inl i3), none] [] M enU (r17 t0 i1 t2 i3 M)) (t0 : Option Nat) (i1 : Int32) (t2 : Option Nat) (i3 : Int32) (M : mM) : mVr E mi_C_sayWhatMayBeSaid 6 65 [some (.inr t0), some (.inl i1), some (.inr t2), some (.inl i3), none] [] M enU (q_C_sayWhatMayBeSaid_65 r2 r17 t0 i1 t2 i3 M) := by
  unfold q_C_sayWhatMayBeSaid_65
  refine m_inc (v := 1) (ls' := [some (.inr t0), some (.inl i1), some (.inr t2), some (.inl (i3 + 1)), none]) (d_C_sayWhatMayBeSaid (k := 34) rfl) rfl (by decide) (by decide) rfl ?_
  refine m_goto (tgt := 17) (d_C_sayWhatMayBeSaid (k := 35) rfl) rfl ?_
  exact m_drop (mles_s (mles_s (mles_s (mles_s (mles_n mles_0))))) (h17 t0 i1 t2 (i3 + 1) M)
def q_C_sayWhatMayBeSaid_71 (r2 : Option Nat → Int32 → mM → Option (Unit × mM)) (t0 : Option Nat) (i1 : Int32) (M : mM) : Option (Unit × mM) :=
    r2 t0 (i1 + 1) M
set_option maxRecDepth 20000 in
theorem v_C_sayWhatMayBeSaid_71 {E : mE} (r2 : Option Nat → Int32 → mM → Option (Unit × mM)) (h2 : ∀ (t0 : Option Nat) (i1 : Int32) (M : mM), mVr E mi_C_sayWhatMayBeSaid 6 2 [some (.inr t0), some (.inl i1), none, none, none] [] M enU (r2 t0 i1 M)) (t0 : Option Nat) (i1 : Int32) (M : mM) : mVr E mi_C_sayWhatMayBeSaid 6 71 [some (.inr t0), some (.inl i1), none, none, none] [] M enU (q_C_sayWhatMayBeSaid_71 r2 t0 i1 M) := by
  unfold q_C_sayWhatMayBeSaid_71
  refine m_inc (v := 1) (ls' := [some (.inr t0), some (.inl (i1 + 1)), none, none, none]) (d_C_sayWhatMayBeSaid (k := 36) rfl) rfl (by decide) (by decide) rfl ?_
  refine m_goto (tgt := 2) (d_C_sayWhatMayBeSaid (k := 37) rfl) rfl ?_
  exact m_drop (mles_s (mles_s (mles_n (mles_n (mles_n mles_0))))) (h2 t0 (i1 + 1) M)
def q_C_sayWhatMayBeSaid_17_b (r2 : Option Nat → Int32 → mM → Option (Unit × mM)) (r17 : Option Nat → Int32 → Option Nat → Int32 → mM → Option (Unit × mM)) (t0 : Option Nat) (i1 : Int32) (t2 : Option Nat) (i3 : Int32) (M : mM) : Option (Unit × mM) :=
    if i3 < (6 : Int32) then
      x_gI M 8 t2 11 fun x1 =>
      if 0 < x1 then
        x_gR M 8 t2 6 fun a2 =>
        x_aR M 1 a2 i3 fun a3 =>
        x_nl a3 (
          q_C_sayWhatMayBeSaid_65 r2 r17 t0 i1 t2 i3 M
        ) (
          x_gI M 2 a3 7 fun x4 =>
          if x4 = (2 : Int32) then
            x_cv M 2 a3 (q_K_hasWork a3 M) fun x5 M =>
            if x5 = 0 then
              q_C_sayWhatMayBeSaid_65 r2 r17 t0 i1 t2 i3 M
            else
              x_cl (q_C_sayNext a3 M) fun _ M =>
              q_C_sayWhatMayBeSaid_65 r2 r17 t0 i1 t2 i3 M
          else
            q_C_sayWhatMayBeSaid_65 r2 r17 t0 i1 t2 i3 M
        )
      else
        q_C_sayWhatMayBeSaid_71 r2 t0 i1 M
    else
      q_C_sayWhatMayBeSaid_71 r2 t0 i1 M
def q_C_sayWhatMayBeSaid_17 (r2 : Option Nat → Int32 → mM → Option (Unit × mM)) : Nat → Option Nat → Int32 → Option Nat → Int32 → mM → Option (Unit × mM)
  | 0, _, _, _, _, _ => none
  | n + 1, t0, i1, t2, i3, M => q_C_sayWhatMayBeSaid_17_b r2 (q_C_sayWhatMayBeSaid_17 r2 n) t0 i1 t2 i3 M
set_option maxRecDepth 20000 in
theorem v_C_sayWhatMayBeSaid_17_b {E : mE} (r2 : Option Nat → Int32 → mM → Option (Unit × mM)) (h2 : ∀ (t0 : Option Nat) (i1 : Int32) (M : mM), mVr E mi_C_sayWhatMayBeSaid 6 2 [some (.inr t0), some (.inl i1), none, none, none] [] M enU (r2 t0 i1 M)) (r17 : Option Nat → Int32 → Option Nat → Int32 → mM → Option (Unit × mM)) (h17 : ∀ (t0 : Option Nat) (i1 : Int32) (t2 : Option Nat) (i3 : Int32) (M : mM), mVr E mi_C_sayWhatMayBeSaid 6 17 [some (.inr t0), some (.inl i1), some (.inr t2), some (.inl i3), none] [] M enU (r17 t0 i1 t2 i3 M)) (t0 : Option Nat) (i1 : Int32) (t2 : Option Nat) (i3 : Int32) (M : mM) : mVr E mi_C_sayWhatMayBeSaid 6 17 [some (.inr t0), some (.inl i1), some (.inr t2), some (.inl i3), none] [] M enU (q_C_sayWhatMayBeSaid_17_b r2 r17 t0 i1 t2 i3 M) := by
  unfold q_C_sayWhatMayBeSaid_17_b
  refine m_iload_n (d_C_sayWhatMayBeSaid (k := 12) rfl) rfl ?_
  refine m_bipush (v := 6) (d_C_sayWhatMayBeSaid (k := 13) rfl) (by decide) ?_
  refine m_icmp_ge (tgt := 71) (d_C_sayWhatMayBeSaid (k := 14) rfl) rfl ?_ ?_
  · refine m_aload_n (d_C_sayWhatMayBeSaid (k := 15) rfl) rfl ?_
    refine m_getI (d_C_sayWhatMayBeSaid (k := 16) rfl) fl_C_503 rfl (fun x1 => ?_)
    refine m_if_le (tgt := 71) (d_C_sayWhatMayBeSaid (k := 17) rfl) rfl ?_ ?_
    · refine m_aload_n (d_C_sayWhatMayBeSaid (k := 18) rfl) rfl ?_
      refine m_getR (d_C_sayWhatMayBeSaid (k := 19) rfl) fl_C_18 rfl (fun a2 => ?_)
      refine m_iload_n (d_C_sayWhatMayBeSaid (k := 20) rfl) rfl ?_
      refine m_aald (t := 1) (d_C_sayWhatMayBeSaid (k := 21) rfl) rfl (fun a3 => ?_)
      refine m_ast (ls' := [some (.inr t0), some (.inl i1), some (.inr t2), some (.inl i3), some (.inr a3)]) (d_C_sayWhatMayBeSaid (k := 22) rfl) (by decide) rfl ?_
      refine m_aload (d_C_sayWhatMayBeSaid (k := 23) rfl) rfl ?_
      refine m_ifnull (tgt := 65) (d_C_sayWhatMayBeSaid (k := 24) rfl) rfl ?_ ?_
      · exact m_drop (mles_s (mles_s (mles_s (mles_s (mles_n mles_0))))) (v_C_sayWhatMayBeSaid_65 r2 h2 r17 h17 t0 i1 t2 i3 M)
      · refine m_aload (d_C_sayWhatMayBeSaid (k := 25) rfl) rfl ?_
        refine m_getI (d_C_sayWhatMayBeSaid (k := 26) rfl) fl_C_141 rfl (fun x4 => ?_)
        refine m_iconst (v := 2) (d_C_sayWhatMayBeSaid (k := 27) rfl) (by decide) ?_
        refine m_icmp_ne (tgt := 65) (d_C_sayWhatMayBeSaid (k := 28) rfl) rfl ?_ ?_
        · refine m_aload (d_C_sayWhatMayBeSaid (k := 29) rfl) rfl ?_
          refine m_cvI (c := 2) (vs := []) (st := []) (d_C_sayWhatMayBeSaid (k := 30) rfl) (s_K_hasWork a3 M) cd_K_hasWork ml_C_509 im_K_hasWork se_K_hasWork rfl (by decide) rfl (Nat.le_of_ble_eq_true rfl) (fun x5 M => ?_)
          refine m_if_eq (tgt := 65) (d_C_sayWhatMayBeSaid (k := 31) rfl) rfl ?_ ?_
          · exact m_drop (mles_s (mles_s (mles_s (mles_s (mles_n mles_0))))) (v_C_sayWhatMayBeSaid_65 r2 h2 r17 h17 t0 i1 t2 i3 M)
          · refine m_aload (d_C_sayWhatMayBeSaid (k := 32) rfl) rfl ?_
            refine m_csU (vs := [.inr a3]) (st := []) (d_C_sayWhatMayBeSaid (k := 33) rfl) (s_C_sayNext a3 M) cd_C_sayNext ml_C_512 sa_C_sayNext (by decide) rfl (Nat.le_of_ble_eq_true rfl) (fun _ M => ?_)
            exact m_drop (mles_s (mles_s (mles_s (mles_s (mles_n mles_0))))) (v_C_sayWhatMayBeSaid_65 r2 h2 r17 h17 t0 i1 t2 i3 M)
        · exact m_drop (mles_s (mles_s (mles_s (mles_s (mles_n mles_0))))) (v_C_sayWhatMayBeSaid_65 r2 h2 r17 h17 t0 i1 t2 i3 M)
    · exact m_drop (mles_s (mles_s (mles_n (mles_n (mles_n mles_0))))) (v_C_sayWhatMayBeSaid_71 r2 h2 t0 i1 M)
  · exact m_drop (mles_s (mles_s (mles_n (mles_n (mles_n mles_0))))) (v_C_sayWhatMayBeSaid_71 r2 h2 t0 i1 M)
theorem v_C_sayWhatMayBeSaid_17 {E : mE} (r2 : Option Nat → Int32 → mM → Option (Unit × mM)) (h2 : ∀ (t0 : Option Nat) (i1 : Int32) (M : mM), mVr E mi_C_sayWhatMayBeSaid 6 2 [some (.inr t0), some (.inl i1), none, none, none] [] M enU (r2 t0 i1 M)) : ∀ (n : Nat) (t0 : Option Nat) (i1 : Int32) (t2 : Option Nat) (i3 : Int32) (M : mM), mVr E mi_C_sayWhatMayBeSaid 6 17 [some (.inr t0), some (.inl i1), some (.inr t2), some (.inl i3), none] [] M enU (q_C_sayWhatMayBeSaid_17 r2 n t0 i1 t2 i3 M)
  | 0, _, _, _, _, _ => m_none
  | n + 1, t0, i1, t2, i3, M => v_C_sayWhatMayBeSaid_17_b r2 h2 _ (v_C_sayWhatMayBeSaid_17 r2 h2 n) t0 i1 t2 i3 M
def q_C_sayWhatMayBeSaid_2_b (r2 : Option Nat → Int32 → mM → Option (Unit × mM)) (t0 : Option Nat) (i1 : Int32) (M : mM) : Option (Unit × mM) :=
    if i1 < (6 : Int32) then
      x_gR M 9 t0 0 fun a1 =>
      x_aR M 2 a1 i1 fun a2 =>
      q_C_sayWhatMayBeSaid_17 r2 mFU t0 i1 a2 (0 : Int32) M
    else
      some ((), M)
def q_C_sayWhatMayBeSaid_2 : Nat → Option Nat → Int32 → mM → Option (Unit × mM)
  | 0, _, _, _ => none
  | n + 1, t0, i1, M => q_C_sayWhatMayBeSaid_2_b (q_C_sayWhatMayBeSaid_2 n) t0 i1 M
set_option maxRecDepth 20000 in
theorem v_C_sayWhatMayBeSaid_2_b {E : mE} (r2 : Option Nat → Int32 → mM → Option (Unit × mM)) (h2 : ∀ (t0 : Option Nat) (i1 : Int32) (M : mM), mVr E mi_C_sayWhatMayBeSaid 6 2 [some (.inr t0), some (.inl i1), none, none, none] [] M enU (r2 t0 i1 M)) (t0 : Option Nat) (i1 : Int32) (M : mM) : mVr E mi_C_sayWhatMayBeSaid 6 2 [some (.inr t0), some (.inl i1), none, none, none] [] M enU (q_C_sayWhatMayBeSaid_2_b r2 t0 i1 M) := by
  unfold q_C_sayWhatMayBeSaid_2_b
  refine m_iload_n (d_C_sayWhatMayBeSaid (k := 2) rfl) rfl ?_
  refine m_bipush (v := 6) (d_C_sayWhatMayBeSaid (k := 3) rfl) (by decide) ?_
  refine m_icmp_ge (tgt := 77) (d_C_sayWhatMayBeSaid (k := 4) rfl) rfl ?_ ?_
  · refine m_aload_n (d_C_sayWhatMayBeSaid (k := 5) rfl) rfl ?_
    refine m_getR (d_C_sayWhatMayBeSaid (k := 6) rfl) fl_C_11 rfl (fun a1 => ?_)
    refine m_iload_n (d_C_sayWhatMayBeSaid (k := 7) rfl) rfl ?_
    refine m_aald (t := 2) (d_C_sayWhatMayBeSaid (k := 8) rfl) rfl (fun a2 => ?_)
    refine m_ast_n (ls' := [some (.inr t0), some (.inl i1), some (.inr a2), none, none]) (d_C_sayWhatMayBeSaid (k := 9) rfl) (by decide) rfl ?_
    refine m_iconst (v := 0) (d_C_sayWhatMayBeSaid (k := 10) rfl) (by decide) ?_
    refine m_ist_n (ls' := [some (.inr t0), some (.inl i1), some (.inr a2), some (.inl (0 : Int32)), none]) (d_C_sayWhatMayBeSaid (k := 11) rfl) (by decide) rfl ?_
    exact m_drop (mles_s (mles_s (mles_s (mles_s (mles_n mles_0))))) (v_C_sayWhatMayBeSaid_17 r2 h2 mFU t0 i1 a2 (0 : Int32) M)
  · exact m_vret (d_C_sayWhatMayBeSaid (k := 38) rfl) rfl
theorem v_C_sayWhatMayBeSaid_2 {E : mE} : ∀ (n : Nat) (t0 : Option Nat) (i1 : Int32) (M : mM), mVr E mi_C_sayWhatMayBeSaid 6 2 [some (.inr t0), some (.inl i1), none, none, none] [] M enU (q_C_sayWhatMayBeSaid_2 n t0 i1 M)
  | 0, _, _, _ => m_none
  | n + 1, t0, i1, M => v_C_sayWhatMayBeSaid_2_b _ (v_C_sayWhatMayBeSaid_2 n) t0 i1 M
def q_C_sayWhatMayBeSaid (t0 : Option Nat) (M : mM) : Option (Unit × mM) :=
    q_C_sayWhatMayBeSaid_2 mFU t0 (0 : Int32) M
set_option maxRecDepth 20000 in
theorem v_C_sayWhatMayBeSaid {E : mE} (t0 : Option Nat) (M : mM) : mVr E mi_C_sayWhatMayBeSaid 6 0 [some (.inr t0), none, none, none, none] [] M enU (q_C_sayWhatMayBeSaid t0 M) := by
  unfold q_C_sayWhatMayBeSaid
  refine m_iconst (v := 0) (d_C_sayWhatMayBeSaid (k := 0) rfl) (by decide) ?_
  refine m_ist_n (ls' := [some (.inr t0), some (.inl (0 : Int32)), none, none, none]) (d_C_sayWhatMayBeSaid (k := 1) rfl) (by decide) rfl ?_
  exact m_drop (mles_s (mles_s (mles_n (mles_n (mles_n mles_0))))) (v_C_sayWhatMayBeSaid_2 mFU t0 (0 : Int32) M)
theorem s_C_sayWhatMayBeSaid {E : mE} (t0 : Option Nat) (M : mM) : mSnd E mi_C_sayWhatMayBeSaid 6 [.inr t0] M enU (q_C_sayWhatMayBeSaid t0 M) := m_entryU (by decide) (Nat.le_of_ble_eq_true rfl) rfl (m_drop (mles_s (mles_e (mles_e (mles_e (mles_e mles_0))))) (v_C_sayWhatMayBeSaid t0 M))
def dt_S_endsFrame : List (Nat × Instr × Nat) := [(0, .aload_n 0, 1), (1, .getfield 30, 3), (4, .ifCond .ne 17, 3), (7, .aload_n 0, 1), (8, .getfield 14, 3), (11, .getfield 36, 3), (14, .ifCond .le 7, 3), (17, .iconst 1, 1), (18, .goto 4, 3), (21, .iconst 0, 1), (22, .ireturn, 1)]
theorem dx_S_endsFrame : ∀ p ∈ dt_S_endsFrame, decode prog_9_method_7_code p.1 = .ok p.2 := by decide +kernel
theorem d_S_endsFrame {k pc : Nat} {i : Instr} {n : Nat} (h : dt_S_endsFrame[k]? = some (pc, i, n)) : decode mi_S_endsFrame.2.1 pc = .ok (i, n) := dx_S_endsFrame (pc, i, n) (List.mem_of_getElem? h)
def q_S_endsFrame (t0 : Option Nat) (M : mM) : Option (Int32 × mM) :=
    x_gI M 7 t0 3 fun x1 =>
    if x1 = 0 then
      x_gR M 7 t0 0 fun a2 =>
      x_gI M 0 a2 1 fun x3 =>
      if 0 < x3 then
        x_rz (1 : Int32) M
      else
        x_rz (0 : Int32) M
    else
      x_rz (0 : Int32) M
set_option maxRecDepth 20000 in
theorem v_S_endsFrame {E : mE} (t0 : Option Nat) (M : mM) : mVr E mi_S_endsFrame 0 0 [some (.inr t0)] [] M enI (q_S_endsFrame t0 M) := by
  unfold q_S_endsFrame
  refine m_aload_n (d_S_endsFrame (k := 0) rfl) rfl ?_
  refine m_getI (d_S_endsFrame (k := 1) rfl) fl_S_30 rfl (fun x1 => ?_)
  refine m_if_ne (tgt := 21) (d_S_endsFrame (k := 2) rfl) rfl ?_ ?_
  · refine m_aload_n (d_S_endsFrame (k := 3) rfl) rfl ?_
    refine m_getR (d_S_endsFrame (k := 4) rfl) fl_S_14 rfl (fun a2 => ?_)
    refine m_getI (d_S_endsFrame (k := 5) rfl) fl_S_36 rfl (fun x3 => ?_)
    refine m_if_le (tgt := 21) (d_S_endsFrame (k := 6) rfl) rfl ?_ ?_
    · refine m_iconst (v := 1) (d_S_endsFrame (k := 7) rfl) (by decide) ?_
      refine m_goto (tgt := 22) (d_S_endsFrame (k := 8) rfl) rfl ?_
      exact m_zret (d_S_endsFrame (k := 10) rfl) rfl
    · refine m_iconst (v := 0) (d_S_endsFrame (k := 9) rfl) (by decide) ?_
      exact m_zret (d_S_endsFrame (k := 10) rfl) rfl
  · refine m_iconst (v := 0) (d_S_endsFrame (k := 9) rfl) (by decide) ?_
    exact m_zret (d_S_endsFrame (k := 10) rfl) rfl
theorem s_S_endsFrame {E : mE} (t0 : Option Nat) (M : mM) : mSnd E mi_S_endsFrame 0 [.inr t0] M enI (q_S_endsFrame t0 M) := m_entryZ (by decide) (Nat.le_of_ble_eq_true rfl) rfl (m_drop (mles_s mles_0) (v_S_endsFrame t0 M))
def dt_C_sendNext : List (Nat × Instr × Nat) := [(0, .aload_n 1, 1), (1, .getfield 257, 3), (4, .astore_n 2, 1), (5, .aload_n 2, 1), (6, .invokevirtual 343, 3), (9, .ifCond .eq 67, 3), (12, .aload_n 2, 1), (13, .getfield 353, 3), (16, .iconst 4, 1), (17, .if_icmp .ge 14, 3), (20, .aload_n 1, 1), (21, .getfield 124, 3), (24, .iconst 0, 1), (25, .invokevirtual 217, 3), (28, .goto 4, 3), (31, .aconst_null, 1), (32, .astore_n 3, 1), (33, .aload_n 3, 1), (34, .ifnonnull 9, 3), (37, .aload_n 2, 1), (38, .iconst 0, 1), (39, .putfield 260, 3), (42, .return_, 1), (43, .aload_n 2, 1), (44, .aload_n 3, 1), (45, .invokevirtual 88, 3), (48, .aload_n 2, 1), (49, .dup, 1), (50, .getfield 353, 3), (53, .iconst 1, 1), (54, .iadd, 1), (55, .putfield 353, 3), (58, .aload_n 1, 1), (59, .getfield 124, 3), (62, .iconst 1, 1), (63, .invokevirtual 221, 3), (66, .aload_n 1, 1), (67, .dup, 1), (68, .getfield 273, 3), (71, .iconst 1, 1), (72, .iadd, 1), (73, .putfield 273, 3), (76, .aload_n 2, 1), (77, .invokevirtual 346, 3), (80, .aload_n 0, 1), (81, .dup, 1), (82, .getfield 356, 3), (85, .iconst 1, 1), (86, .aload_n 1, 1), (87, .getfield 368, 3), (90, .ishl, 1), (91, .ior, 1), (92, .putfield 356, 3), (95, .aload_n 0, 1), (96, .dup, 1), (97, .getfield 359, 3), (100, .aload_n 2, 1), (101, .getfield 79, 3), (104, .aload_n 1, 1), (105, .getfield 368, 3), (108, .ishl, 1), (109, .ior, 1), (110, .putfield 359, 3), (113, .aload_n 2, 1), (114, .invokevirtual 371, 3), (117, .ifCond .eq 18, 3), (120, .aload_n 0, 1), (121, .dup, 1), (122, .getfield 362, 3), (125, .iconst 1, 1), (126, .aload_n 1, 1), (127, .getfield 368, 3), (130, .ishl, 1), (131, .ior, 1), (132, .putfield 362, 3), (135, .return_, 1)]
theorem dx_C_sendNext : ∀ p ∈ dt_C_sendNext, decode prog_1_method_36_code p.1 = .ok p.2 := by decide +kernel
theorem d_C_sendNext {k pc : Nat} {i : Instr} {n : Nat} (h : dt_C_sendNext[k]? = some (pc, i, n)) : decode mi_C_sendNext.2.1 pc = .ok (i, n) := dx_C_sendNext (pc, i, n) (List.mem_of_getElem? h)
def q_C_sendNext_76 (t0 : Option Nat) (t1 : Option Nat) (t2 : Option Nat) (M : mM) : Option (Unit × mM) :=
    x_cv M 7 t2 (q_S_sendBit t2 M) fun _ M =>
    x_gI M 9 t0 8 fun x1 =>
    x_gI M 8 t1 0 fun x2 =>
    x_pI M 9 t0 8 (x1 ||| ((1 : Int32) <<< (x2 &&& 31))) fun M =>
    x_gI M 9 t0 9 fun x3 =>
    x_gI M 7 t2 4 fun x4 =>
    x_gI M 8 t1 0 fun x5 =>
    x_pI M 9 t0 9 (x3 ||| (x4 <<< (x5 &&& 31))) fun M =>
    x_cv M 7 t2 (q_S_endsFrame t2 M) fun x6 M =>
    if x6 = 0 then
      some ((), M)
    else
      x_gI M 9 t0 10 fun x7 =>
      x_gI M 8 t1 0 fun x8 =>
      x_pI M 9 t0 10 (x7 ||| ((1 : Int32) <<< (x8 &&& 31))) fun M =>
      some ((), M)
set_option maxRecDepth 20000 in
theorem v_C_sendNext_76 {E : mE} (t0 : Option Nat) (t1 : Option Nat) (t2 : Option Nat) (M : mM) : mVr E mi_C_sendNext 4 76 [some (.inr t0), some (.inr t1), some (.inr t2), none] [] M enU (q_C_sendNext_76 t0 t1 t2 M) := by
  unfold q_C_sendNext_76
  refine m_aload_n (d_C_sendNext (k := 42) rfl) rfl ?_
  refine m_cvU (c := 7) (vs := []) (st := []) (d_C_sendNext (k := 43) rfl) (s_S_sendBit t2 M) cd_S_sendBit ml_C_346 im_S_sendBit se_S_sendBit rfl (by decide) rfl (Nat.le_of_ble_eq_true rfl) (fun _ M => ?_)
  refine m_aload_n (d_C_sendNext (k := 44) rfl) rfl ?_
  refine m_dup (d_C_sendNext (k := 45) rfl) ?_
  refine m_getI (d_C_sendNext (k := 46) rfl) fl_C_356 rfl (fun x1 => ?_)
  refine m_iconst (v := 1) (d_C_sendNext (k := 47) rfl) (by decide) ?_
  refine m_aload_n (d_C_sendNext (k := 48) rfl) rfl ?_
  refine m_getI (d_C_sendNext (k := 49) rfl) fl_C_368 rfl (fun x2 => ?_)
  refine m_ishl (d_C_sendNext (k := 50) rfl) ?_
  refine m_ior (d_C_sendNext (k := 51) rfl) ?_
  refine m_pI (d_C_sendNext (k := 52) rfl) fp_C_356 (fun h => absurd h (by decide)) rfl (fun M => ?_)
  refine m_aload_n (d_C_sendNext (k := 53) rfl) rfl ?_
  refine m_dup (d_C_sendNext (k := 54) rfl) ?_
  refine m_getI (d_C_sendNext (k := 55) rfl) fl_C_359 rfl (fun x3 => ?_)
  refine m_aload_n (d_C_sendNext (k := 56) rfl) rfl ?_
  refine m_getI (d_C_sendNext (k := 57) rfl) fl_C_79 rfl (fun x4 => ?_)
  refine m_aload_n (d_C_sendNext (k := 58) rfl) rfl ?_
  refine m_getI (d_C_sendNext (k := 59) rfl) fl_C_368 rfl (fun x5 => ?_)
  refine m_ishl (d_C_sendNext (k := 60) rfl) ?_
  refine m_ior (d_C_sendNext (k := 61) rfl) ?_
  refine m_pI (d_C_sendNext (k := 62) rfl) fp_C_359 (fun h => absurd h (by decide)) rfl (fun M => ?_)
  refine m_aload_n (d_C_sendNext (k := 63) rfl) rfl ?_
  refine m_cvI (c := 7) (vs := []) (st := []) (d_C_sendNext (k := 64) rfl) (s_S_endsFrame t2 M) cd_S_endsFrame ml_C_371 im_S_endsFrame se_S_endsFrame rfl (by decide) rfl (Nat.le_of_ble_eq_true rfl) (fun x6 M => ?_)
  refine m_if_eq (tgt := 135) (d_C_sendNext (k := 65) rfl) rfl ?_ ?_
  · exact m_vret (d_C_sendNext (k := 75) rfl) rfl
  · refine m_aload_n (d_C_sendNext (k := 66) rfl) rfl ?_
    refine m_dup (d_C_sendNext (k := 67) rfl) ?_
    refine m_getI (d_C_sendNext (k := 68) rfl) fl_C_362 rfl (fun x7 => ?_)
    refine m_iconst (v := 1) (d_C_sendNext (k := 69) rfl) (by decide) ?_
    refine m_aload_n (d_C_sendNext (k := 70) rfl) rfl ?_
    refine m_getI (d_C_sendNext (k := 71) rfl) fl_C_368 rfl (fun x8 => ?_)
    refine m_ishl (d_C_sendNext (k := 72) rfl) ?_
    refine m_ior (d_C_sendNext (k := 73) rfl) ?_
    refine m_pI (d_C_sendNext (k := 74) rfl) fp_C_362 (fun h => absurd h (by decide)) rfl (fun M => ?_)
    exact m_vret (d_C_sendNext (k := 75) rfl) rfl
def q_C_sendNext_32 (t0 : Option Nat) (t1 : Option Nat) (t2 : Option Nat) (u0 : Option Nat) (M : mM) : Option (Unit × mM) :=
    x_nl u0 (
      x_pZ M 7 t2 5 (0 : Int32) fun M =>
      some ((), M)
    ) (
      x_cv M 7 t2 (q_S_startFrame t2 u0 M) fun _ M =>
      x_gI M 7 t2 6 fun x1 =>
      x_pI M 7 t2 6 (x1 + (1 : Int32)) fun M =>
      x_gR M 8 t1 4 fun a2 =>
      x_cv M 6 a2 (q_W_dropFirst a2 (1 : Int32) M) fun _ M =>
      x_gI M 8 t1 13 fun x3 =>
      x_pI M 8 t1 13 (x3 + (1 : Int32)) fun M =>
      q_C_sendNext_76 t0 t1 t2 M
    )
set_option maxRecDepth 20000 in
theorem v_C_sendNext_32 {E : mE} (t0 : Option Nat) (t1 : Option Nat) (t2 : Option Nat) (u0 : Option Nat) (M : mM) : mVr E mi_C_sendNext 4 32 [some (.inr t0), some (.inr t1), some (.inr t2), none] [.inr u0] M enU (q_C_sendNext_32 t0 t1 t2 u0 M) := by
  unfold q_C_sendNext_32
  refine m_ast_n (ls' := [some (.inr t0), some (.inr t1), some (.inr t2), some (.inr u0)]) (d_C_sendNext (k := 16) rfl) (by decide) rfl ?_
  refine m_aload_n (d_C_sendNext (k := 17) rfl) rfl ?_
  refine m_ifnonnull (tgt := 43) (d_C_sendNext (k := 18) rfl) rfl ?_ ?_
  · refine m_aload_n (d_C_sendNext (k := 19) rfl) rfl ?_
    refine m_iconst (v := 0) (d_C_sendNext (k := 20) rfl) (by decide) ?_
    refine m_pZ (d_C_sendNext (k := 21) rfl) fp_C_260 (fun h => absurd h (by decide)) rfl (fun M => ?_)
    exact m_vret (d_C_sendNext (k := 22) rfl) rfl
  · refine m_aload_n (d_C_sendNext (k := 23) rfl) rfl ?_
    refine m_aload_n (d_C_sendNext (k := 24) rfl) rfl ?_
    refine m_cvU (c := 7) (vs := [.inr u0]) (st := []) (d_C_sendNext (k := 25) rfl) (s_S_startFrame t2 u0 M) cd_S_startFrame ml_C_88 im_S_startFrame se_S_startFrame rfl (by decide) rfl (Nat.le_of_ble_eq_true rfl) (fun _ M => ?_)
    refine m_aload_n (d_C_sendNext (k := 26) rfl) rfl ?_
    refine m_dup (d_C_sendNext (k := 27) rfl) ?_
    refine m_getI (d_C_sendNext (k := 28) rfl) fl_C_353 rfl (fun x1 => ?_)
    refine m_iconst (v := 1) (d_C_sendNext (k := 29) rfl) (by decide) ?_
    refine m_iadd (d_C_sendNext (k := 30) rfl) ?_
    refine m_pI (d_C_sendNext (k := 31) rfl) fp_C_353 (fun h => absurd h (by decide)) rfl (fun M => ?_)
    refine m_aload_n (d_C_sendNext (k := 32) rfl) rfl ?_
    refine m_getR (d_C_sendNext (k := 33) rfl) fl_C_124 rfl (fun a2 => ?_)
    refine m_iconst (v := 1) (d_C_sendNext (k := 34) rfl) (by decide) ?_
    refine m_cvU (c := 6) (vs := [.inl (1 : Int32)]) (st := []) (d_C_sendNext (k := 35) rfl) (s_W_dropFirst a2 (1 : Int32) M) cd_W_dropFirst ml_C_221 im_W_dropFirst se_W_dropFirst rfl (by decide) rfl (Nat.le_of_ble_eq_true rfl) (fun _ M => ?_)
    refine m_aload_n (d_C_sendNext (k := 36) rfl) rfl ?_
    refine m_dup (d_C_sendNext (k := 37) rfl) ?_
    refine m_getI (d_C_sendNext (k := 38) rfl) fl_C_273 rfl (fun x3 => ?_)
    refine m_iconst (v := 1) (d_C_sendNext (k := 39) rfl) (by decide) ?_
    refine m_iadd (d_C_sendNext (k := 40) rfl) ?_
    refine m_pI (d_C_sendNext (k := 41) rfl) fp_C_273 (fun h => absurd h (by decide)) rfl (fun M => ?_)
    exact m_drop (mles_s (mles_s (mles_s (mles_n mles_0)))) (v_C_sendNext_76 t0 t1 t2 M)
def q_C_sendNext (t0 : Option Nat) (t1 : Option Nat) (M : mM) : Option (Unit × mM) :=
    x_gR M 8 t1 2 fun a1 =>
    x_cv M 7 a1 (q_S_isThrough a1 M) fun x2 M =>
    if x2 = 0 then
      q_C_sendNext_76 t0 t1 a1 M
    else
      x_gI M 7 a1 6 fun x3 =>
      if x3 < (4 : Int32) then
        x_gR M 8 t1 4 fun a4 =>
        x_cv M 6 a4 (q_W_rowAt a4 (0 : Int32) M) fun a5 M =>
        q_C_sendNext_32 t0 t1 a1 a5 M
      else
        q_C_sendNext_32 t0 t1 a1 none M
set_option maxRecDepth 20000 in
theorem v_C_sendNext {E : mE} (t0 : Option Nat) (t1 : Option Nat) (M : mM) : mVr E mi_C_sendNext 4 0 [some (.inr t0), some (.inr t1), none, none] [] M enU (q_C_sendNext t0 t1 M) := by
  unfold q_C_sendNext
  refine m_aload_n (d_C_sendNext (k := 0) rfl) rfl ?_
  refine m_getR (d_C_sendNext (k := 1) rfl) fl_C_257 rfl (fun a1 => ?_)
  refine m_ast_n (ls' := [some (.inr t0), some (.inr t1), some (.inr a1), none]) (d_C_sendNext (k := 2) rfl) (by decide) rfl ?_
  refine m_aload_n (d_C_sendNext (k := 3) rfl) rfl ?_
  refine m_cvI (c := 7) (vs := []) (st := []) (d_C_sendNext (k := 4) rfl) (s_S_isThrough a1 M) cd_S_isThrough ml_C_343 im_S_isThrough se_S_isThrough rfl (by decide) rfl (Nat.le_of_ble_eq_true rfl) (fun x2 M => ?_)
  refine m_if_eq (tgt := 76) (d_C_sendNext (k := 5) rfl) rfl ?_ ?_
  · exact m_drop (mles_s (mles_s (mles_s (mles_n mles_0)))) (v_C_sendNext_76 t0 t1 a1 M)
  · refine m_aload_n (d_C_sendNext (k := 6) rfl) rfl ?_
    refine m_getI (d_C_sendNext (k := 7) rfl) fl_C_353 rfl (fun x3 => ?_)
    refine m_iconst (v := 4) (d_C_sendNext (k := 8) rfl) (by decide) ?_
    refine m_icmp_ge (tgt := 31) (d_C_sendNext (k := 9) rfl) rfl ?_ ?_
    · refine m_aload_n (d_C_sendNext (k := 10) rfl) rfl ?_
      refine m_getR (d_C_sendNext (k := 11) rfl) fl_C_124 rfl (fun a4 => ?_)
      refine m_iconst (v := 0) (d_C_sendNext (k := 12) rfl) (by decide) ?_
      refine m_cvR (c := 6) (vs := [.inl (0 : Int32)]) (st := []) (d_C_sendNext (k := 13) rfl) (s_W_rowAt a4 (0 : Int32) M) cd_W_rowAt ml_C_217 im_W_rowAt se_W_rowAt rfl (by decide) rfl (Nat.le_of_ble_eq_true rfl) (fun a5 M => ?_)
      refine m_goto (tgt := 32) (d_C_sendNext (k := 14) rfl) rfl ?_
      exact m_drop (mles_s (mles_s (mles_s (mles_n mles_0)))) (v_C_sendNext_32 t0 t1 a1 a5 M)
    · refine m_null (d_C_sendNext (k := 15) rfl) ?_
      exact m_drop (mles_s (mles_s (mles_s (mles_n mles_0)))) (v_C_sendNext_32 t0 t1 a1 none M)
theorem s_C_sendNext {E : mE} (t0 : Option Nat) (t1 : Option Nat) (M : mM) : mSnd E mi_C_sendNext 4 [.inr t0, .inr t1] M enU (q_C_sendNext t0 t1 M) := m_entryU (by decide) (Nat.le_of_ble_eq_true rfl) rfl (m_drop (mles_s (mles_s (mles_e (mles_e mles_0)))) (v_C_sendNext t0 t1 M))
