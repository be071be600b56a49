def dt_C_sendBits : List (Nat × Instr × Nat) := [(0, .aload_n 0, 1), (1, .iconst 0, 1), (2, .putfield 356, 3), (5, .aload_n 0, 1), (6, .iconst 0, 1), (7, .putfield 359, 3), (10, .aload_n 0, 1), (11, .iconst 0, 1), (12, .putfield 362, 3), (15, .iconst 0, 1), (16, .istore_n 1, 1), (17, .iload_n 1, 1), (18, .bipush 6, 2), (20, .if_icmp .ge 31, 3), (23, .aload_n 0, 1), (24, .getfield 11, 3), (27, .iload_n 1, 1), (28, .aaload, 1), (29, .astore_n 2, 1), (30, .aload_n 2, 1), (31, .getfield 257, 3), (34, .getfield 260, 3), (37, .ifCond .eq 8, 3), (40, .aload_n 0, 1), (41, .aload_n 2, 1), (42, .invokevirtual 365, 3), (45, .iinc 1 1, 3), (48, .goto (-31), 3), (51, .return_, 1)]
theorem dx_C_sendBits : ∀ p ∈ dt_C_sendBits, decode prog_1_method_35_code p.1 = .ok p.2 := by decide +kernel
theorem d_C_sendBits {k pc : Nat} {i : Instr} {n : Nat} (h : dt_C_sendBits[k]? = some (pc, i, n)) : decode mi_C_sendBits.2.1 pc = .ok (i, n) := dx_C_sendBits (pc, i, n) (List.mem_of_getElem? h)
def q_C_sendBits_45 (r17 : Option Nat → Int32 → mM → Option (Unit × mM)) (t0 : Option Nat) (i1 : Int32) (M : mM) : Option (Unit × mM) :=
    r17 t0 (i1 + 1) M
set_option maxRecDepth 20000 in
theorem v_C_sendBits_45 {E : mE} (r17 : Option Nat → Int32 → mM → Option (Unit × mM)) (h17 : ∀ (t0 : Option Nat) (i1 : Int32) (M : mM), mVr E mi_C_sendBits 5 17 [some (.inr t0), some (.inl i1), none] [] M enU (r17 t0 i1 M)) (t0 : Option Nat) (i1 : Int32) (M : mM) : mVr E mi_C_sendBits 5 45 [some (.inr t0), some (.inl i1), none] [] M enU (q_C_sendBits_45 r17 t0 i1 M) := by
  unfold q_C_sendBits_45
  refine m_inc (v := 1) (ls' := [some (.inr t0), some (.inl (i1 + 1)), none]) (d_C_sendBits (k := 26) rfl) rfl (by decide) (by decide) rfl ?_
  refine m_goto (tgt := 17) (d_C_sendBits (k := 27) rfl) rfl ?_
  exact m_drop (mles_s (mles_s (mles_n mles_0))) (h17 t0 (i1 + 1) M)
def q_C_sendBits_17_b (r17 : Option Nat → Int32 → mM → Option (Unit × mM)) (t0 : Option Nat) (i1 : Int32) (M : mM) : Option (Unit × mM) :=
    if i1 < (6 : Int32) then
      x_gR M 9 t0 0 fun a1 =>
      x_aR M 2 a1 i1 fun a2 =>
      x_gR M 8 a2 2 fun a3 =>
      x_gI M 7 a3 5 fun x4 =>
      if x4 = 0 then
        q_C_sendBits_45 r17 t0 i1 M
      else
        x_cv M 9 t0 (q_C_sendNext t0 a2 M) fun _ M =>
        q_C_sendBits_45 r17 t0 i1 M
    else
      some ((), M)
def q_C_sendBits_17 : Nat → Option Nat → Int32 → mM → Option (Unit × mM)
  | 0, _, _, _ => none
  | n + 1, t0, i1, M => q_C_sendBits_17_b (q_C_sendBits_17 n) t0 i1 M
set_option maxRecDepth 20000 in
theorem v_C_sendBits_17_b {E : mE} (r17 : Option Nat → Int32 → mM → Option (Unit × mM)) (h17 : ∀ (t0 : Option Nat) (i1 : Int32) (M : mM), mVr E mi_C_sendBits 5 17 [some (.inr t0), some (.inl i1), none] [] M enU (r17 t0 i1 M)) (t0 : Option Nat) (i1 : Int32) (M : mM) : mVr E mi_C_sendBits 5 17 [some (.inr t0), some (.inl i1), none] [] M enU (q_C_sendBits_17_b r17 t0 i1 M) := by
  unfold q_C_sendBits_17_b
  refine m_iload_n (d_C_sendBits (k := 11) rfl) rfl ?_
  refine m_bipush (v := 6) (d_C_sendBits (k := 12) rfl) (by decide) ?_
  refine m_icmp_ge (tgt := 51) (d_C_sendBits (k := 13) rfl) rfl ?_ ?_
  · refine m_aload_n (d_C_sendBits (k := 14) rfl) rfl ?_
    refine m_getR (d_C_sendBits (k := 15) rfl) fl_C_11 rfl (fun a1 => ?_)
    refine m_iload_n (d_C_sendBits (k := 16) rfl) rfl ?_
    refine m_aald (t := 2) (d_C_sendBits (k := 17) rfl) rfl (fun a2 => ?_)
    refine m_ast_n (ls' := [some (.inr t0), some (.inl i1), some (.inr a2)]) (d_C_sendBits (k := 18) rfl) (by decide) rfl ?_
    refine m_aload_n (d_C_sendBits (k := 19) rfl) rfl ?_
    refine m_getR (d_C_sendBits (k := 20) rfl) fl_C_257 rfl (fun a3 => ?_)
    refine m_getI (d_C_sendBits (k := 21) rfl) fl_C_260 rfl (fun x4 => ?_)
    refine m_if_eq (tgt := 45) (d_C_sendBits (k := 22) rfl) rfl ?_ ?_
    · exact m_drop (mles_s (mles_s (mles_n mles_0))) (v_C_sendBits_45 r17 h17 t0 i1 M)
    · refine m_aload_n (d_C_sendBits (k := 23) rfl) rfl ?_
      refine m_aload_n (d_C_sendBits (k := 24) rfl) rfl ?_
      refine m_cvU (c := 9) (vs := [.inr a2]) (st := []) (d_C_sendBits (k := 25) rfl) (s_C_sendNext t0 a2 M) cd_C_sendNext ml_C_365 im_C_sendNext se_C_sendNext rfl (by decide) rfl (Nat.le_of_ble_eq_true rfl) (fun _ M => ?_)
      exact m_drop (mles_s (mles_s (mles_n mles_0))) (v_C_sendBits_45 r17 h17 t0 i1 M)
  · exact m_vret (d_C_sendBits (k := 28) rfl) rfl
theorem v_C_sendBits_17 {E : mE} : ∀ (n : Nat) (t0 : Option Nat) (i1 : Int32) (M : mM), mVr E mi_C_sendBits 5 17 [some (.inr t0), some (.inl i1), none] [] M enU (q_C_sendBits_17 n t0 i1 M)
  | 0, _, _, _ => m_none
  | n + 1, t0, i1, M => v_C_sendBits_17_b _ (v_C_sendBits_17 n) t0 i1 M
def q_C_sendBits (t0 : Option Nat) (M : mM) : Option (Unit × mM) :=
    x_pI M 9 t0 8 (0 : Int32) fun M =>
    x_pI M 9 t0 9 (0 : Int32) fun M =>
    x_pI M 9 t0 10 (0 : Int32) fun M =>
    q_C_sendBits_17 mFU t0 (0 : Int32) M
set_option maxRecDepth 20000 in
theorem v_C_sendBits {E : mE} (t0 : Option Nat) (M : mM) : mVr E mi_C_sendBits 5 0 [some (.inr t0), none, none] [] M enU (q_C_sendBits t0 M) := by
  unfold q_C_sendBits
  refine m_aload_n (d_C_sendBits (k := 0) rfl) rfl ?_
  refine m_iconst (v := 0) (d_C_sendBits (k := 1) rfl) (by decide) ?_
  refine m_pI (d_C_sendBits (k := 2) rfl) fp_C_356 (fun h => absurd h (by decide)) rfl (fun M => ?_)
  refine m_aload_n (d_C_sendBits (k := 3) rfl) rfl ?_
  refine m_iconst (v := 0) (d_C_sendBits (k := 4) rfl) (by decide) ?_
  refine m_pI (d_C_sendBits (k := 5) rfl) fp_C_359 (fun h => absurd h (by decide)) rfl (fun M => ?_)
  refine m_aload_n (d_C_sendBits (k := 6) rfl) rfl ?_
  refine m_iconst (v := 0) (d_C_sendBits (k := 7) rfl) (by decide) ?_
  refine m_pI (d_C_sendBits (k := 8) rfl) fp_C_362 (fun h => absurd h (by decide)) rfl (fun M => ?_)
  refine m_iconst (v := 0) (d_C_sendBits (k := 9) rfl) (by decide) ?_
  refine m_ist_n (ls' := [some (.inr t0), some (.inl (0 : Int32)), none]) (d_C_sendBits (k := 10) rfl) (by decide) rfl ?_
  exact m_drop (mles_s (mles_s (mles_n mles_0))) (v_C_sendBits_17 mFU t0 (0 : Int32) M)
theorem s_C_sendBits {E : mE} (t0 : Option Nat) (M : mM) : mSnd E mi_C_sendBits 5 [.inr t0] M enU (q_C_sendBits t0 M) := m_entryU (by decide) (Nat.le_of_ble_eq_true rfl) rfl (m_drop (mles_s (mles_e (mles_e mles_0))) (v_C_sendBits t0 M))
def dt_C_answer : List (Nat × Instr × Nat) := [(0, .aload_n 1, 1), (1, .aload_n 0, 1), (2, .getfield 57, 3), (5, .getfield 425, 3), (8, .iload_n 2, 1), (9, .aload_n 0, 1), (10, .getfield 57, 3), (13, .getfield 463, 3), (16, .iadd, 1), (17, .iconst 0, 1), (18, .invokestatic 176, 3), (21, .pop, 1), (22, .return_, 1)]
theorem dx_C_answer : ∀ p ∈ dt_C_answer, decode prog_1_method_50_code p.1 = .ok p.2 := by decide +kernel
theorem d_C_answer {k pc : Nat} {i : Instr} {n : Nat} (h : dt_C_answer[k]? = some (pc, i, n)) : decode mi_C_answer.2.1 pc = .ok (i, n) := dx_C_answer (pc, i, n) (List.mem_of_getElem? h)
def q_C_answer (t0 : Option Nat) (t1 : Option Nat) (i2 : Int32) (M : mM) : Option (Unit × mM) :=
    x_gR M 9 t0 6 fun a1 =>
    x_gR M 1 a1 11 fun a2 =>
    x_gR M 9 t0 6 fun a3 =>
    x_gI M 1 a3 6 fun x4 =>
    x_cl (q_C_say t1 a2 (i2 + x4) (0 : Int32) M) fun a5 M =>
    some ((), M)
set_option maxRecDepth 20000 in
theorem v_C_answer {E : mE} (t0 : Option Nat) (t1 : Option Nat) (i2 : Int32) (M : mM) : mVr E mi_C_answer 2 0 [some (.inr t0), some (.inr t1), some (.inl i2)] [] M enU (q_C_answer t0 t1 i2 M) := by
  unfold q_C_answer
  refine m_aload_n (d_C_answer (k := 0) rfl) rfl ?_
  refine m_aload_n (d_C_answer (k := 1) rfl) rfl ?_
  refine m_getR (d_C_answer (k := 2) rfl) fl_C_57 rfl (fun a1 => ?_)
  refine m_getR (d_C_answer (k := 3) rfl) fl_C_425 rfl (fun a2 => ?_)
  refine m_iload_n (d_C_answer (k := 4) rfl) rfl ?_
  refine m_aload_n (d_C_answer (k := 5) rfl) rfl ?_
  refine m_getR (d_C_answer (k := 6) rfl) fl_C_57 rfl (fun a3 => ?_)
  refine m_getI (d_C_answer (k := 7) rfl) fl_C_463 rfl (fun x4 => ?_)
  refine m_iadd (d_C_answer (k := 8) rfl) ?_
  refine m_iconst (v := 0) (d_C_answer (k := 9) rfl) (by decide) ?_
  refine m_csR (vs := [.inr t1, .inr a2, .inl (i2 + x4), .inl (0 : Int32)]) (st := []) (d_C_answer (k := 10) rfl) (s_C_say t1 a2 (i2 + x4) (0 : Int32) M) cd_C_say ml_C_176 sa_C_say (by decide) rfl (Nat.le_of_ble_eq_true rfl) (fun a5 M => ?_)
  refine m_pop (d_C_answer (k := 11) rfl) ?_
  exact m_vret (d_C_answer (k := 12) rfl) rfl
theorem s_C_answer {E : mE} (t0 : Option Nat) (t1 : Option Nat) (i2 : Int32) (M : mM) : mSnd E mi_C_answer 2 [.inr t0, .inr t1, .inl i2] M enU (q_C_answer t0 t1 i2 M) := m_entryU (by decide) (Nat.le_of_ble_eq_true rfl) rfl (m_drop (mles_s (mles_s (mles_s mles_0))) (v_C_answer t0 t1 i2 M))
def dt_B_isNamed : List (Nat × Instr × Nat) := [(0, .iload_n 1, 1), (1, .ifCond .lt 14, 3), (4, .iload_n 1, 1), (5, .aload_n 2, 1), (6, .arraylength, 1), (7, .iadd, 1), (8, .aload_n 0, 1), (9, .getfield 21, 3), (12, .if_icmp .le 5, 3), (15, .iconst 0, 1), (16, .ireturn, 1), (17, .iconst 0, 1), (18, .istore_n 3, 1), (19, .iload_n 3, 1), (20, .aload_n 2, 1), (21, .arraylength, 1), (22, .if_icmp .ge 25, 3), (25, .aload_n 0, 1), (26, .getfield 15, 3), (29, .iload_n 1, 1), (30, .iload_n 3, 1), (31, .iadd, 1), (32, .iaload, 1), (33, .aload_n 2, 1), (34, .iload_n 3, 1), (35, .iaload, 1), (36, .if_icmp .eq 5, 3), (39, .iconst 0, 1), (40, .ireturn, 1), (41, .iinc 3 1, 3), (44, .goto (-25), 3), (47, .iconst 1, 1), (48, .ireturn, 1)]
theorem dx_B_isNamed : ∀ p ∈ dt_B_isNamed, decode prog_2_method_10_code p.1 = .ok p.2 := by decide +kernel
theorem d_B_isNamed {k pc : Nat} {i : Instr} {n : Nat} (h : dt_B_isNamed[k]? = some (pc, i, n)) : decode mi_B_isNamed.2.1 pc = .ok (i, n) := dx_B_isNamed (pc, i, n) (List.mem_of_getElem? h)
def q_B_isNamed_19_b (r19 : Option Nat → Int32 → Option Nat → Int32 → mM → Option (Int32 × mM)) (t0 : Option Nat) (i1 : Int32) (t2 : Option Nat) (i3 : Int32) (M : mM) : Option (Int32 × mM) :=
    x_sl t2 fun x1 =>
    if i3 < x1 then
      x_gR M 0 t0 0 fun a2 =>
      x_aI M 0 a2 (i1 + i3) fun x3 =>
      x_sI t2 i3 fun x4 =>
      if x3 = x4 then
        r19 t0 i1 t2 (i3 + 1) M
      else
        x_rz (0 : Int32) M
    else
      x_rz (1 : Int32) M
def q_B_isNamed_19 : Nat → Option Nat → Int32 → Option Nat → Int32 → mM → Option (Int32 × mM)
  | 0, _, _, _, _, _ => none
  | n + 1, t0, i1, t2, i3, M => q_B_isNamed_19_b (q_B_isNamed_19 n) t0 i1 t2 i3 M
set_option maxRecDepth 20000 in
theorem v_B_isNamed_19_b {E : mE} (r19 : Option Nat → Int32 → Option Nat → Int32 → mM → Option (Int32 × mM)) (h19 : ∀ (t0 : Option Nat) (i1 : Int32) (t2 : Option Nat) (i3 : Int32) (M : mM), mVr E mi_B_isNamed 0 19 [some (.inr t0), some (.inl i1), some (.inr t2), some (.inl i3)] [] M enI (r19 t0 i1 t2 i3 M)) (t0 : Option Nat) (i1 : Int32) (t2 : Option Nat) (i3 : Int32) (M : mM) : mVr E mi_B_isNamed 0 19 [some (.inr t0), some (.inl i1), some (.inr t2), some (.inl i3)] [] M enI (q_B_isNamed_19_b r19 t0 i1 t2 i3 M) := by
  unfold q_B_isNamed_19_b
  refine m_iload_n (d_B_isNamed (k := 13) rfl) rfl ?_
  refine m_aload_n (d_B_isNamed (k := 14) rfl) rfl ?_
  refine m_slen (d_B_isNamed (k := 15) rfl) (fun x1 => ?_)
  refine m_icmp_ge (tgt := 47) (d_B_isNamed (k := 16) rfl) rfl ?_ ?_
  · refine m_aload_n (d_B_isNamed (k := 17) rfl) rfl ?_
    refine m_getR (d_B_isNamed (k := 18) rfl) fl_B_15 rfl (fun a2 => ?_)
    refine m_iload_n (d_B_isNamed (k := 19) rfl) rfl ?_
    refine m_iload_n (d_B_isNamed (k := 20) rfl) rfl ?_
    refine m_iadd (d_B_isNamed (k := 21) rfl) ?_
    refine m_iald (d_B_isNamed (k := 22) rfl) (fun x3 => ?_)
    refine m_aload_n (d_B_isNamed (k := 23) rfl) rfl ?_
    refine m_iload_n (d_B_isNamed (k := 24) rfl) rfl ?_
    refine m_sld (d_B_isNamed (k := 25) rfl) (fun x4 => ?_)
    refine m_icmp_eq (tgt := 41) (d_B_isNamed (k := 26) rfl) rfl ?_ ?_
    · refine m_inc (v := 1) (ls' := [some (.inr t0), some (.inl i1), some (.inr t2), some (.inl (i3 + 1))]) (d_B_isNamed (k := 29) rfl) rfl (by decide) (by decide) rfl ?_
      refine m_goto (tgt := 19) (d_B_isNamed (k := 30) rfl) rfl ?_
      exact m_drop (mles_s (mles_s (mles_s (mles_s mles_0)))) (h19 t0 i1 t2 (i3 + 1) M)
    · refine m_iconst (v := 0) (d_B_isNamed (k := 27) rfl) (by decide) ?_
      exact m_zret (d_B_isNamed (k := 28) rfl) rfl
  · refine m_iconst (v := 1) (d_B_isNamed (k := 31) rfl) (by decide) ?_
    exact m_zret (d_B_isNamed (k := 32) rfl) rfl
theorem v_B_isNamed_19 {E : mE} : ∀ (n : Nat) (t0 : Option Nat) (i1 : Int32) (t2 : Option Nat) (i3 : Int32) (M : mM), mVr E mi_B_isNamed 0 19 [some (.inr t0), some (.inl i1), some (.inr t2), some (.inl i3)] [] M enI (q_B_isNamed_19 n t0 i1 t2 i3 M)
  | 0, _, _, _, _, _ => m_none
  | n + 1, t0, i1, t2, i3, M => v_B_isNamed_19_b _ (v_B_isNamed_19 n) t0 i1 t2 i3 M
def q_B_isNamed (t0 : Option Nat) (i1 : Int32) (t2 : Option Nat) (M : mM) : Option (Int32 × mM) :=
    if i1 < 0 then
      x_rz (0 : Int32) M
    else
      x_sl t2 fun x1 =>
      x_gI M 0 t0 1 fun x2 =>
      if x2 < (i1 + x1) then
        x_rz (0 : Int32) M
      else
        q_B_isNamed_19 mFU t0 i1 t2 (0 : Int32) M
set_option maxRecDepth 20000 in
theorem v_B_isNamed {E : mE} (t0 : Option Nat) (i1 : Int32) (t2 : Option Nat) (M : mM) : mVr E mi_B_isNamed 0 0 [some (.inr t0), some (.inl i1), some (.inr t2), none] [] M enI (q_B_isNamed t0 i1 t2 M) := by
  unfold q_B_isNamed
  refine m_iload_n (d_B_isNamed (k := 0) rfl) rfl ?_
  refine m_if_lt (tgt := 15) (d_B_isNamed (k := 1) rfl) rfl ?_ ?_
  · refine m_iconst (v := 0) (d_B_isNamed (k := 9) rfl) (by decide) ?_
    exact m_zret (d_B_isNamed (k := 10) rfl) rfl
  · refine m_iload_n (d_B_isNamed (k := 2) rfl) rfl ?_
    refine m_aload_n (d_B_isNamed (k := 3) rfl) rfl ?_
    refine m_slen (d_B_isNamed (k := 4) rfl) (fun x1 => ?_)
    refine m_iadd (d_B_isNamed (k := 5) rfl) ?_
    refine m_aload_n (d_B_isNamed (k := 6) rfl) rfl ?_
    refine m_getI (d_B_isNamed (k := 7) rfl) fl_B_21 rfl (fun x2 => ?_)
    refine m_icmp_le (tgt := 17) (d_B_isNamed (k := 8) rfl) rfl ?_ ?_
    · refine m_iconst (v := 0) (d_B_isNamed (k := 9) rfl) (by decide) ?_
      exact m_zret (d_B_isNamed (k := 10) rfl) rfl
    · refine m_iconst (v := 0) (d_B_isNamed (k := 11) rfl) (by decide) ?_
      refine m_ist_n (ls' := [some (.inr t0), some (.inl i1), some (.inr t2), some (.inl (0 : Int32))]) (d_B_isNamed (k := 12) rfl) (by decide) rfl ?_
      exact m_drop (mles_s (mles_s (mles_s (mles_s mles_0)))) (v_B_isNamed_19 mFU t0 i1 t2 (0 : Int32) M)
theorem s_B_isNamed {E : mE} (t0 : Option Nat) (i1 : Int32) (t2 : Option Nat) (M : mM) : mSnd E mi_B_isNamed 0 [.inr t0, .inl i1, .inr t2] M enI (q_B_isNamed t0 i1 t2 M) := m_entryZ (by decide) (Nat.le_of_ble_eq_true rfl) rfl (m_drop (mles_s (mles_s (mles_s (mles_e mles_0)))) (v_B_isNamed t0 i1 t2 M))
def dt_F_addressAt : List (Nat × Instr × Nat) := [(0, .aload_n 1, 1), (1, .iload_n 2, 1), (2, .bipush 6, 2), (4, .iadd, 1), (5, .invokevirtual 29, 3), (8, .istore_n 3, 1), (9, .iload_n 3, 1), (10, .iconst (-1), 1), (11, .if_icmp .ne 5, 3), (14, .iconst (-1), 1), (15, .ireturn, 1), (16, .iload_n 3, 1), (17, .bipush 126, 2), (19, .iand, 1), (20, .bipush 96, 2), (22, .isub, 1), (23, .istore 4, 2), (25, .iload 4, 2), (27, .ifCond .ne 17, 3), (30, .aload_n 1, 1), (31, .iload_n 2, 1), (32, .getstatic 69, 3), (35, .invokevirtual 73, 3), (38, .ifCond .eq 6, 3), (41, .bipush 6, 2), (43, .ireturn, 1), (44, .iload 4, 2), (46, .iconst 2, 1), (47, .idiv, 1), (48, .istore 5, 2), (50, .iload 4, 2), (52, .ifCond .lt 27, 3), (55, .iload 5, 2), (57, .invokestatic 77, 3), (60, .ifCond .eq 19, 3), (63, .aload_n 1, 1), (64, .iload_n 2, 1), (65, .getstatic 81, 3), (68, .invokevirtual 73, 3), (71, .ifCond .eq 8, 3), (74, .iload 5, 2), (76, .goto 4, 3), (79, .iconst (-1), 1), (80, .ireturn, 1)]
theorem dx_F_addressAt : ∀ p ∈ dt_F_addressAt, decode prog_3_method_5_code p.1 = .ok p.2 := by decide +kernel
theorem d_F_addressAt {k pc : Nat} {i : Instr} {n : Nat} (h : dt_F_addressAt[k]? = some (pc, i, n)) : decode mi_F_addressAt.2.1 pc = .ok (i, n) := dx_F_addressAt (pc, i, n) (List.mem_of_getElem? h)
def q_F_addressAt_44 (t1 : Option Nat) (i2 : Int32) (i4 : Int32) (M : mM) : Option (Int32 × mM) :=
    x_dv i4 (2 : Int32) fun x1 =>
    if i4 < 0 then
      some ((-1 : Int32), M)
    else
      x_cl (q_C_isStation x1 M) fun x2 M =>
      if x2 = 0 then
        some ((-1 : Int32), M)
      else
        x_cv M 0 t1 (q_B_isNamed t1 i2 (some 3) M) fun x3 M =>
        if x3 = 0 then
          some ((-1 : Int32), M)
        else
          some (x1, M)
set_option maxRecDepth 20000 in
theorem v_F_addressAt_44 {E : mE} (t1 : Option Nat) (i2 : Int32) (i4 : Int32) (M : mM) : mVr E mi_F_addressAt 1 44 [none, some (.inr t1), some (.inl i2), none, some (.inl i4), none] [] M enI (q_F_addressAt_44 t1 i2 i4 M) := by
  unfold q_F_addressAt_44
  refine m_iload (d_F_addressAt (k := 26) rfl) rfl ?_
  refine m_iconst (v := 2) (d_F_addressAt (k := 27) rfl) (by decide) ?_
  refine m_idiv (d_F_addressAt (k := 28) rfl) (fun x1 => ?_)
  refine m_ist (ls' := [none, some (.inr t1), some (.inl i2), none, some (.inl i4), some (.inl x1)]) (d_F_addressAt (k := 29) rfl) (by decide) rfl ?_
  refine m_iload (d_F_addressAt (k := 30) rfl) rfl ?_
  refine m_if_lt (tgt := 79) (d_F_addressAt (k := 31) rfl) rfl ?_ ?_
  · refine m_iconst (v := (-1)) (d_F_addressAt (k := 42) rfl) (by decide) ?_
    exact m_iret (d_F_addressAt (k := 43) rfl) rfl
  · refine m_iload (d_F_addressAt (k := 32) rfl) rfl ?_
    refine m_nsI (vs := [.inl x1]) (st := []) (d_F_addressAt (k := 33) rfl) (s_C_isStation x1 M) cd_C_isStation mn_F_77 sa_C_isStation (by decide) rfl (Nat.le_of_ble_eq_true rfl) (fun x2 M => ?_)
    refine m_if_eq (tgt := 79) (d_F_addressAt (k := 34) rfl) rfl ?_ ?_
    · refine m_iconst (v := (-1)) (d_F_addressAt (k := 42) rfl) (by decide) ?_
      exact m_iret (d_F_addressAt (k := 43) rfl) rfl
    · refine m_aload_n (d_F_addressAt (k := 35) rfl) rfl ?_
      refine m_iload_n (d_F_addressAt (k := 36) rfl) rfl ?_
      refine m_getsN (q := 3) (List.mem_of_getElem? (i := 2) rfl) (by decide) (d_F_addressAt (k := 37) rfl) gn_F_81 ?_
      refine m_cvI (c := 0) (vs := [.inl i2, .inr (some 3)]) (st := []) (d_F_addressAt (k := 38) rfl) (s_B_isNamed t1 i2 (some 3) M) cd_B_isNamed ml_F_73 im_B_isNamed se_B_isNamed rfl (by decide) rfl (Nat.le_of_ble_eq_true rfl) (fun x3 M => ?_)
      refine m_if_eq (tgt := 79) (d_F_addressAt (k := 39) rfl) rfl ?_ ?_
      · refine m_iconst (v := (-1)) (d_F_addressAt (k := 42) rfl) (by decide) ?_
        exact m_iret (d_F_addressAt (k := 43) rfl) rfl
      · refine m_iload (d_F_addressAt (k := 40) rfl) rfl ?_
        refine m_goto (tgt := 80) (d_F_addressAt (k := 41) rfl) rfl ?_
        exact m_iret (d_F_addressAt (k := 43) rfl) rfl
def q_F_addressAt (t0 : Option Nat) (t1 : Option Nat) (i2 : Int32) (M : mM) : Option (Int32 × mM) :=
    x_cv M 0 t1 (q_B_at t1 (i2 + (6 : Int32)) M) fun x1 M =>
    if x1 = (-1 : Int32) then
      some ((-1 : Int32), M)
    else
      x_lt ((x1 &&& (126 : Int32)) - (96 : Int32)) fun x2 =>
      if x2 = 0 then
        x_cv M 0 t1 (q_B_isNamed t1 i2 (some 4) M) fun x3 M =>
        if x3 = 0 then
          q_F_addressAt_44 t1 i2 x2 M
        else
          some ((6 : Int32), M)
      else
        q_F_addressAt_44 t1 i2 x2 M
set_option maxRecDepth 20000 in
theorem v_F_addressAt {E : mE} (t0 : Option Nat) (t1 : Option Nat) (i2 : Int32) (M : mM) : mVr E mi_F_addressAt 1 0 [some (.inr t0), some (.inr t1), some (.inl i2), none, none, none] [] M enI (q_F_addressAt t0 t1 i2 M) := by
  unfold q_F_addressAt
  refine m_aload_n (d_F_addressAt (k := 0) rfl) rfl ?_
  refine m_iload_n (d_F_addressAt (k := 1) rfl) rfl ?_
  refine m_bipush (v := 6) (d_F_addressAt (k := 2) rfl) (by decide) ?_
  refine m_iadd (d_F_addressAt (k := 3) rfl) ?_
  refine m_cvI (c := 0) (vs := [.inl (i2 + (6 : Int32))]) (st := []) (d_F_addressAt (k := 4) rfl) (s_B_at t1 (i2 + (6 : Int32)) M) cd_B_at ml_F_29 im_B_at se_B_at rfl (by decide) rfl (Nat.le_of_ble_eq_true rfl) (fun x1 M => ?_)
  refine m_ist_n (ls' := [some (.inr t0), some (.inr t1), some (.inl i2), some (.inl x1), none, none]) (d_F_addressAt (k := 5) rfl) (by decide) rfl ?_
  refine m_iload_n (d_F_addressAt (k := 6) rfl) rfl ?_
  refine m_iconst (v := (-1)) (d_F_addressAt (k := 7) rfl) (by decide) ?_
  refine m_icmp_ne (tgt := 16) (d_F_addressAt (k := 8) rfl) rfl ?_ ?_
  · refine m_iconst (v := (-1)) (d_F_addressAt (k := 9) rfl) (by decide) ?_
    exact m_iret (d_F_addressAt (k := 10) rfl) rfl
  · refine m_iload_n (d_F_addressAt (k := 11) rfl) rfl ?_
    refine m_bipush (v := 126) (d_F_addressAt (k := 12) rfl) (by decide) ?_
    refine m_iand (d_F_addressAt (k := 13) rfl) ?_
    refine m_bipush (v := 96) (d_F_addressAt (k := 14) rfl) (by decide) ?_
    refine m_isub (d_F_addressAt (k := 15) rfl) ?_
    refine m_lt (fun x2 => ?_)
    refine m_ist (ls' := [some (.inr t0), some (.inr t1), some (.inl i2), some (.inl x1), some (.inl x2), none]) (d_F_addressAt (k := 16) rfl) (by decide) rfl ?_
    refine m_iload (d_F_addressAt (k := 17) rfl) rfl ?_
    refine m_if_ne (tgt := 44) (d_F_addressAt (k := 18) rfl) rfl ?_ ?_
    · refine m_aload_n (d_F_addressAt (k := 19) rfl) rfl ?_
      refine m_iload_n (d_F_addressAt (k := 20) rfl) rfl ?_
      refine m_getsN (q := 4) (List.mem_of_getElem? (i := 3) rfl) (by decide) (d_F_addressAt (k := 21) rfl) gn_F_69 ?_
      refine m_cvI (c := 0) (vs := [.inl i2, .inr (some 4)]) (st := []) (d_F_addressAt (k := 22) rfl) (s_B_isNamed t1 i2 (some 4) M) cd_B_isNamed ml_F_73 im_B_isNamed se_B_isNamed rfl (by decide) rfl (Nat.le_of_ble_eq_true rfl) (fun x3 M => ?_)
      refine m_if_eq (tgt := 44) (d_F_addressAt (k := 23) rfl) rfl ?_ ?_
      · exact m_drop (mles_n (mles_s (mles_s (mles_n (mles_s (mles_n mles_0)))))) (v_F_addressAt_44 t1 i2 x2 M)
      · refine m_bipush (v := 6) (d_F_addressAt (k := 24) rfl) (by decide) ?_
        exact m_iret (d_F_addressAt (k := 25) rfl) rfl
    · exact m_drop (mles_n (mles_s (mles_s (mles_n (mles_s (mles_n mles_0)))))) (v_F_addressAt_44 t1 i2 x2 M)
theorem s_F_addressAt {E : mE} (t0 : Option Nat) (t1 : Option Nat) (i2 : Int32) (M : mM) : mSnd E mi_F_addressAt 1 [.inr t0, .inr t1, .inl i2] M enI (q_F_addressAt t0 t1 i2 M) := m_entryI (by decide) (Nat.le_of_ble_eq_true rfl) rfl (m_drop (mles_s (mles_s (mles_s (mles_e (mles_e (mles_e mles_0)))))) (v_F_addressAt t0 t1 i2 M))
def dt_F_viaAt : List (Nat × Instr × Nat) := [(0, .aload_n 0, 1), (1, .aload_n 1, 1), (2, .aload_n 0, 1), (3, .getfield 48, 3), (6, .invokevirtual 51, 3), (9, .ireturn, 1)]
theorem dx_F_viaAt : ∀ p ∈ dt_F_viaAt, decode prog_3_method_6_code p.1 = .ok p.2 := by decide +kernel
theorem d_F_viaAt {k pc : Nat} {i : Instr} {n : Nat} (h : dt_F_viaAt[k]? = some (pc, i, n)) : decode mi_F_viaAt.2.1 pc = .ok (i, n) := dx_F_viaAt (pc, i, n) (List.mem_of_getElem? h)
def q_F_viaAt (t0 : Option Nat) (t1 : Option Nat) (M : mM) : Option (Int32 × mM) :=
    x_gI M 1 t0 3 fun x1 =>
    x_cv M 1 t0 (q_F_addressAt t0 t1 x1 M) fun x2 M =>
    some (x2, M)
set_option maxRecDepth 20000 in
theorem v_F_viaAt {E : mE} (t0 : Option Nat) (t1 : Option Nat) (M : mM) : mVr E mi_F_viaAt 2 0 [some (.inr t0), some (.inr t1)] [] M enI (q_F_viaAt t0 t1 M) := by
  unfold q_F_viaAt
  refine m_aload_n (d_F_viaAt (k := 0) rfl) rfl ?_
  refine m_aload_n (d_F_viaAt (k := 1) rfl) rfl ?_
  refine m_aload_n (d_F_viaAt (k := 2) rfl) rfl ?_
  refine m_getI (d_F_viaAt (k := 3) rfl) fl_F_48 rfl (fun x1 => ?_)
  refine m_cvI (c := 1) (vs := [.inr t1, .inl x1]) (st := []) (d_F_viaAt (k := 4) rfl) (s_F_addressAt t0 t1 x1 M) cd_F_addressAt ml_F_51 im_F_addressAt se_F_addressAt rfl (by decide) rfl (Nat.le_of_ble_eq_true rfl) (fun x2 M => ?_)
  exact m_iret (d_F_viaAt (k := 5) rfl) rfl
theorem s_F_viaAt {E : mE} (t0 : Option Nat) (t1 : Option Nat) (M : mM) : mSnd E mi_F_viaAt 2 [.inr t0, .inr t1] M enI (q_F_viaAt t0 t1 M) := m_entryI (by decide) (Nat.le_of_ble_eq_true rfl) rfl (m_drop (mles_s (mles_s mles_0)) (v_F_viaAt t0 t1 M))
def dt_C_repeat : List (Nat × Instr × Nat) := [(0, .aload_n 0, 1), (1, .getfield 57, 3), (4, .aload_n 2, 1), (5, .invokevirtual 439, 3), (8, .aload_n 1, 1), (9, .getfield 368, 3), (12, .if_icmp .eq 4, 3), (15, .return_, 1), (16, .aload_n 1, 1), (17, .getfield 124, 3), (20, .invokevirtual 128, 3), (23, .astore_n 3, 1), (24, .aload_n 3, 1), (25, .ifnonnull 14, 3), (28, .aload_n 1, 1), (29, .dup, 1), (30, .getfield 285, 3), (33, .iconst 1, 1), (34, .iadd, 1), (35, .putfield 285, 3), (38, .return_, 1), (39, .aload_n 3, 1), (40, .aload_n 2, 1), (41, .iconst 0, 1), (42, .aload_n 2, 1), (43, .getfield 61, 3), (46, .invokevirtual 134, 3), (49, .aload_n 3, 1), (50, .aload_n 0, 1), (51, .getfield 57, 3), (54, .getfield 399, 3), (57, .bipush 6, 2), (59, .iadd, 1), (60, .sipush 128, 3), (63, .invokevirtual 443, 3), (66, .return_, 1)]
theorem dx_C_repeat : ∀ p ∈ dt_C_repeat, decode prog_1_method_42_code p.1 = .ok p.2 := by decide +kernel
theorem d_C_repeat {k pc : Nat} {i : Instr} {n : Nat} (h : dt_C_repeat[k]? = some (pc, i, n)) : decode mi_C_repeat.2.1 pc = .ok (i, n) := dx_C_repeat (pc, i, n) (List.mem_of_getElem? h)
def q_C_repeat (t0 : Option Nat) (t1 : Option Nat) (t2 : Option Nat) (M : mM) : Option (Unit × mM) :=
    x_gR M 9 t0 6 fun a1 =>
    x_cv M 1 a1 (q_F_viaAt a1 t2 M) fun x2 M =>
    x_gI M 8 t1 0 fun x3 =>
    if x2 = x3 then
      x_gR M 8 t1 4 fun a4 =>
      x_cv M 6 a4 (q_W_addRow a4 M) fun a5 M =>
      x_nl a5 (
        x_gI M 8 t1 17 fun x6 =>
        x_pI M 8 t1 17 (x6 + (1 : Int32)) fun M =>
        some ((), M)
      ) (
        x_gI M 0 t2 1 fun x7 =>
        x_cv M 0 a5 (q_B_addFrom a5 t2 (0 : Int32) x7 M) fun _ M =>
        x_gR M 9 t0 6 fun a8 =>
        x_gI M 1 a8 3 fun x9 =>
        x_cv M 0 a5 (q_B_raise a5 (x9 + (6 : Int32)) (128 : Int32) M) fun _ M =>
        some ((), M)
      )
    else
      some ((), M)
set_option maxRecDepth 20000 in
theorem v_C_repeat {E : mE} (t0 : Option Nat) (t1 : Option Nat) (t2 : Option Nat) (M : mM) : mVr E mi_C_repeat 3 0 [some (.inr t0), some (.inr t1), some (.inr t2), none] [] M enU (q_C_repeat t0 t1 t2 M) := by
  unfold q_C_repeat
  refine m_aload_n (d_C_repeat (k := 0) rfl) rfl ?_
  refine m_getR (d_C_repeat (k := 1) rfl) fl_C_57 rfl (fun a1 => ?_)
  refine m_aload_n (d_C_repeat (k := 2) rfl) rfl ?_
  refine m_cvI (c := 1) (vs := [.inr t2]) (st := []) (d_C_repeat (k := 3) rfl) (s_F_viaAt a1 t2 M) cd_F_viaAt ml_C_439 im_F_viaAt se_F_viaAt rfl (by decide) rfl (Nat.le_of_ble_eq_true rfl) (fun x2 M => ?_)
  refine m_aload_n (d_C_repeat (k := 4) rfl) rfl ?_
  refine m_getI (d_C_repeat (k := 5) rfl) fl_C_368 rfl (fun x3 => ?_)
  refine m_icmp_eq (tgt := 16) (d_C_repeat (k := 6) rfl) rfl ?_ ?_
  · refine m_aload_n (d_C_repeat (k := 8) rfl) rfl ?_
    refine m_getR (d_C_repeat (k := 9) rfl) fl_C_124 rfl (fun a4 => ?_)
    refine m_cvR (c := 6) (vs := []) (st := []) (d_C_repeat (k := 10) rfl) (s_W_addRow a4 M) cd_W_addRow ml_C_128 im_W_addRow se_W_addRow rfl (by decide) rfl (Nat.le_of_ble_eq_true rfl) (fun a5 M => ?_)
    refine m_ast_n (ls' := [some (.inr t0), some (.inr t1), some (.inr t2), some (.inr a5)]) (d_C_repeat (k := 11) rfl) (by decide) rfl ?_
    refine m_aload_n (d_C_repeat (k := 12) rfl) rfl ?_
    refine m_ifnonnull (tgt := 39) (d_C_repeat (k := 13) rfl) rfl ?_ ?_
    · refine m_aload_n (d_C_repeat (k := 14) rfl) rfl ?_
      refine m_dup (d_C_repeat (k := 15) rfl) ?_
      refine m_getI (d_C_repeat (k := 16) rfl) fl_C_285 rfl (fun x6 => ?_)
      refine m_iconst (v := 1) (d_C_repeat (k := 17) rfl) (by decide) ?_
      refine m_iadd (d_C_repeat (k := 18) rfl) ?_
      refine m_pI (d_C_repeat (k := 19) rfl) fp_C_285 (fun h => absurd h (by decide)) rfl (fun M => ?_)
      exact m_vret (d_C_repeat (k := 20) rfl) rfl
    · refine m_aload_n (d_C_repeat (k := 21) rfl) rfl ?_
      refine m_aload_n (d_C_repeat (k := 22) rfl) rfl ?_
      refine m_iconst (v := 0) (d_C_repeat (k := 23) rfl) (by decide) ?_
      refine m_aload_n (d_C_repeat (k := 24) rfl) rfl ?_
      refine m_getI (d_C_repeat (k := 25) rfl) fl_C_61 rfl (fun x7 => ?_)
      refine m_cvU (c := 0) (vs := [.inr t2, .inl (0 : Int32), .inl x7]) (st := []) (d_C_repeat (k := 26) rfl) (s_B_addFrom a5 t2 (0 : Int32) x7 M) cd_B_addFrom ml_C_134 im_B_addFrom se_B_addFrom rfl (by decide) rfl (Nat.le_of_ble_eq_true rfl) (fun _ M => ?_)
      refine m_aload_n (d_C_repeat (k := 27) rfl) rfl ?_
      refine m_aload_n (d_C_repeat (k := 28) rfl) rfl ?_
      refine m_getR (d_C_repeat (k := 29) rfl) fl_C_57 rfl (fun a8 => ?_)
      refine m_getI (d_C_repeat (k := 30) rfl) fl_C_399 rfl (fun x9 => ?_)
      refine m_bipush (v := 6) (d_C_repeat (k := 31) rfl) (by decide) ?_
      refine m_iadd (d_C_repeat (k := 32) rfl) ?_
      refine m_sipush (v := 128) (d_C_repeat (k := 33) rfl) (by decide) ?_
      refine m_cvU (c := 0) (vs := [.inl (x9 + (6 : Int32)), .inl (128 : Int32)]) (st := []) (d_C_repeat (k := 34) rfl) (s_B_raise a5 (x9 + (6 : Int32)) (128 : Int32) M) cd_B_raise ml_C_443 im_B_raise se_B_raise rfl (by decide) rfl (Nat.le_of_ble_eq_true rfl) (fun _ M => ?_)
      exact m_vret (d_C_repeat (k := 35) rfl) rfl
  · exact m_vret (d_C_repeat (k := 7) rfl) rfl
theorem s_C_repeat {E : mE} (t0 : Option Nat) (t1 : Option Nat) (t2 : Option Nat) (M : mM) : mSnd E mi_C_repeat 3 [.inr t0, .inr t1, .inr t2] M enU (q_C_repeat t0 t1 t2 M) := m_entryU (by decide) (Nat.le_of_ble_eq_true rfl) rfl (m_drop (mles_s (mles_s (mles_s (mles_e mles_0)))) (v_C_repeat t0 t1 t2 M))
def dt_P_become : List (Nat × Instr × Nat) := [(0, .aload_n 0, 1), (1, .aload_n 1, 1), (2, .getfield 18, 3), (5, .putfield 18, 3), (8, .aload_n 0, 1), (9, .aload_n 1, 1), (10, .getfield 9, 3), (13, .putfield 9, 3), (16, .aload_n 0, 1), (17, .aload_n 1, 1), (18, .getfield 15, 3), (21, .putfield 15, 3), (24, .aload_n 0, 1), (25, .aload_n 1, 1), (26, .getfield 21, 3), (29, .putfield 21, 3), (32, .return_, 1)]
theorem dx_P_become : ∀ p ∈ dt_P_become, decode prog_5_method_2_code p.1 = .ok p.2 := by decide +kernel
theorem d_P_become {k pc : Nat} {i : Instr} {n : Nat} (h : dt_P_become[k]? = some (pc, i, n)) : decode mi_P_become.2.1 pc = .ok (i, n) := dx_P_become (pc, i, n) (List.mem_of_getElem? h)
def q_P_become (t0 : Option Nat) (t1 : Option Nat) (M : mM) : Option (Unit × mM) :=
    x_gI M 3 t1 0 fun x1 =>
    x_pI M 3 t0 0 x1 fun M =>
    x_gI M 3 t1 1 fun x2 =>
    x_pI M 3 t0 1 x2 fun M =>
    x_gI M 3 t1 2 fun x3 =>
    x_pI M 3 t0 2 x3 fun M =>
    x_gI M 3 t1 3 fun x4 =>
    x_pI M 3 t0 3 x4 fun M =>
    some ((), M)
set_option maxRecDepth 20000 in
theorem v_P_become {E : mE} (t0 : Option Nat) (t1 : Option Nat) (M : mM) : mVr E mi_P_become 0 0 [some (.inr t0), some (.inr t1)] [] M enU (q_P_become t0 t1 M) := by
  unfold q_P_become
  refine m_aload_n (d_P_become (k := 0) rfl) rfl ?_
  refine m_aload_n (d_P_become (k := 1) rfl) rfl ?_
  refine m_getI (d_P_become (k := 2) rfl) fl_P_18 rfl (fun x1 => ?_)
  refine m_pI (d_P_become (k := 3) rfl) fp_P_18 (fun h => absurd h (by decide)) rfl (fun M => ?_)
  refine m_aload_n (d_P_become (k := 4) rfl) rfl ?_
  refine m_aload_n (d_P_become (k := 5) rfl) rfl ?_
  refine m_getI (d_P_become (k := 6) rfl) fl_P_9 rfl (fun x2 => ?_)
  refine m_pI (d_P_become (k := 7) rfl) fp_P_9 (fun h => absurd h (by decide)) rfl (fun M => ?_)
  refine m_aload_n (d_P_become (k := 8) rfl) rfl ?_
  refine m_aload_n (d_P_become (k := 9) rfl) rfl ?_
  refine m_getI (d_P_become (k := 10) rfl) fl_P_15 rfl (fun x3 => ?_)
  refine m_pI (d_P_become (k := 11) rfl) fp_P_15 (fun h => absurd h (by decide)) rfl (fun M => ?_)
  refine m_aload_n (d_P_become (k := 12) rfl) rfl ?_
  refine m_aload_n (d_P_become (k := 13) rfl) rfl ?_
  refine m_getI (d_P_become (k := 14) rfl) fl_P_21 rfl (fun x4 => ?_)
  refine m_pI (d_P_become (k := 15) rfl) fp_P_21 (fun h => absurd h (by decide)) rfl (fun M => ?_)
  exact m_vret (d_P_become (k := 16) rfl) rfl
theorem s_P_become {E : mE} (t0 : Option Nat) (t1 : Option Nat) (M : mM) : mSnd E mi_P_become 0 [.inr t0, .inr t1] M enU (q_P_become t0 t1 M) := m_entryU (by decide) (Nat.le_of_ble_eq_true rfl) rfl (m_drop (mles_s (mles_s mles_0)) (v_P_become t0 t1 M))
def dt_C_takeSabm : List (Nat × Instr × Nat) := [(0, .aload_n 1, 1), (1, .getfield 169, 3), (4, .astore_n 2, 1), (5, .aload_n 0, 1), (6, .getfield 57, 3), (9, .getfield 425, 3), (12, .getfield 315, 3), (15, .istore_n 3, 1), (16, .aload_n 1, 1), (17, .getfield 447, 3), (20, .aload_n 2, 1), (21, .getfield 368, 3), (24, .if_icmp .le 7, 3), (27, .iconst 1, 1), (28, .goto 4, 3), (31, .iconst 0, 1), (32, .istore 4, 2), (34, .iload 4, 2), (36, .iload_n 3, 1), (37, .sipush 128, 3), (40, .if_icmp .lt 7, 3), (43, .iconst 1, 1), (44, .goto 4, 3), (47, .iconst 0, 1), (48, .if_icmp .eq 4, 3), (51, .return_, 1), (52, .iload_n 3, 1), (53, .aload_n 1, 1), (54, .getfield 148, 3), (57, .getfield 315, 3), (60, .if_icmp .ne 24, 3), (63, .aload_n 0, 1), (64, .aload_n 2, 1), (65, .aload_n 1, 1), (66, .getfield 141, 3), (69, .iconst 2, 1), (70, .if_icmp .ne 8, 3), (73, .bipush 99, 2), (75, .goto 5, 3), (78, .bipush 15, 2), (80, .invokevirtual 431, 3), (83, .return_, 1), (84, .iload_n 3, 1), (85, .bipush 127, 2), (87, .iand, 1), (88, .istore 5, 2), (90, .iload 5, 2), (92, .aload_n 1, 1), (93, .getfield 450, 3), (96, .isub, 1), (97, .bipush 127, 2), (99, .iand, 1), (100, .istore 6, 2), (102, .iload 6, 2), (104, .iconst 1, 1), (105, .if_icmp .lt 10, 3), (108, .iload 6, 2), (110, .bipush 63, 2), (112, .if_icmp .le 4, 3), (115, .return_, 1), (116, .aload_n 1, 1), (117, .iload 5, 2), (119, .putfield 450, 3), (122, .aload_n 1, 1), (123, .getfield 141, 3), (126, .iconst 1, 1), (127, .if_icmp .ne 22, 3), (130, .aload_n 2, 1), (131, .getfield 368, 3), (134, .aload_n 1, 1), (135, .getfield 447, 3), (138, .if_icmp .ge 11, 3), (141, .aload_n 0, 1), (142, .aload_n 2, 1), (143, .bipush 15, 2), (145, .invokevirtual 431, 3), (148, .return_, 1), (149, .aload_n 1, 1), (150, .iconst 2, 1), (151, .invokevirtual 164, 3), (154, .aload_n 1, 1), (155, .getfield 188, 3), (158, .invokevirtual 76, 3), (161, .aload_n 1, 1), (162, .getfield 148, 3), (165, .aload_n 0, 1), (166, .getfield 57, 3), (169, .getfield 425, 3), (172, .invokevirtual 453, 3), (175, .aload_n 0, 1), (176, .aload_n 2, 1), (177, .bipush 99, 2), (179, .invokevirtual 431, 3), (182, .return_, 1)]
theorem dx_C_takeSabm : ∀ p ∈ dt_C_takeSabm, decode prog_1_method_43_code p.1 = .ok p.2 := by decide +kernel
theorem d_C_takeSabm {k pc : Nat} {i : Instr} {n : Nat} (h : dt_C_takeSabm[k]? = some (pc, i, n)) : decode mi_C_takeSabm.2.1 pc = .ok (i, n) := dx_C_takeSabm (pc, i, n) (List.mem_of_getElem? h)
def q_C_takeSabm_80 (j0 : Int32) (u1 : Option Nat) (u2 : Option Nat) (M : mM) : Option (Unit × mM) :=
    x_cv M 9 u2 (q_C_answer u2 u1 j0 M) fun _ M =>
    some ((), M)
set_option maxRecDepth 20000 in
theorem v_C_takeSabm_80 {E : mE} (j0 : Int32) (u1 : Option Nat) (u2 : Option Nat) (M : mM) : mVr E mi_C_takeSabm 3 80 [none, none, none, none, none, none, none] [.inl j0, .inr u1, .inr u2] M enU (q_C_takeSabm_80 j0 u1 u2 M) := by
  unfold q_C_takeSabm_80
  refine m_cvU (c := 9) (vs := [.inr u1, .inl j0]) (st := []) (d_C_takeSabm (k := 40) rfl) (s_C_answer u2 u1 j0 M) cd_C_answer ml_C_431 im_C_answer se_C_answer rfl (by decide) rfl (Nat.le_of_ble_eq_true rfl) (fun _ M => ?_)
  exact m_vret (d_C_takeSabm (k := 41) rfl) rfl
def q_C_takeSabm_149 (t0 : Option Nat) (t1 : Option Nat) (t2 : Option Nat) (M : mM) : Option (Unit × mM) :=
    x_cv M 2 t1 (q_K_restart t1 (2 : Int32) M) fun _ M =>
    x_gR M 2 t1 4 fun a1 =>
    x_cv M 0 a1 (q_B_clear a1 M) fun _ M =>
    x_gR M 2 t1 2 fun a2 =>
    x_gR M 9 t0 6 fun a3 =>
    x_gR M 1 a3 11 fun a4 =>
    x_cv M 3 a2 (q_P_become a2 a4 M) fun _ M =>
    x_cv M 9 t0 (q_C_answer t0 t2 (99 : Int32) M) fun _ M =>
    some ((), M)
set_option maxRecDepth 20000 in
theorem v_C_takeSabm_149 {E : mE} (t0 : Option Nat) (t1 : Option Nat) (t2 : Option Nat) (M : mM) : mVr E mi_C_takeSabm 3 149 [some (.inr t0), some (.inr t1), some (.inr t2), none, none, none, none] [] M enU (q_C_takeSabm_149 t0 t1 t2 M) := by
  unfold q_C_takeSabm_149
  refine m_aload_n (d_C_takeSabm (k := 77) rfl) rfl ?_
  refine m_iconst (v := 2) (d_C_takeSabm (k := 78) rfl) (by decide) ?_
  refine m_cvU (c := 2) (vs := [.inl (2 : Int32)]) (st := []) (d_C_takeSabm (k := 79) rfl) (s_K_restart t1 (2 : Int32) M) cd_K_restart ml_C_164 im_K_restart se_K_restart rfl (by decide) rfl (Nat.le_of_ble_eq_true rfl) (fun _ M => ?_)
  refine m_aload_n (d_C_takeSabm (k := 80) rfl) rfl ?_
  refine m_getR (d_C_takeSabm (k := 81) rfl) fl_C_188 rfl (fun a1 => ?_)
  refine m_cvU (c := 0) (vs := []) (st := []) (d_C_takeSabm (k := 82) rfl) (s_B_clear a1 M) cd_B_clear ml_C_76 im_B_clear se_B_clear rfl (by decide) rfl (Nat.le_of_ble_eq_true rfl) (fun _ M => ?_)
  refine m_aload_n (d_C_takeSabm (k := 83) rfl) rfl ?_
  refine m_getR (d_C_takeSabm (k := 84) rfl) fl_C_148 rfl (fun a2 => ?_)
  refine m_aload_n (d_C_takeSabm (k := 85) rfl) rfl ?_
  refine m_getR (d_C_takeSabm (k := 86) rfl) fl_C_57 rfl (fun a3 => ?_)
  refine m_getR (d_C_takeSabm (k := 87) rfl) fl_C_425 rfl (fun a4 => ?_)
  refine m_cvU (c := 3) (vs := [.inr a4]) (st := []) (d_C_takeSabm (k := 88) rfl) (s_P_become a2 a4 M) cd_P_become ml_C_453 im_P_become se_P_become rfl (by decide) rfl (Nat.le_of_ble_eq_true rfl) (fun _ M => ?_)
  refine m_aload_n (d_C_takeSabm (k := 89) rfl) rfl ?_
  refine m_aload_n (d_C_takeSabm (k := 90) rfl) rfl ?_
  refine m_bipush (v := 99) (d_C_takeSabm (k := 91) rfl) (by decide) ?_
  refine m_cvU (c := 9) (vs := [.inr t2, .inl (99 : Int32)]) (st := []) (d_C_takeSabm (k := 92) rfl) (s_C_answer t0 t2 (99 : Int32) M) cd_C_answer ml_C_431 im_C_answer se_C_answer rfl (by decide) rfl (Nat.le_of_ble_eq_true rfl) (fun _ M => ?_)
  exact m_vret (d_C_takeSabm (k := 93) rfl) rfl
def q_C_takeSabm_48 (t0 : Option Nat) (t1 : Option Nat) (t2 : Option Nat) (i3 : Int32) (j0 : Int32) (j1 : Int32) (M : mM) : Option (Unit × mM) :=
    if j1 = j0 then
      x_gR M 2 t1 2 fun a1 =>
      x_gI M 3 a1 3 fun x2 =>
      if i3 = x2 then
        x_gI M 2 t1 7 fun x3 =>
        if x3 = (2 : Int32) then
          q_C_takeSabm_80 (99 : Int32) t2 t0 M
        else
          q_C_takeSabm_80 (15 : Int32) t2 t0 M
      else
        x_lt (i3 &&& (127 : Int32)) fun x4 =>
        x_gI M 2 t1 17 fun x5 =>
        x_lt ((x4 - x5) &&& (127 : Int32)) fun x6 =>
        if x6 < (1 : Int32) then
          some ((), M)
        else
          if (63 : Int32) < x6 then
            some ((), M)
          else
            x_pI M 2 t1 17 x4 fun M =>
            x_gI M 2 t1 7 fun x7 =>
            if x7 = (1 : Int32) then
              x_gI M 8 t2 0 fun x8 =>
              x_gI M 2 t1 1 fun x9 =>
              if x8 < x9 then
                x_cv M 9 t0 (q_C_answer t0 t2 (15 : Int32) M) fun _ M =>
                some ((), M)
              else
                q_C_takeSabm_149 t0 t1 t2 M
            else
              q_C_takeSabm_149 t0 t1 t2 M
    else
      some ((), M)
set_option maxRecDepth 20000 in
theorem v_C_takeSabm_48 {E : mE} (t0 : Option Nat) (t1 : Option Nat) (t2 : Option Nat) (i3 : Int32) (j0 : Int32) (j1 : Int32) (M : mM) : mVr E mi_C_takeSabm 3 48 [some (.inr t0), some (.inr t1), some (.inr t2), some (.inl i3), none, none, none] [.inl j0, .inl j1] M enU (q_C_takeSabm_48 t0 t1 t2 i3 j0 j1 M) := by
  unfold q_C_takeSabm_48
  refine m_icmp_eq (tgt := 52) (d_C_takeSabm (k := 24) rfl) rfl ?_ ?_
  · refine m_iload_n (d_C_takeSabm (k := 26) rfl) rfl ?_
    refine m_aload_n (d_C_takeSabm (k := 27) rfl) rfl ?_
    refine m_getR (d_C_takeSabm (k := 28) rfl) fl_C_148 rfl (fun a1 => ?_)
    refine m_getI (d_C_takeSabm (k := 29) rfl) fl_C_315 rfl (fun x2 => ?_)
    refine m_icmp_ne (tgt := 84) (d_C_takeSabm (k := 30) rfl) rfl ?_ ?_
    · refine m_aload_n (d_C_takeSabm (k := 31) rfl) rfl ?_
      refine m_aload_n (d_C_takeSabm (k := 32) rfl) rfl ?_
      refine m_aload_n (d_C_takeSabm (k := 33) rfl) rfl ?_
      refine m_getI (d_C_takeSabm (k := 34) rfl) fl_C_141 rfl (fun x3 => ?_)
      refine m_iconst (v := 2) (d_C_takeSabm (k := 35) rfl) (by decide) ?_
      refine m_icmp_ne (tgt := 78) (d_C_takeSabm (k := 36) rfl) rfl ?_ ?_
      · refine m_bipush (v := 99) (d_C_takeSabm (k := 37) rfl) (by decide) ?_
        refine m_goto (tgt := 80) (d_C_takeSabm (k := 38) rfl) rfl ?_
        exact m_drop (mles_n (mles_n (mles_n (mles_n (mles_n (mles_n (mles_n mles_0))))))) (v_C_takeSabm_80 (99 : Int32) t2 t0 M)
      · refine m_bipush (v := 15) (d_C_takeSabm (k := 39) rfl) (by decide) ?_
        exact m_drop (mles_n (mles_n (mles_n (mles_n (mles_n (mles_n (mles_n mles_0))))))) (v_C_takeSabm_80 (15 : Int32) t2 t0 M)
    · refine m_iload_n (d_C_takeSabm (k := 42) rfl) rfl ?_
      refine m_bipush (v := 127) (d_C_takeSabm (k := 43) rfl) (by decide) ?_
      refine m_iand (d_C_takeSabm (k := 44) rfl) ?_
      refine m_lt (fun x4 => ?_)
      refine m_ist (ls' := [some (.inr t0), some (.inr t1), some (.inr t2), some (.inl i3), none, some (.inl x4), none]) (d_C_takeSabm (k := 45) rfl) (by decide) rfl ?_
      refine m_iload (d_C_takeSabm (k := 46) rfl) rfl ?_
      refine m_aload_n (d_C_takeSabm (k := 47) rfl) rfl ?_
      refine m_getI (d_C_takeSabm (k := 48) rfl) fl_C_450 rfl (fun x5 => ?_)
      refine m_isub (d_C_takeSabm (k := 49) rfl) ?_
      refine m_bipush (v := 127) (d_C_takeSabm (k := 50) rfl) (by decide) ?_
      refine m_iand (d_C_takeSabm (k := 51) rfl) ?_
      refine m_lt (fun x6 => ?_)
      refine m_ist (ls' := [some (.inr t0), some (.inr t1), some (.inr t2), some (.inl i3), none, some (.inl x4), some (.inl x6)]) (d_C_takeSabm (k := 52) rfl) (by decide) rfl ?_
      refine m_iload (d_C_takeSabm (k := 53) rfl) rfl ?_
      refine m_iconst (v := 1) (d_C_takeSabm (k := 54) rfl) (by decide) ?_
      refine m_icmp_lt (tgt := 115) (d_C_takeSabm (k := 55) rfl) rfl ?_ ?_
      · exact m_vret (d_C_takeSabm (k := 59) rfl) rfl
      · refine m_iload (d_C_takeSabm (k := 56) rfl) rfl ?_
        refine m_bipush (v := 63) (d_C_takeSabm (k := 57) rfl) (by decide) ?_
        refine m_icmp_le (tgt := 116) (d_C_takeSabm (k := 58) rfl) rfl ?_ ?_
        · exact m_vret (d_C_takeSabm (k := 59) rfl) rfl
        · refine m_aload_n (d_C_takeSabm (k := 60) rfl) rfl ?_
          refine m_iload (d_C_takeSabm (k := 61) rfl) rfl ?_
          refine m_pI (d_C_takeSabm (k := 62) rfl) fp_C_450 (fun h => absurd h (by decide)) rfl (fun M => ?_)
          refine m_aload_n (d_C_takeSabm (k := 63) rfl) rfl ?_
          refine m_getI (d_C_takeSabm (k := 64) rfl) fl_C_141 rfl (fun x7 => ?_)
          refine m_iconst (v := 1) (d_C_takeSabm (k := 65) rfl) (by decide) ?_
          refine m_icmp_ne (tgt := 149) (d_C_takeSabm (k := 66) rfl) rfl ?_ ?_
          · refine m_aload_n (d_C_takeSabm (k := 67) rfl) rfl ?_
            refine m_getI (d_C_takeSabm (k := 68) rfl) fl_C_368 rfl (fun x8 => ?_)
            refine m_aload_n (d_C_takeSabm (k := 69) rfl) rfl ?_
            refine m_getI (d_C_takeSabm (k := 70) rfl) fl_C_447 rfl (fun x9 => ?_)
            refine m_icmp_ge (tgt := 149) (d_C_takeSabm (k := 71) rfl) rfl ?_ ?_
            · refine m_aload_n (d_C_takeSabm (k := 72) rfl) rfl ?_
              refine m_aload_n (d_C_takeSabm (k := 73) rfl) rfl ?_
              refine m_bipush (v := 15) (d_C_takeSabm (k := 74) rfl) (by decide) ?_
              refine m_cvU (c := 9) (vs := [.inr t2, .inl (15 : Int32)]) (st := []) (d_C_takeSabm (k := 75) rfl) (s_C_answer t0 t2 (15 : Int32) M) cd_C_answer ml_C_431 im_C_answer se_C_answer rfl (by decide) rfl (Nat.le_of_ble_eq_true rfl) (fun _ M => ?_)
              exact m_vret (d_C_takeSabm (k := 76) rfl) rfl
            · exact m_drop (mles_s (mles_s (mles_s (mles_n (mles_n (mles_n (mles_n mles_0))))))) (v_C_takeSabm_149 t0 t1 t2 M)
          · exact m_drop (mles_s (mles_s (mles_s (mles_n (mles_n (mles_n (mles_n mles_0))))))) (v_C_takeSabm_149 t0 t1 t2 M)
  · exact m_vret (d_C_takeSabm (k := 25) rfl) rfl
def q_C_takeSabm_32 (t0 : Option Nat) (t1 : Option Nat) (t2 : Option Nat) (i3 : Int32) (j0 : Int32) (M : mM) : Option (Unit × mM) :=
    if i3 < (128 : Int32) then
      q_C_takeSabm_48 t0 t1 t2 i3 (0 : Int32) j0 M
    else
      q_C_takeSabm_48 t0 t1 t2 i3 (1 : Int32) j0 M
set_option maxRecDepth 20000 in
theorem v_C_takeSabm_32 {E : mE} (t0 : Option Nat) (t1 : Option Nat) (t2 : Option Nat) (i3 : Int32) (j0 : Int32) (M : mM) : mVr E mi_C_takeSabm 3 32 [some (.inr t0), some (.inr t1), some (.inr t2), some (.inl i3), none, none, none] [.inl j0] M enU (q_C_takeSabm_32 t0 t1 t2 i3 j0 M) := by
  unfold q_C_takeSabm_32
  refine m_ist (ls' := [some (.inr t0), some (.inr t1), some (.inr t2), some (.inl i3), some (.inl j0), none, none]) (d_C_takeSabm (k := 16) rfl) (by decide) rfl ?_
  refine m_iload (d_C_takeSabm (k := 17) rfl) rfl ?_
  refine m_iload_n (d_C_takeSabm (k := 18) rfl) rfl ?_
  refine m_sipush (v := 128) (d_C_takeSabm (k := 19) rfl) (by decide) ?_
  refine m_icmp_lt (tgt := 47) (d_C_takeSabm (k := 20) rfl) rfl ?_ ?_
  · refine m_iconst (v := 0) (d_C_takeSabm (k := 23) rfl) (by decide) ?_
    exact m_drop (mles_s (mles_s (mles_s (mles_s (mles_n (mles_n (mles_n mles_0))))))) (v_C_takeSabm_48 t0 t1 t2 i3 (0 : Int32) j0 M)
  · refine m_iconst (v := 1) (d_C_takeSabm (k := 21) rfl) (by decide) ?_
    refine m_goto (tgt := 48) (d_C_takeSabm (k := 22) rfl) rfl ?_
    exact m_drop (mles_s (mles_s (mles_s (mles_s (mles_n (mles_n (mles_n mles_0))))))) (v_C_takeSabm_48 t0 t1 t2 i3 (1 : Int32) j0 M)
def q_C_takeSabm (t0 : Option Nat) (t1 : Option Nat) (M : mM) : Option (Unit × mM) :=
    x_gR M 2 t1 0 fun a1 =>
    x_gR M 9 t0 6 fun a2 =>
    x_gR M 1 a2 11 fun a3 =>
    x_gI M 3 a3 3 fun x4 =>
    x_gI M 2 t1 1 fun x5 =>
    x_gI M 8 a1 0 fun x6 =>
    if x6 < x5 then
      q_C_takeSabm_32 t0 t1 a1 x4 (1 : Int32) M
    else
      q_C_takeSabm_32 t0 t1 a1 x4 (0 : Int32) M
set_option maxRecDepth 20000 in
theorem v_C_takeSabm {E : mE} (t0 : Option Nat) (t1 : Option Nat) (M : mM) : mVr E mi_C_takeSabm 3 0 [some (.inr t0), some (.inr t1), none, none, none, none, none] [] M enU (q_C_takeSabm t0 t1 M) := by
  unfold q_C_takeSabm
  refine m_aload_n (d_C_takeSabm (k := 0) rfl) rfl ?_
  refine m_getR (d_C_takeSabm (k := 1) rfl) fl_C_169 rfl (fun a1 => ?_)
  refine m_ast_n (ls' := [some (.inr t0), some (.inr t1), some (.inr a1), none, none, none, none]) (d_C_takeSabm (k := 2) rfl) (by decide) rfl ?_
  refine m_aload_n (d_C_takeSabm (k := 3) rfl) rfl ?_
  refine m_getR (d_C_takeSabm (k := 4) rfl) fl_C_57 rfl (fun a2 => ?_)
  refine m_getR (d_C_takeSabm (k := 5) rfl) fl_C_425 rfl (fun a3 => ?_)
  refine m_getI (d_C_takeSabm (k := 6) rfl) fl_C_315 rfl (fun x4 => ?_)
  refine m_ist_n (ls' := [some (.inr t0), some (.inr t1), some (.inr a1), some (.inl x4), none, none, none]) (d_C_takeSabm (k := 7) rfl) (by decide) rfl ?_
  refine m_aload_n (d_C_takeSabm (k := 8) rfl) rfl ?_
  refine m_getI (d_C_takeSabm (k := 9) rfl) fl_C_447 rfl (fun x5 => ?_)
  refine m_aload_n (d_C_takeSabm (k := 10) rfl) rfl ?_
  refine m_getI (d_C_takeSabm (k := 11) rfl) fl_C_368 rfl (fun x6 => ?_)
  refine m_icmp_le (tgt := 31) (d_C_takeSabm (k := 12) rfl) rfl ?_ ?_
  · refine m_iconst (v := 1) (d_C_takeSabm (k := 13) rfl) (by decide) ?_
    refine m_goto (tgt := 32) (d_C_takeSabm (k := 14) rfl) rfl ?_
    exact m_drop (mles_s (mles_s (mles_s (mles_s (mles_n (mles_n (mles_n mles_0))))))) (v_C_takeSabm_32 t0 t1 a1 x4 (1 : Int32) M)
  · refine m_iconst (v := 0) (d_C_takeSabm (k := 15) rfl) (by decide) ?_
    exact m_drop (mles_s (mles_s (mles_s (mles_s (mles_n (mles_n (mles_n mles_0))))))) (v_C_takeSabm_32 t0 t1 a1 x4 (0 : Int32) M)
theorem s_C_takeSabm {E : mE} (t0 : Option Nat) (t1 : Option Nat) (M : mM) : mSnd E mi_C_takeSabm 3 [.inr t0, .inr t1] M enU (q_C_takeSabm t0 t1 M) := m_entryU (by decide) (Nat.le_of_ble_eq_true rfl) rfl (m_drop (mles_s (mles_s (mles_e (mles_e (mles_e (mles_e (mles_e mles_0))))))) (v_C_takeSabm t0 t1 M))
def dt_K_goDown : List (Nat × Instr × Nat) := [(0, .aload_n 0, 1), (1, .iconst 0, 1), (2, .invokevirtual 99, 3), (5, .aload_n 0, 1), (6, .getfield 46, 3), (9, .invokevirtual 98, 3), (12, .return_, 1)]
theorem dx_K_goDown : ∀ p ∈ dt_K_goDown, decode prog_4_method_6_code p.1 = .ok p.2 := by decide +kernel
theorem d_K_goDown {k pc : Nat} {i : Instr} {n : Nat} (h : dt_K_goDown[k]? = some (pc, i, n)) : decode mi_K_goDown.2.1 pc = .ok (i, n) := dx_K_goDown (pc, i, n) (List.mem_of_getElem? h)
def q_K_goDown (t0 : Option Nat) (M : mM) : Option (Unit × mM) :=
    x_cv M 2 t0 (q_K_restart t0 (0 : Int32) M) fun _ M =>
    x_gR M 2 t0 5 fun a1 =>
    x_cv M 6 a1 (q_W_clear a1 M) fun _ M =>
    some ((), M)
set_option maxRecDepth 20000 in
theorem v_K_goDown {E : mE} (t0 : Option Nat) (M : mM) : mVr E mi_K_goDown 2 0 [some (.inr t0)] [] M enU (q_K_goDown t0 M) := by
  unfold q_K_goDown
  refine m_aload_n (d_K_goDown (k := 0) rfl) rfl ?_
  refine m_iconst (v := 0) (d_K_goDown (k := 1) rfl) (by decide) ?_
  refine m_cvU (c := 2) (vs := [.inl (0 : Int32)]) (st := []) (d_K_goDown (k := 2) rfl) (s_K_restart t0 (0 : Int32) M) cd_K_restart ml_K_99 im_K_restart se_K_restart rfl (by decide) rfl (Nat.le_of_ble_eq_true rfl) (fun _ M => ?_)
  refine m_aload_n (d_K_goDown (k := 3) rfl) rfl ?_
  refine m_getR (d_K_goDown (k := 4) rfl) fl_K_46 rfl (fun a1 => ?_)
  refine m_cvU (c := 6) (vs := []) (st := []) (d_K_goDown (k := 5) rfl) (s_W_clear a1 M) cd_W_clear ml_K_98 im_W_clear se_W_clear rfl (by decide) rfl (Nat.le_of_ble_eq_true rfl) (fun _ M => ?_)
  exact m_vret (d_K_goDown (k := 6) rfl) rfl
theorem s_K_goDown {E : mE} (t0 : Option Nat) (M : mM) : mSnd E mi_K_goDown 2 [.inr t0] M enU (q_K_goDown t0 M) := m_entryU (by decide) (Nat.le_of_ble_eq_true rfl) rfl (m_drop (mles_s mles_0) (v_K_goDown t0 M))
def dt_C_acknowledge : List (Nat × Instr × Nat) := [(0, .aload_n 0, 1), (1, .getfield 57, 3), (4, .getfield 476, 3), (7, .aload_n 1, 1), (8, .getfield 291, 3), (11, .isub, 1), (12, .bipush 7, 2), (14, .iand, 1), (15, .istore_n 2, 1), (16, .iload_n 2, 1), (17, .aload_n 1, 1), (18, .getfield 288, 3), (21, .aload_n 1, 1), (22, .getfield 291, 3), (25, .isub, 1), (26, .bipush 7, 2), (28, .iand, 1), (29, .if_icmp .le 24, 3), (32, .aload_n 1, 1), (33, .getfield 169, 3), (36, .aload_n 1, 1), (37, .getfield 148, 3), (40, .bipush 15, 2), (42, .iconst 0, 1), (43, .invokestatic 176, 3), (46, .pop, 1), (47, .aload_n 1, 1), (48, .invokevirtual 457, 3), (51, .iconst 0, 1), (52, .ireturn, 1), (53, .aload_n 1, 1), (54, .getfield 312, 3), (57, .iload_n 2, 1), (58, .invokevirtual 221, 3), (61, .aload_n 1, 1), (62, .aload_n 0, 1), (63, .getfield 57, 3), (66, .getfield 476, 3), (69, .putfield 291, 3), (72, .iload_n 2, 1), (73, .ifCond .le 42, 3), (76, .aload_n 1, 1), (77, .iconst 0, 1), (78, .putfield 166, 3), (81, .aload_n 1, 1), (82, .aload_n 1, 1), (83, .getfield 312, 3), (86, .getfield 264, 3), (89, .ifCond .ne 14, 3), (92, .aload_n 1, 1), (93, .getfield 297, 3), (96, .ifCond .ne 7, 3), (99, .iconst 0, 1), (100, .goto 12, 3), (103, .aload_n 1, 1), (104, .getfield 169, 3), (107, .getfield 120, 3), (110, .iconst 4, 1), (111, .iaload, 1), (112, .putfield 173, 3), (115, .iconst 1, 1), (116, .ireturn, 1)]
theorem dx_C_acknowledge : ∀ p ∈ dt_C_acknowledge, decode prog_1_method_46_code p.1 = .ok p.2 := by decide +kernel
theorem d_C_acknowledge {k pc : Nat} {i : Instr} {n : Nat} (h : dt_C_acknowledge[k]? = some (pc, i, n)) : decode mi_C_acknowledge.2.1 pc = .ok (i, n) := dx_C_acknowledge (pc, i, n) (List.mem_of_getElem? h)
def q_C_acknowledge_103 (t1 : Option Nat) (u0 : Option Nat) (M : mM) : Option (Int32 × mM) :=
    x_gR M 2 t1 0 fun a1 =>
    x_gR M 8 a1 1 fun a2 =>
    x_aI M 0 a2 (4 : Int32) fun x3 =>
    x_pI M 2 u0 11 x3 fun M =>
    x_rz (1 : Int32) M
set_option maxRecDepth 20000 in
theorem v_C_acknowledge_103 {E : mE} (t1 : Option Nat) (u0 : Option Nat) (M : mM) : mVr E mi_C_acknowledge 3 103 [none, some (.inr t1), none] [.inr u0] M enI (q_C_acknowledge_103 t1 u0 M) := by
  unfold q_C_acknowledge_103
  refine m_aload_n (d_C_acknowledge (k := 54) rfl) rfl ?_
  refine m_getR (d_C_acknowledge (k := 55) rfl) fl_C_169 rfl (fun a1 => ?_)
  refine m_getR (d_C_acknowledge (k := 56) rfl) fl_C_120 rfl (fun a2 => ?_)
  refine m_iconst (v := 4) (d_C_acknowledge (k := 57) rfl) (by decide) ?_
  refine m_iald (d_C_acknowledge (k := 58) rfl) (fun x3 => ?_)
  refine m_pI (d_C_acknowledge (k := 59) rfl) fp_C_173 (fun h => absurd h (by decide)) rfl (fun M => ?_)
  refine m_iconst (v := 1) (d_C_acknowledge (k := 60) rfl) (by decide) ?_
  exact m_zret (d_C_acknowledge (k := 61) rfl) rfl
def q_C_acknowledge (t0 : Option Nat) (t1 : Option Nat) (M : mM) : Option (Int32 × mM) :=
    x_gR M 9 t0 6 fun a1 =>
    x_gI M 1 a1 7 fun x2 =>
    x_gI M 2 t1 9 fun x3 =>
    x_lt ((x2 - x3) &&& (7 : Int32)) fun x4 =>
    x_gI M 2 t1 8 fun x5 =>
    x_gI M 2 t1 9 fun x6 =>
    if ((x5 - x6) &&& (7 : Int32)) < x4 then
      x_gR M 2 t1 0 fun a7 =>
      x_gR M 2 t1 2 fun a8 =>
      x_cl (q_C_say a7 a8 (15 : Int32) (0 : Int32) M) fun a9 M =>
      x_cv M 2 t1 (q_K_goDown t1 M) fun _ M =>
      x_rz (0 : Int32) M
    else
      x_gR M 2 t1 6 fun a10 =>
      x_cv M 6 a10 (q_W_dropFirst a10 x4 M) fun _ M =>
      x_gR M 9 t0 6 fun a11 =>
      x_gI M 1 a11 7 fun x12 =>
      x_pI M 2 t1 9 x12 fun M =>
      if 0 < x4 then
        x_pI M 2 t1 12 (0 : Int32) fun M =>
        x_gR M 2 t1 6 fun a13 =>
        x_gI M 6 a13 2 fun x14 =>
        if x14 = 0 then
          x_gI M 2 t1 13 fun x15 =>
          if x15 = 0 then
            x_pI M 2 t1 11 (0 : Int32) fun M =>
            x_rz (1 : Int32) M
          else
            q_C_acknowledge_103 t1 t1 M
        else
          q_C_acknowledge_103 t1 t1 M
      else
        x_rz (1 : Int32) M
set_option maxRecDepth 20000 in
theorem v_C_acknowledge {E : mE} (t0 : Option Nat) (t1 : Option Nat) (M : mM) : mVr E mi_C_acknowledge 3 0 [some (.inr t0), some (.inr t1), none] [] M enI (q_C_acknowledge t0 t1 M) := by
  unfold q_C_acknowledge
  refine m_aload_n (d_C_acknowledge (k := 0) rfl) rfl ?_
  refine m_getR (d_C_acknowledge (k := 1) rfl) fl_C_57 rfl (fun a1 => ?_)
  refine m_getI (d_C_acknowledge (k := 2) rfl) fl_C_476 rfl (fun x2 => ?_)
  refine m_aload_n (d_C_acknowledge (k := 3) rfl) rfl ?_
  refine m_getI (d_C_acknowledge (k := 4) rfl) fl_C_291 rfl (fun x3 => ?_)
  refine m_isub (d_C_acknowledge (k := 5) rfl) ?_
  refine m_bipush (v := 7) (d_C_acknowledge (k := 6) rfl) (by decide) ?_
  refine m_iand (d_C_acknowledge (k := 7) rfl) ?_
  refine m_lt (fun x4 => ?_)
  refine m_ist_n (ls' := [some (.inr t0), some (.inr t1), some (.inl x4)]) (d_C_acknowledge (k := 8) rfl) (by decide) rfl ?_
  refine m_iload_n (d_C_acknowledge (k := 9) rfl) rfl ?_
  refine m_aload_n (d_C_acknowledge (k := 10) rfl) rfl ?_
  refine m_getI (d_C_acknowledge (k := 11) rfl) fl_C_288 rfl (fun x5 => ?_)
  refine m_aload_n (d_C_acknowledge (k := 12) rfl) rfl ?_
  refine m_getI (d_C_acknowledge (k := 13) rfl) fl_C_291 rfl (fun x6 => ?_)
  refine m_isub (d_C_acknowledge (k := 14) rfl) ?_
  refine m_bipush (v := 7) (d_C_acknowledge (k := 15) rfl) (by decide) ?_
  refine m_iand (d_C_acknowledge (k := 16) rfl) ?_
  refine m_icmp_le (tgt := 53) (d_C_acknowledge (k := 17) rfl) rfl ?_ ?_
  · refine m_aload_n (d_C_acknowledge (k := 18) rfl) rfl ?_
    refine m_getR (d_C_acknowledge (k := 19) rfl) fl_C_169 rfl (fun a7 => ?_)
    refine m_aload_n (d_C_acknowledge (k := 20) rfl) rfl ?_
    refine m_getR (d_C_acknowledge (k := 21) rfl) fl_C_148 rfl (fun a8 => ?_)
    refine m_bipush (v := 15) (d_C_acknowledge (k := 22) rfl) (by decide) ?_
    refine m_iconst (v := 0) (d_C_acknowledge (k := 23) rfl) (by decide) ?_
    refine m_csR (vs := [.inr a7, .inr a8, .inl (15 : Int32), .inl (0 : Int32)]) (st := []) (d_C_acknowledge (k := 24) rfl) (s_C_say a7 a8 (15 : Int32) (0 : Int32) M) cd_C_say ml_C_176 sa_C_say (by decide) rfl (Nat.le_of_ble_eq_true rfl) (fun a9 M => ?_)
    refine m_pop (d_C_acknowledge (k := 25) rfl) ?_
    refine m_aload_n (d_C_acknowledge (k := 26) rfl) rfl ?_
    refine m_cvU (c := 2) (vs := []) (st := []) (d_C_acknowledge (k := 27) rfl) (s_K_goDown t1 M) cd_K_goDown ml_C_457 im_K_goDown se_K_goDown rfl (by decide) rfl (Nat.le_of_ble_eq_true rfl) (fun _ M => ?_)
    refine m_iconst (v := 0) (d_C_acknowledge (k := 28) rfl) (by decide) ?_
    exact m_zret (d_C_acknowledge (k := 29) rfl) rfl
  · refine m_aload_n (d_C_acknowledge (k := 30) rfl) rfl ?_
    refine m_getR (d_C_acknowledge (k := 31) rfl) fl_C_312 rfl (fun a10 => ?_)
    refine m_iload_n (d_C_acknowledge (k := 32) rfl) rfl ?_
    refine m_cvU (c := 6) (vs := [.inl x4]) (st := []) (d_C_acknowledge (k := 33) rfl) (s_W_dropFirst a10 x4 M) cd_W_dropFirst ml_C_221 im_W_dropFirst se_W_dropFirst rfl (by decide) rfl (Nat.le_of_ble_eq_true rfl) (fun _ M => ?_)
    refine m_aload_n (d_C_acknowledge (k := 34) rfl) rfl ?_
    refine m_aload_n (d_C_acknowledge (k := 35) rfl) rfl ?_
    refine m_getR (d_C_acknowledge (k := 36) rfl) fl_C_57 rfl (fun a11 => ?_)
    refine m_getI (d_C_acknowledge (k := 37) rfl) fl_C_476 rfl (fun x12 => ?_)
    refine m_pI (d_C_acknowledge (k := 38) rfl) fp_C_291 (fun h => absurd h (by decide)) rfl (fun M => ?_)
    refine m_iload_n (d_C_acknowledge (k := 39) rfl) rfl ?_
    refine m_if_le (tgt := 115) (d_C_acknowledge (k := 40) rfl) rfl ?_ ?_
    · refine m_aload_n (d_C_acknowledge (k := 41) rfl) rfl ?_
      refine m_iconst (v := 0) (d_C_acknowledge (k := 42) rfl) (by decide) ?_
      refine m_pI (d_C_acknowledge (k := 43) rfl) fp_C_166 (fun h => absurd h (by decide)) rfl (fun M => ?_)
      refine m_aload_n (d_C_acknowledge (k := 44) rfl) rfl ?_
      refine m_aload_n (d_C_acknowledge (k := 45) rfl) rfl ?_
      refine m_getR (d_C_acknowledge (k := 46) rfl) fl_C_312 rfl (fun a13 => ?_)
      refine m_getI (d_C_acknowledge (k := 47) rfl) fl_C_264 rfl (fun x14 => ?_)
      refine m_if_ne (tgt := 103) (d_C_acknowledge (k := 48) rfl) rfl ?_ ?_
      · refine m_aload_n (d_C_acknowledge (k := 49) rfl) rfl ?_
        refine m_getI (d_C_acknowledge (k := 50) rfl) fl_C_297 rfl (fun x15 => ?_)
        refine m_if_ne (tgt := 103) (d_C_acknowledge (k := 51) rfl) rfl ?_ ?_
        · refine m_iconst (v := 0) (d_C_acknowledge (k := 52) rfl) (by decide) ?_
          refine m_goto (tgt := 112) (d_C_acknowledge (k := 53) rfl) rfl ?_
          refine m_pI (d_C_acknowledge (k := 59) rfl) fp_C_173 (fun h => absurd h (by decide)) rfl (fun M => ?_)
          refine m_iconst (v := 1) (d_C_acknowledge (k := 60) rfl) (by decide) ?_
          exact m_zret (d_C_acknowledge (k := 61) rfl) rfl
        · exact m_drop (mles_n (mles_s (mles_n mles_0))) (v_C_acknowledge_103 t1 t1 M)
      · exact m_drop (mles_n (mles_s (mles_n mles_0))) (v_C_acknowledge_103 t1 t1 M)
    · refine m_iconst (v := 1) (d_C_acknowledge (k := 60) rfl) (by decide) ?_
      exact m_zret (d_C_acknowledge (k := 61) rfl) rfl
theorem s_C_acknowledge {E : mE} (t0 : Option Nat) (t1 : Option Nat) (M : mM) : mSnd E mi_C_acknowledge 3 [.inr t0, .inr t1] M enI (q_C_acknowledge t0 t1 M) := m_entryZ (by decide) (Nat.le_of_ble_eq_true rfl) rfl (m_drop (mles_s (mles_s (mles_e mles_0))) (v_C_acknowledge t0 t1 M))
def dt_C_takeInformation : List (Nat × Instr × Nat) := [(0, .aload_n 0, 1), (1, .getfield 57, 3), (4, .getfield 482, 3), (7, .aload_n 1, 1), (8, .getfield 294, 3), (11, .if_icmp .eq 47, 3), (14, .aload_n 1, 1), (15, .getfield 300, 3), (18, .ifCond .ne 39, 3), (21, .aload_n 1, 1), (22, .getfield 169, 3), (25, .aload_n 1, 1), (26, .getfield 148, 3), (29, .bipush 9, 2), (31, .aload_n 0, 1), (32, .getfield 57, 3), (35, .getfield 463, 3), (38, .iadd, 1), (39, .bipush 32, 2), (41, .aload_n 1, 1), (42, .getfield 294, 3), (45, .imul, 1), (46, .iadd, 1), (47, .iconst 0, 1), (48, .invokestatic 176, 3), (51, .pop, 1), (52, .aload_n 1, 1), (53, .iconst 1, 1), (54, .putfield 300, 3), (57, .return_, 1), (58, .aload_n 1, 1), (59, .invokevirtual 184, 3), (62, .ifCond .ne 90, 3), (65, .aload_n 1, 1), (66, .getfield 169, 3), (69, .getfield 374, 3), (72, .getfield 99, 3), (75, .astore_n 2, 1), (76, .aload_n 1, 1), (77, .aload_n 1, 1), (78, .getfield 294, 3), (81, .iconst 1, 1), (82, .iadd, 1), (83, .bipush 7, 2), (85, .iand, 1), (86, .putfield 294, 3), (89, .aload_n 1, 1), (90, .iconst 0, 1), (91, .putfield 300, 3), (94, .aload_n 0, 1), (95, .getfield 57, 3), (98, .getfield 485, 3), (101, .sipush 207, 3), (104, .if_icmp .ne 21, 3), (107, .aload_n 1, 1), (108, .getfield 169, 3), (111, .aload_n 2, 1), (112, .aload_n 0, 1), (113, .getfield 57, 3), (116, .getfield 412, 3), (119, .invokestatic 210, 3), (122, .goto 30, 3), (125, .aload_n 1, 1), (126, .getfield 188, 3), (129, .aload_n 2, 1), (130, .aload_n 0, 1), (131, .getfield 57, 3), (134, .getfield 412, 3), (137, .aload_n 2, 1), (138, .getfield 61, 3), (141, .aload_n 0, 1), (142, .getfield 57, 3), (145, .getfield 412, 3), (148, .isub, 1), (149, .invokevirtual 134, 3), (152, .aload_n 1, 1), (153, .aload_n 0, 1), (154, .getfield 57, 3), (157, .getfield 463, 3), (160, .iconst 0, 1), (161, .invokestatic 200, 3), (164, .return_, 1)]
theorem dx_C_takeInformation : ∀ p ∈ dt_C_takeInformation, decode prog_1_method_48_code p.1 = .ok p.2 := by decide +kernel
theorem d_C_takeInformation {k pc : Nat} {i : Instr} {n : Nat} (h : dt_C_takeInformation[k]? = some (pc, i, n)) : decode mi_C_takeInformation.2.1 pc = .ok (i, n) := dx_C_takeInformation (pc, i, n) (List.mem_of_getElem? h)
def q_C_takeInformation_152 (t0 : Option Nat) (t1 : Option Nat) (M : mM) : Option (Unit × mM) :=
    x_gR M 9 t0 6 fun a1 =>
    x_gI M 1 a1 6 fun x2 =>
    x_cl (q_C_sayReady t1 x2 (0 : Int32) M) fun _ M =>
    some ((), M)
set_option maxRecDepth 20000 in
theorem v_C_takeInformation_152 {E : mE} (t0 : Option Nat) (t1 : Option Nat) (M : mM) : mVr E mi_C_takeInformation 4 152 [some (.inr t0), some (.inr t1), none] [] M enU (q_C_takeInformation_152 t0 t1 M) := by
  unfold q_C_takeInformation_152
  refine m_aload_n (d_C_takeInformation (k := 75) rfl) rfl ?_
  refine m_aload_n (d_C_takeInformation (k := 76) rfl) rfl ?_
  refine m_getR (d_C_takeInformation (k := 77) rfl) fl_C_57 rfl (fun a1 => ?_)
  refine m_getI (d_C_takeInformation (k := 78) rfl) fl_C_463 rfl (fun x2 => ?_)
  refine m_iconst (v := 0) (d_C_takeInformation (k := 79) rfl) (by decide) ?_
  refine m_csU (vs := [.inr t1, .inl x2, .inl (0 : Int32)]) (st := []) (d_C_takeInformation (k := 80) rfl) (s_C_sayReady t1 x2 (0 : Int32) M) cd_C_sayReady ml_C_200 sa_C_sayReady (by decide) rfl (Nat.le_of_ble_eq_true rfl) (fun _ M => ?_)
  exact m_vret (d_C_takeInformation (k := 81) rfl) rfl
def q_C_takeInformation (t0 : Option Nat) (t1 : Option Nat) (M : mM) : Option (Unit × mM) :=
    x_gR M 9 t0 6 fun a1 =>
    x_gI M 1 a1 8 fun x2 =>
    x_gI M 2 t1 10 fun x3 =>
    if x2 = x3 then
      x_cv M 2 t1 (q_K_isBusy t1 M) fun x4 M =>
      if x4 = 0 then
        x_gR M 2 t1 0 fun a5 =>
        x_gR M 8 a5 3 fun a6 =>
        x_gR M 4 a6 5 fun a7 =>
        x_gI M 2 t1 10 fun x8 =>
        x_pI M 2 t1 10 ((x8 + (1 : Int32)) &&& (7 : Int32)) fun M =>
        x_pZ M 2 t1 14 (0 : Int32) fun M =>
        x_gR M 9 t0 6 fun a9 =>
        x_gI M 1 a9 9 fun x10 =>
        if x10 = (207 : Int32) then
          x_gR M 2 t1 0 fun a11 =>
          x_gR M 9 t0 6 fun a12 =>
          x_gI M 1 a12 10 fun x13 =>
          x_cl (q_C_receivePacket a11 a7 x13 M) fun _ M =>
          q_C_takeInformation_152 t0 t1 M
        else
          x_gR M 2 t1 4 fun a14 =>
          x_gR M 9 t0 6 fun a15 =>
          x_gI M 1 a15 10 fun x16 =>
          x_gI M 0 a7 1 fun x17 =>
          x_gR M 9 t0 6 fun a18 =>
          x_gI M 1 a18 10 fun x19 =>
          x_cv M 0 a14 (q_B_addFrom a14 a7 x16 (x17 - x19) M) fun _ M =>
          q_C_takeInformation_152 t0 t1 M
      else
        q_C_takeInformation_152 t0 t1 M
    else
      x_gI M 2 t1 14 fun x20 =>
      if x20 = 0 then
        x_gR M 2 t1 0 fun a21 =>
        x_gR M 2 t1 2 fun a22 =>
        x_gR M 9 t0 6 fun a23 =>
        x_gI M 1 a23 6 fun x24 =>
        x_gI M 2 t1 10 fun x25 =>
        x_cl (q_C_say a21 a22 (((9 : Int32) + x24) + ((32 : Int32) * x25)) (0 : Int32) M) fun a26 M =>
        x_pZ M 2 t1 14 (1 : Int32) fun M =>
        some ((), M)
      else
        some ((), M)
set_option maxRecDepth 20000 in
theorem v_C_takeInformation {E : mE} (t0 : Option Nat) (t1 : Option Nat) (M : mM) : mVr E mi_C_takeInformation 4 0 [some (.inr t0), some (.inr t1), none] [] M enU (q_C_takeInformation t0 t1 M) := by
  unfold q_C_takeInformation
  refine m_aload_n (d_C_takeInformation (k := 0) rfl) rfl ?_
  refine m_getR (d_C_takeInformation (k := 1) rfl) fl_C_57 rfl (fun a1 => ?_)
  refine m_getI (d_C_takeInformation (k := 2) rfl) fl_C_482 rfl (fun x2 => ?_)
  refine m_aload_n (d_C_takeInformation (k := 3) rfl) rfl ?_
  refine m_getI (d_C_takeInformation (k := 4) rfl) fl_C_294 rfl (fun x3 => ?_)
  refine m_icmp_eq (tgt := 58) (d_C_takeInformation (k := 5) rfl) rfl ?_ ?_
  · refine m_aload_n (d_C_takeInformation (k := 30) rfl) rfl ?_
    refine m_cvI (c := 2) (vs := []) (st := []) (d_C_takeInformation (k := 31) rfl) (s_K_isBusy t1 M) cd_K_isBusy ml_C_184 im_K_isBusy se_K_isBusy rfl (by decide) rfl (Nat.le_of_ble_eq_true rfl) (fun x4 M => ?_)
    refine m_if_ne (tgt := 152) (d_C_takeInformation (k := 32) rfl) rfl ?_ ?_
    · refine m_aload_n (d_C_takeInformation (k := 33) rfl) rfl ?_
      refine m_getR (d_C_takeInformation (k := 34) rfl) fl_C_169 rfl (fun a5 => ?_)
      refine m_getR (d_C_takeInformation (k := 35) rfl) fl_C_374 rfl (fun a6 => ?_)
      refine m_getR (d_C_takeInformation (k := 36) rfl) fl_C_99 rfl (fun a7 => ?_)
      refine m_ast_n (ls' := [some (.inr t0), some (.inr t1), some (.inr a7)]) (d_C_takeInformation (k := 37) rfl) (by decide) rfl ?_
      refine m_aload_n (d_C_takeInformation (k := 38) rfl) rfl ?_
      refine m_aload_n (d_C_takeInformation (k := 39) rfl) rfl ?_
      refine m_getI (d_C_takeInformation (k := 40) rfl) fl_C_294 rfl (fun x8 => ?_)
      refine m_iconst (v := 1) (d_C_takeInformation (k := 41) rfl) (by decide) ?_
      refine m_iadd (d_C_takeInformation (k := 42) rfl) ?_
      refine m_bipush (v := 7) (d_C_takeInformation (k := 43) rfl) (by decide) ?_
      refine m_iand (d_C_takeInformation (k := 44) rfl) ?_
      refine m_pI (d_C_takeInformation (k := 45) rfl) fp_C_294 (fun h => absurd h (by decide)) rfl (fun M => ?_)
      refine m_aload_n (d_C_takeInformation (k := 46) rfl) rfl ?_
      refine m_iconst (v := 0) (d_C_takeInformation (k := 47) rfl) (by decide) ?_
      refine m_pZ (d_C_takeInformation (k := 48) rfl) fp_C_300 (fun h => absurd h (by decide)) rfl (fun M => ?_)
      refine m_aload_n (d_C_takeInformation (k := 49) rfl) rfl ?_
      refine m_getR (d_C_takeInformation (k := 50) rfl) fl_C_57 rfl (fun a9 => ?_)
      refine m_getI (d_C_takeInformation (k := 51) rfl) fl_C_485 rfl (fun x10 => ?_)
      refine m_sipush (v := 207) (d_C_takeInformation (k := 52) rfl) (by decide) ?_
      refine m_icmp_ne (tgt := 125) (d_C_takeInformation (k := 53) rfl) rfl ?_ ?_
      · refine m_aload_n (d_C_takeInformation (k := 54) rfl) rfl ?_
        refine m_getR (d_C_takeInformation (k := 55) rfl) fl_C_169 rfl (fun a11 => ?_)
        refine m_aload_n (d_C_takeInformation (k := 56) rfl) rfl ?_
        refine m_aload_n (d_C_takeInformation (k := 57) rfl) rfl ?_
        refine m_getR (d_C_takeInformation (k := 58) rfl) fl_C_57 rfl (fun a12 => ?_)
        refine m_getI (d_C_takeInformation (k := 59) rfl) fl_C_412 rfl (fun x13 => ?_)
        refine m_csU (vs := [.inr a11, .inr a7, .inl x13]) (st := []) (d_C_takeInformation (k := 60) rfl) (s_C_receivePacket a11 a7 x13 M) cd_C_receivePacket ml_C_210 sa_C_receivePacket (by decide) rfl (Nat.le_of_ble_eq_true rfl) (fun _ M => ?_)
        refine m_goto (tgt := 152) (d_C_takeInformation (k := 61) rfl) rfl ?_
        exact m_drop (mles_s (mles_s (mles_n mles_0))) (v_C_takeInformation_152 t0 t1 M)
      · refine m_aload_n (d_C_takeInformation (k := 62) rfl) rfl ?_
        refine m_getR (d_C_takeInformation (k := 63) rfl) fl_C_188 rfl (fun a14 => ?_)
        refine m_aload_n (d_C_takeInformation (k := 64) rfl) rfl ?_
        refine m_aload_n (d_C_takeInformation (k := 65) rfl) rfl ?_
        refine m_getR (d_C_takeInformation (k := 66) rfl) fl_C_57 rfl (fun a15 => ?_)
        refine m_getI (d_C_takeInformation (k := 67) rfl) fl_C_412 rfl (fun x16 => ?_)
        refine m_aload_n (d_C_takeInformation (k := 68) rfl) rfl ?_
        refine m_getI (d_C_takeInformation (k := 69) rfl) fl_C_61 rfl (fun x17 => ?_)
        refine m_aload_n (d_C_takeInformation (k := 70) rfl) rfl ?_
        refine m_getR (d_C_takeInformation (k := 71) rfl) fl_C_57 rfl (fun a18 => ?_)
        refine m_getI (d_C_takeInformation (k := 72) rfl) fl_C_412 rfl (fun x19 => ?_)
        refine m_isub (d_C_takeInformation (k := 73) rfl) ?_
        refine m_cvU (c := 0) (vs := [.inr a7, .inl x16, .inl (x17 - x19)]) (st := []) (d_C_takeInformation (k := 74) rfl) (s_B_addFrom a14 a7 x16 (x17 - x19) M) cd_B_addFrom ml_C_134 im_B_addFrom se_B_addFrom rfl (by decide) rfl (Nat.le_of_ble_eq_true rfl) (fun _ M => ?_)
        exact m_drop (mles_s (mles_s (mles_n mles_0))) (v_C_takeInformation_152 t0 t1 M)
    · exact m_drop (mles_s (mles_s (mles_n mles_0))) (v_C_takeInformation_152 t0 t1 M)
  · refine m_aload_n (d_C_takeInformation (k := 6) rfl) rfl ?_
    refine m_getI (d_C_takeInformation (k := 7) rfl) fl_C_300 rfl (fun x20 => ?_)
    refine m_if_ne (tgt := 57) (d_C_takeInformation (k := 8) rfl) rfl ?_ ?_
    · refine m_aload_n (d_C_takeInformation (k := 9) rfl) rfl ?_
      refine m_getR (d_C_takeInformation (k := 10) rfl) fl_C_169 rfl (fun a21 => ?_)
      refine m_aload_n (d_C_takeInformation (k := 11) rfl) rfl ?_
      refine m_getR (d_C_takeInformation (k := 12) rfl) fl_C_148 rfl (fun a22 => ?_)
      refine m_bipush (v := 9) (d_C_takeInformation (k := 13) rfl) (by decide) ?_
      refine m_aload_n (d_C_takeInformation (k := 14) rfl) rfl ?_
      refine m_getR (d_C_takeInformation (k := 15) rfl) fl_C_57 rfl (fun a23 => ?_)
      refine m_getI (d_C_takeInformation (k := 16) rfl) fl_C_463 rfl (fun x24 => ?_)
      refine m_iadd (d_C_takeInformation (k := 17) rfl) ?_
      refine m_bipush (v := 32) (d_C_takeInformation (k := 18) rfl) (by decide) ?_
      refine m_aload_n (d_C_takeInformation (k := 19) rfl) rfl ?_
      refine m_getI (d_C_takeInformation (k := 20) rfl) fl_C_294 rfl (fun x25 => ?_)
      refine m_imul (d_C_takeInformation (k := 21) rfl) ?_
      refine m_iadd (d_C_takeInformation (k := 22) rfl) ?_
      refine m_iconst (v := 0) (d_C_takeInformation (k := 23) rfl) (by decide) ?_
      refine m_csR (vs := [.inr a21, .inr a22, .inl (((9 : Int32) + x24) + ((32 : Int32) * x25)), .inl (0 : Int32)]) (st := []) (d_C_takeInformation (k := 24) rfl) (s_C_say a21 a22 (((9 : Int32) + x24) + ((32 : Int32) * x25)) (0 : Int32) M) cd_C_say ml_C_176 sa_C_say (by decide) rfl (Nat.le_of_ble_eq_true rfl) (fun a26 M => ?_)
      refine m_pop (d_C_takeInformation (k := 25) rfl) ?_
      refine m_aload_n (d_C_takeInformation (k := 26) rfl) rfl ?_
      refine m_iconst (v := 1) (d_C_takeInformation (k := 27) rfl) (by decide) ?_
      refine m_pZ (d_C_takeInformation (k := 28) rfl) fp_C_300 (fun h => absurd h (by decide)) rfl (fun M => ?_)
      exact m_vret (d_C_takeInformation (k := 29) rfl) rfl
    · exact m_vret (d_C_takeInformation (k := 29) rfl) rfl
theorem s_C_takeInformation {E : mE} (t0 : Option Nat) (t1 : Option Nat) (M : mM) : mSnd E mi_C_takeInformation 4 [.inr t0, .inr t1] M enU (q_C_takeInformation t0 t1 M) := m_entryU (by decide) (Nat.le_of_ble_eq_true rfl) rfl (m_drop (mles_s (mles_s (mles_e mles_0))) (v_C_takeInformation t0 t1 M))
def dt_C_sayAgain : List (Nat × Instr × Nat) := [(0, .aload_n 0, 1), (1, .getfield 312, 3), (4, .getfield 264, 3), (7, .ifCond .ne 4, 3), (10, .return_, 1), (11, .aload_n 0, 1), (12, .aload_n 0, 1), (13, .getfield 169, 3), (16, .getfield 120, 3), (19, .iconst 4, 1), (20, .iaload, 1), (21, .putfield 173, 3), (24, .iconst 0, 1), (25, .istore_n 1, 1), (26, .iload_n 1, 1), (27, .aload_n 0, 1), (28, .getfield 312, 3), (31, .getfield 264, 3), (34, .if_icmp .ge 37, 3), (37, .aload_n 0, 1), (38, .getfield 303, 3), (41, .ifCond .ne 30, 3), (44, .aload_n 0, 1), (45, .aload_n 0, 1), (46, .getfield 291, 3), (49, .iload_n 1, 1), (50, .iadd, 1), (51, .bipush 7, 2), (53, .iand, 1), (54, .aload_n 0, 1), (55, .getfield 312, 3), (58, .iload_n 1, 1), (59, .invokevirtual 217, 3), (62, .invokestatic 496, 3), (65, .iinc 1 1, 3), (68, .goto (-42), 3), (71, .return_, 1)]
theorem dx_C_sayAgain : ∀ p ∈ dt_C_sayAgain, decode prog_1_method_53_code p.1 = .ok p.2 := by decide +kernel
theorem d_C_sayAgain {k pc : Nat} {i : Instr} {n : Nat} (h : dt_C_sayAgain[k]? = some (pc, i, n)) : decode mi_C_sayAgain.2.1 pc = .ok (i, n) := dx_C_sayAgain (pc, i, n) (List.mem_of_getElem? h)
def q_C_sayAgain_26_b (r26 : Option Nat → Int32 → mM → Option (Unit × mM)) (t0 : Option Nat) (i1 : Int32) (M : mM) : Option (Unit × mM) :=
    x_gR M 2 t0 6 fun a1 =>
    x_gI M 6 a1 2 fun x2 =>
    if i1 < x2 then
      x_gI M 2 t0 15 fun x3 =>
      if x3 = 0 then
        x_gI M 2 t0 9 fun x4 =>
        x_gR M 2 t0 6 fun a5 =>
        x_cv M 6 a5 (q_W_rowAt a5 i1 M) fun a6 M =>
        x_cl (q_C_sayInformation t0 ((x4 + i1) &&& (7 : Int32)) a6 M) fun _ M =>
        r26 t0 (i1 + 1) M
      else
        some ((), M)
    else
      some ((), M)
def q_C_sayAgain_26 : Nat → Option Nat → Int32 → mM → Option (Unit × mM)
  | 0, _, _, _ => none
  | n + 1, t0, i1, M => q_C_sayAgain_26_b (q_C_sayAgain_26 n) t0 i1 M
set_option maxRecDepth 20000 in
theorem v_C_sayAgain_26_b {E : mE} (r26 : Option Nat → Int32 → mM → Option (Unit × mM)) (h26 : ∀ (t0 : Option Nat) (i1 : Int32) (M : mM), mVr E mi_C_sayAgain 4 26 [some (.inr t0), some (.inl i1)] [] M enU (r26 t0 i1 M)) (t0 : Option Nat) (i1 : Int32) (M : mM) : mVr E mi_C_sayAgain 4 26 [some (.inr t0), some (.inl i1)] [] M enU (q_C_sayAgain_26_b r26 t0 i1 M) := by
  unfold q_C_sayAgain_26_b
  refine m_iload_n (d_C_sayAgain (k := 14) rfl) rfl ?_
  refine m_aload_n (d_C_sayAgain (k := 15) rfl) rfl ?_
  refine m_getR (d_C_sayAgain (k := 16) rfl) fl_C_312 rfl (fun a1 => ?_)
  refine m_getI (d_C_sayAgain (k := 17) rfl) fl_C_264 rfl (fun x2 => ?_)
  refine m_icmp_ge (tgt := 71) (d_C_sayAgain (k := 18) rfl) rfl ?_ ?_
  · refine m_aload_n (d_C_sayAgain (k := 19) rfl) rfl ?_
    refine m_getI (d_C_sayAgain (k := 20) rfl) fl_C_303 rfl (fun x3 => ?_)
    refine m_if_ne (tgt := 71) (d_C_sayAgain (k := 21) rfl) rfl ?_ ?_
    · refine m_aload_n (d_C_sayAgain (k := 22) rfl) rfl ?_
      refine m_aload_n (d_C_sayAgain (k := 23) rfl) rfl ?_
      refine m_getI (d_C_sayAgain (k := 24) rfl) fl_C_291 rfl (fun x4 => ?_)
      refine m_iload_n (d_C_sayAgain (k := 25) rfl) rfl ?_
      refine m_iadd (d_C_sayAgain (k := 26) rfl) ?_
      refine m_bipush (v := 7) (d_C_sayAgain (k := 27) rfl) (by decide) ?_
      refine m_iand (d_C_sayAgain (k := 28) rfl) ?_
      refine m_aload_n (d_C_sayAgain (k := 29) rfl) rfl ?_
      refine m_getR (d_C_sayAgain (k := 30) rfl) fl_C_312 rfl (fun a5 => ?_)
      refine m_iload_n (d_C_sayAgain (k := 31) rfl) rfl ?_
      refine m_cvR (c := 6) (vs := [.inl i1]) (st := [.inl ((x4 + i1) &&& (7 : Int32)), .inr t0]) (d_C_sayAgain (k := 32) rfl) (s_W_rowAt a5 i1 M) cd_W_rowAt ml_C_217 im_W_rowAt se_W_rowAt rfl (by decide) rfl (Nat.le_of_ble_eq_true rfl) (fun a6 M => ?_)
      refine m_csU (vs := [.inr t0, .inl ((x4 + i1) &&& (7 : Int32)), .inr a6]) (st := []) (d_C_sayAgain (k := 33) rfl) (s_C_sayInformation t0 ((x4 + i1) &&& (7 : Int32)) a6 M) cd_C_sayInformation ml_C_496 sa_C_sayInformation (by decide) rfl (Nat.le_of_ble_eq_true rfl) (fun _ M => ?_)
      refine m_inc (v := 1) (ls' := [some (.inr t0), some (.inl (i1 + 1))]) (d_C_sayAgain (k := 34) rfl) rfl (by decide) (by decide) rfl ?_
      refine m_goto (tgt := 26) (d_C_sayAgain (k := 35) rfl) rfl ?_
      exact m_drop (mles_s (mles_s mles_0)) (h26 t0 (i1 + 1) M)
    · exact m_vret (d_C_sayAgain (k := 36) rfl) rfl
  · exact m_vret (d_C_sayAgain (k := 36) rfl) rfl
theorem v_C_sayAgain_26 {E : mE} : ∀ (n : Nat) (t0 : Option Nat) (i1 : Int32) (M : mM), mVr E mi_C_sayAgain 4 26 [some (.inr t0), some (.inl i1)] [] M enU (q_C_sayAgain_26 n t0 i1 M)
  | 0, _, _, _ => m_none
  | n + 1, t0, i1, M => v_C_sayAgain_26_b _ (v_C_sayAgain_26 n) t0 i1 M
def q_C_sayAgain (t0 : Option Nat) (M : mM) : Option (Unit × mM) :=
    x_gR M 2 t0 6 fun a1 =>
    x_gI M 6 a1 2 fun x2 =>
    if x2 = 0 then
      some ((), M)
    else
      x_gR M 2 t0 0 fun a3 =>
      x_gR M 8 a3 1 fun a4 =>
      x_aI M 0 a4 (4 : Int32) fun x5 =>
      x_pI M 2 t0 11 x5 fun M =>
      q_C_sayAgain_26 mFU t0 (0 : Int32) M
set_option maxRecDepth 20000 in
theorem v_C_sayAgain {E : mE} (t0 : Option Nat) (M : mM) : mVr E mi_C_sayAgain 4 0 [some (.inr t0), none] [] M enU (q_C_sayAgain t0 M) := by
  unfold q_C_sayAgain
  refine m_aload_n (d_C_sayAgain (k := 0) rfl) rfl ?_
  refine m_getR (d_C_sayAgain (k := 1) rfl) fl_C_312 rfl (fun a1 => ?_)
  refine m_getI (d_C_sayAgain (k := 2) rfl) fl_C_264 rfl (fun x2 => ?_)
  refine m_if_ne (tgt := 11) (d_C_sayAgain (k := 3) rfl) rfl ?_ ?_
  · exact m_vret (d_C_sayAgain (k := 4) rfl) rfl
  · refine m_aload_n (d_C_sayAgain (k := 5) rfl) rfl ?_
    refine m_aload_n (d_C_sayAgain (k := 6) rfl) rfl ?_
    refine m_getR (d_C_sayAgain (k := 7) rfl) fl_C_169 rfl (fun a3 => ?_)
    refine m_getR (d_C_sayAgain (k := 8) rfl) fl_C_120 rfl (fun a4 => ?_)
    refine m_iconst (v := 4) (d_C_sayAgain (k := 9) rfl) (by decide) ?_
    refine m_iald (d_C_sayAgain (k := 10) rfl) (fun x5 => ?_)
    refine m_pI (d_C_sayAgain (k := 11) rfl) fp_C_173 (fun h => absurd h (by decide)) rfl (fun M => ?_)
    refine m_iconst (v := 0) (d_C_sayAgain (k := 12) rfl) (by decide) ?_
    refine m_ist_n (ls' := [some (.inr t0), some (.inl (0 : Int32))]) (d_C_sayAgain (k := 13) rfl) (by decide) rfl ?_
    exact m_drop (mles_s (mles_s mles_0)) (v_C_sayAgain_26 mFU t0 (0 : Int32) M)
theorem s_C_sayAgain {E : mE} (t0 : Option Nat) (M : mM) : mSnd E mi_C_sayAgain 4 [.inr t0] M enU (q_C_sayAgain t0 M) := m_entryU (by decide) (Nat.le_of_ble_eq_true rfl) rfl (m_drop (mles_s (mles_e mles_0)) (v_C_sayAgain t0 M))
def dt_C_takeSupervision : List (Nat × Instr × Nat) := [(0, .aload_n 0, 1), (1, .getfield 57, 3), (4, .getfield 463, 3), (7, .ifCond .eq 7, 3), (10, .iconst 1, 1), (11, .goto 4, 3), (14, .iconst 0, 1), (15, .istore_n 2, 1), (16, .aload_n 1, 1), (17, .aload_n 0, 1), (18, .getfield 57, 3), (21, .getfield 406, 3), (24, .iconst 5, 1), (25, .if_icmp .ne 7, 3), (28, .iconst 1, 1), (29, .goto 4, 3), (32, .iconst 0, 1), (33, .putfield 303, 3), (36, .aload_n 0, 1), (37, .getfield 57, 3), (40, .getfield 428, 3), (43, .ifCond .ne 36, 3), (46, .iload_n 2, 1), (47, .ifCond .eq 32, 3), (50, .aload_n 1, 1), (51, .getfield 297, 3), (54, .ifCond .eq 25, 3), (57, .aload_n 1, 1), (58, .iconst 0, 1), (59, .putfield 297, 3), (62, .aload_n 1, 1), (63, .iconst 0, 1), (64, .putfield 166, 3), (67, .aload_n 1, 1), (68, .iconst 0, 1), (69, .putfield 173, 3), (72, .aload_n 1, 1), (73, .invokestatic 479, 3), (76, .goto 26, 3), (79, .aload_n 0, 1), (80, .getfield 57, 3), (83, .getfield 406, 3), (86, .bipush 9, 2), (88, .if_icmp .ne 14, 3), (91, .aload_n 1, 1), (92, .getfield 297, 3), (95, .ifCond .ne 7, 3), (98, .aload_n 1, 1), (99, .invokestatic 479, 3), (102, .aload_n 0, 1), (103, .getfield 57, 3), (106, .getfield 428, 3), (109, .ifCond .eq 14, 3), (112, .iload_n 2, 1), (113, .ifCond .eq 10, 3), (116, .aload_n 1, 1), (117, .bipush 16, 2), (119, .iconst 0, 1), (120, .invokestatic 200, 3), (123, .return_, 1)]
theorem dx_C_takeSupervision : ∀ p ∈ dt_C_takeSupervision, decode prog_1_method_47_code p.1 = .ok p.2 := by decide +kernel
theorem d_C_takeSupervision {k pc : Nat} {i : Instr} {n : Nat} (h : dt_C_takeSupervision[k]? = some (pc, i, n)) : decode mi_C_takeSupervision.2.1 pc = .ok (i, n) := dx_C_takeSupervision (pc, i, n) (List.mem_of_getElem? h)
def q_C_takeSupervision_102 (t0 : Option Nat) (t1 : Option Nat) (i2 : Int32) (M : mM) : Option (Unit × mM) :=
    x_gR M 9 t0 6 fun a1 =>
    x_gI M 1 a1 4 fun x2 =>
    if x2 = 0 then
      some ((), M)
    else
      if i2 = 0 then
        some ((), M)
      else
        x_cl (q_C_sayReady t1 (16 : Int32) (0 : Int32) M) fun _ M =>
        some ((), M)
set_option maxRecDepth 20000 in
theorem v_C_takeSupervision_102 {E : mE} (t0 : Option Nat) (t1 : Option Nat) (i2 : Int32) (M : mM) : mVr E mi_C_takeSupervision 5 102 [some (.inr t0), some (.inr t1), some (.inl i2)] [] M enU (q_C_takeSupervision_102 t0 t1 i2 M) := by
  unfold q_C_takeSupervision_102
  refine m_aload_n (d_C_takeSupervision (k := 49) rfl) rfl ?_
  refine m_getR (d_C_takeSupervision (k := 50) rfl) fl_C_57 rfl (fun a1 => ?_)
  refine m_getI (d_C_takeSupervision (k := 51) rfl) fl_C_428 rfl (fun x2 => ?_)
  refine m_if_eq (tgt := 123) (d_C_takeSupervision (k := 52) rfl) rfl ?_ ?_
  · exact m_vret (d_C_takeSupervision (k := 59) rfl) rfl
  · refine m_iload_n (d_C_takeSupervision (k := 53) rfl) rfl ?_
    refine m_if_eq (tgt := 123) (d_C_takeSupervision (k := 54) rfl) rfl ?_ ?_
    · exact m_vret (d_C_takeSupervision (k := 59) rfl) rfl
    · refine m_aload_n (d_C_takeSupervision (k := 55) rfl) rfl ?_
      refine m_bipush (v := 16) (d_C_takeSupervision (k := 56) rfl) (by decide) ?_
      refine m_iconst (v := 0) (d_C_takeSupervision (k := 57) rfl) (by decide) ?_
      refine m_csU (vs := [.inr t1, .inl (16 : Int32), .inl (0 : Int32)]) (st := []) (d_C_takeSupervision (k := 58) rfl) (s_C_sayReady t1 (16 : Int32) (0 : Int32) M) cd_C_sayReady ml_C_200 sa_C_sayReady (by decide) rfl (Nat.le_of_ble_eq_true rfl) (fun _ M => ?_)
      exact m_vret (d_C_takeSupervision (k := 59) rfl) rfl
def q_C_takeSupervision_79 (t0 : Option Nat) (t1 : Option Nat) (i2 : Int32) (M : mM) : Option (Unit × mM) :=
    x_gR M 9 t0 6 fun a1 =>
    x_gI M 1 a1 5 fun x2 =>
    if x2 = (9 : Int32) then
      x_gI M 2 t1 13 fun x3 =>
      if x3 = 0 then
        x_cl (q_C_sayAgain t1 M) fun _ M =>
        q_C_takeSupervision_102 t0 t1 i2 M
      else
        q_C_takeSupervision_102 t0 t1 i2 M
    else
      q_C_takeSupervision_102 t0 t1 i2 M
set_option maxRecDepth 20000 in
theorem v_C_takeSupervision_79 {E : mE} (t0 : Option Nat) (t1 : Option Nat) (i2 : Int32) (M : mM) : mVr E mi_C_takeSupervision 5 79 [some (.inr t0), some (.inr t1), some (.inl i2)] [] M enU (q_C_takeSupervision_79 t0 t1 i2 M) := by
  unfold q_C_takeSupervision_79
  refine m_aload_n (d_C_takeSupervision (k := 39) rfl) rfl ?_
  refine m_getR (d_C_takeSupervision (k := 40) rfl) fl_C_57 rfl (fun a1 => ?_)
  refine m_getI (d_C_takeSupervision (k := 41) rfl) fl_C_406 rfl (fun x2 => ?_)
  refine m_bipush (v := 9) (d_C_takeSupervision (k := 42) rfl) (by decide) ?_
  refine m_icmp_ne (tgt := 102) (d_C_takeSupervision (k := 43) rfl) rfl ?_ ?_
  · refine m_aload_n (d_C_takeSupervision (k := 44) rfl) rfl ?_
    refine m_getI (d_C_takeSupervision (k := 45) rfl) fl_C_297 rfl (fun x3 => ?_)
    refine m_if_ne (tgt := 102) (d_C_takeSupervision (k := 46) rfl) rfl ?_ ?_
    · refine m_aload_n (d_C_takeSupervision (k := 47) rfl) rfl ?_
      refine m_csU (vs := [.inr t1]) (st := []) (d_C_takeSupervision (k := 48) rfl) (s_C_sayAgain t1 M) cd_C_sayAgain ml_C_479 sa_C_sayAgain (by decide) rfl (Nat.le_of_ble_eq_true rfl) (fun _ M => ?_)
      exact m_drop (mles_s (mles_s (mles_s mles_0))) (v_C_takeSupervision_102 t0 t1 i2 M)
    · exact m_drop (mles_s (mles_s (mles_s mles_0))) (v_C_takeSupervision_102 t0 t1 i2 M)
  · exact m_drop (mles_s (mles_s (mles_s mles_0))) (v_C_takeSupervision_102 t0 t1 i2 M)
def q_C_takeSupervision_33 (t0 : Option Nat) (t1 : Option Nat) (i2 : Int32) (j0 : Int32) (u1 : Option Nat) (M : mM) : Option (Unit × mM) :=
    x_pZ M 2 u1 15 j0 fun M =>
    x_gR M 9 t0 6 fun a1 =>
    x_gI M 1 a1 4 fun x2 =>
    if x2 = 0 then
      if i2 = 0 then
        q_C_takeSupervision_79 t0 t1 i2 M
      else
        x_gI M 2 t1 13 fun x3 =>
        if x3 = 0 then
          q_C_takeSupervision_79 t0 t1 i2 M
        else
          x_pZ M 2 t1 13 (0 : Int32) fun M =>
          x_pI M 2 t1 12 (0 : Int32) fun M =>
          x_pI M 2 t1 11 (0 : Int32) fun M =>
          x_cl (q_C_sayAgain t1 M) fun _ M =>
          q_C_takeSupervision_102 t0 t1 i2 M
    else
      q_C_takeSupervision_79 t0 t1 i2 M
set_option maxRecDepth 20000 in
theorem v_C_takeSupervision_33 {E : mE} (t0 : Option Nat) (t1 : Option Nat) (i2 : Int32) (j0 : Int32) (u1 : Option Nat) (M : mM) : mVr E mi_C_takeSupervision 5 33 [some (.inr t0), some (.inr t1), some (.inl i2)] [.inl j0, .inr u1] M enU (q_C_takeSupervision_33 t0 t1 i2 j0 u1 M) := by
  unfold q_C_takeSupervision_33
  refine m_pZ (d_C_takeSupervision (k := 17) rfl) fp_C_303 (fun h => absurd h (by decide)) rfl (fun M => ?_)
  refine m_aload_n (d_C_takeSupervision (k := 18) rfl) rfl ?_
  refine m_getR (d_C_takeSupervision (k := 19) rfl) fl_C_57 rfl (fun a1 => ?_)
  refine m_getI (d_C_takeSupervision (k := 20) rfl) fl_C_428 rfl (fun x2 => ?_)
  refine m_if_ne (tgt := 79) (d_C_takeSupervision (k := 21) rfl) rfl ?_ ?_
  · refine m_iload_n (d_C_takeSupervision (k := 22) rfl) rfl ?_
    refine m_if_eq (tgt := 79) (d_C_takeSupervision (k := 23) rfl) rfl ?_ ?_
    · exact m_drop (mles_s (mles_s (mles_s mles_0))) (v_C_takeSupervision_79 t0 t1 i2 M)
    · refine m_aload_n (d_C_takeSupervision (k := 24) rfl) rfl ?_
      refine m_getI (d_C_takeSupervision (k := 25) rfl) fl_C_297 rfl (fun x3 => ?_)
      refine m_if_eq (tgt := 79) (d_C_takeSupervision (k := 26) rfl) rfl ?_ ?_
      · exact m_drop (mles_s (mles_s (mles_s mles_0))) (v_C_takeSupervision_79 t0 t1 i2 M)
      · refine m_aload_n (d_C_takeSupervision (k := 27) rfl) rfl ?_
        refine m_iconst (v := 0) (d_C_takeSupervision (k := 28) rfl) (by decide) ?_
        refine m_pZ (d_C_takeSupervision (k := 29) rfl) fp_C_297 (fun h => absurd h (by decide)) rfl (fun M => ?_)
        refine m_aload_n (d_C_takeSupervision (k := 30) rfl) rfl ?_
        refine m_iconst (v := 0) (d_C_takeSupervision (k := 31) rfl) (by decide) ?_
        refine m_pI (d_C_takeSupervision (k := 32) rfl) fp_C_166 (fun h => absurd h (by decide)) rfl (fun M => ?_)
        refine m_aload_n (d_C_takeSupervision (k := 33) rfl) rfl ?_
        refine m_iconst (v := 0) (d_C_takeSupervision (k := 34) rfl) (by decide) ?_
        refine m_pI (d_C_takeSupervision (k := 35) rfl) fp_C_173 (fun h => absurd h (by decide)) rfl (fun M => ?_)
        refine m_aload_n (d_C_takeSupervision (k := 36) rfl) rfl ?_
        refine m_csU (vs := [.inr t1]) (st := []) (d_C_takeSupervision (k := 37) rfl) (s_C_sayAgain t1 M) cd_C_sayAgain ml_C_479 sa_C_sayAgain (by decide) rfl (Nat.le_of_ble_eq_true rfl) (fun _ M => ?_)
        refine m_goto (tgt := 102) (d_C_takeSupervision (k := 38) rfl) rfl ?_
        exact m_drop (mles_s (mles_s (mles_s mles_0))) (v_C_takeSupervision_102 t0 t1 i2 M)
  · exact m_drop (mles_s (mles_s (mles_s mles_0))) (v_C_takeSupervision_79 t0 t1 i2 M)
def q_C_takeSupervision_15 (t0 : Option Nat) (t1 : Option Nat) (j0 : Int32) (M : mM) : Option (Unit × mM) :=
    x_gR M 9 t0 6 fun a1 =>
    x_gI M 1 a1 5 fun x2 =>
    if x2 = (5 : Int32) then
      q_C_takeSupervision_33 t0 t1 j0 (1 : Int32) t1 M
    else
      q_C_takeSupervision_33 t0 t1 j0 (0 : Int32) t1 M
set_option maxRecDepth 20000 in
theorem v_C_takeSupervision_15 {E : mE} (t0 : Option Nat) (t1 : Option Nat) (j0 : Int32) (M : mM) : mVr E mi_C_takeSupervision 5 15 [some (.inr t0), some (.inr t1), none] [.inl j0] M enU (q_C_takeSupervision_15 t0 t1 j0 M) := by
  unfold q_C_takeSupervision_15
  refine m_ist_n (ls' := [some (.inr t0), some (.inr t1), some (.inl j0)]) (d_C_takeSupervision (k := 7) rfl) (by decide) rfl ?_
  refine m_aload_n (d_C_takeSupervision (k := 8) rfl) rfl ?_
  refine m_aload_n (d_C_takeSupervision (k := 9) rfl) rfl ?_
  refine m_getR (d_C_takeSupervision (k := 10) rfl) fl_C_57 rfl (fun a1 => ?_)
  refine m_getI (d_C_takeSupervision (k := 11) rfl) fl_C_406 rfl (fun x2 => ?_)
  refine m_iconst (v := 5) (d_C_takeSupervision (k := 12) rfl) (by decide) ?_
  refine m_icmp_ne (tgt := 32) (d_C_takeSupervision (k := 13) rfl) rfl ?_ ?_
  · refine m_iconst (v := 1) (d_C_takeSupervision (k := 14) rfl) (by decide) ?_
    refine m_goto (tgt := 33) (d_C_takeSupervision (k := 15) rfl) rfl ?_
    exact m_drop (mles_s (mles_s (mles_s mles_0))) (v_C_takeSupervision_33 t0 t1 j0 (1 : Int32) t1 M)
  · refine m_iconst (v := 0) (d_C_takeSupervision (k := 16) rfl) (by decide) ?_
    exact m_drop (mles_s (mles_s (mles_s mles_0))) (v_C_takeSupervision_33 t0 t1 j0 (0 : Int32) t1 M)
def q_C_takeSupervision (t0 : Option Nat) (t1 : Option Nat) (M : mM) : Option (Unit × mM) :=
    x_gR M 9 t0 6 fun a1 =>
    x_gI M 1 a1 6 fun x2 =>
    if x2 = 0 then
      q_C_takeSupervision_15 t0 t1 (0 : Int32) M
    else
      q_C_takeSupervision_15 t0 t1 (1 : Int32) M
set_option maxRecDepth 20000 in
theorem v_C_takeSupervision {E : mE} (t0 : Option Nat) (t1 : Option Nat) (M : mM) : mVr E mi_C_takeSupervision 5 0 [some (.inr t0), some (.inr t1), none] [] M enU (q_C_takeSupervision t0 t1 M) := by
  unfold q_C_takeSupervision
  refine m_aload_n (d_C_takeSupervision (k := 0) rfl) rfl ?_
  refine m_getR (d_C_takeSupervision (k := 1) rfl) fl_C_57 rfl (fun a1 => ?_)
  refine m_getI (d_C_takeSupervision (k := 2) rfl) fl_C_463 rfl (fun x2 => ?_)
  refine m_if_eq (tgt := 14) (d_C_takeSupervision (k := 3) rfl) rfl ?_ ?_
  · refine m_iconst (v := 0) (d_C_takeSupervision (k := 6) rfl) (by decide) ?_
    exact m_drop (mles_s (mles_s (mles_n mles_0))) (v_C_takeSupervision_15 t0 t1 (0 : Int32) M)
  · refine m_iconst (v := 1) (d_C_takeSupervision (k := 4) rfl) (by decide) ?_
    refine m_goto (tgt := 15) (d_C_takeSupervision (k := 5) rfl) rfl ?_
    exact m_drop (mles_s (mles_s (mles_n mles_0))) (v_C_takeSupervision_15 t0 t1 (1 : Int32) M)
theorem s_C_takeSupervision {E : mE} (t0 : Option Nat) (t1 : Option Nat) (M : mM) : mSnd E mi_C_takeSupervision 5 [.inr t0, .inr t1] M enU (q_C_takeSupervision t0 t1 M) := m_entryU (by decide) (Nat.le_of_ble_eq_true rfl) rfl (m_drop (mles_s (mles_s (mles_e mles_0))) (v_C_takeSupervision t0 t1 M))
def dt_C_takeWhileUp : List (Nat × Instr × Nat) := [(0, .aload_n 0, 1), (1, .getfield 57, 3), (4, .getfield 406, 3), (7, .lookupswitch 97 #[(0, 81), (15, 71), (67, 41), (99, 78)], 41), (48, .aload_n 1, 1), (49, .getfield 169, 3), (52, .aload_n 1, 1), (53, .getfield 148, 3), (56, .bipush 99, 2), (58, .aload_n 0, 1), (59, .getfield 57, 3), (62, .getfield 463, 3), (65, .iadd, 1), (66, .iconst 0, 1), (67, .invokestatic 176, 3), (70, .pop, 1), (71, .aload_n 1, 1), (72, .invokevirtual 457, 3), (75, .goto 42, 3), (78, .aload_n 1, 1), (79, .invokevirtual 457, 3), (82, .goto 35, 3), (85, .goto 32, 3), (88, .aload_n 0, 1), (89, .aload_n 1, 1), (90, .invokevirtual 466, 3), (93, .ifCond .eq 24, 3), (96, .aload_n 0, 1), (97, .aload_n 1, 1), (98, .invokevirtual 470, 3), (101, .goto 16, 3), (104, .aload_n 0, 1), (105, .aload_n 1, 1), (106, .invokevirtual 466, 3), (109, .ifCond .eq 8, 3), (112, .aload_n 0, 1), (113, .aload_n 1, 1), (114, .invokevirtual 473, 3), (117, .return_, 1)]
theorem dx_C_takeWhileUp : ∀ p ∈ dt_C_takeWhileUp, decode prog_1_method_45_code p.1 = .ok p.2 := by decide +kernel
theorem d_C_takeWhileUp {k pc : Nat} {i : Instr} {n : Nat} (h : dt_C_takeWhileUp[k]? = some (pc, i, n)) : decode mi_C_takeWhileUp.2.1 pc = .ok (i, n) := dx_C_takeWhileUp (pc, i, n) (List.mem_of_getElem? h)
def q_C_takeWhileUp (t0 : Option Nat) (t1 : Option Nat) (M : mM) : Option (Unit × mM) :=
    x_gR M 9 t0 6 fun a1 =>
    x_gI M 1 a1 5 fun x2 =>
    x_sw x2 [
      ((0 : Int32), (
        x_cv M 9 t0 (q_C_acknowledge t0 t1 M) fun x3 M =>
        if x3 = 0 then
          some ((), M)
        else
          x_cv M 9 t0 (q_C_takeInformation t0 t1 M) fun _ M =>
          some ((), M)
      )),
      ((15 : Int32), (
        x_cv M 2 t1 (q_K_goDown t1 M) fun _ M =>
        some ((), M)
      )),
      ((67 : Int32), (
        x_gR M 2 t1 0 fun a4 =>
        x_gR M 2 t1 2 fun a5 =>
        x_gR M 9 t0 6 fun a6 =>
        x_gI M 1 a6 6 fun x7 =>
        x_cl (q_C_say a4 a5 ((99 : Int32) + x7) (0 : Int32) M) fun a8 M =>
        x_cv M 2 t1 (q_K_goDown t1 M) fun _ M =>
        some ((), M)
      )),
      ((99 : Int32), (
        some ((), M)
      ))
    ] (
      x_cv M 9 t0 (q_C_acknowledge t0 t1 M) fun x9 M =>
      if x9 = 0 then
        some ((), M)
      else
        x_cv M 9 t0 (q_C_takeSupervision t0 t1 M) fun _ M =>
        some ((), M)
    )
set_option maxRecDepth 20000 in
theorem v_C_takeWhileUp {E : mE} (t0 : Option Nat) (t1 : Option Nat) (M : mM) : mVr E mi_C_takeWhileUp 6 0 [some (.inr t0), some (.inr t1)] [] M enU (q_C_takeWhileUp t0 t1 M) := by
  unfold q_C_takeWhileUp
  refine m_aload_n (d_C_takeWhileUp (k := 0) rfl) rfl ?_
  refine m_getR (d_C_takeWhileUp (k := 1) rfl) fl_C_57 rfl (fun a1 => ?_)
  refine m_getI (d_C_takeWhileUp (k := 2) rfl) fl_C_406 rfl (fun x2 => ?_)
  refine m_sw ?_ (fun hx => ?_)
  ·
    refine List.forall_mem_cons.mpr ⟨?_, ?_⟩
    · dsimp only
      refine m_lin (x := (0 : Int32)) (off := 81) (tgt := 88) (d_C_takeWhileUp (k := 3) rfl) (by decide) (by decide) rfl ?_
      refine m_aload_n (d_C_takeWhileUp (k := 23) rfl) rfl ?_
      refine m_aload_n (d_C_takeWhileUp (k := 24) rfl) rfl ?_
      refine m_cvI (c := 9) (vs := [.inr t1]) (st := []) (d_C_takeWhileUp (k := 25) rfl) (s_C_acknowledge t0 t1 M) cd_C_acknowledge ml_C_466 im_C_acknowledge se_C_acknowledge rfl (by decide) rfl (Nat.le_of_ble_eq_true rfl) (fun x3 M => ?_)
      refine m_if_eq (tgt := 117) (d_C_takeWhileUp (k := 26) rfl) rfl ?_ ?_
      · exact m_vret (d_C_takeWhileUp (k := 38) rfl) rfl
      · refine m_aload_n (d_C_takeWhileUp (k := 27) rfl) rfl ?_
        refine m_aload_n (d_C_takeWhileUp (k := 28) rfl) rfl ?_
        refine m_cvU (c := 9) (vs := [.inr t1]) (st := []) (d_C_takeWhileUp (k := 29) rfl) (s_C_takeInformation t0 t1 M) cd_C_takeInformation ml_C_470 im_C_takeInformation se_C_takeInformation rfl (by decide) rfl (Nat.le_of_ble_eq_true rfl) (fun _ M => ?_)
        refine m_goto (tgt := 117) (d_C_takeWhileUp (k := 30) rfl) rfl ?_
        exact m_vret (d_C_takeWhileUp (k := 38) rfl) rfl
    refine List.forall_mem_cons.mpr ⟨?_, ?_⟩
    · dsimp only
      refine m_lin (x := (15 : Int32)) (off := 71) (tgt := 78) (d_C_takeWhileUp (k := 3) rfl) (by decide) (by decide) rfl ?_
      refine m_aload_n (d_C_takeWhileUp (k := 19) rfl) rfl ?_
      refine m_cvU (c := 2) (vs := []) (st := []) (d_C_takeWhileUp (k := 20) rfl) (s_K_goDown t1 M) cd_K_goDown ml_C_457 im_K_goDown se_K_goDown rfl (by decide) rfl (Nat.le_of_ble_eq_true rfl) (fun _ M => ?_)
      refine m_goto (tgt := 117) (d_C_takeWhileUp (k := 21) rfl) rfl ?_
      exact m_vret (d_C_takeWhileUp (k := 38) rfl) rfl
    refine List.forall_mem_cons.mpr ⟨?_, ?_⟩
    · dsimp only
      refine m_lin (x := (67 : Int32)) (off := 41) (tgt := 48) (d_C_takeWhileUp (k := 3) rfl) (by decide) (by decide) rfl ?_
      refine m_aload_n (d_C_takeWhileUp (k := 4) rfl) rfl ?_
      refine m_getR (d_C_takeWhileUp (k := 5) rfl) fl_C_169 rfl (fun a4 => ?_)
      refine m_aload_n (d_C_takeWhileUp (k := 6) rfl) rfl ?_
      refine m_getR (d_C_takeWhileUp (k := 7) rfl) fl_C_148 rfl (fun a5 => ?_)
      refine m_bipush (v := 99) (d_C_takeWhileUp (k := 8) rfl) (by decide) ?_
      refine m_aload_n (d_C_takeWhileUp (k := 9) rfl) rfl ?_
      refine m_getR (d_C_takeWhileUp (k := 10) rfl) fl_C_57 rfl (fun a6 => ?_)
      refine m_getI (d_C_takeWhileUp (k := 11) rfl) fl_C_463 rfl (fun x7 => ?_)
      refine m_iadd (d_C_takeWhileUp (k := 12) rfl) ?_
      refine m_iconst (v := 0) (d_C_takeWhileUp (k := 13) rfl) (by decide) ?_
      refine m_csR (vs := [.inr a4, .inr a5, .inl ((99 : Int32) + x7), .inl (0 : Int32)]) (st := []) (d_C_takeWhileUp (k := 14) rfl) (s_C_say a4 a5 ((99 : Int32) + x7) (0 : Int32) M) cd_C_say ml_C_176 sa_C_say (by decide) rfl (Nat.le_of_ble_eq_true rfl) (fun a8 M => ?_)
      refine m_pop (d_C_takeWhileUp (k := 15) rfl) ?_
      refine m_aload_n (d_C_takeWhileUp (k := 16) rfl) rfl ?_
      refine m_cvU (c := 2) (vs := []) (st := []) (d_C_takeWhileUp (k := 17) rfl) (s_K_goDown t1 M) cd_K_goDown ml_C_457 im_K_goDown se_K_goDown rfl (by decide) rfl (Nat.le_of_ble_eq_true rfl) (fun _ M => ?_)
      refine m_goto (tgt := 117) (d_C_takeWhileUp (k := 18) rfl) rfl ?_
      exact m_vret (d_C_takeWhileUp (k := 38) rfl) rfl
    refine List.forall_mem_cons.mpr ⟨?_, ?_⟩
    · dsimp only
      refine m_lin (x := (99 : Int32)) (off := 78) (tgt := 85) (d_C_takeWhileUp (k := 3) rfl) (by decide) (by decide) rfl ?_
      refine m_goto (tgt := 117) (d_C_takeWhileUp (k := 22) rfl) rfl ?_
      exact m_vret (d_C_takeWhileUp (k := 38) rfl) rfl
    exact fun _ h => absurd h List.not_mem_nil
  · refine m_lout (ks := [0, 15, 67, 99]) (tgt := 104) (d_C_takeWhileUp (k := 3) rfl) (by decide) (m_ks hx) (by decide) rfl ?_
    refine m_aload_n (d_C_takeWhileUp (k := 31) rfl) rfl ?_
    refine m_aload_n (d_C_takeWhileUp (k := 32) rfl) rfl ?_
    refine m_cvI (c := 9) (vs := [.inr t1]) (st := []) (d_C_takeWhileUp (k := 33) rfl) (s_C_acknowledge t0 t1 M) cd_C_acknowledge ml_C_466 im_C_acknowledge se_C_acknowledge rfl (by decide) rfl (Nat.le_of_ble_eq_true rfl) (fun x9 M => ?_)
    refine m_if_eq (tgt := 117) (d_C_takeWhileUp (k := 34) rfl) rfl ?_ ?_
    · exact m_vret (d_C_takeWhileUp (k := 38) rfl) rfl
    · refine m_aload_n (d_C_takeWhileUp (k := 35) rfl) rfl ?_
      refine m_aload_n (d_C_takeWhileUp (k := 36) rfl) rfl ?_
      refine m_cvU (c := 9) (vs := [.inr t1]) (st := []) (d_C_takeWhileUp (k := 37) rfl) (s_C_takeSupervision t0 t1 M) cd_C_takeSupervision ml_C_473 im_C_takeSupervision se_C_takeSupervision rfl (by decide) rfl (Nat.le_of_ble_eq_true rfl) (fun _ M => ?_)
      exact m_vret (d_C_takeWhileUp (k := 38) rfl) rfl
theorem s_C_takeWhileUp {E : mE} (t0 : Option Nat) (t1 : Option Nat) (M : mM) : mSnd E mi_C_takeWhileUp 6 [.inr t0, .inr t1] M enU (q_C_takeWhileUp t0 t1 M) := m_entryU (by decide) (Nat.le_of_ble_eq_true rfl) rfl (m_drop (mles_s (mles_s mles_0)) (v_C_takeWhileUp t0 t1 M))
def dt_C_takeWhileWaiting : List (Nat × Instr × Nat) := [(0, .aload_n 0, 1), (1, .getfield 57, 3), (4, .getfield 406, 3), (7, .istore_n 2, 1), (8, .iload_n 2, 1), (9, .bipush 15, 2), (11, .if_icmp .eq 17, 3), (14, .iload_n 2, 1), (15, .bipush 99, 2), (17, .if_icmp .ne 18, 3), (20, .aload_n 1, 1), (21, .getfield 141, 3), (24, .iconst 3, 1), (25, .if_icmp .ne 10, 3), (28, .aload_n 1, 1), (29, .invokevirtual 457, 3), (32, .goto 64, 3), (35, .iload_n 2, 1), (36, .bipush 99, 2), (38, .if_icmp .ne 21, 3), (41, .aload_n 1, 1), (42, .iconst 2, 1), (43, .invokevirtual 460, 3), (46, .aload_n 1, 1), (47, .iconst 0, 1), (48, .putfield 173, 3), (51, .aload_n 1, 1), (52, .iconst 0, 1), (53, .putfield 166, 3), (56, .goto 40, 3), (59, .iload_n 2, 1), (60, .bipush 67, 2), (62, .if_icmp .ne 34, 3), (65, .aload_n 1, 1), (66, .getfield 141, 3), (69, .iconst 3, 1), (70, .if_icmp .ne 26, 3), (73, .aload_n 1, 1), (74, .getfield 169, 3), (77, .aload_n 1, 1), (78, .getfield 148, 3), (81, .bipush 99, 2), (83, .aload_n 0, 1), (84, .getfield 57, 3), (87, .getfield 463, 3), (90, .iadd, 1), (91, .iconst 0, 1), (92, .invokestatic 176, 3), (95, .pop, 1), (96, .return_, 1)]
theorem dx_C_takeWhileWaiting : ∀ p ∈ dt_C_takeWhileWaiting, decode prog_1_method_44_code p.1 = .ok p.2 := by decide +kernel
theorem d_C_takeWhileWaiting {k pc : Nat} {i : Instr} {n : Nat} (h : dt_C_takeWhileWaiting[k]? = some (pc, i, n)) : decode mi_C_takeWhileWaiting.2.1 pc = .ok (i, n) := dx_C_takeWhileWaiting (pc, i, n) (List.mem_of_getElem? h)
def q_C_takeWhileWaiting_28 (t1 : Option Nat) (M : mM) : Option (Unit × mM) :=
    x_cv M 2 t1 (q_K_goDown t1 M) fun _ M =>
    some ((), M)
set_option maxRecDepth 20000 in
theorem v_C_takeWhileWaiting_28 {E : mE} (t1 : Option Nat) (M : mM) : mVr E mi_C_takeWhileWaiting 3 28 [none, some (.inr t1), none] [] M enU (q_C_takeWhileWaiting_28 t1 M) := by
  unfold q_C_takeWhileWaiting_28
  refine m_aload_n (d_C_takeWhileWaiting (k := 14) rfl) rfl ?_
  refine m_cvU (c := 2) (vs := []) (st := []) (d_C_takeWhileWaiting (k := 15) rfl) (s_K_goDown t1 M) cd_K_goDown ml_C_457 im_K_goDown se_K_goDown rfl (by decide) rfl (Nat.le_of_ble_eq_true rfl) (fun _ M => ?_)
  refine m_goto (tgt := 96) (d_C_takeWhileWaiting (k := 16) rfl) rfl ?_
  exact m_vret (d_C_takeWhileWaiting (k := 49) rfl) rfl
def q_C_takeWhileWaiting_35 (t0 : Option Nat) (t1 : Option Nat) (i2 : Int32) (M : mM) : Option (Unit × mM) :=
    if i2 = (99 : Int32) then
      x_cv M 2 t1 (q_K_enter t1 (2 : Int32) M) fun _ M =>
      x_pI M 2 t1 11 (0 : Int32) fun M =>
      x_pI M 2 t1 12 (0 : Int32) fun M =>
      some ((), M)
    else
      if i2 = (67 : Int32) then
        x_gI M 2 t1 7 fun x1 =>
        if x1 = (3 : Int32) then
          x_gR M 2 t1 0 fun a2 =>
          x_gR M 2 t1 2 fun a3 =>
          x_gR M 9 t0 6 fun a4 =>
          x_gI M 1 a4 6 fun x5 =>
          x_cl (q_C_say a2 a3 ((99 : Int32) + x5) (0 : Int32) M) fun a6 M =>
          some ((), M)
        else
          some ((), M)
      else
        some ((), M)
set_option maxRecDepth 20000 in
theorem v_C_takeWhileWaiting_35 {E : mE} (t0 : Option Nat) (t1 : Option Nat) (i2 : Int32) (M : mM) : mVr E mi_C_takeWhileWaiting 3 35 [some (.inr t0), some (.inr t1), some (.inl i2)] [] M enU (q_C_takeWhileWaiting_35 t0 t1 i2 M) := by
  unfold q_C_takeWhileWaiting_35
  refine m_iload_n (d_C_takeWhileWaiting (k := 17) rfl) rfl ?_
  refine m_bipush (v := 99) (d_C_takeWhileWaiting (k := 18) rfl) (by decide) ?_
  refine m_icmp_ne (tgt := 59) (d_C_takeWhileWaiting (k := 19) rfl) rfl ?_ ?_
  · refine m_aload_n (d_C_takeWhileWaiting (k := 20) rfl) rfl ?_
    refine m_iconst (v := 2) (d_C_takeWhileWaiting (k := 21) rfl) (by decide) ?_
    refine m_cvU (c := 2) (vs := [.inl (2 : Int32)]) (st := []) (d_C_takeWhileWaiting (k := 22) rfl) (s_K_enter t1 (2 : Int32) M) cd_K_enter ml_C_460 im_K_enter se_K_enter rfl (by decide) rfl (Nat.le_of_ble_eq_true rfl) (fun _ M => ?_)
    refine m_aload_n (d_C_takeWhileWaiting (k := 23) rfl) rfl ?_
    refine m_iconst (v := 0) (d_C_takeWhileWaiting (k := 24) rfl) (by decide) ?_
    refine m_pI (d_C_takeWhileWaiting (k := 25) rfl) fp_C_173 (fun h => absurd h (by decide)) rfl (fun M => ?_)
    refine m_aload_n (d_C_takeWhileWaiting (k := 26) rfl) rfl ?_
    refine m_iconst (v := 0) (d_C_takeWhileWaiting (k := 27) rfl) (by decide) ?_
    refine m_pI (d_C_takeWhileWaiting (k := 28) rfl) fp_C_166 (fun h => absurd h (by decide)) rfl (fun M => ?_)
    refine m_goto (tgt := 96) (d_C_takeWhileWaiting (k := 29) rfl) rfl ?_
    exact m_vret (d_C_takeWhileWaiting (k := 49) rfl) rfl
  · refine m_iload_n (d_C_takeWhileWaiting (k := 30) rfl) rfl ?_
    refine m_bipush (v := 67) (d_C_takeWhileWaiting (k := 31) rfl) (by decide) ?_
    refine m_icmp_ne (tgt := 96) (d_C_takeWhileWaiting (k := 32) rfl) rfl ?_ ?_
    · refine m_aload_n (d_C_takeWhileWaiting (k := 33) rfl) rfl ?_
      refine m_getI (d_C_takeWhileWaiting (k := 34) rfl) fl_C_141 rfl (fun x1 => ?_)
      refine m_iconst (v := 3) (d_C_takeWhileWaiting (k := 35) rfl) (by decide) ?_
      refine m_icmp_ne (tgt := 96) (d_C_takeWhileWaiting (k := 36) rfl) rfl ?_ ?_
      · refine m_aload_n (d_C_takeWhileWaiting (k := 37) rfl) rfl ?_
        refine m_getR (d_C_takeWhileWaiting (k := 38) rfl) fl_C_169 rfl (fun a2 => ?_)
        refine m_aload_n (d_C_takeWhileWaiting (k := 39) rfl) rfl ?_
        refine m_getR (d_C_takeWhileWaiting (k := 40) rfl) fl_C_148 rfl (fun a3 => ?_)
        refine m_bipush (v := 99) (d_C_takeWhileWaiting (k := 41) rfl) (by decide) ?_
        refine m_aload_n (d_C_takeWhileWaiting (k := 42) rfl) rfl ?_
        refine m_getR (d_C_takeWhileWaiting (k := 43) rfl) fl_C_57 rfl (fun a4 => ?_)
        refine m_getI (d_C_takeWhileWaiting (k := 44) rfl) fl_C_463 rfl (fun x5 => ?_)
        refine m_iadd (d_C_takeWhileWaiting (k := 45) rfl) ?_
        refine m_iconst (v := 0) (d_C_takeWhileWaiting (k := 46) rfl) (by decide) ?_
        refine m_csR (vs := [.inr a2, .inr a3, .inl ((99 : Int32) + x5), .inl (0 : Int32)]) (st := []) (d_C_takeWhileWaiting (k := 47) rfl) (s_C_say a2 a3 ((99 : Int32) + x5) (0 : Int32) M) cd_C_say ml_C_176 sa_C_say (by decide) rfl (Nat.le_of_ble_eq_true rfl) (fun a6 M => ?_)
        refine m_pop (d_C_takeWhileWaiting (k := 48) rfl) ?_
        exact m_vret (d_C_takeWhileWaiting (k := 49) rfl) rfl
      · exact m_vret (d_C_takeWhileWaiting (k := 49) rfl) rfl
    · exact m_vret (d_C_takeWhileWaiting (k := 49) rfl) rfl
def q_C_takeWhileWaiting (t0 : Option Nat) (t1 : Option Nat) (M : mM) : Option (Unit × mM) :=
    x_gR M 9 t0 6 fun a1 =>
    x_gI M 1 a1 5 fun x2 =>
    if x2 = (15 : Int32) then
      q_C_takeWhileWaiting_28 t1 M
    else
      if x2 = (99 : Int32) then
        x_gI M 2 t1 7 fun x3 =>
        if x3 = (3 : Int32) then
          q_C_takeWhileWaiting_28 t1 M
        else
          q_C_takeWhileWaiting_35 t0 t1 x2 M
      else
        q_C_takeWhileWaiting_35 t0 t1 x2 M
set_option maxRecDepth 20000 in
theorem v_C_takeWhileWaiting {E : mE} (t0 : Option Nat) (t1 : Option Nat) (M : mM) : mVr E mi_C_takeWhileWaiting 3 0 [some (.inr t0), some (.inr t1), none] [] M enU (q_C_takeWhileWaiting t0 t1 M) := by
  unfold q_C_takeWhileWaiting
  refine m_aload_n (d_C_takeWhileWaiting (k := 0) rfl) rfl ?_
  refine m_getR (d_C_takeWhileWaiting (k := 1) rfl) fl_C_57 rfl (fun a1 => ?_)
  refine m_getI (d_C_takeWhileWaiting (k := 2) rfl) fl_C_406 rfl (fun x2 => ?_)
  refine m_ist_n (ls' := [some (.inr t0), some (.inr t1), some (.inl x2)]) (d_C_takeWhileWaiting (k := 3) rfl) (by decide) rfl ?_
  refine m_iload_n (d_C_takeWhileWaiting (k := 4) rfl) rfl ?_
  refine m_bipush (v := 15) (d_C_takeWhileWaiting (k := 5) rfl) (by decide) ?_
  refine m_icmp_eq (tgt := 28) (d_C_takeWhileWaiting (k := 6) rfl) rfl ?_ ?_
  · exact m_drop (mles_n (mles_s (mles_n mles_0))) (v_C_takeWhileWaiting_28 t1 M)
  · refine m_iload_n (d_C_takeWhileWaiting (k := 7) rfl) rfl ?_
    refine m_bipush (v := 99) (d_C_takeWhileWaiting (k := 8) rfl) (by decide) ?_
    refine m_icmp_ne (tgt := 35) (d_C_takeWhileWaiting (k := 9) rfl) rfl ?_ ?_
    · refine m_aload_n (d_C_takeWhileWaiting (k := 10) rfl) rfl ?_
      refine m_getI (d_C_takeWhileWaiting (k := 11) rfl) fl_C_141 rfl (fun x3 => ?_)
      refine m_iconst (v := 3) (d_C_takeWhileWaiting (k := 12) rfl) (by decide) ?_
      refine m_icmp_ne (tgt := 35) (d_C_takeWhileWaiting (k := 13) rfl) rfl ?_ ?_
      · exact m_drop (mles_n (mles_s (mles_n mles_0))) (v_C_takeWhileWaiting_28 t1 M)
      · exact m_drop (mles_s (mles_s (mles_s mles_0))) (v_C_takeWhileWaiting_35 t0 t1 x2 M)
    · exact m_drop (mles_s (mles_s (mles_s mles_0))) (v_C_takeWhileWaiting_35 t0 t1 x2 M)
theorem s_C_takeWhileWaiting {E : mE} (t0 : Option Nat) (t1 : Option Nat) (M : mM) : mSnd E mi_C_takeWhileWaiting 3 [.inr t0, .inr t1] M enU (q_C_takeWhileWaiting t0 t1 M) := m_entryU (by decide) (Nat.le_of_ble_eq_true rfl) rfl (m_drop (mles_s (mles_s (mles_e mles_0))) (v_C_takeWhileWaiting t0 t1 M))
def dt_F_readAddresses : List (Nat × Instr × Nat) := [(0, .iconst 0, 1), (1, .istore_n 2, 1), (2, .iconst 0, 1), (3, .istore_n 3, 1), (4, .aload_n 0, 1), (5, .iconst 0, 1), (6, .putfield 25, 3), (9, .aload_n 0, 1), (10, .iconst (-1), 1), (11, .putfield 48, 3), (14, .iconst 0, 1), (15, .istore 4, 2), (17, .iload 4, 2), (19, .iconst 4, 1), (20, .if_icmp .ge 135, 3), (23, .iload_n 3, 1), (24, .ifCond .ne 131, 3), (27, .aload_n 0, 1), (28, .aload_n 1, 1), (29, .bipush 7, 2), (31, .iload 4, 2), (33, .imul, 1), (34, .invokevirtual 51, 3), (37, .istore 5, 2), (39, .iload 5, 2), (41, .iconst (-1), 1), (42, .if_icmp .eq 24, 3), (45, .iload 5, 2), (47, .bipush 6, 2), (49, .if_icmp .ne 8, 3), (52, .iload 4, 2), (54, .ifCond .gt 12, 3), (57, .iload_n 2, 1), (58, .iload 5, 2), (60, .ishr, 1), (61, .iconst 1, 1), (62, .iand, 1), (63, .ifCond .eq 5, 3), (66, .iconst 0, 1), (67, .ireturn, 1), (68, .iload_n 2, 1), (69, .iconst 1, 1), (70, .iload 5, 2), (72, .ishl, 1), (73, .ior, 1), (74, .istore_n 2, 1), (75, .aload_n 1, 1), (76, .bipush 7, 2), (78, .iload 4, 2), (80, .imul, 1), (81, .bipush 6, 2), (83, .iadd, 1), (84, .invokevirtual 29, 3), (87, .iconst 1, 1), (88, .iand, 1), (89, .ifCond .eq 7, 3), (92, .iconst 1, 1), (93, .goto 4, 3), (96, .iconst 0, 1), (97, .istore_n 3, 1), (98, .aload_n 0, 1), (99, .dup, 1), (100, .getfield 25, 3), (103, .iconst 1, 1), (104, .iadd, 1), (105, .putfield 25, 3), (108, .iload 4, 2), (110, .iconst 2, 1), (111, .if_icmp .lt 38, 3), (114, .aload_n 0, 1), (115, .getfield 48, 3), (118, .iconst (-1), 1), (119, .if_icmp .ne 30, 3), (122, .aload_n 1, 1), (123, .bipush 7, 2), (125, .iload 4, 2), (127, .imul, 1), (128, .bipush 6, 2), (130, .iadd, 1), (131, .invokevirtual 29, 3), (134, .sipush 128, 3), (137, .if_icmp .ge 12, 3), (140, .aload_n 0, 1), (141, .bipush 7, 2), (143, .iload 4, 2), (145, .imul, 1), (146, .putfield 48, 3), (149, .iinc 4 1, 3), (152, .goto (-135), 3), (155, .iload_n 3, 1), (156, .ifCond .eq 15, 3), (159, .aload_n 0, 1), (160, .getfield 25, 3), (163, .iconst 2, 1), (164, .if_icmp .lt 7, 3), (167, .iconst 1, 1), (168, .goto 4, 3), (171, .iconst 0, 1), (172, .ireturn, 1)]
theorem dx_F_readAddresses : ∀ p ∈ dt_F_readAddresses, decode prog_3_method_3_code p.1 = .ok p.2 := by decide +kernel
theorem d_F_readAddresses {k pc : Nat} {i : Instr} {n : Nat} (h : dt_F_readAddresses[k]? = some (pc, i, n)) : decode mi_F_readAddresses.2.1 pc = .ok (i, n) := dx_F_readAddresses (pc, i, n) (List.mem_of_getElem? h)
def q_F_readAddresses_149 (r17 : Option Nat → Option Nat → Int32 → Int32 → Int32 → mM → Option (Int32 × mM)) (t0 : Option Nat) (t1 : Option Nat) (i2 : Int32) (i3 : Int32) (i4 : Int32) (M : mM) : Option (Int32 × mM) :=
    r17 t0 t1 i2 i3 (i4 + 1) M
set_option maxRecDepth 20000 in
theorem v_F_readAddresses_149 {E : mE} (r17 : Option Nat → Option Nat → Int32 → Int32 → Int32 → mM → Option (Int32 × mM)) (h17 : ∀ (t0 : Option Nat) (t1 : Option Nat) (i2 : Int32) (i3 : Int32) (i4 : Int32) (M : mM), mVr E mi_F_readAddresses 2 17 [some (.inr t0), some (.inr t1), some (.inl i2), some (.inl i3), some (.inl i4), none] [] M enI (r17 t0 t1 i2 i3 i4 M)) (t0 : Option Nat) (t1 : Option Nat) (i2 : Int32) (i3 : Int32) (i4 : Int32) (M : mM) : mVr E mi_F_readAddresses 2 149 [some (.inr t0), some (.inr t1), some (.inl i2), some (.inl i3), some (.inl i4), none] [] M enI (q_F_readAddresses_149 r17 t0 t1 i2 i3 i4 M) := by
  unfold q_F_readAddresses_149
  refine m_inc (v := 1) (ls' := [some (.inr t0), some (.inr t1), some (.inl i2), some (.inl i3), some (.inl (i4 + 1)), none]) (d_F_readAddresses (k := 87) rfl) rfl (by decide) (by decide) rfl ?_
  refine m_goto (tgt := 17) (d_F_readAddresses (k := 88) rfl) rfl ?_
  exact m_drop (mles_s (mles_s (mles_s (mles_s (mles_s (mles_n mles_0)))))) (h17 t0 t1 i2 i3 (i4 + 1) M)
def q_F_readAddresses_97 (r17 : Option Nat → Option Nat → Int32 → Int32 → Int32 → mM → Option (Int32 × mM)) (t0 : Option Nat) (t1 : Option Nat) (i2 : Int32) (i4 : Int32) (j0 : Int32) (M : mM) : Option (Int32 × mM) :=
    x_gI M 1 t0 2 fun x1 =>
    x_pI M 1 t0 2 (x1 + (1 : Int32)) fun M =>
    if i4 < (2 : Int32) then
      q_F_readAddresses_149 r17 t0 t1 i2 j0 i4 M
    else
      x_gI M 1 t0 3 fun x2 =>
      if x2 = (-1 : Int32) then
        x_cv M 0 t1 (q_B_at t1 (((7 : Int32) * i4) + (6 : Int32)) M) fun x3 M =>
        if x3 < (128 : Int32) then
          x_pI M 1 t0 3 ((7 : Int32) * i4) fun M =>
          q_F_readAddresses_149 r17 t0 t1 i2 j0 i4 M
        else
          q_F_readAddresses_149 r17 t0 t1 i2 j0 i4 M
      else
        q_F_readAddresses_149 r17 t0 t1 i2 j0 i4 M
set_option maxRecDepth 20000 in
theorem v_F_readAddresses_97 {E : mE} (r17 : Option Nat → Option Nat → Int32 → Int32 → Int32 → mM → Option (Int32 × mM)) (h17 : ∀ (t0 : Option Nat) (t1 : Option Nat) (i2 : Int32) (i3 : Int32) (i4 : Int32) (M : mM), mVr E mi_F_readAddresses 2 17 [some (.inr t0), some (.inr t1), some (.inl i2), some (.inl i3), some (.inl i4), none] [] M enI (r17 t0 t1 i2 i3 i4 M)) (t0 : Option Nat) (t1 : Option Nat) (i2 : Int32) (i4 : Int32) (j0 : Int32) (M : mM) : mVr E mi_F_readAddresses 2 97 [some (.inr t0), some (.inr t1), some (.inl i2), none, some (.inl i4), none] [.inl j0] M enI (q_F_readAddresses_97 r17 t0 t1 i2 i4 j0 M) := by
  unfold q_F_readAddresses_97
  refine m_ist_n (ls' := [some (.inr t0), some (.inr t1), some (.inl i2), some (.inl j0), some (.inl i4), none]) (d_F_readAddresses (k := 59) rfl) (by decide) rfl ?_
  refine m_aload_n (d_F_readAddresses (k := 60) rfl) rfl ?_
  refine m_dup (d_F_readAddresses (k := 61) rfl) ?_
  refine m_getI (d_F_readAddresses (k := 62) rfl) fl_F_25 rfl (fun x1 => ?_)
  refine m_iconst (v := 1) (d_F_readAddresses (k := 63) rfl) (by decide) ?_
  refine m_iadd (d_F_readAddresses (k := 64) rfl) ?_
  refine m_pI (d_F_readAddresses (k := 65) rfl) fp_F_25 (fun h => absurd h (by decide)) rfl (fun M => ?_)
  refine m_iload (d_F_readAddresses (k := 66) rfl) rfl ?_
  refine m_iconst (v := 2) (d_F_readAddresses (k := 67) rfl) (by decide) ?_
  refine m_icmp_lt (tgt := 149) (d_F_readAddresses (k := 68) rfl) rfl ?_ ?_
  · exact m_drop (mles_s (mles_s (mles_s (mles_s (mles_s (mles_n mles_0)))))) (v_F_readAddresses_149 r17 h17 t0 t1 i2 j0 i4 M)
  · refine m_aload_n (d_F_readAddresses (k := 69) rfl) rfl ?_
    refine m_getI (d_F_readAddresses (k := 70) rfl) fl_F_48 rfl (fun x2 => ?_)
    refine m_iconst (v := (-1)) (d_F_readAddresses (k := 71) rfl) (by decide) ?_
    refine m_icmp_ne (tgt := 149) (d_F_readAddresses (k := 72) rfl) rfl ?_ ?_
    · refine m_aload_n (d_F_readAddresses (k := 73) rfl) rfl ?_
      refine m_bipush (v := 7) (d_F_readAddresses (k := 74) rfl) (by decide) ?_
      refine m_iload (d_F_readAddresses (k := 75) rfl) rfl ?_
      refine m_imul (d_F_readAddresses (k := 76) rfl) ?_
      refine m_bipush (v := 6) (d_F_readAddresses (k := 77) rfl) (by decide) ?_
      refine m_iadd (d_F_readAddresses (k := 78) rfl) ?_
      refine m_cvI (c := 0) (vs := [.inl (((7 : Int32) * i4) + (6 : Int32))]) (st := []) (d_F_readAddresses (k := 79) rfl) (s_B_at t1 (((7 : Int32) * i4) + (6 : Int32)) M) cd_B_at ml_F_29 im_B_at se_B_at rfl (by decide) rfl (Nat.le_of_ble_eq_true rfl) (fun x3 M => ?_)
      refine m_sipush (v := 128) (d_F_readAddresses (k := 80) rfl) (by decide) ?_
      refine m_icmp_ge (tgt := 149) (d_F_readAddresses (k := 81) rfl) rfl ?_ ?_
      · refine m_aload_n (d_F_readAddresses (k := 82) rfl) rfl ?_
        refine m_bipush (v := 7) (d_F_readAddresses (k := 83) rfl) (by decide) ?_
        refine m_iload (d_F_readAddresses (k := 84) rfl) rfl ?_
        refine m_imul (d_F_readAddresses (k := 85) rfl) ?_
        refine m_pI (d_F_readAddresses (k := 86) rfl) fp_F_48 (fun h => absurd h (by decide)) rfl (fun M => ?_)
        exact m_drop (mles_s (mles_s (mles_s (mles_s (mles_s (mles_n mles_0)))))) (v_F_readAddresses_149 r17 h17 t0 t1 i2 j0 i4 M)
      · exact m_drop (mles_s (mles_s (mles_s (mles_s (mles_s (mles_n mles_0)))))) (v_F_readAddresses_149 r17 h17 t0 t1 i2 j0 i4 M)
    · exact m_drop (mles_s (mles_s (mles_s (mles_s (mles_s (mles_n mles_0)))))) (v_F_readAddresses_149 r17 h17 t0 t1 i2 j0 i4 M)
def q_F_readAddresses_57 (r17 : Option Nat → Option Nat → Int32 → Int32 → Int32 → mM → Option (Int32 × mM)) (t0 : Option Nat) (t1 : Option Nat) (i2 : Int32) (i4 : Int32) (i5 : Int32) (M : mM) : Option (Int32 × mM) :=
    if ((i2 >>> (i5 &&& 31)) &&& (1 : Int32)) = 0 then
      x_lt (i2 ||| ((1 : Int32) <<< (i5 &&& 31))) fun x1 =>
      x_cv M 0 t1 (q_B_at t1 (((7 : Int32) * i4) + (6 : Int32)) M) fun x2 M =>
      if (x2 &&& (1 : Int32)) = 0 then
        q_F_readAddresses_97 r17 t0 t1 x1 i4 (0 : Int32) M
      else
        q_F_readAddresses_97 r17 t0 t1 x1 i4 (1 : Int32) M
    else
      x_rz (0 : Int32) M
set_option maxRecDepth 20000 in
theorem v_F_readAddresses_57 {E : mE} (r17 : Option Nat → Option Nat → Int32 → Int32 → Int32 → mM → Option (Int32 × mM)) (h17 : ∀ (t0 : Option Nat) (t1 : Option Nat) (i2 : Int32) (i3 : Int32) (i4 : Int32) (M : mM), mVr E mi_F_readAddresses 2 17 [some (.inr t0), some (.inr t1), some (.inl i2), some (.inl i3), some (.inl i4), none] [] M enI (r17 t0 t1 i2 i3 i4 M)) (t0 : Option Nat) (t1 : Option Nat) (i2 : Int32) (i4 : Int32) (i5 : Int32) (M : mM) : mVr E mi_F_readAddresses 2 57 [some (.inr t0), some (.inr t1), some (.inl i2), none, some (.inl i4), some (.inl i5)] [] M enI (q_F_readAddresses_57 r17 t0 t1 i2 i4 i5 M) := by
  unfold q_F_readAddresses_57
  refine m_iload_n (d_F_readAddresses (k := 32) rfl) rfl ?_
  refine m_iload (d_F_readAddresses (k := 33) rfl) rfl ?_
  refine m_ishr (d_F_readAddresses (k := 34) rfl) ?_
  refine m_iconst (v := 1) (d_F_readAddresses (k := 35) rfl) (by decide) ?_
  refine m_iand (d_F_readAddresses (k := 36) rfl) ?_
  refine m_if_eq (tgt := 68) (d_F_readAddresses (k := 37) rfl) rfl ?_ ?_
  · refine m_iload_n (d_F_readAddresses (k := 40) rfl) rfl ?_
    refine m_iconst (v := 1) (d_F_readAddresses (k := 41) rfl) (by decide) ?_
    refine m_iload (d_F_readAddresses (k := 42) rfl) rfl ?_
    refine m_ishl (d_F_readAddresses (k := 43) rfl) ?_
    refine m_ior (d_F_readAddresses (k := 44) rfl) ?_
    refine m_lt (fun x1 => ?_)
    refine m_ist_n (ls' := [some (.inr t0), some (.inr t1), some (.inl x1), none, some (.inl i4), some (.inl i5)]) (d_F_readAddresses (k := 45) rfl) (by decide) rfl ?_
    refine m_aload_n (d_F_readAddresses (k := 46) rfl) rfl ?_
    refine m_bipush (v := 7) (d_F_readAddresses (k := 47) rfl) (by decide) ?_
    refine m_iload (d_F_readAddresses (k := 48) rfl) rfl ?_
    refine m_imul (d_F_readAddresses (k := 49) rfl) ?_
    refine m_bipush (v := 6) (d_F_readAddresses (k := 50) rfl) (by decide) ?_
    refine m_iadd (d_F_readAddresses (k := 51) rfl) ?_
    refine m_cvI (c := 0) (vs := [.inl (((7 : Int32) * i4) + (6 : Int32))]) (st := []) (d_F_readAddresses (k := 52) rfl) (s_B_at t1 (((7 : Int32) * i4) + (6 : Int32)) M) cd_B_at ml_F_29 im_B_at se_B_at rfl (by decide) rfl (Nat.le_of_ble_eq_true rfl) (fun x2 M => ?_)
    refine m_iconst (v := 1) (d_F_readAddresses (k := 53) rfl) (by decide) ?_
    refine m_iand (d_F_readAddresses (k := 54) rfl) ?_
    refine m_if_eq (tgt := 96) (d_F_readAddresses (k := 55) rfl) rfl ?_ ?_
    · refine m_iconst (v := 0) (d_F_readAddresses (k := 58) rfl) (by decide) ?_
      exact m_drop (mles_s (mles_s (mles_s (mles_n (mles_s (mles_n mles_0)))))) (v_F_readAddresses_97 r17 h17 t0 t1 x1 i4 (0 : Int32) M)
    · refine m_iconst (v := 1) (d_F_readAddresses (k := 56) rfl) (by decide) ?_
      refine m_goto (tgt := 97) (d_F_readAddresses (k := 57) rfl) rfl ?_
      exact m_drop (mles_s (mles_s (mles_s (mles_n (mles_s (mles_n mles_0)))))) (v_F_readAddresses_97 r17 h17 t0 t1 x1 i4 (1 : Int32) M)
  · refine m_iconst (v := 0) (d_F_readAddresses (k := 38) rfl) (by decide) ?_
    exact m_zret (d_F_readAddresses (k := 39) rfl) rfl
def q_F_readAddresses_155 (t0 : Option Nat) (i3 : Int32) (M : mM) : Option (Int32 × mM) :=
    if i3 = 0 then
      x_rz (0 : Int32) M
    else
      x_gI M 1 t0 2 fun x1 =>
      if x1 < (2 : Int32) then
        x_rz (0 : Int32) M
      else
        x_rz (1 : Int32) M
set_option maxRecDepth 20000 in
theorem v_F_readAddresses_155 {E : mE} (t0 : Option Nat) (i3 : Int32) (M : mM) : mVr E mi_F_readAddresses 2 155 [some (.inr t0), none, none, some (.inl i3), none, none] [] M enI (q_F_readAddresses_155 t0 i3 M) := by
  unfold q_F_readAddresses_155
  refine m_iload_n (d_F_readAddresses (k := 89) rfl) rfl ?_
  refine m_if_eq (tgt := 171) (d_F_readAddresses (k := 90) rfl) rfl ?_ ?_
  · refine m_iconst (v := 0) (d_F_readAddresses (k := 97) rfl) (by decide) ?_
    exact m_zret (d_F_readAddresses (k := 98) rfl) rfl
  · refine m_aload_n (d_F_readAddresses (k := 91) rfl) rfl ?_
    refine m_getI (d_F_readAddresses (k := 92) rfl) fl_F_25 rfl (fun x1 => ?_)
    refine m_iconst (v := 2) (d_F_readAddresses (k := 93) rfl) (by decide) ?_
    refine m_icmp_lt (tgt := 171) (d_F_readAddresses (k := 94) rfl) rfl ?_ ?_
    · refine m_iconst (v := 0) (d_F_readAddresses (k := 97) rfl) (by decide) ?_
      exact m_zret (d_F_readAddresses (k := 98) rfl) rfl
    · refine m_iconst (v := 1) (d_F_readAddresses (k := 95) rfl) (by decide) ?_
      refine m_goto (tgt := 172) (d_F_readAddresses (k := 96) rfl) rfl ?_
      exact m_zret (d_F_readAddresses (k := 98) rfl) rfl
def q_F_readAddresses_17_b (r17 : Option Nat → Option Nat → Int32 → Int32 → Int32 → mM → Option (Int32 × mM)) (t0 : Option Nat) (t1 : Option Nat) (i2 : Int32) (i3 : Int32) (i4 : Int32) (M : mM) : Option (Int32 × mM) :=
    if i4 < (4 : Int32) then
      if i3 = 0 then
        x_cv M 1 t0 (q_F_addressAt t0 t1 ((7 : Int32) * i4) M) fun x1 M =>
        if x1 = (-1 : Int32) then
          x_rz (0 : Int32) M
        else
          if x1 = (6 : Int32) then
            if 0 < i4 then
              x_rz (0 : Int32) M
            else
              q_F_readAddresses_57 r17 t0 t1 i2 i4 x1 M
          else
            q_F_readAddresses_57 r17 t0 t1 i2 i4 x1 M
      else
        q_F_readAddresses_155 t0 i3 M
    else
      q_F_readAddresses_155 t0 i3 M
def q_F_readAddresses_17 : Nat → Option Nat → Option Nat → Int32 → Int32 → Int32 → mM → Option (Int32 × mM)
  | 0, _, _, _, _, _, _ => none
  | n + 1, t0, t1, i2, i3, i4, M => q_F_readAddresses_17_b (q_F_readAddresses_17 n) t0 t1 i2 i3 i4 M
set_option maxRecDepth 20000 in
theorem v_F_readAddresses_17_b {E : mE} (r17 : Option Nat → Option Nat → Int32 → Int32 → Int32 → mM → Option (Int32 × mM)) (h17 : ∀ (t0 : Option Nat) (t1 : Option Nat) (i2 : Int32) (i3 : Int32) (i4 : Int32) (M : mM), mVr E mi_F_readAddresses 2 17 [some (.inr t0), some (.inr t1), some (.inl i2), some (.inl i3), some (.inl i4), none] [] M enI (r17 t0 t1 i2 i3 i4 M)) (t0 : Option Nat) (t1 : Option Nat) (i2 : Int32) (i3 : Int32) (i4 : Int32) (M : mM) : mVr E mi_F_readAddresses 2 17 [some (.inr t0), some (.inr t1), some (.inl i2), some (.inl i3), some (.inl i4), none] [] M enI (q_F_readAddresses_17_b r17 t0 t1 i2 i3 i4 M) := by
  unfold q_F_readAddresses_17_b
  refine m_iload (d_F_readAddresses (k := 12) rfl) rfl ?_
  refine m_iconst (v := 4) (d_F_readAddresses (k := 13) rfl) (by decide) ?_
  refine m_icmp_ge (tgt := 155) (d_F_readAddresses (k := 14) rfl) rfl ?_ ?_
  · refine m_iload_n (d_F_readAddresses (k := 15) rfl) rfl ?_
    refine m_if_ne (tgt := 155) (d_F_readAddresses (k := 16) rfl) rfl ?_ ?_
    · refine m_aload_n (d_F_readAddresses (k := 17) rfl) rfl ?_
      refine m_aload_n (d_F_readAddresses (k := 18) rfl) rfl ?_
      refine m_bipush (v := 7) (d_F_readAddresses (k := 19) rfl) (by decide) ?_
      refine m_iload (d_F_readAddresses (k := 20) rfl) rfl ?_
      refine m_imul (d_F_readAddresses (k := 21) rfl) ?_
      refine m_cvI (c := 1) (vs := [.inr t1, .inl ((7 : Int32) * i4)]) (st := []) (d_F_readAddresses (k := 22) rfl) (s_F_addressAt t0 t1 ((7 : Int32) * i4) M) cd_F_addressAt ml_F_51 im_F_addressAt se_F_addressAt rfl (by decide) rfl (Nat.le_of_ble_eq_true rfl) (fun x1 M => ?_)
      refine m_ist (ls' := [some (.inr t0), some (.inr t1), some (.inl i2), some (.inl i3), some (.inl i4), some (.inl x1)]) (d_F_readAddresses (k := 23) rfl) (by decide) rfl ?_
      refine m_iload (d_F_readAddresses (k := 24) rfl) rfl ?_
      refine m_iconst (v := (-1)) (d_F_readAddresses (k := 25) rfl) (by decide) ?_
      refine m_icmp_eq (tgt := 66) (d_F_readAddresses (k := 26) rfl) rfl ?_ ?_
      · refine m_iconst (v := 0) (d_F_readAddresses (k := 38) rfl) (by decide) ?_
        exact m_zret (d_F_readAddresses (k := 39) rfl) rfl
      · refine m_iload (d_F_readAddresses (k := 27) rfl) rfl ?_
        refine m_bipush (v := 6) (d_F_readAddresses (k := 28) rfl) (by decide) ?_
        refine m_icmp_ne (tgt := 57) (d_F_readAddresses (k := 29) rfl) rfl ?_ ?_
        · refine m_iload (d_F_readAddresses (k := 30) rfl) rfl ?_
          refine m_if_gt (tgt := 66) (d_F_readAddresses (k := 31) rfl) rfl ?_ ?_
          · refine m_iconst (v := 0) (d_F_readAddresses (k := 38) rfl) (by decide) ?_
            exact m_zret (d_F_readAddresses (k := 39) rfl) rfl
          · exact m_drop (mles_s (mles_s (mles_s (mles_n (mles_s (mles_s mles_0)))))) (v_F_readAddresses_57 r17 h17 t0 t1 i2 i4 x1 M)
        · exact m_drop (mles_s (mles_s (mles_s (mles_n (mles_s (mles_s mles_0)))))) (v_F_readAddresses_57 r17 h17 t0 t1 i2 i4 x1 M)
    · exact m_drop (mles_s (mles_n (mles_n (mles_s (mles_n (mles_n mles_0)))))) (v_F_readAddresses_155 t0 i3 M)
  · exact m_drop (mles_s (mles_n (mles_n (mles_s (mles_n (mles_n mles_0)))))) (v_F_readAddresses_155 t0 i3 M)
theorem v_F_readAddresses_17 {E : mE} : ∀ (n : Nat) (t0 : Option Nat) (t1 : Option Nat) (i2 : Int32) (i3 : Int32) (i4 : Int32) (M : mM), mVr E mi_F_readAddresses 2 17 [some (.inr t0), some (.inr t1), some (.inl i2), some (.inl i3), some (.inl i4), none] [] M enI (q_F_readAddresses_17 n t0 t1 i2 i3 i4 M)
  | 0, _, _, _, _, _, _ => m_none
  | n + 1, t0, t1, i2, i3, i4, M => v_F_readAddresses_17_b _ (v_F_readAddresses_17 n) t0 t1 i2 i3 i4 M
def q_F_readAddresses (t0 : Option Nat) (t1 : Option Nat) (M : mM) : Option (Int32 × mM) :=
    x_pI M 1 t0 2 (0 : Int32) fun M =>
    x_pI M 1 t0 3 (-1 : Int32) fun M =>
    q_F_readAddresses_17 mFU t0 t1 (0 : Int32) (0 : Int32) (0 : Int32) M
set_option maxRecDepth 20000 in
theorem v_F_readAddresses {E : mE} (t0 : Option Nat) (t1 : Option Nat) (M : mM) : mVr E mi_F_readAddresses 2 0 [some (.inr t0), some (.inr t1), none, none, none, none] [] M enI (q_F_readAddresses t0 t1 M) := by
  unfold q_F_readAddresses
  refine m_iconst (v := 0) (d_F_readAddresses (k := 0) rfl) (by decide) ?_
  refine m_ist_n (ls' := [some (.inr t0), some (.inr t1), some (.inl (0 : Int32)), none, none, none]) (d_F_readAddresses (k := 1) rfl) (by decide) rfl ?_
  refine m_iconst (v := 0) (d_F_readAddresses (k := 2) rfl) (by decide) ?_
  refine m_ist_n (ls' := [some (.inr t0), some (.inr t1), some (.inl (0 : Int32)), some (.inl (0 : Int32)), none, none]) (d_F_readAddresses (k := 3) rfl) (by decide) rfl ?_
  refine m_aload_n (d_F_readAddresses (k := 4) rfl) rfl ?_
  refine m_iconst (v := 0) (d_F_readAddresses (k := 5) rfl) (by decide) ?_
  refine m_pI (d_F_readAddresses (k := 6) rfl) fp_F_25 (fun h => absurd h (by decide)) rfl (fun M => ?_)
  refine m_aload_n (d_F_readAddresses (k := 7) rfl) rfl ?_
  refine m_iconst (v := (-1)) (d_F_readAddresses (k := 8) rfl) (by decide) ?_
  refine m_pI (d_F_readAddresses (k := 9) rfl) fp_F_48 (fun h => absurd h (by decide)) rfl (fun M => ?_)
  refine m_iconst (v := 0) (d_F_readAddresses (k := 10) rfl) (by decide) ?_
  refine m_ist (ls' := [some (.inr t0), some (.inr t1), some (.inl (0 : Int32)), some (.inl (0 : Int32)), some (.inl (0 : Int32)), none]) (d_F_readAddresses (k := 11) rfl) (by decide) rfl ?_
  exact m_drop (mles_s (mles_s (mles_s (mles_s (mles_s (mles_n mles_0)))))) (v_F_readAddresses_17 mFU t0 t1 (0 : Int32) (0 : Int32) (0 : Int32) M)
theorem s_F_readAddresses {E : mE} (t0 : Option Nat) (t1 : Option Nat) (M : mM) : mSnd E mi_F_readAddresses 2 [.inr t0, .inr t1] M enI (q_F_readAddresses t0 t1 M) := m_entryZ (by decide) (Nat.le_of_ble_eq_true rfl) rfl (m_drop (mles_s (mles_s (mles_e (mles_e (mles_e (mles_e mles_0)))))) (v_F_readAddresses t0 t1 M))
def dt_F_readDirection : List (Nat × Instr × Nat) := [(0, .aload_n 0, 1), (1, .aload_n 0, 1), (2, .aload_n 1, 1), (3, .iconst 0, 1), (4, .invokevirtual 51, 3), (7, .putfield 35, 3), (10, .aload_n 0, 1), (11, .aload_n 0, 1), (12, .aload_n 1, 1), (13, .bipush 7, 2), (15, .invokevirtual 51, 3), (18, .putfield 55, 3), (21, .aload_n 0, 1), (22, .aload_n 1, 1), (23, .bipush 6, 2), (25, .invokevirtual 29, 3), (28, .sipush 128, 3), (31, .if_icmp .lt 7, 3), (34, .iconst 1, 1), (35, .goto 4, 3), (38, .iconst 0, 1), (39, .putfield 58, 3), (42, .aload_n 0, 1), (43, .getfield 12, 3), (46, .aload_n 0, 1), (47, .getfield 55, 3), (50, .putfield 62, 3), (53, .aload_n 0, 1), (54, .getfield 12, 3), (57, .aload_n 0, 1), (58, .getfield 25, 3), (61, .iconst 2, 1), (62, .if_icmp .le 21, 3), (65, .aload_n 0, 1), (66, .aload_n 1, 1), (67, .bipush 7, 2), (69, .aload_n 0, 1), (70, .getfield 25, 3), (73, .imul, 1), (74, .bipush 7, 2), (76, .isub, 1), (77, .invokevirtual 51, 3), (80, .goto 4, 3), (83, .iconst (-1), 1), (84, .putfield 63, 3), (87, .aload_n 0, 1), (88, .getfield 12, 3), (91, .aload_n 0, 1), (92, .getfield 25, 3), (95, .iconst 3, 1), (96, .if_icmp .le 13, 3), (99, .aload_n 0, 1), (100, .aload_n 1, 1), (101, .bipush 14, 2), (103, .invokevirtual 51, 3), (106, .goto 4, 3), (109, .iconst (-1), 1), (110, .putfield 66, 3), (113, .aload_n 1, 1), (114, .bipush 13, 2), (116, .invokevirtual 29, 3), (119, .sipush 128, 3), (122, .if_icmp .lt 7, 3), (125, .iconst 1, 1), (126, .goto 4, 3), (129, .iconst 0, 1), (130, .istore_n 2, 1), (131, .aload_n 0, 1), (132, .getfield 58, 3), (135, .iload_n 2, 1), (136, .if_icmp .eq 7, 3), (139, .iconst 1, 1), (140, .goto 4, 3), (143, .iconst 0, 1), (144, .ireturn, 1)]
theorem dx_F_readDirection : ∀ p ∈ dt_F_readDirection, decode prog_3_method_4_code p.1 = .ok p.2 := by decide +kernel
theorem d_F_readDirection {k pc : Nat} {i : Instr} {n : Nat} (h : dt_F_readDirection[k]? = some (pc, i, n)) : decode mi_F_readDirection.2.1 pc = .ok (i, n) := dx_F_readDirection (pc, i, n) (List.mem_of_getElem? h)
def q_F_readDirection_130 (t0 : Option Nat) (j0 : Int32) (M : mM) : Option (Int32 × mM) :=
    x_gI M 1 t0 4 fun x1 =>
    if x1 = j0 then
      x_rz (0 : Int32) M
    else
      x_rz (1 : Int32) M
set_option maxRecDepth 20000 in
theorem v_F_readDirection_130 {E : mE} (t0 : Option Nat) (j0 : Int32) (M : mM) : mVr E mi_F_readDirection 2 130 [some (.inr t0), none, none] [.inl j0] M enI (q_F_readDirection_130 t0 j0 M) := by
  unfold q_F_readDirection_130
  refine m_ist_n (ls' := [some (.inr t0), none, some (.inl j0)]) (d_F_readDirection (k := 66) rfl) (by decide) rfl ?_
  refine m_aload_n (d_F_readDirection (k := 67) rfl) rfl ?_
  refine m_getI (d_F_readDirection (k := 68) rfl) fl_F_58 rfl (fun x1 => ?_)
  refine m_iload_n (d_F_readDirection (k := 69) rfl) rfl ?_
  refine m_icmp_eq (tgt := 143) (d_F_readDirection (k := 70) rfl) rfl ?_ ?_
  · refine m_iconst (v := 0) (d_F_readDirection (k := 73) rfl) (by decide) ?_
    exact m_zret (d_F_readDirection (k := 74) rfl) rfl
  · refine m_iconst (v := 1) (d_F_readDirection (k := 71) rfl) (by decide) ?_
    refine m_goto (tgt := 144) (d_F_readDirection (k := 72) rfl) rfl ?_
    exact m_zret (d_F_readDirection (k := 74) rfl) rfl
def q_F_readDirection_110 (t0 : Option Nat) (t1 : Option Nat) (j0 : Int32) (u1 : Option Nat) (M : mM) : Option (Int32 × mM) :=
    x_pI M 3 u1 2 j0 fun M =>
    x_cv M 0 t1 (q_B_at t1 (13 : Int32) M) fun x1 M =>
    if x1 < (128 : Int32) then
      q_F_readDirection_130 t0 (0 : Int32) M
    else
      q_F_readDirection_130 t0 (1 : Int32) M
set_option maxRecDepth 20000 in
theorem v_F_readDirection_110 {E : mE} (t0 : Option Nat) (t1 : Option Nat) (j0 : Int32) (u1 : Option Nat) (M : mM) : mVr E mi_F_readDirection 2 110 [some (.inr t0), some (.inr t1), none] [.inl j0, .inr u1] M enI (q_F_readDirection_110 t0 t1 j0 u1 M) := by
  unfold q_F_readDirection_110
  refine m_pI (d_F_readDirection (k := 57) rfl) fp_F_66 (fun h => absurd h (by decide)) rfl (fun M => ?_)
  refine m_aload_n (d_F_readDirection (k := 58) rfl) rfl ?_
  refine m_bipush (v := 13) (d_F_readDirection (k := 59) rfl) (by decide) ?_
  refine m_cvI (c := 0) (vs := [.inl (13 : Int32)]) (st := []) (d_F_readDirection (k := 60) rfl) (s_B_at t1 (13 : Int32) M) cd_B_at ml_F_29 im_B_at se_B_at rfl (by decide) rfl (Nat.le_of_ble_eq_true rfl) (fun x1 M => ?_)
  refine m_sipush (v := 128) (d_F_readDirection (k := 61) rfl) (by decide) ?_
  refine m_icmp_lt (tgt := 129) (d_F_readDirection (k := 62) rfl) rfl ?_ ?_
  · refine m_iconst (v := 0) (d_F_readDirection (k := 65) rfl) (by decide) ?_
    exact m_drop (mles_s (mles_n (mles_n mles_0))) (v_F_readDirection_130 t0 (0 : Int32) M)
  · refine m_iconst (v := 1) (d_F_readDirection (k := 63) rfl) (by decide) ?_
    refine m_goto (tgt := 130) (d_F_readDirection (k := 64) rfl) rfl ?_
    exact m_drop (mles_s (mles_n (mles_n mles_0))) (v_F_readDirection_130 t0 (1 : Int32) M)
def q_F_readDirection_84 (t0 : Option Nat) (t1 : Option Nat) (j0 : Int32) (u1 : Option Nat) (M : mM) : Option (Int32 × mM) :=
    x_pI M 3 u1 1 j0 fun M =>
    x_gR M 1 t0 11 fun a1 =>
    x_gI M 1 t0 2 fun x2 =>
    if (3 : Int32) < x2 then
      x_cv M 1 t0 (q_F_addressAt t0 t1 (14 : Int32) M) fun x3 M =>
      q_F_readDirection_110 t0 t1 x3 a1 M
    else
      q_F_readDirection_110 t0 t1 (-1 : Int32) a1 M
set_option maxRecDepth 20000 in
theorem v_F_readDirection_84 {E : mE} (t0 : Option Nat) (t1 : Option Nat) (j0 : Int32) (u1 : Option Nat) (M : mM) : mVr E mi_F_readDirection 2 84 [some (.inr t0), some (.inr t1), none] [.inl j0, .inr u1] M enI (q_F_readDirection_84 t0 t1 j0 u1 M) := by
  unfold q_F_readDirection_84
  refine m_pI (d_F_readDirection (k := 44) rfl) fp_F_63 (fun h => absurd h (by decide)) rfl (fun M => ?_)
  refine m_aload_n (d_F_readDirection (k := 45) rfl) rfl ?_
  refine m_getR (d_F_readDirection (k := 46) rfl) fl_F_12 rfl (fun a1 => ?_)
  refine m_aload_n (d_F_readDirection (k := 47) rfl) rfl ?_
  refine m_getI (d_F_readDirection (k := 48) rfl) fl_F_25 rfl (fun x2 => ?_)
  refine m_iconst (v := 3) (d_F_readDirection (k := 49) rfl) (by decide) ?_
  refine m_icmp_le (tgt := 109) (d_F_readDirection (k := 50) rfl) rfl ?_ ?_
  · refine m_aload_n (d_F_readDirection (k := 51) rfl) rfl ?_
    refine m_aload_n (d_F_readDirection (k := 52) rfl) rfl ?_
    refine m_bipush (v := 14) (d_F_readDirection (k := 53) rfl) (by decide) ?_
    refine m_cvI (c := 1) (vs := [.inr t1, .inl (14 : Int32)]) (st := [.inr a1]) (d_F_readDirection (k := 54) rfl) (s_F_addressAt t0 t1 (14 : Int32) M) cd_F_addressAt ml_F_51 im_F_addressAt se_F_addressAt rfl (by decide) rfl (Nat.le_of_ble_eq_true rfl) (fun x3 M => ?_)
    refine m_goto (tgt := 110) (d_F_readDirection (k := 55) rfl) rfl ?_
    exact m_drop (mles_s (mles_s (mles_n mles_0))) (v_F_readDirection_110 t0 t1 x3 a1 M)
  · refine m_iconst (v := (-1)) (d_F_readDirection (k := 56) rfl) (by decide) ?_
    exact m_drop (mles_s (mles_s (mles_n mles_0))) (v_F_readDirection_110 t0 t1 (-1 : Int32) a1 M)
def q_F_readDirection_39 (t0 : Option Nat) (t1 : Option Nat) (j0 : Int32) (u1 : Option Nat) (M : mM) : Option (Int32 × mM) :=
    x_pZ M 1 u1 4 j0 fun M =>
    x_gR M 1 t0 11 fun a1 =>
    x_gI M 1 t0 1 fun x2 =>
    x_pI M 3 a1 0 x2 fun M =>
    x_gR M 1 t0 11 fun a3 =>
    x_gI M 1 t0 2 fun x4 =>
    if (2 : Int32) < x4 then
      x_gI M 1 t0 2 fun x5 =>
      x_cv M 1 t0 (q_F_addressAt t0 t1 (((7 : Int32) * x5) - (7 : Int32)) M) fun x6 M =>
      q_F_readDirection_84 t0 t1 x6 a3 M
    else
      q_F_readDirection_84 t0 t1 (-1 : Int32) a3 M
set_option maxRecDepth 20000 in
theorem v_F_readDirection_39 {E : mE} (t0 : Option Nat) (t1 : Option Nat) (j0 : Int32) (u1 : Option Nat) (M : mM) : mVr E mi_F_readDirection 2 39 [some (.inr t0), some (.inr t1), none] [.inl j0, .inr u1] M enI (q_F_readDirection_39 t0 t1 j0 u1 M) := by
  unfold q_F_readDirection_39
  refine m_pZ (d_F_readDirection (k := 21) rfl) fp_F_58 (fun h => absurd h (by decide)) rfl (fun M => ?_)
  refine m_aload_n (d_F_readDirection (k := 22) rfl) rfl ?_
  refine m_getR (d_F_readDirection (k := 23) rfl) fl_F_12 rfl (fun a1 => ?_)
  refine m_aload_n (d_F_readDirection (k := 24) rfl) rfl ?_
  refine m_getI (d_F_readDirection (k := 25) rfl) fl_F_55 rfl (fun x2 => ?_)
  refine m_pI (d_F_readDirection (k := 26) rfl) fp_F_62 (fun h => absurd h (by decide)) rfl (fun M => ?_)
  refine m_aload_n (d_F_readDirection (k := 27) rfl) rfl ?_
  refine m_getR (d_F_readDirection (k := 28) rfl) fl_F_12 rfl (fun a3 => ?_)
  refine m_aload_n (d_F_readDirection (k := 29) rfl) rfl ?_
  refine m_getI (d_F_readDirection (k := 30) rfl) fl_F_25 rfl (fun x4 => ?_)
  refine m_iconst (v := 2) (d_F_readDirection (k := 31) rfl) (by decide) ?_
  refine m_icmp_le (tgt := 83) (d_F_readDirection (k := 32) rfl) rfl ?_ ?_
  · refine m_aload_n (d_F_readDirection (k := 33) rfl) rfl ?_
    refine m_aload_n (d_F_readDirection (k := 34) rfl) rfl ?_
    refine m_bipush (v := 7) (d_F_readDirection (k := 35) rfl) (by decide) ?_
    refine m_aload_n (d_F_readDirection (k := 36) rfl) rfl ?_
    refine m_getI (d_F_readDirection (k := 37) rfl) fl_F_25 rfl (fun x5 => ?_)
    refine m_imul (d_F_readDirection (k := 38) rfl) ?_
    refine m_bipush (v := 7) (d_F_readDirection (k := 39) rfl) (by decide) ?_
    refine m_isub (d_F_readDirection (k := 40) rfl) ?_
    refine m_cvI (c := 1) (vs := [.inr t1, .inl (((7 : Int32) * x5) - (7 : Int32))]) (st := [.inr a3]) (d_F_readDirection (k := 41) rfl) (s_F_addressAt t0 t1 (((7 : Int32) * x5) - (7 : Int32)) M) cd_F_addressAt ml_F_51 im_F_addressAt se_F_addressAt rfl (by decide) rfl (Nat.le_of_ble_eq_true rfl) (fun x6 M => ?_)
    refine m_goto (tgt := 84) (d_F_readDirection (k := 42) rfl) rfl ?_
    exact m_drop (mles_s (mles_s (mles_n mles_0))) (v_F_readDirection_84 t0 t1 x6 a3 M)
  · refine m_iconst (v := (-1)) (d_F_readDirection (k := 43) rfl) (by decide) ?_
    exact m_drop (mles_s (mles_s (mles_n mles_0))) (v_F_readDirection_84 t0 t1 (-1 : Int32) a3 M)
def q_F_readDirection (t0 : Option Nat) (t1 : Option Nat) (M : mM) : Option (Int32 × mM) :=
    x_cv M 1 t0 (q_F_addressAt t0 t1 (0 : Int32) M) fun x1 M =>
    x_pI M 1 t0 0 x1 fun M =>
    x_cv M 1 t0 (q_F_addressAt t0 t1 (7 : Int32) M) fun x2 M =>
    x_pI M 1 t0 1 x2 fun M =>
    x_cv M 0 t1 (q_B_at t1 (6 : Int32) M) fun x3 M =>
    if x3 < (128 : Int32) then
      q_F_readDirection_39 t0 t1 (0 : Int32) t0 M
    else
      q_F_readDirection_39 t0 t1 (1 : Int32) t0 M
set_option maxRecDepth 20000 in
theorem v_F_readDirection {E : mE} (t0 : Option Nat) (t1 : Option Nat) (M : mM) : mVr E mi_F_readDirection 2 0 [some (.inr t0), some (.inr t1), none] [] M enI (q_F_readDirection t0 t1 M) := by
  unfold q_F_readDirection
  refine m_aload_n (d_F_readDirection (k := 0) rfl) rfl ?_
  refine m_aload_n (d_F_readDirection (k := 1) rfl) rfl ?_
  refine m_aload_n (d_F_readDirection (k := 2) rfl) rfl ?_
  refine m_iconst (v := 0) (d_F_readDirection (k := 3) rfl) (by decide) ?_
  refine m_cvI (c := 1) (vs := [.inr t1, .inl (0 : Int32)]) (st := [.inr t0]) (d_F_readDirection (k := 4) rfl) (s_F_addressAt t0 t1 (0 : Int32) M) cd_F_addressAt ml_F_51 im_F_addressAt se_F_addressAt rfl (by decide) rfl (Nat.le_of_ble_eq_true rfl) (fun x1 M => ?_)
  refine m_pI (d_F_readDirection (k := 5) rfl) fp_F_35 (fun h => absurd h (by decide)) rfl (fun M => ?_)
  refine m_aload_n (d_F_readDirection (k := 6) rfl) rfl ?_
  refine m_aload_n (d_F_readDirection (k := 7) rfl) rfl ?_
  refine m_aload_n (d_F_readDirection (k := 8) rfl) rfl ?_
  refine m_bipush (v := 7) (d_F_readDirection (k := 9) rfl) (by decide) ?_
  refine m_cvI (c := 1) (vs := [.inr t1, .inl (7 : Int32)]) (st := [.inr t0]) (d_F_readDirection (k := 10) rfl) (s_F_addressAt t0 t1 (7 : Int32) M) cd_F_addressAt ml_F_51 im_F_addressAt se_F_addressAt rfl (by decide) rfl (Nat.le_of_ble_eq_true rfl) (fun x2 M => ?_)
  refine m_pI (d_F_readDirection (k := 11) rfl) fp_F_55 (fun h => absurd h (by decide)) rfl (fun M => ?_)
  refine m_aload_n (d_F_readDirection (k := 12) rfl) rfl ?_
  refine m_aload_n (d_F_readDirection (k := 13) rfl) rfl ?_
  refine m_bipush (v := 6) (d_F_readDirection (k := 14) rfl) (by decide) ?_
  refine m_cvI (c := 0) (vs := [.inl (6 : Int32)]) (st := [.inr t0]) (d_F_readDirection (k := 15) rfl) (s_B_at t1 (6 : Int32) M) cd_B_at ml_F_29 im_B_at se_B_at rfl (by decide) rfl (Nat.le_of_ble_eq_true rfl) (fun x3 M => ?_)
  refine m_sipush (v := 128) (d_F_readDirection (k := 16) rfl) (by decide) ?_
  refine m_icmp_lt (tgt := 38) (d_F_readDirection (k := 17) rfl) rfl ?_ ?_
  · refine m_iconst (v := 0) (d_F_readDirection (k := 20) rfl) (by decide) ?_
    exact m_drop (mles_s (mles_s (mles_n mles_0))) (v_F_readDirection_39 t0 t1 (0 : Int32) t0 M)
  · refine m_iconst (v := 1) (d_F_readDirection (k := 18) rfl) (by decide) ?_
    refine m_goto (tgt := 39) (d_F_readDirection (k := 19) rfl) rfl ?_
    exact m_drop (mles_s (mles_s (mles_n mles_0))) (v_F_readDirection_39 t0 t1 (1 : Int32) t0 M)
theorem s_F_readDirection {E : mE} (t0 : Option Nat) (t1 : Option Nat) (M : mM) : mSnd E mi_F_readDirection 2 [.inr t0, .inr t1] M enI (q_F_readDirection t0 t1 M) := m_entryZ (by decide) (Nat.le_of_ble_eq_true rfl) rfl (m_drop (mles_s (mles_s (mles_e mles_0))) (v_F_readDirection t0 t1 M))
def dt_F_readInformation : List (Nat × Instr × Nat) := [(0, .bipush 7, 2), (2, .aload_n 0, 1), (3, .getfield 25, 3), (6, .imul, 1), (7, .istore_n 3, 1), (8, .aload_n 0, 1), (9, .iconst 0, 1), (10, .putfield 84, 3), (13, .aload_n 0, 1), (14, .iload_n 2, 1), (15, .bipush 16, 2), (17, .iand, 1), (18, .putfield 93, 3), (21, .aload_n 0, 1), (22, .iload_n 2, 1), (23, .iconst 5, 1), (24, .ishr, 1), (25, .putfield 96, 3), (28, .aload_n 0, 1), (29, .iload_n 2, 1), (30, .iconst 1, 1), (31, .ishr, 1), (32, .bipush 7, 2), (34, .iand, 1), (35, .putfield 99, 3), (38, .aload_n 0, 1), (39, .getfield 12, 3), (42, .aload_n 1, 1), (43, .iload_n 3, 1), (44, .iconst 1, 1), (45, .iadd, 1), (46, .invokevirtual 29, 3), (49, .putfield 102, 3), (52, .aload_n 0, 1), (53, .aload_n 1, 1), (54, .iload_n 3, 1), (55, .iconst 2, 1), (56, .iadd, 1), (57, .invokevirtual 29, 3), (60, .putfield 105, 3), (63, .aload_n 0, 1), (64, .iload_n 3, 1), (65, .iconst 3, 1), (66, .iadd, 1), (67, .putfield 87, 3), (70, .aload_n 1, 1), (71, .getfield 90, 3), (74, .aload_n 0, 1), (75, .getfield 87, 3), (78, .isub, 1), (79, .istore 4, 2), (81, .aload_n 0, 1), (82, .getfield 105, 3), (85, .sipush 240, 3), (88, .if_icmp .eq 13, 3), (91, .aload_n 0, 1), (92, .getfield 105, 3), (95, .sipush 207, 3), (98, .if_icmp .ne 7, 3), (101, .iconst 1, 1), (102, .goto 4, 3), (105, .iconst 0, 1), (106, .istore 5, 2), (108, .aload_n 0, 1), (109, .getfield 58, 3), (112, .ifCond .eq 25, 3), (115, .iload 5, 2), (117, .ifCond .eq 20, 3), (120, .iload 4, 2), (122, .iconst 1, 1), (123, .if_icmp .lt 14, 3), (126, .iload 4, 2), (128, .bipush 16, 2), (130, .if_icmp .gt 7, 3), (133, .iconst 1, 1), (134, .goto 4, 3), (137, .iconst 0, 1), (138, .ireturn, 1)]
theorem dx_F_readInformation : ∀ p ∈ dt_F_readInformation, decode prog_3_method_8_code p.1 = .ok p.2 := by decide +kernel
theorem d_F_readInformation {k pc : Nat} {i : Instr} {n : Nat} (h : dt_F_readInformation[k]? = some (pc, i, n)) : decode mi_F_readInformation.2.1 pc = .ok (i, n) := dx_F_readInformation (pc, i, n) (List.mem_of_getElem? h)
def q_F_readInformation_106 (t0 : Option Nat) (i4 : Int32) (j0 : Int32) (M : mM) : Option (Int32 × mM) :=
    x_gI M 1 t0 4 fun x1 =>
    if x1 = 0 then
      x_rz (0 : Int32) M
    else
      if j0 = 0 then
        x_rz (0 : Int32) M
      else
        if i4 < (1 : Int32) then
          x_rz (0 : Int32) M
        else
          if (16 : Int32) < i4 then
            x_rz (0 : Int32) M
          else
            x_rz (1 : Int32) M
set_option maxRecDepth 20000 in
theorem v_F_readInformation_106 {E : mE} (t0 : Option Nat) (i4 : Int32) (j0 : Int32) (M : mM) : mVr E mi_F_readInformation 1 106 [some (.inr t0), none, none, none, some (.inl i4), none] [.inl j0] M enI (q_F_readInformation_106 t0 i4 j0 M) := by
  unfold q_F_readInformation_106
  refine m_ist (ls' := [some (.inr t0), none, none, none, some (.inl i4), some (.inl j0)]) (d_F_readInformation (k := 62) rfl) (by decide) rfl ?_
  refine m_aload_n (d_F_readInformation (k := 63) rfl) rfl ?_
  refine m_getI (d_F_readInformation (k := 64) rfl) fl_F_58 rfl (fun x1 => ?_)
  refine m_if_eq (tgt := 137) (d_F_readInformation (k := 65) rfl) rfl ?_ ?_
  · refine m_iconst (v := 0) (d_F_readInformation (k := 76) rfl) (by decide) ?_
    exact m_zret (d_F_readInformation (k := 77) rfl) rfl
  · refine m_iload (d_F_readInformation (k := 66) rfl) rfl ?_
    refine m_if_eq (tgt := 137) (d_F_readInformation (k := 67) rfl) rfl ?_ ?_
    · refine m_iconst (v := 0) (d_F_readInformation (k := 76) rfl) (by decide) ?_
      exact m_zret (d_F_readInformation (k := 77) rfl) rfl
    · refine m_iload (d_F_readInformation (k := 68) rfl) rfl ?_
      refine m_iconst (v := 1) (d_F_readInformation (k := 69) rfl) (by decide) ?_
      refine m_icmp_lt (tgt := 137) (d_F_readInformation (k := 70) rfl) rfl ?_ ?_
      · refine m_iconst (v := 0) (d_F_readInformation (k := 76) rfl) (by decide) ?_
        exact m_zret (d_F_readInformation (k := 77) rfl) rfl
      · refine m_iload (d_F_readInformation (k := 71) rfl) rfl ?_
        refine m_bipush (v := 16) (d_F_readInformation (k := 72) rfl) (by decide) ?_
        refine m_icmp_gt (tgt := 137) (d_F_readInformation (k := 73) rfl) rfl ?_ ?_
        · refine m_iconst (v := 0) (d_F_readInformation (k := 76) rfl) (by decide) ?_
          exact m_zret (d_F_readInformation (k := 77) rfl) rfl
        · refine m_iconst (v := 1) (d_F_readInformation (k := 74) rfl) (by decide) ?_
          refine m_goto (tgt := 138) (d_F_readInformation (k := 75) rfl) rfl ?_
          exact m_zret (d_F_readInformation (k := 77) rfl) rfl
def q_F_readInformation_101 (t0 : Option Nat) (i4 : Int32) (M : mM) : Option (Int32 × mM) :=
    q_F_readInformation_106 t0 i4 (1 : Int32) M
set_option maxRecDepth 20000 in
theorem v_F_readInformation_101 {E : mE} (t0 : Option Nat) (i4 : Int32) (M : mM) : mVr E mi_F_readInformation 1 101 [some (.inr t0), none, none, none, some (.inl i4), none] [] M enI (q_F_readInformation_101 t0 i4 M) := by
  unfold q_F_readInformation_101
  refine m_iconst (v := 1) (d_F_readInformation (k := 59) rfl) (by decide) ?_
  refine m_goto (tgt := 106) (d_F_readInformation (k := 60) rfl) rfl ?_
  exact m_drop (mles_s (mles_n (mles_n (mles_n (mles_s (mles_n mles_0)))))) (v_F_readInformation_106 t0 i4 (1 : Int32) M)
def q_F_readInformation (t0 : Option Nat) (t1 : Option Nat) (i2 : Int32) (M : mM) : Option (Int32 × mM) :=
    x_gI M 1 t0 2 fun x1 =>
    x_lt ((7 : Int32) * x1) fun x2 =>
    x_pI M 1 t0 5 (0 : Int32) fun M =>
    x_pI M 1 t0 6 (i2 &&& (16 : Int32)) fun M =>
    x_pI M 1 t0 7 (i2 >>> ((5 : Int32) &&& 31)) fun M =>
    x_pI M 1 t0 8 ((i2 >>> ((1 : Int32) &&& 31)) &&& (7 : Int32)) fun M =>
    x_gR M 1 t0 11 fun a3 =>
    x_cv M 0 t1 (q_B_at t1 (x2 + (1 : Int32)) M) fun x4 M =>
    x_pI M 3 a3 3 x4 fun M =>
    x_cv M 0 t1 (q_B_at t1 (x2 + (2 : Int32)) M) fun x5 M =>
    x_pI M 1 t0 9 x5 fun M =>
    x_pI M 1 t0 10 (x2 + (3 : Int32)) fun M =>
    x_gI M 0 t1 1 fun x6 =>
    x_gI M 1 t0 10 fun x7 =>
    x_lt (x6 - x7) fun x8 =>
    x_gI M 1 t0 9 fun x9 =>
    if x9 = (240 : Int32) then
      q_F_readInformation_101 t0 x8 M
    else
      x_gI M 1 t0 9 fun x10 =>
      if x10 = (207 : Int32) then
        q_F_readInformation_101 t0 x8 M
      else
        q_F_readInformation_106 t0 x8 (0 : Int32) M
set_option maxRecDepth 20000 in
theorem v_F_readInformation {E : mE} (t0 : Option Nat) (t1 : Option Nat) (i2 : Int32) (M : mM) : mVr E mi_F_readInformation 1 0 [some (.inr t0), some (.inr t1), some (.inl i2), none, none, none] [] M enI (q_F_readInformation t0 t1 i2 M) := by
  unfold q_F_readInformation
  refine m_bipush (v := 7) (d_F_readInformation (k := 0) rfl) (by decide) ?_
  refine m_aload_n (d_F_readInformation (k := 1) rfl) rfl ?_
  refine m_getI (d_F_readInformation (k := 2) rfl) fl_F_25 rfl (fun x1 => ?_)
  refine m_imul (d_F_readInformation (k := 3) rfl) ?_
  refine m_lt (fun x2 => ?_)
  refine m_ist_n (ls' := [some (.inr t0), some (.inr t1), some (.inl i2), some (.inl x2), none, none]) (d_F_readInformation (k := 4) rfl) (by decide) rfl ?_
  refine m_aload_n (d_F_readInformation (k := 5) rfl) rfl ?_
  refine m_iconst (v := 0) (d_F_readInformation (k := 6) rfl) (by decide) ?_
  refine m_pI (d_F_readInformation (k := 7) rfl) fp_F_84 (fun h => absurd h (by decide)) rfl (fun M => ?_)
  refine m_aload_n (d_F_readInformation (k := 8) rfl) rfl ?_
  refine m_iload_n (d_F_readInformation (k := 9) rfl) rfl ?_
  refine m_bipush (v := 16) (d_F_readInformation (k := 10) rfl) (by decide) ?_
  refine m_iand (d_F_readInformation (k := 11) rfl) ?_
  refine m_pI (d_F_readInformation (k := 12) rfl) fp_F_93 (fun h => absurd h (by decide)) rfl (fun M => ?_)
  refine m_aload_n (d_F_readInformation (k := 13) rfl) rfl ?_
  refine m_iload_n (d_F_readInformation (k := 14) rfl) rfl ?_
  refine m_iconst (v := 5) (d_F_readInformation (k := 15) rfl) (by decide) ?_
  refine m_ishr (d_F_readInformation (k := 16) rfl) ?_
  refine m_pI (d_F_readInformation (k := 17) rfl) fp_F_96 (fun h => absurd h (by decide)) rfl (fun M => ?_)
  refine m_aload_n (d_F_readInformation (k := 18) rfl) rfl ?_
  refine m_iload_n (d_F_readInformation (k := 19) rfl) rfl ?_
  refine m_iconst (v := 1) (d_F_readInformation (k := 20) rfl) (by decide) ?_
  refine m_ishr (d_F_readInformation (k := 21) rfl) ?_
  refine m_bipush (v := 7) (d_F_readInformation (k := 22) rfl) (by decide) ?_
  refine m_iand (d_F_readInformation (k := 23) rfl) ?_
  refine m_pI (d_F_readInformation (k := 24) rfl) fp_F_99 (fun h => absurd h (by decide)) rfl (fun M => ?_)
  refine m_aload_n (d_F_readInformation (k := 25) rfl) rfl ?_
  refine m_getR (d_F_readInformation (k := 26) rfl) fl_F_12 rfl (fun a3 => ?_)
  refine m_aload_n (d_F_readInformation (k := 27) rfl) rfl ?_
  refine m_iload_n (d_F_readInformation (k := 28) rfl) rfl ?_
  refine m_iconst (v := 1) (d_F_readInformation (k := 29) rfl) (by decide) ?_
  refine m_iadd (d_F_readInformation (k := 30) rfl) ?_
  refine m_cvI (c := 0) (vs := [.inl (x2 + (1 : Int32))]) (st := [.inr a3]) (d_F_readInformation (k := 31) rfl) (s_B_at t1 (x2 + (1 : Int32)) M) cd_B_at ml_F_29 im_B_at se_B_at rfl (by decide) rfl (Nat.le_of_ble_eq_true rfl) (fun x4 M => ?_)
  refine m_pI (d_F_readInformation (k := 32) rfl) fp_F_102 (fun h => absurd h (by decide)) rfl (fun M => ?_)
  refine m_aload_n (d_F_readInformation (k := 33) rfl) rfl ?_
  refine m_aload_n (d_F_readInformation (k := 34) rfl) rfl ?_
  refine m_iload_n (d_F_readInformation (k := 35) rfl) rfl ?_
  refine m_iconst (v := 2) (d_F_readInformation (k := 36) rfl) (by decide) ?_
  refine m_iadd (d_F_readInformation (k := 37) rfl) ?_
  refine m_cvI (c := 0) (vs := [.inl (x2 + (2 : Int32))]) (st := [.inr t0]) (d_F_readInformation (k := 38) rfl) (s_B_at t1 (x2 + (2 : Int32)) M) cd_B_at ml_F_29 im_B_at se_B_at rfl (by decide) rfl (Nat.le_of_ble_eq_true rfl) (fun x5 M => ?_)
  refine m_pI (d_F_readInformation (k := 39) rfl) fp_F_105 (fun h => absurd h (by decide)) rfl (fun M => ?_)
  refine m_aload_n (d_F_readInformation (k := 40) rfl) rfl ?_
  refine m_iload_n (d_F_readInformation (k := 41) rfl) rfl ?_
  refine m_iconst (v := 3) (d_F_readInformation (k := 42) rfl) (by decide) ?_
  refine m_iadd (d_F_readInformation (k := 43) rfl) ?_
  refine m_pI (d_F_readInformation (k := 44) rfl) fp_F_87 (fun h => absurd h (by decide)) rfl (fun M => ?_)
  refine m_aload_n (d_F_readInformation (k := 45) rfl) rfl ?_
  refine m_getI (d_F_readInformation (k := 46) rfl) fl_F_90 rfl (fun x6 => ?_)
  refine m_aload_n (d_F_readInformation (k := 47) rfl) rfl ?_
  refine m_getI (d_F_readInformation (k := 48) rfl) fl_F_87 rfl (fun x7 => ?_)
  refine m_isub (d_F_readInformation (k := 49) rfl) ?_
  refine m_lt (fun x8 => ?_)
  refine m_ist (ls' := [some (.inr t0), some (.inr t1), some (.inl i2), some (.inl x2), some (.inl x8), none]) (d_F_readInformation (k := 50) rfl) (by decide) rfl ?_
  refine m_aload_n (d_F_readInformation (k := 51) rfl) rfl ?_
  refine m_getI (d_F_readInformation (k := 52) rfl) fl_F_105 rfl (fun x9 => ?_)
  refine m_sipush (v := 240) (d_F_readInformation (k := 53) rfl) (by decide) ?_
  refine m_icmp_eq (tgt := 101) (d_F_readInformation (k := 54) rfl) rfl ?_ ?_
  · exact m_drop (mles_s (mles_n (mles_n (mles_n (mles_s (mles_n mles_0)))))) (v_F_readInformation_101 t0 x8 M)
  · refine m_aload_n (d_F_readInformation (k := 55) rfl) rfl ?_
    refine m_getI (d_F_readInformation (k := 56) rfl) fl_F_105 rfl (fun x10 => ?_)
    refine m_sipush (v := 207) (d_F_readInformation (k := 57) rfl) (by decide) ?_
    refine m_icmp_ne (tgt := 105) (d_F_readInformation (k := 58) rfl) rfl ?_ ?_
    · exact m_drop (mles_s (mles_n (mles_n (mles_n (mles_s (mles_n mles_0)))))) (v_F_readInformation_101 t0 x8 M)
    · refine m_iconst (v := 0) (d_F_readInformation (k := 61) rfl) (by decide) ?_
      exact m_drop (mles_s (mles_n (mles_n (mles_n (mles_s (mles_n mles_0)))))) (v_F_readInformation_106 t0 x8 (0 : Int32) M)
theorem s_F_readInformation {E : mE} (t0 : Option Nat) (t1 : Option Nat) (i2 : Int32) (M : mM) : mSnd E mi_F_readInformation 1 [.inr t0, .inr t1, .inl i2] M enI (q_F_readInformation t0 t1 i2 M) := m_entryZ (by decide) (Nat.le_of_ble_eq_true rfl) rfl (m_drop (mles_s (mles_s (mles_s (mles_e (mles_e (mles_e mles_0)))))) (v_F_readInformation t0 t1 i2 M))
def dt_F_readNodes : List (Nat × Instr × Nat) := [(0, .bipush 7, 2), (2, .aload_n 0, 1), (3, .getfield 25, 3), (6, .imul, 1), (7, .istore_n 3, 1), (8, .aload_n 0, 1), (9, .iconst 3, 1), (10, .putfield 84, 3), (13, .aload_n 0, 1), (14, .iload_n 3, 1), (15, .iconst 3, 1), (16, .iadd, 1), (17, .putfield 87, 3), (20, .aload_n 1, 1), (21, .getfield 90, 3), (24, .aload_n 0, 1), (25, .getfield 87, 3), (28, .isub, 1), (29, .istore 4, 2), (31, .iload_n 2, 1), (32, .iconst 3, 1), (33, .if_icmp .ne 33, 3), (36, .aload_n 1, 1), (37, .iload_n 3, 1), (38, .iconst 1, 1), (39, .iadd, 1), (40, .invokevirtual 29, 3), (43, .sipush 207, 3), (46, .if_icmp .ne 20, 3), (49, .aload_n 1, 1), (50, .iload_n 3, 1), (51, .iconst 2, 1), (52, .iadd, 1), (53, .invokevirtual 29, 3), (56, .sipush 255, 3), (59, .if_icmp .ne 7, 3), (62, .iconst 1, 1), (63, .goto 4, 3), (66, .iconst 0, 1), (67, .istore 5, 2), (69, .aload_n 0, 1), (70, .getfield 58, 3), (73, .ifCond .eq 30, 3), (76, .aload_n 0, 1), (77, .getfield 25, 3), (80, .iconst 2, 1), (81, .if_icmp .ne 22, 3), (84, .iload 5, 2), (86, .ifCond .eq 17, 3), (89, .iload 4, 2), (91, .iconst 3, 1), (92, .irem, 1), (93, .ifCond .ne 10, 3), (96, .iload 4, 2), (98, .bipush 15, 2), (100, .if_icmp .le 5, 3), (103, .iconst 0, 1), (104, .ireturn, 1), (105, .aload_n 0, 1), (106, .getfield 87, 3), (109, .istore 6, 2), (111, .iload 6, 2), (113, .aload_n 1, 1), (114, .getfield 90, 3), (117, .if_icmp .ge 37, 3), (120, .aload_n 1, 1), (121, .iload 6, 2), (123, .invokevirtual 29, 3), (126, .invokestatic 77, 3), (129, .ifCond .eq 17, 3), (132, .aload_n 1, 1), (133, .iload 6, 2), (135, .iconst 1, 1), (136, .iadd, 1), (137, .invokevirtual 29, 3), (140, .invokestatic 77, 3), (143, .ifCond .ne 5, 3), (146, .iconst 0, 1), (147, .ireturn, 1), (148, .iinc 6 3, 3), (151, .goto (-40), 3), (154, .iconst 1, 1), (155, .ireturn, 1)]
theorem dx_F_readNodes : ∀ p ∈ dt_F_readNodes, decode prog_3_method_7_code p.1 = .ok p.2 := by decide +kernel
theorem d_F_readNodes {k pc : Nat} {i : Instr} {n : Nat} (h : dt_F_readNodes[k]? = some (pc, i, n)) : decode mi_F_readNodes.2.1 pc = .ok (i, n) := dx_F_readNodes (pc, i, n) (List.mem_of_getElem? h)
def q_F_readNodes_111_b (r111 : Option Nat → Int32 → mM → Option (Int32 × mM)) (t1 : Option Nat) (i6 : Int32) (M : mM) : Option (Int32 × mM) :=
    x_gI M 0 t1 1 fun x1 =>
    if i6 < x1 then
      x_cv M 0 t1 (q_B_at t1 i6 M) fun x2 M =>
      x_cl (q_C_isStation x2 M) fun x3 M =>
      if x3 = 0 then
        x_rz (0 : Int32) M
      else
        x_cv M 0 t1 (q_B_at t1 (i6 + (1 : Int32)) M) fun x4 M =>
        x_cl (q_C_isStation x4 M) fun x5 M =>
        if x5 = 0 then
          x_rz (0 : Int32) M
        else
          r111 t1 (i6 + 3) M
    else
      x_rz (1 : Int32) M
def q_F_readNodes_111 : Nat → Option Nat → Int32 → mM → Option (Int32 × mM)
  | 0, _, _, _ => none
  | n + 1, t1, i6, M => q_F_readNodes_111_b (q_F_readNodes_111 n) t1 i6 M
set_option maxRecDepth 20000 in
theorem v_F_readNodes_111_b {E : mE} (r111 : Option Nat → Int32 → mM → Option (Int32 × mM)) (h111 : ∀ (t1 : Option Nat) (i6 : Int32) (M : mM), mVr E mi_F_readNodes 1 111 [none, some (.inr t1), none, none, none, none, some (.inl i6)] [] M enI (r111 t1 i6 M)) (t1 : Option Nat) (i6 : Int32) (M : mM) : mVr E mi_F_readNodes 1 111 [none, some (.inr t1), none, none, none, none, some (.inl i6)] [] M enI (q_F_readNodes_111_b r111 t1 i6 M) := by
  unfold q_F_readNodes_111_b
  refine m_iload (d_F_readNodes (k := 61) rfl) rfl ?_
  refine m_aload_n (d_F_readNodes (k := 62) rfl) rfl ?_
  refine m_getI (d_F_readNodes (k := 63) rfl) fl_F_90 rfl (fun x1 => ?_)
  refine m_icmp_ge (tgt := 154) (d_F_readNodes (k := 64) rfl) rfl ?_ ?_
  · refine m_aload_n (d_F_readNodes (k := 65) rfl) rfl ?_
    refine m_iload (d_F_readNodes (k := 66) rfl) rfl ?_
    refine m_cvI (c := 0) (vs := [.inl i6]) (st := []) (d_F_readNodes (k := 67) rfl) (s_B_at t1 i6 M) cd_B_at ml_F_29 im_B_at se_B_at rfl (by decide) rfl (Nat.le_of_ble_eq_true rfl) (fun x2 M => ?_)
    refine m_nsI (vs := [.inl x2]) (st := []) (d_F_readNodes (k := 68) rfl) (s_C_isStation x2 M) cd_C_isStation mn_F_77 sa_C_isStation (by decide) rfl (Nat.le_of_ble_eq_true rfl) (fun x3 M => ?_)
    refine m_if_eq (tgt := 146) (d_F_readNodes (k := 69) rfl) rfl ?_ ?_
    · refine m_iconst (v := 0) (d_F_readNodes (k := 77) rfl) (by decide) ?_
      exact m_zret (d_F_readNodes (k := 78) rfl) rfl
    · refine m_aload_n (d_F_readNodes (k := 70) rfl) rfl ?_
      refine m_iload (d_F_readNodes (k := 71) rfl) rfl ?_
      refine m_iconst (v := 1) (d_F_readNodes (k := 72) rfl) (by decide) ?_
      refine m_iadd (d_F_readNodes (k := 73) rfl) ?_
      refine m_cvI (c := 0) (vs := [.inl (i6 + (1 : Int32))]) (st := []) (d_F_readNodes (k := 74) rfl) (s_B_at t1 (i6 + (1 : Int32)) M) cd_B_at ml_F_29 im_B_at se_B_at rfl (by decide) rfl (Nat.le_of_ble_eq_true rfl) (fun x4 M => ?_)
      refine m_nsI (vs := [.inl x4]) (st := []) (d_F_readNodes (k := 75) rfl) (s_C_isStation x4 M) cd_C_isStation mn_F_77 sa_C_isStation (by decide) rfl (Nat.le_of_ble_eq_true rfl) (fun x5 M => ?_)
      refine m_if_ne (tgt := 148) (d_F_readNodes (k := 76) rfl) rfl ?_ ?_
      · refine m_iconst (v := 0) (d_F_readNodes (k := 77) rfl) (by decide) ?_
        exact m_zret (d_F_readNodes (k := 78) rfl) rfl
      · refine m_inc (v := 3) (ls' := [none, some (.inr t1), none, none, none, none, some (.inl (i6 + 3))]) (d_F_readNodes (k := 79) rfl) rfl (by decide) (by decide) rfl ?_
        refine m_goto (tgt := 111) (d_F_readNodes (k := 80) rfl) rfl ?_
        exact m_drop (mles_n (mles_s (mles_n (mles_n (mles_n (mles_n (mles_s mles_0))))))) (h111 t1 (i6 + 3) M)
  · refine m_iconst (v := 1) (d_F_readNodes (k := 81) rfl) (by decide) ?_
    exact m_zret (d_F_readNodes (k := 82) rfl) rfl
theorem v_F_readNodes_111 {E : mE} : ∀ (n : Nat) (t1 : Option Nat) (i6 : Int32) (M : mM), mVr E mi_F_readNodes 1 111 [none, some (.inr t1), none, none, none, none, some (.inl i6)] [] M enI (q_F_readNodes_111 n t1 i6 M)
  | 0, _, _, _ => m_none
  | n + 1, t1, i6, M => v_F_readNodes_111_b _ (v_F_readNodes_111 n) t1 i6 M
def q_F_readNodes_67 (t0 : Option Nat) (t1 : Option Nat) (i4 : Int32) (j0 : Int32) (M : mM) : Option (Int32 × mM) :=
    x_gI M 1 t0 4 fun x1 =>
    if x1 = 0 then
      x_rz (0 : Int32) M
    else
      x_gI M 1 t0 2 fun x2 =>
      if x2 = (2 : Int32) then
        if j0 = 0 then
          x_rz (0 : Int32) M
        else
          x_rm i4 (3 : Int32) fun x3 =>
          if x3 = 0 then
            if (15 : Int32) < i4 then
              x_rz (0 : Int32) M
            else
              x_gI M 1 t0 10 fun x4 =>
              q_F_readNodes_111 mFU t1 x4 M
          else
            x_rz (0 : Int32) M
      else
        x_rz (0 : Int32) M
set_option maxRecDepth 20000 in
theorem v_F_readNodes_67 {E : mE} (t0 : Option Nat) (t1 : Option Nat) (i4 : Int32) (j0 : Int32) (M : mM) : mVr E mi_F_readNodes 1 67 [some (.inr t0), some (.inr t1), none, none, some (.inl i4), none, none] [.inl j0] M enI (q_F_readNodes_67 t0 t1 i4 j0 M) := by
  unfold q_F_readNodes_67
  refine m_ist (ls' := [some (.inr t0), some (.inr t1), none, none, some (.inl i4), some (.inl j0), none]) (d_F_readNodes (k := 39) rfl) (by decide) rfl ?_
  refine m_aload_n (d_F_readNodes (k := 40) rfl) rfl ?_
  refine m_getI (d_F_readNodes (k := 41) rfl) fl_F_58 rfl (fun x1 => ?_)
  refine m_if_eq (tgt := 103) (d_F_readNodes (k := 42) rfl) rfl ?_ ?_
  · refine m_iconst (v := 0) (d_F_readNodes (k := 56) rfl) (by decide) ?_
    exact m_zret (d_F_readNodes (k := 57) rfl) rfl
  · refine m_aload_n (d_F_readNodes (k := 43) rfl) rfl ?_
    refine m_getI (d_F_readNodes (k := 44) rfl) fl_F_25 rfl (fun x2 => ?_)
    refine m_iconst (v := 2) (d_F_readNodes (k := 45) rfl) (by decide) ?_
    refine m_icmp_ne (tgt := 103) (d_F_readNodes (k := 46) rfl) rfl ?_ ?_
    · refine m_iload (d_F_readNodes (k := 47) rfl) rfl ?_
      refine m_if_eq (tgt := 103) (d_F_readNodes (k := 48) rfl) rfl ?_ ?_
      · refine m_iconst (v := 0) (d_F_readNodes (k := 56) rfl) (by decide) ?_
        exact m_zret (d_F_readNodes (k := 57) rfl) rfl
      · refine m_iload (d_F_readNodes (k := 49) rfl) rfl ?_
        refine m_iconst (v := 3) (d_F_readNodes (k := 50) rfl) (by decide) ?_
        refine m_irem (d_F_readNodes (k := 51) rfl) (fun x3 => ?_)
        refine m_if_ne (tgt := 103) (d_F_readNodes (k := 52) rfl) rfl ?_ ?_
        · refine m_iload (d_F_readNodes (k := 53) rfl) rfl ?_
          refine m_bipush (v := 15) (d_F_readNodes (k := 54) rfl) (by decide) ?_
          refine m_icmp_le (tgt := 105) (d_F_readNodes (k := 55) rfl) rfl ?_ ?_
          · refine m_iconst (v := 0) (d_F_readNodes (k := 56) rfl) (by decide) ?_
            exact m_zret (d_F_readNodes (k := 57) rfl) rfl
          · refine m_aload_n (d_F_readNodes (k := 58) rfl) rfl ?_
            refine m_getI (d_F_readNodes (k := 59) rfl) fl_F_87 rfl (fun x4 => ?_)
            refine m_ist (ls' := [some (.inr t0), some (.inr t1), none, none, some (.inl i4), some (.inl j0), some (.inl x4)]) (d_F_readNodes (k := 60) rfl) (by decide) rfl ?_
            exact m_drop (mles_n (mles_s (mles_n (mles_n (mles_n (mles_n (mles_s mles_0))))))) (v_F_readNodes_111 mFU t1 x4 M)
        · refine m_iconst (v := 0) (d_F_readNodes (k := 56) rfl) (by decide) ?_
          exact m_zret (d_F_readNodes (k := 57) rfl) rfl
    · refine m_iconst (v := 0) (d_F_readNodes (k := 56) rfl) (by decide) ?_
      exact m_zret (d_F_readNodes (k := 57) rfl) rfl
def q_F_readNodes_66 (t0 : Option Nat) (t1 : Option Nat) (i4 : Int32) (M : mM) : Option (Int32 × mM) :=
    q_F_readNodes_67 t0 t1 i4 (0 : Int32) M
set_option maxRecDepth 20000 in
theorem v_F_readNodes_66 {E : mE} (t0 : Option Nat) (t1 : Option Nat) (i4 : Int32) (M : mM) : mVr E mi_F_readNodes 1 66 [some (.inr t0), some (.inr t1), none, none, some (.inl i4), none, none] [] M enI (q_F_readNodes_66 t0 t1 i4 M) := by
  unfold q_F_readNodes_66
  refine m_iconst (v := 0) (d_F_readNodes (k := 38) rfl) (by decide) ?_
  exact m_drop (mles_s (mles_s (mles_n (mles_n (mles_s (mles_n (mles_n mles_0))))))) (v_F_readNodes_67 t0 t1 i4 (0 : Int32) M)
def q_F_readNodes (t0 : Option Nat) (t1 : Option Nat) (i2 : Int32) (M : mM) : Option (Int32 × mM) :=
    x_gI M 1 t0 2 fun x1 =>
    x_lt ((7 : Int32) * x1) fun x2 =>
    x_pI M 1 t0 5 (3 : Int32) fun M =>
    x_pI M 1 t0 10 (x2 + (3 : Int32)) fun M =>
    x_gI M 0 t1 1 fun x3 =>
    x_gI M 1 t0 10 fun x4 =>
    x_lt (x3 - x4) fun x5 =>
    if i2 = (3 : Int32) then
      x_cv M 0 t1 (q_B_at t1 (x2 + (1 : Int32)) M) fun x6 M =>
      if x6 = (207 : Int32) then
        x_cv M 0 t1 (q_B_at t1 (x2 + (2 : Int32)) M) fun x7 M =>
        if x7 = (255 : Int32) then
          q_F_readNodes_67 t0 t1 x5 (1 : Int32) M
        else
          q_F_readNodes_66 t0 t1 x5 M
      else
        q_F_readNodes_66 t0 t1 x5 M
    else
      q_F_readNodes_66 t0 t1 x5 M
set_option maxRecDepth 20000 in
theorem v_F_readNodes {E : mE} (t0 : Option Nat) (t1 : Option Nat) (i2 : Int32) (M : mM) : mVr E mi_F_readNodes 1 0 [some (.inr t0), some (.inr t1), some (.inl i2), none, none, none, none] [] M enI (q_F_readNodes t0 t1 i2 M) := by
  unfold q_F_readNodes
  refine m_bipush (v := 7) (d_F_readNodes (k := 0) rfl) (by decide) ?_
  refine m_aload_n (d_F_readNodes (k := 1) rfl) rfl ?_
  refine m_getI (d_F_readNodes (k := 2) rfl) fl_F_25 rfl (fun x1 => ?_)
  refine m_imul (d_F_readNodes (k := 3) rfl) ?_
  refine m_lt (fun x2 => ?_)
  refine m_ist_n (ls' := [some (.inr t0), some (.inr t1), some (.inl i2), some (.inl x2), none, none, none]) (d_F_readNodes (k := 4) rfl) (by decide) rfl ?_
  refine m_aload_n (d_F_readNodes (k := 5) rfl) rfl ?_
  refine m_iconst (v := 3) (d_F_readNodes (k := 6) rfl) (by decide) ?_
  refine m_pI (d_F_readNodes (k := 7) rfl) fp_F_84 (fun h => absurd h (by decide)) rfl (fun M => ?_)
  refine m_aload_n (d_F_readNodes (k := 8) rfl) rfl ?_
  refine m_iload_n (d_F_readNodes (k := 9) rfl) rfl ?_
  refine m_iconst (v := 3) (d_F_readNodes (k := 10) rfl) (by decide) ?_
  refine m_iadd (d_F_readNodes (k := 11) rfl) ?_
  refine m_pI (d_F_readNodes (k := 12) rfl) fp_F_87 (fun h => absurd h (by decide)) rfl (fun M => ?_)
  refine m_aload_n (d_F_readNodes (k := 13) rfl) rfl ?_
  refine m_getI (d_F_readNodes (k := 14) rfl) fl_F_90 rfl (fun x3 => ?_)
  refine m_aload_n (d_F_readNodes (k := 15) rfl) rfl ?_
  refine m_getI (d_F_readNodes (k := 16) rfl) fl_F_87 rfl (fun x4 => ?_)
  refine m_isub (d_F_readNodes (k := 17) rfl) ?_
  refine m_lt (fun x5 => ?_)
  refine m_ist (ls' := [some (.inr t0), some (.inr t1), some (.inl i2), some (.inl x2), some (.inl x5), none, none]) (d_F_readNodes (k := 18) rfl) (by decide) rfl ?_
  refine m_iload_n (d_F_readNodes (k := 19) rfl) rfl ?_
  refine m_iconst (v := 3) (d_F_readNodes (k := 20) rfl) (by decide) ?_
  refine m_icmp_ne (tgt := 66) (d_F_readNodes (k := 21) rfl) rfl ?_ ?_
  · refine m_aload_n (d_F_readNodes (k := 22) rfl) rfl ?_
    refine m_iload_n (d_F_readNodes (k := 23) rfl) rfl ?_
    refine m_iconst (v := 1) (d_F_readNodes (k := 24) rfl) (by decide) ?_
    refine m_iadd (d_F_readNodes (k := 25) rfl) ?_
    refine m_cvI (c := 0) (vs := [.inl (x2 + (1 : Int32))]) (st := []) (d_F_readNodes (k := 26) rfl) (s_B_at t1 (x2 + (1 : Int32)) M) cd_B_at ml_F_29 im_B_at se_B_at rfl (by decide) rfl (Nat.le_of_ble_eq_true rfl) (fun x6 M => ?_)
    refine m_sipush (v := 207) (d_F_readNodes (k := 27) rfl) (by decide) ?_
    refine m_icmp_ne (tgt := 66) (d_F_readNodes (k := 28) rfl) rfl ?_ ?_
    · refine m_aload_n (d_F_readNodes (k := 29) rfl) rfl ?_
      refine m_iload_n (d_F_readNodes (k := 30) rfl) rfl ?_
      refine m_iconst (v := 2) (d_F_readNodes (k := 31) rfl) (by decide) ?_
      refine m_iadd (d_F_readNodes (k := 32) rfl) ?_
      refine m_cvI (c := 0) (vs := [.inl (x2 + (2 : Int32))]) (st := []) (d_F_readNodes (k := 33) rfl) (s_B_at t1 (x2 + (2 : Int32)) M) cd_B_at ml_F_29 im_B_at se_B_at rfl (by decide) rfl (Nat.le_of_ble_eq_true rfl) (fun x7 M => ?_)
      refine m_sipush (v := 255) (d_F_readNodes (k := 34) rfl) (by decide) ?_
      refine m_icmp_ne (tgt := 66) (d_F_readNodes (k := 35) rfl) rfl ?_ ?_
      · refine m_iconst (v := 1) (d_F_readNodes (k := 36) rfl) (by decide) ?_
        refine m_goto (tgt := 67) (d_F_readNodes (k := 37) rfl) rfl ?_
        exact m_drop (mles_s (mles_s (mles_n (mles_n (mles_s (mles_n (mles_n mles_0))))))) (v_F_readNodes_67 t0 t1 x5 (1 : Int32) M)
      · exact m_drop (mles_s (mles_s (mles_n (mles_n (mles_s (mles_n (mles_n mles_0))))))) (v_F_readNodes_66 t0 t1 x5 M)
    · exact m_drop (mles_s (mles_s (mles_n (mles_n (mles_s (mles_n (mles_n mles_0))))))) (v_F_readNodes_66 t0 t1 x5 M)
  · exact m_drop (mles_s (mles_s (mles_n (mles_n (mles_s (mles_n (mles_n mles_0))))))) (v_F_readNodes_66 t0 t1 x5 M)
theorem s_F_readNodes {E : mE} (t0 : Option Nat) (t1 : Option Nat) (i2 : Int32) (M : mM) : mSnd E mi_F_readNodes 1 [.inr t0, .inr t1, .inl i2] M enI (q_F_readNodes t0 t1 i2 M) := m_entryZ (by decide) (Nat.le_of_ble_eq_true rfl) rfl (m_drop (mles_s (mles_s (mles_s (mles_e (mles_e (mles_e (mles_e mles_0))))))) (v_F_readNodes t0 t1 i2 M))
