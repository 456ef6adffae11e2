/-! X12_readScript -/
abbrev wvX12_readScript : List Cond := Cond.code yX12_readScript cX12_readScript 3 none :: wsL_law
theorem cd_X12_readScript : okN yX12_readScript RX12 0 := by unfold okN; decide +kernel
def b_X12_readScript_60  (K4 : Int32 → Int32 → wS → Prop) (Q : wS → Prop) (x1 : Int32) (x2 : Int32) (σ : wS) : Prop := (x2 = 0 → (K4 x1 x2 σ)) ∧ (¬ x2 = 0 → (∀ s1 : wS, s1 = upI σ 176 3 ((σ.1 176 3) + (1 : Int32)) → (K4 x1 x2 s1)))
set_option maxRecDepth 100000 in
set_option maxHeartbeats 4000000 in
theorem wb_X12_readScript_60 {X : XT} {Q : wS → Prop}  (F : Fx X cX12_readScript 3 RX12 wvX12_readScript 7 151) (hret : Rv X 3 cX12_readScript Q)  {K4 : Int32 → Int32 → wS → Prop} (hK4 : ∀ (x1 : Int32) (x2 : Int32) (σ : wS), K4 x1 x2 σ → Wx X 3 σ 4 [(0, .ref (ad X 176)), (1, .int x1), (2, .int x2)] []) (x1 : Int32) (x2 : Int32) (σ : wS) (h : b_X12_readScript_60  K4 Q x1 x2 σ) : Wx X 3 σ 60 [(0, .ref (ad X 176)), (1, .int x1), (2, .int x2)] [] := by
  unfold b_X12_readScript_60 at h
  refine x_iload_n F dX12_readScript_60 rfl 2 rfl ?_
  refine x_if_eq (tgt := 4) F dX12_readScript_61 (by decide) (fun c => ?_) (fun c => ?_)
  · replace h := h.1 c
    refine x_sub (lv' := [(0, .ref (ad X 176)), (1, .int x1), (2, .int x2)]) [0, 1, 2] rfl ?_
    exact hK4 _ _ _ h
  · replace h := h.2 c
    refine x_aload_n F dX12_readScript_64 rfl 0 rfl ?_
    refine x_dup F dX12_readScript_65 rfl ?_
    refine g_12_3 F kz_176 in_12 (mc bw_13_11) dX12_readScript_66 ?_
    refine x_iconst (1 : Int32) F dX12_readScript_69 (by decide) ?_
    refine x_iadd F dX12_readScript_70 ?_
    refine q_12_3 F kz_176 in_12 (mc bw_13_11) dX12_readScript_71 ?_
    refine x_nmS (fun s1 es1 => ?_)
    replace h := h s1 es1
    refine x_goto (tgt := 4) F dX12_readScript_74 (by decide) ?_
    refine x_sub (lv' := [(0, .ref (ad X 176)), (1, .int x1), (2, .int x2)]) [0, 1, 2] rfl ?_
    exact hK4 _ _ _ h
def b_X12_readScript_44  (K4 : Int32 → Int32 → wS → Prop) (Q : wS → Prop) (x1 : Int32) (z0 : Int32) (σ : wS) : Prop := (z0 = 0 → (b_X12_readScript_60  K4 Q x1 z0 σ)) ∧ (¬ z0 = 0 → ((¬ x1 = (16 : Int32) → (b_X12_readScript_60  K4 Q x1 z0 σ)) ∧ (x1 = (16 : Int32) → (w_X12_fails  σ (fun s1 => Q s1)))))
set_option maxRecDepth 100000 in
set_option maxHeartbeats 4000000 in
theorem wb_X12_readScript_44 {X : XT} {Q : wS → Prop}  (F : Fx X cX12_readScript 3 RX12 wvX12_readScript 7 151) (hret : Rv X 3 cX12_readScript Q)  {K4 : Int32 → Int32 → wS → Prop} (hK4 : ∀ (x1 : Int32) (x2 : Int32) (σ : wS), K4 x1 x2 σ → Wx X 3 σ 4 [(0, .ref (ad X 176)), (1, .int x1), (2, .int x2)] []) (x1 : Int32) (z0 : Int32) (σ : wS) (h : b_X12_readScript_44  K4 Q x1 z0 σ) : Wx X 3 σ 44 [(0, .ref (ad X 176)), (1, .int x1)] [.int z0] := by
  unfold b_X12_readScript_44 at h
  refine x_istore_n (lv' := [(2, .int z0), (0, .ref (ad X 176)), (1, .int x1)]) F dX12_readScript_44 rfl (by decide) rfl ?_
  refine x_iload_n F dX12_readScript_45 rfl 0 rfl ?_
  refine x_if_eq (tgt := 60) F dX12_readScript_46 (by decide) (fun c => ?_) (fun c => ?_)
  · replace h := h.1 c
    refine x_sub (lv' := [(0, .ref (ad X 176)), (1, .int x1), (2, .int z0)]) [1, 2, 0] rfl ?_
    exact wb_X12_readScript_60 F hret  hK4 _ _ _ h
  · replace h := h.2 c
    refine x_iload_n F dX12_readScript_49 rfl 2 rfl ?_
    refine x_bipush (16 : Int32) F dX12_readScript_50 (by decide) ?_
    refine x_icmp_ne (tgt := 60) F dX12_readScript_52 (by decide) (fun c => ?_) (fun c => ?_)
    · replace h := h.1 c
      refine x_sub (lv' := [(0, .ref (ad X 176)), (1, .int x1), (2, .int z0)]) [1, 2, 0] rfl ?_
      exact wb_X12_readScript_60 F hret  hK4 _ _ _ h
    · replace h := h.2 c
      refine x_aload_n F dX12_readScript_55 rfl 1 rfl ?_
      refine x_callV_v F (c_X12_fails (xl X) (xg X) (xA X) F.2.2.1  h) (bw_V bw_16_21 bw_16_22 bw_16_23 bw_1_5 bw_17_0) rfl cd_X12_fails (Nat.le_of_ble_eq_true rfl) (Nat.le_of_ble_eq_true rfl) (kd_w (by decide) kz_176) rfl (cl_12 kz_176) rfl rfl (Nat.le_of_ble_eq_true rfl) dX12_readScript_56 (fun s1 h => ?_)
      exact hret _ _ _ h dX12_readScript_59
def l_X12_readScript_4   (Q : wS → Prop) : Nat → Int32 → Int32 → wS → Prop
  | 0, _, _, _ => False
  | n + 1, x1, x2, σ => (x2 = 0 → (∀ s1 : wS, s1 = upI σ 184 ((4 : Int32)).toNatClampNeg x1 → (w_X12_look  s1 (fun r3 s2 => (r3 = (-1 : Int32) → (Q s2)) ∧ (¬ r3 = (-1 : Int32) → (w_X12_fails  s2 (fun s4 => Q s4))))))) ∧ (¬ x2 = 0 → (w_X12_readStep ((4 : Int32) * ((64 : Int32) + x1)) σ (fun s6 => ((s6.1 176 4) = (-1 : Int32) → (∀ y8 : Int32, y8 = (x1 + (1 : Int32)) → (w_X12_look  s6 (fun r10 s9 => (¬ r10 = (59 : Int32) → (b_X12_readScript_44  (fun x1 x2 σ => l_X12_readScript_4   Q n x1 x2 σ) Q y8 (0 : Int32) s9)) ∧ (r10 = (59 : Int32) → (b_X12_readScript_44  (fun x1 x2 σ => l_X12_readScript_4   Q n x1 x2 σ) Q y8 (1 : Int32) s9)))))) ∧ (¬ (s6.1 176 4) = (-1 : Int32) → (Q s6)))))
set_option maxRecDepth 100000 in
set_option maxHeartbeats 4000000 in
theorem wl_X12_readScript_4 {X : XT} {Q : wS → Prop}  (F : Fx X cX12_readScript 3 RX12 wvX12_readScript 7 151) (hret : Rv X 3 cX12_readScript Q)    : ∀ (n : Nat) (x1 : Int32) (x2 : Int32) (σ : wS), l_X12_readScript_4   Q n x1 x2 σ → Wx X 3 σ 4 [(0, .ref (ad X 176)), (1, .int x1), (2, .int x2)] [] := by
  intro n
  induction n with
  | zero =>
    intros
    contradiction
  | succ n ih =>
    intro x1 x2 σ h
    simp only [l_X12_readScript_4] at h
    refine x_iload_n F dX12_readScript_4 rfl 2 rfl ?_
    refine x_if_eq (tgt := 77) F dX12_readScript_5 (by decide) (fun c => ?_) (fun c => ?_)
    · replace h := h.1 c
      refine x_aload_n F dX12_readScript_77 rfl 0 rfl ?_
      refine g_12_11 F kz_176 in_12 (mc bw_7_14) dX12_readScript_78 ?_
      refine x_iconst (4 : Int32) F dX12_readScript_81 (by decide) ?_
      refine x_iload_n F dX12_readScript_82 rfl 1 rfl ?_
      refine x_iast F kz_184 nz_184 (by unfold vp_in; decide) dX12_readScript_83 ?_
      refine x_nmS (fun s1 es1 => ?_)
      replace h := h s1 es1
      refine x_aload_n F dX12_readScript_84 rfl 0 rfl ?_
      refine x_callV_i F (c_X12_look (xl X) (xg X) (xA X) F.2.2.1  h) (bw_V bw_14_2 bw_14_3 bw_14_4 bw_1_5 bw_14_5) rfl cd_X12_look (Nat.le_of_ble_eq_true rfl) (Nat.le_of_ble_eq_true rfl) (kd_w (by decide) kz_176) rfl (cl_12 kz_176) rfl rfl (Nat.le_of_ble_eq_true rfl) dX12_readScript_85 (fun r3 s2 h => ?_)
      refine x_iconst (-1 : Int32) F dX12_readScript_88 (by decide) ?_
      refine x_icmp_eq (tgt := 96) F dX12_readScript_89 (by decide) (fun c => ?_) (fun c => ?_)
      · replace h := h.1 c
        exact hret _ _ _ h dX12_readScript_96
      · replace h := h.2 c
        refine x_aload_n F dX12_readScript_92 rfl 0 rfl ?_
        refine x_callV_v F (c_X12_fails (xl X) (xg X) (xA X) F.2.2.1  h) (bw_V bw_16_21 bw_16_22 bw_16_23 bw_1_5 bw_17_0) rfl cd_X12_fails (Nat.le_of_ble_eq_true rfl) (Nat.le_of_ble_eq_true rfl) (kd_w (by decide) kz_176) rfl (cl_12 kz_176) rfl rfl (Nat.le_of_ble_eq_true rfl) dX12_readScript_93 (fun s4 h => ?_)
        exact hret _ _ _ h dX12_readScript_96
    · replace h := h.2 c
      refine x_aload_n F dX12_readScript_8 rfl 0 rfl ?_
      refine x_iconst (4 : Int32) F dX12_readScript_9 (by decide) ?_
      refine x_bipush (64 : Int32) F dX12_readScript_10 (by decide) ?_
      refine x_iload_n F dX12_readScript_12 rfl 1 rfl ?_
      refine x_iadd F dX12_readScript_13 ?_
      refine x_imul F dX12_readScript_14 ?_
      refine x_callV_v F (c_X12_readStep (xl X) (xg X) (xA X) F.2.2.1  h) (bw_V bw_18_5 bw_18_6 bw_18_7 bw_1_5 bw_18_8) rfl cd_X12_readStep (Nat.le_of_ble_eq_true rfl) (Nat.le_of_ble_eq_true rfl) (kd_w (by decide) kz_176) rfl (cl_12 kz_176) rfl rfl (Nat.le_of_ble_eq_true rfl) dX12_readScript_15 (fun s6 h => ?_)
      refine x_aload_n F dX12_readScript_18 rfl 0 rfl ?_
      refine g_12_4 F kz_176 in_12 (mc bw_13_12) dX12_readScript_19 ?_
      refine x_iconst (-1 : Int32) F dX12_readScript_22 (by decide) ?_
      refine x_icmp_eq (tgt := 27) F dX12_readScript_23 (by decide) (fun c => ?_) (fun c => ?_)
      · replace h := h.1 c
        obtain ⟨y8, ey8⟩ : ∃ y : Int32, y = (x1 + (1 : Int32)) := ⟨_, rfl⟩
        replace h := h y8 ey8
        refine x_iinc (q := 1) (v := y8) (lv' := [(1, .int y8), (0, .ref (ad X 176)), (2, .int x2)]) F dX12_readScript_27 rfl (by rw [ey8]; rfl) (by decide) rfl ?_
        refine x_aload_n F dX12_readScript_30 rfl 1 rfl ?_
        refine x_callV_i F (c_X12_look (xl X) (xg X) (xA X) F.2.2.1  h) (bw_V bw_14_2 bw_14_3 bw_14_4 bw_1_5 bw_14_5) rfl cd_X12_look (Nat.le_of_ble_eq_true rfl) (Nat.le_of_ble_eq_true rfl) (kd_w (by decide) kz_176) rfl (cl_12 kz_176) rfl rfl (Nat.le_of_ble_eq_true rfl) dX12_readScript_31 (fun r10 s9 h => ?_)
        refine x_bipush (59 : Int32) F dX12_readScript_34 (by decide) ?_
        refine x_icmp_ne (tgt := 43) F dX12_readScript_36 (by decide) (fun c => ?_) (fun c => ?_)
        · replace h := h.1 c
          refine x_iconst (0 : Int32) F dX12_readScript_43 (by decide) ?_
          refine x_sub (lv' := [(0, .ref (ad X 176)), (1, .int y8)]) [1, 0] rfl ?_
          exact wb_X12_readScript_44 F hret  ih _ _ _ h
        · replace h := h.2 c
          refine x_iconst (1 : Int32) F dX12_readScript_39 (by decide) ?_
          refine x_goto (tgt := 44) F dX12_readScript_40 (by decide) ?_
          refine x_sub (lv' := [(0, .ref (ad X 176)), (1, .int y8)]) [1, 0] rfl ?_
          exact wb_X12_readScript_44 F hret  ih _ _ _ h
      · replace h := h.2 c
        exact hret _ _ _ h dX12_readScript_26
def w_X12_readScript   (σ : wS) (Q : wS → Prop) : Prop := (∃ m, l_X12_readScript_4   Q m (0 : Int32) (1 : Int32) σ)
set_option maxRecDepth 100000 in
set_option maxHeartbeats 4000000 in
theorem c_X12_readScript (l : Launch) (g : wG) (A : Nat → Prop) (hA : adO g A)    {σ : wS} {Q : wS → Prop} (h : w_X12_readScript   σ Q) : Mv l yX12_readScript wvX12_readScript 7 151 g A [.ref (g.2.2 176)] σ Q := by
  refine mt_v (own := RX12) (lv := [(0, .ref (g.2.2 176))]) (by decide) rfl rfl hA (Nat.le_of_ble_eq_true rfl) rfl ?_
  intro X hl hg hAA F hret
  subst hl hg hAA
  unfold w_X12_readScript at h
  refine x_iconst (0 : Int32) F dX12_readScript_0 (by decide) ?_
  refine x_istore_n (lv' := [(1, .int (0 : Int32)), (0, .ref (ad X 176))]) F dX12_readScript_1 rfl (by decide) rfl ?_
  refine x_iconst (1 : Int32) F dX12_readScript_2 (by decide) ?_
  refine x_istore_n (lv' := [(2, .int (1 : Int32)), (1, .int (0 : Int32)), (0, .ref (ad X 176))]) F dX12_readScript_3 rfl (by decide) rfl ?_
  refine x_sub (lv' := [(0, .ref (ad X 176)), (1, .int (0 : Int32)), (2, .int (1 : Int32))]) [2, 1, 0] rfl ?_
  obtain ⟨n2, h⟩ := h
  exact wl_X12_readScript_4 F hret   n2 _ _ _ h
/-! X12_fault -/
abbrev wvX12_fault : List Cond := Cond.code yX12_fault cX12_fault 2 (some .int) :: wsL_law
theorem cd_X12_fault : okN yX12_fault RX12 1 := by unfold okN; decide +kernel
def b_X12_fault_43   (Q : Int32 → wS → Prop)  (σ : wS) : Prop := Q (σ.1 176 4) σ
set_option maxRecDepth 100000 in
set_option maxHeartbeats 4000000 in
theorem wb_X12_fault_43 {X : XT} {Q : Int32 → wS → Prop}  (F : Fx X cX12_fault 2 RX12 wvX12_fault 9 196) (hret : Ri X 2 cX12_fault .int Q)     (σ : wS) (h : b_X12_fault_43   Q  σ) : Wx X 2 σ 43 [(0, .ref (ad X 176))] [] := by
  unfold b_X12_fault_43 at h
  refine x_aload_n F dX12_fault_43 rfl 0 rfl ?_
  refine g_12_4 F kz_176 in_12 (mc bw_13_12) dX12_fault_44 ?_
  exact hret _ _ _ _ h rfl dX12_fault_47
def w_X12_fault  (p0 : Int32) (σ : wS) (Q : Int32 → wS → Prop) : Prop := ∀ s1 : wS, s1 = upI σ 176 0 (0 : Int32) → (w_X12_isIn (p0).toInt64 (0 : Int64) (1 : Int64) s1 (fun r3 s2 => (¬ r3 = 0 → (∀ s4 : wS, s4 = upI s2 176 3 (0 : Int32) → (∀ s5 : wS, s5 = upI s4 176 4 (-1 : Int32) → ((¬ p0 = 0 → (w_X12_readScript  s5 (fun s6 => b_X12_fault_43   Q  s6))) ∧ (p0 = 0 → (w_X12_readMooring  s5 (fun s8 => b_X12_fault_43   Q  s8))))))) ∧ (r3 = 0 → (Q (-2 : Int32) s2))))
set_option maxRecDepth 100000 in
set_option maxHeartbeats 4000000 in
theorem c_X12_fault (l : Launch) (g : wG) (A : Nat → Prop) (hA : adO g A)   {p0 : Int32} {σ : wS} {Q : Int32 → wS → Prop} (h : w_X12_fault  p0 σ Q) : Mi l yX12_fault wvX12_fault 9 196 g A [.ref (g.2.2 176), .int p0] σ Q := by
  refine mt_i (own := RX12) (lv := [(0, .ref (g.2.2 176)), (1, .int p0)]) (by decide) rfl rfl hA (Nat.le_of_ble_eq_true rfl) rfl ?_
  intro X hl hg hAA F hret
  subst hl hg hAA
  unfold w_X12_fault at h
  refine x_aload_n F dX12_fault_0 rfl 0 rfl ?_
  refine x_iconst (0 : Int32) F dX12_fault_1 (by decide) ?_
  refine q_12_0 F kz_176 in_12 (mc bw_8_21) dX12_fault_2 ?_
  refine x_nmS (fun s1 es1 => ?_)
  replace h := h s1 es1
  refine x_iload_n F dX12_fault_5 rfl 1 rfl ?_
  refine x_i2l F dX12_fault_6 ?_
  refine x_lconst (0 : Int64) F dX12_fault_7 (by decide) ?_
  refine x_lconst (1 : Int64) F dX12_fault_8 (by decide) ?_
  refine x_callT_i F (c_X12_isIn (xl X) (xg X) (xA X) F.2.2.1  h) (bw_S bw_13_13 bw_13_14 bw_1_5 bw_13_15) rfl cd_X12_isIn (Nat.le_of_ble_eq_true rfl) (Nat.le_of_ble_eq_true rfl) rfl rfl (Nat.le_of_ble_eq_true rfl) dX12_fault_9 (fun r3 s2 h => ?_)
  refine x_if_ne (tgt := 18) F dX12_fault_12 (by decide) (fun c => ?_) (fun c => ?_)
  · replace h := h.1 c
    refine x_aload_n F dX12_fault_18 rfl 0 rfl ?_
    refine x_iconst (0 : Int32) F dX12_fault_19 (by decide) ?_
    refine q_12_3 F kz_176 in_12 (mc bw_13_11) dX12_fault_20 ?_
    refine x_nmS (fun s4 es4 => ?_)
    replace h := h s4 es4
    refine x_aload_n F dX12_fault_23 rfl 0 rfl ?_
    refine x_iconst (-1 : Int32) F dX12_fault_24 (by decide) ?_
    refine q_12_4 F kz_176 in_12 (mc bw_13_12) dX12_fault_25 ?_
    refine x_nmS (fun s5 es5 => ?_)
    replace h := h s5 es5
    refine x_iload_n F dX12_fault_28 rfl 1 rfl ?_
    refine x_if_ne (tgt := 39) F dX12_fault_29 (by decide) (fun c => ?_) (fun c => ?_)
    · replace h := h.1 c
      refine x_aload_n F dX12_fault_39 rfl 0 rfl ?_
      refine x_callV_v F (c_X12_readScript (xl X) (xg X) (xA X) F.2.2.1  h) (bw_V bw_18_1 bw_18_2 bw_18_3 bw_1_5 bw_18_4) rfl cd_X12_readScript (Nat.le_of_ble_eq_true rfl) (Nat.le_of_ble_eq_true rfl) (kd_w (by decide) kz_176) rfl (cl_12 kz_176) rfl rfl (Nat.le_of_ble_eq_true rfl) dX12_fault_40 (fun s6 h => ?_)
      refine x_sub (lv' := [(0, .ref (ad X 176))]) [0] rfl ?_
      exact wb_X12_fault_43 F hret    _ h
    · replace h := h.2 c
      refine x_aload_n F dX12_fault_32 rfl 0 rfl ?_
      refine x_callV_v F (c_X12_readMooring (xl X) (xg X) (xA X) F.2.2.1  h) (bw_V bw_13_16 bw_13_17 bw_13_18 bw_1_5 bw_13_19) rfl cd_X12_readMooring (Nat.le_of_ble_eq_true rfl) (Nat.le_of_ble_eq_true rfl) (kd_w (by decide) kz_176) rfl (cl_12 kz_176) rfl rfl (Nat.le_of_ble_eq_true rfl) dX12_fault_33 (fun s8 h => ?_)
      refine x_goto (tgt := 43) F dX12_fault_36 (by decide) ?_
      refine x_sub (lv' := [(0, .ref (ad X 176))]) [0] rfl ?_
      exact wb_X12_fault_43 F hret    _ h
  · replace h := h.2 c
    refine x_bipush (-2 : Int32) F dX12_fault_15 (by decide) ?_
    exact hret _ _ _ _ h rfl dX12_fault_17
/-! X12_copyAll -/
abbrev wvX12_copyAll : List Cond := Cond.code yX12_copyAll cX12_copyAll 3 none :: wsL_law
theorem cd_X12_copyAll : okN yX12_copyAll RX12 2 := by unfold okN; decide +kernel
def l_X12_copyAll_2 (p0 : Nat) (p1 : Nat)  (Q : wS → Prop) : Nat → Int32 → wS → Prop
  | 0, _, _ => False
  | n + 1, x2, σ => ((nI (ln p0)) ≤ x2 → (Q σ)) ∧ (¬ (nI (ln p0)) ≤ x2 → (vp_in x2 (ln p0) ∧ (vp_in x2 (ln p1) ∧ (∀ s1 : wS, s1 = upI σ p1 (x2).toNatClampNeg (σ.1 p0 (x2).toNatClampNeg) → (∀ y2 : Int32, y2 = (x2 + (1 : Int32)) → (l_X12_copyAll_2 p0 p1  Q n y2 s1))))))
set_option maxRecDepth 100000 in
set_option maxHeartbeats 4000000 in
theorem wl_X12_copyAll_2 {X : XT} {Q : wS → Prop} {p0 : Nat} {p1 : Nat} (F : Fx X cX12_copyAll 3 RX12 wvX12_copyAll 0 0) (hret : Rv X 3 cX12_copyAll Q) (k_p0 : kd p0 = 14) (k_p1 : kd p1 = 14)   : ∀ (n : Nat) (x2 : Int32) (σ : wS), l_X12_copyAll_2 p0 p1  Q n x2 σ → Wx X 3 σ 2 [(0, .ref (ad X p0)), (1, .ref (ad X p1)), (2, .int x2)] [] := by
  intro n
  induction n with
  | zero =>
    intros
    contradiction
  | succ n ih =>
    intro x2 σ h
    simp only [l_X12_copyAll_2] at h
    refine x_iload_n F dX12_copyAll_2 rfl 2 rfl ?_
    refine x_aload_n F dX12_copyAll_3 rfl 0 rfl ?_
    refine x_alen F k_p0 rfl dX12_copyAll_4 ?_
    refine x_icmp_ge (tgt := 20) F dX12_copyAll_5 (by decide) (fun c => ?_) (fun c => ?_)
    · replace h := h.1 c
      exact hret _ _ _ h dX12_copyAll_20
    · replace h := h.2 c
      refine x_aload_n F dX12_copyAll_8 rfl 1 rfl ?_
      refine x_iload_n F dX12_copyAll_9 rfl 2 rfl ?_
      refine x_aload_n F dX12_copyAll_10 rfl 0 rfl ?_
      refine x_iload_n F dX12_copyAll_11 rfl 2 rfl ?_
      obtain ⟨hj, h⟩ := h
      refine x_iald F k_p0 rfl hj dX12_copyAll_12 ?_
      obtain ⟨hz, h⟩ := h
      refine x_iast F k_p1 rfl hz dX12_copyAll_13 ?_
      refine x_nmS (fun s1 es1 => ?_)
      replace h := h s1 es1
      obtain ⟨y2, ey2⟩ : ∃ y : Int32, y = (x2 + (1 : Int32)) := ⟨_, rfl⟩
      replace h := h y2 ey2
      refine x_iinc (q := 2) (v := y2) (lv' := [(2, .int y2), (0, .ref (ad X p0)), (1, .ref (ad X p1))]) F dX12_copyAll_14 rfl (by rw [ey2]; rfl) (by decide) rfl ?_
      refine x_goto (tgt := 2) F dX12_copyAll_17 (by decide) ?_
      refine x_sub (lv' := [(0, .ref (ad X p0)), (1, .ref (ad X p1)), (2, .int y2)]) [1, 2, 0] rfl ?_
      exact ih _ _ h
def w_X12_copyAll (p0 : Nat) (p1 : Nat)  (σ : wS) (Q : wS → Prop) : Prop := (∃ m, l_X12_copyAll_2 p0 p1  Q m (0 : Int32) σ)
set_option maxRecDepth 100000 in
set_option maxHeartbeats 4000000 in
theorem c_X12_copyAll (l : Launch) (g : wG) (A : Nat → Prop) (hA : adO g A) {p0 : Nat} {p1 : Nat} (k_p0 : kd p0 = 14) (k_p1 : kd p1 = 14)  {σ : wS} {Q : wS → Prop} (h : w_X12_copyAll p0 p1  σ Q) : Mv l yX12_copyAll wvX12_copyAll 0 0 g A [.ref (g.2.2 p0), .ref (g.2.2 p1)] σ Q := by
  refine mt_v (own := RX12) (lv := [(0, .ref (g.2.2 p0)), (1, .ref (g.2.2 p1))]) (by decide) rfl rfl hA (Nat.le_of_ble_eq_true rfl) rfl ?_
  intro X hl hg hAA F hret
  subst hl hg hAA
  unfold w_X12_copyAll at h
  refine x_iconst (0 : Int32) F dX12_copyAll_0 (by decide) ?_
  refine x_istore_n (lv' := [(2, .int (0 : Int32)), (0, .ref (ad X p0)), (1, .ref (ad X p1))]) F dX12_copyAll_1 rfl (by decide) rfl ?_
  refine x_sub (lv' := [(0, .ref (ad X p0)), (1, .ref (ad X p1)), (2, .int (0 : Int32))]) [1, 2, 0] rfl ?_
  obtain ⟨n2, h⟩ := h
  exact wl_X12_copyAll_2 F hret k_p0 k_p1  n2 _ _ h
/-! X12_laysWays -/
abbrev wvX12_laysWays : List Cond := Cond.code yX12_laysWays cX12_laysWays 3 none :: wsL_law
theorem cd_X12_laysWays : okN yX12_laysWays RX12 0 := by unfold okN; decide +kernel
def l_X12_laysWays_2   (Q : wS → Prop) : Nat → Int32 → wS → Prop
  | 0, _, _ => False
  | n + 1, x1, σ => ((σ.1 176 14) ≤ x1 → (Q σ)) ∧ (¬ (σ.1 176 14) ≤ x1 → (∀ y1 : Int32, y1 = ((7 : Int32) * x1) → (vp_in (y1 + (3 : Int32)) 56 ∧ (vp_in ((3 : Int32) * x1) 24 ∧ (∀ s2 : wS, s2 = upI σ 182 (((3 : Int32) * x1)).toNatClampNeg (σ.1 181 ((y1 + (3 : Int32))).toNatClampNeg) → (vp_in (y1 + (4 : Int32)) 56 ∧ (vp_in (((3 : Int32) * x1) + (1 : Int32)) 24 ∧ (∀ s3 : wS, s3 = upI s2 182 ((((3 : Int32) * x1) + (1 : Int32))).toNatClampNeg (s2.1 181 ((y1 + (4 : Int32))).toNatClampNeg) → (vp_in (y1 + (1 : Int32)) 56 ∧ (vp_in (y1 + (4 : Int32)) 56 ∧ (vp_in (y1 + (2 : Int32)) 56 ∧ (vp_in (y1 + (3 : Int32)) 56 ∧ (vp_in (((3 : Int32) * x1) + (2 : Int32)) 24 ∧ (∀ s4 : wS, s4 = upI s3 182 ((((3 : Int32) * x1) + (2 : Int32))).toNatClampNeg (((s3.1 181 ((y1 + (1 : Int32))).toNatClampNeg) * (s3.1 181 ((y1 + (4 : Int32))).toNatClampNeg)) - ((s3.1 181 ((y1 + (2 : Int32))).toNatClampNeg) * (s3.1 181 ((y1 + (3 : Int32))).toNatClampNeg))) → (∀ y5 : Int32, y5 = (x1 + (1 : Int32)) → (l_X12_laysWays_2   Q n y5 s4))))))))))))))))
set_option maxRecDepth 100000 in
set_option maxHeartbeats 4000000 in
theorem wl_X12_laysWays_2 {X : XT} {Q : wS → Prop}  (F : Fx X cX12_laysWays 3 RX12 wvX12_laysWays 0 0) (hret : Rv X 3 cX12_laysWays Q)    : ∀ (n : Nat) (x1 : Int32) (σ : wS), l_X12_laysWays_2   Q n x1 σ → Wx X 3 σ 2 [(0, .ref (ad X 176)), (1, .int x1)] [] := by
  intro n
  induction n with
  | zero =>
    intros
    contradiction
  | succ n ih =>
    intro x1 σ h
    simp only [l_X12_laysWays_2] at h
    refine x_iload_n F dX12_laysWays_2 rfl 1 rfl ?_
    refine x_aload_n F dX12_laysWays_3 rfl 0 rfl ?_
    refine g_12_14 F kz_176 in_12 (mc bw_22_18) dX12_laysWays_4 ?_
    refine x_icmp_ge (tgt := 100) F dX12_laysWays_7 (by decide) (fun c => ?_) (fun c => ?_)
    · replace h := h.1 c
      exact hret _ _ _ h dX12_laysWays_100
    · replace h := h.2 c
      refine x_bipush (7 : Int32) F dX12_laysWays_10 (by decide) ?_
      refine x_iload_n F dX12_laysWays_12 rfl 1 rfl ?_
      refine x_imul F dX12_laysWays_13 ?_
      refine x_topi (fun y1 ey1 => ?_)
      replace h := h y1 ey1
      refine x_istore_n (lv' := [(2, .int y1), (0, .ref (ad X 176)), (1, .int x1)]) F dX12_laysWays_14 rfl (by decide) rfl ?_
      refine x_aload_n F dX12_laysWays_15 rfl 1 rfl ?_
      refine g_12_9 F kz_176 in_12 (mc bw_7_12) dX12_laysWays_16 ?_
      refine x_iconst (3 : Int32) F dX12_laysWays_19 (by decide) ?_
      refine x_iload_n F dX12_laysWays_20 rfl 2 rfl ?_
      refine x_imul F dX12_laysWays_21 ?_
      refine x_aload_n F dX12_laysWays_22 rfl 1 rfl ?_
      refine g_12_8 F kz_176 in_12 (mc bw_7_11) dX12_laysWays_23 ?_
      refine x_iload_n F dX12_laysWays_26 rfl 0 rfl ?_
      refine x_iconst (3 : Int32) F dX12_laysWays_27 (by decide) ?_
      refine x_iadd F dX12_laysWays_28 ?_
      obtain ⟨hj, h⟩ := h
      refine x_iald F kz_181 nz_181 hj dX12_laysWays_29 ?_
      obtain ⟨hz, h⟩ := h
      refine x_iast F kz_182 nz_182 hz dX12_laysWays_30 ?_
      refine x_nmS (fun s2 es2 => ?_)
      replace h := h s2 es2
      refine x_aload_n F dX12_laysWays_31 rfl 1 rfl ?_
      refine g_12_9 F kz_176 in_12 (mc bw_7_12) dX12_laysWays_32 ?_
      refine x_iconst (3 : Int32) F dX12_laysWays_35 (by decide) ?_
      refine x_iload_n F dX12_laysWays_36 rfl 2 rfl ?_
      refine x_imul F dX12_laysWays_37 ?_
      refine x_iconst (1 : Int32) F dX12_laysWays_38 (by decide) ?_
      refine x_iadd F dX12_laysWays_39 ?_
      refine x_aload_n F dX12_laysWays_40 rfl 1 rfl ?_
      refine g_12_8 F kz_176 in_12 (mc bw_7_11) dX12_laysWays_41 ?_
      refine x_iload_n F dX12_laysWays_44 rfl 0 rfl ?_
      refine x_iconst (4 : Int32) F dX12_laysWays_45 (by decide) ?_
      refine x_iadd F dX12_laysWays_46 ?_
      obtain ⟨hj, h⟩ := h
      refine x_iald F kz_181 nz_181 hj dX12_laysWays_47 ?_
      obtain ⟨hz, h⟩ := h
      refine x_iast F kz_182 nz_182 hz dX12_laysWays_48 ?_
      refine x_nmS (fun s3 es3 => ?_)
      replace h := h s3 es3
      refine x_aload_n F dX12_laysWays_49 rfl 1 rfl ?_
      refine g_12_9 F kz_176 in_12 (mc bw_7_12) dX12_laysWays_50 ?_
      refine x_iconst (3 : Int32) F dX12_laysWays_53 (by decide) ?_
      refine x_iload_n F dX12_laysWays_54 rfl 2 rfl ?_
      refine x_imul F dX12_laysWays_55 ?_
      refine x_iconst (2 : Int32) F dX12_laysWays_56 (by decide) ?_
      refine x_iadd F dX12_laysWays_57 ?_
      refine x_aload_n F dX12_laysWays_58 rfl 1 rfl ?_
      refine g_12_8 F kz_176 in_12 (mc bw_7_11) dX12_laysWays_59 ?_
      refine x_iload_n F dX12_laysWays_62 rfl 0 rfl ?_
      refine x_iconst (1 : Int32) F dX12_laysWays_63 (by decide) ?_
      refine x_iadd F dX12_laysWays_64 ?_
      obtain ⟨hj, h⟩ := h
      refine x_iald F kz_181 nz_181 hj dX12_laysWays_65 ?_
      refine x_aload_n F dX12_laysWays_66 rfl 1 rfl ?_
      refine g_12_8 F kz_176 in_12 (mc bw_7_11) dX12_laysWays_67 ?_
      refine x_iload_n F dX12_laysWays_70 rfl 0 rfl ?_
      refine x_iconst (4 : Int32) F dX12_laysWays_71 (by decide) ?_
      refine x_iadd F dX12_laysWays_72 ?_
      obtain ⟨hj, h⟩ := h
      refine x_iald F kz_181 nz_181 hj dX12_laysWays_73 ?_
      refine x_imul F dX12_laysWays_74 ?_
      refine x_aload_n F dX12_laysWays_75 rfl 1 rfl ?_
      refine g_12_8 F kz_176 in_12 (mc bw_7_11) dX12_laysWays_76 ?_
      refine x_iload_n F dX12_laysWays_79 rfl 0 rfl ?_
      refine x_iconst (2 : Int32) F dX12_laysWays_80 (by decide) ?_
      refine x_iadd F dX12_laysWays_81 ?_
      obtain ⟨hj, h⟩ := h
      refine x_iald F kz_181 nz_181 hj dX12_laysWays_82 ?_
      refine x_aload_n F dX12_laysWays_83 rfl 1 rfl ?_
      refine g_12_8 F kz_176 in_12 (mc bw_7_11) dX12_laysWays_84 ?_
      refine x_iload_n F dX12_laysWays_87 rfl 0 rfl ?_
      refine x_iconst (3 : Int32) F dX12_laysWays_88 (by decide) ?_
      refine x_iadd F dX12_laysWays_89 ?_
      obtain ⟨hj, h⟩ := h
      refine x_iald F kz_181 nz_181 hj dX12_laysWays_90 ?_
      refine x_imul F dX12_laysWays_91 ?_
      refine x_isub F dX12_laysWays_92 ?_
      obtain ⟨hz, h⟩ := h
      refine x_iast F kz_182 nz_182 hz dX12_laysWays_93 ?_
      refine x_nmS (fun s4 es4 => ?_)
      replace h := h s4 es4
      obtain ⟨y5, ey5⟩ : ∃ y : Int32, y = (x1 + (1 : Int32)) := ⟨_, rfl⟩
      replace h := h y5 ey5
      refine x_iinc (q := 2) (v := y5) (lv' := [(1, .int y5), (2, .int y1), (0, .ref (ad X 176))]) F dX12_laysWays_94 rfl (by rw [ey5]; rfl) (by decide) rfl ?_
      refine x_goto (tgt := 2) F dX12_laysWays_97 (by decide) ?_
      refine x_sub (lv' := [(0, .ref (ad X 176)), (1, .int y5)]) [2, 0] rfl ?_
      exact ih _ _ h
def w_X12_laysWays   (σ : wS) (Q : wS → Prop) : Prop := (∃ m, l_X12_laysWays_2   Q m (0 : Int32) σ)
set_option maxRecDepth 100000 in
set_option maxHeartbeats 4000000 in
theorem c_X12_laysWays (l : Launch) (g : wG) (A : Nat → Prop) (hA : adO g A)    {σ : wS} {Q : wS → Prop} (h : w_X12_laysWays   σ Q) : Mv l yX12_laysWays wvX12_laysWays 0 0 g A [.ref (g.2.2 176)] σ Q := by
  refine mt_v (own := RX12) (lv := [(0, .ref (g.2.2 176))]) (by decide) rfl rfl hA (Nat.le_of_ble_eq_true rfl) rfl ?_
  intro X hl hg hAA F hret
  subst hl hg hAA
  unfold w_X12_laysWays at h
  refine x_iconst (0 : Int32) F dX12_laysWays_0 (by decide) ?_
  refine x_istore_n (lv' := [(1, .int (0 : Int32)), (0, .ref (ad X 176))]) F dX12_laysWays_1 rfl (by decide) rfl ?_
  refine x_sub (lv' := [(0, .ref (ad X 176)), (1, .int (0 : Int32))]) [1, 0] rfl ?_
  obtain ⟨n2, h⟩ := h
  exact wl_X12_laysWays_2 F hret   n2 _ _ h
/-! X12_those -/
abbrev wvX12_those : List Cond := Cond.code yX12_those cX12_those 5 (some .int) :: wsL_law
theorem cd_X12_those : okN yX12_those RX12 3 := by unfold okN; decide +kernel
def b_X12_those_31 (p0 : Nat) (K5 : Int32 → Int32 → Int32 → Int32 → wS → Prop) (Q : Int32 → wS → Prop) (x1 : Int32) (x2 : Int32) (x4 : Int32) (z0 : Int32) (z1 : Int32) (σ : wS) : Prop := ∀ y1 : Int32, y1 = (z1 ||| z0) → (∀ y2 : Int32, y2 = (x4 + (1 : Int32)) → (K5 x1 x2 y1 y2 σ))
set_option maxRecDepth 100000 in
set_option maxHeartbeats 4000000 in
theorem wb_X12_those_31 {X : XT} {Q : Int32 → wS → Prop} {p0 : Nat} (F : Fx X cX12_those 5 RX12 wvX12_those 0 0) (hret : Ri X 5 cX12_those .int Q) (k_p0 : kd p0 = 14) {K5 : Int32 → Int32 → Int32 → Int32 → wS → Prop} (hK5 : ∀ (x1 : Int32) (x2 : Int32) (x3 : Int32) (x4 : Int32) (σ : wS), K5 x1 x2 x3 x4 σ → Wx X 5 σ 5 [(0, .ref (ad X p0)), (1, .int x1), (2, .int x2), (3, .int x3), (4, .int x4)] []) (x1 : Int32) (x2 : Int32) (x4 : Int32) (z0 : Int32) (z1 : Int32) (σ : wS) (h : b_X12_those_31 p0 K5 Q x1 x2 x4 z0 z1 σ) : Wx X 5 σ 31 [(0, .ref (ad X p0)), (1, .int x1), (2, .int x2), (4, .int x4)] [.int z0, .int z1] := by
  unfold b_X12_those_31 at h
  refine x_ior F dX12_those_31 ?_
  refine x_topi (fun y1 ey1 => ?_)
  replace h := h y1 ey1
  refine x_istore_n (lv' := [(3, .int y1), (0, .ref (ad X p0)), (1, .int x1), (2, .int x2), (4, .int x4)]) F dX12_those_32 rfl (by decide) rfl ?_
  obtain ⟨y2, ey2⟩ : ∃ y : Int32, y = (x4 + (1 : Int32)) := ⟨_, rfl⟩
  replace h := h y2 ey2
  refine x_iinc (q := 4) (v := y2) (lv' := [(4, .int y2), (3, .int y1), (0, .ref (ad X p0)), (1, .int x1), (2, .int x2)]) F dX12_those_33 rfl (by rw [ey2]; rfl) (by decide) rfl ?_
  refine x_goto (tgt := 5) F dX12_those_36 (by decide) ?_
  refine x_sub (lv' := [(0, .ref (ad X p0)), (1, .int x1), (2, .int x2), (3, .int y1), (4, .int y2)]) [2, 3, 4, 1, 0] rfl ?_
  exact hK5 _ _ _ _ _ h
def l_X12_those_5 (p0 : Nat)  (Q : Int32 → wS → Prop) : Nat → Int32 → Int32 → Int32 → Int32 → wS → Prop
  | 0, _, _, _, _, _ => False
  | n + 1, x1, x2, x3, x4, σ => (x1 ≤ x4 → (Q x3 σ)) ∧ (¬ x1 ≤ x4 → (vp_in ((8 : Int32) + x4) (ln p0) ∧ ((¬ (σ.1 p0 (((8 : Int32) + x4)).toNatClampNeg) = x2 → (b_X12_those_31 p0 (fun x1 x2 x3 x4 σ => l_X12_those_5 p0  Q n x1 x2 x3 x4 σ) Q x1 x2 x4 (0 : Int32) x3 σ)) ∧ ((σ.1 p0 (((8 : Int32) + x4)).toNatClampNeg) = x2 → (b_X12_those_31 p0 (fun x1 x2 x3 x4 σ => l_X12_those_5 p0  Q n x1 x2 x3 x4 σ) Q x1 x2 x4 ((1 : Int32) <<< (x4 &&& 31)) x3 σ)))))
set_option maxRecDepth 100000 in
set_option maxHeartbeats 4000000 in
theorem wl_X12_those_5 {X : XT} {Q : Int32 → wS → Prop} {p0 : Nat} (F : Fx X cX12_those 5 RX12 wvX12_those 0 0) (hret : Ri X 5 cX12_those .int Q) (k_p0 : kd p0 = 14)   : ∀ (n : Nat) (x1 : Int32) (x2 : Int32) (x3 : Int32) (x4 : Int32) (σ : wS), l_X12_those_5 p0  Q n x1 x2 x3 x4 σ → Wx X 5 σ 5 [(0, .ref (ad X p0)), (1, .int x1), (2, .int x2), (3, .int x3), (4, .int x4)] [] := by
  intro n
  induction n with
  | zero =>
    intros
    contradiction
  | succ n ih =>
    intro x1 x2 x3 x4 σ h
    simp only [l_X12_those_5] at h
    refine x_iload F dX12_those_5 4 rfl ?_
    refine x_iload_n F dX12_those_7 rfl 1 rfl ?_
    refine x_icmp_ge (tgt := 39) F dX12_those_8 (by decide) (fun c => ?_) (fun c => ?_)
    · replace h := h.1 c
      refine x_iload_n F dX12_those_39 rfl 3 rfl ?_
      exact hret _ _ _ _ h rfl dX12_those_40
    · replace h := h.2 c
      refine x_iload_n F dX12_those_11 rfl 3 rfl ?_
      refine x_aload_n F dX12_those_12 rfl 0 rfl ?_
      refine x_bipush (8 : Int32) F dX12_those_13 (by decide) ?_
      refine x_iload F dX12_those_15 4 rfl ?_
      refine x_iadd F dX12_those_17 ?_
      obtain ⟨hj, h⟩ := h
      refine x_iald F k_p0 rfl hj dX12_those_18 ?_
      refine x_iload_n F dX12_those_19 rfl 2 rfl ?_
      refine x_icmp_ne (tgt := 30) F dX12_those_20 (by decide) (fun c => ?_) (fun c => ?_)
      · replace h := h.1 c
        refine x_iconst (0 : Int32) F dX12_those_30 (by decide) ?_
        refine x_sub (lv' := [(0, .ref (ad X p0)), (1, .int x1), (2, .int x2), (4, .int x4)]) [0, 1, 2, 4] rfl ?_
        exact wb_X12_those_31 F hret k_p0 ih _ _ _ _ _ _ h
      · replace h := h.2 c
        refine x_iconst (1 : Int32) F dX12_those_23 (by decide) ?_
        refine x_iload F dX12_those_24 4 rfl ?_
        refine x_ishl F dX12_those_26 ?_
        refine x_goto (tgt := 31) F dX12_those_27 (by decide) ?_
        refine x_sub (lv' := [(0, .ref (ad X p0)), (1, .int x1), (2, .int x2), (4, .int x4)]) [0, 1, 2, 4] rfl ?_
        exact wb_X12_those_31 F hret k_p0 ih _ _ _ _ _ _ h
def w_X12_those (p0 : Nat) (p1 : Int32) (p2 : Int32) (σ : wS) (Q : Int32 → wS → Prop) : Prop := (∃ m, l_X12_those_5 p0  Q m p1 p2 (0 : Int32) (0 : Int32) σ)
set_option maxRecDepth 100000 in
set_option maxHeartbeats 4000000 in
theorem c_X12_those (l : Launch) (g : wG) (A : Nat → Prop) (hA : adO g A) {p0 : Nat} (k_p0 : kd p0 = 14) {p1 : Int32} {p2 : Int32} {σ : wS} {Q : Int32 → wS → Prop} (h : w_X12_those p0 p1 p2 σ Q) : Mi l yX12_those wvX12_those 0 0 g A [.ref (g.2.2 p0), .int p1, .int p2] σ Q := by
  refine mt_i (own := RX12) (lv := [(0, .ref (g.2.2 p0)), (1, .int p1), (2, .int p2)]) (by decide) rfl rfl hA (Nat.le_of_ble_eq_true rfl) rfl ?_
  intro X hl hg hAA F hret
  subst hl hg hAA
  unfold w_X12_those at h
  refine x_iconst (0 : Int32) F dX12_those_0 (by decide) ?_
  refine x_istore_n (lv' := [(3, .int (0 : Int32)), (0, .ref (ad X p0)), (1, .int p1), (2, .int p2)]) F dX12_those_1 rfl (by decide) rfl ?_
  refine x_iconst (0 : Int32) F dX12_those_2 (by decide) ?_
  refine x_istore (lv' := [(4, .int (0 : Int32)), (3, .int (0 : Int32)), (0, .ref (ad X p0)), (1, .int p1), (2, .int p2)]) F dX12_those_3 (by decide) rfl ?_
  refine x_sub (lv' := [(0, .ref (ad X p0)), (1, .int p1), (2, .int p2), (3, .int (0 : Int32)), (4, .int (0 : Int32))]) [2, 3, 4, 1, 0] rfl ?_
  obtain ⟨n2, h⟩ := h
  exact wl_X12_those_5 F hret k_p0  n2 _ _ _ _ _ h
/-! X12_forgets -/
abbrev wvX12_forgets : List Cond := Cond.code yX12_forgets cX12_forgets 2 none :: wsL_law
theorem cd_X12_forgets : okN yX12_forgets RX12 0 := by unfold okN; decide +kernel
def l_X12_forgets_2   (Q : wS → Prop) : Nat → Int32 → wS → Prop
  | 0, _, _ => False
  | n + 1, x1, σ => ((256 : Int32) ≤ x1 → (Q σ)) ∧ (¬ (256 : Int32) ≤ x1 → (vp_in x1 256 ∧ (∀ s1 : wS, s1 = upI σ 195 (x1).toNatClampNeg (vp_nar .boolean (0 : Int32)) → (∀ y2 : Int32, y2 = (x1 + (1 : Int32)) → (l_X12_forgets_2   Q n y2 s1)))))
set_option maxRecDepth 100000 in
set_option maxHeartbeats 4000000 in
theorem wl_X12_forgets_2 {X : XT} {Q : wS → Prop}  (F : Fx X cX12_forgets 2 RX12 wvX12_forgets 0 0) (hret : Rv X 2 cX12_forgets Q)    : ∀ (n : Nat) (x1 : Int32) (σ : wS), l_X12_forgets_2   Q n x1 σ → Wx X 2 σ 2 [(0, .ref (ad X 176)), (1, .int x1)] [] := by
  intro n
  induction n with
  | zero =>
    intros
    contradiction
  | succ n ih =>
    intro x1 σ h
    simp only [l_X12_forgets_2] at h
    refine x_iload_n F dX12_forgets_2 rfl 1 rfl ?_
    refine x_sipush (256 : Int32) F dX12_forgets_3 (by decide) ?_
    refine x_icmp_ge (tgt := 22) F dX12_forgets_6 (by decide) (fun c => ?_) (fun c => ?_)
    · replace h := h.1 c
      exact hret _ _ _ h dX12_forgets_22
    · replace h := h.2 c
      refine x_aload_n F dX12_forgets_9 rfl 0 rfl ?_
      refine g_12_30 F kz_176 in_12 (mc bw_8_1) dX12_forgets_10 ?_
      refine x_iload_n F dX12_forgets_13 rfl 1 rfl ?_
      refine x_iconst (0 : Int32) F dX12_forgets_14 (by decide) ?_
      obtain ⟨hz, h⟩ := h
      refine x_zast F kz_195 nz_195 hz dX12_forgets_15 ?_
      refine x_nmS (fun s1 es1 => ?_)
      replace h := h s1 es1
      obtain ⟨y2, ey2⟩ : ∃ y : Int32, y = (x1 + (1 : Int32)) := ⟨_, rfl⟩
      replace h := h y2 ey2
      refine x_iinc (q := 1) (v := y2) (lv' := [(1, .int y2), (0, .ref (ad X 176))]) F dX12_forgets_16 rfl (by rw [ey2]; rfl) (by decide) rfl ?_
      refine x_goto (tgt := 2) F dX12_forgets_19 (by decide) ?_
      refine x_sub (lv' := [(0, .ref (ad X 176)), (1, .int y2)]) [1, 0] rfl ?_
      exact ih _ _ h
def w_X12_forgets   (σ : wS) (Q : wS → Prop) : Prop := (∃ m, l_X12_forgets_2   Q m (0 : Int32) σ)
set_option maxRecDepth 100000 in
set_option maxHeartbeats 4000000 in
theorem c_X12_forgets (l : Launch) (g : wG) (A : Nat → Prop) (hA : adO g A)    {σ : wS} {Q : wS → Prop} (h : w_X12_forgets   σ Q) : Mv l yX12_forgets wvX12_forgets 0 0 g A [.ref (g.2.2 176)] σ Q := by
  refine mt_v (own := RX12) (lv := [(0, .ref (g.2.2 176))]) (by decide) rfl rfl hA (Nat.le_of_ble_eq_true rfl) rfl ?_
  intro X hl hg hAA F hret
  subst hl hg hAA
  unfold w_X12_forgets at h
  refine x_iconst (0 : Int32) F dX12_forgets_0 (by decide) ?_
  refine x_istore_n (lv' := [(1, .int (0 : Int32)), (0, .ref (ad X 176))]) F dX12_forgets_1 rfl (by decide) rfl ?_
  refine x_sub (lv' := [(0, .ref (ad X 176)), (1, .int (0 : Int32))]) [1, 0] rfl ?_
  obtain ⟨n2, h⟩ := h
  exact wl_X12_forgets_2 F hret   n2 _ _ h
/-! X12_isFree -/
abbrev wvX12_isFree : List Cond := Cond.code yX12_isFree cX12_isFree 2 (some .boolean) :: wsL_law
theorem cd_X12_isFree : okN yX12_isFree RX12 1 := by unfold okN; decide +kernel
def w_X12_isFree  (p0 : Int32) (σ : wS) (Q : Int32 → wS → Prop) : Prop := w_X12_has (σ.1 179 ((0 : Int32)).toNatClampNeg) p0 σ (fun r2 s1 => (r2 = 0 ∨ r2 = 1) ∧ Q r2 s1)
set_option maxRecDepth 100000 in
set_option maxHeartbeats 4000000 in
theorem c_X12_isFree (l : Launch) (g : wG) (A : Nat → Prop) (hA : adO g A)   {p0 : Int32} {σ : wS} {Q : Int32 → wS → Prop} (h : w_X12_isFree  p0 σ Q) : Mi l yX12_isFree wvX12_isFree 1 21 g A [.ref (g.2.2 176), .int p0] σ Q := by
  refine mt_i (own := RX12) (lv := [(0, .ref (g.2.2 176)), (1, .int p0)]) (by decide) rfl rfl hA (Nat.le_of_ble_eq_true rfl) rfl ?_
  intro X hl hg hAA F hret
  subst hl hg hAA
  unfold w_X12_isFree at h
  refine x_aload_n F dX12_isFree_0 rfl 0 rfl ?_
  refine g_12_6 F kz_176 in_12 (mc bw_7_9) dX12_isFree_1 ?_
  refine x_iconst (0 : Int32) F dX12_isFree_4 (by decide) ?_
  refine x_iald F kz_179 nz_179 (by unfold vp_in; decide) dX12_isFree_5 ?_
  refine x_iload_n F dX12_isFree_6 rfl 1 rfl ?_
  refine x_callT_i F (c_X12_has (xl X) (xg X) (xA X) F.2.2.1  h) (bw_S bw_16_18 bw_16_19 bw_1_5 bw_16_20) rfl cd_X12_has (Nat.le_of_ble_eq_true rfl) (Nat.le_of_ble_eq_true rfl) rfl rfl (Nat.le_of_ble_eq_true rfl) dX12_isFree_7 (fun r2 s1 h => ?_)
  obtain ⟨hz, h⟩ := h
  exact hret _ _ _ _ h (nar01 hz) dX12_isFree_10
/-! X12_stiffness -/
abbrev wvX12_stiffness : List Cond := Cond.code yX12_stiffness cX12_stiffness 2 (some .int) :: wsL_law
theorem cd_X12_stiffness : okN yX12_stiffness RX12 1 := by unfold okN; decide +kernel
def w_X12_stiffness  (p0 : Int32) (σ : wS) (Q : Int32 → wS → Prop) : Prop := vp_in ((7 : Int32) * p0) 56 ∧ (Q (σ.1 181 (((7 : Int32) * p0)).toNatClampNeg) σ)
set_option maxRecDepth 100000 in
set_option maxHeartbeats 4000000 in
theorem c_X12_stiffness (l : Launch) (g : wG) (A : Nat → Prop) (hA : adO g A)   {p0 : Int32} {σ : wS} {Q : Int32 → wS → Prop} (h : w_X12_stiffness  p0 σ Q) : Mi l yX12_stiffness wvX12_stiffness 0 0 g A [.ref (g.2.2 176), .int p0] σ Q := by
  refine mt_i (own := RX12) (lv := [(0, .ref (g.2.2 176)), (1, .int p0)]) (by decide) rfl rfl hA (Nat.le_of_ble_eq_true rfl) rfl ?_
  intro X hl hg hAA F hret
  subst hl hg hAA
  unfold w_X12_stiffness at h
  refine x_aload_n F dX12_stiffness_0 rfl 0 rfl ?_
  refine g_12_8 F kz_176 in_12 (mc bw_7_11) dX12_stiffness_1 ?_
  refine x_bipush (7 : Int32) F dX12_stiffness_4 (by decide) ?_
  refine x_iload_n F dX12_stiffness_6 rfl 1 rfl ?_
  refine x_imul F dX12_stiffness_7 ?_
  obtain ⟨hj, h⟩ := h
  refine x_iald F kz_181 nz_181 hj dX12_stiffness_8 ?_
  exact hret _ _ _ _ h rfl dX12_stiffness_9
/-! X12_minor -/
abbrev wvX12_minor : List Cond := Cond.code yX12_minor cX12_minor 5 (some .long) :: wsL_law
theorem cd_X12_minor : okN yX12_minor RX12 4 := by unfold okN; decide +kernel
def w_X12_minor  (p0 : Int32) (p1 : Int32) (p2 : Int32) (p3 : Int32) (σ : wS) (Q : Int64 → wS → Prop) : Prop := vp_in p0 9 ∧ (vp_in p3 9 ∧ (vp_in p1 9 ∧ (vp_in p2 9 ∧ (Q (((σ.2 192 (p0).toNatClampNeg) * (σ.2 192 (p3).toNatClampNeg)) - ((σ.2 192 (p1).toNatClampNeg) * (σ.2 192 (p2).toNatClampNeg))) σ))))
set_option maxRecDepth 100000 in
set_option maxHeartbeats 4000000 in
theorem c_X12_minor (l : Launch) (g : wG) (A : Nat → Prop) (hA : adO g A)   {p0 : Int32} {p1 : Int32} {p2 : Int32} {p3 : Int32} {σ : wS} {Q : Int64 → wS → Prop} (h : w_X12_minor  p0 p1 p2 p3 σ Q) : Ml l yX12_minor wvX12_minor 0 0 g A [.ref (g.2.2 176), .int p0, .int p1, .int p2, .int p3] σ Q := by
  refine mt_l (own := RX12) (lv := [(0, .ref (g.2.2 176)), (1, .int p0), (2, .int p1), (3, .int p2), (4, .int p3)]) (by decide) rfl rfl hA (Nat.le_of_ble_eq_true rfl) rfl ?_
  intro X hl hg hAA F hret
  subst hl hg hAA
  unfold w_X12_minor at h
  refine x_aload_n F dX12_minor_0 rfl 0 rfl ?_
  refine g_12_26 F kz_176 in_12 (mc bw_7_22) dX12_minor_1 ?_
  refine x_iload_n F dX12_minor_4 rfl 1 rfl ?_
  obtain ⟨hj, h⟩ := h
  refine x_lald F kz_192 nz_192 hj dX12_minor_5 ?_
  refine x_aload_n F dX12_minor_6 rfl 0 rfl ?_
  refine g_12_26 F kz_176 in_12 (mc bw_7_22) dX12_minor_7 ?_
  refine x_iload F dX12_minor_10 4 rfl ?_
  obtain ⟨hj, h⟩ := h
  refine x_lald F kz_192 nz_192 hj dX12_minor_12 ?_
  refine x_lmul F dX12_minor_13 ?_
  refine x_aload_n F dX12_minor_14 rfl 0 rfl ?_
  refine g_12_26 F kz_176 in_12 (mc bw_7_22) dX12_minor_15 ?_
  refine x_iload_n F dX12_minor_18 rfl 2 rfl ?_
  obtain ⟨hj, h⟩ := h
  refine x_lald F kz_192 nz_192 hj dX12_minor_19 ?_
  refine x_aload_n F dX12_minor_20 rfl 0 rfl ?_
  refine g_12_26 F kz_176 in_12 (mc bw_7_22) dX12_minor_21 ?_
  refine x_iload_n F dX12_minor_24 rfl 3 rfl ?_
  obtain ⟨hj, h⟩ := h
  refine x_lald F kz_192 nz_192 hj dX12_minor_25 ?_
  refine x_lmul F dX12_minor_26 ?_
  refine x_lsub F dX12_minor_27 ?_
  exact hret _ _ _ _ h dX12_minor_28
/-! X12_determinant -/
abbrev wvX12_determinant : List Cond := Cond.code yX12_determinant cX12_determinant 1 (some .long) :: wsL_law
theorem cd_X12_determinant : okN yX12_determinant RX12 0 := by unfold okN; decide +kernel
def w_X12_determinant   (σ : wS) (Q : Int64 → wS → Prop) : Prop := w_X12_minor (4 : Int32) (5 : Int32) (7 : Int32) (8 : Int32) σ (fun r2 s1 => w_X12_minor (3 : Int32) (5 : Int32) (6 : Int32) (8 : Int32) s1 (fun r4 s3 => w_X12_minor (3 : Int32) (4 : Int32) (6 : Int32) (7 : Int32) s3 (fun r6 s5 => Q ((((σ.2 192 ((0 : Int32)).toNatClampNeg) * r2) - ((s1.2 192 ((1 : Int32)).toNatClampNeg) * r4)) + ((s3.2 192 ((2 : Int32)).toNatClampNeg) * r6)) s5)))
set_option maxRecDepth 100000 in
set_option maxHeartbeats 4000000 in
theorem c_X12_determinant (l : Launch) (g : wG) (A : Nat → Prop) (hA : adO g A)    {σ : wS} {Q : Int64 → wS → Prop} (h : w_X12_determinant   σ Q) : Ml l yX12_determinant wvX12_determinant 1 24 g A [.ref (g.2.2 176)] σ Q := by
  refine mt_l (own := RX12) (lv := [(0, .ref (g.2.2 176))]) (by decide) rfl rfl hA (Nat.le_of_ble_eq_true rfl) rfl ?_
  intro X hl hg hAA F hret
  subst hl hg hAA
  unfold w_X12_determinant at h
  refine x_aload_n F dX12_determinant_0 rfl 0 rfl ?_
  refine g_12_26 F kz_176 in_12 (mc bw_7_22) dX12_determinant_1 ?_
  refine x_iconst (0 : Int32) F dX12_determinant_4 (by decide) ?_
  refine x_lald F kz_192 nz_192 (by unfold vp_in; decide) dX12_determinant_5 ?_
  refine x_aload_n F dX12_determinant_6 rfl 0 rfl ?_
  refine x_iconst (4 : Int32) F dX12_determinant_7 (by decide) ?_
  refine x_iconst (5 : Int32) F dX12_determinant_8 (by decide) ?_
  refine x_bipush (7 : Int32) F dX12_determinant_9 (by decide) ?_
  refine x_bipush (8 : Int32) F dX12_determinant_11 (by decide) ?_
  refine x_callV_l F (c_X12_minor (xl X) (xg X) (xA X) F.2.2.1  h) (bw_V bw_24_10 bw_24_11 bw_24_12 bw_1_5 bw_24_13) rfl cd_X12_minor (Nat.le_of_ble_eq_true rfl) (Nat.le_of_ble_eq_true rfl) (kd_w (by decide) kz_176) rfl (cl_12 kz_176) rfl rfl (Nat.le_of_ble_eq_true rfl) dX12_determinant_13 (fun r2 s1 h => ?_)
  refine x_lmul F dX12_determinant_16 ?_
  refine x_aload_n F dX12_determinant_17 rfl 0 rfl ?_
  refine g_12_26 F kz_176 in_12 (mc bw_7_22) dX12_determinant_18 ?_
  refine x_iconst (1 : Int32) F dX12_determinant_21 (by decide) ?_
  refine x_lald F kz_192 nz_192 (by unfold vp_in; decide) dX12_determinant_22 ?_
  refine x_aload_n F dX12_determinant_23 rfl 0 rfl ?_
  refine x_iconst (3 : Int32) F dX12_determinant_24 (by decide) ?_
  refine x_iconst (5 : Int32) F dX12_determinant_25 (by decide) ?_
  refine x_bipush (6 : Int32) F dX12_determinant_26 (by decide) ?_
  refine x_bipush (8 : Int32) F dX12_determinant_28 (by decide) ?_
  refine x_callV_l F (c_X12_minor (xl X) (xg X) (xA X) F.2.2.1  h) (bw_V bw_24_10 bw_24_11 bw_24_12 bw_1_5 bw_24_13) rfl cd_X12_minor (Nat.le_of_ble_eq_true rfl) (Nat.le_of_ble_eq_true rfl) (kd_w (by decide) kz_176) rfl (cl_12 kz_176) rfl rfl (Nat.le_of_ble_eq_true rfl) dX12_determinant_30 (fun r4 s3 h => ?_)
  refine x_lmul F dX12_determinant_33 ?_
  refine x_lsub F dX12_determinant_34 ?_
  refine x_aload_n F dX12_determinant_35 rfl 0 rfl ?_
  refine g_12_26 F kz_176 in_12 (mc bw_7_22) dX12_determinant_36 ?_
  refine x_iconst (2 : Int32) F dX12_determinant_39 (by decide) ?_
  refine x_lald F kz_192 nz_192 (by unfold vp_in; decide) dX12_determinant_40 ?_
  refine x_aload_n F dX12_determinant_41 rfl 0 rfl ?_
  refine x_iconst (3 : Int32) F dX12_determinant_42 (by decide) ?_
  refine x_iconst (4 : Int32) F dX12_determinant_43 (by decide) ?_
  refine x_bipush (6 : Int32) F dX12_determinant_44 (by decide) ?_
  refine x_bipush (7 : Int32) F dX12_determinant_46 (by decide) ?_
  refine x_callV_l F (c_X12_minor (xl X) (xg X) (xA X) F.2.2.1  h) (bw_V bw_24_10 bw_24_11 bw_24_12 bw_1_5 bw_24_13) rfl cd_X12_minor (Nat.le_of_ble_eq_true rfl) (Nat.le_of_ble_eq_true rfl) (kd_w (by decide) kz_176) rfl (cl_12 kz_176) rfl rfl (Nat.le_of_ble_eq_true rfl) dX12_determinant_48 (fun r6 s5 h => ?_)
  refine x_lmul F dX12_determinant_51 ?_
  refine x_ladd F dX12_determinant_52 ?_
  exact hret _ _ _ _ h dX12_determinant_53
/-! X12_determinantBy -/
abbrev wvX12_determinantBy : List Cond := Cond.code yX12_determinantBy cX12_determinantBy 10 (some .long) :: wsL_law
theorem cd_X12_determinantBy : okN yX12_determinantBy RX12 1 := by unfold okN; decide +kernel
def l_X12_determinantBy_31   (Q : Int64 → wS → Prop) : Nat → Int32 → Int64 → Int64 → Int64 → Int32 → wS → Prop
  | 0, _, _, _, _, _, _ => False
  | n + 1, x1, x2, x4, x6, x8, σ => ((3 : Int32) ≤ x8 → (w_X12_determinant  σ (fun r2 s1 => vp_in x1 9 ∧ (∀ s3 : wS, s3 = upJ s1 192 (x1).toNatClampNeg x2 → (vp_in ((3 : Int32) + x1) 9 ∧ (∀ s4 : wS, s4 = upJ s3 192 (((3 : Int32) + x1)).toNatClampNeg x4 → (vp_in ((6 : Int32) + x1) 9 ∧ (∀ s5 : wS, s5 = upJ s4 192 (((6 : Int32) + x1)).toNatClampNeg x6 → (Q r2 s5))))))))) ∧ (¬ (3 : Int32) ≤ x8 → (vp_in x8 3 ∧ (vp_in (((3 : Int32) * x8) + x1) 9 ∧ (∀ s6 : wS, s6 = upJ σ 192 ((((3 : Int32) * x8) + x1)).toNatClampNeg (σ.2 193 (x8).toNatClampNeg) → (∀ y7 : Int32, y7 = (x8 + (1 : Int32)) → (l_X12_determinantBy_31   Q n x1 x2 x4 x6 y7 s6))))))
set_option maxRecDepth 100000 in
set_option maxHeartbeats 4000000 in
theorem wl_X12_determinantBy_31 {X : XT} {Q : Int64 → wS → Prop}  (F : Fx X cX12_determinantBy 10 RX12 wvX12_determinantBy 2 44) (hret : Rl X 10 cX12_determinantBy Q)    : ∀ (n : Nat) (x1 : Int32) (x2 : Int64) (x4 : Int64) (x6 : Int64) (x8 : Int32) (σ : wS), l_X12_determinantBy_31   Q n x1 x2 x4 x6 x8 σ → Wx X 10 σ 31 [(0, .ref (ad X 176)), (1, .int x1), (2, .long x2), (4, .long x4), (6, .long x6), (8, .int x8)] [] := by
  intro n
  induction n with
  | zero =>
    intros
    contradiction
  | succ n ih =>
    intro x1 x2 x4 x6 x8 σ h
    simp only [l_X12_determinantBy_31] at h
    refine x_iload F dX12_determinantBy_31 5 rfl ?_
    refine x_iconst (3 : Int32) F dX12_determinantBy_33 (by decide) ?_
    refine x_icmp_ge (tgt := 61) F dX12_determinantBy_34 (by decide) (fun c => ?_) (fun c => ?_)
    · replace h := h.1 c
      refine x_aload_n F dX12_determinantBy_61 rfl 0 rfl ?_
      refine x_callV_l F (c_X12_determinant (xl X) (xg X) (xA X) F.2.2.1  h) (bw_V bw_24_6 bw_24_7 bw_24_8 bw_1_5 bw_24_9) rfl cd_X12_determinant (Nat.le_of_ble_eq_true rfl) (Nat.le_of_ble_eq_true rfl) (kd_w (by decide) kz_176) rfl (cl_12 kz_176) rfl rfl (Nat.le_of_ble_eq_true rfl) dX12_determinantBy_62 (fun r2 s1 h => ?_)
      refine x_lstore (lv' := [(8, .long r2), (0, .ref (ad X 176)), (1, .int x1), (2, .long x2), (4, .long x4), (6, .long x6)]) F dX12_determinantBy_65 (by decide) rfl ?_
      refine x_aload_n F dX12_determinantBy_67 rfl 1 rfl ?_
      refine g_12_26 F kz_176 in_12 (mc bw_7_22) dX12_determinantBy_68 ?_
      refine x_iload_n F dX12_determinantBy_71 rfl 2 rfl ?_
      refine x_lload_n F dX12_determinantBy_72 rfl 3 rfl ?_
      obtain ⟨hz, h⟩ := h
      refine x_last F kz_192 nz_192 hz dX12_determinantBy_73 ?_
      refine x_nmS (fun s3 es3 => ?_)
      replace h := h s3 es3
      refine x_aload_n F dX12_determinantBy_74 rfl 1 rfl ?_
      refine g_12_26 F kz_176 in_12 (mc bw_7_22) dX12_determinantBy_75 ?_
      refine x_iconst (3 : Int32) F dX12_determinantBy_78 (by decide) ?_
      refine x_iload_n F dX12_determinantBy_79 rfl 2 rfl ?_
      refine x_iadd F dX12_determinantBy_80 ?_
      refine x_lload F dX12_determinantBy_81 4 rfl ?_
      obtain ⟨hz, h⟩ := h
      refine x_last F kz_192 nz_192 hz dX12_determinantBy_83 ?_
      refine x_nmS (fun s4 es4 => ?_)
      replace h := h s4 es4
      refine x_aload_n F dX12_determinantBy_84 rfl 1 rfl ?_
      refine g_12_26 F kz_176 in_12 (mc bw_7_22) dX12_determinantBy_85 ?_
      refine x_bipush (6 : Int32) F dX12_determinantBy_88 (by decide) ?_
      refine x_iload_n F dX12_determinantBy_90 rfl 2 rfl ?_
      refine x_iadd F dX12_determinantBy_91 ?_
      refine x_lload F dX12_determinantBy_92 5 rfl ?_
      obtain ⟨hz, h⟩ := h
      refine x_last F kz_192 nz_192 hz dX12_determinantBy_94 ?_
      refine x_nmS (fun s5 es5 => ?_)
      replace h := h s5 es5
      refine x_lload F dX12_determinantBy_95 0 rfl ?_
      exact hret _ _ _ _ h dX12_determinantBy_97
    · replace h := h.2 c
      refine x_aload_n F dX12_determinantBy_37 rfl 0 rfl ?_
      refine g_12_26 F kz_176 in_12 (mc bw_7_22) dX12_determinantBy_38 ?_
      refine x_iconst (3 : Int32) F dX12_determinantBy_41 (by decide) ?_
      refine x_iload F dX12_determinantBy_42 5 rfl ?_
      refine x_imul F dX12_determinantBy_44 ?_
      refine x_iload_n F dX12_determinantBy_45 rfl 1 rfl ?_
      refine x_iadd F dX12_determinantBy_46 ?_
      refine x_aload_n F dX12_determinantBy_47 rfl 0 rfl ?_
      refine g_12_27 F kz_176 in_12 (mc bw_7_23) dX12_determinantBy_48 ?_
      refine x_iload F dX12_determinantBy_51 5 rfl ?_
      obtain ⟨hj, h⟩ := h
      refine x_lald F kz_193 nz_193 hj dX12_determinantBy_53 ?_
      obtain ⟨hz, h⟩ := h
      refine x_last F kz_192 nz_192 hz dX12_determinantBy_54 ?_
      refine x_nmS (fun s6 es6 => ?_)
      replace h := h s6 es6
      obtain ⟨y7, ey7⟩ : ∃ y : Int32, y = (x8 + (1 : Int32)) := ⟨_, rfl⟩
      replace h := h y7 ey7
      refine x_iinc (q := 5) (v := y7) (lv' := [(8, .int y7), (0, .ref (ad X 176)), (1, .int x1), (2, .long x2), (4, .long x4), (6, .long x6)]) F dX12_determinantBy_55 rfl (by rw [ey7]; rfl) (by decide) rfl ?_
      refine x_goto (tgt := 31) F dX12_determinantBy_58 (by decide) ?_
      refine x_sub (lv' := [(0, .ref (ad X 176)), (1, .int x1), (2, .long x2), (4, .long x4), (6, .long x6), (8, .int y7)]) [1, 2, 3, 4, 5, 0] rfl ?_
      exact ih _ _ _ _ _ _ h
def w_X12_determinantBy  (p0 : Int32) (σ : wS) (Q : Int64 → wS → Prop) : Prop := vp_in p0 9 ∧ (∀ y1 : Int64, y1 = (σ.2 192 (p0).toNatClampNeg) → (vp_in ((3 : Int32) + p0) 9 ∧ (∀ y2 : Int64, y2 = (σ.2 192 (((3 : Int32) + p0)).toNatClampNeg) → (vp_in ((6 : Int32) + p0) 9 ∧ (∀ y3 : Int64, y3 = (σ.2 192 (((6 : Int32) + p0)).toNatClampNeg) → ((∃ m, l_X12_determinantBy_31   Q m p0 y1 y2 y3 (0 : Int32) σ)))))))
set_option maxRecDepth 100000 in
set_option maxHeartbeats 4000000 in
theorem c_X12_determinantBy (l : Launch) (g : wG) (A : Nat → Prop) (hA : adO g A)   {p0 : Int32} {σ : wS} {Q : Int64 → wS → Prop} (h : w_X12_determinantBy  p0 σ Q) : Ml l yX12_determinantBy wvX12_determinantBy 2 44 g A [.ref (g.2.2 176), .int p0] σ Q := by
  refine mt_l (own := RX12) (lv := [(0, .ref (g.2.2 176)), (1, .int p0)]) (by decide) rfl rfl hA (Nat.le_of_ble_eq_true rfl) rfl ?_
  intro X hl hg hAA F hret
  subst hl hg hAA
  unfold w_X12_determinantBy at h
  refine x_aload_n F dX12_determinantBy_0 rfl 0 rfl ?_
  refine g_12_26 F kz_176 in_12 (mc bw_7_22) dX12_determinantBy_1 ?_
  refine x_iload_n F dX12_determinantBy_4 rfl 1 rfl ?_
  obtain ⟨hj, h⟩ := h
  refine x_lald F kz_192 nz_192 hj dX12_determinantBy_5 ?_
  refine x_topl (fun y1 ey1 => ?_)
  replace h := h y1 ey1
  refine x_lstore_n (lv' := [(2, .long y1), (0, .ref (ad X 176)), (1, .int p0)]) F dX12_determinantBy_6 rfl (by decide) rfl ?_
  refine x_aload_n F dX12_determinantBy_7 rfl 1 rfl ?_
  refine g_12_26 F kz_176 in_12 (mc bw_7_22) dX12_determinantBy_8 ?_
  refine x_iconst (3 : Int32) F dX12_determinantBy_11 (by decide) ?_
  refine x_iload_n F dX12_determinantBy_12 rfl 2 rfl ?_
  refine x_iadd F dX12_determinantBy_13 ?_
  obtain ⟨hj, h⟩ := h
  refine x_lald F kz_192 nz_192 hj dX12_determinantBy_14 ?_
  refine x_topl (fun y2 ey2 => ?_)
  replace h := h y2 ey2
  refine x_lstore (lv' := [(4, .long y2), (2, .long y1), (0, .ref (ad X 176)), (1, .int p0)]) F dX12_determinantBy_15 (by decide) rfl ?_
  refine x_aload_n F dX12_determinantBy_17 rfl 2 rfl ?_
  refine g_12_26 F kz_176 in_12 (mc bw_7_22) dX12_determinantBy_18 ?_
  refine x_bipush (6 : Int32) F dX12_determinantBy_21 (by decide) ?_
  refine x_iload_n F dX12_determinantBy_23 rfl 3 rfl ?_
  refine x_iadd F dX12_determinantBy_24 ?_
  obtain ⟨hj, h⟩ := h
  refine x_lald F kz_192 nz_192 hj dX12_determinantBy_25 ?_
  refine x_topl (fun y3 ey3 => ?_)
  replace h := h y3 ey3
  refine x_lstore (lv' := [(6, .long y3), (4, .long y2), (2, .long y1), (0, .ref (ad X 176)), (1, .int p0)]) F dX12_determinantBy_26 (by decide) rfl ?_
  refine x_iconst (0 : Int32) F dX12_determinantBy_28 (by decide) ?_
  refine x_istore (lv' := [(8, .int (0 : Int32)), (6, .long y3), (4, .long y2), (2, .long y1), (0, .ref (ad X 176)), (1, .int p0)]) F dX12_determinantBy_29 (by decide) rfl ?_
  refine x_sub (lv' := [(0, .ref (ad X 176)), (1, .int p0), (2, .long y1), (4, .long y2), (6, .long y3), (8, .int (0 : Int32))]) [4, 5, 3, 2, 1, 0] rfl ?_
  obtain ⟨n2, h⟩ := h
  exact wl_X12_determinantBy_31 F hret   n2 _ _ _ _ _ _ h
/-! X12_solves -/
abbrev wvX12_solves : List Cond := Cond.code yX12_solves cX12_solves 6 none :: wsL_law
theorem cd_X12_solves : okN yX12_solves RX12 2 := by unfold okN; decide +kernel
def b_X12_solves_278 (p0 : Nat) (K251 : Int32 → wS → Prop) (Q : wS → Prop) (x3 : Int32) (z0 : Int64) (z1 : Int32) (σ : wS) : Prop := vp_in z1 3 ∧ (∀ s1 : wS, s1 = upJ σ 194 (z1).toNatClampNeg z0 → (∀ y2 : Int32, y2 = (x3 + (1 : Int32)) → (K251 y2 s1)))
set_option maxRecDepth 100000 in
set_option maxHeartbeats 4000000 in
theorem wb_X12_solves_278 {X : XT} {Q : wS → Prop} {p0 : Nat} (F : Fx X cX12_solves 6 RX12 wvX12_solves 3 73) (hret : Rv X 6 cX12_solves Q) (k_p0 : kd p0 = 14) {K251 : Int32 → wS → Prop} (hK251 : ∀ (x3 : Int32) (σ : wS), K251 x3 σ → Wx X 6 σ 251 [(0, .ref (ad X 176)), (3, .int x3)] []) (x3 : Int32) (z0 : Int64) (z1 : Int32) (σ : wS) (h : b_X12_solves_278 p0 K251 Q x3 z0 z1 σ) : Wx X 6 σ 278 [(0, .ref (ad X 176)), (3, .int x3)] [.long z0, .int z1, .ref (ad X 194)] := by
  unfold b_X12_solves_278 at h
  obtain ⟨hz, h⟩ := h
  refine x_last F kz_194 nz_194 hz dX12_solves_278 ?_
  refine x_nmS (fun s1 es1 => ?_)
  replace h := h s1 es1
  obtain ⟨y2, ey2⟩ : ∃ y : Int32, y = (x3 + (1 : Int32)) := ⟨_, rfl⟩
  replace h := h y2 ey2
  refine x_iinc (q := 1) (v := y2) (lv' := [(3, .int y2), (0, .ref (ad X 176))]) F dX12_solves_279 rfl (by rw [ey2]; rfl) (by decide) rfl ?_
  refine x_goto (tgt := 251) F dX12_solves_282 (by decide) ?_
  refine x_sub (lv' := [(0, .ref (ad X 176)), (3, .int y2)]) [1, 0] rfl ?_
  exact hK251 _ _ h
def l_X12_solves_251 (p0 : Nat)  (Q : wS → Prop) : Nat → Int32 → wS → Prop
  | 0, _, _ => False
  | n + 1, x3, σ => ((3 : Int32) ≤ x3 → (Q σ)) ∧ (¬ (3 : Int32) ≤ x3 → (w_X12_isFree x3 σ (fun r2 s1 => (r2 = 0 → (b_X12_solves_278 p0 (fun x3 σ => l_X12_solves_251 p0  Q n x3 σ) Q x3 (0 : Int64) x3 s1)) ∧ (¬ r2 = 0 → (w_X12_determinantBy x3 s1 (fun r4 s3 => b_X12_solves_278 p0 (fun x3 σ => l_X12_solves_251 p0  Q n x3 σ) Q x3 r4 x3 s3))))))
set_option maxRecDepth 100000 in
set_option maxHeartbeats 4000000 in
theorem wl_X12_solves_251 {X : XT} {Q : wS → Prop} {p0 : Nat} (F : Fx X cX12_solves 6 RX12 wvX12_solves 3 73) (hret : Rv X 6 cX12_solves Q) (k_p0 : kd p0 = 14)   : ∀ (n : Nat) (x3 : Int32) (σ : wS), l_X12_solves_251 p0  Q n x3 σ → Wx X 6 σ 251 [(0, .ref (ad X 176)), (3, .int x3)] [] := by
  intro n
  induction n with
  | zero =>
    intros
    contradiction
  | succ n ih =>
    intro x3 σ h
    simp only [l_X12_solves_251] at h
    refine x_iload_n F dX12_solves_251 rfl 1 rfl ?_
    refine x_iconst (3 : Int32) F dX12_solves_252 (by decide) ?_
    refine x_icmp_ge (tgt := 285) F dX12_solves_253 (by decide) (fun c => ?_) (fun c => ?_)
    · replace h := h.1 c
      exact hret _ _ _ h dX12_solves_285
    · replace h := h.2 c
      refine x_aload_n F dX12_solves_256 rfl 0 rfl ?_
      refine g_12_28 F kz_176 in_12 (mc bw_8_0) dX12_solves_257 ?_
      refine x_iload_n F dX12_solves_260 rfl 1 rfl ?_
      refine x_aload_n F dX12_solves_261 rfl 0 rfl ?_
      refine x_iload_n F dX12_solves_262 rfl 1 rfl ?_
      refine x_callV_i F (c_X12_isFree (xl X) (xg X) (xA X) F.2.2.1  h) (bw_V bw_23_22 bw_23_23 bw_24_0 bw_1_5 bw_24_1) rfl cd_X12_isFree (Nat.le_of_ble_eq_true rfl) (Nat.le_of_ble_eq_true rfl) (kd_w (by decide) kz_176) rfl (cl_12 kz_176) rfl rfl (Nat.le_of_ble_eq_true rfl) dX12_solves_263 (fun r2 s1 h => ?_)
      refine x_if_eq (tgt := 277) F dX12_solves_266 (by decide) (fun c => ?_) (fun c => ?_)
      · replace h := h.1 c
        refine x_lconst (0 : Int64) F dX12_solves_277 (by decide) ?_
        refine x_sub (lv' := [(0, .ref (ad X 176)), (3, .int x3)]) [0, 1] rfl ?_
        exact wb_X12_solves_278 F hret k_p0 ih _ _ _ _ h
      · replace h := h.2 c
        refine x_aload_n F dX12_solves_269 rfl 0 rfl ?_
        refine x_iload_n F dX12_solves_270 rfl 1 rfl ?_
        refine x_callV_l F (c_X12_determinantBy (xl X) (xg X) (xA X) F.2.2.1  h) (bw_V bw_24_14 bw_24_15 bw_24_16 bw_1_5 bw_24_17) rfl cd_X12_determinantBy (Nat.le_of_ble_eq_true rfl) (Nat.le_of_ble_eq_true rfl) (kd_w (by decide) kz_176) rfl (cl_12 kz_176) rfl rfl (Nat.le_of_ble_eq_true rfl) dX12_solves_271 (fun r4 s3 h => ?_)
        refine x_goto (tgt := 278) F dX12_solves_274 (by decide) ?_
        refine x_sub (lv' := [(0, .ref (ad X 176)), (3, .int x3)]) [0, 1] rfl ?_
        exact wb_X12_solves_278 F hret k_p0 ih _ _ _ _ h
def b_X12_solves_235 (p0 : Nat) (K85 : Int32 → Int32 → wS → Prop) (Q : wS → Prop) (x2 : Int32) (x3 : Int32) (σ : wS) : Prop := ∀ y1 : Int32, y1 = (x3 + (1 : Int32)) → (K85 x2 y1 σ)
set_option maxRecDepth 100000 in
set_option maxHeartbeats 4000000 in
theorem wb_X12_solves_235 {X : XT} {Q : wS → Prop} {p0 : Nat} (F : Fx X cX12_solves 6 RX12 wvX12_solves 3 73) (hret : Rv X 6 cX12_solves Q) (k_p0 : kd p0 = 14) {K85 : Int32 → Int32 → wS → Prop} (hK85 : ∀ (x2 : Int32) (x3 : Int32) (σ : wS), K85 x2 x3 σ → Wx X 6 σ 85 [(0, .ref (ad X 176)), (1, .ref (ad X p0)), (2, .int x2), (3, .int x3)] []) (x2 : Int32) (x3 : Int32) (σ : wS) (h : b_X12_solves_235 p0 K85 Q x2 x3 σ) : Wx X 6 σ 235 [(0, .ref (ad X 176)), (1, .ref (ad X p0)), (2, .int x2), (3, .int x3)] [] := by
  unfold b_X12_solves_235 at h
  obtain ⟨y1, ey1⟩ : ∃ y : Int32, y = (x3 + (1 : Int32)) := ⟨_, rfl⟩
  replace h := h y1 ey1
  refine x_iinc (q := 3) (v := y1) (lv' := [(3, .int y1), (0, .ref (ad X 176)), (1, .ref (ad X p0)), (2, .int x2)]) F dX12_solves_235 rfl (by rw [ey1]; rfl) (by decide) rfl ?_
  refine x_goto (tgt := 85) F dX12_solves_238 (by decide) ?_
  refine x_sub (lv' := [(0, .ref (ad X 176)), (1, .ref (ad X p0)), (2, .int x2), (3, .int y1)]) [1, 2, 3, 0] rfl ?_
  exact hK85 _ _ _ h
def b_X12_solves_229 (p0 : Nat) (K85 : Int32 → Int32 → wS → Prop) (K107 : Int32 → Int32 → Int32 → wS → Prop) (Q : wS → Prop) (x2 : Int32) (x3 : Int32) (x4 : Int32) (σ : wS) : Prop := ∀ y1 : Int32, y1 = (x4 + (1 : Int32)) → (K107 x2 x3 y1 σ)
set_option maxRecDepth 100000 in
set_option maxHeartbeats 4000000 in
theorem wb_X12_solves_229 {X : XT} {Q : wS → Prop} {p0 : Nat} (F : Fx X cX12_solves 6 RX12 wvX12_solves 3 73) (hret : Rv X 6 cX12_solves Q) (k_p0 : kd p0 = 14) {K85 : Int32 → Int32 → wS → Prop} {K107 : Int32 → Int32 → Int32 → wS → Prop} (hK85 : ∀ (x2 : Int32) (x3 : Int32) (σ : wS), K85 x2 x3 σ → Wx X 6 σ 85 [(0, .ref (ad X 176)), (1, .ref (ad X p0)), (2, .int x2), (3, .int x3)] []) (hK107 : ∀ (x2 : Int32) (x3 : Int32) (x4 : Int32) (σ : wS), K107 x2 x3 x4 σ → Wx X 6 σ 107 [(0, .ref (ad X 176)), (1, .ref (ad X p0)), (2, .int x2), (3, .int x3), (4, .int x4)] []) (x2 : Int32) (x3 : Int32) (x4 : Int32) (σ : wS) (h : b_X12_solves_229 p0 K85 K107 Q x2 x3 x4 σ) : Wx X 6 σ 229 [(0, .ref (ad X 176)), (1, .ref (ad X p0)), (2, .int x2), (3, .int x3), (4, .int x4)] [] := by
  unfold b_X12_solves_229 at h
  obtain ⟨y1, ey1⟩ : ∃ y : Int32, y = (x4 + (1 : Int32)) := ⟨_, rfl⟩
  replace h := h y1 ey1
  refine x_iinc (q := 4) (v := y1) (lv' := [(4, .int y1), (0, .ref (ad X 176)), (1, .ref (ad X p0)), (2, .int x2), (3, .int x3)]) F dX12_solves_229 rfl (by rw [ey1]; rfl) (by decide) rfl ?_
  refine x_goto (tgt := 107) F dX12_solves_232 (by decide) ?_
  refine x_sub (lv' := [(0, .ref (ad X 176)), (1, .ref (ad X p0)), (2, .int x2), (3, .int x3), (4, .int y1)]) [1, 2, 3, 4, 0] rfl ?_
  exact hK107 _ _ _ _ h
def b_X12_solves_221 (p0 : Nat) (K85 : Int32 → Int32 → wS → Prop) (K107 : Int32 → Int32 → Int32 → wS → Prop) (K157 : Int32 → Int32 → Int32 → Int32 → wS → Prop) (Q : wS → Prop) (x2 : Int32) (x3 : Int32) (x4 : Int32) (x5 : Int32) (z0 : Int64) (z1 : Int64) (z2 : Int32) (σ : wS) : Prop := vp_in z2 9 ∧ (∀ s1 : wS, s1 = upJ σ 192 (z2).toNatClampNeg (z1 + z0) → (∀ y2 : Int32, y2 = (x5 + (1 : Int32)) → (K157 x2 x3 x4 y2 s1)))
set_option maxRecDepth 100000 in
set_option maxHeartbeats 4000000 in
theorem wb_X12_solves_221 {X : XT} {Q : wS → Prop} {p0 : Nat} (F : Fx X cX12_solves 6 RX12 wvX12_solves 3 73) (hret : Rv X 6 cX12_solves Q) (k_p0 : kd p0 = 14) {K85 : Int32 → Int32 → wS → Prop} {K107 : Int32 → Int32 → Int32 → wS → Prop} {K157 : Int32 → Int32 → Int32 → Int32 → wS → Prop} (hK85 : ∀ (x2 : Int32) (x3 : Int32) (σ : wS), K85 x2 x3 σ → Wx X 6 σ 85 [(0, .ref (ad X 176)), (1, .ref (ad X p0)), (2, .int x2), (3, .int x3)] []) (hK107 : ∀ (x2 : Int32) (x3 : Int32) (x4 : Int32) (σ : wS), K107 x2 x3 x4 σ → Wx X 6 σ 107 [(0, .ref (ad X 176)), (1, .ref (ad X p0)), (2, .int x2), (3, .int x3), (4, .int x4)] []) (hK157 : ∀ (x2 : Int32) (x3 : Int32) (x4 : Int32) (x5 : Int32) (σ : wS), K157 x2 x3 x4 x5 σ → Wx X 6 σ 157 [(0, .ref (ad X 176)), (1, .ref (ad X p0)), (2, .int x2), (3, .int x3), (4, .int x4), (5, .int x5)] []) (x2 : Int32) (x3 : Int32) (x4 : Int32) (x5 : Int32) (z0 : Int64) (z1 : Int64) (z2 : Int32) (σ : wS) (h : b_X12_solves_221 p0 K85 K107 K157 Q x2 x3 x4 x5 z0 z1 z2 σ) : Wx X 6 σ 221 [(0, .ref (ad X 176)), (1, .ref (ad X p0)), (2, .int x2), (3, .int x3), (4, .int x4), (5, .int x5)] [.long z0, .long z1, .int z2, .ref (ad X 192)] := by
  unfold b_X12_solves_221 at h
  refine x_ladd F dX12_solves_221 ?_
  obtain ⟨hz, h⟩ := h
  refine x_last F kz_192 nz_192 hz dX12_solves_222 ?_
  refine x_nmS (fun s1 es1 => ?_)
  replace h := h s1 es1
  obtain ⟨y2, ey2⟩ : ∃ y : Int32, y = (x5 + (1 : Int32)) := ⟨_, rfl⟩
  replace h := h y2 ey2
  refine x_iinc (q := 5) (v := y2) (lv' := [(5, .int y2), (0, .ref (ad X 176)), (1, .ref (ad X p0)), (2, .int x2), (3, .int x3), (4, .int x4)]) F dX12_solves_223 rfl (by rw [ey2]; rfl) (by decide) rfl ?_
  refine x_goto (tgt := 157) F dX12_solves_226 (by decide) ?_
  refine x_sub (lv' := [(0, .ref (ad X 176)), (1, .ref (ad X p0)), (2, .int x2), (3, .int x3), (4, .int x4), (5, .int y2)]) [1, 2, 3, 4, 5, 0] rfl ?_
  exact hK157 _ _ _ _ _ h
def l_X12_solves_157 (p0 : Nat) (K85 : Int32 → Int32 → wS → Prop) (K107 : Int32 → Int32 → Int32 → wS → Prop) (Q : wS → Prop) : Nat → Int32 → Int32 → Int32 → Int32 → wS → Prop
  | 0, _, _, _, _, _ => False
  | n + 1, x2, x3, x4, x5, σ => ((3 : Int32) ≤ x5 → (b_X12_solves_229 p0 K85 K107 Q x2 x3 x4 σ)) ∧ (¬ (3 : Int32) ≤ x5 → (vp_in (((3 : Int32) * x4) + x5) 9 ∧ (w_X12_isFree x5 σ (fun r2 s1 => (r2 = 0 → (b_X12_solves_221 p0 K85 K107 (fun x2 x3 x4 x5 σ => l_X12_solves_157 p0 K85 K107 Q n x2 x3 x4 x5 σ) Q x2 x3 x4 x5 (0 : Int64) (σ.2 192 ((((3 : Int32) * x4) + x5)).toNatClampNeg) (((3 : Int32) * x4) + x5) s1)) ∧ (¬ r2 = 0 → (w_X12_stiffness x3 s1 (fun r4 s3 => vp_in (((3 : Int32) * x3) + x4) 24 ∧ (vp_in (((3 : Int32) * x3) + x5) 24 ∧ (b_X12_solves_221 p0 K85 K107 (fun x2 x3 x4 x5 σ => l_X12_solves_157 p0 K85 K107 Q n x2 x3 x4 x5 σ) Q x2 x3 x4 x5 (((r4).toInt64 * ((s3.1 182 ((((3 : Int32) * x3) + x4)).toNatClampNeg)).toInt64) * ((s3.1 182 ((((3 : Int32) * x3) + x5)).toNatClampNeg)).toInt64) (σ.2 192 ((((3 : Int32) * x4) + x5)).toNatClampNeg) (((3 : Int32) * x4) + x5) s3)))))))))
set_option maxRecDepth 100000 in
set_option maxHeartbeats 4000000 in
theorem wl_X12_solves_157 {X : XT} {Q : wS → Prop} {p0 : Nat} (F : Fx X cX12_solves 6 RX12 wvX12_solves 3 73) (hret : Rv X 6 cX12_solves Q) (k_p0 : kd p0 = 14) {K85 : Int32 → Int32 → wS → Prop} {K107 : Int32 → Int32 → Int32 → wS → Prop} (hK85 : ∀ (x2 : Int32) (x3 : Int32) (σ : wS), K85 x2 x3 σ → Wx X 6 σ 85 [(0, .ref (ad X 176)), (1, .ref (ad X p0)), (2, .int x2), (3, .int x3)] []) (hK107 : ∀ (x2 : Int32) (x3 : Int32) (x4 : Int32) (σ : wS), K107 x2 x3 x4 σ → Wx X 6 σ 107 [(0, .ref (ad X 176)), (1, .ref (ad X p0)), (2, .int x2), (3, .int x3), (4, .int x4)] []) : ∀ (n : Nat) (x2 : Int32) (x3 : Int32) (x4 : Int32) (x5 : Int32) (σ : wS), l_X12_solves_157 p0 K85 K107 Q n x2 x3 x4 x5 σ → Wx X 6 σ 157 [(0, .ref (ad X 176)), (1, .ref (ad X p0)), (2, .int x2), (3, .int x3), (4, .int x4), (5, .int x5)] [] := by
  intro n
  induction n with
  | zero =>
    intros
    contradiction
  | succ n ih =>
    intro x2 x3 x4 x5 σ h
    simp only [l_X12_solves_157] at h
    refine x_iload F dX12_solves_157 5 rfl ?_
    refine x_iconst (3 : Int32) F dX12_solves_159 (by decide) ?_
    refine x_icmp_ge (tgt := 229) F dX12_solves_160 (by decide) (fun c => ?_) (fun c => ?_)
    · replace h := h.1 c
      refine x_sub (lv' := [(0, .ref (ad X 176)), (1, .ref (ad X p0)), (2, .int x2), (3, .int x3), (4, .int x4)]) [0, 1, 2, 3, 4] rfl ?_
      exact wb_X12_solves_229 F hret k_p0 hK85 hK107 _ _ _ _ h
    · replace h := h.2 c
      refine x_aload_n F dX12_solves_163 rfl 0 rfl ?_
      refine g_12_26 F kz_176 in_12 (mc bw_7_22) dX12_solves_164 ?_
      refine x_iconst (3 : Int32) F dX12_solves_167 (by decide) ?_
      refine x_iload F dX12_solves_168 4 rfl ?_
      refine x_imul F dX12_solves_170 ?_
      refine x_iload F dX12_solves_171 5 rfl ?_
      refine x_iadd F dX12_solves_173 ?_
      refine x_dup2_11 F dX12_solves_174 rfl rfl ?_
      obtain ⟨hj, h⟩ := h
      refine x_lald F kz_192 nz_192 hj dX12_solves_175 ?_
      refine x_aload_n F dX12_solves_176 rfl 0 rfl ?_
      refine x_iload F dX12_solves_177 5 rfl ?_
      refine x_callV_i F (c_X12_isFree (xl X) (xg X) (xA X) F.2.2.1  h) (bw_V bw_23_22 bw_23_23 bw_24_0 bw_1_5 bw_24_1) rfl cd_X12_isFree (Nat.le_of_ble_eq_true rfl) (Nat.le_of_ble_eq_true rfl) (kd_w (by decide) kz_176) rfl (cl_12 kz_176) rfl rfl (Nat.le_of_ble_eq_true rfl) dX12_solves_179 (fun r2 s1 h => ?_)
      refine x_if_eq (tgt := 220) F dX12_solves_182 (by decide) (fun c => ?_) (fun c => ?_)
      · replace h := h.1 c
        refine x_lconst (0 : Int64) F dX12_solves_220 (by decide) ?_
        refine x_sub (lv' := [(0, .ref (ad X 176)), (1, .ref (ad X p0)), (2, .int x2), (3, .int x3), (4, .int x4), (5, .int x5)]) [0, 1, 2, 3, 4, 5] rfl ?_
        exact wb_X12_solves_221 F hret k_p0 hK85 hK107 ih _ _ _ _ _ _ _ _ h
      · replace h := h.2 c
        refine x_aload_n F dX12_solves_185 rfl 0 rfl ?_
        refine x_iload_n F dX12_solves_186 rfl 3 rfl ?_
        refine x_callV_i F (c_X12_stiffness (xl X) (xg X) (xA X) F.2.2.1  h) (bw_V bw_24_2 bw_24_3 bw_24_4 bw_1_5 bw_24_5) rfl cd_X12_stiffness (Nat.le_of_ble_eq_true rfl) (Nat.le_of_ble_eq_true rfl) (kd_w (by decide) kz_176) rfl (cl_12 kz_176) rfl rfl (Nat.le_of_ble_eq_true rfl) dX12_solves_187 (fun r4 s3 h => ?_)
        refine x_i2l F dX12_solves_190 ?_
        refine x_aload_n F dX12_solves_191 rfl 0 rfl ?_
        refine g_12_9 F kz_176 in_12 (mc bw_7_12) dX12_solves_192 ?_
        refine x_iconst (3 : Int32) F dX12_solves_195 (by decide) ?_
        refine x_iload_n F dX12_solves_196 rfl 3 rfl ?_
        refine x_imul F dX12_solves_197 ?_
        refine x_iload F dX12_solves_198 4 rfl ?_
        refine x_iadd F dX12_solves_200 ?_
        obtain ⟨hj, h⟩ := h
        refine x_iald F kz_182 nz_182 hj dX12_solves_201 ?_
        refine x_i2l F dX12_solves_202 ?_
        refine x_lmul F dX12_solves_203 ?_
        refine x_aload_n F dX12_solves_204 rfl 0 rfl ?_
        refine g_12_9 F kz_176 in_12 (mc bw_7_12) dX12_solves_205 ?_
        refine x_iconst (3 : Int32) F dX12_solves_208 (by decide) ?_
        refine x_iload_n F dX12_solves_209 rfl 3 rfl ?_
        refine x_imul F dX12_solves_210 ?_
        refine x_iload F dX12_solves_211 5 rfl ?_
        refine x_iadd F dX12_solves_213 ?_
        obtain ⟨hj, h⟩ := h
        refine x_iald F kz_182 nz_182 hj dX12_solves_214 ?_
        refine x_i2l F dX12_solves_215 ?_
        refine x_lmul F dX12_solves_216 ?_
        refine x_goto (tgt := 221) F dX12_solves_217 (by decide) ?_
        refine x_sub (lv' := [(0, .ref (ad X 176)), (1, .ref (ad X p0)), (2, .int x2), (3, .int x3), (4, .int x4), (5, .int x5)]) [0, 1, 2, 3, 4, 5] rfl ?_
        exact wb_X12_solves_221 F hret k_p0 hK85 hK107 ih _ _ _ _ _ _ _ _ h
def l_X12_solves_107 (p0 : Nat) (K85 : Int32 → Int32 → wS → Prop) (Q : wS → Prop) : Nat → Int32 → Int32 → Int32 → wS → Prop
  | 0, _, _, _, _ => False
  | n + 1, x2, x3, x4, σ => ((3 : Int32) ≤ x4 → (b_X12_solves_235 p0 K85 Q x2 x3 σ)) ∧ (¬ (3 : Int32) ≤ x4 → (w_X12_isFree x4 σ (fun r2 s1 => (¬ r2 = 0 → (vp_in x4 3 ∧ (vp_in ((0 : Int32) + x3) (ln p0) ∧ (vp_in (((3 : Int32) * x3) + x4) 24 ∧ (vp_in x4 3 ∧ (∀ s3 : wS, s3 = upJ s1 193 (x4).toNatClampNeg ((s1.2 193 (x4).toNatClampNeg) + (((s1.1 p0 (((0 : Int32) + x3)).toNatClampNeg)).toInt64 * ((s1.1 182 ((((3 : Int32) * x3) + x4)).toNatClampNeg)).toInt64)) → ((∃ m, l_X12_solves_157 p0 K85 (fun x2 x3 x4 σ => l_X12_solves_107 p0 K85 Q n x2 x3 x4 σ) Q m x2 x3 x4 (0 : Int32) s3)))))))) ∧ (r2 = 0 → (b_X12_solves_229 p0 K85 (fun x2 x3 x4 σ => l_X12_solves_107 p0 K85 Q n x2 x3 x4 σ) Q x2 x3 x4 s1)))))
set_option maxRecDepth 100000 in
set_option maxHeartbeats 4000000 in
theorem wl_X12_solves_107 {X : XT} {Q : wS → Prop} {p0 : Nat} (F : Fx X cX12_solves 6 RX12 wvX12_solves 3 73) (hret : Rv X 6 cX12_solves Q) (k_p0 : kd p0 = 14) {K85 : Int32 → Int32 → wS → Prop} (hK85 : ∀ (x2 : Int32) (x3 : Int32) (σ : wS), K85 x2 x3 σ → Wx X 6 σ 85 [(0, .ref (ad X 176)), (1, .ref (ad X p0)), (2, .int x2), (3, .int x3)] []) : ∀ (n : Nat) (x2 : Int32) (x3 : Int32) (x4 : Int32) (σ : wS), l_X12_solves_107 p0 K85 Q n x2 x3 x4 σ → Wx X 6 σ 107 [(0, .ref (ad X 176)), (1, .ref (ad X p0)), (2, .int x2), (3, .int x3), (4, .int x4)] [] := by
  intro n
  induction n with
  | zero =>
    intros
    contradiction
  | succ n ih =>
    intro x2 x3 x4 σ h
    simp only [l_X12_solves_107] at h
    refine x_iload F dX12_solves_107 4 rfl ?_
    refine x_iconst (3 : Int32) F dX12_solves_109 (by decide) ?_
    refine x_icmp_ge (tgt := 235) F dX12_solves_110 (by decide) (fun c => ?_) (fun c => ?_)
    · replace h := h.1 c
      refine x_sub (lv' := [(0, .ref (ad X 176)), (1, .ref (ad X p0)), (2, .int x2), (3, .int x3)]) [0, 1, 2, 3] rfl ?_
      exact wb_X12_solves_235 F hret k_p0 hK85 _ _ _ h
    · replace h := h.2 c
      refine x_aload_n F dX12_solves_113 rfl 0 rfl ?_
      refine x_iload F dX12_solves_114 4 rfl ?_
      refine x_callV_i F (c_X12_isFree (xl X) (xg X) (xA X) F.2.2.1  h) (bw_V bw_23_22 bw_23_23 bw_24_0 bw_1_5 bw_24_1) rfl cd_X12_isFree (Nat.le_of_ble_eq_true rfl) (Nat.le_of_ble_eq_true rfl) (kd_w (by decide) kz_176) rfl (cl_12 kz_176) rfl rfl (Nat.le_of_ble_eq_true rfl) dX12_solves_116 (fun r2 s1 h => ?_)
      refine x_if_ne (tgt := 125) F dX12_solves_119 (by decide) (fun c => ?_) (fun c => ?_)
      · replace h := h.1 c
        refine x_aload_n F dX12_solves_125 rfl 0 rfl ?_
        refine g_12_27 F kz_176 in_12 (mc bw_7_23) dX12_solves_126 ?_
        refine x_iload F dX12_solves_129 4 rfl ?_
        refine x_dup2_11 F dX12_solves_131 rfl rfl ?_
        obtain ⟨hj, h⟩ := h
        refine x_lald F kz_193 nz_193 hj dX12_solves_132 ?_
        refine x_aload_n F dX12_solves_133 rfl 1 rfl ?_
        refine x_iconst (0 : Int32) F dX12_solves_134 (by decide) ?_
        refine x_iload_n F dX12_solves_135 rfl 3 rfl ?_
        refine x_iadd F dX12_solves_136 ?_
        obtain ⟨hj, h⟩ := h
        refine x_iald F k_p0 rfl hj dX12_solves_137 ?_
        refine x_i2l F dX12_solves_138 ?_
        refine x_aload_n F dX12_solves_139 rfl 0 rfl ?_
        refine g_12_9 F kz_176 in_12 (mc bw_7_12) dX12_solves_140 ?_
        refine x_iconst (3 : Int32) F dX12_solves_143 (by decide) ?_
        refine x_iload_n F dX12_solves_144 rfl 3 rfl ?_
        refine x_imul F dX12_solves_145 ?_
        refine x_iload F dX12_solves_146 4 rfl ?_
        refine x_iadd F dX12_solves_148 ?_
        obtain ⟨hj, h⟩ := h
        refine x_iald F kz_182 nz_182 hj dX12_solves_149 ?_
        refine x_i2l F dX12_solves_150 ?_
        refine x_lmul F dX12_solves_151 ?_
        refine x_ladd F dX12_solves_152 ?_
        obtain ⟨hz, h⟩ := h
        refine x_last F kz_193 nz_193 hz dX12_solves_153 ?_
        refine x_nmS (fun s3 es3 => ?_)
        replace h := h s3 es3
        refine x_iconst (0 : Int32) F dX12_solves_154 (by decide) ?_
        refine x_istore (lv' := [(5, .int (0 : Int32)), (0, .ref (ad X 176)), (1, .ref (ad X p0)), (2, .int x2), (3, .int x3), (4, .int x4)]) F dX12_solves_155 (by decide) rfl ?_
        refine x_sub (lv' := [(0, .ref (ad X 176)), (1, .ref (ad X p0)), (2, .int x2), (3, .int x3), (4, .int x4), (5, .int (0 : Int32))]) [1, 2, 3, 4, 5, 0] rfl ?_
        obtain ⟨n2, h⟩ := h
        exact wl_X12_solves_157 F hret k_p0 hK85 ih n2 _ _ _ _ _ h
      · replace h := h.2 c
        refine x_goto (tgt := 229) F dX12_solves_122 (by decide) ?_
        refine x_sub (lv' := [(0, .ref (ad X 176)), (1, .ref (ad X p0)), (2, .int x2), (3, .int x3), (4, .int x4)]) [0, 1, 2, 3, 4] rfl ?_
        exact wb_X12_solves_229 F hret k_p0 hK85 ih _ _ _ _ h
def l_X12_solves_85 (p0 : Nat)  (Q : wS → Prop) : Nat → Int32 → Int32 → wS → Prop
  | 0, _, _, _ => False
  | n + 1, x2, x3, σ => ((σ.1 176 14) ≤ x3 → (w_X12_determinant  σ (fun r2 s1 => ∀ s3 : wS, s3 = upJ s1 176 29 r2 → ((∃ m, l_X12_solves_251 p0  Q m (0 : Int32) s3))))) ∧ (¬ (σ.1 176 14) ≤ x3 → (w_X12_has x2 x3 σ (fun r5 s4 => (¬ r5 = 0 → ((∃ m, l_X12_solves_107 p0 (fun x2 x3 σ => l_X12_solves_85 p0  Q n x2 x3 σ) Q m x2 x3 (0 : Int32) s4))) ∧ (r5 = 0 → (b_X12_solves_235 p0 (fun x2 x3 σ => l_X12_solves_85 p0  Q n x2 x3 σ) Q x2 x3 s4)))))
set_option maxRecDepth 100000 in
set_option maxHeartbeats 4000000 in
theorem wl_X12_solves_85 {X : XT} {Q : wS → Prop} {p0 : Nat} (F : Fx X cX12_solves 6 RX12 wvX12_solves 3 73) (hret : Rv X 6 cX12_solves Q) (k_p0 : kd p0 = 14)   : ∀ (n : Nat) (x2 : Int32) (x3 : Int32) (σ : wS), l_X12_solves_85 p0  Q n x2 x3 σ → Wx X 6 σ 85 [(0, .ref (ad X 176)), (1, .ref (ad X p0)), (2, .int x2), (3, .int x3)] [] := by
  intro n
  induction n with
  | zero =>
    intros
    contradiction
  | succ n ih =>
    intro x2 x3 σ h
    simp only [l_X12_solves_85] at h
    refine x_iload_n F dX12_solves_85 rfl 3 rfl ?_
    refine x_aload_n F dX12_solves_86 rfl 0 rfl ?_
    refine g_12_14 F kz_176 in_12 (mc bw_22_18) dX12_solves_87 ?_
    refine x_icmp_ge (tgt := 241) F dX12_solves_90 (by decide) (fun c => ?_) (fun c => ?_)
    · replace h := h.1 c
      refine x_aload_n F dX12_solves_241 rfl 0 rfl ?_
      refine x_aload_n F dX12_solves_242 rfl 0 rfl ?_
      refine x_callV_l F (c_X12_determinant (xl X) (xg X) (xA X) F.2.2.1  h) (bw_V bw_24_6 bw_24_7 bw_24_8 bw_1_5 bw_24_9) rfl cd_X12_determinant (Nat.le_of_ble_eq_true rfl) (Nat.le_of_ble_eq_true rfl) (kd_w (by decide) kz_176) rfl (cl_12 kz_176) rfl rfl (Nat.le_of_ble_eq_true rfl) dX12_solves_243 (fun r2 s1 h => ?_)
      refine q_12_29 F kz_176 in_12 (mc bw_23_10) dX12_solves_246 ?_
      refine x_nmS (fun s3 es3 => ?_)
      replace h := h s3 es3
      refine x_iconst (0 : Int32) F dX12_solves_249 (by decide) ?_
      refine x_istore_n (lv' := [(3, .int (0 : Int32)), (0, .ref (ad X 176)), (1, .ref (ad X p0)), (2, .int x2)]) F dX12_solves_250 rfl (by decide) rfl ?_
      refine x_sub (lv' := [(0, .ref (ad X 176)), (3, .int (0 : Int32))]) [1, 0] rfl ?_
      obtain ⟨n2, h⟩ := h
      exact wl_X12_solves_251 F hret k_p0  n2 _ _ h
    · replace h := h.2 c
      refine x_iload_n F dX12_solves_93 rfl 2 rfl ?_
      refine x_iload_n F dX12_solves_94 rfl 3 rfl ?_
      refine x_callT_i F (c_X12_has (xl X) (xg X) (xA X) F.2.2.1  h) (bw_S bw_16_18 bw_16_19 bw_1_5 bw_16_20) rfl cd_X12_has (Nat.le_of_ble_eq_true rfl) (Nat.le_of_ble_eq_true rfl) rfl rfl (Nat.le_of_ble_eq_true rfl) dX12_solves_95 (fun r5 s4 h => ?_)
      refine x_if_ne (tgt := 104) F dX12_solves_98 (by decide) (fun c => ?_) (fun c => ?_)
      · replace h := h.1 c
        refine x_iconst (0 : Int32) F dX12_solves_104 (by decide) ?_
        refine x_istore (lv' := [(4, .int (0 : Int32)), (0, .ref (ad X 176)), (1, .ref (ad X p0)), (2, .int x2), (3, .int x3)]) F dX12_solves_105 (by decide) rfl ?_
        refine x_sub (lv' := [(0, .ref (ad X 176)), (1, .ref (ad X p0)), (2, .int x2), (3, .int x3), (4, .int (0 : Int32))]) [1, 2, 3, 4, 0] rfl ?_
        obtain ⟨n2, h⟩ := h
        exact wl_X12_solves_107 F hret k_p0 ih n2 _ _ _ _ h
      · replace h := h.2 c
        refine x_goto (tgt := 235) F dX12_solves_101 (by decide) ?_
        refine x_sub (lv' := [(0, .ref (ad X 176)), (1, .ref (ad X p0)), (2, .int x2), (3, .int x3)]) [0, 1, 2, 3] rfl ?_
        exact wb_X12_solves_235 F hret k_p0 ih _ _ _ h
def b_X12_solves_70 (p0 : Nat) (K2 : Int32 → Int32 → wS → Prop) (K35 : Int32 → Int32 → Int32 → wS → Prop) (Q : wS → Prop) (x2 : Int32) (x3 : Int32) (x4 : Int32) (z0 : Int64) (z1 : Int32) (σ : wS) : Prop := vp_in z1 9 ∧ (∀ s1 : wS, s1 = upJ σ 192 (z1).toNatClampNeg z0 → (∀ y2 : Int32, y2 = (x4 + (1 : Int32)) → (K35 x2 x3 y2 s1)))
set_option maxRecDepth 100000 in
set_option maxHeartbeats 4000000 in
theorem wb_X12_solves_70 {X : XT} {Q : wS → Prop} {p0 : Nat} (F : Fx X cX12_solves 6 RX12 wvX12_solves 3 73) (hret : Rv X 6 cX12_solves Q) (k_p0 : kd p0 = 14) {K2 : Int32 → Int32 → wS → Prop} {K35 : Int32 → Int32 → Int32 → wS → Prop} (hK2 : ∀ (x2 : Int32) (x3 : Int32) (σ : wS), K2 x2 x3 σ → Wx X 6 σ 2 [(0, .ref (ad X 176)), (1, .ref (ad X p0)), (2, .int x2), (3, .int x3)] []) (hK35 : ∀ (x2 : Int32) (x3 : Int32) (x4 : Int32) (σ : wS), K35 x2 x3 x4 σ → Wx X 6 σ 35 [(0, .ref (ad X 176)), (1, .ref (ad X p0)), (2, .int x2), (3, .int x3), (4, .int x4)] []) (x2 : Int32) (x3 : Int32) (x4 : Int32) (z0 : Int64) (z1 : Int32) (σ : wS) (h : b_X12_solves_70 p0 K2 K35 Q x2 x3 x4 z0 z1 σ) : Wx X 6 σ 70 [(0, .ref (ad X 176)), (1, .ref (ad X p0)), (2, .int x2), (3, .int x3), (4, .int x4)] [.long z0, .int z1, .ref (ad X 192)] := by
  unfold b_X12_solves_70 at h
  obtain ⟨hz, h⟩ := h
  refine x_last F kz_192 nz_192 hz dX12_solves_70 ?_
  refine x_nmS (fun s1 es1 => ?_)
  replace h := h s1 es1
  obtain ⟨y2, ey2⟩ : ∃ y : Int32, y = (x4 + (1 : Int32)) := ⟨_, rfl⟩
  replace h := h y2 ey2
  refine x_iinc (q := 4) (v := y2) (lv' := [(4, .int y2), (0, .ref (ad X 176)), (1, .ref (ad X p0)), (2, .int x2), (3, .int x3)]) F dX12_solves_71 rfl (by rw [ey2]; rfl) (by decide) rfl ?_
  refine x_goto (tgt := 35) F dX12_solves_74 (by decide) ?_
  refine x_sub (lv' := [(0, .ref (ad X 176)), (1, .ref (ad X p0)), (2, .int x2), (3, .int x3), (4, .int y2)]) [1, 2, 3, 4, 0] rfl ?_
  exact hK35 _ _ _ _ h
def b_X12_solves_69 (p0 : Nat) (K2 : Int32 → Int32 → wS → Prop) (K35 : Int32 → Int32 → Int32 → wS → Prop) (Q : wS → Prop) (x2 : Int32) (x3 : Int32) (x4 : Int32) (z0 : Int32) (σ : wS) : Prop := b_X12_solves_70 p0 K2 K35 Q x2 x3 x4 (0 : Int64) z0 σ
set_option maxRecDepth 100000 in
set_option maxHeartbeats 4000000 in
theorem wb_X12_solves_69 {X : XT} {Q : wS → Prop} {p0 : Nat} (F : Fx X cX12_solves 6 RX12 wvX12_solves 3 73) (hret : Rv X 6 cX12_solves Q) (k_p0 : kd p0 = 14) {K2 : Int32 → Int32 → wS → Prop} {K35 : Int32 → Int32 → Int32 → wS → Prop} (hK2 : ∀ (x2 : Int32) (x3 : Int32) (σ : wS), K2 x2 x3 σ → Wx X 6 σ 2 [(0, .ref (ad X 176)), (1, .ref (ad X p0)), (2, .int x2), (3, .int x3)] []) (hK35 : ∀ (x2 : Int32) (x3 : Int32) (x4 : Int32) (σ : wS), K35 x2 x3 x4 σ → Wx X 6 σ 35 [(0, .ref (ad X 176)), (1, .ref (ad X p0)), (2, .int x2), (3, .int x3), (4, .int x4)] []) (x2 : Int32) (x3 : Int32) (x4 : Int32) (z0 : Int32) (σ : wS) (h : b_X12_solves_69 p0 K2 K35 Q x2 x3 x4 z0 σ) : Wx X 6 σ 69 [(0, .ref (ad X 176)), (1, .ref (ad X p0)), (2, .int x2), (3, .int x3), (4, .int x4)] [.int z0, .ref (ad X 192)] := by
  unfold b_X12_solves_69 at h
  refine x_lconst (0 : Int64) F dX12_solves_69 (by decide) ?_
  refine x_sub (lv' := [(0, .ref (ad X 176)), (1, .ref (ad X p0)), (2, .int x2), (3, .int x3), (4, .int x4)]) [0, 1, 2, 3, 4] rfl ?_
  exact wb_X12_solves_70 F hret k_p0 hK2 hK35 _ _ _ _ _ _ h
def l_X12_solves_35 (p0 : Nat) (K2 : Int32 → Int32 → wS → Prop) (Q : wS → Prop) : Nat → Int32 → Int32 → Int32 → wS → Prop
  | 0, _, _, _, _ => False
  | n + 1, x2, x3, x4, σ => ((3 : Int32) ≤ x4 → (∀ y1 : Int32, y1 = (x3 + (1 : Int32)) → (K2 x2 y1 σ))) ∧ (¬ (3 : Int32) ≤ x4 → ((¬ x3 = x4 → (b_X12_solves_69 p0 K2 (fun x2 x3 x4 σ => l_X12_solves_35 p0 K2 Q n x2 x3 x4 σ) Q x2 x3 x4 (((3 : Int32) * x3) + x4) σ)) ∧ (x3 = x4 → (w_X12_isFree x3 σ (fun r3 s2 => (¬ r3 = 0 → (b_X12_solves_69 p0 K2 (fun x2 x3 x4 σ => l_X12_solves_35 p0 K2 Q n x2 x3 x4 σ) Q x2 x3 x4 (((3 : Int32) * x3) + x4) s2)) ∧ (r3 = 0 → (b_X12_solves_70 p0 K2 (fun x2 x3 x4 σ => l_X12_solves_35 p0 K2 Q n x2 x3 x4 σ) Q x2 x3 x4 (1 : Int64) (((3 : Int32) * x3) + x4) s2)))))))
set_option maxRecDepth 100000 in
set_option maxHeartbeats 4000000 in
theorem wl_X12_solves_35 {X : XT} {Q : wS → Prop} {p0 : Nat} (F : Fx X cX12_solves 6 RX12 wvX12_solves 3 73) (hret : Rv X 6 cX12_solves Q) (k_p0 : kd p0 = 14) {K2 : Int32 → Int32 → wS → Prop} (hK2 : ∀ (x2 : Int32) (x3 : Int32) (σ : wS), K2 x2 x3 σ → Wx X 6 σ 2 [(0, .ref (ad X 176)), (1, .ref (ad X p0)), (2, .int x2), (3, .int x3)] []) : ∀ (n : Nat) (x2 : Int32) (x3 : Int32) (x4 : Int32) (σ : wS), l_X12_solves_35 p0 K2 Q n x2 x3 x4 σ → Wx X 6 σ 35 [(0, .ref (ad X 176)), (1, .ref (ad X p0)), (2, .int x2), (3, .int x3), (4, .int x4)] [] := by
  intro n
  induction n with
  | zero =>
    intros
    contradiction
  | succ n ih =>
    intro x2 x3 x4 σ h
    simp only [l_X12_solves_35] at h
    refine x_iload F dX12_solves_35 4 rfl ?_
    refine x_iconst (3 : Int32) F dX12_solves_37 (by decide) ?_
    refine x_icmp_ge (tgt := 77) F dX12_solves_38 (by decide) (fun c => ?_) (fun c => ?_)
    · replace h := h.1 c
      obtain ⟨y1, ey1⟩ : ∃ y : Int32, y = (x3 + (1 : Int32)) := ⟨_, rfl⟩
      replace h := h y1 ey1
      refine x_iinc (q := 3) (v := y1) (lv' := [(3, .int y1), (0, .ref (ad X 176)), (1, .ref (ad X p0)), (2, .int x2), (4, .int x4)]) F dX12_solves_77 rfl (by rw [ey1]; rfl) (by decide) rfl ?_
      refine x_goto (tgt := 2) F dX12_solves_80 (by decide) ?_
      refine x_sub (lv' := [(0, .ref (ad X 176)), (1, .ref (ad X p0)), (2, .int x2), (3, .int y1)]) [1, 2, 3, 0] rfl ?_
      exact hK2 _ _ _ h
    · replace h := h.2 c
      refine x_aload_n F dX12_solves_41 rfl 0 rfl ?_
      refine g_12_26 F kz_176 in_12 (mc bw_7_22) dX12_solves_42 ?_
      refine x_iconst (3 : Int32) F dX12_solves_45 (by decide) ?_
      refine x_iload_n F dX12_solves_46 rfl 3 rfl ?_
      refine x_imul F dX12_solves_47 ?_
      refine x_iload F dX12_solves_48 4 rfl ?_
      refine x_iadd F dX12_solves_50 ?_
      refine x_iload_n F dX12_solves_51 rfl 3 rfl ?_
      refine x_iload F dX12_solves_52 4 rfl ?_
      refine x_icmp_ne (tgt := 69) F dX12_solves_54 (by decide) (fun c => ?_) (fun c => ?_)
      · replace h := h.1 c
        refine x_sub (lv' := [(0, .ref (ad X 176)), (1, .ref (ad X p0)), (2, .int x2), (3, .int x3), (4, .int x4)]) [0, 1, 2, 3, 4] rfl ?_
        exact wb_X12_solves_69 F hret k_p0 hK2 ih _ _ _ _ _ h
      · replace h := h.2 c
        refine x_aload_n F dX12_solves_57 rfl 0 rfl ?_
        refine x_iload_n F dX12_solves_58 rfl 3 rfl ?_
        refine x_callV_i F (c_X12_isFree (xl X) (xg X) (xA X) F.2.2.1  h) (bw_V bw_23_22 bw_23_23 bw_24_0 bw_1_5 bw_24_1) rfl cd_X12_isFree (Nat.le_of_ble_eq_true rfl) (Nat.le_of_ble_eq_true rfl) (kd_w (by decide) kz_176) rfl (cl_12 kz_176) rfl rfl (Nat.le_of_ble_eq_true rfl) dX12_solves_59 (fun r3 s2 h => ?_)
        refine x_if_ne (tgt := 69) F dX12_solves_62 (by decide) (fun c => ?_) (fun c => ?_)
        · replace h := h.1 c
          refine x_sub (lv' := [(0, .ref (ad X 176)), (1, .ref (ad X p0)), (2, .int x2), (3, .int x3), (4, .int x4)]) [0, 1, 2, 3, 4] rfl ?_
          exact wb_X12_solves_69 F hret k_p0 hK2 ih _ _ _ _ _ h
        · replace h := h.2 c
          refine x_lconst (1 : Int64) F dX12_solves_65 (by decide) ?_
          refine x_goto (tgt := 70) F dX12_solves_66 (by decide) ?_
          refine x_sub (lv' := [(0, .ref (ad X 176)), (1, .ref (ad X p0)), (2, .int x2), (3, .int x3), (4, .int x4)]) [0, 1, 2, 3, 4] rfl ?_
          exact wb_X12_solves_70 F hret k_p0 hK2 ih _ _ _ _ _ _ h
def b_X12_solves_31 (p0 : Nat) (K2 : Int32 → Int32 → wS → Prop) (Q : wS → Prop) (x2 : Int32) (x3 : Int32) (z0 : Int64) (z1 : Int32) (σ : wS) : Prop := vp_in z1 3 ∧ (∀ s1 : wS, s1 = upJ σ 193 (z1).toNatClampNeg z0 → ((∃ m, l_X12_solves_35 p0 K2 Q m x2 x3 (0 : Int32) s1)))
set_option maxRecDepth 100000 in
set_option maxHeartbeats 4000000 in
theorem wb_X12_solves_31 {X : XT} {Q : wS → Prop} {p0 : Nat} (F : Fx X cX12_solves 6 RX12 wvX12_solves 3 73) (hret : Rv X 6 cX12_solves Q) (k_p0 : kd p0 = 14) {K2 : Int32 → Int32 → wS → Prop} (hK2 : ∀ (x2 : Int32) (x3 : Int32) (σ : wS), K2 x2 x3 σ → Wx X 6 σ 2 [(0, .ref (ad X 176)), (1, .ref (ad X p0)), (2, .int x2), (3, .int x3)] []) (x2 : Int32) (x3 : Int32) (z0 : Int64) (z1 : Int32) (σ : wS) (h : b_X12_solves_31 p0 K2 Q x2 x3 z0 z1 σ) : Wx X 6 σ 31 [(0, .ref (ad X 176)), (1, .ref (ad X p0)), (2, .int x2), (3, .int x3)] [.long z0, .int z1, .ref (ad X 193)] := by
  unfold b_X12_solves_31 at h
  obtain ⟨hz, h⟩ := h
  refine x_last F kz_193 nz_193 hz dX12_solves_31 ?_
  refine x_nmS (fun s1 es1 => ?_)
  replace h := h s1 es1
  refine x_iconst (0 : Int32) F dX12_solves_32 (by decide) ?_
  refine x_istore (lv' := [(4, .int (0 : Int32)), (0, .ref (ad X 176)), (1, .ref (ad X p0)), (2, .int x2), (3, .int x3)]) F dX12_solves_33 (by decide) rfl ?_
  refine x_sub (lv' := [(0, .ref (ad X 176)), (1, .ref (ad X p0)), (2, .int x2), (3, .int x3), (4, .int (0 : Int32))]) [1, 2, 3, 4, 0] rfl ?_
  obtain ⟨n2, h⟩ := h
  exact wl_X12_solves_35 F hret k_p0 hK2 n2 _ _ _ _ h
def l_X12_solves_2 (p0 : Nat)  (Q : wS → Prop) : Nat → Int32 → Int32 → wS → Prop
  | 0, _, _, _ => False
  | n + 1, x2, x3, σ => ((3 : Int32) ≤ x3 → ((∃ m, l_X12_solves_85 p0  Q m x2 (0 : Int32) σ))) ∧ (¬ (3 : Int32) ≤ x3 → (w_X12_isFree x3 σ (fun r2 s1 => (r2 = 0 → (b_X12_solves_31 p0 (fun x2 x3 σ => l_X12_solves_2 p0  Q n x2 x3 σ) Q x2 x3 (0 : Int64) x3 s1)) ∧ (¬ r2 = 0 → (vp_in ((16 : Int32) + x3) (ln p0) ∧ (b_X12_solves_31 p0 (fun x2 x3 σ => l_X12_solves_2 p0  Q n x2 x3 σ) Q x2 x3 ((s1.1 p0 (((16 : Int32) + x3)).toNatClampNeg)).toInt64 x3 s1))))))
set_option maxRecDepth 100000 in
set_option maxHeartbeats 4000000 in
theorem wl_X12_solves_2 {X : XT} {Q : wS → Prop} {p0 : Nat} (F : Fx X cX12_solves 6 RX12 wvX12_solves 3 73) (hret : Rv X 6 cX12_solves Q) (k_p0 : kd p0 = 14)   : ∀ (n : Nat) (x2 : Int32) (x3 : Int32) (σ : wS), l_X12_solves_2 p0  Q n x2 x3 σ → Wx X 6 σ 2 [(0, .ref (ad X 176)), (1, .ref (ad X p0)), (2, .int x2), (3, .int x3)] [] := by
  intro n
  induction n with
  | zero =>
    intros
    contradiction
  | succ n ih =>
    intro x2 x3 σ h
    simp only [l_X12_solves_2] at h
    refine x_iload_n F dX12_solves_2 rfl 3 rfl ?_
    refine x_iconst (3 : Int32) F dX12_solves_3 (by decide) ?_
    refine x_icmp_ge (tgt := 83) F dX12_solves_4 (by decide) (fun c => ?_) (fun c => ?_)
    · replace h := h.1 c
      refine x_iconst (0 : Int32) F dX12_solves_83 (by decide) ?_
      refine x_istore_n (lv' := [(3, .int (0 : Int32)), (0, .ref (ad X 176)), (1, .ref (ad X p0)), (2, .int x2)]) F dX12_solves_84 rfl (by decide) rfl ?_
      refine x_sub (lv' := [(0, .ref (ad X 176)), (1, .ref (ad X p0)), (2, .int x2), (3, .int (0 : Int32))]) [1, 2, 3, 0] rfl ?_
      obtain ⟨n2, h⟩ := h
      exact wl_X12_solves_85 F hret k_p0  n2 _ _ _ h
    · replace h := h.2 c
      refine x_aload_n F dX12_solves_7 rfl 0 rfl ?_
      refine g_12_27 F kz_176 in_12 (mc bw_7_23) dX12_solves_8 ?_
      refine x_iload_n F dX12_solves_11 rfl 3 rfl ?_
      refine x_aload_n F dX12_solves_12 rfl 0 rfl ?_
      refine x_iload_n F dX12_solves_13 rfl 3 rfl ?_
      refine x_callV_i F (c_X12_isFree (xl X) (xg X) (xA X) F.2.2.1  h) (bw_V bw_23_22 bw_23_23 bw_24_0 bw_1_5 bw_24_1) rfl cd_X12_isFree (Nat.le_of_ble_eq_true rfl) (Nat.le_of_ble_eq_true rfl) (kd_w (by decide) kz_176) rfl (cl_12 kz_176) rfl rfl (Nat.le_of_ble_eq_true rfl) dX12_solves_14 (fun r2 s1 h => ?_)
      refine x_if_eq (tgt := 30) F dX12_solves_17 (by decide) (fun c => ?_) (fun c => ?_)
      · replace h := h.1 c
        refine x_lconst (0 : Int64) F dX12_solves_30 (by decide) ?_
        refine x_sub (lv' := [(0, .ref (ad X 176)), (1, .ref (ad X p0)), (2, .int x2), (3, .int x3)]) [0, 1, 2, 3] rfl ?_
        exact wb_X12_solves_31 F hret k_p0 ih _ _ _ _ _ h
      · replace h := h.2 c
        refine x_aload_n F dX12_solves_20 rfl 1 rfl ?_
        refine x_bipush (16 : Int32) F dX12_solves_21 (by decide) ?_
        refine x_iload_n F dX12_solves_23 rfl 3 rfl ?_
        refine x_iadd F dX12_solves_24 ?_
        obtain ⟨hj, h⟩ := h
        refine x_iald F k_p0 rfl hj dX12_solves_25 ?_
        refine x_i2l F dX12_solves_26 ?_
        refine x_goto (tgt := 31) F dX12_solves_27 (by decide) ?_
        refine x_sub (lv' := [(0, .ref (ad X 176)), (1, .ref (ad X p0)), (2, .int x2), (3, .int x3)]) [0, 1, 2, 3] rfl ?_
        exact wb_X12_solves_31 F hret k_p0 ih _ _ _ _ _ h
def w_X12_solves (p0 : Nat) (p1 : Int32) (σ : wS) (Q : wS → Prop) : Prop := (∃ m, l_X12_solves_2 p0  Q m p1 (0 : Int32) σ)
set_option maxRecDepth 100000 in
set_option maxHeartbeats 4000000 in
theorem c_X12_solves (l : Launch) (g : wG) (A : Nat → Prop) (hA : adO g A) {p0 : Nat} (k_p0 : kd p0 = 14) {p1 : Int32} {σ : wS} {Q : wS → Prop} (h : w_X12_solves p0 p1 σ Q) : Mv l yX12_solves wvX12_solves 3 73 g A [.ref (g.2.2 176), .ref (g.2.2 p0), .int p1] σ Q := by
  refine mt_v (own := RX12) (lv := [(0, .ref (g.2.2 176)), (1, .ref (g.2.2 p0)), (2, .int p1)]) (by decide) rfl rfl hA (Nat.le_of_ble_eq_true rfl) rfl ?_
  intro X hl hg hAA F hret
  subst hl hg hAA
  unfold w_X12_solves at h
  refine x_iconst (0 : Int32) F dX12_solves_0 (by decide) ?_
  refine x_istore_n (lv' := [(3, .int (0 : Int32)), (0, .ref (ad X 176)), (1, .ref (ad X p0)), (2, .int p1)]) F dX12_solves_1 rfl (by decide) rfl ?_
  refine x_sub (lv' := [(0, .ref (ad X 176)), (1, .ref (ad X p0)), (2, .int p1), (3, .int (0 : Int32))]) [1, 2, 3, 0] rfl ?_
  obtain ⟨n2, h⟩ := h
  exact wl_X12_solves_2 F hret k_p0  n2 _ _ _ h
/-! X12_pullOf -/
abbrev wvX12_pullOf : List Cond := Cond.code yX12_pullOf cX12_pullOf 6 (some .long) :: wsL_law
theorem cd_X12_pullOf : okN yX12_pullOf RX12 2 := by unfold okN; decide +kernel
def l_X12_pullOf_5 (p0 : Nat)  (Q : Int64 → wS → Prop) : Nat → Int32 → Int64 → Int32 → wS → Prop
  | 0, _, _, _, _ => False
  | n + 1, x2, x3, x5, σ => ((3 : Int32) ≤ x5 → (vp_in ((0 : Int32) + x2) (ln p0) ∧ (w_X12_stiffness x2 σ (fun r2 s1 => Q ((((σ.1 p0 (((0 : Int32) + x2)).toNatClampNeg)).toInt64 * (σ.2 176 29)) - ((r2).toInt64 * x3)) s1)))) ∧ (¬ (3 : Int32) ≤ x5 → (vp_in (((3 : Int32) * x2) + x5) 24 ∧ (vp_in x5 3 ∧ (∀ y3 : Int64, y3 = (x3 + (((σ.1 182 ((((3 : Int32) * x2) + x5)).toNatClampNeg)).toInt64 * (σ.2 194 (x5).toNatClampNeg))) → (∀ y4 : Int32, y4 = (x5 + (1 : Int32)) → (l_X12_pullOf_5 p0  Q n x2 y3 y4 σ))))))
set_option maxRecDepth 100000 in
set_option maxHeartbeats 4000000 in
theorem wl_X12_pullOf_5 {X : XT} {Q : Int64 → wS → Prop} {p0 : Nat} (F : Fx X cX12_pullOf 6 RX12 wvX12_pullOf 1 21) (hret : Rl X 6 cX12_pullOf Q) (k_p0 : kd p0 = 14)   : ∀ (n : Nat) (x2 : Int32) (x3 : Int64) (x5 : Int32) (σ : wS), l_X12_pullOf_5 p0  Q n x2 x3 x5 σ → Wx X 6 σ 5 [(0, .ref (ad X 176)), (1, .ref (ad X p0)), (2, .int x2), (3, .long x3), (5, .int x5)] [] := by
  intro n
  induction n with
  | zero =>
    intros
    contradiction
  | succ n ih =>
    intro x2 x3 x5 σ h
    simp only [l_X12_pullOf_5] at h
    refine x_iload F dX12_pullOf_5 4 rfl ?_
    refine x_iconst (3 : Int32) F dX12_pullOf_7 (by decide) ?_
    refine x_icmp_ge (tgt := 40) F dX12_pullOf_8 (by decide) (fun c => ?_) (fun c => ?_)
    · replace h := h.1 c
      refine x_aload_n F dX12_pullOf_40 rfl 1 rfl ?_
      refine x_iconst (0 : Int32) F dX12_pullOf_41 (by decide) ?_
      refine x_iload_n F dX12_pullOf_42 rfl 2 rfl ?_
      refine x_iadd F dX12_pullOf_43 ?_
      obtain ⟨hj, h⟩ := h
      refine x_iald F k_p0 rfl hj dX12_pullOf_44 ?_
      refine x_i2l F dX12_pullOf_45 ?_
      refine x_aload_n F dX12_pullOf_46 rfl 0 rfl ?_
      refine g_12_29 F kz_176 in_12 (mc bw_23_10) dX12_pullOf_47 ?_
      refine x_lmul F dX12_pullOf_50 ?_
      refine x_aload_n F dX12_pullOf_51 rfl 0 rfl ?_
      refine x_iload_n F dX12_pullOf_52 rfl 2 rfl ?_
      refine x_callV_i F (c_X12_stiffness (xl X) (xg X) (xA X) F.2.2.1  h) (bw_V bw_24_2 bw_24_3 bw_24_4 bw_1_5 bw_24_5) rfl cd_X12_stiffness (Nat.le_of_ble_eq_true rfl) (Nat.le_of_ble_eq_true rfl) (kd_w (by decide) kz_176) rfl (cl_12 kz_176) rfl rfl (Nat.le_of_ble_eq_true rfl) dX12_pullOf_53 (fun r2 s1 h => ?_)
      refine x_i2l F dX12_pullOf_56 ?_
      refine x_lload_n F dX12_pullOf_57 rfl 3 rfl ?_
      refine x_lmul F dX12_pullOf_58 ?_
      refine x_lsub F dX12_pullOf_59 ?_
      exact hret _ _ _ _ h dX12_pullOf_60
    · replace h := h.2 c
      refine x_lload_n F dX12_pullOf_11 rfl 3 rfl ?_
      refine x_aload_n F dX12_pullOf_12 rfl 0 rfl ?_
      refine g_12_9 F kz_176 in_12 (mc bw_7_12) dX12_pullOf_13 ?_
      refine x_iconst (3 : Int32) F dX12_pullOf_16 (by decide) ?_
      refine x_iload_n F dX12_pullOf_17 rfl 2 rfl ?_
      refine x_imul F dX12_pullOf_18 ?_
      refine x_iload F dX12_pullOf_19 4 rfl ?_
      refine x_iadd F dX12_pullOf_21 ?_
      obtain ⟨hj, h⟩ := h
      refine x_iald F kz_182 nz_182 hj dX12_pullOf_22 ?_
      refine x_i2l F dX12_pullOf_23 ?_
      refine x_aload_n F dX12_pullOf_24 rfl 0 rfl ?_
      refine g_12_28 F kz_176 in_12 (mc bw_8_0) dX12_pullOf_25 ?_
      refine x_iload F dX12_pullOf_28 4 rfl ?_
      obtain ⟨hj, h⟩ := h
      refine x_lald F kz_194 nz_194 hj dX12_pullOf_30 ?_
      refine x_lmul F dX12_pullOf_31 ?_
      refine x_ladd F dX12_pullOf_32 ?_
      refine x_topl (fun y3 ey3 => ?_)
      replace h := h y3 ey3
      refine x_lstore_n (lv' := [(3, .long y3), (0, .ref (ad X 176)), (1, .ref (ad X p0)), (2, .int x2), (5, .int x5)]) F dX12_pullOf_33 rfl (by decide) rfl ?_
      obtain ⟨y4, ey4⟩ : ∃ y : Int32, y = (x5 + (1 : Int32)) := ⟨_, rfl⟩
      replace h := h y4 ey4
      refine x_iinc (q := 4) (v := y4) (lv' := [(5, .int y4), (3, .long y3), (0, .ref (ad X 176)), (1, .ref (ad X p0)), (2, .int x2)]) F dX12_pullOf_34 rfl (by rw [ey4]; rfl) (by decide) rfl ?_
      refine x_goto (tgt := 5) F dX12_pullOf_37 (by decide) ?_
      refine x_sub (lv' := [(0, .ref (ad X 176)), (1, .ref (ad X p0)), (2, .int x2), (3, .long y3), (5, .int y4)]) [2, 3, 4, 1, 0] rfl ?_
      exact ih _ _ _ _ h
def w_X12_pullOf (p0 : Nat) (p1 : Int32) (σ : wS) (Q : Int64 → wS → Prop) : Prop := (∃ m, l_X12_pullOf_5 p0  Q m p1 (0 : Int64) (0 : Int32) σ)
set_option maxRecDepth 100000 in
set_option maxHeartbeats 4000000 in
theorem c_X12_pullOf (l : Launch) (g : wG) (A : Nat → Prop) (hA : adO g A) {p0 : Nat} (k_p0 : kd p0 = 14) {p1 : Int32} {σ : wS} {Q : Int64 → wS → Prop} (h : w_X12_pullOf p0 p1 σ Q) : Ml l yX12_pullOf wvX12_pullOf 1 21 g A [.ref (g.2.2 176), .ref (g.2.2 p0), .int p1] σ Q := by
  refine mt_l (own := RX12) (lv := [(0, .ref (g.2.2 176)), (1, .ref (g.2.2 p0)), (2, .int p1)]) (by decide) rfl rfl hA (Nat.le_of_ble_eq_true rfl) rfl ?_
  intro X hl hg hAA F hret
  subst hl hg hAA
  unfold w_X12_pullOf at h
  refine x_lconst (0 : Int64) F dX12_pullOf_0 (by decide) ?_
  refine x_lstore_n (lv' := [(3, .long (0 : Int64)), (0, .ref (ad X 176)), (1, .ref (ad X p0)), (2, .int p1)]) F dX12_pullOf_1 rfl (by decide) rfl ?_
  refine x_iconst (0 : Int32) F dX12_pullOf_2 (by decide) ?_
  refine x_istore (lv' := [(5, .int (0 : Int32)), (3, .long (0 : Int64)), (0, .ref (ad X 176)), (1, .ref (ad X p0)), (2, .int p1)]) F dX12_pullOf_3 (by decide) rfl ?_
  refine x_sub (lv' := [(0, .ref (ad X 176)), (1, .ref (ad X p0)), (2, .int p1), (3, .long (0 : Int64)), (5, .int (0 : Int32))]) [2, 3, 4, 1, 0] rfl ?_
  obtain ⟨n2, h⟩ := h
  exact wl_X12_pullOf_5 F hret k_p0  n2 _ _ _ _ h
/-! X12_pusher -/
abbrev wvX12_pusher : List Cond := Cond.code yX12_pusher cX12_pusher 5 (some .int) :: wsL_law
theorem cd_X12_pusher : okN yX12_pusher RX12 2 := by unfold okN; decide +kernel
def b_X12_pusher_60 (p0 : Nat) (K5 : Int32 → Int32 → Int32 → wS → Prop) (Q : Int32 → wS → Prop) (x2 : Int32) (x3 : Int32) (x4 : Int32) (σ : wS) : Prop := ∀ y1 : Int32, y1 = (x4 + (1 : Int32)) → (K5 x2 x3 y1 σ)
set_option maxRecDepth 100000 in
set_option maxHeartbeats 4000000 in
theorem wb_X12_pusher_60 {X : XT} {Q : Int32 → wS → Prop} {p0 : Nat} (F : Fx X cX12_pusher 5 RX12 wvX12_pusher 2 46) (hret : Ri X 5 cX12_pusher .int Q) (k_p0 : kd p0 = 14) {K5 : Int32 → Int32 → Int32 → wS → Prop} (hK5 : ∀ (x2 : Int32) (x3 : Int32) (x4 : Int32) (σ : wS), K5 x2 x3 x4 σ → Wx X 5 σ 5 [(0, .ref (ad X 176)), (1, .ref (ad X p0)), (2, .int x2), (3, .int x3), (4, .int x4)] []) (x2 : Int32) (x3 : Int32) (x4 : Int32) (σ : wS) (h : b_X12_pusher_60 p0 K5 Q x2 x3 x4 σ) : Wx X 5 σ 60 [(0, .ref (ad X 176)), (1, .ref (ad X p0)), (2, .int x2), (3, .int x3), (4, .int x4)] [] := by
  unfold b_X12_pusher_60 at h
  obtain ⟨y1, ey1⟩ : ∃ y : Int32, y = (x4 + (1 : Int32)) := ⟨_, rfl⟩
  replace h := h y1 ey1
  refine x_iinc (q := 4) (v := y1) (lv' := [(4, .int y1), (0, .ref (ad X 176)), (1, .ref (ad X p0)), (2, .int x2), (3, .int x3)]) F dX12_pusher_60 rfl (by rw [ey1]; rfl) (by decide) rfl ?_
  refine x_goto (tgt := 5) F dX12_pusher_63 (by decide) ?_
  refine x_sub (lv' := [(0, .ref (ad X 176)), (1, .ref (ad X p0)), (2, .int x2), (3, .int x3), (4, .int y1)]) [1, 2, 3, 4, 0] rfl ?_
  exact hK5 _ _ _ _ h
def b_X12_pusher_57 (p0 : Nat) (K5 : Int32 → Int32 → Int32 → wS → Prop) (Q : Int32 → wS → Prop) (x2 : Int32) (x4 : Int32) (σ : wS) : Prop := b_X12_pusher_60 p0 K5 Q x2 x4 x4 σ
set_option maxRecDepth 100000 in
set_option maxHeartbeats 4000000 in
theorem wb_X12_pusher_57 {X : XT} {Q : Int32 → wS → Prop} {p0 : Nat} (F : Fx X cX12_pusher 5 RX12 wvX12_pusher 2 46) (hret : Ri X 5 cX12_pusher .int Q) (k_p0 : kd p0 = 14) {K5 : Int32 → Int32 → Int32 → wS → Prop} (hK5 : ∀ (x2 : Int32) (x3 : Int32) (x4 : Int32) (σ : wS), K5 x2 x3 x4 σ → Wx X 5 σ 5 [(0, .ref (ad X 176)), (1, .ref (ad X p0)), (2, .int x2), (3, .int x3), (4, .int x4)] []) (x2 : Int32) (x4 : Int32) (σ : wS) (h : b_X12_pusher_57 p0 K5 Q x2 x4 σ) : Wx X 5 σ 57 [(0, .ref (ad X 176)), (1, .ref (ad X p0)), (2, .int x2), (4, .int x4)] [] := by
  unfold b_X12_pusher_57 at h
  refine x_iload F dX12_pusher_57 3 rfl ?_
  refine x_istore_n (lv' := [(3, .int x4), (0, .ref (ad X 176)), (1, .ref (ad X p0)), (2, .int x2), (4, .int x4)]) F dX12_pusher_59 rfl (by decide) rfl ?_
  refine x_sub (lv' := [(0, .ref (ad X 176)), (1, .ref (ad X p0)), (2, .int x2), (3, .int x4), (4, .int x4)]) [1, 2, 3, 0, 4] rfl ?_
  exact wb_X12_pusher_60 F hret k_p0 hK5 _ _ _ _ h
def l_X12_pusher_5 (p0 : Nat)  (Q : Int32 → wS → Prop) : Nat → Int32 → Int32 → Int32 → wS → Prop
  | 0, _, _, _, _ => False
  | n + 1, x2, x3, x4, σ => ((σ.1 176 14) ≤ x4 → (Q x3 σ)) ∧ (¬ (σ.1 176 14) ≤ x4 → (w_X12_has x2 x4 σ (fun r2 s1 => (r2 = 0 → (b_X12_pusher_60 p0 (fun x2 x3 x4 σ => l_X12_pusher_5 p0  Q n x2 x3 x4 σ) Q x2 x3 x4 s1)) ∧ (¬ r2 = 0 → (w_X12_pullOf p0 x4 s1 (fun r4 s3 => (0 ≤ (lg_cmp r4 (0 : Int64)) → (b_X12_pusher_60 p0 (fun x2 x3 x4 σ => l_X12_pusher_5 p0  Q n x2 x3 x4 σ) Q x2 x3 x4 s3)) ∧ (¬ 0 ≤ (lg_cmp r4 (0 : Int64)) → ((x3 = (-1 : Int32) → (b_X12_pusher_57 p0 (fun x2 x3 x4 σ => l_X12_pusher_5 p0  Q n x2 x3 x4 σ) Q x2 x4 s3)) ∧ (¬ x3 = (-1 : Int32) → (w_X12_pullOf p0 x4 s3 (fun r6 s5 => w_X12_pullOf p0 x3 s5 (fun r8 s7 => (0 ≤ (lg_cmp r6 r8) → (b_X12_pusher_60 p0 (fun x2 x3 x4 σ => l_X12_pusher_5 p0  Q n x2 x3 x4 σ) Q x2 x3 x4 s7)) ∧ (¬ 0 ≤ (lg_cmp r6 r8) → (b_X12_pusher_57 p0 (fun x2 x3 x4 σ => l_X12_pusher_5 p0  Q n x2 x3 x4 σ) Q x2 x4 s7))))))))))))))
set_option maxRecDepth 100000 in
set_option maxHeartbeats 4000000 in
theorem wl_X12_pusher_5 {X : XT} {Q : Int32 → wS → Prop} {p0 : Nat} (F : Fx X cX12_pusher 5 RX12 wvX12_pusher 2 46) (hret : Ri X 5 cX12_pusher .int Q) (k_p0 : kd p0 = 14)   : ∀ (n : Nat) (x2 : Int32) (x3 : Int32) (x4 : Int32) (σ : wS), l_X12_pusher_5 p0  Q n x2 x3 x4 σ → Wx X 5 σ 5 [(0, .ref (ad X 176)), (1, .ref (ad X p0)), (2, .int x2), (3, .int x3), (4, .int x4)] [] := by
  intro n
  induction n with
  | zero =>
    intros
    contradiction
  | succ n ih =>
    intro x2 x3 x4 σ h
    simp only [l_X12_pusher_5] at h
    refine x_iload F dX12_pusher_5 4 rfl ?_
    refine x_aload_n F dX12_pusher_7 rfl 0 rfl ?_
    refine g_12_14 F kz_176 in_12 (mc bw_22_18) dX12_pusher_8 ?_
    refine x_icmp_ge (tgt := 66) F dX12_pusher_11 (by decide) (fun c => ?_) (fun c => ?_)
    · replace h := h.1 c
      refine x_iload_n F dX12_pusher_66 rfl 3 rfl ?_
      exact hret _ _ _ _ h rfl dX12_pusher_67
    · replace h := h.2 c
      refine x_iload_n F dX12_pusher_14 rfl 2 rfl ?_
      refine x_iload F dX12_pusher_15 4 rfl ?_
      refine x_callT_i F (c_X12_has (xl X) (xg X) (xA X) F.2.2.1  h) (bw_S bw_16_18 bw_16_19 bw_1_5 bw_16_20) rfl cd_X12_has (Nat.le_of_ble_eq_true rfl) (Nat.le_of_ble_eq_true rfl) rfl rfl (Nat.le_of_ble_eq_true rfl) dX12_pusher_17 (fun r2 s1 h => ?_)
      refine x_if_eq (tgt := 60) F dX12_pusher_20 (by decide) (fun c => ?_) (fun c => ?_)
      · replace h := h.1 c
        refine x_sub (lv' := [(0, .ref (ad X 176)), (1, .ref (ad X p0)), (2, .int x2), (3, .int x3), (4, .int x4)]) [0, 1, 2, 3, 4] rfl ?_
        exact wb_X12_pusher_60 F hret k_p0 ih _ _ _ _ h
      · replace h := h.2 c
        refine x_aload_n F dX12_pusher_23 rfl 0 rfl ?_
        refine x_aload_n F dX12_pusher_24 rfl 1 rfl ?_
        refine x_iload F dX12_pusher_25 4 rfl ?_
        refine x_callV_l F (c_X12_pullOf (xl X) (xg X) (xA X) F.2.2.1 k_p0 h) (bw_V bw_24_22 bw_24_23 bw_25_0 bw_1_5 bw_25_1) rfl cd_X12_pullOf (Nat.le_of_ble_eq_true rfl) (Nat.le_of_ble_eq_true rfl) (kd_w (by decide) kz_176) rfl (cl_12 kz_176) rfl rfl (Nat.le_of_ble_eq_true rfl) dX12_pusher_27 (fun r4 s3 h => ?_)
        refine x_lconst (0 : Int64) F dX12_pusher_30 (by decide) ?_
        refine x_lcmp F dX12_pusher_31 ?_
        refine x_if_ge (tgt := 60) F dX12_pusher_32 (by decide) (fun c => ?_) (fun c => ?_)
        · replace h := h.1 c
          refine x_sub (lv' := [(0, .ref (ad X 176)), (1, .ref (ad X p0)), (2, .int x2), (3, .int x3), (4, .int x4)]) [0, 1, 2, 3, 4] rfl ?_
          exact wb_X12_pusher_60 F hret k_p0 ih _ _ _ _ h
        · replace h := h.2 c
          refine x_iload_n F dX12_pusher_35 rfl 3 rfl ?_
          refine x_iconst (-1 : Int32) F dX12_pusher_36 (by decide) ?_
          refine x_icmp_eq (tgt := 57) F dX12_pusher_37 (by decide) (fun c => ?_) (fun c => ?_)
          · replace h := h.1 c
            refine x_sub (lv' := [(0, .ref (ad X 176)), (1, .ref (ad X p0)), (2, .int x2), (4, .int x4)]) [0, 1, 2, 4] rfl ?_
            exact wb_X12_pusher_57 F hret k_p0 ih _ _ _ h
          · replace h := h.2 c
            refine x_aload_n F dX12_pusher_40 rfl 0 rfl ?_
            refine x_aload_n F dX12_pusher_41 rfl 1 rfl ?_
            refine x_iload F dX12_pusher_42 4 rfl ?_
            refine x_callV_l F (c_X12_pullOf (xl X) (xg X) (xA X) F.2.2.1 k_p0 h) (bw_V bw_24_22 bw_24_23 bw_25_0 bw_1_5 bw_25_1) rfl cd_X12_pullOf (Nat.le_of_ble_eq_true rfl) (Nat.le_of_ble_eq_true rfl) (kd_w (by decide) kz_176) rfl (cl_12 kz_176) rfl rfl (Nat.le_of_ble_eq_true rfl) dX12_pusher_44 (fun r6 s5 h => ?_)
            refine x_aload_n F dX12_pusher_47 rfl 0 rfl ?_
            refine x_aload_n F dX12_pusher_48 rfl 1 rfl ?_
            refine x_iload_n F dX12_pusher_49 rfl 3 rfl ?_
            refine x_callV_l F (c_X12_pullOf (xl X) (xg X) (xA X) F.2.2.1 k_p0 h) (bw_V bw_24_22 bw_24_23 bw_25_0 bw_1_5 bw_25_1) rfl cd_X12_pullOf (Nat.le_of_ble_eq_true rfl) (Nat.le_of_ble_eq_true rfl) (kd_w (by decide) kz_176) rfl (cl_12 kz_176) rfl rfl (Nat.le_of_ble_eq_true rfl) dX12_pusher_50 (fun r8 s7 h => ?_)
            refine x_lcmp F dX12_pusher_53 ?_
            refine x_if_ge (tgt := 60) F dX12_pusher_54 (by decide) (fun c => ?_) (fun c => ?_)
            · replace h := h.1 c
              refine x_sub (lv' := [(0, .ref (ad X 176)), (1, .ref (ad X p0)), (2, .int x2), (3, .int x3), (4, .int x4)]) [0, 1, 2, 3, 4] rfl ?_
              exact wb_X12_pusher_60 F hret k_p0 ih _ _ _ _ h
            · replace h := h.2 c
              refine x_sub (lv' := [(0, .ref (ad X 176)), (1, .ref (ad X p0)), (2, .int x2), (4, .int x4)]) [0, 1, 2, 4] rfl ?_
              exact wb_X12_pusher_57 F hret k_p0 ih _ _ _ h
def w_X12_pusher (p0 : Nat) (p1 : Int32) (σ : wS) (Q : Int32 → wS → Prop) : Prop := (∃ m, l_X12_pusher_5 p0  Q m p1 (-1 : Int32) (0 : Int32) σ)
set_option maxRecDepth 100000 in
set_option maxHeartbeats 4000000 in
theorem c_X12_pusher (l : Launch) (g : wG) (A : Nat → Prop) (hA : adO g A) {p0 : Nat} (k_p0 : kd p0 = 14) {p1 : Int32} {σ : wS} {Q : Int32 → wS → Prop} (h : w_X12_pusher p0 p1 σ Q) : Mi l yX12_pusher wvX12_pusher 2 46 g A [.ref (g.2.2 176), .ref (g.2.2 p0), .int p1] σ Q := by
  refine mt_i (own := RX12) (lv := [(0, .ref (g.2.2 176)), (1, .ref (g.2.2 p0)), (2, .int p1)]) (by decide) rfl rfl hA (Nat.le_of_ble_eq_true rfl) rfl ?_
  intro X hl hg hAA F hret
  subst hl hg hAA
  unfold w_X12_pusher at h
  refine x_iconst (-1 : Int32) F dX12_pusher_0 (by decide) ?_
  refine x_istore_n (lv' := [(3, .int (-1 : Int32)), (0, .ref (ad X 176)), (1, .ref (ad X p0)), (2, .int p1)]) F dX12_pusher_1 rfl (by decide) rfl ?_
  refine x_iconst (0 : Int32) F dX12_pusher_2 (by decide) ?_
  refine x_istore (lv' := [(4, .int (0 : Int32)), (3, .int (-1 : Int32)), (0, .ref (ad X 176)), (1, .ref (ad X p0)), (2, .int p1)]) F dX12_pusher_3 (by decide) rfl ?_
  refine x_sub (lv' := [(0, .ref (ad X 176)), (1, .ref (ad X p0)), (2, .int p1), (3, .int (-1 : Int32)), (4, .int (0 : Int32))]) [2, 3, 4, 1, 0] rfl ?_
  obtain ⟨n2, h⟩ := h
  exact wl_X12_pusher_5 F hret k_p0  n2 _ _ _ _ h
/-! X12_wanted -/
abbrev wvX12_wanted : List Cond := Cond.code yX12_wanted cX12_wanted 5 (some .int) :: wsL_law
theorem cd_X12_wanted : okN yX12_wanted RX12 2 := by unfold okN; decide +kernel
def b_X12_wanted_71 (p0 : Nat) (K5 : Int32 → Int32 → Int32 → wS → Prop) (Q : Int32 → wS → Prop) (x2 : Int32) (x3 : Int32) (x4 : Int32) (σ : wS) : Prop := ∀ y1 : Int32, y1 = (x4 + (1 : Int32)) → (K5 x2 x3 y1 σ)
set_option maxRecDepth 100000 in
set_option maxHeartbeats 4000000 in
theorem wb_X12_wanted_71 {X : XT} {Q : Int32 → wS → Prop} {p0 : Nat} (F : Fx X cX12_wanted 5 RX12 wvX12_wanted 2 46) (hret : Ri X 5 cX12_wanted .int Q) (k_p0 : kd p0 = 14) {K5 : Int32 → Int32 → Int32 → wS → Prop} (hK5 : ∀ (x2 : Int32) (x3 : Int32) (x4 : Int32) (σ : wS), K5 x2 x3 x4 σ → Wx X 5 σ 5 [(0, .ref (ad X 176)), (1, .ref (ad X p0)), (2, .int x2), (3, .int x3), (4, .int x4)] []) (x2 : Int32) (x3 : Int32) (x4 : Int32) (σ : wS) (h : b_X12_wanted_71 p0 K5 Q x2 x3 x4 σ) : Wx X 5 σ 71 [(0, .ref (ad X 176)), (1, .ref (ad X p0)), (2, .int x2), (3, .int x3), (4, .int x4)] [] := by
  unfold b_X12_wanted_71 at h
  obtain ⟨y1, ey1⟩ : ∃ y : Int32, y = (x4 + (1 : Int32)) := ⟨_, rfl⟩
  replace h := h y1 ey1
  refine x_iinc (q := 4) (v := y1) (lv' := [(4, .int y1), (0, .ref (ad X 176)), (1, .ref (ad X p0)), (2, .int x2), (3, .int x3)]) F dX12_wanted_71 rfl (by rw [ey1]; rfl) (by decide) rfl ?_
  refine x_goto (tgt := 5) F dX12_wanted_74 (by decide) ?_
  refine x_sub (lv' := [(0, .ref (ad X 176)), (1, .ref (ad X p0)), (2, .int x2), (3, .int x3), (4, .int y1)]) [1, 2, 3, 4, 0] rfl ?_
  exact hK5 _ _ _ _ h
def b_X12_wanted_68 (p0 : Nat) (K5 : Int32 → Int32 → Int32 → wS → Prop) (Q : Int32 → wS → Prop) (x2 : Int32) (x4 : Int32) (σ : wS) : Prop := b_X12_wanted_71 p0 K5 Q x2 x4 x4 σ
set_option maxRecDepth 100000 in
set_option maxHeartbeats 4000000 in
theorem wb_X12_wanted_68 {X : XT} {Q : Int32 → wS → Prop} {p0 : Nat} (F : Fx X cX12_wanted 5 RX12 wvX12_wanted 2 46) (hret : Ri X 5 cX12_wanted .int Q) (k_p0 : kd p0 = 14) {K5 : Int32 → Int32 → Int32 → wS → Prop} (hK5 : ∀ (x2 : Int32) (x3 : Int32) (x4 : Int32) (σ : wS), K5 x2 x3 x4 σ → Wx X 5 σ 5 [(0, .ref (ad X 176)), (1, .ref (ad X p0)), (2, .int x2), (3, .int x3), (4, .int x4)] []) (x2 : Int32) (x4 : Int32) (σ : wS) (h : b_X12_wanted_68 p0 K5 Q x2 x4 σ) : Wx X 5 σ 68 [(0, .ref (ad X 176)), (1, .ref (ad X p0)), (2, .int x2), (4, .int x4)] [] := by
  unfold b_X12_wanted_68 at h
  refine x_iload F dX12_wanted_68 3 rfl ?_
  refine x_istore_n (lv' := [(3, .int x4), (0, .ref (ad X 176)), (1, .ref (ad X p0)), (2, .int x2), (4, .int x4)]) F dX12_wanted_70 rfl (by decide) rfl ?_
  refine x_sub (lv' := [(0, .ref (ad X 176)), (1, .ref (ad X p0)), (2, .int x2), (3, .int x4), (4, .int x4)]) [1, 2, 3, 0, 4] rfl ?_
  exact wb_X12_wanted_71 F hret k_p0 hK5 _ _ _ _ h
def l_X12_wanted_5 (p0 : Nat)  (Q : Int32 → wS → Prop) : Nat → Int32 → Int32 → Int32 → wS → Prop
  | 0, _, _, _, _ => False
  | n + 1, x2, x3, x4, σ => ((σ.1 176 14) ≤ x4 → (Q x3 σ)) ∧ (¬ (σ.1 176 14) ≤ x4 → (w_X12_has x2 x4 σ (fun r2 s1 => (¬ r2 = 0 → (b_X12_wanted_71 p0 (fun x2 x3 x4 σ => l_X12_wanted_5 p0  Q n x2 x3 x4 σ) Q x2 x3 x4 s1)) ∧ (r2 = 0 → (vp_in ((8 : Int32) + x4) (ln p0) ∧ (((2 : Int32) ≤ (s1.1 p0 (((8 : Int32) + x4)).toNatClampNeg) → (b_X12_wanted_71 p0 (fun x2 x3 x4 σ => l_X12_wanted_5 p0  Q n x2 x3 x4 σ) Q x2 x3 x4 s1)) ∧ (¬ (2 : Int32) ≤ (s1.1 p0 (((8 : Int32) + x4)).toNatClampNeg) → (w_X12_pullOf p0 x4 s1 (fun r4 s3 => ((lg_cmp r4 (0 : Int64)) ≤ 0 → (b_X12_wanted_71 p0 (fun x2 x3 x4 σ => l_X12_wanted_5 p0  Q n x2 x3 x4 σ) Q x2 x3 x4 s3)) ∧ (¬ (lg_cmp r4 (0 : Int64)) ≤ 0 → ((x3 = (-1 : Int32) → (b_X12_wanted_68 p0 (fun x2 x3 x4 σ => l_X12_wanted_5 p0  Q n x2 x3 x4 σ) Q x2 x4 s3)) ∧ (¬ x3 = (-1 : Int32) → (w_X12_pullOf p0 x4 s3 (fun r6 s5 => w_X12_pullOf p0 x3 s5 (fun r8 s7 => ((lg_cmp r6 r8) ≤ 0 → (b_X12_wanted_71 p0 (fun x2 x3 x4 σ => l_X12_wanted_5 p0  Q n x2 x3 x4 σ) Q x2 x3 x4 s7)) ∧ (¬ (lg_cmp r6 r8) ≤ 0 → (b_X12_wanted_68 p0 (fun x2 x3 x4 σ => l_X12_wanted_5 p0  Q n x2 x3 x4 σ) Q x2 x4 s7)))))))))))))))))
set_option maxRecDepth 100000 in
set_option maxHeartbeats 4000000 in
theorem wl_X12_wanted_5 {X : XT} {Q : Int32 → wS → Prop} {p0 : Nat} (F : Fx X cX12_wanted 5 RX12 wvX12_wanted 2 46) (hret : Ri X 5 cX12_wanted .int Q) (k_p0 : kd p0 = 14)   : ∀ (n : Nat) (x2 : Int32) (x3 : Int32) (x4 : Int32) (σ : wS), l_X12_wanted_5 p0  Q n x2 x3 x4 σ → Wx X 5 σ 5 [(0, .ref (ad X 176)), (1, .ref (ad X p0)), (2, .int x2), (3, .int x3), (4, .int x4)] [] := by
  intro n
  induction n with
  | zero =>
    intros
    contradiction
  | succ n ih =>
    intro x2 x3 x4 σ h
    simp only [l_X12_wanted_5] at h
    refine x_iload F dX12_wanted_5 4 rfl ?_
    refine x_aload_n F dX12_wanted_7 rfl 0 rfl ?_
    refine g_12_14 F kz_176 in_12 (mc bw_22_18) dX12_wanted_8 ?_
    refine x_icmp_ge (tgt := 77) F dX12_wanted_11 (by decide) (fun c => ?_) (fun c => ?_)
    · replace h := h.1 c
      refine x_iload_n F dX12_wanted_77 rfl 3 rfl ?_
      exact hret _ _ _ _ h rfl dX12_wanted_78
    · replace h := h.2 c
      refine x_iload_n F dX12_wanted_14 rfl 2 rfl ?_
      refine x_iload F dX12_wanted_15 4 rfl ?_
      refine x_callT_i F (c_X12_has (xl X) (xg X) (xA X) F.2.2.1  h) (bw_S bw_16_18 bw_16_19 bw_1_5 bw_16_20) rfl cd_X12_has (Nat.le_of_ble_eq_true rfl) (Nat.le_of_ble_eq_true rfl) rfl rfl (Nat.le_of_ble_eq_true rfl) dX12_wanted_17 (fun r2 s1 h => ?_)
      refine x_if_ne (tgt := 71) F dX12_wanted_20 (by decide) (fun c => ?_) (fun c => ?_)
      · replace h := h.1 c
        refine x_sub (lv' := [(0, .ref (ad X 176)), (1, .ref (ad X p0)), (2, .int x2), (3, .int x3), (4, .int x4)]) [0, 1, 2, 3, 4] rfl ?_
        exact wb_X12_wanted_71 F hret k_p0 ih _ _ _ _ h
      · replace h := h.2 c
        refine x_aload_n F dX12_wanted_23 rfl 1 rfl ?_
        refine x_bipush (8 : Int32) F dX12_wanted_24 (by decide) ?_
        refine x_iload F dX12_wanted_26 4 rfl ?_
        refine x_iadd F dX12_wanted_28 ?_
        obtain ⟨hj, h⟩ := h
        refine x_iald F k_p0 rfl hj dX12_wanted_29 ?_
        refine x_iconst (2 : Int32) F dX12_wanted_30 (by decide) ?_
        refine x_icmp_ge (tgt := 71) F dX12_wanted_31 (by decide) (fun c => ?_) (fun c => ?_)
        · replace h := h.1 c
          refine x_sub (lv' := [(0, .ref (ad X 176)), (1, .ref (ad X p0)), (2, .int x2), (3, .int x3), (4, .int x4)]) [0, 1, 2, 3, 4] rfl ?_
          exact wb_X12_wanted_71 F hret k_p0 ih _ _ _ _ h
        · replace h := h.2 c
          refine x_aload_n F dX12_wanted_34 rfl 0 rfl ?_
          refine x_aload_n F dX12_wanted_35 rfl 1 rfl ?_
          refine x_iload F dX12_wanted_36 4 rfl ?_
          refine x_callV_l F (c_X12_pullOf (xl X) (xg X) (xA X) F.2.2.1 k_p0 h) (bw_V bw_24_22 bw_24_23 bw_25_0 bw_1_5 bw_25_1) rfl cd_X12_pullOf (Nat.le_of_ble_eq_true rfl) (Nat.le_of_ble_eq_true rfl) (kd_w (by decide) kz_176) rfl (cl_12 kz_176) rfl rfl (Nat.le_of_ble_eq_true rfl) dX12_wanted_38 (fun r4 s3 h => ?_)
          refine x_lconst (0 : Int64) F dX12_wanted_41 (by decide) ?_
          refine x_lcmp F dX12_wanted_42 ?_
          refine x_if_le (tgt := 71) F dX12_wanted_43 (by decide) (fun c => ?_) (fun c => ?_)
          · replace h := h.1 c
            refine x_sub (lv' := [(0, .ref (ad X 176)), (1, .ref (ad X p0)), (2, .int x2), (3, .int x3), (4, .int x4)]) [0, 1, 2, 3, 4] rfl ?_
            exact wb_X12_wanted_71 F hret k_p0 ih _ _ _ _ h
          · replace h := h.2 c
            refine x_iload_n F dX12_wanted_46 rfl 3 rfl ?_
            refine x_iconst (-1 : Int32) F dX12_wanted_47 (by decide) ?_
            refine x_icmp_eq (tgt := 68) F dX12_wanted_48 (by decide) (fun c => ?_) (fun c => ?_)
            · replace h := h.1 c
              refine x_sub (lv' := [(0, .ref (ad X 176)), (1, .ref (ad X p0)), (2, .int x2), (4, .int x4)]) [0, 1, 2, 4] rfl ?_
              exact wb_X12_wanted_68 F hret k_p0 ih _ _ _ h
            · replace h := h.2 c
              refine x_aload_n F dX12_wanted_51 rfl 0 rfl ?_
              refine x_aload_n F dX12_wanted_52 rfl 1 rfl ?_
              refine x_iload F dX12_wanted_53 4 rfl ?_
              refine x_callV_l F (c_X12_pullOf (xl X) (xg X) (xA X) F.2.2.1 k_p0 h) (bw_V bw_24_22 bw_24_23 bw_25_0 bw_1_5 bw_25_1) rfl cd_X12_pullOf (Nat.le_of_ble_eq_true rfl) (Nat.le_of_ble_eq_true rfl) (kd_w (by decide) kz_176) rfl (cl_12 kz_176) rfl rfl (Nat.le_of_ble_eq_true rfl) dX12_wanted_55 (fun r6 s5 h => ?_)
              refine x_aload_n F dX12_wanted_58 rfl 0 rfl ?_
              refine x_aload_n F dX12_wanted_59 rfl 1 rfl ?_
              refine x_iload_n F dX12_wanted_60 rfl 3 rfl ?_
              refine x_callV_l F (c_X12_pullOf (xl X) (xg X) (xA X) F.2.2.1 k_p0 h) (bw_V bw_24_22 bw_24_23 bw_25_0 bw_1_5 bw_25_1) rfl cd_X12_pullOf (Nat.le_of_ble_eq_true rfl) (Nat.le_of_ble_eq_true rfl) (kd_w (by decide) kz_176) rfl (cl_12 kz_176) rfl rfl (Nat.le_of_ble_eq_true rfl) dX12_wanted_61 (fun r8 s7 h => ?_)
              refine x_lcmp F dX12_wanted_64 ?_
              refine x_if_le (tgt := 71) F dX12_wanted_65 (by decide) (fun c => ?_) (fun c => ?_)
              · replace h := h.1 c
                refine x_sub (lv' := [(0, .ref (ad X 176)), (1, .ref (ad X p0)), (2, .int x2), (3, .int x3), (4, .int x4)]) [0, 1, 2, 3, 4] rfl ?_
                exact wb_X12_wanted_71 F hret k_p0 ih _ _ _ _ h
              · replace h := h.2 c
                refine x_sub (lv' := [(0, .ref (ad X 176)), (1, .ref (ad X p0)), (2, .int x2), (4, .int x4)]) [0, 1, 2, 4] rfl ?_
                exact wb_X12_wanted_68 F hret k_p0 ih _ _ _ h
def w_X12_wanted (p0 : Nat) (p1 : Int32) (σ : wS) (Q : Int32 → wS → Prop) : Prop := (∃ m, l_X12_wanted_5 p0  Q m p1 (-1 : Int32) (0 : Int32) σ)
set_option maxRecDepth 100000 in
set_option maxHeartbeats 4000000 in
theorem c_X12_wanted (l : Launch) (g : wG) (A : Nat → Prop) (hA : adO g A) {p0 : Nat} (k_p0 : kd p0 = 14) {p1 : Int32} {σ : wS} {Q : Int32 → wS → Prop} (h : w_X12_wanted p0 p1 σ Q) : Mi l yX12_wanted wvX12_wanted 2 46 g A [.ref (g.2.2 176), .ref (g.2.2 p0), .int p1] σ Q := by
  refine mt_i (own := RX12) (lv := [(0, .ref (g.2.2 176)), (1, .ref (g.2.2 p0)), (2, .int p1)]) (by decide) rfl rfl hA (Nat.le_of_ble_eq_true rfl) rfl ?_
  intro X hl hg hAA F hret
  subst hl hg hAA
  unfold w_X12_wanted at h
  refine x_iconst (-1 : Int32) F dX12_wanted_0 (by decide) ?_
  refine x_istore_n (lv' := [(3, .int (-1 : Int32)), (0, .ref (ad X 176)), (1, .ref (ad X p0)), (2, .int p1)]) F dX12_wanted_1 rfl (by decide) rfl ?_
  refine x_iconst (0 : Int32) F dX12_wanted_2 (by decide) ?_
  refine x_istore (lv' := [(4, .int (0 : Int32)), (3, .int (-1 : Int32)), (0, .ref (ad X 176)), (1, .ref (ad X p0)), (2, .int p1)]) F dX12_wanted_3 (by decide) rfl ?_
  refine x_sub (lv' := [(0, .ref (ad X 176)), (1, .ref (ad X p0)), (2, .int p1), (3, .int (-1 : Int32)), (4, .int (0 : Int32))]) [2, 3, 4, 1, 0] rfl ?_
  obtain ⟨n2, h⟩ := h
  exact wl_X12_wanted_5 F hret k_p0  n2 _ _ _ _ h
/-! X12_strength -/
abbrev wvX12_strength : List Cond := Cond.code yX12_strength cX12_strength 2 (some .int) :: wsL_law
theorem cd_X12_strength : okN yX12_strength RX12 1 := by unfold okN; decide +kernel
def w_X12_strength  (p0 : Int32) (σ : wS) (Q : Int32 → wS → Prop) : Prop := vp_in (((7 : Int32) * p0) + (6 : Int32)) 56 ∧ (Q (σ.1 181 ((((7 : Int32) * p0) + (6 : Int32))).toNatClampNeg) σ)
set_option maxRecDepth 100000 in
set_option maxHeartbeats 4000000 in
theorem c_X12_strength (l : Launch) (g : wG) (A : Nat → Prop) (hA : adO g A)   {p0 : Int32} {σ : wS} {Q : Int32 → wS → Prop} (h : w_X12_strength  p0 σ Q) : Mi l yX12_strength wvX12_strength 0 0 g A [.ref (g.2.2 176), .int p0] σ Q := by
  refine mt_i (own := RX12) (lv := [(0, .ref (g.2.2 176)), (1, .int p0)]) (by decide) rfl rfl hA (Nat.le_of_ble_eq_true rfl) rfl ?_
  intro X hl hg hAA F hret
  subst hl hg hAA
  unfold w_X12_strength at h
  refine x_aload_n F dX12_strength_0 rfl 0 rfl ?_
  refine g_12_8 F kz_176 in_12 (mc bw_7_11) dX12_strength_1 ?_
  refine x_bipush (7 : Int32) F dX12_strength_4 (by decide) ?_
  refine x_iload_n F dX12_strength_6 rfl 1 rfl ?_
  refine x_imul F dX12_strength_7 ?_
  refine x_bipush (6 : Int32) F dX12_strength_8 (by decide) ?_
  refine x_iadd F dX12_strength_10 ?_
  obtain ⟨hj, h⟩ := h
  refine x_iald F kz_181 nz_181 hj dX12_strength_11 ?_
  exact hret _ _ _ _ h rfl dX12_strength_12
/-! X12_worstOf -/
abbrev wvX12_worstOf : List Cond := Cond.code yX12_worstOf cX12_worstOf 6 (some .int) :: wsL_law
theorem cd_X12_worstOf : okN yX12_worstOf RX12 3 := by unfold okN; decide +kernel
def b_X12_worstOf_98 (p0 : Nat) (K6 : Int32 → Int32 → Int32 → Int32 → wS → Prop) (Q : Int32 → wS → Prop) (x2 : Int32) (x3 : Int32) (x4 : Int32) (x5 : Int32) (σ : wS) : Prop := ∀ y1 : Int32, y1 = (x5 + (1 : Int32)) → (K6 x2 x3 x4 y1 σ)
set_option maxRecDepth 100000 in
set_option maxHeartbeats 4000000 in
theorem wb_X12_worstOf_98 {X : XT} {Q : Int32 → wS → Prop} {p0 : Nat} (F : Fx X cX12_worstOf 6 RX12 wvX12_worstOf 2 46) (hret : Ri X 6 cX12_worstOf .int Q) (k_p0 : kd p0 = 14) {K6 : Int32 → Int32 → Int32 → Int32 → wS → Prop} (hK6 : ∀ (x2 : Int32) (x3 : Int32) (x4 : Int32) (x5 : Int32) (σ : wS), K6 x2 x3 x4 x5 σ → Wx X 6 σ 6 [(0, .ref (ad X 176)), (1, .ref (ad X p0)), (2, .int x2), (3, .int x3), (4, .int x4), (5, .int x5)] []) (x2 : Int32) (x3 : Int32) (x4 : Int32) (x5 : Int32) (σ : wS) (h : b_X12_worstOf_98 p0 K6 Q x2 x3 x4 x5 σ) : Wx X 6 σ 98 [(0, .ref (ad X 176)), (1, .ref (ad X p0)), (2, .int x2), (3, .int x3), (4, .int x4), (5, .int x5)] [] := by
  unfold b_X12_worstOf_98 at h
  obtain ⟨y1, ey1⟩ : ∃ y : Int32, y = (x5 + (1 : Int32)) := ⟨_, rfl⟩
  replace h := h y1 ey1
  refine x_iinc (q := 5) (v := y1) (lv' := [(5, .int y1), (0, .ref (ad X 176)), (1, .ref (ad X p0)), (2, .int x2), (3, .int x3), (4, .int x4)]) F dX12_worstOf_98 rfl (by rw [ey1]; rfl) (by decide) rfl ?_
  refine x_goto (tgt := 6) F dX12_worstOf_101 (by decide) ?_
  refine x_sub (lv' := [(0, .ref (ad X 176)), (1, .ref (ad X p0)), (2, .int x2), (3, .int x3), (4, .int x4), (5, .int y1)]) [1, 2, 3, 4, 5, 0] rfl ?_
  exact hK6 _ _ _ _ _ h
def b_X12_worstOf_94 (p0 : Nat) (K6 : Int32 → Int32 → Int32 → Int32 → wS → Prop) (Q : Int32 → wS → Prop) (x2 : Int32) (x3 : Int32) (x5 : Int32) (σ : wS) : Prop := b_X12_worstOf_98 p0 K6 Q x2 x3 x5 x5 σ
set_option maxRecDepth 100000 in
set_option maxHeartbeats 4000000 in
theorem wb_X12_worstOf_94 {X : XT} {Q : Int32 → wS → Prop} {p0 : Nat} (F : Fx X cX12_worstOf 6 RX12 wvX12_worstOf 2 46) (hret : Ri X 6 cX12_worstOf .int Q) (k_p0 : kd p0 = 14) {K6 : Int32 → Int32 → Int32 → Int32 → wS → Prop} (hK6 : ∀ (x2 : Int32) (x3 : Int32) (x4 : Int32) (x5 : Int32) (σ : wS), K6 x2 x3 x4 x5 σ → Wx X 6 σ 6 [(0, .ref (ad X 176)), (1, .ref (ad X p0)), (2, .int x2), (3, .int x3), (4, .int x4), (5, .int x5)] []) (x2 : Int32) (x3 : Int32) (x5 : Int32) (σ : wS) (h : b_X12_worstOf_94 p0 K6 Q x2 x3 x5 σ) : Wx X 6 σ 94 [(0, .ref (ad X 176)), (1, .ref (ad X p0)), (2, .int x2), (3, .int x3), (5, .int x5)] [] := by
  unfold b_X12_worstOf_94 at h
  refine x_iload F dX12_worstOf_94 4 rfl ?_
  refine x_istore (lv' := [(4, .int x5), (0, .ref (ad X 176)), (1, .ref (ad X p0)), (2, .int x2), (3, .int x3), (5, .int x5)]) F dX12_worstOf_96 (by decide) rfl ?_
  refine x_sub (lv' := [(0, .ref (ad X 176)), (1, .ref (ad X p0)), (2, .int x2), (3, .int x3), (4, .int x5), (5, .int x5)]) [1, 2, 3, 4, 0, 5] rfl ?_
  exact wb_X12_worstOf_98 F hret k_p0 hK6 _ _ _ _ _ h
def b_X12_worstOf_54 (p0 : Nat) (K6 : Int32 → Int32 → Int32 → Int32 → wS → Prop) (Q : Int32 → wS → Prop) (x2 : Int32) (x3 : Int32) (x4 : Int32) (x5 : Int32) (σ : wS) : Prop := (x4 = (-1 : Int32) → (b_X12_worstOf_94 p0 K6 Q x2 x3 x5 σ)) ∧ (¬ x4 = (-1 : Int32) → (w_X12_pullOf p0 x5 σ (fun r2 s1 => w_X12_strength x4 s1 (fun r4 s3 => w_X12_pullOf p0 x4 s3 (fun r6 s5 => w_X12_strength x5 s5 (fun r8 s7 => ((lg_cmp (r2 * (r4).toInt64) (r6 * (r8).toInt64)) ≤ 0 → (b_X12_worstOf_98 p0 K6 Q x2 x3 x4 x5 s7)) ∧ (¬ (lg_cmp (r2 * (r4).toInt64) (r6 * (r8).toInt64)) ≤ 0 → (b_X12_worstOf_94 p0 K6 Q x2 x3 x5 s7))))))))
set_option maxRecDepth 100000 in
set_option maxHeartbeats 4000000 in
theorem wb_X12_worstOf_54 {X : XT} {Q : Int32 → wS → Prop} {p0 : Nat} (F : Fx X cX12_worstOf 6 RX12 wvX12_worstOf 2 46) (hret : Ri X 6 cX12_worstOf .int Q) (k_p0 : kd p0 = 14) {K6 : Int32 → Int32 → Int32 → Int32 → wS → Prop} (hK6 : ∀ (x2 : Int32) (x3 : Int32) (x4 : Int32) (x5 : Int32) (σ : wS), K6 x2 x3 x4 x5 σ → Wx X 6 σ 6 [(0, .ref (ad X 176)), (1, .ref (ad X p0)), (2, .int x2), (3, .int x3), (4, .int x4), (5, .int x5)] []) (x2 : Int32) (x3 : Int32) (x4 : Int32) (x5 : Int32) (σ : wS) (h : b_X12_worstOf_54 p0 K6 Q x2 x3 x4 x5 σ) : Wx X 6 σ 54 [(0, .ref (ad X 176)), (1, .ref (ad X p0)), (2, .int x2), (3, .int x3), (4, .int x4), (5, .int x5)] [] := by
  unfold b_X12_worstOf_54 at h
  refine x_iload F dX12_worstOf_54 4 rfl ?_
  refine x_iconst (-1 : Int32) F dX12_worstOf_56 (by decide) ?_
  refine x_icmp_eq (tgt := 94) F dX12_worstOf_57 (by decide) (fun c => ?_) (fun c => ?_)
  · replace h := h.1 c
    refine x_sub (lv' := [(0, .ref (ad X 176)), (1, .ref (ad X p0)), (2, .int x2), (3, .int x3), (5, .int x5)]) [0, 1, 2, 3, 5] rfl ?_
    exact wb_X12_worstOf_94 F hret k_p0 hK6 _ _ _ _ h
  · replace h := h.2 c
    refine x_aload_n F dX12_worstOf_60 rfl 0 rfl ?_
    refine x_aload_n F dX12_worstOf_61 rfl 1 rfl ?_
    refine x_iload F dX12_worstOf_62 5 rfl ?_
    refine x_callV_l F (c_X12_pullOf (xl X) (xg X) (xA X) F.2.2.1 k_p0 h) (bw_V bw_24_22 bw_24_23 bw_25_0 bw_1_5 bw_25_1) rfl cd_X12_pullOf (Nat.le_of_ble_eq_true rfl) (Nat.le_of_ble_eq_true rfl) (kd_w (by decide) kz_176) rfl (cl_12 kz_176) rfl rfl (Nat.le_of_ble_eq_true rfl) dX12_worstOf_64 (fun r2 s1 h => ?_)
    refine x_aload_n F dX12_worstOf_67 rfl 0 rfl ?_
    refine x_iload F dX12_worstOf_68 4 rfl ?_
    refine x_callV_i F (c_X12_strength (xl X) (xg X) (xA X) F.2.2.1  h) (bw_V bw_25_10 bw_25_11 bw_25_12 bw_1_5 bw_25_13) rfl cd_X12_strength (Nat.le_of_ble_eq_true rfl) (Nat.le_of_ble_eq_true rfl) (kd_w (by decide) kz_176) rfl (cl_12 kz_176) rfl rfl (Nat.le_of_ble_eq_true rfl) dX12_worstOf_70 (fun r4 s3 h => ?_)
    refine x_i2l F dX12_worstOf_73 ?_
    refine x_lmul F dX12_worstOf_74 ?_
    refine x_aload_n F dX12_worstOf_75 rfl 0 rfl ?_
    refine x_aload_n F dX12_worstOf_76 rfl 1 rfl ?_
    refine x_iload F dX12_worstOf_77 4 rfl ?_
    refine x_callV_l F (c_X12_pullOf (xl X) (xg X) (xA X) F.2.2.1 k_p0 h) (bw_V bw_24_22 bw_24_23 bw_25_0 bw_1_5 bw_25_1) rfl cd_X12_pullOf (Nat.le_of_ble_eq_true rfl) (Nat.le_of_ble_eq_true rfl) (kd_w (by decide) kz_176) rfl (cl_12 kz_176) rfl rfl (Nat.le_of_ble_eq_true rfl) dX12_worstOf_79 (fun r6 s5 h => ?_)
    refine x_aload_n F dX12_worstOf_82 rfl 0 rfl ?_
    refine x_iload F dX12_worstOf_83 5 rfl ?_
    refine x_callV_i F (c_X12_strength (xl X) (xg X) (xA X) F.2.2.1  h) (bw_V bw_25_10 bw_25_11 bw_25_12 bw_1_5 bw_25_13) rfl cd_X12_strength (Nat.le_of_ble_eq_true rfl) (Nat.le_of_ble_eq_true rfl) (kd_w (by decide) kz_176) rfl (cl_12 kz_176) rfl rfl (Nat.le_of_ble_eq_true rfl) dX12_worstOf_85 (fun r8 s7 h => ?_)
    refine x_i2l F dX12_worstOf_88 ?_
    refine x_lmul F dX12_worstOf_89 ?_
    refine x_lcmp F dX12_worstOf_90 ?_
    refine x_if_le (tgt := 98) F dX12_worstOf_91 (by decide) (fun c => ?_) (fun c => ?_)
    · replace h := h.1 c
      refine x_sub (lv' := [(0, .ref (ad X 176)), (1, .ref (ad X p0)), (2, .int x2), (3, .int x3), (4, .int x4), (5, .int x5)]) [0, 1, 2, 3, 4, 5] rfl ?_
      exact wb_X12_worstOf_98 F hret k_p0 hK6 _ _ _ _ _ h
    · replace h := h.2 c
      refine x_sub (lv' := [(0, .ref (ad X 176)), (1, .ref (ad X p0)), (2, .int x2), (3, .int x3), (5, .int x5)]) [0, 1, 2, 3, 5] rfl ?_
      exact wb_X12_worstOf_94 F hret k_p0 hK6 _ _ _ _ h
def l_X12_worstOf_6 (p0 : Nat)  (Q : Int32 → wS → Prop) : Nat → Int32 → Int32 → Int32 → Int32 → wS → Prop
  | 0, _, _, _, _, _ => False
  | n + 1, x2, x3, x4, x5, σ => ((σ.1 176 14) ≤ x5 → (Q x4 σ)) ∧ (¬ (σ.1 176 14) ≤ x5 → (w_X12_has x2 x5 σ (fun r2 s1 => (r2 = 0 → (b_X12_worstOf_98 p0 (fun x2 x3 x4 x5 σ => l_X12_worstOf_6 p0  Q n x2 x3 x4 x5 σ) Q x2 x3 x4 x5 s1)) ∧ (¬ r2 = 0 → ((x3 = 0 → (b_X12_worstOf_54 p0 (fun x2 x3 x4 x5 σ => l_X12_worstOf_6 p0  Q n x2 x3 x4 x5 σ) Q x2 x3 x4 x5 s1)) ∧ (¬ x3 = 0 → (w_X12_pullOf p0 x5 s1 (fun r4 s3 => w_X12_strength x5 s3 (fun r6 s5 => (0 < (lg_cmp r4 ((r6).toInt64 * (s5.2 176 29))) → (b_X12_worstOf_54 p0 (fun x2 x3 x4 x5 σ => l_X12_worstOf_6 p0  Q n x2 x3 x4 x5 σ) Q x2 x3 x4 x5 s5)) ∧ (¬ 0 < (lg_cmp r4 ((r6).toInt64 * (s5.2 176 29))) → (b_X12_worstOf_98 p0 (fun x2 x3 x4 x5 σ => l_X12_worstOf_6 p0  Q n x2 x3 x4 x5 σ) Q x2 x3 x4 x5 s5)))))))))))
set_option maxRecDepth 100000 in
set_option maxHeartbeats 4000000 in
theorem wl_X12_worstOf_6 {X : XT} {Q : Int32 → wS → Prop} {p0 : Nat} (F : Fx X cX12_worstOf 6 RX12 wvX12_worstOf 2 46) (hret : Ri X 6 cX12_worstOf .int Q) (k_p0 : kd p0 = 14)   : ∀ (n : Nat) (x2 : Int32) (x3 : Int32) (x4 : Int32) (x5 : Int32) (σ : wS), l_X12_worstOf_6 p0  Q n x2 x3 x4 x5 σ → Wx X 6 σ 6 [(0, .ref (ad X 176)), (1, .ref (ad X p0)), (2, .int x2), (3, .int x3), (4, .int x4), (5, .int x5)] [] := by
  intro n
  induction n with
  | zero =>
    intros
    contradiction
  | succ n ih =>
    intro x2 x3 x4 x5 σ h
    simp only [l_X12_worstOf_6] at h
    refine x_iload F dX12_worstOf_6 5 rfl ?_
    refine x_aload_n F dX12_worstOf_8 rfl 0 rfl ?_
    refine g_12_14 F kz_176 in_12 (mc bw_22_18) dX12_worstOf_9 ?_
    refine x_icmp_ge (tgt := 104) F dX12_worstOf_12 (by decide) (fun c => ?_) (fun c => ?_)
    · replace h := h.1 c
      refine x_iload F dX12_worstOf_104 4 rfl ?_
      exact hret _ _ _ _ h rfl dX12_worstOf_106
    · replace h := h.2 c
      refine x_iload_n F dX12_worstOf_15 rfl 2 rfl ?_
      refine x_iload F dX12_worstOf_16 5 rfl ?_
      refine x_callT_i F (c_X12_has (xl X) (xg X) (xA X) F.2.2.1  h) (bw_S bw_16_18 bw_16_19 bw_1_5 bw_16_20) rfl cd_X12_has (Nat.le_of_ble_eq_true rfl) (Nat.le_of_ble_eq_true rfl) rfl rfl (Nat.le_of_ble_eq_true rfl) dX12_worstOf_18 (fun r2 s1 h => ?_)
      refine x_if_eq (tgt := 98) F dX12_worstOf_21 (by decide) (fun c => ?_) (fun c => ?_)
      · replace h := h.1 c
        refine x_sub (lv' := [(0, .ref (ad X 176)), (1, .ref (ad X p0)), (2, .int x2), (3, .int x3), (4, .int x4), (5, .int x5)]) [0, 1, 2, 3, 4, 5] rfl ?_
        exact wb_X12_worstOf_98 F hret k_p0 ih _ _ _ _ _ h
      · replace h := h.2 c
        refine x_iload_n F dX12_worstOf_24 rfl 3 rfl ?_
        refine x_if_eq (tgt := 54) F dX12_worstOf_25 (by decide) (fun c => ?_) (fun c => ?_)
        · replace h := h.1 c
          refine x_sub (lv' := [(0, .ref (ad X 176)), (1, .ref (ad X p0)), (2, .int x2), (3, .int x3), (4, .int x4), (5, .int x5)]) [0, 1, 2, 3, 4, 5] rfl ?_
          exact wb_X12_worstOf_54 F hret k_p0 ih _ _ _ _ _ h
        · replace h := h.2 c
          refine x_aload_n F dX12_worstOf_28 rfl 0 rfl ?_
          refine x_aload_n F dX12_worstOf_29 rfl 1 rfl ?_
          refine x_iload F dX12_worstOf_30 5 rfl ?_
          refine x_callV_l F (c_X12_pullOf (xl X) (xg X) (xA X) F.2.2.1 k_p0 h) (bw_V bw_24_22 bw_24_23 bw_25_0 bw_1_5 bw_25_1) rfl cd_X12_pullOf (Nat.le_of_ble_eq_true rfl) (Nat.le_of_ble_eq_true rfl) (kd_w (by decide) kz_176) rfl (cl_12 kz_176) rfl rfl (Nat.le_of_ble_eq_true rfl) dX12_worstOf_32 (fun r4 s3 h => ?_)
          refine x_aload_n F dX12_worstOf_35 rfl 0 rfl ?_
          refine x_iload F dX12_worstOf_36 5 rfl ?_
          refine x_callV_i F (c_X12_strength (xl X) (xg X) (xA X) F.2.2.1  h) (bw_V bw_25_10 bw_25_11 bw_25_12 bw_1_5 bw_25_13) rfl cd_X12_strength (Nat.le_of_ble_eq_true rfl) (Nat.le_of_ble_eq_true rfl) (kd_w (by decide) kz_176) rfl (cl_12 kz_176) rfl rfl (Nat.le_of_ble_eq_true rfl) dX12_worstOf_38 (fun r6 s5 h => ?_)
          refine x_i2l F dX12_worstOf_41 ?_
          refine x_aload_n F dX12_worstOf_42 rfl 0 rfl ?_
          refine g_12_29 F kz_176 in_12 (mc bw_23_10) dX12_worstOf_43 ?_
          refine x_lmul F dX12_worstOf_46 ?_
          refine x_lcmp F dX12_worstOf_47 ?_
          refine x_if_gt (tgt := 54) F dX12_worstOf_48 (by decide) (fun c => ?_) (fun c => ?_)
          · replace h := h.1 c
            refine x_sub (lv' := [(0, .ref (ad X 176)), (1, .ref (ad X p0)), (2, .int x2), (3, .int x3), (4, .int x4), (5, .int x5)]) [0, 1, 2, 3, 4, 5] rfl ?_
            exact wb_X12_worstOf_54 F hret k_p0 ih _ _ _ _ _ h
          · replace h := h.2 c
            refine x_goto (tgt := 98) F dX12_worstOf_51 (by decide) ?_
            refine x_sub (lv' := [(0, .ref (ad X 176)), (1, .ref (ad X p0)), (2, .int x2), (3, .int x3), (4, .int x4), (5, .int x5)]) [0, 1, 2, 3, 4, 5] rfl ?_
            exact wb_X12_worstOf_98 F hret k_p0 ih _ _ _ _ _ h
def w_X12_worstOf (p0 : Nat) (p1 : Int32) (p2 : Int32) (σ : wS) (Q : Int32 → wS → Prop) : Prop := (∃ m, l_X12_worstOf_6 p0  Q m p1 p2 (-1 : Int32) (0 : Int32) σ)
set_option maxRecDepth 100000 in
set_option maxHeartbeats 4000000 in
theorem c_X12_worstOf (l : Launch) (g : wG) (A : Nat → Prop) (hA : adO g A) {p0 : Nat} (k_p0 : kd p0 = 14) {p1 : Int32} {p2 : Int32} {σ : wS} {Q : Int32 → wS → Prop} (h : w_X12_worstOf p0 p1 p2 σ Q) : Mi l yX12_worstOf wvX12_worstOf 2 46 g A [.ref (g.2.2 176), .ref (g.2.2 p0), .int p1, .int p2] σ Q := by
  refine mt_i (own := RX12) (lv := [(0, .ref (g.2.2 176)), (1, .ref (g.2.2 p0)), (2, .int p1), (3, .int p2)]) (by decide) rfl rfl hA (Nat.le_of_ble_eq_true rfl) rfl ?_
  intro X hl hg hAA F hret
  subst hl hg hAA
  unfold w_X12_worstOf at h
  refine x_iconst (-1 : Int32) F dX12_worstOf_0 (by decide) ?_
  refine x_istore (lv' := [(4, .int (-1 : Int32)), (0, .ref (ad X 176)), (1, .ref (ad X p0)), (2, .int p1), (3, .int p2)]) F dX12_worstOf_1 (by decide) rfl ?_
  refine x_iconst (0 : Int32) F dX12_worstOf_3 (by decide) ?_
  refine x_istore (lv' := [(5, .int (0 : Int32)), (4, .int (-1 : Int32)), (0, .ref (ad X 176)), (1, .ref (ad X p0)), (2, .int p1), (3, .int p2)]) F dX12_worstOf_4 (by decide) rfl ?_
  refine x_sub (lv' := [(0, .ref (ad X 176)), (1, .ref (ad X p0)), (2, .int p1), (3, .int p2), (4, .int (-1 : Int32)), (5, .int (0 : Int32))]) [2, 3, 4, 5, 1, 0] rfl ?_
  obtain ⟨n2, h⟩ := h
  exact wl_X12_worstOf_6 F hret k_p0  n2 _ _ _ _ _ h
