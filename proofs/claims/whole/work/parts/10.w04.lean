/-! X11_uneven -/
abbrev wvX11_uneven : List Cond := Cond.code yX11_uneven cX11_uneven 2 (some .long) :: wsL_law
theorem cd_X11_uneven : okN yX11_uneven RX11 1 := by unfold okN; decide +kernel
def w_X11_uneven  (p0 : Int32) (σ : wS) (Q : Int64 → wS → Prop) : Prop := w_X11_hasMooring  σ (fun r2 s1 => (r2 = 0 → (Q (-1000000 : Int64) s1)) ∧ (¬ r2 = 0 → (w_X11_isWithin p0 (0 : Int32) (1 : Int32) s1 (fun r4 s3 => (¬ r4 = 0 → (w_X11_solved  s3 (fun s5 => w_X11_putUneven  s5 (fun s7 => w_X2_told 46 p0 s7 (fun r10 s9 => Q r10 s9))))) ∧ (r4 = 0 → (Q (-1000000 : Int64) s3))))))
set_option maxRecDepth 100000 in
set_option maxHeartbeats 4000000 in
theorem c_X11_uneven (l : Launch) (g : wG) (A : Nat → Prop) (hA : adO g A)   {p0 : Int32} {σ : wS} {Q : Int64 → wS → Prop} (h : w_X11_uneven  p0 σ Q) : Ml l yX11_uneven wvX11_uneven 3 93 g A [.ref (g.2.2 0), .int p0] σ Q := by
  refine mt_l (own := RX11) (lv := [(0, .ref (g.2.2 0)), (1, .int p0)]) (by decide) rfl rfl hA (Nat.le_of_ble_eq_true rfl) rfl ?_
  intro X hl hg hAA F hret
  subst hl hg hAA
  unfold w_X11_uneven at h
  refine x_aload_n F dX11_uneven_0 rfl 0 rfl ?_
  refine x_callV_i F (c_X11_hasMooring (xl X) (xg X) (xA X) F.2.2.1  h) (bw_V bw_26_1 bw_26_2 bw_26_3 bw_1_2 bw_26_4) rfl cd_X11_hasMooring (Nat.le_of_ble_eq_true rfl) (Nat.le_of_ble_eq_true rfl) (kd_w (by decide) kz_0) rfl (cl_11 kz_0) rfl rfl (Nat.le_of_ble_eq_true rfl) dX11_uneven_1 (fun r2 s1 h => ?_)
  refine x_if_eq (tgt := 16) F dX11_uneven_4 (by decide) (fun c => ?_) (fun c => ?_)
  · replace h := h.1 c
    refine x_ldc2 F dX11_uneven_16 (mc bw_28_9) ?_
    exact hret _ _ _ _ h dX11_uneven_19
  · replace h := h.2 c
    refine x_iload_n F dX11_uneven_7 rfl 1 rfl ?_
    refine x_iconst (0 : Int32) F dX11_uneven_8 (by decide) ?_
    refine x_iconst (1 : Int32) F dX11_uneven_9 (by decide) ?_
    refine x_callT_i F (c_X11_isWithin (xl X) (xg X) (xA X) F.2.2.1  h) (bw_S bw_26_5 bw_26_6 bw_1_2 bw_26_7) rfl cd_X11_isWithin (Nat.le_of_ble_eq_true rfl) (Nat.le_of_ble_eq_true rfl) rfl rfl (Nat.le_of_ble_eq_true rfl) dX11_uneven_10 (fun r4 s3 h => ?_)
    refine x_if_ne (tgt := 20) F dX11_uneven_13 (by decide) (fun c => ?_) (fun c => ?_)
    · replace h := h.1 c
      refine x_aload_n F dX11_uneven_20 rfl 0 rfl ?_
      refine x_aload_n F dX11_uneven_21 rfl 0 rfl ?_
      refine x_callV_r F (c_X11_solved (xl X) (xg X) (xA X) F.2.2.1  h) (bw_V bw_28_17 bw_28_18 bw_28_19 bw_1_2 bw_28_20) rfl cd_X11_solved (Nat.le_of_ble_eq_true rfl) (Nat.le_of_ble_eq_true rfl) (kd_w (by decide) kz_0) rfl (cl_11 kz_0) rfl rfl (Nat.le_of_ble_eq_true rfl) dX11_uneven_22 (fun s5 h => ?_)
      refine x_callV_v F (c_X11_putUneven (xl X) (xg X) (xA X) F.2.2.1  h) (bw_V bw_46_4 bw_46_5 bw_46_6 bw_1_2 bw_46_7) rfl cd_X11_putUneven (Nat.le_of_ble_eq_true rfl) (Nat.le_of_ble_eq_true rfl) (kd_w (by decide) kz_0) rfl (cl_11 kz_0) rfl rfl (Nat.le_of_ble_eq_true rfl) dX11_uneven_25 (fun s7 h => ?_)
      refine x_aload_n F dX11_uneven_28 rfl 0 rfl ?_
      refine g_11_9 F kz_0 in_11 (mc bw_2_18) dX11_uneven_29 ?_
      refine x_iload_n F dX11_uneven_32 rfl 1 rfl ?_
      refine x_callV_l F (c_X2_told (xl X) (xg X) (xA X) F.2.2.1 kz_46 h) (bw_V bw_29_11 bw_29_12 bw_29_13 bw_2_17 bw_29_14) rfl cd_X2_told (Nat.le_of_ble_eq_true rfl) (Nat.le_of_ble_eq_true rfl) (kd_w (by decide) kz_46) rfl (cl_2 kz_46) rfl rfl (Nat.le_of_ble_eq_true rfl) dX11_uneven_33 (fun r10 s9 h => ?_)
      exact hret _ _ _ _ h dX11_uneven_36
    · replace h := h.2 c
      refine x_ldc2 F dX11_uneven_16 (mc bw_28_9) ?_
      exact hret _ _ _ _ h dX11_uneven_19
/-! X11_accord -/
abbrev wvX11_accord : List Cond := Cond.code yX11_accord cX11_accord 3 (some .int) :: wsL_law
theorem cd_X11_accord : okN yX11_accord RX11 2 := by unfold okN; decide +kernel
def w_X11_accord  (p0 : Int32) (p1 : Int32) (σ : wS) (Q : Int32 → wS → Prop) : Prop := w_X11_isRope p0 σ (fun r2 s1 => (r2 = 0 → (Q (-1000000 : Int32) s1)) ∧ (¬ r2 = 0 → (w_X11_isRope p1 s1 (fun r4 s3 => (¬ r4 = 0 → (w_X5_accordOf (mo (s3.1 0 2)) p0 p1 s3 (fun r6 s5 => Q r6 s5))) ∧ (r4 = 0 → (Q (-1000000 : Int32) s3))))))
set_option maxRecDepth 100000 in
set_option maxHeartbeats 4000000 in
theorem c_X11_accord (l : Launch) (g : wG) (A : Nat → Prop) (hA : adO g A)   {p0 : Int32} {p1 : Int32} {σ : wS} {Q : Int32 → wS → Prop} (h : w_X11_accord  p0 p1 σ Q) : Mi l yX11_accord wvX11_accord 1 24 g A [.ref (g.2.2 0), .int p0, .int p1] σ Q := by
  refine mt_i (own := RX11) (lv := [(0, .ref (g.2.2 0)), (1, .int p0), (2, .int p1)]) (by decide) rfl rfl hA (Nat.le_of_ble_eq_true rfl) rfl ?_
  intro X hl hg hAA F hret
  subst hl hg hAA
  unfold w_X11_accord at h
  refine x_aload_n F dX11_accord_0 rfl 0 rfl ?_
  refine x_iload_n F dX11_accord_1 rfl 1 rfl ?_
  refine x_callV_i F (c_X11_isRope (xl X) (xg X) (xA X) F.2.2.1  h) (bw_V bw_27_3 bw_27_4 bw_27_5 bw_1_2 bw_27_6) rfl cd_X11_isRope (Nat.le_of_ble_eq_true rfl) (Nat.le_of_ble_eq_true rfl) (kd_w (by decide) kz_0) rfl (cl_11 kz_0) rfl rfl (Nat.le_of_ble_eq_true rfl) dX11_accord_2 (fun r2 s1 h => ?_)
  refine x_if_eq (tgt := 16) F dX11_accord_5 (by decide) (fun c => ?_) (fun c => ?_)
  · replace h := h.1 c
    refine x_ldc F dX11_accord_16 (mc bw_25_21) ?_
    exact hret _ _ _ _ h rfl dX11_accord_18
  · replace h := h.2 c
    refine x_aload_n F dX11_accord_8 rfl 0 rfl ?_
    refine x_iload_n F dX11_accord_9 rfl 2 rfl ?_
    refine x_callV_i F (c_X11_isRope (xl X) (xg X) (xA X) F.2.2.1  h) (bw_V bw_27_3 bw_27_4 bw_27_5 bw_1_2 bw_27_6) rfl cd_X11_isRope (Nat.le_of_ble_eq_true rfl) (Nat.le_of_ble_eq_true rfl) (kd_w (by decide) kz_0) rfl (cl_11 kz_0) rfl rfl (Nat.le_of_ble_eq_true rfl) dX11_accord_10 (fun r4 s3 h => ?_)
    refine x_if_ne (tgt := 19) F dX11_accord_13 (by decide) (fun c => ?_) (fun c => ?_)
    · replace h := h.1 c
      refine x_aload_n F dX11_accord_19 rfl 0 rfl ?_
      refine g_11_2 F kz_0 in_11 (mc bw_2_1) dX11_accord_20 ?_
      refine x_iload_n F dX11_accord_23 rfl 1 rfl ?_
      refine x_iload_n F dX11_accord_24 rfl 2 rfl ?_
      refine x_callV_i F (c_X5_accordOf (xl X) (xg X) (xA X) F.2.2.1 (mo_kd _) h) (bw_V bw_46_20 bw_46_21 bw_46_22 bw_2_0 bw_46_23) rfl cd_X5_accordOf (Nat.le_of_ble_eq_true rfl) (Nat.le_of_ble_eq_true rfl) (kd_w (by decide) (mo_kd _)) rfl (cl_5 (mo_kd _)) rfl rfl (Nat.le_of_ble_eq_true rfl) dX11_accord_25 (fun r6 s5 h => ?_)
      exact hret _ _ _ _ h rfl dX11_accord_28
    · replace h := h.2 c
      refine x_ldc F dX11_accord_16 (mc bw_25_21) ?_
      exact hret _ _ _ _ h rfl dX11_accord_18
/-! X11_shares -/
abbrev wvX11_shares : List Cond := Cond.code yX11_shares cX11_shares 4 (some .int) :: wsL_law
theorem cd_X11_shares : okN yX11_shares RX11 2 := by unfold okN; decide +kernel
def w_X11_shares  (p0 : Int32) (p1 : Int32) (σ : wS) (Q : Int32 → wS → Prop) : Prop := w_X5_stiffnessOf (mo (σ.1 0 2)) (σ.1 29 2) σ (fun r2 s1 => w_X11_isTaut p0 s1 (fun r4 s3 => (r4 = 0 → (Q (-1 : Int32) s3)) ∧ (¬ r4 = 0 → (w_X11_isWithin p1 (0 : Int32) (999 : Int32) s3 (fun r6 s5 => (r6 = 0 → (Q (-1 : Int32) s5)) ∧ (¬ r6 = 0 → ((0 < r2 → (vp_in p0 8 ∧ (¬ r2 = 0 ∧ (Q ((p1 * (s5.1 ((mo (s5.1 0 2)) + 4) (p0).toNatClampNeg)) / r2) s5)))) ∧ (¬ 0 < r2 → (Q (-1 : Int32) s5)))))))))
set_option maxRecDepth 100000 in
set_option maxHeartbeats 4000000 in
theorem c_X11_shares (l : Launch) (g : wG) (A : Nat → Prop) (hA : adO g A)   {p0 : Int32} {p1 : Int32} {σ : wS} {Q : Int32 → wS → Prop} (h : w_X11_shares  p0 p1 σ Q) : Mi l yX11_shares wvX11_shares 3 63 g A [.ref (g.2.2 0), .int p0, .int p1] σ Q := by
  refine mt_i (own := RX11) (lv := [(0, .ref (g.2.2 0)), (1, .int p0), (2, .int p1)]) (by decide) rfl rfl hA (Nat.le_of_ble_eq_true rfl) rfl ?_
  intro X hl hg hAA F hret
  subst hl hg hAA
  unfold w_X11_shares at h
  refine x_aload_n F dX11_shares_0 rfl 0 rfl ?_
  refine g_11_2 F kz_0 in_11 (mc bw_2_1) dX11_shares_1 ?_
  refine x_aload_n F dX11_shares_4 rfl 0 rfl ?_
  refine g_11_6 F kz_0 in_11 (mc bw_2_9) dX11_shares_5 ?_
  refine g_3_2 F kz_29 in_3 (mc bw_28_22) dX11_shares_8 ?_
  refine x_callV_i F (c_X5_stiffnessOf (xl X) (xg X) (xA X) F.2.2.1 (mo_kd _) h) (bw_V bw_51_4 bw_51_5 bw_51_6 bw_2_0 bw_51_7) rfl cd_X5_stiffnessOf (Nat.le_of_ble_eq_true rfl) (Nat.le_of_ble_eq_true rfl) (kd_w (by decide) (mo_kd _)) rfl (cl_5 (mo_kd _)) rfl rfl (Nat.le_of_ble_eq_true rfl) dX11_shares_11 (fun r2 s1 h => ?_)
  refine x_istore_n (lv' := [(3, .int r2), (0, .ref (ad X 0)), (1, .int p0), (2, .int p1)]) F dX11_shares_14 rfl (by decide) rfl ?_
  refine x_aload_n F dX11_shares_15 rfl 1 rfl ?_
  refine x_iload_n F dX11_shares_16 rfl 2 rfl ?_
  refine x_callV_i F (c_X11_isTaut (xl X) (xg X) (xA X) F.2.2.1  h) (bw_V bw_31_13 bw_31_14 bw_31_15 bw_1_2 bw_31_16) rfl cd_X11_isTaut (Nat.le_of_ble_eq_true rfl) (Nat.le_of_ble_eq_true rfl) (kd_w (by decide) kz_0) rfl (cl_11 kz_0) rfl rfl (Nat.le_of_ble_eq_true rfl) dX11_shares_17 (fun r4 s3 h => ?_)
  refine x_if_eq (tgt := 38) F dX11_shares_20 (by decide) (fun c => ?_) (fun c => ?_)
  · replace h := h.1 c
    refine x_iconst (-1 : Int32) F dX11_shares_38 (by decide) ?_
    exact hret _ _ _ _ h rfl dX11_shares_39
  · replace h := h.2 c
    refine x_iload_n F dX11_shares_23 rfl 3 rfl ?_
    refine x_iconst (0 : Int32) F dX11_shares_24 (by decide) ?_
    refine x_sipush (999 : Int32) F dX11_shares_25 (by decide) ?_
    refine x_callT_i F (c_X11_isWithin (xl X) (xg X) (xA X) F.2.2.1  h) (bw_S bw_26_5 bw_26_6 bw_1_2 bw_26_7) rfl cd_X11_isWithin (Nat.le_of_ble_eq_true rfl) (Nat.le_of_ble_eq_true rfl) rfl rfl (Nat.le_of_ble_eq_true rfl) dX11_shares_28 (fun r6 s5 h => ?_)
    refine x_if_eq (tgt := 38) F dX11_shares_31 (by decide) (fun c => ?_) (fun c => ?_)
    · replace h := h.1 c
      refine x_iconst (-1 : Int32) F dX11_shares_38 (by decide) ?_
      exact hret _ _ _ _ h rfl dX11_shares_39
    · replace h := h.2 c
      refine x_iload_n F dX11_shares_34 rfl 0 rfl ?_
      refine x_if_gt (tgt := 40) F dX11_shares_35 (by decide) (fun c => ?_) (fun c => ?_)
      · replace h := h.1 c
        refine x_iload_n F dX11_shares_40 rfl 3 rfl ?_
        refine x_aload_n F dX11_shares_41 rfl 1 rfl ?_
        refine g_11_2 F kz_0 in_11 (mc bw_2_1) dX11_shares_42 ?_
        refine g_5_3 F (mo_kd _) in_5 (mc bw_51_3) dX11_shares_45 ?_
        refine x_iload_n F dX11_shares_48 rfl 2 rfl ?_
        obtain ⟨hj, h⟩ := h
        refine x_iald F (ky_5_3 (mo_kd _)) (kn_5_3 (mo_kd _)) hj dX11_shares_49 ?_
        refine x_imul F dX11_shares_50 ?_
        refine x_iload_n F dX11_shares_51 rfl 0 rfl ?_
        obtain ⟨hj, h⟩ := h
        refine x_idiv F dX11_shares_52 hj ?_
        exact hret _ _ _ _ h rfl dX11_shares_53
      · replace h := h.2 c
        refine x_iconst (-1 : Int32) F dX11_shares_38 (by decide) ?_
        exact hret _ _ _ _ h rfl dX11_shares_39
/-! X11_leastAccord -/
abbrev wvX11_leastAccord : List Cond := Cond.code yX11_leastAccord cX11_leastAccord 6 (some .int) :: wsL_law
theorem cd_X11_leastAccord : okN yX11_leastAccord RX11 0 := by unfold okN; decide +kernel
def b_X11_leastAccord_88  (K6 : Int32 → Int32 → Int32 → wS → Prop) (K22 : Int32 → Int32 → Int32 → Int32 → wS → Prop) (Q : Int32 → wS → Prop) (x1 : Int32) (x2 : Int32) (x3 : Int32) (x4 : Int32) (σ : wS) : Prop := ∀ y1 : Int32, y1 = (x4 + (1 : Int32)) → (K22 x1 x2 x3 y1 σ)
set_option maxRecDepth 100000 in
set_option maxHeartbeats 4000000 in
theorem wb_X11_leastAccord_88 {X : XT} {Q : Int32 → wS → Prop}  (F : Fx X cX11_leastAccord 6 RX11 wvX11_leastAccord 3 63) (hret : Ri X 6 cX11_leastAccord .int Q)  {K6 : Int32 → Int32 → Int32 → wS → Prop} {K22 : Int32 → Int32 → Int32 → Int32 → wS → Prop} (hK6 : ∀ (x1 : Int32) (x2 : Int32) (x3 : Int32) (σ : wS), K6 x1 x2 x3 σ → Wx X 6 σ 6 [(0, .ref (ad X 0)), (1, .int x1), (2, .int x2), (3, .int x3)] []) (hK22 : ∀ (x1 : Int32) (x2 : Int32) (x3 : Int32) (x4 : Int32) (σ : wS), K22 x1 x2 x3 x4 σ → Wx X 6 σ 22 [(0, .ref (ad X 0)), (1, .int x1), (2, .int x2), (3, .int x3), (4, .int x4)] []) (x1 : Int32) (x2 : Int32) (x3 : Int32) (x4 : Int32) (σ : wS) (h : b_X11_leastAccord_88  K6 K22 Q x1 x2 x3 x4 σ) : Wx X 6 σ 88 [(0, .ref (ad X 0)), (1, .int x1), (2, .int x2), (3, .int x3), (4, .int x4)] [] := by
  unfold b_X11_leastAccord_88 at h
  obtain ⟨y1, ey1⟩ : ∃ y : Int32, y = (x4 + (1 : Int32)) := ⟨_, rfl⟩
  replace h := h y1 ey1
  refine x_iinc (q := 4) (v := y1) (lv' := [(4, .int y1), (0, .ref (ad X 0)), (1, .int x1), (2, .int x2), (3, .int x3)]) F dX11_leastAccord_88 rfl (by rw [ey1]; rfl) (by decide) rfl ?_
  refine x_goto (tgt := 22) F dX11_leastAccord_91 (by decide) ?_
  refine x_sub (lv' := [(0, .ref (ad X 0)), (1, .int x1), (2, .int x2), (3, .int x3), (4, .int y1)]) [1, 2, 3, 4, 0] rfl ?_
  exact hK22 _ _ _ _ _ h
def b_X11_leastAccord_77  (K6 : Int32 → Int32 → Int32 → wS → Prop) (K22 : Int32 → Int32 → Int32 → Int32 → wS → Prop) (Q : Int32 → wS → Prop) (x3 : Int32) (x4 : Int32) (x5 : Int32) (σ : wS) : Prop := ∀ y1 : Int32, y1 = (((8 : Int32) * x3) + x4) → (b_X11_leastAccord_88  K6 K22 Q y1 x5 x3 x4 σ)
set_option maxRecDepth 100000 in
set_option maxHeartbeats 4000000 in
theorem wb_X11_leastAccord_77 {X : XT} {Q : Int32 → wS → Prop}  (F : Fx X cX11_leastAccord 6 RX11 wvX11_leastAccord 3 63) (hret : Ri X 6 cX11_leastAccord .int Q)  {K6 : Int32 → Int32 → Int32 → wS → Prop} {K22 : Int32 → Int32 → Int32 → Int32 → wS → Prop} (hK6 : ∀ (x1 : Int32) (x2 : Int32) (x3 : Int32) (σ : wS), K6 x1 x2 x3 σ → Wx X 6 σ 6 [(0, .ref (ad X 0)), (1, .int x1), (2, .int x2), (3, .int x3)] []) (hK22 : ∀ (x1 : Int32) (x2 : Int32) (x3 : Int32) (x4 : Int32) (σ : wS), K22 x1 x2 x3 x4 σ → Wx X 6 σ 22 [(0, .ref (ad X 0)), (1, .int x1), (2, .int x2), (3, .int x3), (4, .int x4)] []) (x3 : Int32) (x4 : Int32) (x5 : Int32) (σ : wS) (h : b_X11_leastAccord_77  K6 K22 Q x3 x4 x5 σ) : Wx X 6 σ 77 [(0, .ref (ad X 0)), (3, .int x3), (4, .int x4), (5, .int x5)] [] := by
  unfold b_X11_leastAccord_77 at h
  refine x_bipush (8 : Int32) F dX11_leastAccord_77 (by decide) ?_
  refine x_iload_n F dX11_leastAccord_79 rfl 1 rfl ?_
  refine x_imul F dX11_leastAccord_80 ?_
  refine x_iload F dX11_leastAccord_81 2 rfl ?_
  refine x_iadd F dX11_leastAccord_83 ?_
  refine x_topi (fun y1 ey1 => ?_)
  replace h := h y1 ey1
  refine x_istore_n (lv' := [(1, .int y1), (0, .ref (ad X 0)), (3, .int x3), (4, .int x4), (5, .int x5)]) F dX11_leastAccord_84 rfl (by decide) rfl ?_
  refine x_iload F dX11_leastAccord_85 4 rfl ?_
  refine x_istore_n (lv' := [(2, .int x5), (1, .int y1), (0, .ref (ad X 0)), (3, .int x3), (4, .int x4), (5, .int x5)]) F dX11_leastAccord_87 rfl (by decide) rfl ?_
  refine x_sub (lv' := [(0, .ref (ad X 0)), (1, .int y1), (2, .int x5), (3, .int x3), (4, .int x4)]) [2, 1, 0, 3, 4] rfl ?_
  exact wb_X11_leastAccord_88 F hret  hK6 hK22 _ _ _ _ _ h
def l_X11_leastAccord_22  (K6 : Int32 → Int32 → Int32 → wS → Prop) (Q : Int32 → wS → Prop) : Nat → Int32 → Int32 → Int32 → Int32 → wS → Prop
  | 0, _, _, _, _, _ => False
  | n + 1, x1, x2, x3, x4, σ => ((σ.1 (mo (σ.1 0 2)) 6) ≤ x4 → (∀ y1 : Int32, y1 = (x3 + (1 : Int32)) → (K6 x1 x2 y1 σ))) ∧ (¬ (σ.1 (mo (σ.1 0 2)) 6) ≤ x4 → (w_X11_isTaut x3 σ (fun r3 s2 => (r3 = 0 → (b_X11_leastAccord_88  K6 (fun x1 x2 x3 x4 σ => l_X11_leastAccord_22  K6 Q n x1 x2 x3 x4 σ) Q x1 x2 x3 x4 s2)) ∧ (¬ r3 = 0 → (w_X11_isTaut x4 s2 (fun r5 s4 => (¬ r5 = 0 → (w_X5_accordOf (mo (s4.1 0 2)) x3 x4 s4 (fun r7 s6 => (x1 = (-1 : Int32) → (b_X11_leastAccord_77  K6 (fun x1 x2 x3 x4 σ => l_X11_leastAccord_22  K6 Q n x1 x2 x3 x4 σ) Q x3 x4 r7 s6)) ∧ (¬ x1 = (-1 : Int32) → ((x2 ≤ r7 → (b_X11_leastAccord_88  K6 (fun x1 x2 x3 x4 σ => l_X11_leastAccord_22  K6 Q n x1 x2 x3 x4 σ) Q x1 x2 x3 x4 s6)) ∧ (¬ x2 ≤ r7 → (b_X11_leastAccord_77  K6 (fun x1 x2 x3 x4 σ => l_X11_leastAccord_22  K6 Q n x1 x2 x3 x4 σ) Q x3 x4 r7 s6))))))) ∧ (r5 = 0 → (b_X11_leastAccord_88  K6 (fun x1 x2 x3 x4 σ => l_X11_leastAccord_22  K6 Q n x1 x2 x3 x4 σ) Q x1 x2 x3 x4 s4))))))))
set_option maxRecDepth 100000 in
set_option maxHeartbeats 4000000 in
theorem wl_X11_leastAccord_22 {X : XT} {Q : Int32 → wS → Prop}  (F : Fx X cX11_leastAccord 6 RX11 wvX11_leastAccord 3 63) (hret : Ri X 6 cX11_leastAccord .int Q)  {K6 : Int32 → Int32 → Int32 → wS → Prop} (hK6 : ∀ (x1 : Int32) (x2 : Int32) (x3 : Int32) (σ : wS), K6 x1 x2 x3 σ → Wx X 6 σ 6 [(0, .ref (ad X 0)), (1, .int x1), (2, .int x2), (3, .int x3)] []) : ∀ (n : Nat) (x1 : Int32) (x2 : Int32) (x3 : Int32) (x4 : Int32) (σ : wS), l_X11_leastAccord_22  K6 Q n x1 x2 x3 x4 σ → Wx X 6 σ 22 [(0, .ref (ad X 0)), (1, .int x1), (2, .int x2), (3, .int x3), (4, .int x4)] [] := by
  intro n
  induction n with
  | zero =>
    intros
    contradiction
  | succ n ih =>
    intro x1 x2 x3 x4 σ h
    simp only [l_X11_leastAccord_22] at h
    refine x_iload F dX11_leastAccord_22 4 rfl ?_
    refine x_aload_n F dX11_leastAccord_24 rfl 0 rfl ?_
    refine g_11_2 F kz_0 in_11 (mc bw_2_1) dX11_leastAccord_25 ?_
    refine g_5_6 F (mo_kd _) in_5 (mc bw_19_2) dX11_leastAccord_28 ?_
    refine x_icmp_ge (tgt := 94) F dX11_leastAccord_31 (by decide) (fun c => ?_) (fun c => ?_)
    · replace h := h.1 c
      obtain ⟨y1, ey1⟩ : ∃ y : Int32, y = (x3 + (1 : Int32)) := ⟨_, rfl⟩
      replace h := h y1 ey1
      refine x_iinc (q := 3) (v := y1) (lv' := [(3, .int y1), (0, .ref (ad X 0)), (1, .int x1), (2, .int x2), (4, .int x4)]) F dX11_leastAccord_94 rfl (by rw [ey1]; rfl) (by decide) rfl ?_
      refine x_goto (tgt := 6) F dX11_leastAccord_97 (by decide) ?_
      refine x_sub (lv' := [(0, .ref (ad X 0)), (1, .int x1), (2, .int x2), (3, .int y1)]) [1, 2, 3, 0] rfl ?_
      exact hK6 _ _ _ _ h
    · replace h := h.2 c
      refine x_aload_n F dX11_leastAccord_34 rfl 0 rfl ?_
      refine x_iload_n F dX11_leastAccord_35 rfl 3 rfl ?_
      refine x_callV_i F (c_X11_isTaut (xl X) (xg X) (xA X) F.2.2.1  h) (bw_V bw_31_13 bw_31_14 bw_31_15 bw_1_2 bw_31_16) rfl cd_X11_isTaut (Nat.le_of_ble_eq_true rfl) (Nat.le_of_ble_eq_true rfl) (kd_w (by decide) kz_0) rfl (cl_11 kz_0) rfl rfl (Nat.le_of_ble_eq_true rfl) dX11_leastAccord_36 (fun r3 s2 h => ?_)
      refine x_if_eq (tgt := 88) F dX11_leastAccord_39 (by decide) (fun c => ?_) (fun c => ?_)
      · replace h := h.1 c
        refine x_sub (lv' := [(0, .ref (ad X 0)), (1, .int x1), (2, .int x2), (3, .int x3), (4, .int x4)]) [0, 1, 2, 3, 4] rfl ?_
        exact wb_X11_leastAccord_88 F hret  hK6 ih _ _ _ _ _ h
      · replace h := h.2 c
        refine x_aload_n F dX11_leastAccord_42 rfl 0 rfl ?_
        refine x_iload F dX11_leastAccord_43 4 rfl ?_
        refine x_callV_i F (c_X11_isTaut (xl X) (xg X) (xA X) F.2.2.1  h) (bw_V bw_31_13 bw_31_14 bw_31_15 bw_1_2 bw_31_16) rfl cd_X11_isTaut (Nat.le_of_ble_eq_true rfl) (Nat.le_of_ble_eq_true rfl) (kd_w (by decide) kz_0) rfl (cl_11 kz_0) rfl rfl (Nat.le_of_ble_eq_true rfl) dX11_leastAccord_45 (fun r5 s4 h => ?_)
        refine x_if_ne (tgt := 54) F dX11_leastAccord_48 (by decide) (fun c => ?_) (fun c => ?_)
        · replace h := h.1 c
          refine x_aload_n F dX11_leastAccord_54 rfl 0 rfl ?_
          refine g_11_2 F kz_0 in_11 (mc bw_2_1) dX11_leastAccord_55 ?_
          refine x_iload_n F dX11_leastAccord_58 rfl 3 rfl ?_
          refine x_iload F dX11_leastAccord_59 4 rfl ?_
          refine x_callV_i F (c_X5_accordOf (xl X) (xg X) (xA X) F.2.2.1 (mo_kd _) h) (bw_V bw_46_20 bw_46_21 bw_46_22 bw_2_0 bw_46_23) rfl cd_X5_accordOf (Nat.le_of_ble_eq_true rfl) (Nat.le_of_ble_eq_true rfl) (kd_w (by decide) (mo_kd _)) rfl (cl_5 (mo_kd _)) rfl rfl (Nat.le_of_ble_eq_true rfl) dX11_leastAccord_61 (fun r7 s6 h => ?_)
          refine x_istore (lv' := [(5, .int r7), (0, .ref (ad X 0)), (1, .int x1), (2, .int x2), (3, .int x3), (4, .int x4)]) F dX11_leastAccord_64 (by decide) rfl ?_
          refine x_iload_n F dX11_leastAccord_66 rfl 2 rfl ?_
          refine x_iconst (-1 : Int32) F dX11_leastAccord_67 (by decide) ?_
          refine x_icmp_eq (tgt := 77) F dX11_leastAccord_68 (by decide) (fun c => ?_) (fun c => ?_)
          · replace h := h.1 c
            refine x_sub (lv' := [(0, .ref (ad X 0)), (3, .int x3), (4, .int x4), (5, .int r7)]) [1, 4, 5, 0] rfl ?_
            exact wb_X11_leastAccord_77 F hret  hK6 ih _ _ _ _ h
          · replace h := h.2 c
            refine x_iload F dX11_leastAccord_71 0 rfl ?_
            refine x_iload_n F dX11_leastAccord_73 rfl 3 rfl ?_
            refine x_icmp_ge (tgt := 88) F dX11_leastAccord_74 (by decide) (fun c => ?_) (fun c => ?_)
            · replace h := h.1 c
              refine x_sub (lv' := [(0, .ref (ad X 0)), (1, .int x1), (2, .int x2), (3, .int x3), (4, .int x4)]) [1, 2, 3, 4, 5] rfl ?_
              exact wb_X11_leastAccord_88 F hret  hK6 ih _ _ _ _ _ h
            · replace h := h.2 c
              refine x_sub (lv' := [(0, .ref (ad X 0)), (3, .int x3), (4, .int x4), (5, .int r7)]) [1, 4, 5, 0] rfl ?_
              exact wb_X11_leastAccord_77 F hret  hK6 ih _ _ _ _ h
        · replace h := h.2 c
          refine x_goto (tgt := 88) F dX11_leastAccord_51 (by decide) ?_
          refine x_sub (lv' := [(0, .ref (ad X 0)), (1, .int x1), (2, .int x2), (3, .int x3), (4, .int x4)]) [0, 1, 2, 3, 4] rfl ?_
          exact wb_X11_leastAccord_88 F hret  hK6 ih _ _ _ _ _ h
def l_X11_leastAccord_6   (Q : Int32 → wS → Prop) : Nat → Int32 → Int32 → Int32 → wS → Prop
  | 0, _, _, _, _ => False
  | n + 1, x1, x2, x3, σ => ((σ.1 (mo (σ.1 0 2)) 6) ≤ x3 → (Q x1 σ)) ∧ (¬ (σ.1 (mo (σ.1 0 2)) 6) ≤ x3 → (∀ y1 : Int32, y1 = (x3 + (1 : Int32)) → ((∃ m, l_X11_leastAccord_22  (fun x1 x2 x3 σ => l_X11_leastAccord_6   Q n x1 x2 x3 σ) Q m x1 x2 x3 y1 σ))))
set_option maxRecDepth 100000 in
set_option maxHeartbeats 4000000 in
theorem wl_X11_leastAccord_6 {X : XT} {Q : Int32 → wS → Prop}  (F : Fx X cX11_leastAccord 6 RX11 wvX11_leastAccord 3 63) (hret : Ri X 6 cX11_leastAccord .int Q)    : ∀ (n : Nat) (x1 : Int32) (x2 : Int32) (x3 : Int32) (σ : wS), l_X11_leastAccord_6   Q n x1 x2 x3 σ → Wx X 6 σ 6 [(0, .ref (ad X 0)), (1, .int x1), (2, .int x2), (3, .int x3)] [] := by
  intro n
  induction n with
  | zero =>
    intros
    contradiction
  | succ n ih =>
    intro x1 x2 x3 σ h
    simp only [l_X11_leastAccord_6] at h
    refine x_iload_n F dX11_leastAccord_6 rfl 3 rfl ?_
    refine x_aload_n F dX11_leastAccord_7 rfl 0 rfl ?_
    refine g_11_2 F kz_0 in_11 (mc bw_2_1) dX11_leastAccord_8 ?_
    refine g_5_6 F (mo_kd _) in_5 (mc bw_19_2) dX11_leastAccord_11 ?_
    refine x_icmp_ge (tgt := 100) F dX11_leastAccord_14 (by decide) (fun c => ?_) (fun c => ?_)
    · replace h := h.1 c
      refine x_iload_n F dX11_leastAccord_100 rfl 1 rfl ?_
      exact hret _ _ _ _ h rfl dX11_leastAccord_101
    · replace h := h.2 c
      refine x_iload_n F dX11_leastAccord_17 rfl 3 rfl ?_
      refine x_iconst (1 : Int32) F dX11_leastAccord_18 (by decide) ?_
      refine x_iadd F dX11_leastAccord_19 ?_
      refine x_topi (fun y1 ey1 => ?_)
      replace h := h y1 ey1
      refine x_istore (lv' := [(4, .int y1), (0, .ref (ad X 0)), (1, .int x1), (2, .int x2), (3, .int x3)]) F dX11_leastAccord_20 (by decide) rfl ?_
      refine x_sub (lv' := [(0, .ref (ad X 0)), (1, .int x1), (2, .int x2), (3, .int x3), (4, .int y1)]) [1, 2, 3, 4, 0] rfl ?_
      obtain ⟨n2, h⟩ := h
      exact wl_X11_leastAccord_22 F hret  ih n2 _ _ _ _ _ h
def w_X11_leastAccord   (σ : wS) (Q : Int32 → wS → Prop) : Prop := (∃ m, l_X11_leastAccord_6   Q m (-1 : Int32) (0 : Int32) (0 : Int32) σ)
set_option maxRecDepth 100000 in
set_option maxHeartbeats 4000000 in
theorem c_X11_leastAccord (l : Launch) (g : wG) (A : Nat → Prop) (hA : adO g A)    {σ : wS} {Q : Int32 → wS → Prop} (h : w_X11_leastAccord   σ Q) : Mi l yX11_leastAccord wvX11_leastAccord 3 63 g A [.ref (g.2.2 0)] σ Q := by
  refine mt_i (own := RX11) (lv := [(0, .ref (g.2.2 0))]) (by decide) rfl rfl hA (Nat.le_of_ble_eq_true rfl) rfl ?_
  intro X hl hg hAA F hret
  subst hl hg hAA
  unfold w_X11_leastAccord at h
  refine x_iconst (-1 : Int32) F dX11_leastAccord_0 (by decide) ?_
  refine x_istore_n (lv' := [(1, .int (-1 : Int32)), (0, .ref (ad X 0))]) F dX11_leastAccord_1 rfl (by decide) rfl ?_
  refine x_iconst (0 : Int32) F dX11_leastAccord_2 (by decide) ?_
  refine x_istore_n (lv' := [(2, .int (0 : Int32)), (1, .int (-1 : Int32)), (0, .ref (ad X 0))]) F dX11_leastAccord_3 rfl (by decide) rfl ?_
  refine x_iconst (0 : Int32) F dX11_leastAccord_4 (by decide) ?_
  refine x_istore_n (lv' := [(3, .int (0 : Int32)), (2, .int (0 : Int32)), (1, .int (-1 : Int32)), (0, .ref (ad X 0))]) F dX11_leastAccord_5 rfl (by decide) rfl ?_
  refine x_sub (lv' := [(0, .ref (ad X 0)), (1, .int (-1 : Int32)), (2, .int (0 : Int32)), (3, .int (0 : Int32))]) [3, 2, 1, 0] rfl ?_
  obtain ⟨n2, h⟩ := h
  exact wl_X11_leastAccord_6 F hret   n2 _ _ _ _ h
/-! X11_most -/
abbrev wvX11_most : List Cond := Cond.code yX11_most cX11_most 2 (some .int) :: wsL_law
theorem cd_X11_most : okN yX11_most RX11 1 := by unfold okN; decide +kernel
def w_X11_most  (p0 : Int32) (σ : wS) (Q : Int32 → wS → Prop) : Prop := w_X11_hasMooring  σ (fun r2 s1 => (¬ r2 = 0 → ((p0 = (0 : Int32) → (Q (s1.1 29 2) s1)) ∧ (p0 = (1 : Int32) → (w_X3_slackOf 29 (mo (s1.1 0 2)) s1 (fun r4 s3 => Q r4 s3))) ∧ (p0 = (2 : Int32) → (Q (s1.1 29 3) s1)) ∧ (p0 = (3 : Int32) → (Q (s1.1 29 4) s1)) ∧ (p0 = (4 : Int32) → (w_X11_solved  s1 (fun s5 => w_X0_mostPulled (s5.1 29 2) (1 : Int32) s5 (fun r8 s7 => Q r8 s7)))) ∧ (p0 = (5 : Int32) → (w_X11_solved  s1 (fun s9 => w_X0_mostPulled (s9.1 29 2) (-1 : Int32) s9 (fun r12 s11 => Q r12 s11)))) ∧ (p0 = (6 : Int32) → (w_X5_stiffnessOf (mo (s1.1 0 2)) (s1.1 29 2) s1 (fun r14 s13 => Q r14 s13))) ∧ (p0 = (7 : Int32) → (Q (s1.1 29 6) s1)) ∧ (p0 = (8 : Int32) → (w_X11_leastAccord  s1 (fun r16 s15 => Q r16 s15))) ∧ (¬ p0 = (0 : Int32) → ¬ p0 = (1 : Int32) → ¬ p0 = (2 : Int32) → ¬ p0 = (3 : Int32) → ¬ p0 = (4 : Int32) → ¬ p0 = (5 : Int32) → ¬ p0 = (6 : Int32) → ¬ p0 = (7 : Int32) → ¬ p0 = (8 : Int32) → (Q (-1000000 : Int32) s1)))) ∧ (r2 = 0 → (Q (-1000000 : Int32) s1)))
set_option maxRecDepth 100000 in
set_option maxHeartbeats 4000000 in
theorem c_X11_most (l : Launch) (g : wG) (A : Nat → Prop) (hA : adO g A)   {p0 : Int32} {σ : wS} {Q : Int32 → wS → Prop} (h : w_X11_most  p0 σ Q) : Mi l yX11_most wvX11_most 4 88 g A [.ref (g.2.2 0), .int p0] σ Q := by
  refine mt_i (own := RX11) (lv := [(0, .ref (g.2.2 0)), (1, .int p0)]) (by decide) rfl rfl hA (Nat.le_of_ble_eq_true rfl) rfl ?_
  intro X hl hg hAA F hret
  subst hl hg hAA
  unfold w_X11_most at h
  refine x_aload_n F dX11_most_0 rfl 0 rfl ?_
  refine x_callV_i F (c_X11_hasMooring (xl X) (xg X) (xA X) F.2.2.1  h) (bw_V bw_26_1 bw_26_2 bw_26_3 bw_1_2 bw_26_4) rfl cd_X11_hasMooring (Nat.le_of_ble_eq_true rfl) (Nat.le_of_ble_eq_true rfl) (kd_w (by decide) kz_0) rfl (cl_11 kz_0) rfl rfl (Nat.le_of_ble_eq_true rfl) dX11_most_1 (fun r2 s1 h => ?_)
  refine x_if_ne (tgt := 10) F dX11_most_4 (by decide) (fun c => ?_) (fun c => ?_)
  · replace h := h.1 c
    refine x_iload_n F dX11_most_10 rfl 1 rfl ?_
    by_cases c0 : p0 = (0 : Int32)
    · replace h := h.1 c0
      refine x_tin (off := 49) (tgt := 60) F dX11_most_11 (by rw [c0]; decide) (by rw [c0]; decide) (by rw [c0]; rfl) (by decide) ?_
      refine x_aload_n F dX11_most_60 rfl 0 rfl ?_
      refine g_11_6 F kz_0 in_11 (mc bw_2_9) dX11_most_61 ?_
      refine g_3_2 F kz_29 in_3 (mc bw_28_22) dX11_most_64 ?_
      exact hret _ _ _ _ h rfl dX11_most_67
    replace h := h.2
    by_cases c1 : p0 = (1 : Int32)
    · replace h := h.1 c1
      refine x_tin (off := 57) (tgt := 68) F dX11_most_11 (by rw [c1]; decide) (by rw [c1]; decide) (by rw [c1]; rfl) (by decide) ?_
      refine x_aload_n F dX11_most_68 rfl 0 rfl ?_
      refine g_11_6 F kz_0 in_11 (mc bw_2_9) dX11_most_69 ?_
      refine x_aload_n F dX11_most_72 rfl 0 rfl ?_
      refine g_11_2 F kz_0 in_11 (mc bw_2_1) dX11_most_73 ?_
      refine x_callV_i F (c_X3_slackOf (xl X) (xg X) (xA X) F.2.2.1 kz_29 (mo_kd _) h) (bw_V bw_48_17 bw_21_10 bw_21_11 bw_2_8 bw_21_12) rfl cd_X3_slackOf (Nat.le_of_ble_eq_true rfl) (Nat.le_of_ble_eq_true rfl) (kd_w (by decide) kz_29) rfl (cl_3 kz_29) rfl rfl (Nat.le_of_ble_eq_true rfl) dX11_most_76 (fun r4 s3 h => ?_)
      exact hret _ _ _ _ h rfl dX11_most_79
    replace h := h.2
    by_cases c2 : p0 = (2 : Int32)
    · replace h := h.1 c2
      refine x_tin (off := 69) (tgt := 80) F dX11_most_11 (by rw [c2]; decide) (by rw [c2]; decide) (by rw [c2]; rfl) (by decide) ?_
      refine x_aload_n F dX11_most_80 rfl 0 rfl ?_
      refine g_11_6 F kz_0 in_11 (mc bw_2_9) dX11_most_81 ?_
      refine g_3_3 F kz_29 in_3 (mc bw_53_6) dX11_most_84 ?_
      exact hret _ _ _ _ h rfl dX11_most_87
    replace h := h.2
    by_cases c3 : p0 = (3 : Int32)
    · replace h := h.1 c3
      refine x_tin (off := 77) (tgt := 88) F dX11_most_11 (by rw [c3]; decide) (by rw [c3]; decide) (by rw [c3]; rfl) (by decide) ?_
      refine x_aload_n F dX11_most_88 rfl 0 rfl ?_
      refine g_11_6 F kz_0 in_11 (mc bw_2_9) dX11_most_89 ?_
      refine g_3_4 F kz_29 in_3 (mc bw_48_22) dX11_most_92 ?_
      exact hret _ _ _ _ h rfl dX11_most_95
    replace h := h.2
    by_cases c4 : p0 = (4 : Int32)
    · replace h := h.1 c4
      refine x_tin (off := 85) (tgt := 96) F dX11_most_11 (by rw [c4]; decide) (by rw [c4]; decide) (by rw [c4]; rfl) (by decide) ?_
      refine x_aload_n F dX11_most_96 rfl 0 rfl ?_
      refine x_callV_r F (c_X11_solved (xl X) (xg X) (xA X) F.2.2.1  h) (bw_V bw_28_17 bw_28_18 bw_28_19 bw_1_2 bw_28_20) rfl cd_X11_solved (Nat.le_of_ble_eq_true rfl) (Nat.le_of_ble_eq_true rfl) (kd_w (by decide) kz_0) rfl (cl_11 kz_0) rfl rfl (Nat.le_of_ble_eq_true rfl) dX11_most_97 (fun s5 h => ?_)
      refine x_aload_n F dX11_most_100 rfl 0 rfl ?_
      refine g_11_6 F kz_0 in_11 (mc bw_2_9) dX11_most_101 ?_
      refine g_3_2 F kz_29 in_3 (mc bw_28_22) dX11_most_104 ?_
      refine x_iconst (1 : Int32) F dX11_most_107 (by decide) ?_
      refine x_callV_i F (c_X0_mostPulled (xl X) (xg X) (xA X) F.2.2.1  h) (bw_V bw_53_8 bw_21_6 bw_21_7 bw_5_8 bw_21_8) rfl cd_X0_mostPulled (Nat.le_of_ble_eq_true rfl) (Nat.le_of_ble_eq_true rfl) (kd_w (by decide) kz_41) rfl (cl_0 kz_41) rfl rfl (Nat.le_of_ble_eq_true rfl) dX11_most_108 (fun r8 s7 h => ?_)
      exact hret _ _ _ _ h rfl dX11_most_111
    replace h := h.2
    by_cases c5 : p0 = (5 : Int32)
    · replace h := h.1 c5
      refine x_tin (off := 101) (tgt := 112) F dX11_most_11 (by rw [c5]; decide) (by rw [c5]; decide) (by rw [c5]; rfl) (by decide) ?_
      refine x_aload_n F dX11_most_112 rfl 0 rfl ?_
      refine x_callV_r F (c_X11_solved (xl X) (xg X) (xA X) F.2.2.1  h) (bw_V bw_28_17 bw_28_18 bw_28_19 bw_1_2 bw_28_20) rfl cd_X11_solved (Nat.le_of_ble_eq_true rfl) (Nat.le_of_ble_eq_true rfl) (kd_w (by decide) kz_0) rfl (cl_11 kz_0) rfl rfl (Nat.le_of_ble_eq_true rfl) dX11_most_113 (fun s9 h => ?_)
      refine x_aload_n F dX11_most_116 rfl 0 rfl ?_
      refine g_11_6 F kz_0 in_11 (mc bw_2_9) dX11_most_117 ?_
      refine g_3_2 F kz_29 in_3 (mc bw_28_22) dX11_most_120 ?_
      refine x_iconst (-1 : Int32) F dX11_most_123 (by decide) ?_
      refine x_callV_i F (c_X0_mostPulled (xl X) (xg X) (xA X) F.2.2.1  h) (bw_V bw_53_8 bw_21_6 bw_21_7 bw_5_8 bw_21_8) rfl cd_X0_mostPulled (Nat.le_of_ble_eq_true rfl) (Nat.le_of_ble_eq_true rfl) (kd_w (by decide) kz_41) rfl (cl_0 kz_41) rfl rfl (Nat.le_of_ble_eq_true rfl) dX11_most_124 (fun r12 s11 h => ?_)
      exact hret _ _ _ _ h rfl dX11_most_127
    replace h := h.2
    by_cases c6 : p0 = (6 : Int32)
    · replace h := h.1 c6
      refine x_tin (off := 117) (tgt := 128) F dX11_most_11 (by rw [c6]; decide) (by rw [c6]; decide) (by rw [c6]; rfl) (by decide) ?_
      refine x_aload_n F dX11_most_128 rfl 0 rfl ?_
      refine g_11_2 F kz_0 in_11 (mc bw_2_1) dX11_most_129 ?_
      refine x_aload_n F dX11_most_132 rfl 0 rfl ?_
      refine g_11_6 F kz_0 in_11 (mc bw_2_9) dX11_most_133 ?_
      refine g_3_2 F kz_29 in_3 (mc bw_28_22) dX11_most_136 ?_
      refine x_callV_i F (c_X5_stiffnessOf (xl X) (xg X) (xA X) F.2.2.1 (mo_kd _) h) (bw_V bw_51_4 bw_51_5 bw_51_6 bw_2_0 bw_51_7) rfl cd_X5_stiffnessOf (Nat.le_of_ble_eq_true rfl) (Nat.le_of_ble_eq_true rfl) (kd_w (by decide) (mo_kd _)) rfl (cl_5 (mo_kd _)) rfl rfl (Nat.le_of_ble_eq_true rfl) dX11_most_139 (fun r14 s13 h => ?_)
      exact hret _ _ _ _ h rfl dX11_most_142
    replace h := h.2
    by_cases c7 : p0 = (7 : Int32)
    · replace h := h.1 c7
      refine x_tin (off := 132) (tgt := 143) F dX11_most_11 (by rw [c7]; decide) (by rw [c7]; decide) (by rw [c7]; rfl) (by decide) ?_
      refine x_aload_n F dX11_most_143 rfl 0 rfl ?_
      refine g_11_6 F kz_0 in_11 (mc bw_2_9) dX11_most_144 ?_
      refine g_3_6 F kz_29 in_3 (mc bw_53_7) dX11_most_147 ?_
      exact hret _ _ _ _ h rfl dX11_most_150
    replace h := h.2
    by_cases c8 : p0 = (8 : Int32)
    · replace h := h.1 c8
      refine x_tin (off := 140) (tgt := 151) F dX11_most_11 (by rw [c8]; decide) (by rw [c8]; decide) (by rw [c8]; rfl) (by decide) ?_
      refine x_aload_n F dX11_most_151 rfl 0 rfl ?_
      refine x_callV_i F (c_X11_leastAccord (xl X) (xg X) (xA X) F.2.2.1  h) (bw_V bw_53_9 bw_53_10 bw_53_11 bw_1_2 bw_53_12) rfl cd_X11_leastAccord (Nat.le_of_ble_eq_true rfl) (Nat.le_of_ble_eq_true rfl) (kd_w (by decide) kz_0) rfl (cl_11 kz_0) rfl rfl (Nat.le_of_ble_eq_true rfl) dX11_most_152 (fun r16 s15 h => ?_)
      exact hret _ _ _ _ h rfl dX11_most_155
    replace h := h.2
    replace h := h c0 c1 c2 c3 c4 c5 c6 c7 c8
    refine x_tout (tgt := 156) F dX11_most_11 (sw_out (fun z h1 h2 hz => ?_)) (by decide) ?_
    · rcases (show z = 0 ∨ z = 1 ∨ z = 2 ∨ z = 3 ∨ z = 4 ∨ z = 5 ∨ z = 6 ∨ z = 7 ∨ z = 8 by omega) with rfl | rfl | rfl | rfl | rfl | rfl | rfl | rfl | rfl
      · exact c0 (Int32.toInt_inj.mp (by rw [hz]; rfl))
      · exact c1 (Int32.toInt_inj.mp (by rw [hz]; rfl))
      · exact c2 (Int32.toInt_inj.mp (by rw [hz]; rfl))
      · exact c3 (Int32.toInt_inj.mp (by rw [hz]; rfl))
      · exact c4 (Int32.toInt_inj.mp (by rw [hz]; rfl))
      · exact c5 (Int32.toInt_inj.mp (by rw [hz]; rfl))
      · exact c6 (Int32.toInt_inj.mp (by rw [hz]; rfl))
      · exact c7 (Int32.toInt_inj.mp (by rw [hz]; rfl))
      · exact c8 (Int32.toInt_inj.mp (by rw [hz]; rfl))
    refine x_ldc F dX11_most_156 (mc bw_25_21) ?_
    exact hret _ _ _ _ h rfl dX11_most_158
  · replace h := h.2 c
    refine x_ldc F dX11_most_7 (mc bw_25_21) ?_
    exact hret _ _ _ _ h rfl dX11_most_9
/-! X11_count -/
abbrev wvX11_count : List Cond := Cond.code yX11_count cX11_count 2 (some .int) :: wsL_law
theorem cd_X11_count : okN yX11_count RX11 1 := by unfold okN; decide +kernel
def w_X11_count  (p0 : Int32) (σ : wS) (Q : Int32 → wS → Prop) : Prop := (p0 = (0 : Int32) → (Q (σ.1 (mo (σ.1 0 2)) 6) σ)) ∧ (p0 = (1 : Int32) → (Q (σ.1 0 5) σ)) ∧ (p0 = (2 : Int32) → (Q (σ.1 1 1) σ)) ∧ (p0 = (3 : Int32) → (Q (if (60 : Int32) < (σ.1 29 7) then (60 : Int32) else (σ.1 29 7)) σ)) ∧ (p0 = (4 : Int32) → (Q (σ.1 50 2) σ)) ∧ (¬ p0 = (0 : Int32) → ¬ p0 = (1 : Int32) → ¬ p0 = (2 : Int32) → ¬ p0 = (3 : Int32) → ¬ p0 = (4 : Int32) → (Q (-1000000 : Int32) σ))
set_option maxRecDepth 100000 in
set_option maxHeartbeats 4000000 in
theorem c_X11_count (l : Launch) (g : wG) (A : Nat → Prop) (hA : adO g A)   {p0 : Int32} {σ : wS} {Q : Int32 → wS → Prop} (h : w_X11_count  p0 σ Q) : Mi l yX11_count wvX11_count 1 40 g A [.ref (g.2.2 0), .int p0] σ Q := by
  refine mt_i (own := RX11) (lv := [(0, .ref (g.2.2 0)), (1, .int p0)]) (by decide) rfl rfl hA (Nat.le_of_ble_eq_true rfl) rfl ?_
  intro X hl hg hAA F hret
  subst hl hg hAA
  unfold w_X11_count at h
  refine x_iload_n F dX11_count_0 rfl 1 rfl ?_
  by_cases c0 : p0 = (0 : Int32)
  · replace h := h.1 c0
    refine x_tin (off := 35) (tgt := 36) F dX11_count_1 (by rw [c0]; decide) (by rw [c0]; decide) (by rw [c0]; rfl) (by decide) ?_
    refine x_aload_n F dX11_count_36 rfl 0 rfl ?_
    refine g_11_2 F kz_0 in_11 (mc bw_2_1) dX11_count_37 ?_
    refine g_5_6 F (mo_kd _) in_5 (mc bw_19_2) dX11_count_40 ?_
    exact hret _ _ _ _ h rfl dX11_count_43
  replace h := h.2
  by_cases c1 : p0 = (1 : Int32)
  · replace h := h.1 c1
    refine x_tin (off := 43) (tgt := 44) F dX11_count_1 (by rw [c1]; decide) (by rw [c1]; decide) (by rw [c1]; rfl) (by decide) ?_
    refine x_aload_n F dX11_count_44 rfl 0 rfl ?_
    refine g_11_5 F kz_0 in_11 (mc bw_2_5) dX11_count_45 ?_
    exact hret _ _ _ _ h rfl dX11_count_48
  replace h := h.2
  by_cases c2 : p0 = (2 : Int32)
  · replace h := h.1 c2
    refine x_tin (off := 48) (tgt := 49) F dX11_count_1 (by rw [c2]; decide) (by rw [c2]; decide) (by rw [c2]; rfl) (by decide) ?_
    refine x_aload_n F dX11_count_49 rfl 0 rfl ?_
    refine g_11_0 F kz_0 in_11 (mc bw_1_17) dX11_count_50 ?_
    refine g_10_1 F kz_1 in_10 (mc bw_8_9) dX11_count_53 ?_
    exact hret _ _ _ _ h rfl dX11_count_56
  replace h := h.2
  by_cases c3 : p0 = (3 : Int32)
  · replace h := h.1 c3
    refine x_tin (off := 56) (tgt := 57) F dX11_count_1 (by rw [c3]; decide) (by rw [c3]; decide) (by rw [c3]; rfl) (by decide) ?_
    refine x_aload_n F dX11_count_57 rfl 0 rfl ?_
    refine g_11_6 F kz_0 in_11 (mc bw_2_9) dX11_count_58 ?_
    refine g_3_7 F kz_29 in_3 (mc bw_34_6) dX11_count_61 ?_
    refine x_bipush (60 : Int32) F dX11_count_64 (by decide) ?_
    refine x_min F (mc bw_40_14) (mc bw_34_20) (mc bw_29_6) (mc bw_34_21) (Nat.le_of_ble_eq_true rfl) (Nat.le_of_ble_eq_true rfl) dX11_count_66 ?_
    exact hret _ _ _ _ h rfl dX11_count_69
  replace h := h.2
  by_cases c4 : p0 = (4 : Int32)
  · replace h := h.1 c4
    refine x_tin (off := 69) (tgt := 70) F dX11_count_1 (by rw [c4]; decide) (by rw [c4]; decide) (by rw [c4]; rfl) (by decide) ?_
    refine x_aload_n F dX11_count_70 rfl 0 rfl ?_
    refine g_11_12 F kz_0 in_11 (mc bw_3_3) dX11_count_71 ?_
    refine g_6_2 F kz_50 in_6 (mc bw_40_1) dX11_count_74 ?_
    exact hret _ _ _ _ h rfl dX11_count_77
  replace h := h.2
  replace h := h c0 c1 c2 c3 c4
  refine x_tout (tgt := 78) F dX11_count_1 (sw_out (fun z h1 h2 hz => ?_)) (by decide) ?_
  · rcases (show z = 0 ∨ z = 1 ∨ z = 2 ∨ z = 3 ∨ z = 4 by omega) with rfl | rfl | rfl | rfl | rfl
    · exact c0 (Int32.toInt_inj.mp (by rw [hz]; rfl))
    · exact c1 (Int32.toInt_inj.mp (by rw [hz]; rfl))
    · exact c2 (Int32.toInt_inj.mp (by rw [hz]; rfl))
    · exact c3 (Int32.toInt_inj.mp (by rw [hz]; rfl))
    · exact c4 (Int32.toInt_inj.mp (by rw [hz]; rfl))
  refine x_ldc F dX11_count_78 (mc bw_25_21) ?_
  exact hret _ _ _ _ h rfl dX11_count_80
/-! X11_writeLine -/
abbrev wvX11_writeLine : List Cond := Cond.code yX11_writeLine cX11_writeLine 3 none :: wsL_law
theorem cd_X11_writeLine : okN yX11_writeLine RX11 2 := by unfold okN; decide +kernel
def b_X11_writeLine_21   (Q : wS → Prop) (z0 : Int32) (z1 : Int32) (z2 : Int32) (σ : wS) : Prop := w_X4_write z2 z1 z0 (σ.1 38 3) σ (fun s1 => ∀ s3 : wS, s3 = upI s1 32 7 ((s1.1 32 7) + (1 : Int32)) → (Q s3))
set_option maxRecDepth 100000 in
set_option maxHeartbeats 4000000 in
theorem wb_X11_writeLine_21 {X : XT} {Q : wS → Prop}  (F : Fx X cX11_writeLine 3 RX11 wvX11_writeLine 2 46) (hret : Rv X 3 cX11_writeLine Q)    (z0 : Int32) (z1 : Int32) (z2 : Int32) (σ : wS) (h : b_X11_writeLine_21   Q z0 z1 z2 σ) : Wx X 3 σ 21 [(0, .ref (ad X 0))] [.int z0, .int z1, .int z2, .ref (ad X 48)] := by
  unfold b_X11_writeLine_21 at h
  refine x_aload_n F dX11_writeLine_21 rfl 0 rfl ?_
  refine g_11_8 F kz_0 in_11 (mc bw_2_14) dX11_writeLine_22 ?_
  refine g_1_3 F kz_38 in_1 (mc bw_32_18) dX11_writeLine_25 ?_
  refine x_callV_v F (c_X4_write (xl X) (xg X) (xA X) F.2.2.1  h) (bw_V bw_34_7 bw_34_8 bw_34_9 bw_2_22 bw_34_10) rfl cd_X4_write (Nat.le_of_ble_eq_true rfl) (Nat.le_of_ble_eq_true rfl) (kd_w (by decide) kz_48) rfl (cl_4 kz_48) rfl rfl (Nat.le_of_ble_eq_true rfl) dX11_writeLine_28 (fun s1 h => ?_)
  refine x_aload_n F dX11_writeLine_31 rfl 0 rfl ?_
  refine g_11_7 F kz_0 in_11 (mc bw_2_10) dX11_writeLine_32 ?_
  refine x_dup F dX11_writeLine_35 rfl ?_
  refine g_3_7 F kz_32 in_3 (mc bw_34_6) dX11_writeLine_36 ?_
  refine x_iconst (1 : Int32) F dX11_writeLine_39 (by decide) ?_
  refine x_iadd F dX11_writeLine_40 ?_
  refine q_3_7 F kz_32 in_3 (mc bw_34_6) dX11_writeLine_41 ?_
  refine x_nmS (fun s3 es3 => ?_)
  replace h := h s3 es3
  exact hret _ _ _ h dX11_writeLine_44
def w_X11_writeLine  (p0 : Int32) (p1 : Int32) (σ : wS) (Q : wS → Prop) : Prop := (¬ p0 = 0 → (b_X11_writeLine_21   Q p1 p0 (σ.1 32 7) σ)) ∧ (p0 = 0 → (b_X11_writeLine_21   Q (-1 : Int32) p0 (σ.1 32 7) σ))
set_option maxRecDepth 100000 in
set_option maxHeartbeats 4000000 in
theorem c_X11_writeLine (l : Launch) (g : wG) (A : Nat → Prop) (hA : adO g A)   {p0 : Int32} {p1 : Int32} {σ : wS} {Q : wS → Prop} (h : w_X11_writeLine  p0 p1 σ Q) : Mv l yX11_writeLine wvX11_writeLine 2 46 g A [.ref (g.2.2 0), .int p0, .int p1] σ Q := by
  refine mt_v (own := RX11) (lv := [(0, .ref (g.2.2 0)), (1, .int p0), (2, .int p1)]) (by decide) rfl rfl hA (Nat.le_of_ble_eq_true rfl) rfl ?_
  intro X hl hg hAA F hret
  subst hl hg hAA
  unfold w_X11_writeLine at h
  refine x_aload_n F dX11_writeLine_0 rfl 0 rfl ?_
  refine g_11_11 F kz_0 in_11 (mc bw_2_23) dX11_writeLine_1 ?_
  refine x_aload_n F dX11_writeLine_4 rfl 0 rfl ?_
  refine g_11_7 F kz_0 in_11 (mc bw_2_10) dX11_writeLine_5 ?_
  refine g_3_7 F kz_32 in_3 (mc bw_34_6) dX11_writeLine_8 ?_
  refine x_iload_n F dX11_writeLine_11 rfl 1 rfl ?_
  refine x_iload_n F dX11_writeLine_12 rfl 1 rfl ?_
  refine x_if_ne (tgt := 20) F dX11_writeLine_13 (by decide) (fun c => ?_) (fun c => ?_)
  · replace h := h.1 c
    refine x_iload_n F dX11_writeLine_20 rfl 2 rfl ?_
    refine x_sub (lv' := [(0, .ref (ad X 0))]) [0] rfl ?_
    exact wb_X11_writeLine_21 F hret   _ _ _ _ h
  · replace h := h.2 c
    refine x_iconst (-1 : Int32) F dX11_writeLine_16 (by decide) ?_
    refine x_goto (tgt := 21) F dX11_writeLine_17 (by decide) ?_
    refine x_sub (lv' := [(0, .ref (ad X 0))]) [0] rfl ?_
    exact wb_X11_writeLine_21 F hret   _ _ _ _ h
/-! X11_tryAct -/
abbrev wvX11_tryAct : List Cond := Cond.code yX11_tryAct cX11_tryAct 6 (some .int) :: wsL_law
theorem cd_X11_tryAct : okN yX11_tryAct RX11 4 := by unfold okN; decide +kernel
def w_X11_tryAct  (p0 : Int32) (p1 : Int32) (p2 : Int32) (p3 : Int32) (σ : wS) (Q : Int32 → wS → Prop) : Prop := w_X3_copy 32 29 σ (fun s1 => w_X1_attempt (mo (s1.1 0 2)) 32 p0 p1 p2 p3 s1 (fun r4 s3 => (¬ r4 = (-1 : Int32) → (Q r4 s3)) ∧ (r4 = (-1 : Int32) → (w_X11_writeLine p0 p1 s3 (fun s5 => w_X6_push 29 s5 (fun s7 => w_X3_copy 29 32 s7 (fun s9 => Q r4 s9)))))))
set_option maxRecDepth 100000 in
set_option maxHeartbeats 4000000 in
theorem c_X11_tryAct (l : Launch) (g : wG) (A : Nat → Prop) (hA : adO g A)   {p0 : Int32} {p1 : Int32} {p2 : Int32} {p3 : Int32} {σ : wS} {Q : Int32 → wS → Prop} (h : w_X11_tryAct  p0 p1 p2 p3 σ Q) : Mi l yX11_tryAct wvX11_tryAct 4 101 g A [.ref (g.2.2 0), .int p0, .int p1, .int p2, .int p3] σ Q := by
  refine mt_i (own := RX11) (lv := [(0, .ref (g.2.2 0)), (1, .int p0), (2, .int p1), (3, .int p2), (4, .int p3)]) (by decide) rfl rfl hA (Nat.le_of_ble_eq_true rfl) rfl ?_
  intro X hl hg hAA F hret
  subst hl hg hAA
  unfold w_X11_tryAct at h
  refine x_aload_n F dX11_tryAct_0 rfl 0 rfl ?_
  refine g_11_7 F kz_0 in_11 (mc bw_2_10) dX11_tryAct_1 ?_
  refine x_aload_n F dX11_tryAct_4 rfl 0 rfl ?_
  refine g_11_6 F kz_0 in_11 (mc bw_2_9) dX11_tryAct_5 ?_
  refine x_callV_v F (c_X3_copy (xl X) (xg X) (xA X) F.2.2.1 kz_32 kz_29 h) (bw_V bw_22_1 bw_22_2 bw_22_3 bw_2_8 bw_22_4) rfl cd_X3_copy (Nat.le_of_ble_eq_true rfl) (Nat.le_of_ble_eq_true rfl) (kd_w (by decide) kz_32) rfl (cl_3 kz_32) rfl rfl (Nat.le_of_ble_eq_true rfl) dX11_tryAct_8 (fun s1 h => ?_)
  refine x_aload_n F dX11_tryAct_11 rfl 0 rfl ?_
  refine g_11_8 F kz_0 in_11 (mc bw_2_14) dX11_tryAct_12 ?_
  refine x_aload_n F dX11_tryAct_15 rfl 0 rfl ?_
  refine g_11_2 F kz_0 in_11 (mc bw_2_1) dX11_tryAct_16 ?_
  refine x_aload_n F dX11_tryAct_19 rfl 0 rfl ?_
  refine g_11_7 F kz_0 in_11 (mc bw_2_10) dX11_tryAct_20 ?_
  refine x_iload_n F dX11_tryAct_23 rfl 1 rfl ?_
  refine x_iload_n F dX11_tryAct_24 rfl 2 rfl ?_
  refine x_iload_n F dX11_tryAct_25 rfl 3 rfl ?_
  refine x_iload F dX11_tryAct_26 4 rfl ?_
  refine x_callV_i F (c_X1_attempt (xl X) (xg X) (xA X) F.2.2.1 (mo_kd _) kz_32 h) (bw_V bw_32_23 bw_33_0 bw_33_1 bw_2_13 bw_33_2) rfl cd_X1_attempt (Nat.le_of_ble_eq_true rfl) (Nat.le_of_ble_eq_true rfl) (kd_w (by decide) kz_38) rfl (cl_1 kz_38) rfl rfl (Nat.le_of_ble_eq_true rfl) dX11_tryAct_28 (fun r4 s3 h => ?_)
  refine x_istore (lv' := [(5, .int r4), (0, .ref (ad X 0)), (1, .int p0), (2, .int p1), (3, .int p2), (4, .int p3)]) F dX11_tryAct_31 (by decide) rfl ?_
  refine x_iload F dX11_tryAct_33 0 rfl ?_
  refine x_iconst (-1 : Int32) F dX11_tryAct_35 (by decide) ?_
  refine x_icmp_ne (tgt := 67) F dX11_tryAct_36 (by decide) (fun c => ?_) (fun c => ?_)
  · replace h := h.1 c
    refine x_iload F dX11_tryAct_67 0 rfl ?_
    exact hret _ _ _ _ h rfl dX11_tryAct_69
  · replace h := h.2 c
    refine x_aload_n F dX11_tryAct_39 rfl 1 rfl ?_
    refine x_iload_n F dX11_tryAct_40 rfl 2 rfl ?_
    refine x_iload_n F dX11_tryAct_41 rfl 3 rfl ?_
    refine x_callV_v F (c_X11_writeLine (xl X) (xg X) (xA X) F.2.2.1  h) (bw_V bw_34_2 bw_34_3 bw_34_4 bw_1_2 bw_34_5) rfl cd_X11_writeLine (Nat.le_of_ble_eq_true rfl) (Nat.le_of_ble_eq_true rfl) (kd_w (by decide) kz_0) rfl (cl_11 kz_0) rfl rfl (Nat.le_of_ble_eq_true rfl) dX11_tryAct_42 (fun s5 h => ?_)
    refine x_aload_n F dX11_tryAct_45 rfl 1 rfl ?_
    refine g_11_12 F kz_0 in_11 (mc bw_3_3) dX11_tryAct_46 ?_
    refine x_aload_n F dX11_tryAct_49 rfl 1 rfl ?_
    refine g_11_6 F kz_0 in_11 (mc bw_2_9) dX11_tryAct_50 ?_
    refine x_callV_v F (c_X6_push (xl X) (xg X) (xA X) F.2.2.1 kz_29 h) (bw_V bw_34_15 bw_34_16 bw_34_17 bw_3_2 bw_34_18) rfl cd_X6_push (Nat.le_of_ble_eq_true rfl) (Nat.le_of_ble_eq_true rfl) (kd_w (by decide) kz_50) rfl (cl_6 kz_50) rfl rfl (Nat.le_of_ble_eq_true rfl) dX11_tryAct_53 (fun s7 h => ?_)
    refine x_aload_n F dX11_tryAct_56 rfl 1 rfl ?_
    refine g_11_6 F kz_0 in_11 (mc bw_2_9) dX11_tryAct_57 ?_
    refine x_aload_n F dX11_tryAct_60 rfl 1 rfl ?_
    refine g_11_7 F kz_0 in_11 (mc bw_2_10) dX11_tryAct_61 ?_
    refine x_callV_v F (c_X3_copy (xl X) (xg X) (xA X) F.2.2.1 kz_29 kz_32 h) (bw_V bw_22_1 bw_22_2 bw_22_3 bw_2_8 bw_22_4) rfl cd_X3_copy (Nat.le_of_ble_eq_true rfl) (Nat.le_of_ble_eq_true rfl) (kd_w (by decide) kz_29) rfl (cl_3 kz_29) rfl rfl (Nat.le_of_ble_eq_true rfl) dX11_tryAct_64 (fun s9 h => ?_)
    refine x_iload F dX11_tryAct_67 0 rfl ?_
    exact hret _ _ _ _ h rfl dX11_tryAct_69
/-! X11_refuse -/
abbrev wvX11_refuse : List Cond := Cond.code yX11_refuse cX11_refuse 3 none :: wsL_law
theorem cd_X11_refuse : okN yX11_refuse RX11 2 := by unfold okN; decide +kernel
def b_X11_refuse_39   (Q : wS → Prop) (x2 : Int32) (σ : wS) : Prop := w_X8_close x2 σ (fun s1 => Q s1)
set_option maxRecDepth 100000 in
set_option maxHeartbeats 4000000 in
theorem wb_X11_refuse_39 {X : XT} {Q : wS → Prop}  (F : Fx X cX11_refuse 3 RX11 wvX11_refuse 2 42) (hret : Rv X 3 cX11_refuse Q)    (x2 : Int32) (σ : wS) (h : b_X11_refuse_39   Q x2 σ) : Wx X 3 σ 39 [(0, .ref (ad X 0)), (2, .int x2)] [] := by
  unfold b_X11_refuse_39 at h
  refine x_aload_n F dX11_refuse_39 rfl 0 rfl ?_
  refine g_11_13 F kz_0 in_11 (mc bw_3_7) dX11_refuse_40 ?_
  refine x_iload_n F dX11_refuse_43 rfl 1 rfl ?_
  refine x_callV_v F (c_X8_close (xl X) (xg X) (xA X) F.2.2.1  h) (bw_V bw_35_12 bw_35_13 bw_35_14 bw_3_6 bw_35_15) rfl cd_X8_close (Nat.le_of_ble_eq_true rfl) (Nat.le_of_ble_eq_true rfl) (kd_w (by decide) kz_52) rfl (cl_8 kz_52) rfl rfl (Nat.le_of_ble_eq_true rfl) dX11_refuse_44 (fun s1 h => ?_)
  exact hret _ _ _ h dX11_refuse_47
def b_X11_refuse_21   (Q : wS → Prop) (x2 : Int32) (σ : wS) : Prop := w_X8_add ((200 : Int32) + (σ.1 38 4)) σ (fun s1 => b_X11_refuse_39   Q x2 s1)
set_option maxRecDepth 100000 in
set_option maxHeartbeats 4000000 in
theorem wb_X11_refuse_21 {X : XT} {Q : wS → Prop}  (F : Fx X cX11_refuse 3 RX11 wvX11_refuse 2 42) (hret : Rv X 3 cX11_refuse Q)    (x2 : Int32) (σ : wS) (h : b_X11_refuse_21   Q x2 σ) : Wx X 3 σ 21 [(0, .ref (ad X 0)), (2, .int x2)] [] := by
  unfold b_X11_refuse_21 at h
  refine x_aload_n F dX11_refuse_21 rfl 0 rfl ?_
  refine g_11_13 F kz_0 in_11 (mc bw_3_7) dX11_refuse_22 ?_
  refine x_sipush (200 : Int32) F dX11_refuse_25 (by decide) ?_
  refine x_aload_n F dX11_refuse_28 rfl 0 rfl ?_
  refine g_11_8 F kz_0 in_11 (mc bw_2_14) dX11_refuse_29 ?_
  refine g_1_4 F kz_38 in_1 (mc bw_35_7) dX11_refuse_32 ?_
  refine x_iadd F dX11_refuse_35 ?_
  refine x_callV_v F (c_X8_add (xl X) (xg X) (xA X) F.2.2.1  h) (bw_V bw_35_8 bw_35_9 bw_35_10 bw_3_6 bw_35_11) rfl cd_X8_add (Nat.le_of_ble_eq_true rfl) (Nat.le_of_ble_eq_true rfl) (kd_w (by decide) kz_52) rfl (cl_8 kz_52) rfl rfl (Nat.le_of_ble_eq_true rfl) dX11_refuse_36 (fun s1 h => ?_)
  refine x_sub (lv' := [(0, .ref (ad X 0)), (2, .int x2)]) [0, 1] rfl ?_
  exact wb_X11_refuse_39 F hret   _ _ h
def w_X11_refuse  (p0 : Int32) (p1 : Int32) (σ : wS) (Q : wS → Prop) : Prop := w_X8_add ((100 : Int32) + p0) σ (fun s1 => (p1 = (3 : Int32) → (b_X11_refuse_21   Q p1 s1)) ∧ (¬ p1 = (3 : Int32) → ((¬ p1 = (4 : Int32) → (b_X11_refuse_39   Q p1 s1)) ∧ (p1 = (4 : Int32) → (b_X11_refuse_21   Q p1 s1)))))
set_option maxRecDepth 100000 in
set_option maxHeartbeats 4000000 in
theorem c_X11_refuse (l : Launch) (g : wG) (A : Nat → Prop) (hA : adO g A)   {p0 : Int32} {p1 : Int32} {σ : wS} {Q : wS → Prop} (h : w_X11_refuse  p0 p1 σ Q) : Mv l yX11_refuse wvX11_refuse 2 42 g A [.ref (g.2.2 0), .int p0, .int p1] σ Q := by
  refine mt_v (own := RX11) (lv := [(0, .ref (g.2.2 0)), (1, .int p0), (2, .int p1)]) (by decide) rfl rfl hA (Nat.le_of_ble_eq_true rfl) rfl ?_
  intro X hl hg hAA F hret
  subst hl hg hAA
  unfold w_X11_refuse at h
  refine x_aload_n F dX11_refuse_0 rfl 0 rfl ?_
  refine g_11_13 F kz_0 in_11 (mc bw_3_7) dX11_refuse_1 ?_
  refine x_bipush (100 : Int32) F dX11_refuse_4 (by decide) ?_
  refine x_iload_n F dX11_refuse_6 rfl 1 rfl ?_
  refine x_iadd F dX11_refuse_7 ?_
  refine x_callV_v F (c_X8_add (xl X) (xg X) (xA X) F.2.2.1  h) (bw_V bw_35_8 bw_35_9 bw_35_10 bw_3_6 bw_35_11) rfl cd_X8_add (Nat.le_of_ble_eq_true rfl) (Nat.le_of_ble_eq_true rfl) (kd_w (by decide) kz_52) rfl (cl_8 kz_52) rfl rfl (Nat.le_of_ble_eq_true rfl) dX11_refuse_8 (fun s1 h => ?_)
  refine x_iload_n F dX11_refuse_11 rfl 2 rfl ?_
  refine x_iconst (3 : Int32) F dX11_refuse_12 (by decide) ?_
  refine x_icmp_eq (tgt := 21) F dX11_refuse_13 (by decide) (fun c => ?_) (fun c => ?_)
  · replace h := h.1 c
    refine x_sub (lv' := [(0, .ref (ad X 0)), (2, .int p1)]) [0, 2] rfl ?_
    exact wb_X11_refuse_21 F hret   _ _ h
  · replace h := h.2 c
    refine x_iload_n F dX11_refuse_16 rfl 2 rfl ?_
    refine x_iconst (4 : Int32) F dX11_refuse_17 (by decide) ?_
    refine x_icmp_ne (tgt := 39) F dX11_refuse_18 (by decide) (fun c => ?_) (fun c => ?_)
    · replace h := h.1 c
      refine x_sub (lv' := [(0, .ref (ad X 0)), (2, .int p1)]) [0, 2] rfl ?_
      exact wb_X11_refuse_39 F hret   _ _ h
    · replace h := h.2 c
      refine x_sub (lv' := [(0, .ref (ad X 0)), (2, .int p1)]) [0, 2] rfl ?_
      exact wb_X11_refuse_21 F hret   _ _ h
/-! X11_actByHand -/
abbrev wvX11_actByHand : List Cond := Cond.code yX11_actByHand cX11_actByHand 6 (some .int) :: wsL_law
theorem cd_X11_actByHand : okN yX11_actByHand RX11 4 := by unfold okN; decide +kernel
def w_X11_actByHand  (p0 : Int32) (p1 : Int32) (p2 : Int32) (p3 : Int32) (σ : wS) (Q : Int32 → wS → Prop) : Prop := w_X11_tryAct p0 p1 p2 p3 σ (fun r2 s1 => (r2 = (-1 : Int32) → (Q (s1.1 38 3) s1)) ∧ (¬ r2 = (-1 : Int32) → (w_X8_begin  s1 (fun s3 => w_X11_refuse p0 r2 s3 (fun s5 => Q (-1 : Int32) s5)))))
set_option maxRecDepth 100000 in
set_option maxHeartbeats 4000000 in
theorem c_X11_actByHand (l : Launch) (g : wG) (A : Nat → Prop) (hA : adO g A)   {p0 : Int32} {p1 : Int32} {p2 : Int32} {p3 : Int32} {σ : wS} {Q : Int32 → wS → Prop} (h : w_X11_actByHand  p0 p1 p2 p3 σ Q) : Mi l yX11_actByHand wvX11_actByHand 5 126 g A [.ref (g.2.2 0), .int p0, .int p1, .int p2, .int p3] σ Q := by
  refine mt_i (own := RX11) (lv := [(0, .ref (g.2.2 0)), (1, .int p0), (2, .int p1), (3, .int p2), (4, .int p3)]) (by decide) rfl rfl hA (Nat.le_of_ble_eq_true rfl) rfl ?_
  intro X hl hg hAA F hret
  subst hl hg hAA
  unfold w_X11_actByHand at h
  refine x_aload_n F dX11_actByHand_0 rfl 0 rfl ?_
  refine x_iload_n F dX11_actByHand_1 rfl 1 rfl ?_
  refine x_iload_n F dX11_actByHand_2 rfl 2 rfl ?_
  refine x_iload_n F dX11_actByHand_3 rfl 3 rfl ?_
  refine x_iload F dX11_actByHand_4 4 rfl ?_
  refine x_callV_i F (c_X11_tryAct (xl X) (xg X) (xA X) F.2.2.1  h) (bw_V bw_32_19 bw_32_20 bw_32_21 bw_1_2 bw_32_22) rfl cd_X11_tryAct (Nat.le_of_ble_eq_true rfl) (Nat.le_of_ble_eq_true rfl) (kd_w (by decide) kz_0) rfl (cl_11 kz_0) rfl rfl (Nat.le_of_ble_eq_true rfl) dX11_actByHand_6 (fun r2 s1 h => ?_)
  refine x_istore (lv' := [(5, .int r2), (0, .ref (ad X 0)), (1, .int p0), (2, .int p1), (3, .int p2), (4, .int p3)]) F dX11_actByHand_9 (by decide) rfl ?_
  refine x_iload F dX11_actByHand_11 0 rfl ?_
  refine x_iconst (-1 : Int32) F dX11_actByHand_13 (by decide) ?_
  refine x_icmp_eq (tgt := 33) F dX11_actByHand_14 (by decide) (fun c => ?_) (fun c => ?_)
  · replace h := h.1 c
    refine x_aload_n F dX11_actByHand_33 rfl 1 rfl ?_
    refine g_11_8 F kz_0 in_11 (mc bw_2_14) dX11_actByHand_34 ?_
    refine g_1_3 F kz_38 in_1 (mc bw_32_18) dX11_actByHand_37 ?_
    exact hret _ _ _ _ h rfl dX11_actByHand_40
  · replace h := h.2 c
    refine x_aload_n F dX11_actByHand_17 rfl 1 rfl ?_
    refine g_11_13 F kz_0 in_11 (mc bw_3_7) dX11_actByHand_18 ?_
    refine x_callV_v F (c_X8_begin (xl X) (xg X) (xA X) F.2.2.1  h) (bw_V bw_34_23 bw_35_0 bw_35_1 bw_3_6 bw_35_2) rfl cd_X8_begin (Nat.le_of_ble_eq_true rfl) (Nat.le_of_ble_eq_true rfl) (kd_w (by decide) kz_52) rfl (cl_8 kz_52) rfl rfl (Nat.le_of_ble_eq_true rfl) dX11_actByHand_21 (fun s3 h => ?_)
    refine x_aload_n F dX11_actByHand_24 rfl 1 rfl ?_
    refine x_iload_n F dX11_actByHand_25 rfl 2 rfl ?_
    refine x_iload F dX11_actByHand_26 0 rfl ?_
    refine x_callV_v F (c_X11_refuse (xl X) (xg X) (xA X) F.2.2.1  h) (bw_V bw_35_3 bw_35_4 bw_35_5 bw_1_2 bw_35_6) rfl cd_X11_refuse (Nat.le_of_ble_eq_true rfl) (Nat.le_of_ble_eq_true rfl) (kd_w (by decide) kz_0) rfl (cl_11 kz_0) rfl rfl (Nat.le_of_ble_eq_true rfl) dX11_actByHand_28 (fun s5 h => ?_)
    refine x_iconst (-1 : Int32) F dX11_actByHand_31 (by decide) ?_
    exact hret _ _ _ _ h rfl dX11_actByHand_32
/-! X11_wind -/
abbrev wvX11_wind : List Cond := Cond.code yX11_wind cX11_wind 4 (some .int) :: wsL_law
theorem cd_X11_wind : okN yX11_wind RX11 3 := by unfold okN; decide +kernel
def w_X11_wind  (p0 : Int32) (p1 : Int32) (p2 : Int32) (σ : wS) (Q : Int32 → wS → Prop) : Prop := w_X11_actByHand (0 : Int32) p0 p1 p2 σ (fun r2 s1 => Q r2 s1)
set_option maxRecDepth 100000 in
set_option maxHeartbeats 4000000 in
theorem c_X11_wind (l : Launch) (g : wG) (A : Nat → Prop) (hA : adO g A)   {p0 : Int32} {p1 : Int32} {p2 : Int32} {σ : wS} {Q : Int32 → wS → Prop} (h : w_X11_wind  p0 p1 p2 σ Q) : Mi l yX11_wind wvX11_wind 6 151 g A [.ref (g.2.2 0), .int p0, .int p1, .int p2] σ Q := by
  refine mt_i (own := RX11) (lv := [(0, .ref (g.2.2 0)), (1, .int p0), (2, .int p1), (3, .int p2)]) (by decide) rfl rfl hA (Nat.le_of_ble_eq_true rfl) rfl ?_
  intro X hl hg hAA F hret
  subst hl hg hAA
  unfold w_X11_wind at h
  refine x_aload_n F dX11_wind_0 rfl 0 rfl ?_
  refine x_iconst (0 : Int32) F dX11_wind_1 (by decide) ?_
  refine x_iload_n F dX11_wind_2 rfl 1 rfl ?_
  refine x_iload_n F dX11_wind_3 rfl 2 rfl ?_
  refine x_iload_n F dX11_wind_4 rfl 3 rfl ?_
  refine x_callV_i F (c_X11_actByHand (xl X) (xg X) (xA X) F.2.2.1  h) (bw_V bw_32_14 bw_32_15 bw_32_16 bw_1_2 bw_32_17) rfl cd_X11_actByHand (Nat.le_of_ble_eq_true rfl) (Nat.le_of_ble_eq_true rfl) (kd_w (by decide) kz_0) rfl (cl_11 kz_0) rfl rfl (Nat.le_of_ble_eq_true rfl) dX11_wind_5 (fun r2 s1 h => ?_)
  exact hret _ _ _ _ h rfl dX11_wind_8
/-! X11_winch -/
abbrev wvX11_winch : List Cond := Cond.code yX11_winch cX11_winch 3 (some .int) :: wsL_law
theorem cd_X11_winch : okN yX11_winch RX11 2 := by unfold okN; decide +kernel
def w_X11_winch  (p0 : Int32) (p1 : Int32) (σ : wS) (Q : Int32 → wS → Prop) : Prop := w_X11_actByHand (1 : Int32) p0 p1 (0 : Int32) σ (fun r2 s1 => Q r2 s1)
set_option maxRecDepth 100000 in
set_option maxHeartbeats 4000000 in
theorem c_X11_winch (l : Launch) (g : wG) (A : Nat → Prop) (hA : adO g A)   {p0 : Int32} {p1 : Int32} {σ : wS} {Q : Int32 → wS → Prop} (h : w_X11_winch  p0 p1 σ Q) : Mi l yX11_winch wvX11_winch 6 151 g A [.ref (g.2.2 0), .int p0, .int p1] σ Q := by
  refine mt_i (own := RX11) (lv := [(0, .ref (g.2.2 0)), (1, .int p0), (2, .int p1)]) (by decide) rfl rfl hA (Nat.le_of_ble_eq_true rfl) rfl ?_
  intro X hl hg hAA F hret
  subst hl hg hAA
  unfold w_X11_winch at h
  refine x_aload_n F dX11_winch_0 rfl 0 rfl ?_
  refine x_iconst (1 : Int32) F dX11_winch_1 (by decide) ?_
  refine x_iload_n F dX11_winch_2 rfl 1 rfl ?_
  refine x_iload_n F dX11_winch_3 rfl 2 rfl ?_
  refine x_iconst (0 : Int32) F dX11_winch_4 (by decide) ?_
  refine x_callV_i F (c_X11_actByHand (xl X) (xg X) (xA X) F.2.2.1  h) (bw_V bw_32_14 bw_32_15 bw_32_16 bw_1_2 bw_32_17) rfl cd_X11_actByHand (Nat.le_of_ble_eq_true rfl) (Nat.le_of_ble_eq_true rfl) (kd_w (by decide) kz_0) rfl (cl_11 kz_0) rfl rfl (Nat.le_of_ble_eq_true rfl) dX11_winch_5 (fun r2 s1 h => ?_)
  exact hret _ _ _ _ h rfl dX11_winch_8
/-! X11_cast -/
abbrev wvX11_cast : List Cond := Cond.code yX11_cast cX11_cast 2 (some .int) :: wsL_law
theorem cd_X11_cast : okN yX11_cast RX11 1 := by unfold okN; decide +kernel
def w_X11_cast  (p0 : Int32) (σ : wS) (Q : Int32 → wS → Prop) : Prop := w_X11_actByHand (2 : Int32) p0 (0 : Int32) (0 : Int32) σ (fun r2 s1 => Q r2 s1)
set_option maxRecDepth 100000 in
set_option maxHeartbeats 4000000 in
theorem c_X11_cast (l : Launch) (g : wG) (A : Nat → Prop) (hA : adO g A)   {p0 : Int32} {σ : wS} {Q : Int32 → wS → Prop} (h : w_X11_cast  p0 σ Q) : Mi l yX11_cast wvX11_cast 6 151 g A [.ref (g.2.2 0), .int p0] σ Q := by
  refine mt_i (own := RX11) (lv := [(0, .ref (g.2.2 0)), (1, .int p0)]) (by decide) rfl rfl hA (Nat.le_of_ble_eq_true rfl) rfl ?_
  intro X hl hg hAA F hret
  subst hl hg hAA
  unfold w_X11_cast at h
  refine x_aload_n F dX11_cast_0 rfl 0 rfl ?_
  refine x_iconst (2 : Int32) F dX11_cast_1 (by decide) ?_
  refine x_iload_n F dX11_cast_2 rfl 1 rfl ?_
  refine x_iconst (0 : Int32) F dX11_cast_3 (by decide) ?_
  refine x_iconst (0 : Int32) F dX11_cast_4 (by decide) ?_
  refine x_callV_i F (c_X11_actByHand (xl X) (xg X) (xA X) F.2.2.1  h) (bw_V bw_32_14 bw_32_15 bw_32_16 bw_1_2 bw_32_17) rfl cd_X11_actByHand (Nat.le_of_ble_eq_true rfl) (Nat.le_of_ble_eq_true rfl) (kd_w (by decide) kz_0) rfl (cl_11 kz_0) rfl rfl (Nat.le_of_ble_eq_true rfl) dX11_cast_5 (fun r2 s1 h => ?_)
  exact hret _ _ _ _ h rfl dX11_cast_8
/-! X11_renew -/
abbrev wvX11_renew : List Cond := Cond.code yX11_renew cX11_renew 2 (some .int) :: wsL_law
theorem cd_X11_renew : okN yX11_renew RX11 1 := by unfold okN; decide +kernel
def w_X11_renew  (p0 : Int32) (σ : wS) (Q : Int32 → wS → Prop) : Prop := w_X11_actByHand (3 : Int32) p0 (0 : Int32) (0 : Int32) σ (fun r2 s1 => Q r2 s1)
set_option maxRecDepth 100000 in
set_option maxHeartbeats 4000000 in
theorem c_X11_renew (l : Launch) (g : wG) (A : Nat → Prop) (hA : adO g A)   {p0 : Int32} {σ : wS} {Q : Int32 → wS → Prop} (h : w_X11_renew  p0 σ Q) : Mi l yX11_renew wvX11_renew 6 151 g A [.ref (g.2.2 0), .int p0] σ Q := by
  refine mt_i (own := RX11) (lv := [(0, .ref (g.2.2 0)), (1, .int p0)]) (by decide) rfl rfl hA (Nat.le_of_ble_eq_true rfl) rfl ?_
  intro X hl hg hAA F hret
  subst hl hg hAA
  unfold w_X11_renew at h
  refine x_aload_n F dX11_renew_0 rfl 0 rfl ?_
  refine x_iconst (3 : Int32) F dX11_renew_1 (by decide) ?_
  refine x_iload_n F dX11_renew_2 rfl 1 rfl ?_
  refine x_iconst (0 : Int32) F dX11_renew_3 (by decide) ?_
  refine x_iconst (0 : Int32) F dX11_renew_4 (by decide) ?_
  refine x_callV_i F (c_X11_actByHand (xl X) (xg X) (xA X) F.2.2.1  h) (bw_V bw_32_14 bw_32_15 bw_32_16 bw_1_2 bw_32_17) rfl cd_X11_actByHand (Nat.le_of_ble_eq_true rfl) (Nat.le_of_ble_eq_true rfl) (kd_w (by decide) kz_0) rfl (cl_11 kz_0) rfl rfl (Nat.le_of_ble_eq_true rfl) dX11_renew_5 (fun r2 s1 h => ?_)
  exact hret _ _ _ _ h rfl dX11_renew_8
/-! X11_status -/
abbrev wvX11_status : List Cond := Cond.code yX11_status cX11_status 2 (some .int) :: wsL_law
theorem cd_X11_status : okN yX11_status RX11 1 := by unfold okN; decide +kernel
def w_X11_status  (p0 : Int32) (σ : wS) (Q : Int32 → wS → Prop) : Prop := w_X11_isWithin p0 (0 : Int32) (4 : Int32) σ (fun r2 s1 => (r2 = 0 → (Q (-1 : Int32) s1)) ∧ (¬ r2 = 0 → (vp_in p0 5 ∧ (Q (s1.1 53 (p0).toNatClampNeg) s1))))
set_option maxRecDepth 100000 in
set_option maxHeartbeats 4000000 in
theorem c_X11_status (l : Launch) (g : wG) (A : Nat → Prop) (hA : adO g A)   {p0 : Int32} {σ : wS} {Q : Int32 → wS → Prop} (h : w_X11_status  p0 σ Q) : Mi l yX11_status wvX11_status 1 22 g A [.ref (g.2.2 0), .int p0] σ Q := by
  refine mt_i (own := RX11) (lv := [(0, .ref (g.2.2 0)), (1, .int p0)]) (by decide) rfl rfl hA (Nat.le_of_ble_eq_true rfl) rfl ?_
  intro X hl hg hAA F hret
  subst hl hg hAA
  unfold w_X11_status at h
  refine x_iload_n F dX11_status_0 rfl 1 rfl ?_
  refine x_iconst (0 : Int32) F dX11_status_1 (by decide) ?_
  refine x_iconst (4 : Int32) F dX11_status_2 (by decide) ?_
  refine x_callT_i F (c_X11_isWithin (xl X) (xg X) (xA X) F.2.2.1  h) (bw_S bw_26_5 bw_26_6 bw_1_2 bw_26_7) rfl cd_X11_isWithin (Nat.le_of_ble_eq_true rfl) (Nat.le_of_ble_eq_true rfl) rfl rfl (Nat.le_of_ble_eq_true rfl) dX11_status_3 (fun r2 s1 h => ?_)
  refine x_if_eq (tgt := 21) F dX11_status_6 (by decide) (fun c => ?_) (fun c => ?_)
  · replace h := h.1 c
    refine x_iconst (-1 : Int32) F dX11_status_21 (by decide) ?_
    exact hret _ _ _ _ h rfl dX11_status_22
  · replace h := h.2 c
    refine x_aload_n F dX11_status_9 rfl 0 rfl ?_
    refine g_11_13 F kz_0 in_11 (mc bw_3_7) dX11_status_10 ?_
    refine g_8_0 F kz_52 in_8 (mc bw_39_4) dX11_status_13 ?_
    refine x_iload_n F dX11_status_16 rfl 1 rfl ?_
    obtain ⟨hj, h⟩ := h
    refine x_iald F kz_53 nz_53 hj dX11_status_17 ?_
    refine x_goto (tgt := 22) F dX11_status_18 (by decide) ?_
    exact hret _ _ _ _ h rfl dX11_status_22
/-! X11_cause -/
abbrev wvX11_cause : List Cond := Cond.code yX11_cause cX11_cause 2 (some .int) :: wsL_law
theorem cd_X11_cause : okN yX11_cause RX11 1 := by unfold okN; decide +kernel
def w_X11_cause  (p0 : Int32) (σ : wS) (Q : Int32 → wS → Prop) : Prop := w_X8_causeAt p0 σ (fun r2 s1 => Q r2 s1)
set_option maxRecDepth 100000 in
set_option maxHeartbeats 4000000 in
theorem c_X11_cause (l : Launch) (g : wG) (A : Nat → Prop) (hA : adO g A)   {p0 : Int32} {σ : wS} {Q : Int32 → wS → Prop} (h : w_X11_cause  p0 σ Q) : Mi l yX11_cause wvX11_cause 1 21 g A [.ref (g.2.2 0), .int p0] σ Q := by
  refine mt_i (own := RX11) (lv := [(0, .ref (g.2.2 0)), (1, .int p0)]) (by decide) rfl rfl hA (Nat.le_of_ble_eq_true rfl) rfl ?_
  intro X hl hg hAA F hret
  subst hl hg hAA
  unfold w_X11_cause at h
  refine x_aload_n F dX11_cause_0 rfl 0 rfl ?_
  refine g_11_13 F kz_0 in_11 (mc bw_3_7) dX11_cause_1 ?_
  refine x_iload_n F dX11_cause_4 rfl 1 rfl ?_
  refine x_callV_i F (c_X8_causeAt (xl X) (xg X) (xA X) F.2.2.1  h) (bw_V bw_39_13 bw_39_14 bw_39_15 bw_3_6 bw_39_16) rfl cd_X8_causeAt (Nat.le_of_ble_eq_true rfl) (Nat.le_of_ble_eq_true rfl) (kd_w (by decide) kz_52) rfl (cl_8 kz_52) rfl rfl (Nat.le_of_ble_eq_true rfl) dX11_cause_5 (fun r2 s1 h => ?_)
  exact hret _ _ _ _ h rfl dX11_cause_8
/-! X11_undo -/
abbrev wvX11_undo : List Cond := Cond.code yX11_undo cX11_undo 1 (some .int) :: wsL_law
theorem cd_X11_undo : okN yX11_undo RX11 0 := by unfold okN; decide +kernel
def w_X11_undo   (σ : wS) (Q : Int32 → wS → Prop) : Prop := w_X6_pop 29 σ (fun r2 s1 => (r2 = 0 → (Q (-1 : Int32) s1)) ∧ (¬ r2 = 0 → (Q (s1.1 50 2) s1)))
set_option maxRecDepth 100000 in
set_option maxHeartbeats 4000000 in
theorem c_X11_undo (l : Launch) (g : wG) (A : Nat → Prop) (hA : adO g A)    {σ : wS} {Q : Int32 → wS → Prop} (h : w_X11_undo   σ Q) : Mi l yX11_undo wvX11_undo 3 82 g A [.ref (g.2.2 0)] σ Q := by
  refine mt_i (own := RX11) (lv := [(0, .ref (g.2.2 0))]) (by decide) rfl rfl hA (Nat.le_of_ble_eq_true rfl) rfl ?_
  intro X hl hg hAA F hret
  subst hl hg hAA
  unfold w_X11_undo at h
  refine x_aload_n F dX11_undo_0 rfl 0 rfl ?_
  refine g_11_12 F kz_0 in_11 (mc bw_3_3) dX11_undo_1 ?_
  refine x_aload_n F dX11_undo_4 rfl 0 rfl ?_
  refine g_11_6 F kz_0 in_11 (mc bw_2_9) dX11_undo_5 ?_
  refine x_callV_i F (c_X6_pop (xl X) (xg X) (xA X) F.2.2.1 kz_29 h) (bw_V bw_40_2 bw_40_3 bw_40_4 bw_3_2 bw_40_5) rfl cd_X6_pop (Nat.le_of_ble_eq_true rfl) (Nat.le_of_ble_eq_true rfl) (kd_w (by decide) kz_50) rfl (cl_6 kz_50) rfl rfl (Nat.le_of_ble_eq_true rfl) dX11_undo_8 (fun r2 s1 h => ?_)
  refine x_if_eq (tgt := 24) F dX11_undo_11 (by decide) (fun c => ?_) (fun c => ?_)
  · replace h := h.1 c
    refine x_iconst (-1 : Int32) F dX11_undo_24 (by decide) ?_
    exact hret _ _ _ _ h rfl dX11_undo_25
  · replace h := h.2 c
    refine x_aload_n F dX11_undo_14 rfl 0 rfl ?_
    refine g_11_12 F kz_0 in_11 (mc bw_3_3) dX11_undo_15 ?_
    refine g_6_2 F kz_50 in_6 (mc bw_40_1) dX11_undo_18 ?_
    refine x_goto (tgt := 25) F dX11_undo_21 (by decide) ?_
    exact hret _ _ _ _ h rfl dX11_undo_25
/-! X11_log -/
abbrev wvX11_log : List Cond := Cond.code yX11_log cX11_log 3 (some .int) :: wsL_law
theorem cd_X11_log : okN yX11_log RX11 2 := by unfold okN; decide +kernel
def w_X11_log  (p0 : Int32) (p1 : Int32) (σ : wS) (Q : Int32 → wS → Prop) : Prop := (p0 < 0 → (Q (-1000000 : Int32) σ)) ∧ (¬ p0 < 0 → (((if (60 : Int32) < (σ.1 29 7) then (60 : Int32) else (σ.1 29 7)) ≤ p0 → (Q (-1000000 : Int32) σ)) ∧ (¬ (if (60 : Int32) < (σ.1 29 7) then (60 : Int32) else (σ.1 29 7)) ≤ p0 → (w_X11_isWithin p1 (0 : Int32) (2 : Int32) σ (fun r2 s1 => (¬ r2 = 0 → (w_X4_read (((s1.1 29 7) - (1 : Int32)) - p0) p1 s1 (fun r4 s3 => Q r4 s3))) ∧ (r2 = 0 → (Q (-1000000 : Int32) s1)))))))
set_option maxRecDepth 100000 in
set_option maxHeartbeats 4000000 in
theorem c_X11_log (l : Launch) (g : wG) (A : Nat → Prop) (hA : adO g A)   {p0 : Int32} {p1 : Int32} {σ : wS} {Q : Int32 → wS → Prop} (h : w_X11_log  p0 p1 σ Q) : Mi l yX11_log wvX11_log 2 44 g A [.ref (g.2.2 0), .int p0, .int p1] σ Q := by
  refine mt_i (own := RX11) (lv := [(0, .ref (g.2.2 0)), (1, .int p0), (2, .int p1)]) (by decide) rfl rfl hA (Nat.le_of_ble_eq_true rfl) rfl ?_
  intro X hl hg hAA F hret
  subst hl hg hAA
  unfold w_X11_log at h
  refine x_iload_n F dX11_log_0 rfl 1 rfl ?_
  refine x_if_lt (tgt := 29) F dX11_log_1 (by decide) (fun c => ?_) (fun c => ?_)
  · replace h := h.1 c
    refine x_ldc F dX11_log_29 (mc bw_25_21) ?_
    exact hret _ _ _ _ h rfl dX11_log_31
  · replace h := h.2 c
    refine x_iload_n F dX11_log_4 rfl 1 rfl ?_
    refine x_aload_n F dX11_log_5 rfl 0 rfl ?_
    refine g_11_6 F kz_0 in_11 (mc bw_2_9) dX11_log_6 ?_
    refine g_3_7 F kz_29 in_3 (mc bw_34_6) dX11_log_9 ?_
    refine x_bipush (60 : Int32) F dX11_log_12 (by decide) ?_
    refine x_min F (mc bw_40_14) (mc bw_34_20) (mc bw_29_6) (mc bw_34_21) (Nat.le_of_ble_eq_true rfl) (Nat.le_of_ble_eq_true rfl) dX11_log_14 ?_
    refine x_icmp_ge (tgt := 29) F dX11_log_17 (by decide) (fun c => ?_) (fun c => ?_)
    · replace h := h.1 c
      refine x_ldc F dX11_log_29 (mc bw_25_21) ?_
      exact hret _ _ _ _ h rfl dX11_log_31
    · replace h := h.2 c
      refine x_iload_n F dX11_log_20 rfl 2 rfl ?_
      refine x_iconst (0 : Int32) F dX11_log_21 (by decide) ?_
      refine x_iconst (2 : Int32) F dX11_log_22 (by decide) ?_
      refine x_callT_i F (c_X11_isWithin (xl X) (xg X) (xA X) F.2.2.1  h) (bw_S bw_26_5 bw_26_6 bw_1_2 bw_26_7) rfl cd_X11_isWithin (Nat.le_of_ble_eq_true rfl) (Nat.le_of_ble_eq_true rfl) rfl rfl (Nat.le_of_ble_eq_true rfl) dX11_log_23 (fun r2 s1 h => ?_)
      refine x_if_ne (tgt := 32) F dX11_log_26 (by decide) (fun c => ?_) (fun c => ?_)
      · replace h := h.1 c
        refine x_aload_n F dX11_log_32 rfl 0 rfl ?_
        refine g_11_11 F kz_0 in_11 (mc bw_2_23) dX11_log_33 ?_
        refine x_aload_n F dX11_log_36 rfl 0 rfl ?_
        refine g_11_6 F kz_0 in_11 (mc bw_2_9) dX11_log_37 ?_
        refine g_3_7 F kz_29 in_3 (mc bw_34_6) dX11_log_40 ?_
        refine x_iconst (1 : Int32) F dX11_log_43 (by decide) ?_
        refine x_isub F dX11_log_44 ?_
        refine x_iload_n F dX11_log_45 rfl 1 rfl ?_
        refine x_isub F dX11_log_46 ?_
        refine x_iload_n F dX11_log_47 rfl 2 rfl ?_
        refine x_callV_i F (c_X4_read (xl X) (xg X) (xA X) F.2.2.1  h) (bw_V bw_40_15 bw_40_16 bw_40_17 bw_2_22 bw_40_18) rfl cd_X4_read (Nat.le_of_ble_eq_true rfl) (Nat.le_of_ble_eq_true rfl) (kd_w (by decide) kz_48) rfl (cl_4 kz_48) rfl rfl (Nat.le_of_ble_eq_true rfl) dX11_log_48 (fun r4 s3 h => ?_)
        exact hret _ _ _ _ h rfl dX11_log_51
      · replace h := h.2 c
        refine x_ldc F dX11_log_29 (mc bw_25_21) ?_
        exact hret _ _ _ _ h rfl dX11_log_31
/-! X11_isScript -/
abbrev wvX11_isScript : List Cond := Cond.code yX11_isScript cX11_isScript 2 (some .boolean) :: wsL_law
theorem cd_X11_isScript : okN yX11_isScript RX11 1 := by unfold okN; decide +kernel
def w_X11_isScript  (p0 : Int32) (σ : wS) (Q : Int32 → wS → Prop) : Prop := (p0 < 0 → (Q (0 : Int32) σ)) ∧ (¬ p0 < 0 → (((σ.1 0 5) ≤ p0 → (Q (0 : Int32) σ)) ∧ (¬ (σ.1 0 5) ≤ p0 → (Q (1 : Int32) σ))))
set_option maxRecDepth 100000 in
set_option maxHeartbeats 4000000 in
theorem c_X11_isScript (l : Launch) (g : wG) (A : Nat → Prop) (hA : adO g A)   {p0 : Int32} {σ : wS} {Q : Int32 → wS → Prop} (h : w_X11_isScript  p0 σ Q) : Mi l yX11_isScript wvX11_isScript 0 0 g A [.ref (g.2.2 0), .int p0] σ Q := by
  refine mt_i (own := RX11) (lv := [(0, .ref (g.2.2 0)), (1, .int p0)]) (by decide) rfl rfl hA (Nat.le_of_ble_eq_true rfl) rfl ?_
  intro X hl hg hAA F hret
  subst hl hg hAA
  unfold w_X11_isScript at h
  refine x_iload_n F dX11_isScript_0 rfl 1 rfl ?_
  refine x_if_lt (tgt := 16) F dX11_isScript_1 (by decide) (fun c => ?_) (fun c => ?_)
  · replace h := h.1 c
    refine x_iconst (0 : Int32) F dX11_isScript_16 (by decide) ?_
    exact hret _ _ _ _ h (nar01 (by decide)) dX11_isScript_17
  · replace h := h.2 c
    refine x_iload_n F dX11_isScript_4 rfl 1 rfl ?_
    refine x_aload_n F dX11_isScript_5 rfl 0 rfl ?_
    refine g_11_5 F kz_0 in_11 (mc bw_2_5) dX11_isScript_6 ?_
    refine x_icmp_ge (tgt := 16) F dX11_isScript_9 (by decide) (fun c => ?_) (fun c => ?_)
    · replace h := h.1 c
      refine x_iconst (0 : Int32) F dX11_isScript_16 (by decide) ?_
      exact hret _ _ _ _ h (nar01 (by decide)) dX11_isScript_17
    · replace h := h.2 c
      refine x_iconst (1 : Int32) F dX11_isScript_12 (by decide) ?_
      refine x_goto (tgt := 17) F dX11_isScript_13 (by decide) ?_
      exact hret _ _ _ _ h (nar01 (by decide)) dX11_isScript_17
/-! X11_step -/
abbrev wvX11_step : List Cond := Cond.code yX11_step cX11_step 4 (some .int) :: wsL_law
theorem cd_X11_step : okN yX11_step RX11 3 := by unfold okN; decide +kernel
def w_X11_step  (p0 : Int32) (p1 : Int32) (p2 : Int32) (σ : wS) (Q : Int32 → wS → Prop) : Prop := w_X11_isScript p0 σ (fun r2 s1 => (r2 = 0 → (Q (-1000000 : Int32) s1)) ∧ (¬ r2 = 0 → ((p1 < 0 → (Q (-1000000 : Int32) s1)) ∧ (¬ p1 < 0 → (vp_in p0 5 ∧ (((s1.1 (19 + 2 * (p0).toNatClampNeg) 1) ≤ p1 → (Q (-1000000 : Int32) s1)) ∧ (¬ (s1.1 (19 + 2 * (p0).toNatClampNeg) 1) ≤ p1 → (w_X11_isWithin p2 (0 : Int32) (3 : Int32) s1 (fun r5 s4 => (¬ r5 = 0 → (vp_in p0 5 ∧ (w_X9_told (19 + 2 * (p0).toNatClampNeg) p1 p2 s4 (fun r8 s7 => Q r8 s7)))) ∧ (r5 = 0 → (Q (-1000000 : Int32) s4)))))))))))
set_option maxRecDepth 100000 in
set_option maxHeartbeats 4000000 in
theorem c_X11_step (l : Launch) (g : wG) (A : Nat → Prop) (hA : adO g A)   {p0 : Int32} {p1 : Int32} {p2 : Int32} {σ : wS} {Q : Int32 → wS → Prop} (h : w_X11_step  p0 p1 p2 σ Q) : Mi l yX11_step wvX11_step 2 46 g A [.ref (g.2.2 0), .int p0, .int p1, .int p2] σ Q := by
  refine mt_i (own := RX11) (lv := [(0, .ref (g.2.2 0)), (1, .int p0), (2, .int p1), (3, .int p2)]) (by decide) rfl rfl hA (Nat.le_of_ble_eq_true rfl) rfl ?_
  intro X hl hg hAA F hret
  subst hl hg hAA
  unfold w_X11_step at h
  refine x_aload_n F dX11_step_0 rfl 0 rfl ?_
  refine x_iload_n F dX11_step_1 rfl 1 rfl ?_
  refine x_callV_i F (c_X11_isScript (xl X) (xg X) (xA X) F.2.2.1  h) (bw_V bw_41_8 bw_41_9 bw_41_10 bw_1_2 bw_41_11) rfl cd_X11_isScript (Nat.le_of_ble_eq_true rfl) (Nat.le_of_ble_eq_true rfl) (kd_w (by decide) kz_0) rfl (cl_11 kz_0) rfl rfl (Nat.le_of_ble_eq_true rfl) dX11_step_2 (fun r2 s1 h => ?_)
  refine x_if_eq (tgt := 34) F dX11_step_5 (by decide) (fun c => ?_) (fun c => ?_)
  · replace h := h.1 c
    refine x_ldc F dX11_step_34 (mc bw_25_21) ?_
    exact hret _ _ _ _ h rfl dX11_step_36
  · replace h := h.2 c
    refine x_iload_n F dX11_step_8 rfl 2 rfl ?_
    refine x_if_lt (tgt := 34) F dX11_step_9 (by decide) (fun c => ?_) (fun c => ?_)
    · replace h := h.1 c
      refine x_ldc F dX11_step_34 (mc bw_25_21) ?_
      exact hret _ _ _ _ h rfl dX11_step_36
    · replace h := h.2 c
      refine x_iload_n F dX11_step_12 rfl 2 rfl ?_
      refine x_aload_n F dX11_step_13 rfl 0 rfl ?_
      refine g_11_4 F kz_0 in_11 (mc bw_2_4) dX11_step_14 ?_
      refine x_iload_n F dX11_step_17 rfl 1 rfl ?_
      obtain ⟨hj3, h⟩ := h
      refine x_aald18 F kz_18 nz_18 hj3 dX11_step_18 ?_
      refine g_9_1 F (kd_script hj3) in_9 (mc bw_41_7) dX11_step_19 ?_
      refine x_icmp_ge (tgt := 34) F dX11_step_22 (by decide) (fun c => ?_) (fun c => ?_)
      · replace h := h.1 c
        refine x_ldc F dX11_step_34 (mc bw_25_21) ?_
        exact hret _ _ _ _ h rfl dX11_step_36
      · replace h := h.2 c
        refine x_iload_n F dX11_step_25 rfl 3 rfl ?_
        refine x_iconst (0 : Int32) F dX11_step_26 (by decide) ?_
        refine x_iconst (3 : Int32) F dX11_step_27 (by decide) ?_
        refine x_callT_i F (c_X11_isWithin (xl X) (xg X) (xA X) F.2.2.1  h) (bw_S bw_26_5 bw_26_6 bw_1_2 bw_26_7) rfl cd_X11_isWithin (Nat.le_of_ble_eq_true rfl) (Nat.le_of_ble_eq_true rfl) rfl rfl (Nat.le_of_ble_eq_true rfl) dX11_step_28 (fun r5 s4 h => ?_)
        refine x_if_ne (tgt := 37) F dX11_step_31 (by decide) (fun c => ?_) (fun c => ?_)
        · replace h := h.1 c
          refine x_aload_n F dX11_step_37 rfl 0 rfl ?_
          refine g_11_4 F kz_0 in_11 (mc bw_2_4) dX11_step_38 ?_
          refine x_iload_n F dX11_step_41 rfl 1 rfl ?_
          obtain ⟨hj6, h⟩ := h
          refine x_aald18 F kz_18 nz_18 hj6 dX11_step_42 ?_
          refine x_iload_n F dX11_step_43 rfl 2 rfl ?_
          refine x_iload_n F dX11_step_44 rfl 3 rfl ?_
          refine x_callV_i F (c_X9_told (xl X) (xg X) (xA X) F.2.2.1 (kd_script hj6) h) (bw_V bw_41_12 bw_41_13 bw_41_14 bw_3_14 bw_41_15) rfl cd_X9_told (Nat.le_of_ble_eq_true rfl) (Nat.le_of_ble_eq_true rfl) (kd_w (by decide) (kd_script hj6)) rfl (cl_9 (kd_script hj6)) rfl rfl (Nat.le_of_ble_eq_true rfl) dX11_step_45 (fun r8 s7 h => ?_)
          exact hret _ _ _ _ h rfl dX11_step_48
        · replace h := h.2 c
          refine x_ldc F dX11_step_34 (mc bw_25_21) ?_
          exact hret _ _ _ _ h rfl dX11_step_36
/-! X11_attemptStep -/
abbrev wvX11_attemptStep : List Cond := Cond.code yX11_attemptStep cX11_attemptStep 3 (some .int) :: wsL_law
theorem cd_X11_attemptStep : okN yX11_attemptStep RX11 2 := by unfold okN; decide +kernel
def w_X11_attemptStep (p0 : Nat) (p1 : Int32) (σ : wS) (Q : Int32 → wS → Prop) : Prop := w_X9_cell p0 p1 (0 : Int32) σ (fun r2 s1 => w_X9_cell p0 p1 (1 : Int32) s1 (fun r4 s3 => w_X9_cell p0 p1 (2 : Int32) s3 (fun r6 s5 => w_X9_cell p0 p1 (3 : Int32) s5 (fun r8 s7 => w_X1_attempt (mo (σ.1 0 2)) 32 r2 r4 r6 r8 s7 (fun r10 s9 => Q r10 s9)))))
set_option maxRecDepth 100000 in
set_option maxHeartbeats 4000000 in
theorem c_X11_attemptStep (l : Launch) (g : wG) (A : Nat → Prop) (hA : adO g A) {p0 : Nat} (k_p0 : kd p0 = 9) {p1 : Int32} {σ : wS} {Q : Int32 → wS → Prop} (h : w_X11_attemptStep p0 p1 σ Q) : Mi l yX11_attemptStep wvX11_attemptStep 4 101 g A [.ref (g.2.2 0), .ref (g.2.2 p0), .int p1] σ Q := by
  refine mt_i (own := RX11) (lv := [(0, .ref (g.2.2 0)), (1, .ref (g.2.2 p0)), (2, .int p1)]) (by decide) rfl rfl hA (Nat.le_of_ble_eq_true rfl) rfl ?_
  intro X hl hg hAA F hret
  subst hl hg hAA
  unfold w_X11_attemptStep at h
  refine x_aload_n F dX11_attemptStep_0 rfl 0 rfl ?_
  refine g_11_8 F kz_0 in_11 (mc bw_2_14) dX11_attemptStep_1 ?_
  refine x_aload_n F dX11_attemptStep_4 rfl 0 rfl ?_
  refine g_11_2 F kz_0 in_11 (mc bw_2_1) dX11_attemptStep_5 ?_
  refine x_aload_n F dX11_attemptStep_8 rfl 0 rfl ?_
  refine g_11_7 F kz_0 in_11 (mc bw_2_10) dX11_attemptStep_9 ?_
  refine x_aload_n F dX11_attemptStep_12 rfl 1 rfl ?_
  refine x_iload_n F dX11_attemptStep_13 rfl 2 rfl ?_
  refine x_iconst (0 : Int32) F dX11_attemptStep_14 (by decide) ?_
  refine x_callV_i F (c_X9_cell (xl X) (xg X) (xA X) F.2.2.1 k_p0 h) (bw_V bw_42_14 bw_41_18 bw_41_19 bw_3_14 bw_41_20) rfl cd_X9_cell (Nat.le_of_ble_eq_true rfl) (Nat.le_of_ble_eq_true rfl) (kd_w (by decide) k_p0) rfl (cl_9 k_p0) rfl rfl (Nat.le_of_ble_eq_true rfl) dX11_attemptStep_15 (fun r2 s1 h => ?_)
  refine x_aload_n F dX11_attemptStep_18 rfl 1 rfl ?_
  refine x_iload_n F dX11_attemptStep_19 rfl 2 rfl ?_
  refine x_iconst (1 : Int32) F dX11_attemptStep_20 (by decide) ?_
  refine x_callV_i F (c_X9_cell (xl X) (xg X) (xA X) F.2.2.1 k_p0 h) (bw_V bw_42_14 bw_41_18 bw_41_19 bw_3_14 bw_41_20) rfl cd_X9_cell (Nat.le_of_ble_eq_true rfl) (Nat.le_of_ble_eq_true rfl) (kd_w (by decide) k_p0) rfl (cl_9 k_p0) rfl rfl (Nat.le_of_ble_eq_true rfl) dX11_attemptStep_21 (fun r4 s3 h => ?_)
  refine x_aload_n F dX11_attemptStep_24 rfl 1 rfl ?_
  refine x_iload_n F dX11_attemptStep_25 rfl 2 rfl ?_
  refine x_iconst (2 : Int32) F dX11_attemptStep_26 (by decide) ?_
  refine x_callV_i F (c_X9_cell (xl X) (xg X) (xA X) F.2.2.1 k_p0 h) (bw_V bw_42_14 bw_41_18 bw_41_19 bw_3_14 bw_41_20) rfl cd_X9_cell (Nat.le_of_ble_eq_true rfl) (Nat.le_of_ble_eq_true rfl) (kd_w (by decide) k_p0) rfl (cl_9 k_p0) rfl rfl (Nat.le_of_ble_eq_true rfl) dX11_attemptStep_27 (fun r6 s5 h => ?_)
  refine x_aload_n F dX11_attemptStep_30 rfl 1 rfl ?_
  refine x_iload_n F dX11_attemptStep_31 rfl 2 rfl ?_
  refine x_iconst (3 : Int32) F dX11_attemptStep_32 (by decide) ?_
  refine x_callV_i F (c_X9_cell (xl X) (xg X) (xA X) F.2.2.1 k_p0 h) (bw_V bw_42_14 bw_41_18 bw_41_19 bw_3_14 bw_41_20) rfl cd_X9_cell (Nat.le_of_ble_eq_true rfl) (Nat.le_of_ble_eq_true rfl) (kd_w (by decide) k_p0) rfl (cl_9 k_p0) rfl rfl (Nat.le_of_ble_eq_true rfl) dX11_attemptStep_33 (fun r8 s7 h => ?_)
  refine x_callV_i F (c_X1_attempt (xl X) (xg X) (xA X) F.2.2.1 (mo_kd _) kz_32 h) (bw_V bw_32_23 bw_33_0 bw_33_1 bw_2_13 bw_33_2) rfl cd_X1_attempt (Nat.le_of_ble_eq_true rfl) (Nat.le_of_ble_eq_true rfl) (kd_w (by decide) kz_38) rfl (cl_1 kz_38) rfl rfl (Nat.le_of_ble_eq_true rfl) dX11_attemptStep_36 (fun r10 s9 h => ?_)
  exact hret _ _ _ _ h rfl dX11_attemptStep_39
/-! J6_bitCount_0f7a4 -/
abbrev wvJ6_bitCount_0f7a4 : List Cond := Cond.code yJ6_bitCount_0f7a4 cJ6_bitCount_0f7a4 1 (some .int) :: wsL_law
theorem cd_J6_bitCount_0f7a4 : okN yJ6_bitCount_0f7a4 RJ6 1 := by unfold okN; decide +kernel
def w_J6_bitCount_0f7a4  (p0 : Int32) (σ : wS) (Q : Int32 → wS → Prop) : Prop := ∀ y1 : Int32, y1 = (p0 - (((p0).toUInt32 >>> (((1 : Int32)).toUInt32 &&& Int32.toUInt32 31)).toInt32 &&& (1431655765 : Int32))) → (∀ y2 : Int32, y2 = ((y1 &&& (858993459 : Int32)) + (((y1).toUInt32 >>> (((2 : Int32)).toUInt32 &&& Int32.toUInt32 31)).toInt32 &&& (858993459 : Int32))) → (∀ y3 : Int32, y3 = ((y2 + ((y2).toUInt32 >>> (((4 : Int32)).toUInt32 &&& Int32.toUInt32 31)).toInt32) &&& (252645135 : Int32)) → (∀ y4 : Int32, y4 = (y3 + ((y3).toUInt32 >>> (((8 : Int32)).toUInt32 &&& Int32.toUInt32 31)).toInt32) → (∀ y5 : Int32, y5 = (y4 + ((y4).toUInt32 >>> (((16 : Int32)).toUInt32 &&& Int32.toUInt32 31)).toInt32) → (Q (y5 &&& (63 : Int32)) σ)))))
set_option maxRecDepth 100000 in
set_option maxHeartbeats 4000000 in
theorem c_J6_bitCount_0f7a4 (l : Launch) (g : wG) (A : Nat → Prop) (hA : adO g A)   {p0 : Int32} {σ : wS} {Q : Int32 → wS → Prop} (h : w_J6_bitCount_0f7a4  p0 σ Q) : Mi l yJ6_bitCount_0f7a4 wvJ6_bitCount_0f7a4 0 0 g A [.int p0] σ Q := by
  refine mt_i (own := RJ6) (lv := [(0, .int p0)]) (by decide) rfl rfl hA (Nat.le_of_ble_eq_true rfl) rfl ?_
  intro X hl hg hAA F hret
  subst hl hg hAA
  unfold w_J6_bitCount_0f7a4 at h
  refine x_iload_n F dJ6_bitCount_0f7a4_0 rfl 0 rfl ?_
  refine x_iload_n F dJ6_bitCount_0f7a4_1 rfl 0 rfl ?_
  refine x_iconst (1 : Int32) F dJ6_bitCount_0f7a4_2 (by decide) ?_
  refine x_iushr F dJ6_bitCount_0f7a4_3 ?_
  refine x_ldc_w F dJ6_bitCount_0f7a4_4 (mc bw_42_19) ?_
  refine x_iand F dJ6_bitCount_0f7a4_7 ?_
  refine x_isub F dJ6_bitCount_0f7a4_8 ?_
  refine x_topi (fun y1 ey1 => ?_)
  replace h := h y1 ey1
  refine x_istore_n (lv' := [(0, .int y1)]) F dJ6_bitCount_0f7a4_9 rfl (by decide) rfl ?_
  refine x_iload_n F dJ6_bitCount_0f7a4_10 rfl 0 rfl ?_
  refine x_ldc_w F dJ6_bitCount_0f7a4_11 (mc bw_42_20) ?_
  refine x_iand F dJ6_bitCount_0f7a4_14 ?_
  refine x_iload_n F dJ6_bitCount_0f7a4_15 rfl 0 rfl ?_
  refine x_iconst (2 : Int32) F dJ6_bitCount_0f7a4_16 (by decide) ?_
  refine x_iushr F dJ6_bitCount_0f7a4_17 ?_
  refine x_ldc_w F dJ6_bitCount_0f7a4_18 (mc bw_42_20) ?_
  refine x_iand F dJ6_bitCount_0f7a4_21 ?_
  refine x_iadd F dJ6_bitCount_0f7a4_22 ?_
  refine x_topi (fun y2 ey2 => ?_)
  replace h := h y2 ey2
  refine x_istore_n (lv' := [(0, .int y2)]) F dJ6_bitCount_0f7a4_23 rfl (by decide) rfl ?_
  refine x_iload_n F dJ6_bitCount_0f7a4_24 rfl 0 rfl ?_
  refine x_iload_n F dJ6_bitCount_0f7a4_25 rfl 0 rfl ?_
  refine x_iconst (4 : Int32) F dJ6_bitCount_0f7a4_26 (by decide) ?_
  refine x_iushr F dJ6_bitCount_0f7a4_27 ?_
  refine x_iadd F dJ6_bitCount_0f7a4_28 ?_
  refine x_ldc_w F dJ6_bitCount_0f7a4_29 (mc bw_42_21) ?_
  refine x_iand F dJ6_bitCount_0f7a4_32 ?_
  refine x_topi (fun y3 ey3 => ?_)
  replace h := h y3 ey3
  refine x_istore_n (lv' := [(0, .int y3)]) F dJ6_bitCount_0f7a4_33 rfl (by decide) rfl ?_
  refine x_iload_n F dJ6_bitCount_0f7a4_34 rfl 0 rfl ?_
  refine x_iload_n F dJ6_bitCount_0f7a4_35 rfl 0 rfl ?_
  refine x_bipush (8 : Int32) F dJ6_bitCount_0f7a4_36 (by decide) ?_
  refine x_iushr F dJ6_bitCount_0f7a4_38 ?_
  refine x_iadd F dJ6_bitCount_0f7a4_39 ?_
  refine x_topi (fun y4 ey4 => ?_)
  replace h := h y4 ey4
  refine x_istore_n (lv' := [(0, .int y4)]) F dJ6_bitCount_0f7a4_40 rfl (by decide) rfl ?_
  refine x_iload_n F dJ6_bitCount_0f7a4_41 rfl 0 rfl ?_
  refine x_iload_n F dJ6_bitCount_0f7a4_42 rfl 0 rfl ?_
  refine x_bipush (16 : Int32) F dJ6_bitCount_0f7a4_43 (by decide) ?_
  refine x_iushr F dJ6_bitCount_0f7a4_45 ?_
  refine x_iadd F dJ6_bitCount_0f7a4_46 ?_
  refine x_topi (fun y5 ey5 => ?_)
  replace h := h y5 ey5
  refine x_istore_n (lv' := [(0, .int y5)]) F dJ6_bitCount_0f7a4_47 rfl (by decide) rfl ?_
  refine x_iload_n F dJ6_bitCount_0f7a4_48 rfl 0 rfl ?_
  refine x_bipush (63 : Int32) F dJ6_bitCount_0f7a4_49 (by decide) ?_
  refine x_iand F dJ6_bitCount_0f7a4_51 ?_
  exact hret _ _ _ _ h rfl dJ6_bitCount_0f7a4_52
/-! X11_run -/
abbrev wvX11_run : List Cond := Cond.code yX11_run cX11_run 6 (some .int) :: wsL_law
theorem cd_X11_run : okN yX11_run RX11 2 := by unfold okN; decide +kernel
def b_X11_run_109   (Q : Int32 → wS → Prop) (x2 : Int32) (x3 : Int32) (x4 : Int32) (σ : wS) : Prop := (¬ x2 = 0 → (w_J6_bitCount_0f7a4 x3 σ (fun r2 s1 => Q r2 s1))) ∧ (x2 = 0 → (Q x4 σ))
set_option maxRecDepth 100000 in
set_option maxHeartbeats 4000000 in
theorem wb_X11_run_109 {X : XT} {Q : Int32 → wS → Prop}  (F : Fx X cX11_run 6 RX11 wvX11_run 5 123) (hret : Ri X 6 cX11_run .int Q)    (x2 : Int32) (x3 : Int32) (x4 : Int32) (σ : wS) (h : b_X11_run_109   Q x2 x3 x4 σ) : Wx X 6 σ 109 [(2, .int x2), (3, .int x3), (4, .int x4)] [] := by
  unfold b_X11_run_109 at h
  refine x_iload_n F dX11_run_109 rfl 0 rfl ?_
  refine x_if_ne (tgt := 118) F dX11_run_110 (by decide) (fun c => ?_) (fun c => ?_)
  · replace h := h.1 c
    refine x_iload_n F dX11_run_118 rfl 1 rfl ?_
    refine x_callT_i F (c_J6_bitCount_0f7a4 (xl X) (xg X) (xA X) F.2.2.1  h) (bw_S bw_42_15 bw_42_16 bw_42_17 bw_42_18) rfl cd_J6_bitCount_0f7a4 (Nat.le_of_ble_eq_true rfl) (Nat.le_of_ble_eq_true rfl) rfl rfl (Nat.le_of_ble_eq_true rfl) dX11_run_119 (fun r2 s1 h => ?_)
    exact hret _ _ _ _ h rfl dX11_run_122
  · replace h := h.2 c
    refine x_iload F dX11_run_113 2 rfl ?_
    refine x_goto (tgt := 122) F dX11_run_115 (by decide) ?_
    exact hret _ _ _ _ h rfl dX11_run_122
def b_X11_run_103  (K52 : Int32 → Int32 → Int32 → Int32 → Int32 → wS → Prop) (Q : Int32 → wS → Prop) (x1 : Int32) (x2 : Int32) (x3 : Int32) (x4 : Int32) (x5 : Int32) (σ : wS) : Prop := ∀ y1 : Int32, y1 = (x5 + (1 : Int32)) → (K52 x1 x2 x3 x4 y1 σ)
set_option maxRecDepth 100000 in
set_option maxHeartbeats 4000000 in
theorem wb_X11_run_103 {X : XT} {Q : Int32 → wS → Prop}  (F : Fx X cX11_run 6 RX11 wvX11_run 5 123) (hret : Ri X 6 cX11_run .int Q)  {K52 : Int32 → Int32 → Int32 → Int32 → Int32 → wS → Prop} (hK52 : ∀ (x1 : Int32) (x2 : Int32) (x3 : Int32) (x4 : Int32) (x5 : Int32) (σ : wS), K52 x1 x2 x3 x4 x5 σ → Wx X 6 σ 52 [(0, .ref (ad X 0)), (1, .int x1), (2, .int x2), (3, .int x3), (4, .int x4), (5, .int x5)] []) (x1 : Int32) (x2 : Int32) (x3 : Int32) (x4 : Int32) (x5 : Int32) (σ : wS) (h : b_X11_run_103  K52 Q x1 x2 x3 x4 x5 σ) : Wx X 6 σ 103 [(0, .ref (ad X 0)), (1, .int x1), (2, .int x2), (3, .int x3), (4, .int x4), (5, .int x5)] [] := by
  unfold b_X11_run_103 at h
  obtain ⟨y1, ey1⟩ : ∃ y : Int32, y = (x5 + (1 : Int32)) := ⟨_, rfl⟩
  replace h := h y1 ey1
  refine x_iinc (q := 5) (v := y1) (lv' := [(5, .int y1), (0, .ref (ad X 0)), (1, .int x1), (2, .int x2), (3, .int x3), (4, .int x4)]) F dX11_run_103 rfl (by rw [ey1]; rfl) (by decide) rfl ?_
  refine x_goto (tgt := 52) F dX11_run_106 (by decide) ?_
  refine x_sub (lv' := [(0, .ref (ad X 0)), (1, .int x1), (2, .int x2), (3, .int x3), (4, .int x4), (5, .int y1)]) [1, 2, 3, 4, 5, 0] rfl ?_
  exact hK52 _ _ _ _ _ _ h
def l_X11_run_52   (Q : Int32 → wS → Prop) : Nat → Int32 → Int32 → Int32 → Int32 → Int32 → wS → Prop
  | 0, _, _, _, _, _, _ => False
  | n + 1, x1, x2, x3, x4, x5, σ => vp_in x1 5 ∧ (((σ.1 (19 + 2 * (x1).toNatClampNeg) 1) ≤ x5 → (b_X11_run_109   Q x2 x3 x4 σ)) ∧ (¬ (σ.1 (19 + 2 * (x1).toNatClampNeg) 1) ≤ x5 → ((¬ x4 = (-1 : Int32) → (b_X11_run_109   Q x2 x3 x4 σ)) ∧ (x4 = (-1 : Int32) → (vp_in x1 5 ∧ (w_X11_attemptStep (19 + 2 * (x1).toNatClampNeg) x5 σ (fun r4 s3 => (¬ r4 = (-1 : Int32) → (b_X11_run_103  (fun x1 x2 x3 x4 x5 σ => l_X11_run_52   Q n x1 x2 x3 x4 x5 σ) Q x1 x2 x3 x5 x5 s3)) ∧ (r4 = (-1 : Int32) → (∀ y5 : Int32, y5 = (s3.1 32 2) → (b_X11_run_103  (fun x1 x2 x3 x4 x5 σ => l_X11_run_52   Q n x1 x2 x3 x4 x5 σ) Q x1 x2 y5 x4 x5 s3))))))))))
set_option maxRecDepth 100000 in
set_option maxHeartbeats 4000000 in
theorem wl_X11_run_52 {X : XT} {Q : Int32 → wS → Prop}  (F : Fx X cX11_run 6 RX11 wvX11_run 5 123) (hret : Ri X 6 cX11_run .int Q)    : ∀ (n : Nat) (x1 : Int32) (x2 : Int32) (x3 : Int32) (x4 : Int32) (x5 : Int32) (σ : wS), l_X11_run_52   Q n x1 x2 x3 x4 x5 σ → Wx X 6 σ 52 [(0, .ref (ad X 0)), (1, .int x1), (2, .int x2), (3, .int x3), (4, .int x4), (5, .int x5)] [] := by
  intro n
  induction n with
  | zero =>
    intros
    contradiction
  | succ n ih =>
    intro x1 x2 x3 x4 x5 σ h
    simp only [l_X11_run_52] at h
    refine x_iload F dX11_run_52 5 rfl ?_
    refine x_aload_n F dX11_run_54 rfl 0 rfl ?_
    refine g_11_4 F kz_0 in_11 (mc bw_2_4) dX11_run_55 ?_
    refine x_iload_n F dX11_run_58 rfl 1 rfl ?_
    obtain ⟨hj1, h⟩ := h
    refine x_aald18 F kz_18 nz_18 hj1 dX11_run_59 ?_
    refine g_9_1 F (kd_script hj1) in_9 (mc bw_41_7) dX11_run_60 ?_
    refine x_icmp_ge (tgt := 109) F dX11_run_63 (by decide) (fun c => ?_) (fun c => ?_)
    · replace h := h.1 c
      refine x_sub (lv' := [(2, .int x2), (3, .int x3), (4, .int x4)]) [2, 3, 4] rfl ?_
      exact wb_X11_run_109 F hret   _ _ _ _ h
    · replace h := h.2 c
      refine x_iload F dX11_run_66 4 rfl ?_
      refine x_iconst (-1 : Int32) F dX11_run_68 (by decide) ?_
      refine x_icmp_ne (tgt := 109) F dX11_run_69 (by decide) (fun c => ?_) (fun c => ?_)
      · replace h := h.1 c
        refine x_sub (lv' := [(2, .int x2), (3, .int x3), (4, .int x4)]) [2, 3, 4] rfl ?_
        exact wb_X11_run_109 F hret   _ _ _ _ h
      · replace h := h.2 c
        refine x_aload_n F dX11_run_72 rfl 0 rfl ?_
        refine x_aload_n F dX11_run_73 rfl 0 rfl ?_
        refine g_11_4 F kz_0 in_11 (mc bw_2_4) dX11_run_74 ?_
        refine x_iload_n F dX11_run_77 rfl 1 rfl ?_
        obtain ⟨hj2, h⟩ := h
        refine x_aald18 F kz_18 nz_18 hj2 dX11_run_78 ?_
        refine x_iload F dX11_run_79 5 rfl ?_
        refine x_callV_i F (c_X11_attemptStep (xl X) (xg X) (xA X) F.2.2.1 (kd_script hj2) h) (bw_V bw_42_10 bw_42_11 bw_42_12 bw_1_2 bw_42_13) rfl cd_X11_attemptStep (Nat.le_of_ble_eq_true rfl) (Nat.le_of_ble_eq_true rfl) (kd_w (by decide) kz_0) rfl (cl_11 kz_0) rfl rfl (Nat.le_of_ble_eq_true rfl) dX11_run_81 (fun r4 s3 h => ?_)
        refine x_iconst (-1 : Int32) F dX11_run_84 (by decide) ?_
        refine x_icmp_ne (tgt := 99) F dX11_run_85 (by decide) (fun c => ?_) (fun c => ?_)
        · replace h := h.1 c
          refine x_iload F dX11_run_99 5 rfl ?_
          refine x_istore (lv' := [(4, .int x5), (0, .ref (ad X 0)), (1, .int x1), (2, .int x2), (3, .int x3), (5, .int x5)]) F dX11_run_101 (by decide) rfl ?_
          refine x_sub (lv' := [(0, .ref (ad X 0)), (1, .int x1), (2, .int x2), (3, .int x3), (4, .int x5), (5, .int x5)]) [1, 2, 3, 4, 0, 5] rfl ?_
          exact wb_X11_run_103 F hret  ih _ _ _ _ _ _ h
        · replace h := h.2 c
          refine x_aload_n F dX11_run_88 rfl 0 rfl ?_
          refine g_11_7 F kz_0 in_11 (mc bw_2_10) dX11_run_89 ?_
          refine g_3_2 F kz_32 in_3 (mc bw_28_22) dX11_run_92 ?_
          refine x_topi (fun y5 ey5 => ?_)
          replace h := h y5 ey5
          refine x_istore_n (lv' := [(3, .int y5), (0, .ref (ad X 0)), (1, .int x1), (2, .int x2), (4, .int x4), (5, .int x5)]) F dX11_run_95 rfl (by decide) rfl ?_
          refine x_goto (tgt := 103) F dX11_run_96 (by decide) ?_
          refine x_sub (lv' := [(0, .ref (ad X 0)), (1, .int x1), (2, .int x2), (3, .int y5), (4, .int x4), (5, .int x5)]) [1, 2, 3, 0, 4, 5] rfl ?_
          exact wb_X11_run_103 F hret  ih _ _ _ _ _ _ h
def w_X11_run  (p0 : Int32) (p1 : Int32) (σ : wS) (Q : Int32 → wS → Prop) : Prop := w_X11_isScript p0 σ (fun r2 s1 => (r2 = 0 → (Q (-1000000 : Int32) s1)) ∧ (¬ r2 = 0 → (w_X11_hasMooring  s1 (fun r4 s3 => (r4 = 0 → (Q (-1000000 : Int32) s3)) ∧ (¬ r4 = 0 → (w_X11_isWithin p1 (0 : Int32) (1 : Int32) s3 (fun r6 s5 => (¬ r6 = 0 → (w_X3_copy 32 29 s5 (fun s7 => ∀ y9 : Int32, y9 = (s7.1 29 2) → ((∃ m, l_X11_run_52   Q m p0 p1 y9 (-1 : Int32) (0 : Int32) s7))))) ∧ (r6 = 0 → (Q (-1000000 : Int32) s5)))))))))
set_option maxRecDepth 100000 in
set_option maxHeartbeats 4000000 in
theorem c_X11_run (l : Launch) (g : wG) (A : Nat → Prop) (hA : adO g A)   {p0 : Int32} {p1 : Int32} {σ : wS} {Q : Int32 → wS → Prop} (h : w_X11_run  p0 p1 σ Q) : Mi l yX11_run wvX11_run 5 123 g A [.ref (g.2.2 0), .int p0, .int p1] σ Q := by
  refine mt_i (own := RX11) (lv := [(0, .ref (g.2.2 0)), (1, .int p0), (2, .int p1)]) (by decide) rfl rfl hA (Nat.le_of_ble_eq_true rfl) rfl ?_
  intro X hl hg hAA F hret
  subst hl hg hAA
  unfold w_X11_run at h
  refine x_aload_n F dX11_run_0 rfl 0 rfl ?_
  refine x_iload_n F dX11_run_1 rfl 1 rfl ?_
  refine x_callV_i F (c_X11_isScript (xl X) (xg X) (xA X) F.2.2.1  h) (bw_V bw_41_8 bw_41_9 bw_41_10 bw_1_2 bw_41_11) rfl cd_X11_isScript (Nat.le_of_ble_eq_true rfl) (Nat.le_of_ble_eq_true rfl) (kd_w (by decide) kz_0) rfl (cl_11 kz_0) rfl rfl (Nat.le_of_ble_eq_true rfl) dX11_run_2 (fun r2 s1 h => ?_)
  refine x_if_eq (tgt := 24) F dX11_run_5 (by decide) (fun c => ?_) (fun c => ?_)
  · replace h := h.1 c
    refine x_ldc F dX11_run_24 (mc bw_25_21) ?_
    exact hret _ _ _ _ h rfl dX11_run_26
  · replace h := h.2 c
    refine x_aload_n F dX11_run_8 rfl 0 rfl ?_
    refine x_callV_i F (c_X11_hasMooring (xl X) (xg X) (xA X) F.2.2.1  h) (bw_V bw_26_1 bw_26_2 bw_26_3 bw_1_2 bw_26_4) rfl cd_X11_hasMooring (Nat.le_of_ble_eq_true rfl) (Nat.le_of_ble_eq_true rfl) (kd_w (by decide) kz_0) rfl (cl_11 kz_0) rfl rfl (Nat.le_of_ble_eq_true rfl) dX11_run_9 (fun r4 s3 h => ?_)
    refine x_if_eq (tgt := 24) F dX11_run_12 (by decide) (fun c => ?_) (fun c => ?_)
    · replace h := h.1 c
      refine x_ldc F dX11_run_24 (mc bw_25_21) ?_
      exact hret _ _ _ _ h rfl dX11_run_26
    · replace h := h.2 c
      refine x_iload_n F dX11_run_15 rfl 2 rfl ?_
      refine x_iconst (0 : Int32) F dX11_run_16 (by decide) ?_
      refine x_iconst (1 : Int32) F dX11_run_17 (by decide) ?_
      refine x_callT_i F (c_X11_isWithin (xl X) (xg X) (xA X) F.2.2.1  h) (bw_S bw_26_5 bw_26_6 bw_1_2 bw_26_7) rfl cd_X11_isWithin (Nat.le_of_ble_eq_true rfl) (Nat.le_of_ble_eq_true rfl) rfl rfl (Nat.le_of_ble_eq_true rfl) dX11_run_18 (fun r6 s5 h => ?_)
      refine x_if_ne (tgt := 27) F dX11_run_21 (by decide) (fun c => ?_) (fun c => ?_)
      · replace h := h.1 c
        refine x_aload_n F dX11_run_27 rfl 0 rfl ?_
        refine g_11_7 F kz_0 in_11 (mc bw_2_10) dX11_run_28 ?_
        refine x_aload_n F dX11_run_31 rfl 0 rfl ?_
        refine g_11_6 F kz_0 in_11 (mc bw_2_9) dX11_run_32 ?_
        refine x_callV_v F (c_X3_copy (xl X) (xg X) (xA X) F.2.2.1 kz_32 kz_29 h) (bw_V bw_22_1 bw_22_2 bw_22_3 bw_2_8 bw_22_4) rfl cd_X3_copy (Nat.le_of_ble_eq_true rfl) (Nat.le_of_ble_eq_true rfl) (kd_w (by decide) kz_32) rfl (cl_3 kz_32) rfl rfl (Nat.le_of_ble_eq_true rfl) dX11_run_35 (fun s7 h => ?_)
        refine x_aload_n F dX11_run_38 rfl 0 rfl ?_
        refine g_11_6 F kz_0 in_11 (mc bw_2_9) dX11_run_39 ?_
        refine g_3_2 F kz_29 in_3 (mc bw_28_22) dX11_run_42 ?_
        refine x_topi (fun y9 ey9 => ?_)
        replace h := h y9 ey9
        refine x_istore_n (lv' := [(3, .int y9), (0, .ref (ad X 0)), (1, .int p0), (2, .int p1)]) F dX11_run_45 rfl (by decide) rfl ?_
        refine x_iconst (-1 : Int32) F dX11_run_46 (by decide) ?_
        refine x_istore (lv' := [(4, .int (-1 : Int32)), (3, .int y9), (0, .ref (ad X 0)), (1, .int p0), (2, .int p1)]) F dX11_run_47 (by decide) rfl ?_
        refine x_iconst (0 : Int32) F dX11_run_49 (by decide) ?_
        refine x_istore (lv' := [(5, .int (0 : Int32)), (4, .int (-1 : Int32)), (3, .int y9), (0, .ref (ad X 0)), (1, .int p0), (2, .int p1)]) F dX11_run_50 (by decide) rfl ?_
        refine x_sub (lv' := [(0, .ref (ad X 0)), (1, .int p0), (2, .int p1), (3, .int y9), (4, .int (-1 : Int32)), (5, .int (0 : Int32))]) [3, 4, 5, 2, 1, 0] rfl ?_
        obtain ⟨n2, h⟩ := h
        exact wl_X11_run_52 F hret   n2 _ _ _ _ _ _ h
      · replace h := h.2 c
        refine x_ldc F dX11_run_24 (mc bw_25_21) ?_
        exact hret _ _ _ _ h rfl dX11_run_26
/-! X11_perform -/
abbrev wvX11_perform : List Cond := Cond.code yX11_perform cX11_perform 5 (some .int) :: wsL_law
theorem cd_X11_perform : okN yX11_perform RX11 1 := by unfold okN; decide +kernel
def l_X11_perform_52   (Q : Int32 → wS → Prop) : Nat → Nat → Int32 → wS → Prop
  | 0, _, _, _ => False
  | n + 1, x2, x3, σ => ((σ.1 x2 1) ≤ x3 → (w_X6_push 29 σ (fun s1 => w_X3_copy 29 32 s1 (fun s3 => Q (s3.1 x2 1) s3)))) ∧ (¬ (σ.1 x2 1) ≤ x3 → (w_X11_attemptStep x2 x3 σ (fun r6 s5 => (r6 = (-1 : Int32) → (w_X9_cell x2 x3 (0 : Int32) s5 (fun r8 s7 => w_X9_cell x2 x3 (1 : Int32) s7 (fun r10 s9 => w_X11_writeLine r8 r10 s9 (fun s11 => ∀ y13 : Int32, y13 = (x3 + (1 : Int32)) → (l_X11_perform_52   Q n x2 y13 s11)))))) ∧ (¬ r6 = (-1 : Int32) → (w_X8_begin  s5 (fun s14 => w_X8_add ((1000 : Int32) + x3) s14 (fun s16 => w_X9_cell x2 x3 (0 : Int32) s16 (fun r19 s18 => w_X11_refuse r19 r6 s18 (fun s20 => Q (-1 : Int32) s20)))))))))
set_option maxRecDepth 100000 in
set_option maxHeartbeats 4000000 in
theorem wl_X11_perform_52 {X : XT} {Q : Int32 → wS → Prop}  (F : Fx X cX11_perform 5 RX11 wvX11_perform 5 123) (hret : Ri X 5 cX11_perform .int Q)    : ∀ (n : Nat) (x2 : Nat) (k_x2 : kd x2 = 9) (x3 : Int32) (σ : wS), l_X11_perform_52   Q n x2 x3 σ → Wx X 5 σ 52 [(0, .ref (ad X 0)), (2, .ref (ad X x2)), (3, .int x3)] [] := by
  intro n
  induction n with
  | zero =>
    intros
    contradiction
  | succ n ih =>
    intro x2 k_x2 x3 σ h
    simp only [l_X11_perform_52] at h
    refine x_iload_n F dX11_perform_52 rfl 2 rfl ?_
    refine x_aload_n F dX11_perform_53 rfl 1 rfl ?_
    refine g_9_1 F k_x2 in_9 (mc bw_41_7) dX11_perform_54 ?_
    refine x_icmp_ge (tgt := 129) F dX11_perform_57 (by decide) (fun c => ?_) (fun c => ?_)
    · replace h := h.1 c
      refine x_aload_n F dX11_perform_129 rfl 0 rfl ?_
      refine g_11_12 F kz_0 in_11 (mc bw_3_3) dX11_perform_130 ?_
      refine x_aload_n F dX11_perform_133 rfl 0 rfl ?_
      refine g_11_6 F kz_0 in_11 (mc bw_2_9) dX11_perform_134 ?_
      refine x_callV_v F (c_X6_push (xl X) (xg X) (xA X) F.2.2.1 kz_29 h) (bw_V bw_34_15 bw_34_16 bw_34_17 bw_3_2 bw_34_18) rfl cd_X6_push (Nat.le_of_ble_eq_true rfl) (Nat.le_of_ble_eq_true rfl) (kd_w (by decide) kz_50) rfl (cl_6 kz_50) rfl rfl (Nat.le_of_ble_eq_true rfl) dX11_perform_137 (fun s1 h => ?_)
      refine x_aload_n F dX11_perform_140 rfl 0 rfl ?_
      refine g_11_6 F kz_0 in_11 (mc bw_2_9) dX11_perform_141 ?_
      refine x_aload_n F dX11_perform_144 rfl 0 rfl ?_
      refine g_11_7 F kz_0 in_11 (mc bw_2_10) dX11_perform_145 ?_
      refine x_callV_v F (c_X3_copy (xl X) (xg X) (xA X) F.2.2.1 kz_29 kz_32 h) (bw_V bw_22_1 bw_22_2 bw_22_3 bw_2_8 bw_22_4) rfl cd_X3_copy (Nat.le_of_ble_eq_true rfl) (Nat.le_of_ble_eq_true rfl) (kd_w (by decide) kz_29) rfl (cl_3 kz_29) rfl rfl (Nat.le_of_ble_eq_true rfl) dX11_perform_148 (fun s3 h => ?_)
      refine x_aload_n F dX11_perform_151 rfl 1 rfl ?_
      refine g_9_1 F k_x2 in_9 (mc bw_41_7) dX11_perform_152 ?_
      exact hret _ _ _ _ h rfl dX11_perform_155
    · replace h := h.2 c
      refine x_aload_n F dX11_perform_60 rfl 0 rfl ?_
      refine x_aload_n F dX11_perform_61 rfl 1 rfl ?_
      refine x_iload_n F dX11_perform_62 rfl 2 rfl ?_
      refine x_callV_i F (c_X11_attemptStep (xl X) (xg X) (xA X) F.2.2.1 k_x2 h) (bw_V bw_42_10 bw_42_11 bw_42_12 bw_1_2 bw_42_13) rfl cd_X11_attemptStep (Nat.le_of_ble_eq_true rfl) (Nat.le_of_ble_eq_true rfl) (kd_w (by decide) kz_0) rfl (cl_11 kz_0) rfl rfl (Nat.le_of_ble_eq_true rfl) dX11_perform_63 (fun r6 s5 h => ?_)
      refine x_istore (lv' := [(4, .int r6), (0, .ref (ad X 0)), (2, .ref (ad X x2)), (3, .int x3)]) F dX11_perform_66 (by decide) rfl ?_
      refine x_iload F dX11_perform_68 0 rfl ?_
      refine x_iconst (-1 : Int32) F dX11_perform_70 (by decide) ?_
      refine x_icmp_eq (tgt := 107) F dX11_perform_71 (by decide) (fun c => ?_) (fun c => ?_)
      · replace h := h.1 c
        refine x_aload_n F dX11_perform_107 rfl 1 rfl ?_
        refine x_aload_n F dX11_perform_108 rfl 2 rfl ?_
        refine x_iload_n F dX11_perform_109 rfl 3 rfl ?_
        refine x_iconst (0 : Int32) F dX11_perform_110 (by decide) ?_
        refine x_callV_i F (c_X9_cell (xl X) (xg X) (xA X) F.2.2.1 k_x2 h) (bw_V bw_42_14 bw_41_18 bw_41_19 bw_3_14 bw_41_20) rfl cd_X9_cell (Nat.le_of_ble_eq_true rfl) (Nat.le_of_ble_eq_true rfl) (kd_w (by decide) k_x2) rfl (cl_9 k_x2) rfl rfl (Nat.le_of_ble_eq_true rfl) dX11_perform_111 (fun r8 s7 h => ?_)
        refine x_aload_n F dX11_perform_114 rfl 2 rfl ?_
        refine x_iload_n F dX11_perform_115 rfl 3 rfl ?_
        refine x_iconst (1 : Int32) F dX11_perform_116 (by decide) ?_
        refine x_callV_i F (c_X9_cell (xl X) (xg X) (xA X) F.2.2.1 k_x2 h) (bw_V bw_42_14 bw_41_18 bw_41_19 bw_3_14 bw_41_20) rfl cd_X9_cell (Nat.le_of_ble_eq_true rfl) (Nat.le_of_ble_eq_true rfl) (kd_w (by decide) k_x2) rfl (cl_9 k_x2) rfl rfl (Nat.le_of_ble_eq_true rfl) dX11_perform_117 (fun r10 s9 h => ?_)
        refine x_callV_v F (c_X11_writeLine (xl X) (xg X) (xA X) F.2.2.1  h) (bw_V bw_34_2 bw_34_3 bw_34_4 bw_1_2 bw_34_5) rfl cd_X11_writeLine (Nat.le_of_ble_eq_true rfl) (Nat.le_of_ble_eq_true rfl) (kd_w (by decide) kz_0) rfl (cl_11 kz_0) rfl rfl (Nat.le_of_ble_eq_true rfl) dX11_perform_120 (fun s11 h => ?_)
        obtain ⟨y13, ey13⟩ : ∃ y : Int32, y = (x3 + (1 : Int32)) := ⟨_, rfl⟩
        replace h := h y13 ey13
        refine x_iinc (q := 3) (v := y13) (lv' := [(3, .int y13), (4, .int r6), (0, .ref (ad X 0)), (2, .ref (ad X x2))]) F dX11_perform_123 rfl (by rw [ey13]; rfl) (by decide) rfl ?_
        refine x_goto (tgt := 52) F dX11_perform_126 (by decide) ?_
        refine x_sub (lv' := [(0, .ref (ad X 0)), (2, .ref (ad X x2)), (3, .int y13)]) [2, 3, 0] rfl ?_
        exact ih _ k_x2 _ _ h
      · replace h := h.2 c
        refine x_aload_n F dX11_perform_74 rfl 1 rfl ?_
        refine g_11_13 F kz_0 in_11 (mc bw_3_7) dX11_perform_75 ?_
        refine x_callV_v F (c_X8_begin (xl X) (xg X) (xA X) F.2.2.1  h) (bw_V bw_34_23 bw_35_0 bw_35_1 bw_3_6 bw_35_2) rfl cd_X8_begin (Nat.le_of_ble_eq_true rfl) (Nat.le_of_ble_eq_true rfl) (kd_w (by decide) kz_52) rfl (cl_8 kz_52) rfl rfl (Nat.le_of_ble_eq_true rfl) dX11_perform_78 (fun s14 h => ?_)
        refine x_aload_n F dX11_perform_81 rfl 1 rfl ?_
        refine g_11_13 F kz_0 in_11 (mc bw_3_7) dX11_perform_82 ?_
        refine x_sipush (1000 : Int32) F dX11_perform_85 (by decide) ?_
        refine x_iload_n F dX11_perform_88 rfl 3 rfl ?_
        refine x_iadd F dX11_perform_89 ?_
        refine x_callV_v F (c_X8_add (xl X) (xg X) (xA X) F.2.2.1  h) (bw_V bw_35_8 bw_35_9 bw_35_10 bw_3_6 bw_35_11) rfl cd_X8_add (Nat.le_of_ble_eq_true rfl) (Nat.le_of_ble_eq_true rfl) (kd_w (by decide) kz_52) rfl (cl_8 kz_52) rfl rfl (Nat.le_of_ble_eq_true rfl) dX11_perform_90 (fun s16 h => ?_)
        refine x_aload_n F dX11_perform_93 rfl 1 rfl ?_
        refine x_aload_n F dX11_perform_94 rfl 2 rfl ?_
        refine x_iload_n F dX11_perform_95 rfl 3 rfl ?_
        refine x_iconst (0 : Int32) F dX11_perform_96 (by decide) ?_
        refine x_callV_i F (c_X9_cell (xl X) (xg X) (xA X) F.2.2.1 k_x2 h) (bw_V bw_42_14 bw_41_18 bw_41_19 bw_3_14 bw_41_20) rfl cd_X9_cell (Nat.le_of_ble_eq_true rfl) (Nat.le_of_ble_eq_true rfl) (kd_w (by decide) k_x2) rfl (cl_9 k_x2) rfl rfl (Nat.le_of_ble_eq_true rfl) dX11_perform_97 (fun r19 s18 h => ?_)
        refine x_iload F dX11_perform_100 0 rfl ?_
        refine x_callV_v F (c_X11_refuse (xl X) (xg X) (xA X) F.2.2.1  h) (bw_V bw_35_3 bw_35_4 bw_35_5 bw_1_2 bw_35_6) rfl cd_X11_refuse (Nat.le_of_ble_eq_true rfl) (Nat.le_of_ble_eq_true rfl) (kd_w (by decide) kz_0) rfl (cl_11 kz_0) rfl rfl (Nat.le_of_ble_eq_true rfl) dX11_perform_102 (fun s20 h => ?_)
        refine x_iconst (-1 : Int32) F dX11_perform_105 (by decide) ?_
        exact hret _ _ _ _ h rfl dX11_perform_106
def b_X11_perform_15   (Q : Int32 → wS → Prop)  (σ : wS) : Prop := w_X8_begin  σ (fun s1 => w_X8_close (0 : Int32) s1 (fun s3 => Q (-1 : Int32) s3))
set_option maxRecDepth 100000 in
set_option maxHeartbeats 4000000 in
theorem wb_X11_perform_15 {X : XT} {Q : Int32 → wS → Prop}  (F : Fx X cX11_perform 5 RX11 wvX11_perform 5 123) (hret : Ri X 5 cX11_perform .int Q)     (σ : wS) (h : b_X11_perform_15   Q  σ) : Wx X 5 σ 15 [(0, .ref (ad X 0))] [] := by
  unfold b_X11_perform_15 at h
  refine x_aload_n F dX11_perform_15 rfl 0 rfl ?_
  refine g_11_13 F kz_0 in_11 (mc bw_3_7) dX11_perform_16 ?_
  refine x_callV_v F (c_X8_begin (xl X) (xg X) (xA X) F.2.2.1  h) (bw_V bw_34_23 bw_35_0 bw_35_1 bw_3_6 bw_35_2) rfl cd_X8_begin (Nat.le_of_ble_eq_true rfl) (Nat.le_of_ble_eq_true rfl) (kd_w (by decide) kz_52) rfl (cl_8 kz_52) rfl rfl (Nat.le_of_ble_eq_true rfl) dX11_perform_19 (fun s1 h => ?_)
  refine x_aload_n F dX11_perform_22 rfl 0 rfl ?_
  refine g_11_13 F kz_0 in_11 (mc bw_3_7) dX11_perform_23 ?_
  refine x_iconst (0 : Int32) F dX11_perform_26 (by decide) ?_
  refine x_callV_v F (c_X8_close (xl X) (xg X) (xA X) F.2.2.1  h) (bw_V bw_35_12 bw_35_13 bw_35_14 bw_3_6 bw_35_15) rfl cd_X8_close (Nat.le_of_ble_eq_true rfl) (Nat.le_of_ble_eq_true rfl) (kd_w (by decide) kz_52) rfl (cl_8 kz_52) rfl rfl (Nat.le_of_ble_eq_true rfl) dX11_perform_27 (fun s3 h => ?_)
  refine x_iconst (-1 : Int32) F dX11_perform_30 (by decide) ?_
  exact hret _ _ _ _ h rfl dX11_perform_31
def w_X11_perform  (p0 : Int32) (σ : wS) (Q : Int32 → wS → Prop) : Prop := w_X11_isScript p0 σ (fun r2 s1 => (r2 = 0 → (b_X11_perform_15   Q  s1)) ∧ (¬ r2 = 0 → (w_X11_hasMooring  s1 (fun r4 s3 => (¬ r4 = 0 → (w_X3_copy 32 29 s3 (fun s5 => vp_in p0 5 ∧ ((∃ m, l_X11_perform_52   Q m (19 + 2 * (p0).toNatClampNeg) (0 : Int32) s5))))) ∧ (r4 = 0 → (b_X11_perform_15   Q  s3))))))
set_option maxRecDepth 100000 in
set_option maxHeartbeats 4000000 in
theorem c_X11_perform (l : Launch) (g : wG) (A : Nat → Prop) (hA : adO g A)   {p0 : Int32} {σ : wS} {Q : Int32 → wS → Prop} (h : w_X11_perform  p0 σ Q) : Mi l yX11_perform wvX11_perform 5 123 g A [.ref (g.2.2 0), .int p0] σ Q := by
  refine mt_i (own := RX11) (lv := [(0, .ref (g.2.2 0)), (1, .int p0)]) (by decide) rfl rfl hA (Nat.le_of_ble_eq_true rfl) rfl ?_
  intro X hl hg hAA F hret
  subst hl hg hAA
  unfold w_X11_perform at h
  refine x_aload_n F dX11_perform_0 rfl 0 rfl ?_
  refine x_iload_n F dX11_perform_1 rfl 1 rfl ?_
  refine x_callV_i F (c_X11_isScript (xl X) (xg X) (xA X) F.2.2.1  h) (bw_V bw_41_8 bw_41_9 bw_41_10 bw_1_2 bw_41_11) rfl cd_X11_isScript (Nat.le_of_ble_eq_true rfl) (Nat.le_of_ble_eq_true rfl) (kd_w (by decide) kz_0) rfl (cl_11 kz_0) rfl rfl (Nat.le_of_ble_eq_true rfl) dX11_perform_2 (fun r2 s1 h => ?_)
  refine x_if_eq (tgt := 15) F dX11_perform_5 (by decide) (fun c => ?_) (fun c => ?_)
  · replace h := h.1 c
    refine x_sub (lv' := [(0, .ref (ad X 0))]) [0] rfl ?_
    exact wb_X11_perform_15 F hret    _ h
  · replace h := h.2 c
    refine x_aload_n F dX11_perform_8 rfl 0 rfl ?_
    refine x_callV_i F (c_X11_hasMooring (xl X) (xg X) (xA X) F.2.2.1  h) (bw_V bw_26_1 bw_26_2 bw_26_3 bw_1_2 bw_26_4) rfl cd_X11_hasMooring (Nat.le_of_ble_eq_true rfl) (Nat.le_of_ble_eq_true rfl) (kd_w (by decide) kz_0) rfl (cl_11 kz_0) rfl rfl (Nat.le_of_ble_eq_true rfl) dX11_perform_9 (fun r4 s3 h => ?_)
    refine x_if_ne (tgt := 32) F dX11_perform_12 (by decide) (fun c => ?_) (fun c => ?_)
    · replace h := h.1 c
      refine x_aload_n F dX11_perform_32 rfl 0 rfl ?_
      refine g_11_7 F kz_0 in_11 (mc bw_2_10) dX11_perform_33 ?_
      refine x_aload_n F dX11_perform_36 rfl 0 rfl ?_
      refine g_11_6 F kz_0 in_11 (mc bw_2_9) dX11_perform_37 ?_
      refine x_callV_v F (c_X3_copy (xl X) (xg X) (xA X) F.2.2.1 kz_32 kz_29 h) (bw_V bw_22_1 bw_22_2 bw_22_3 bw_2_8 bw_22_4) rfl cd_X3_copy (Nat.le_of_ble_eq_true rfl) (Nat.le_of_ble_eq_true rfl) (kd_w (by decide) kz_32) rfl (cl_3 kz_32) rfl rfl (Nat.le_of_ble_eq_true rfl) dX11_perform_40 (fun s5 h => ?_)
      refine x_aload_n F dX11_perform_43 rfl 0 rfl ?_
      refine g_11_4 F kz_0 in_11 (mc bw_2_4) dX11_perform_44 ?_
      refine x_iload_n F dX11_perform_47 rfl 1 rfl ?_
      obtain ⟨hj7, h⟩ := h
      refine x_aald18 F kz_18 nz_18 hj7 dX11_perform_48 ?_
      refine x_astore_n (lv' := [(2, .ref (ad X (19 + 2 * (p0).toNatClampNeg))), (0, .ref (ad X 0)), (1, .int p0)]) F dX11_perform_49 rfl (by decide) rfl ?_
      refine x_iconst (0 : Int32) F dX11_perform_50 (by decide) ?_
      refine x_istore_n (lv' := [(3, .int (0 : Int32)), (2, .ref (ad X (19 + 2 * (p0).toNatClampNeg))), (0, .ref (ad X 0)), (1, .int p0)]) F dX11_perform_51 rfl (by decide) rfl ?_
      refine x_sub (lv' := [(0, .ref (ad X 0)), (2, .ref (ad X (19 + 2 * (p0).toNatClampNeg))), (3, .int (0 : Int32))]) [2, 1, 0] rfl ?_
      obtain ⟨n2, h⟩ := h
      exact wl_X11_perform_52 F hret   n2 _ (kd_script hj7) _ _ h
    · replace h := h.2 c
      refine x_sub (lv' := [(0, .ref (ad X 0))]) [0] rfl ?_
      exact wb_X11_perform_15 F hret    _ h
/-! X11_isGust -/
abbrev wvX11_isGust : List Cond := Cond.code yX11_isGust cX11_isGust 4 (some .boolean) :: wsL_law
theorem cd_X11_isGust : okN yX11_isGust RX11 3 := by unfold okN; decide +kernel
def b_X11_isGust_28   (Q : Int32 → wS → Prop)  (σ : wS) : Prop := Q (1 : Int32) σ
set_option maxRecDepth 100000 in
set_option maxHeartbeats 4000000 in
theorem wb_X11_isGust_28 {X : XT} {Q : Int32 → wS → Prop}  (F : Fx X cX11_isGust 4 RX11 wvX11_isGust 2 44) (hret : Ri X 4 cX11_isGust .boolean Q)     (σ : wS) (h : b_X11_isGust_28   Q  σ) : Wx X 4 σ 28 [] [] := by
  unfold b_X11_isGust_28 at h
  refine x_iconst (1 : Int32) F dX11_isGust_28 (by decide) ?_
  refine x_goto (tgt := 33) F dX11_isGust_29 (by decide) ?_
  exact hret _ _ _ _ h (nar01 (by decide)) dX11_isGust_33
def w_X11_isGust  (p0 : Int32) (p1 : Int32) (p2 : Int32) (σ : wS) (Q : Int32 → wS → Prop) : Prop := w_X11_hasMooring  σ (fun r2 s1 => (r2 = 0 → (Q (0 : Int32) s1)) ∧ (¬ r2 = 0 → (w_X1_isGustWithin p0 p1 p2 s1 (fun r4 s3 => (r4 = 0 → (Q (0 : Int32) s3)) ∧ (¬ r4 = 0 → ((¬ p0 = 0 → (b_X11_isGust_28   Q  s3)) ∧ (p0 = 0 → ((¬ p1 = 0 → (b_X11_isGust_28   Q  s3)) ∧ (p1 = 0 → ((p2 = 0 → (Q (0 : Int32) s3)) ∧ (¬ p2 = 0 → (b_X11_isGust_28   Q  s3))))))))))))
set_option maxRecDepth 100000 in
set_option maxHeartbeats 4000000 in
theorem c_X11_isGust (l : Launch) (g : wG) (A : Nat → Prop) (hA : adO g A)   {p0 : Int32} {p1 : Int32} {p2 : Int32} {σ : wS} {Q : Int32 → wS → Prop} (h : w_X11_isGust  p0 p1 p2 σ Q) : Mi l yX11_isGust wvX11_isGust 2 44 g A [.ref (g.2.2 0), .int p0, .int p1, .int p2] σ Q := by
  refine mt_i (own := RX11) (lv := [(0, .ref (g.2.2 0)), (1, .int p0), (2, .int p1), (3, .int p2)]) (by decide) rfl rfl hA (Nat.le_of_ble_eq_true rfl) rfl ?_
  intro X hl hg hAA F hret
  subst hl hg hAA
  unfold w_X11_isGust at h
  refine x_aload_n F dX11_isGust_0 rfl 0 rfl ?_
  refine x_callV_i F (c_X11_hasMooring (xl X) (xg X) (xA X) F.2.2.1  h) (bw_V bw_26_1 bw_26_2 bw_26_3 bw_1_2 bw_26_4) rfl cd_X11_hasMooring (Nat.le_of_ble_eq_true rfl) (Nat.le_of_ble_eq_true rfl) (kd_w (by decide) kz_0) rfl (cl_11 kz_0) rfl rfl (Nat.le_of_ble_eq_true rfl) dX11_isGust_1 (fun r2 s1 h => ?_)
  refine x_if_eq (tgt := 32) F dX11_isGust_4 (by decide) (fun c => ?_) (fun c => ?_)
  · replace h := h.1 c
    refine x_iconst (0 : Int32) F dX11_isGust_32 (by decide) ?_
    exact hret _ _ _ _ h (nar01 (by decide)) dX11_isGust_33
  · replace h := h.2 c
    refine x_iload_n F dX11_isGust_7 rfl 1 rfl ?_
    refine x_iload_n F dX11_isGust_8 rfl 2 rfl ?_
    refine x_iload_n F dX11_isGust_9 rfl 3 rfl ?_
    refine x_callT_i F (c_X1_isGustWithin (xl X) (xg X) (xA X) F.2.2.1  h) (bw_S bw_44_6 bw_33_9 bw_2_13 bw_33_10) rfl cd_X1_isGustWithin (Nat.le_of_ble_eq_true rfl) (Nat.le_of_ble_eq_true rfl) rfl rfl (Nat.le_of_ble_eq_true rfl) dX11_isGust_10 (fun r4 s3 h => ?_)
    refine x_if_eq (tgt := 32) F dX11_isGust_13 (by decide) (fun c => ?_) (fun c => ?_)
    · replace h := h.1 c
      refine x_iconst (0 : Int32) F dX11_isGust_32 (by decide) ?_
      exact hret _ _ _ _ h (nar01 (by decide)) dX11_isGust_33
    · replace h := h.2 c
      refine x_iload_n F dX11_isGust_16 rfl 1 rfl ?_
      refine x_if_ne (tgt := 28) F dX11_isGust_17 (by decide) (fun c => ?_) (fun c => ?_)
      · replace h := h.1 c
        refine x_sub (lv' := []) [] rfl ?_
        exact wb_X11_isGust_28 F hret    _ h
      · replace h := h.2 c
        refine x_iload_n F dX11_isGust_20 rfl 2 rfl ?_
        refine x_if_ne (tgt := 28) F dX11_isGust_21 (by decide) (fun c => ?_) (fun c => ?_)
        · replace h := h.1 c
          refine x_sub (lv' := []) [] rfl ?_
          exact wb_X11_isGust_28 F hret    _ h
        · replace h := h.2 c
          refine x_iload_n F dX11_isGust_24 rfl 3 rfl ?_
          refine x_if_eq (tgt := 32) F dX11_isGust_25 (by decide) (fun c => ?_) (fun c => ?_)
          · replace h := h.1 c
            refine x_iconst (0 : Int32) F dX11_isGust_32 (by decide) ?_
            exact hret _ _ _ _ h (nar01 (by decide)) dX11_isGust_33
          · replace h := h.2 c
            refine x_sub (lv' := []) [] rfl ?_
            exact wb_X11_isGust_28 F hret    _ h
/-! X11_timesStood -/
abbrev wvX11_timesStood : List Cond := Cond.code yX11_timesStood cX11_timesStood 6 (some .int) :: wsL_law
theorem cd_X11_timesStood : okN yX11_timesStood RX11 4 := by unfold okN; decide +kernel
def l_X11_timesStood_14   (Q : Int32 → wS → Prop) : Nat → Int32 → Int32 → Int32 → Int32 → Int32 → wS → Prop
  | 0, _, _, _, _, _, _ => False
  | n + 1, x1, x2, x3, x4, x5, σ => (x4 ≤ x5 → (Q x4 σ)) ∧ (¬ x4 ≤ x5 → (w_X1_attempt (mo (σ.1 0 2)) 32 (0 : Int32) x1 x2 x3 σ (fun r2 s1 => (¬ r2 = (-1 : Int32) → (Q x5 s1)) ∧ (r2 = (-1 : Int32) → (((s1.1 38 3) = 0 → (∀ y3 : Int32, y3 = (x5 + (1 : Int32)) → (l_X11_timesStood_14   Q n x1 x2 x3 x4 y3 s1))) ∧ (¬ (s1.1 38 3) = 0 → (Q x5 s1)))))))
set_option maxRecDepth 100000 in
set_option maxHeartbeats 4000000 in
theorem wl_X11_timesStood_14 {X : XT} {Q : Int32 → wS → Prop}  (F : Fx X cX11_timesStood 6 RX11 wvX11_timesStood 4 101) (hret : Ri X 6 cX11_timesStood .int Q)    : ∀ (n : Nat) (x1 : Int32) (x2 : Int32) (x3 : Int32) (x4 : Int32) (x5 : Int32) (σ : wS), l_X11_timesStood_14   Q n x1 x2 x3 x4 x5 σ → Wx X 6 σ 14 [(0, .ref (ad X 0)), (1, .int x1), (2, .int x2), (3, .int x3), (4, .int x4), (5, .int x5)] [] := by
  intro n
  induction n with
  | zero =>
    intros
    contradiction
  | succ n ih =>
    intro x1 x2 x3 x4 x5 σ h
    simp only [l_X11_timesStood_14] at h
    refine x_iload F dX11_timesStood_14 5 rfl ?_
    refine x_iload F dX11_timesStood_16 4 rfl ?_
    refine x_icmp_ge (tgt := 63) F dX11_timesStood_18 (by decide) (fun c => ?_) (fun c => ?_)
    · replace h := h.1 c
      refine x_iload F dX11_timesStood_63 4 rfl ?_
      exact hret _ _ _ _ h rfl dX11_timesStood_65
    · replace h := h.2 c
      refine x_aload_n F dX11_timesStood_21 rfl 0 rfl ?_
      refine g_11_8 F kz_0 in_11 (mc bw_2_14) dX11_timesStood_22 ?_
      refine x_aload_n F dX11_timesStood_25 rfl 0 rfl ?_
      refine g_11_2 F kz_0 in_11 (mc bw_2_1) dX11_timesStood_26 ?_
      refine x_aload_n F dX11_timesStood_29 rfl 0 rfl ?_
      refine g_11_7 F kz_0 in_11 (mc bw_2_10) dX11_timesStood_30 ?_
      refine x_iconst (0 : Int32) F dX11_timesStood_33 (by decide) ?_
      refine x_iload_n F dX11_timesStood_34 rfl 1 rfl ?_
      refine x_iload_n F dX11_timesStood_35 rfl 2 rfl ?_
      refine x_iload_n F dX11_timesStood_36 rfl 3 rfl ?_
      refine x_callV_i F (c_X1_attempt (xl X) (xg X) (xA X) F.2.2.1 (mo_kd _) kz_32 h) (bw_V bw_32_23 bw_33_0 bw_33_1 bw_2_13 bw_33_2) rfl cd_X1_attempt (Nat.le_of_ble_eq_true rfl) (Nat.le_of_ble_eq_true rfl) (kd_w (by decide) kz_38) rfl (cl_1 kz_38) rfl rfl (Nat.le_of_ble_eq_true rfl) dX11_timesStood_37 (fun r2 s1 h => ?_)
      refine x_iconst (-1 : Int32) F dX11_timesStood_40 (by decide) ?_
      refine x_icmp_ne (tgt := 54) F dX11_timesStood_41 (by decide) (fun c => ?_) (fun c => ?_)
      · replace h := h.1 c
        refine x_iload F dX11_timesStood_54 5 rfl ?_
        exact hret _ _ _ _ h rfl dX11_timesStood_56
      · replace h := h.2 c
        refine x_aload_n F dX11_timesStood_44 rfl 0 rfl ?_
        refine g_11_8 F kz_0 in_11 (mc bw_2_14) dX11_timesStood_45 ?_
        refine g_1_3 F kz_38 in_1 (mc bw_32_18) dX11_timesStood_48 ?_
        refine x_if_eq (tgt := 57) F dX11_timesStood_51 (by decide) (fun c => ?_) (fun c => ?_)
        · replace h := h.1 c
          obtain ⟨y3, ey3⟩ : ∃ y : Int32, y = (x5 + (1 : Int32)) := ⟨_, rfl⟩
          replace h := h y3 ey3
          refine x_iinc (q := 5) (v := y3) (lv' := [(5, .int y3), (0, .ref (ad X 0)), (1, .int x1), (2, .int x2), (3, .int x3), (4, .int x4)]) F dX11_timesStood_57 rfl (by rw [ey3]; rfl) (by decide) rfl ?_
          refine x_goto (tgt := 14) F dX11_timesStood_60 (by decide) ?_
          refine x_sub (lv' := [(0, .ref (ad X 0)), (1, .int x1), (2, .int x2), (3, .int x3), (4, .int x4), (5, .int y3)]) [1, 2, 3, 4, 5, 0] rfl ?_
          exact ih _ _ _ _ _ _ h
        · replace h := h.2 c
          refine x_iload F dX11_timesStood_54 5 rfl ?_
          exact hret _ _ _ _ h rfl dX11_timesStood_56
def w_X11_timesStood  (p0 : Int32) (p1 : Int32) (p2 : Int32) (p3 : Int32) (σ : wS) (Q : Int32 → wS → Prop) : Prop := w_X3_copy 32 29 σ (fun s1 => (∃ m, l_X11_timesStood_14   Q m p0 p1 p2 p3 (0 : Int32) s1))
set_option maxRecDepth 100000 in
set_option maxHeartbeats 4000000 in
theorem c_X11_timesStood (l : Launch) (g : wG) (A : Nat → Prop) (hA : adO g A)   {p0 : Int32} {p1 : Int32} {p2 : Int32} {p3 : Int32} {σ : wS} {Q : Int32 → wS → Prop} (h : w_X11_timesStood  p0 p1 p2 p3 σ Q) : Mi l yX11_timesStood wvX11_timesStood 4 101 g A [.ref (g.2.2 0), .int p0, .int p1, .int p2, .int p3] σ Q := by
  refine mt_i (own := RX11) (lv := [(0, .ref (g.2.2 0)), (1, .int p0), (2, .int p1), (3, .int p2), (4, .int p3)]) (by decide) rfl rfl hA (Nat.le_of_ble_eq_true rfl) rfl ?_
  intro X hl hg hAA F hret
  subst hl hg hAA
  unfold w_X11_timesStood at h
  refine x_aload_n F dX11_timesStood_0 rfl 0 rfl ?_
  refine g_11_7 F kz_0 in_11 (mc bw_2_10) dX11_timesStood_1 ?_
  refine x_aload_n F dX11_timesStood_4 rfl 0 rfl ?_
  refine g_11_6 F kz_0 in_11 (mc bw_2_9) dX11_timesStood_5 ?_
  refine x_callV_v F (c_X3_copy (xl X) (xg X) (xA X) F.2.2.1 kz_32 kz_29 h) (bw_V bw_22_1 bw_22_2 bw_22_3 bw_2_8 bw_22_4) rfl cd_X3_copy (Nat.le_of_ble_eq_true rfl) (Nat.le_of_ble_eq_true rfl) (kd_w (by decide) kz_32) rfl (cl_3 kz_32) rfl rfl (Nat.le_of_ble_eq_true rfl) dX11_timesStood_8 (fun s1 h => ?_)
  refine x_iconst (0 : Int32) F dX11_timesStood_11 (by decide) ?_
  refine x_istore (lv' := [(5, .int (0 : Int32)), (0, .ref (ad X 0)), (1, .int p0), (2, .int p1), (3, .int p2), (4, .int p3)]) F dX11_timesStood_12 (by decide) rfl ?_
  refine x_sub (lv' := [(0, .ref (ad X 0)), (1, .int p0), (2, .int p1), (3, .int p2), (4, .int p3), (5, .int (0 : Int32))]) [1, 2, 3, 4, 5, 0] rfl ?_
  obtain ⟨n2, h⟩ := h
  exact wl_X11_timesStood_14 F hret   n2 _ _ _ _ _ _ h
/-! X11_stand -/
abbrev wvX11_stand : List Cond := Cond.code yX11_stand cX11_stand 6 (some .int) :: wsL_law
theorem cd_X11_stand : okN yX11_stand RX11 4 := by unfold okN; decide +kernel
def w_X11_stand  (p0 : Int32) (p1 : Int32) (p2 : Int32) (p3 : Int32) (σ : wS) (Q : Int32 → wS → Prop) : Prop := w_X11_isGust p0 p1 p2 σ (fun r2 s1 => (r2 = 0 → (Q (-1000000 : Int32) s1)) ∧ (¬ r2 = 0 → (w_X11_isWithin p3 (0 : Int32) (1 : Int32) s1 (fun r4 s3 => (¬ r4 = 0 → (w_X11_timesStood p0 p1 p2 (60 : Int32) s3 (fun r6 s5 => (¬ p3 = 0 → (w_X1_firstBroken  s5 (fun r8 s7 => Q r8 s7))) ∧ (p3 = 0 → (Q r6 s5))))) ∧ (r4 = 0 → (Q (-1000000 : Int32) s3))))))
set_option maxRecDepth 100000 in
set_option maxHeartbeats 4000000 in
theorem c_X11_stand (l : Launch) (g : wG) (A : Nat → Prop) (hA : adO g A)   {p0 : Int32} {p1 : Int32} {p2 : Int32} {p3 : Int32} {σ : wS} {Q : Int32 → wS → Prop} (h : w_X11_stand  p0 p1 p2 p3 σ Q) : Mi l yX11_stand wvX11_stand 5 126 g A [.ref (g.2.2 0), .int p0, .int p1, .int p2, .int p3] σ Q := by
  refine mt_i (own := RX11) (lv := [(0, .ref (g.2.2 0)), (1, .int p0), (2, .int p1), (3, .int p2), (4, .int p3)]) (by decide) rfl rfl hA (Nat.le_of_ble_eq_true rfl) rfl ?_
  intro X hl hg hAA F hret
  subst hl hg hAA
  unfold w_X11_stand at h
  refine x_aload_n F dX11_stand_0 rfl 0 rfl ?_
  refine x_iload_n F dX11_stand_1 rfl 1 rfl ?_
  refine x_iload_n F dX11_stand_2 rfl 2 rfl ?_
  refine x_iload_n F dX11_stand_3 rfl 3 rfl ?_
  refine x_callV_i F (c_X11_isGust (xl X) (xg X) (xA X) F.2.2.1  h) (bw_V bw_44_2 bw_44_3 bw_44_4 bw_1_2 bw_44_5) rfl cd_X11_isGust (Nat.le_of_ble_eq_true rfl) (Nat.le_of_ble_eq_true rfl) (kd_w (by decide) kz_0) rfl (cl_11 kz_0) rfl rfl (Nat.le_of_ble_eq_true rfl) dX11_stand_4 (fun r2 s1 h => ?_)
  refine x_if_eq (tgt := 20) F dX11_stand_7 (by decide) (fun c => ?_) (fun c => ?_)
  · replace h := h.1 c
    refine x_ldc F dX11_stand_20 (mc bw_25_21) ?_
    exact hret _ _ _ _ h rfl dX11_stand_22
  · replace h := h.2 c
    refine x_iload F dX11_stand_10 4 rfl ?_
    refine x_iconst (0 : Int32) F dX11_stand_12 (by decide) ?_
    refine x_iconst (1 : Int32) F dX11_stand_13 (by decide) ?_
    refine x_callT_i F (c_X11_isWithin (xl X) (xg X) (xA X) F.2.2.1  h) (bw_S bw_26_5 bw_26_6 bw_1_2 bw_26_7) rfl cd_X11_isWithin (Nat.le_of_ble_eq_true rfl) (Nat.le_of_ble_eq_true rfl) rfl rfl (Nat.le_of_ble_eq_true rfl) dX11_stand_14 (fun r4 s3 h => ?_)
    refine x_if_ne (tgt := 23) F dX11_stand_17 (by decide) (fun c => ?_) (fun c => ?_)
    · replace h := h.1 c
      refine x_aload_n F dX11_stand_23 rfl 0 rfl ?_
      refine x_iload_n F dX11_stand_24 rfl 1 rfl ?_
      refine x_iload_n F dX11_stand_25 rfl 2 rfl ?_
      refine x_iload_n F dX11_stand_26 rfl 3 rfl ?_
      refine x_bipush (60 : Int32) F dX11_stand_27 (by decide) ?_
      refine x_callV_i F (c_X11_timesStood (xl X) (xg X) (xA X) F.2.2.1  h) (bw_V bw_44_7 bw_44_8 bw_44_9 bw_1_2 bw_44_10) rfl cd_X11_timesStood (Nat.le_of_ble_eq_true rfl) (Nat.le_of_ble_eq_true rfl) (kd_w (by decide) kz_0) rfl (cl_11 kz_0) rfl rfl (Nat.le_of_ble_eq_true rfl) dX11_stand_29 (fun r6 s5 h => ?_)
      refine x_istore (lv' := [(5, .int r6), (0, .ref (ad X 0)), (1, .int p0), (2, .int p1), (3, .int p2), (4, .int p3)]) F dX11_stand_32 (by decide) rfl ?_
      refine x_iload F dX11_stand_34 5 rfl ?_
      refine x_if_ne (tgt := 44) F dX11_stand_36 (by decide) (fun c => ?_) (fun c => ?_)
      · replace h := h.1 c
        refine x_aload_n F dX11_stand_44 rfl 1 rfl ?_
        refine g_11_8 F kz_0 in_11 (mc bw_2_14) dX11_stand_45 ?_
        refine x_callV_i F (c_X1_firstBroken (xl X) (xg X) (xA X) F.2.2.1  h) (bw_V bw_44_11 bw_44_12 bw_44_13 bw_2_13 bw_44_14) rfl cd_X1_firstBroken (Nat.le_of_ble_eq_true rfl) (Nat.le_of_ble_eq_true rfl) (kd_w (by decide) kz_38) rfl (cl_1 kz_38) rfl rfl (Nat.le_of_ble_eq_true rfl) dX11_stand_48 (fun r8 s7 h => ?_)
        exact hret _ _ _ _ h rfl dX11_stand_51
      · replace h := h.2 c
        refine x_iload F dX11_stand_39 0 rfl ?_
        refine x_goto (tgt := 51) F dX11_stand_41 (by decide) ?_
        exact hret _ _ _ _ h rfl dX11_stand_51
    · replace h := h.2 c
      refine x_ldc F dX11_stand_20 (mc bw_25_21) ?_
      exact hret _ _ _ _ h rfl dX11_stand_22
