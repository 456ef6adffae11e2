/-! X11_back -/
abbrev wvX11_back : List Cond := Cond.code yX11_back cX11_back 2 (some .int) :: wsL_law
theorem cd_X11_back : okN yX11_back RX11 0 := by unfold okN; decide +kernel
def b_X11_back_59   (Q : Int32 → wS → Prop)  (σ : wS) : Prop := w_X6_clear  σ (fun s1 => Q (s1.1 29 2) s1)
set_option maxRecDepth 100000 in
set_option maxHeartbeats 4000000 in
theorem wb_X11_back_59 {X : XT} {Q : Int32 → wS → Prop}  (F : Fx X cX11_back 2 RX11 wvX11_back 2 61) (hret : Ri X 2 cX11_back .int Q)     (σ : wS) (h : b_X11_back_59   Q  σ) : Wx X 2 σ 59 [(0, .ref (ad X 0))] [] := by
  unfold b_X11_back_59 at h
  refine x_aload_n F dX11_back_59 rfl 0 rfl ?_
  refine g_11_12 F kz_0 in_11 (mc bw_3_3) dX11_back_60 ?_
  refine x_callV_v F (c_X6_clear (xl X) (xg X) (xA X) F.2.2.1  h) (bw_V bw_22_5 bw_22_6 bw_22_7 bw_3_2 bw_22_8) rfl cd_X6_clear (Nat.le_of_ble_eq_true rfl) (Nat.le_of_ble_eq_true rfl) (kd_w (by decide) kz_50) rfl (cl_6 kz_50) rfl rfl (Nat.le_of_ble_eq_true rfl) dX11_back_63 (fun s1 h => ?_)
  refine x_aload_n F dX11_back_66 rfl 0 rfl ?_
  refine g_11_6 F kz_0 in_11 (mc bw_2_9) dX11_back_67 ?_
  refine g_3_2 F kz_29 in_3 (mc bw_28_22) dX11_back_70 ?_
  exact hret _ _ _ _ h rfl dX11_back_73
def l_X11_back_22   (Q : Int32 → wS → Prop) : Nat → Int32 → wS → Prop
  | 0, _, _ => False
  | n + 1, x1, σ => ((σ.1 35 7) ≤ x1 → (b_X11_back_59   Q  σ)) ∧ (¬ (σ.1 35 7) ≤ x1 → (((60 : Int32) ≤ x1 → (b_X11_back_59   Q  σ)) ∧ (¬ (60 : Int32) ≤ x1 → (vp_in x1 60 ∧ (w_X4_putLine x1 (σ.1 55 (x1).toNatClampNeg) σ (fun s1 => ∀ y3 : Int32, y3 = (x1 + (1 : Int32)) → (l_X11_back_22   Q n y3 s1)))))))
set_option maxRecDepth 100000 in
set_option maxHeartbeats 4000000 in
theorem wl_X11_back_22 {X : XT} {Q : Int32 → wS → Prop}  (F : Fx X cX11_back 2 RX11 wvX11_back 2 61) (hret : Ri X 2 cX11_back .int Q)    : ∀ (n : Nat) (x1 : Int32) (σ : wS), l_X11_back_22   Q n x1 σ → Wx X 2 σ 22 [(0, .ref (ad X 0)), (1, .int x1)] [] := by
  intro n
  induction n with
  | zero =>
    intros
    contradiction
  | succ n ih =>
    intro x1 σ h
    simp only [l_X11_back_22] at h
    refine x_iload_n F dX11_back_22 rfl 1 rfl ?_
    refine x_aload_n F dX11_back_23 rfl 0 rfl ?_
    refine g_11_14 F kz_0 in_11 (mc bw_3_8) dX11_back_24 ?_
    refine g_3_7 F kz_35 in_3 (mc bw_34_6) dX11_back_27 ?_
    refine x_icmp_ge (tgt := 59) F dX11_back_30 (by decide) (fun c => ?_) (fun c => ?_)
    · replace h := h.1 c
      refine x_sub (lv' := [(0, .ref (ad X 0))]) [0] rfl ?_
      exact wb_X11_back_59 F hret    _ h
    · replace h := h.2 c
      refine x_iload_n F dX11_back_33 rfl 1 rfl ?_
      refine x_bipush (60 : Int32) F dX11_back_34 (by decide) ?_
      refine x_icmp_ge (tgt := 59) F dX11_back_36 (by decide) (fun c => ?_) (fun c => ?_)
      · replace h := h.1 c
        refine x_sub (lv' := [(0, .ref (ad X 0))]) [0] rfl ?_
        exact wb_X11_back_59 F hret    _ h
      · replace h := h.2 c
        refine x_aload_n F dX11_back_39 rfl 0 rfl ?_
        refine g_11_11 F kz_0 in_11 (mc bw_2_23) dX11_back_40 ?_
        refine x_iload_n F dX11_back_43 rfl 1 rfl ?_
        refine x_aload_n F dX11_back_44 rfl 0 rfl ?_
        refine g_11_15 F kz_0 in_11 (mc bw_3_10) dX11_back_45 ?_
        refine x_iload_n F dX11_back_48 rfl 1 rfl ?_
        obtain ⟨hj, h⟩ := h
        refine x_iald F kz_55 nz_55 hj dX11_back_49 ?_
        refine x_callV_v F (c_X4_putLine (xl X) (xg X) (xA X) F.2.2.1  h) (bw_V bw_54_14 bw_34_12 bw_34_13 bw_2_22 bw_34_14) rfl cd_X4_putLine (Nat.le_of_ble_eq_true rfl) (Nat.le_of_ble_eq_true rfl) (kd_w (by decide) kz_48) rfl (cl_4 kz_48) rfl rfl (Nat.le_of_ble_eq_true rfl) dX11_back_50 (fun s1 h => ?_)
        obtain ⟨y3, ey3⟩ : ∃ y : Int32, y = (x1 + (1 : Int32)) := ⟨_, rfl⟩
        replace h := h y3 ey3
        refine x_iinc (q := 1) (v := y3) (lv' := [(1, .int y3), (0, .ref (ad X 0))]) F dX11_back_53 rfl (by rw [ey3]; rfl) (by decide) rfl ?_
        refine x_goto (tgt := 22) F dX11_back_56 (by decide) ?_
        refine x_sub (lv' := [(0, .ref (ad X 0)), (1, .int y3)]) [1, 0] rfl ?_
        exact ih _ _ h
def w_X11_back   (σ : wS) (Q : Int32 → wS → Prop) : Prop := (¬ (σ.1 0 16) = 0 → (w_X3_copy 29 35 σ (fun s1 => (∃ m, l_X11_back_22   Q m (0 : Int32) s1)))) ∧ ((σ.1 0 16) = 0 → (Q (-1 : Int32) σ))
set_option maxRecDepth 100000 in
set_option maxHeartbeats 4000000 in
theorem c_X11_back (l : Launch) (g : wG) (A : Nat → Prop) (hA : adO g A)    {σ : wS} {Q : Int32 → wS → Prop} (h : w_X11_back   σ Q) : Mi l yX11_back wvX11_back 2 61 g A [.ref (g.2.2 0)] σ Q := by
  refine mt_i (own := RX11) (lv := [(0, .ref (g.2.2 0))]) (by decide) rfl rfl hA (Nat.le_of_ble_eq_true rfl) rfl ?_
  intro X hl hg hAA F hret
  subst hl hg hAA
  unfold w_X11_back at h
  refine x_aload_n F dX11_back_0 rfl 0 rfl ?_
  refine g_11_16 F kz_0 in_11 (mc bw_3_11) dX11_back_1 ?_
  refine x_if_ne (tgt := 9) F dX11_back_4 (by decide) (fun c => ?_) (fun c => ?_)
  · replace h := h.1 c
    refine x_aload_n F dX11_back_9 rfl 0 rfl ?_
    refine g_11_6 F kz_0 in_11 (mc bw_2_9) dX11_back_10 ?_
    refine x_aload_n F dX11_back_13 rfl 0 rfl ?_
    refine g_11_14 F kz_0 in_11 (mc bw_3_8) dX11_back_14 ?_
    refine x_callV_v F (c_X3_copy (xl X) (xg X) (xA X) F.2.2.1 kz_29 kz_35 h) (bw_V bw_22_1 bw_22_2 bw_22_3 bw_2_8 bw_22_4) rfl cd_X3_copy (Nat.le_of_ble_eq_true rfl) (Nat.le_of_ble_eq_true rfl) (kd_w (by decide) kz_29) rfl (cl_3 kz_29) rfl rfl (Nat.le_of_ble_eq_true rfl) dX11_back_17 (fun s1 h => ?_)
    refine x_iconst (0 : Int32) F dX11_back_20 (by decide) ?_
    refine x_istore_n (lv' := [(1, .int (0 : Int32)), (0, .ref (ad X 0))]) F dX11_back_21 rfl (by decide) rfl ?_
    refine x_sub (lv' := [(0, .ref (ad X 0)), (1, .int (0 : Int32))]) [1, 0] rfl ?_
    obtain ⟨n2, h⟩ := h
    exact wl_X11_back_22 F hret   n2 _ _ h
  · replace h := h.2 c
    refine x_iconst (-1 : Int32) F dX11_back_7 (by decide) ?_
    exact hret _ _ _ _ h rfl dX11_back_8
/-! X12_thrown -/
abbrev wvX12_thrown : List Cond := Cond.code yX12_thrown cX12_thrown 1 (some .int) :: wsL_law
theorem cd_X12_thrown : okN yX12_thrown RX12 0 := by unfold okN; decide +kernel
def w_X12_thrown   (σ : wS) (Q : Int32 → wS → Prop) : Prop := Q (σ.1 176 0) σ
set_option maxRecDepth 100000 in
set_option maxHeartbeats 4000000 in
theorem c_X12_thrown (l : Launch) (g : wG) (A : Nat → Prop) (hA : adO g A)    {σ : wS} {Q : Int32 → wS → Prop} (h : w_X12_thrown   σ Q) : Mi l yX12_thrown wvX12_thrown 0 0 g A [.ref (g.2.2 176)] σ Q := by
  refine mt_i (own := RX12) (lv := [(0, .ref (g.2.2 176))]) (by decide) rfl rfl hA (Nat.le_of_ble_eq_true rfl) rfl ?_
  intro X hl hg hAA F hret
  subst hl hg hAA
  unfold w_X12_thrown at h
  refine x_aload_n F dX12_thrown_0 rfl 0 rfl ?_
  refine g_12_0 F kz_176 in_12 (mc bw_8_21) dX12_thrown_1 ?_
  exact hret _ _ _ _ h rfl dX12_thrown_4
/-! X12_isIn -/
abbrev wvX12_isIn : List Cond := Cond.code yX12_isIn cX12_isIn 6 (some .boolean) :: wsL_law
theorem cd_X12_isIn : okN yX12_isIn RX12 3 := by unfold okN; decide +kernel
def w_X12_isIn  (p0 : Int64) (p1 : Int64) (p2 : Int64) (σ : wS) (Q : Int32 → wS → Prop) : Prop := ((lg_cmp p0 p1) < 0 → (Q (0 : Int32) σ)) ∧ (¬ (lg_cmp p0 p1) < 0 → ((0 < (lg_cmp p0 p2) → (Q (0 : Int32) σ)) ∧ (¬ 0 < (lg_cmp p0 p2) → (Q (1 : Int32) σ))))
set_option maxRecDepth 100000 in
set_option maxHeartbeats 4000000 in
theorem c_X12_isIn (l : Launch) (g : wG) (A : Nat → Prop) (hA : adO g A)   {p0 : Int64} {p1 : Int64} {p2 : Int64} {σ : wS} {Q : Int32 → wS → Prop} (h : w_X12_isIn  p0 p1 p2 σ Q) : Mi l yX12_isIn wvX12_isIn 0 0 g A [.long p0, .long p1, .long p2] σ Q := by
  refine mt_i (own := RX12) (lv := [(0, .long p0), (2, .long p1), (4, .long p2)]) (by decide) rfl rfl hA (Nat.le_of_ble_eq_true rfl) rfl ?_
  intro X hl hg hAA F hret
  subst hl hg hAA
  unfold w_X12_isIn at h
  refine x_lload_n F dX12_isIn_0 rfl 0 rfl ?_
  refine x_lload_n F dX12_isIn_1 rfl 1 rfl ?_
  refine x_lcmp F dX12_isIn_2 ?_
  refine x_if_lt (tgt := 17) F dX12_isIn_3 (by decide) (fun c => ?_) (fun c => ?_)
  · replace h := h.1 c
    refine x_iconst (0 : Int32) F dX12_isIn_17 (by decide) ?_
    exact hret _ _ _ _ h (nar01 (by decide)) dX12_isIn_18
  · replace h := h.2 c
    refine x_lload_n F dX12_isIn_6 rfl 0 rfl ?_
    refine x_lload F dX12_isIn_7 2 rfl ?_
    refine x_lcmp F dX12_isIn_9 ?_
    refine x_if_gt (tgt := 17) F dX12_isIn_10 (by decide) (fun c => ?_) (fun c => ?_)
    · replace h := h.1 c
      refine x_iconst (0 : Int32) F dX12_isIn_17 (by decide) ?_
      exact hret _ _ _ _ h (nar01 (by decide)) dX12_isIn_18
    · replace h := h.2 c
      refine x_iconst (1 : Int32) F dX12_isIn_13 (by decide) ?_
      refine x_goto (tgt := 18) F dX12_isIn_14 (by decide) ?_
      exact hret _ _ _ _ h (nar01 (by decide)) dX12_isIn_18
/-! X12_has -/
abbrev wvX12_has : List Cond := Cond.code yX12_has cX12_has 2 (some .boolean) :: wsL_law
theorem cd_X12_has : okN yX12_has RX12 2 := by unfold okN; decide +kernel
def w_X12_has  (p0 : Int32) (p1 : Int32) (σ : wS) (Q : Int32 → wS → Prop) : Prop := (¬ ((p0 >>> (p1 &&& 31)) &&& (1 : Int32)) = (1 : Int32) → (Q (0 : Int32) σ)) ∧ (((p0 >>> (p1 &&& 31)) &&& (1 : Int32)) = (1 : Int32) → (Q (1 : Int32) σ))
set_option maxRecDepth 100000 in
set_option maxHeartbeats 4000000 in
theorem c_X12_has (l : Launch) (g : wG) (A : Nat → Prop) (hA : adO g A)   {p0 : Int32} {p1 : Int32} {σ : wS} {Q : Int32 → wS → Prop} (h : w_X12_has  p0 p1 σ Q) : Mi l yX12_has wvX12_has 0 0 g A [.int p0, .int p1] σ Q := by
  refine mt_i (own := RX12) (lv := [(0, .int p0), (1, .int p1)]) (by decide) rfl rfl hA (Nat.le_of_ble_eq_true rfl) rfl ?_
  intro X hl hg hAA F hret
  subst hl hg hAA
  unfold w_X12_has at h
  refine x_iload_n F dX12_has_0 rfl 0 rfl ?_
  refine x_iload_n F dX12_has_1 rfl 1 rfl ?_
  refine x_ishr F dX12_has_2 ?_
  refine x_iconst (1 : Int32) F dX12_has_3 (by decide) ?_
  refine x_iand F dX12_has_4 ?_
  refine x_iconst (1 : Int32) F dX12_has_5 (by decide) ?_
  refine x_icmp_ne (tgt := 13) F dX12_has_6 (by decide) (fun c => ?_) (fun c => ?_)
  · replace h := h.1 c
    refine x_iconst (0 : Int32) F dX12_has_13 (by decide) ?_
    exact hret _ _ _ _ h (nar01 (by decide)) dX12_has_14
  · replace h := h.2 c
    refine x_iconst (1 : Int32) F dX12_has_9 (by decide) ?_
    refine x_goto (tgt := 14) F dX12_has_10 (by decide) ?_
    exact hret _ _ _ _ h (nar01 (by decide)) dX12_has_14
/-! X12_bytesOf -/
abbrev wvX12_bytesOf : List Cond := Cond.code yX12_bytesOf cX12_bytesOf 3 (some .int) :: wsL_law
theorem cd_X12_bytesOf : okN yX12_bytesOf RX12 1 := by unfold okN; decide +kernel
def b_X12_bytesOf_28  (K4 : Int32 → Int32 → Int32 → wS → Prop) (Q : Int32 → wS → Prop) (x0 : Int32) (x2 : Int32) (z0 : Int32) (z1 : Int32) (σ : wS) : Prop := ∀ y1 : Int32, y1 = (z1 + z0) → (∀ y2 : Int32, y2 = (x2 + (1 : Int32)) → (K4 x0 y1 y2 σ))
set_option maxRecDepth 100000 in
set_option maxHeartbeats 4000000 in
theorem wb_X12_bytesOf_28 {X : XT} {Q : Int32 → wS → Prop}  (F : Fx X cX12_bytesOf 3 RX12 wvX12_bytesOf 0 0) (hret : Ri X 3 cX12_bytesOf .int Q)  {K4 : Int32 → Int32 → Int32 → wS → Prop} (hK4 : ∀ (x0 : Int32) (x1 : Int32) (x2 : Int32) (σ : wS), K4 x0 x1 x2 σ → Wx X 3 σ 4 [(0, .int x0), (1, .int x1), (2, .int x2)] []) (x0 : Int32) (x2 : Int32) (z0 : Int32) (z1 : Int32) (σ : wS) (h : b_X12_bytesOf_28  K4 Q x0 x2 z0 z1 σ) : Wx X 3 σ 28 [(0, .int x0), (2, .int x2)] [.int z0, .int z1] := by
  unfold b_X12_bytesOf_28 at h
  refine x_iadd F dX12_bytesOf_28 ?_
  refine x_topi (fun y1 ey1 => ?_)
  replace h := h y1 ey1
  refine x_istore_n (lv' := [(1, .int y1), (0, .int x0), (2, .int x2)]) F dX12_bytesOf_29 rfl (by decide) rfl ?_
  obtain ⟨y2, ey2⟩ : ∃ y : Int32, y = (x2 + (1 : Int32)) := ⟨_, rfl⟩
  replace h := h y2 ey2
  refine x_iinc (q := 2) (v := y2) (lv' := [(2, .int y2), (1, .int y1), (0, .int x0)]) F dX12_bytesOf_30 rfl (by rw [ey2]; rfl) (by decide) rfl ?_
  refine x_goto (tgt := 4) F dX12_bytesOf_33 (by decide) ?_
  refine x_sub (lv' := [(0, .int x0), (1, .int y1), (2, .int y2)]) [2, 1, 0] rfl ?_
  exact hK4 _ _ _ _ h
def l_X12_bytesOf_4   (Q : Int32 → wS → Prop) : Nat → Int32 → Int32 → Int32 → wS → Prop
  | 0, _, _, _, _ => False
  | n + 1, x0, x1, x2, σ => ((4 : Int32) ≤ x2 → (Q x1 σ)) ∧ (¬ (4 : Int32) ≤ x2 → ((¬ ((x0 >>> (((8 : Int32) * x2) &&& 31)) &&& (255 : Int32)) = 0 → (b_X12_bytesOf_28  (fun x0 x1 x2 σ => l_X12_bytesOf_4   Q n x0 x1 x2 σ) Q x0 x2 (1 : Int32) x1 σ)) ∧ (((x0 >>> (((8 : Int32) * x2) &&& 31)) &&& (255 : Int32)) = 0 → (b_X12_bytesOf_28  (fun x0 x1 x2 σ => l_X12_bytesOf_4   Q n x0 x1 x2 σ) Q x0 x2 (0 : Int32) x1 σ))))
set_option maxRecDepth 100000 in
set_option maxHeartbeats 4000000 in
theorem wl_X12_bytesOf_4 {X : XT} {Q : Int32 → wS → Prop}  (F : Fx X cX12_bytesOf 3 RX12 wvX12_bytesOf 0 0) (hret : Ri X 3 cX12_bytesOf .int Q)    : ∀ (n : Nat) (x0 : Int32) (x1 : Int32) (x2 : Int32) (σ : wS), l_X12_bytesOf_4   Q n x0 x1 x2 σ → Wx X 3 σ 4 [(0, .int x0), (1, .int x1), (2, .int x2)] [] := by
  intro n
  induction n with
  | zero =>
    intros
    contradiction
  | succ n ih =>
    intro x0 x1 x2 σ h
    simp only [l_X12_bytesOf_4] at h
    refine x_iload_n F dX12_bytesOf_4 rfl 2 rfl ?_
    refine x_iconst (4 : Int32) F dX12_bytesOf_5 (by decide) ?_
    refine x_icmp_ge (tgt := 36) F dX12_bytesOf_6 (by decide) (fun c => ?_) (fun c => ?_)
    · replace h := h.1 c
      refine x_iload_n F dX12_bytesOf_36 rfl 1 rfl ?_
      exact hret _ _ _ _ h rfl dX12_bytesOf_37
    · replace h := h.2 c
      refine x_iload_n F dX12_bytesOf_9 rfl 1 rfl ?_
      refine x_iload_n F dX12_bytesOf_10 rfl 0 rfl ?_
      refine x_bipush (8 : Int32) F dX12_bytesOf_11 (by decide) ?_
      refine x_iload_n F dX12_bytesOf_13 rfl 2 rfl ?_
      refine x_imul F dX12_bytesOf_14 ?_
      refine x_ishr F dX12_bytesOf_15 ?_
      refine x_sipush (255 : Int32) F dX12_bytesOf_16 (by decide) ?_
      refine x_iand F dX12_bytesOf_19 ?_
      refine x_if_ne (tgt := 27) F dX12_bytesOf_20 (by decide) (fun c => ?_) (fun c => ?_)
      · replace h := h.1 c
        refine x_iconst (1 : Int32) F dX12_bytesOf_27 (by decide) ?_
        refine x_sub (lv' := [(0, .int x0), (2, .int x2)]) [0, 2] rfl ?_
        exact wb_X12_bytesOf_28 F hret  ih _ _ _ _ _ h
      · replace h := h.2 c
        refine x_iconst (0 : Int32) F dX12_bytesOf_23 (by decide) ?_
        refine x_goto (tgt := 28) F dX12_bytesOf_24 (by decide) ?_
        refine x_sub (lv' := [(0, .int x0), (2, .int x2)]) [0, 2] rfl ?_
        exact wb_X12_bytesOf_28 F hret  ih _ _ _ _ _ h
def w_X12_bytesOf  (p0 : Int32) (σ : wS) (Q : Int32 → wS → Prop) : Prop := (∃ m, l_X12_bytesOf_4   Q m p0 (0 : Int32) (0 : Int32) σ)
set_option maxRecDepth 100000 in
set_option maxHeartbeats 4000000 in
theorem c_X12_bytesOf (l : Launch) (g : wG) (A : Nat → Prop) (hA : adO g A)   {p0 : Int32} {σ : wS} {Q : Int32 → wS → Prop} (h : w_X12_bytesOf  p0 σ Q) : Mi l yX12_bytesOf wvX12_bytesOf 0 0 g A [.int p0] σ Q := by
  refine mt_i (own := RX12) (lv := [(0, .int p0)]) (by decide) rfl rfl hA (Nat.le_of_ble_eq_true rfl) rfl ?_
  intro X hl hg hAA F hret
  subst hl hg hAA
  unfold w_X12_bytesOf at h
  refine x_iconst (0 : Int32) F dX12_bytesOf_0 (by decide) ?_
  refine x_istore_n (lv' := [(1, .int (0 : Int32)), (0, .int p0)]) F dX12_bytesOf_1 rfl (by decide) rfl ?_
  refine x_iconst (0 : Int32) F dX12_bytesOf_2 (by decide) ?_
  refine x_istore_n (lv' := [(2, .int (0 : Int32)), (1, .int (0 : Int32)), (0, .int p0)]) F dX12_bytesOf_3 rfl (by decide) rfl ?_
  refine x_sub (lv' := [(0, .int p0), (1, .int (0 : Int32)), (2, .int (0 : Int32))]) [2, 1, 0] rfl ?_
  obtain ⟨n2, h⟩ := h
  exact wl_X12_bytesOf_4 F hret   n2 _ _ _ _ h
/-! X12_brings -/
abbrev wvX12_brings : List Cond := Cond.code yX12_brings cX12_brings 4 none :: wsL_law
theorem cd_X12_brings : okN yX12_brings RX12 1 := by unfold okN; decide +kernel
def b_X12_brings_43  (K3 : Int32 → Int32 → wS → Prop) (Q : wS → Prop) (x1 : Int32) (x2 : Int32) (σ : wS) : Prop := ∀ y1 : Int32, y1 = (x2 + (-8 : Int32)) → (K3 x1 y1 σ)
set_option maxRecDepth 100000 in
set_option maxHeartbeats 4000000 in
theorem wb_X12_brings_43 {X : XT} {Q : wS → Prop}  (F : Fx X cX12_brings 4 RX12 wvX12_brings 0 0) (hret : Rv X 4 cX12_brings Q)  {K3 : Int32 → Int32 → wS → Prop} (hK3 : ∀ (x1 : Int32) (x2 : Int32) (σ : wS), K3 x1 x2 σ → Wx X 4 σ 3 [(0, .ref (ad X 176)), (1, .int x1), (2, .int x2)] []) (x1 : Int32) (x2 : Int32) (σ : wS) (h : b_X12_brings_43  K3 Q x1 x2 σ) : Wx X 4 σ 43 [(0, .ref (ad X 176)), (1, .int x1), (2, .int x2)] [] := by
  unfold b_X12_brings_43 at h
  obtain ⟨y1, ey1⟩ : ∃ y : Int32, y = (x2 + (-8 : Int32)) := ⟨_, rfl⟩
  replace h := h y1 ey1
  refine x_iinc (q := 2) (v := y1) (lv' := [(2, .int y1), (0, .ref (ad X 176)), (1, .int x1)]) F dX12_brings_43 rfl (by rw [ey1]; rfl) (by decide) rfl ?_
  refine x_goto (tgt := 3) F dX12_brings_46 (by decide) ?_
  refine x_sub (lv' := [(0, .ref (ad X 176)), (1, .int x1), (2, .int y1)]) [1, 2, 0] rfl ?_
  exact hK3 _ _ _ h
def l_X12_brings_3   (Q : wS → Prop) : Nat → Int32 → Int32 → wS → Prop
  | 0, _, _, _ => False
  | n + 1, x1, x2, σ => (x2 < 0 → (Q σ)) ∧ (¬ x2 < 0 → (∀ y1 : Int32, y1 = ((x1 >>> (x2 &&& 31)) &&& (255 : Int32)) → ((¬ y1 = 0 → (vp_in (σ.1 176 2) 240 ∧ (∀ s2 : wS, s2 = upI σ 177 ((σ.1 176 2)).toNatClampNeg (vp_nar .byte (y1).toInt8.toInt32) → (∀ s3 : wS, s3 = upI s2 176 2 ((s2.1 176 2) + (1 : Int32)) → (b_X12_brings_43  (fun x1 x2 σ => l_X12_brings_3   Q n x1 x2 σ) Q x1 x2 s3))))) ∧ (y1 = 0 → (b_X12_brings_43  (fun x1 x2 σ => l_X12_brings_3   Q n x1 x2 σ) Q x1 x2 σ)))))
set_option maxRecDepth 100000 in
set_option maxHeartbeats 4000000 in
theorem wl_X12_brings_3 {X : XT} {Q : wS → Prop}  (F : Fx X cX12_brings 4 RX12 wvX12_brings 0 0) (hret : Rv X 4 cX12_brings Q)    : ∀ (n : Nat) (x1 : Int32) (x2 : Int32) (σ : wS), l_X12_brings_3   Q n x1 x2 σ → Wx X 4 σ 3 [(0, .ref (ad X 176)), (1, .int x1), (2, .int x2)] [] := by
  intro n
  induction n with
  | zero =>
    intros
    contradiction
  | succ n ih =>
    intro x1 x2 σ h
    simp only [l_X12_brings_3] at h
    refine x_iload_n F dX12_brings_3 rfl 2 rfl ?_
    refine x_if_lt (tgt := 49) F dX12_brings_4 (by decide) (fun c => ?_) (fun c => ?_)
    · replace h := h.1 c
      exact hret _ _ _ h dX12_brings_49
    · replace h := h.2 c
      refine x_iload_n F dX12_brings_7 rfl 1 rfl ?_
      refine x_iload_n F dX12_brings_8 rfl 2 rfl ?_
      refine x_ishr F dX12_brings_9 ?_
      refine x_sipush (255 : Int32) F dX12_brings_10 (by decide) ?_
      refine x_iand F dX12_brings_13 ?_
      refine x_topi (fun y1 ey1 => ?_)
      replace h := h y1 ey1
      refine x_istore_n (lv' := [(3, .int y1), (0, .ref (ad X 176)), (1, .int x1), (2, .int x2)]) F dX12_brings_14 rfl (by decide) rfl ?_
      refine x_iload_n F dX12_brings_15 rfl 0 rfl ?_
      refine x_if_ne (tgt := 22) F dX12_brings_16 (by decide) (fun c => ?_) (fun c => ?_)
      · replace h := h.1 c
        refine x_aload_n F dX12_brings_22 rfl 1 rfl ?_
        refine g_12_1 F kz_176 in_12 (mc bw_7_7) dX12_brings_23 ?_
        refine x_aload_n F dX12_brings_26 rfl 1 rfl ?_
        refine g_12_2 F kz_176 in_12 (mc bw_8_22) dX12_brings_27 ?_
        refine x_iload_n F dX12_brings_30 rfl 0 rfl ?_
        refine x_i2b F dX12_brings_31 ?_
        obtain ⟨hz, h⟩ := h
        refine x_bast F kz_177 nz_177 hz dX12_brings_32 ?_
        refine x_nmS (fun s2 es2 => ?_)
        replace h := h s2 es2
        refine x_aload_n F dX12_brings_33 rfl 1 rfl ?_
        refine x_dup F dX12_brings_34 rfl ?_
        refine g_12_2 F kz_176 in_12 (mc bw_8_22) dX12_brings_35 ?_
        refine x_iconst (1 : Int32) F dX12_brings_38 (by decide) ?_
        refine x_iadd F dX12_brings_39 ?_
        refine q_12_2 F kz_176 in_12 (mc bw_8_22) dX12_brings_40 ?_
        refine x_nmS (fun s3 es3 => ?_)
        replace h := h s3 es3
        refine x_sub (lv' := [(0, .ref (ad X 176)), (1, .int x1), (2, .int x2)]) [1, 2, 3] rfl ?_
        exact wb_X12_brings_43 F hret  ih _ _ _ h
      · replace h := h.2 c
        refine x_goto (tgt := 43) F dX12_brings_19 (by decide) ?_
        refine x_sub (lv' := [(0, .ref (ad X 176)), (1, .int x1), (2, .int x2)]) [1, 2, 3] rfl ?_
        exact wb_X12_brings_43 F hret  ih _ _ _ h
def w_X12_brings  (p0 : Int32) (σ : wS) (Q : wS → Prop) : Prop := (∃ m, l_X12_brings_3   Q m p0 (24 : Int32) σ)
set_option maxRecDepth 100000 in
set_option maxHeartbeats 4000000 in
theorem c_X12_brings (l : Launch) (g : wG) (A : Nat → Prop) (hA : adO g A)   {p0 : Int32} {σ : wS} {Q : wS → Prop} (h : w_X12_brings  p0 σ Q) : Mv l yX12_brings wvX12_brings 0 0 g A [.ref (g.2.2 176), .int p0] σ Q := by
  refine mt_v (own := RX12) (lv := [(0, .ref (g.2.2 176)), (1, .int p0)]) (by decide) rfl rfl hA (Nat.le_of_ble_eq_true rfl) rfl ?_
  intro X hl hg hAA F hret
  subst hl hg hAA
  unfold w_X12_brings at h
  refine x_bipush (24 : Int32) F dX12_brings_0 (by decide) ?_
  refine x_istore_n (lv' := [(2, .int (24 : Int32)), (0, .ref (ad X 176)), (1, .int p0)]) F dX12_brings_2 rfl (by decide) rfl ?_
  refine x_sub (lv' := [(0, .ref (ad X 176)), (1, .int p0), (2, .int (24 : Int32))]) [1, 2, 0] rfl ?_
  obtain ⟨n2, h⟩ := h
  exact wl_X12_brings_3 F hret   n2 _ _ _ h
/-! X12_feed -/
abbrev wvX12_feed : List Cond := Cond.code yX12_feed cX12_feed 6 (some .int) :: wsL_law
theorem cd_X12_feed : okN yX12_feed RX12 5 := by unfold okN; decide +kernel
def w_X12_feed  (p0 : Int32) (p1 : Int32) (p2 : Int32) (p3 : Int32) (p4 : Int32) (σ : wS) (Q : Int32 → wS → Prop) : Prop := ∀ s1 : wS, s1 = upI σ 176 0 (0 : Int32) → (w_X12_bytesOf p0 s1 (fun r3 s2 => w_X12_bytesOf p1 s2 (fun r5 s4 => w_X12_bytesOf p2 s4 (fun r7 s6 => w_X12_bytesOf p3 s6 (fun r9 s8 => w_X12_bytesOf p4 s8 (fun r11 s10 => (((((((s1.1 176 2) + r3) + r5) + r7) + r9) + r11) ≤ (240 : Int32) → (w_X12_brings p0 s10 (fun s12 => w_X12_brings p1 s12 (fun s14 => w_X12_brings p2 s14 (fun s16 => w_X12_brings p3 s16 (fun s18 => w_X12_brings p4 s18 (fun s20 => Q (s20.1 176 2) s20))))))) ∧ (¬ ((((((s1.1 176 2) + r3) + r5) + r7) + r9) + r11) ≤ (240 : Int32) → (Q (-1 : Int32) s10))))))))
set_option maxRecDepth 100000 in
set_option maxHeartbeats 4000000 in
theorem c_X12_feed (l : Launch) (g : wG) (A : Nat → Prop) (hA : adO g A)   {p0 : Int32} {p1 : Int32} {p2 : Int32} {p3 : Int32} {p4 : Int32} {σ : wS} {Q : Int32 → wS → Prop} (h : w_X12_feed  p0 p1 p2 p3 p4 σ Q) : Mi l yX12_feed wvX12_feed 1 23 g A [.ref (g.2.2 176), .int p0, .int p1, .int p2, .int p3, .int p4] σ Q := by
  refine mt_i (own := RX12) (lv := [(0, .ref (g.2.2 176)), (1, .int p0), (2, .int p1), (3, .int p2), (4, .int p3), (5, .int p4)]) (by decide) rfl rfl hA (Nat.le_of_ble_eq_true rfl) rfl ?_
  intro X hl hg hAA F hret
  subst hl hg hAA
  unfold w_X12_feed at h
  refine x_aload_n F dX12_feed_0 rfl 0 rfl ?_
  refine x_iconst (0 : Int32) F dX12_feed_1 (by decide) ?_
  refine q_12_0 F kz_176 in_12 (mc bw_8_21) dX12_feed_2 ?_
  refine x_nmS (fun s1 es1 => ?_)
  replace h := h s1 es1
  refine x_aload_n F dX12_feed_5 rfl 0 rfl ?_
  refine g_12_2 F kz_176 in_12 (mc bw_8_22) dX12_feed_6 ?_
  refine x_iload_n F dX12_feed_9 rfl 1 rfl ?_
  refine x_callT_i F (c_X12_bytesOf (xl X) (xg X) (xA X) F.2.2.1  h) (bw_S bw_8_23 bw_9_0 bw_1_5 bw_9_1) rfl cd_X12_bytesOf (Nat.le_of_ble_eq_true rfl) (Nat.le_of_ble_eq_true rfl) rfl rfl (Nat.le_of_ble_eq_true rfl) dX12_feed_10 (fun r3 s2 h => ?_)
  refine x_iadd F dX12_feed_13 ?_
  refine x_iload_n F dX12_feed_14 rfl 2 rfl ?_
  refine x_callT_i F (c_X12_bytesOf (xl X) (xg X) (xA X) F.2.2.1  h) (bw_S bw_8_23 bw_9_0 bw_1_5 bw_9_1) rfl cd_X12_bytesOf (Nat.le_of_ble_eq_true rfl) (Nat.le_of_ble_eq_true rfl) rfl rfl (Nat.le_of_ble_eq_true rfl) dX12_feed_15 (fun r5 s4 h => ?_)
  refine x_iadd F dX12_feed_18 ?_
  refine x_iload_n F dX12_feed_19 rfl 3 rfl ?_
  refine x_callT_i F (c_X12_bytesOf (xl X) (xg X) (xA X) F.2.2.1  h) (bw_S bw_8_23 bw_9_0 bw_1_5 bw_9_1) rfl cd_X12_bytesOf (Nat.le_of_ble_eq_true rfl) (Nat.le_of_ble_eq_true rfl) rfl rfl (Nat.le_of_ble_eq_true rfl) dX12_feed_20 (fun r7 s6 h => ?_)
  refine x_iadd F dX12_feed_23 ?_
  refine x_iload F dX12_feed_24 4 rfl ?_
  refine x_callT_i F (c_X12_bytesOf (xl X) (xg X) (xA X) F.2.2.1  h) (bw_S bw_8_23 bw_9_0 bw_1_5 bw_9_1) rfl cd_X12_bytesOf (Nat.le_of_ble_eq_true rfl) (Nat.le_of_ble_eq_true rfl) rfl rfl (Nat.le_of_ble_eq_true rfl) dX12_feed_26 (fun r9 s8 h => ?_)
  refine x_iadd F dX12_feed_29 ?_
  refine x_iload F dX12_feed_30 5 rfl ?_
  refine x_callT_i F (c_X12_bytesOf (xl X) (xg X) (xA X) F.2.2.1  h) (bw_S bw_8_23 bw_9_0 bw_1_5 bw_9_1) rfl cd_X12_bytesOf (Nat.le_of_ble_eq_true rfl) (Nat.le_of_ble_eq_true rfl) rfl rfl (Nat.le_of_ble_eq_true rfl) dX12_feed_32 (fun r11 s10 h => ?_)
  refine x_iadd F dX12_feed_35 ?_
  refine x_sipush (240 : Int32) F dX12_feed_36 (by decide) ?_
  refine x_icmp_le (tgt := 44) F dX12_feed_39 (by decide) (fun c => ?_) (fun c => ?_)
  · replace h := h.1 c
    refine x_aload_n F dX12_feed_44 rfl 0 rfl ?_
    refine x_iload_n F dX12_feed_45 rfl 1 rfl ?_
    refine x_callV_v F (c_X12_brings (xl X) (xg X) (xA X) F.2.2.1  h) (bw_V bw_9_2 bw_9_3 bw_9_4 bw_1_5 bw_9_5) rfl cd_X12_brings (Nat.le_of_ble_eq_true rfl) (Nat.le_of_ble_eq_true rfl) (kd_w (by decide) kz_176) rfl (cl_12 kz_176) rfl rfl (Nat.le_of_ble_eq_true rfl) dX12_feed_46 (fun s12 h => ?_)
    refine x_aload_n F dX12_feed_49 rfl 0 rfl ?_
    refine x_iload_n F dX12_feed_50 rfl 2 rfl ?_
    refine x_callV_v F (c_X12_brings (xl X) (xg X) (xA X) F.2.2.1  h) (bw_V bw_9_2 bw_9_3 bw_9_4 bw_1_5 bw_9_5) rfl cd_X12_brings (Nat.le_of_ble_eq_true rfl) (Nat.le_of_ble_eq_true rfl) (kd_w (by decide) kz_176) rfl (cl_12 kz_176) rfl rfl (Nat.le_of_ble_eq_true rfl) dX12_feed_51 (fun s14 h => ?_)
    refine x_aload_n F dX12_feed_54 rfl 0 rfl ?_
    refine x_iload_n F dX12_feed_55 rfl 3 rfl ?_
    refine x_callV_v F (c_X12_brings (xl X) (xg X) (xA X) F.2.2.1  h) (bw_V bw_9_2 bw_9_3 bw_9_4 bw_1_5 bw_9_5) rfl cd_X12_brings (Nat.le_of_ble_eq_true rfl) (Nat.le_of_ble_eq_true rfl) (kd_w (by decide) kz_176) rfl (cl_12 kz_176) rfl rfl (Nat.le_of_ble_eq_true rfl) dX12_feed_56 (fun s16 h => ?_)
    refine x_aload_n F dX12_feed_59 rfl 0 rfl ?_
    refine x_iload F dX12_feed_60 4 rfl ?_
    refine x_callV_v F (c_X12_brings (xl X) (xg X) (xA X) F.2.2.1  h) (bw_V bw_9_2 bw_9_3 bw_9_4 bw_1_5 bw_9_5) rfl cd_X12_brings (Nat.le_of_ble_eq_true rfl) (Nat.le_of_ble_eq_true rfl) (kd_w (by decide) kz_176) rfl (cl_12 kz_176) rfl rfl (Nat.le_of_ble_eq_true rfl) dX12_feed_62 (fun s18 h => ?_)
    refine x_aload_n F dX12_feed_65 rfl 0 rfl ?_
    refine x_iload F dX12_feed_66 5 rfl ?_
    refine x_callV_v F (c_X12_brings (xl X) (xg X) (xA X) F.2.2.1  h) (bw_V bw_9_2 bw_9_3 bw_9_4 bw_1_5 bw_9_5) rfl cd_X12_brings (Nat.le_of_ble_eq_true rfl) (Nat.le_of_ble_eq_true rfl) (kd_w (by decide) kz_176) rfl (cl_12 kz_176) rfl rfl (Nat.le_of_ble_eq_true rfl) dX12_feed_68 (fun s20 h => ?_)
    refine x_aload_n F dX12_feed_71 rfl 0 rfl ?_
    refine g_12_2 F kz_176 in_12 (mc bw_8_22) dX12_feed_72 ?_
    exact hret _ _ _ _ h rfl dX12_feed_75
  · replace h := h.2 c
    refine x_iconst (-1 : Int32) F dX12_feed_42 (by decide) ?_
    exact hret _ _ _ _ h rfl dX12_feed_43
/-! X12_end -/
abbrev wvX12_end : List Cond := Cond.code yX12_end cX12_end 2 (some .boolean) :: wsL_law
theorem cd_X12_end : okN yX12_end RX12 1 := by unfold okN; decide +kernel
def w_X12_end  (p0 : Int32) (σ : wS) (Q : Int32 → wS → Prop) : Prop := ∀ s1 : wS, s1 = upI σ 176 0 (0 : Int32) → ((p0 < 0 → (Q (0 : Int32) s1)) ∧ (¬ p0 < 0 → ((p0 ≤ (s1.1 176 2) → (∀ s2 : wS, s2 = upI s1 176 2 p0 → (Q (1 : Int32) s2))) ∧ (¬ p0 ≤ (s1.1 176 2) → (Q (0 : Int32) s1)))))
set_option maxRecDepth 100000 in
set_option maxHeartbeats 4000000 in
theorem c_X12_end (l : Launch) (g : wG) (A : Nat → Prop) (hA : adO g A)   {p0 : Int32} {σ : wS} {Q : Int32 → wS → Prop} (h : w_X12_end  p0 σ Q) : Mi l yX12_end wvX12_end 0 0 g A [.ref (g.2.2 176), .int p0] σ Q := by
  refine mt_i (own := RX12) (lv := [(0, .ref (g.2.2 176)), (1, .int p0)]) (by decide) rfl rfl hA (Nat.le_of_ble_eq_true rfl) rfl ?_
  intro X hl hg hAA F hret
  subst hl hg hAA
  unfold w_X12_end at h
  refine x_aload_n F dX12_end_0 rfl 0 rfl ?_
  refine x_iconst (0 : Int32) F dX12_end_1 (by decide) ?_
  refine q_12_0 F kz_176 in_12 (mc bw_8_21) dX12_end_2 ?_
  refine x_nmS (fun s1 es1 => ?_)
  replace h := h s1 es1
  refine x_iload_n F dX12_end_5 rfl 1 rfl ?_
  refine x_if_lt (tgt := 17) F dX12_end_6 (by decide) (fun c => ?_) (fun c => ?_)
  · replace h := h.1 c
    refine x_iconst (0 : Int32) F dX12_end_17 (by decide) ?_
    exact hret _ _ _ _ h (nar01 (by decide)) dX12_end_18
  · replace h := h.2 c
    refine x_iload_n F dX12_end_9 rfl 1 rfl ?_
    refine x_aload_n F dX12_end_10 rfl 0 rfl ?_
    refine g_12_2 F kz_176 in_12 (mc bw_8_22) dX12_end_11 ?_
    refine x_icmp_le (tgt := 19) F dX12_end_14 (by decide) (fun c => ?_) (fun c => ?_)
    · replace h := h.1 c
      refine x_aload_n F dX12_end_19 rfl 0 rfl ?_
      refine x_iload_n F dX12_end_20 rfl 1 rfl ?_
      refine q_12_2 F kz_176 in_12 (mc bw_8_22) dX12_end_21 ?_
      refine x_nmS (fun s2 es2 => ?_)
      replace h := h s2 es2
      refine x_iconst (1 : Int32) F dX12_end_24 (by decide) ?_
      exact hret _ _ _ _ h (nar01 (by decide)) dX12_end_25
    · replace h := h.2 c
      refine x_iconst (0 : Int32) F dX12_end_17 (by decide) ?_
      exact hret _ _ _ _ h (nar01 (by decide)) dX12_end_18
/-! X12_here -/
abbrev wvX12_here : List Cond := Cond.code yX12_here cX12_here 1 (some .int) :: wsL_law
theorem cd_X12_here : okN yX12_here RX12 0 := by unfold okN; decide +kernel
def w_X12_here   (σ : wS) (Q : Int32 → wS → Prop) : Prop := ((σ.1 176 2) ≤ (σ.1 176 3) → (Q (-1 : Int32) σ)) ∧ (¬ (σ.1 176 2) ≤ (σ.1 176 3) → (vp_in (σ.1 176 3) 240 ∧ (Q ((σ.1 177 ((σ.1 176 3)).toNatClampNeg) &&& (255 : Int32)) σ)))
set_option maxRecDepth 100000 in
set_option maxHeartbeats 4000000 in
theorem c_X12_here (l : Launch) (g : wG) (A : Nat → Prop) (hA : adO g A)    {σ : wS} {Q : Int32 → wS → Prop} (h : w_X12_here   σ Q) : Mi l yX12_here wvX12_here 0 0 g A [.ref (g.2.2 176)] σ Q := by
  refine mt_i (own := RX12) (lv := [(0, .ref (g.2.2 176))]) (by decide) rfl rfl hA (Nat.le_of_ble_eq_true rfl) rfl ?_
  intro X hl hg hAA F hret
  subst hl hg hAA
  unfold w_X12_here at h
  refine x_aload_n F dX12_here_0 rfl 0 rfl ?_
  refine g_12_3 F kz_176 in_12 (mc bw_13_11) dX12_here_1 ?_
  refine x_aload_n F dX12_here_4 rfl 0 rfl ?_
  refine g_12_2 F kz_176 in_12 (mc bw_8_22) dX12_here_5 ?_
  refine x_icmp_ge (tgt := 27) F dX12_here_8 (by decide) (fun c => ?_) (fun c => ?_)
  · replace h := h.1 c
    refine x_iconst (-1 : Int32) F dX12_here_27 (by decide) ?_
    exact hret _ _ _ _ h rfl dX12_here_28
  · replace h := h.2 c
    refine x_aload_n F dX12_here_11 rfl 0 rfl ?_
    refine g_12_1 F kz_176 in_12 (mc bw_7_7) dX12_here_12 ?_
    refine x_aload_n F dX12_here_15 rfl 0 rfl ?_
    refine g_12_3 F kz_176 in_12 (mc bw_13_11) dX12_here_16 ?_
    obtain ⟨hj, h⟩ := h
    refine x_bald F kz_177 nz_177 hj dX12_here_19 ?_
    refine x_sipush (255 : Int32) F dX12_here_20 (by decide) ?_
    refine x_iand F dX12_here_23 ?_
    refine x_goto (tgt := 28) F dX12_here_24 (by decide) ?_
    exact hret _ _ _ _ h rfl dX12_here_28
/-! X12_look -/
abbrev wvX12_look : List Cond := Cond.code yX12_look cX12_look 1 (some .int) :: wsL_law
theorem cd_X12_look : okN yX12_look RX12 0 := by unfold okN; decide +kernel
def l_X12_look_0   (Q : Int32 → wS → Prop) : Nat → wS → Prop
  | 0, _ => False
  | n + 1, σ => w_X12_here  σ (fun r2 s1 => (¬ r2 = (32 : Int32) → (w_X12_here  s1 (fun r4 s3 => Q r4 s3))) ∧ (r2 = (32 : Int32) → (∀ s5 : wS, s5 = upI s1 176 3 ((s1.1 176 3) + (1 : Int32)) → (l_X12_look_0   Q n  s5))))
set_option maxRecDepth 100000 in
set_option maxHeartbeats 4000000 in
theorem wl_X12_look_0 {X : XT} {Q : Int32 → wS → Prop}  (F : Fx X cX12_look 1 RX12 wvX12_look 1 20) (hret : Ri X 1 cX12_look .int Q)    : ∀ (n : Nat)  (σ : wS), l_X12_look_0   Q n  σ → Wx X 1 σ 0 [(0, .ref (ad X 176))] [] := by
  intro n
  induction n with
  | zero =>
    intros
    contradiction
  | succ n ih =>
    intro  σ h
    simp only [l_X12_look_0] at h
    refine x_aload_n F dX12_look_0 rfl 0 rfl ?_
    refine x_callV_i F (c_X12_here (xl X) (xg X) (xA X) F.2.2.1  h) (bw_V bw_14_6 bw_14_7 bw_14_8 bw_1_5 bw_14_9) rfl cd_X12_here (Nat.le_of_ble_eq_true rfl) (Nat.le_of_ble_eq_true rfl) (kd_w (by decide) kz_176) rfl (cl_12 kz_176) rfl rfl (Nat.le_of_ble_eq_true rfl) dX12_look_1 (fun r2 s1 h => ?_)
    refine x_bipush (32 : Int32) F dX12_look_4 (by decide) ?_
    refine x_icmp_ne (tgt := 22) F dX12_look_6 (by decide) (fun c => ?_) (fun c => ?_)
    · replace h := h.1 c
      refine x_aload_n F dX12_look_22 rfl 0 rfl ?_
      refine x_callV_i F (c_X12_here (xl X) (xg X) (xA X) F.2.2.1  h) (bw_V bw_14_6 bw_14_7 bw_14_8 bw_1_5 bw_14_9) rfl cd_X12_here (Nat.le_of_ble_eq_true rfl) (Nat.le_of_ble_eq_true rfl) (kd_w (by decide) kz_176) rfl (cl_12 kz_176) rfl rfl (Nat.le_of_ble_eq_true rfl) dX12_look_23 (fun r4 s3 h => ?_)
      exact hret _ _ _ _ h rfl dX12_look_26
    · replace h := h.2 c
      refine x_aload_n F dX12_look_9 rfl 0 rfl ?_
      refine x_dup F dX12_look_10 rfl ?_
      refine g_12_3 F kz_176 in_12 (mc bw_13_11) dX12_look_11 ?_
      refine x_iconst (1 : Int32) F dX12_look_14 (by decide) ?_
      refine x_iadd F dX12_look_15 ?_
      refine q_12_3 F kz_176 in_12 (mc bw_13_11) dX12_look_16 ?_
      refine x_nmS (fun s5 es5 => ?_)
      replace h := h s5 es5
      refine x_goto (tgt := 0) F dX12_look_19 (by decide) ?_
      refine x_sub (lv' := [(0, .ref (ad X 176))]) [0] rfl ?_
      exact ih  _ h
def w_X12_look   (σ : wS) (Q : Int32 → wS → Prop) : Prop := (∃ m, l_X12_look_0   Q m  σ)
set_option maxRecDepth 100000 in
set_option maxHeartbeats 4000000 in
theorem c_X12_look (l : Launch) (g : wG) (A : Nat → Prop) (hA : adO g A)    {σ : wS} {Q : Int32 → wS → Prop} (h : w_X12_look   σ Q) : Mi l yX12_look wvX12_look 1 20 g A [.ref (g.2.2 176)] σ Q := by
  refine mt_i (own := RX12) (lv := [(0, .ref (g.2.2 176))]) (by decide) rfl rfl hA (Nat.le_of_ble_eq_true rfl) rfl ?_
  intro X hl hg hAA F hret
  subst hl hg hAA
  unfold w_X12_look at h
  refine x_sub (lv' := [(0, .ref (ad X 176))]) [0] rfl ?_
  obtain ⟨n2, h⟩ := h
  exact wl_X12_look_0 F hret   n2  _ h
/-! X12_fails -/
abbrev wvX12_fails : List Cond := Cond.code yX12_fails cX12_fails 1 none :: wsL_law
theorem cd_X12_fails : okN yX12_fails RX12 0 := by unfold okN; decide +kernel
def w_X12_fails   (σ : wS) (Q : wS → Prop) : Prop := (¬ (σ.1 176 4) = (-1 : Int32) → (Q σ)) ∧ ((σ.1 176 4) = (-1 : Int32) → (∀ s1 : wS, s1 = upI σ 176 4 (σ.1 176 3) → (Q s1)))
set_option maxRecDepth 100000 in
set_option maxHeartbeats 4000000 in
theorem c_X12_fails (l : Launch) (g : wG) (A : Nat → Prop) (hA : adO g A)    {σ : wS} {Q : wS → Prop} (h : w_X12_fails   σ Q) : Mv l yX12_fails wvX12_fails 0 0 g A [.ref (g.2.2 176)] σ Q := by
  refine mt_v (own := RX12) (lv := [(0, .ref (g.2.2 176))]) (by decide) rfl rfl hA (Nat.le_of_ble_eq_true rfl) rfl ?_
  intro X hl hg hAA F hret
  subst hl hg hAA
  unfold w_X12_fails at h
  refine x_aload_n F dX12_fails_0 rfl 0 rfl ?_
  refine g_12_4 F kz_176 in_12 (mc bw_13_12) dX12_fails_1 ?_
  refine x_iconst (-1 : Int32) F dX12_fails_4 (by decide) ?_
  refine x_icmp_ne (tgt := 16) F dX12_fails_5 (by decide) (fun c => ?_) (fun c => ?_)
  · replace h := h.1 c
    exact hret _ _ _ h dX12_fails_16
  · replace h := h.2 c
    refine x_aload_n F dX12_fails_8 rfl 0 rfl ?_
    refine x_aload_n F dX12_fails_9 rfl 0 rfl ?_
    refine g_12_3 F kz_176 in_12 (mc bw_13_11) dX12_fails_10 ?_
    refine q_12_4 F kz_176 in_12 (mc bw_13_12) dX12_fails_13 ?_
    refine x_nmS (fun s1 es1 => ?_)
    replace h := h s1 es1
    exact hret _ _ _ h dX12_fails_16
/-! X12_isDigit -/
abbrev wvX12_isDigit : List Cond := Cond.code yX12_isDigit cX12_isDigit 1 (some .boolean) :: wsL_law
theorem cd_X12_isDigit : okN yX12_isDigit RX12 0 := by unfold okN; decide +kernel
def w_X12_isDigit   (σ : wS) (Q : Int32 → wS → Prop) : Prop := w_X12_here  σ (fun r2 s1 => (r2 < (48 : Int32) → (Q (0 : Int32) s1)) ∧ (¬ r2 < (48 : Int32) → (w_X12_here  s1 (fun r4 s3 => ((57 : Int32) < r4 → (Q (0 : Int32) s3)) ∧ (¬ (57 : Int32) < r4 → (Q (1 : Int32) s3))))))
set_option maxRecDepth 100000 in
set_option maxHeartbeats 4000000 in
theorem c_X12_isDigit (l : Launch) (g : wG) (A : Nat → Prop) (hA : adO g A)    {σ : wS} {Q : Int32 → wS → Prop} (h : w_X12_isDigit   σ Q) : Mi l yX12_isDigit wvX12_isDigit 1 20 g A [.ref (g.2.2 176)] σ Q := by
  refine mt_i (own := RX12) (lv := [(0, .ref (g.2.2 176))]) (by decide) rfl rfl hA (Nat.le_of_ble_eq_true rfl) rfl ?_
  intro X hl hg hAA F hret
  subst hl hg hAA
  unfold w_X12_isDigit at h
  refine x_aload_n F dX12_isDigit_0 rfl 0 rfl ?_
  refine x_callV_i F (c_X12_here (xl X) (xg X) (xA X) F.2.2.1  h) (bw_V bw_14_6 bw_14_7 bw_14_8 bw_1_5 bw_14_9) rfl cd_X12_here (Nat.le_of_ble_eq_true rfl) (Nat.le_of_ble_eq_true rfl) (kd_w (by decide) kz_176) rfl (cl_12 kz_176) rfl rfl (Nat.le_of_ble_eq_true rfl) dX12_isDigit_1 (fun r2 s1 h => ?_)
  refine x_bipush (48 : Int32) F dX12_isDigit_4 (by decide) ?_
  refine x_icmp_lt (tgt := 22) F dX12_isDigit_6 (by decide) (fun c => ?_) (fun c => ?_)
  · replace h := h.1 c
    refine x_iconst (0 : Int32) F dX12_isDigit_22 (by decide) ?_
    exact hret _ _ _ _ h (nar01 (by decide)) dX12_isDigit_23
  · replace h := h.2 c
    refine x_aload_n F dX12_isDigit_9 rfl 0 rfl ?_
    refine x_callV_i F (c_X12_here (xl X) (xg X) (xA X) F.2.2.1  h) (bw_V bw_14_6 bw_14_7 bw_14_8 bw_1_5 bw_14_9) rfl cd_X12_here (Nat.le_of_ble_eq_true rfl) (Nat.le_of_ble_eq_true rfl) (kd_w (by decide) kz_176) rfl (cl_12 kz_176) rfl rfl (Nat.le_of_ble_eq_true rfl) dX12_isDigit_10 (fun r4 s3 h => ?_)
    refine x_bipush (57 : Int32) F dX12_isDigit_13 (by decide) ?_
    refine x_icmp_gt (tgt := 22) F dX12_isDigit_15 (by decide) (fun c => ?_) (fun c => ?_)
    · replace h := h.1 c
      refine x_iconst (0 : Int32) F dX12_isDigit_22 (by decide) ?_
      exact hret _ _ _ _ h (nar01 (by decide)) dX12_isDigit_23
    · replace h := h.2 c
      refine x_iconst (1 : Int32) F dX12_isDigit_18 (by decide) ?_
      refine x_goto (tgt := 23) F dX12_isDigit_19 (by decide) ?_
      exact hret _ _ _ _ h (nar01 (by decide)) dX12_isDigit_23
/-! X12_number -/
abbrev wvX12_number : List Cond := Cond.code yX12_number cX12_number 6 (some .int) :: wsL_law
theorem cd_X12_number : okN yX12_number RX12 2 := by unfold okN; decide +kernel
def b_X12_number_104   (Q : Int32 → wS → Prop) (x1 : Int32) (x2 : Int32) (z0 : Int32) (σ : wS) : Prop := w_X12_isDigit  σ (fun r2 s1 => (r2 = 0 → (w_X12_isIn (z0).toInt64 (x1).toInt64 (x2).toInt64 s1 (fun r4 s3 => (¬ r4 = 0 → (Q z0 s3)) ∧ (r4 = 0 → (∀ s5 : wS, s5 = upI s3 176 3 ((s3.1 176 3) - (1 : Int32)) → (w_X12_fails  s5 (fun s6 => Q z0 s6))))))) ∧ (¬ r2 = 0 → (w_X12_fails  s1 (fun s8 => Q z0 s8))))
set_option maxRecDepth 100000 in
set_option maxHeartbeats 4000000 in
theorem wb_X12_number_104 {X : XT} {Q : Int32 → wS → Prop}  (F : Fx X cX12_number 6 RX12 wvX12_number 2 40) (hret : Ri X 6 cX12_number .int Q)    (x1 : Int32) (x2 : Int32) (z0 : Int32) (σ : wS) (h : b_X12_number_104   Q x1 x2 z0 σ) : Wx X 6 σ 104 [(0, .ref (ad X 176)), (1, .int x1), (2, .int x2)] [.int z0] := by
  unfold b_X12_number_104 at h
  refine x_istore (lv' := [(4, .int z0), (0, .ref (ad X 176)), (1, .int x1), (2, .int x2)]) F dX12_number_104 (by decide) rfl ?_
  refine x_aload_n F dX12_number_106 rfl 1 rfl ?_
  refine x_callV_i F (c_X12_isDigit (xl X) (xg X) (xA X) F.2.2.1  h) (bw_V bw_17_11 bw_17_12 bw_17_13 bw_1_5 bw_17_14) rfl cd_X12_isDigit (Nat.le_of_ble_eq_true rfl) (Nat.le_of_ble_eq_true rfl) (kd_w (by decide) kz_176) rfl (cl_12 kz_176) rfl rfl (Nat.le_of_ble_eq_true rfl) dX12_number_107 (fun r2 s1 h => ?_)
  refine x_if_eq (tgt := 120) F dX12_number_110 (by decide) (fun c => ?_) (fun c => ?_)
  · replace h := h.1 c
    refine x_iload F dX12_number_120 0 rfl ?_
    refine x_i2l F dX12_number_122 ?_
    refine x_iload_n F dX12_number_123 rfl 2 rfl ?_
    refine x_i2l F dX12_number_124 ?_
    refine x_iload_n F dX12_number_125 rfl 3 rfl ?_
    refine x_i2l F dX12_number_126 ?_
    refine x_callT_i F (c_X12_isIn (xl X) (xg X) (xA X) F.2.2.1  h) (bw_S bw_13_13 bw_13_14 bw_1_5 bw_13_15) rfl cd_X12_isIn (Nat.le_of_ble_eq_true rfl) (Nat.le_of_ble_eq_true rfl) rfl rfl (Nat.le_of_ble_eq_true rfl) dX12_number_127 (fun r4 s3 h => ?_)
    refine x_if_ne (tgt := 147) F dX12_number_130 (by decide) (fun c => ?_) (fun c => ?_)
    · replace h := h.1 c
      refine x_iload F dX12_number_147 0 rfl ?_
      exact hret _ _ _ _ h rfl dX12_number_149
    · replace h := h.2 c
      refine x_aload_n F dX12_number_133 rfl 1 rfl ?_
      refine x_dup F dX12_number_134 rfl ?_
      refine g_12_3 F kz_176 in_12 (mc bw_13_11) dX12_number_135 ?_
      refine x_iconst (1 : Int32) F dX12_number_138 (by decide) ?_
      refine x_isub F dX12_number_139 ?_
      refine q_12_3 F kz_176 in_12 (mc bw_13_11) dX12_number_140 ?_
      refine x_nmS (fun s5 es5 => ?_)
      replace h := h s5 es5
      refine x_aload_n F dX12_number_143 rfl 1 rfl ?_
      refine x_callV_v F (c_X12_fails (xl X) (xg X) (xA X) F.2.2.1  h) (bw_V bw_16_21 bw_16_22 bw_16_23 bw_1_5 bw_17_0) rfl cd_X12_fails (Nat.le_of_ble_eq_true rfl) (Nat.le_of_ble_eq_true rfl) (kd_w (by decide) kz_176) rfl (cl_12 kz_176) rfl rfl (Nat.le_of_ble_eq_true rfl) dX12_number_144 (fun s6 h => ?_)
      refine x_iload F dX12_number_147 0 rfl ?_
      exact hret _ _ _ _ h rfl dX12_number_149
  · replace h := h.2 c
    refine x_aload_n F dX12_number_113 rfl 1 rfl ?_
    refine x_callV_v F (c_X12_fails (xl X) (xg X) (xA X) F.2.2.1  h) (bw_V bw_16_21 bw_16_22 bw_16_23 bw_1_5 bw_17_0) rfl cd_X12_fails (Nat.le_of_ble_eq_true rfl) (Nat.le_of_ble_eq_true rfl) (kd_w (by decide) kz_176) rfl (cl_12 kz_176) rfl rfl (Nat.le_of_ble_eq_true rfl) dX12_number_114 (fun s8 h => ?_)
    refine x_goto (tgt := 147) F dX12_number_117 (by decide) ?_
    refine x_iload F dX12_number_147 0 rfl ?_
    exact hret _ _ _ _ h rfl dX12_number_149
def b_X12_number_92   (Q : Int32 → wS → Prop) (x1 : Int32) (x2 : Int32) (x3 : Int32) (x4 : Int32) (σ : wS) : Prop := (x3 = 0 → (b_X12_number_104   Q x1 x2 x4 σ)) ∧ (¬ x3 = 0 → (b_X12_number_104   Q x1 x2 (-x4) σ))
set_option maxRecDepth 100000 in
set_option maxHeartbeats 4000000 in
theorem wb_X12_number_92 {X : XT} {Q : Int32 → wS → Prop}  (F : Fx X cX12_number 6 RX12 wvX12_number 2 40) (hret : Ri X 6 cX12_number .int Q)    (x1 : Int32) (x2 : Int32) (x3 : Int32) (x4 : Int32) (σ : wS) (h : b_X12_number_92   Q x1 x2 x3 x4 σ) : Wx X 6 σ 92 [(0, .ref (ad X 176)), (1, .int x1), (2, .int x2), (3, .int x3), (4, .int x4)] [] := by
  unfold b_X12_number_92 at h
  refine x_iload_n F dX12_number_92 rfl 3 rfl ?_
  refine x_if_eq (tgt := 102) F dX12_number_93 (by decide) (fun c => ?_) (fun c => ?_)
  · replace h := h.1 c
    refine x_iload F dX12_number_102 4 rfl ?_
    refine x_sub (lv' := [(0, .ref (ad X 176)), (1, .int x1), (2, .int x2)]) [0, 1, 2] rfl ?_
    exact wb_X12_number_104 F hret   _ _ _ _ h
  · replace h := h.2 c
    refine x_iload F dX12_number_96 4 rfl ?_
    refine x_ineg F dX12_number_98 ?_
    refine x_goto (tgt := 104) F dX12_number_99 (by decide) ?_
    refine x_sub (lv' := [(0, .ref (ad X 176)), (1, .int x1), (2, .int x2)]) [0, 1, 2] rfl ?_
    exact wb_X12_number_104 F hret   _ _ _ _ h
def l_X12_number_48   (Q : Int32 → wS → Prop) : Nat → Int32 → Int32 → Int32 → Int32 → Int32 → wS → Prop
  | 0, _, _, _, _, _, _ => False
  | n + 1, x1, x2, x3, x4, x5, σ => ((3 : Int32) ≤ x5 → (b_X12_number_92   Q x1 x2 x3 x4 σ)) ∧ (¬ (3 : Int32) ≤ x5 → (w_X12_isDigit  σ (fun r2 s1 => (r2 = 0 → (b_X12_number_92   Q x1 x2 x3 x4 s1)) ∧ (¬ r2 = 0 → (w_X12_here  s1 (fun r4 s3 => ∀ y5 : Int32, y5 = ((((10 : Int32) * x4) + r4) - (48 : Int32)) → (∀ s6 : wS, s6 = upI s3 176 3 ((s3.1 176 3) + (1 : Int32)) → (∀ y7 : Int32, y7 = (x5 + (1 : Int32)) → (l_X12_number_48   Q n x1 x2 x3 y5 y7 s6)))))))))
set_option maxRecDepth 100000 in
set_option maxHeartbeats 4000000 in
theorem wl_X12_number_48 {X : XT} {Q : Int32 → wS → Prop}  (F : Fx X cX12_number 6 RX12 wvX12_number 2 40) (hret : Ri X 6 cX12_number .int Q)    : ∀ (n : Nat) (x1 : Int32) (x2 : Int32) (x3 : Int32) (x4 : Int32) (x5 : Int32) (σ : wS), l_X12_number_48   Q n x1 x2 x3 x4 x5 σ → Wx X 6 σ 48 [(0, .ref (ad X 176)), (1, .int x1), (2, .int x2), (3, .int x3), (4, .int x4), (5, .int x5)] [] := by
  intro n
  induction n with
  | zero =>
    intros
    contradiction
  | succ n ih =>
    intro x1 x2 x3 x4 x5 σ h
    simp only [l_X12_number_48] at h
    refine x_iload F dX12_number_48 5 rfl ?_
    refine x_iconst (3 : Int32) F dX12_number_50 (by decide) ?_
    refine x_icmp_ge (tgt := 92) F dX12_number_51 (by decide) (fun c => ?_) (fun c => ?_)
    · replace h := h.1 c
      refine x_sub (lv' := [(0, .ref (ad X 176)), (1, .int x1), (2, .int x2), (3, .int x3), (4, .int x4)]) [0, 1, 2, 3, 4] rfl ?_
      exact wb_X12_number_92 F hret   _ _ _ _ _ h
    · replace h := h.2 c
      refine x_aload_n F dX12_number_54 rfl 0 rfl ?_
      refine x_callV_i F (c_X12_isDigit (xl X) (xg X) (xA X) F.2.2.1  h) (bw_V bw_17_11 bw_17_12 bw_17_13 bw_1_5 bw_17_14) rfl cd_X12_isDigit (Nat.le_of_ble_eq_true rfl) (Nat.le_of_ble_eq_true rfl) (kd_w (by decide) kz_176) rfl (cl_12 kz_176) rfl rfl (Nat.le_of_ble_eq_true rfl) dX12_number_55 (fun r2 s1 h => ?_)
      refine x_if_eq (tgt := 92) F dX12_number_58 (by decide) (fun c => ?_) (fun c => ?_)
      · replace h := h.1 c
        refine x_sub (lv' := [(0, .ref (ad X 176)), (1, .int x1), (2, .int x2), (3, .int x3), (4, .int x4)]) [0, 1, 2, 3, 4] rfl ?_
        exact wb_X12_number_92 F hret   _ _ _ _ _ h
      · replace h := h.2 c
        refine x_bipush (10 : Int32) F dX12_number_61 (by decide) ?_
        refine x_iload F dX12_number_63 4 rfl ?_
        refine x_imul F dX12_number_65 ?_
        refine x_aload_n F dX12_number_66 rfl 0 rfl ?_
        refine x_callV_i F (c_X12_here (xl X) (xg X) (xA X) F.2.2.1  h) (bw_V bw_14_6 bw_14_7 bw_14_8 bw_1_5 bw_14_9) rfl cd_X12_here (Nat.le_of_ble_eq_true rfl) (Nat.le_of_ble_eq_true rfl) (kd_w (by decide) kz_176) rfl (cl_12 kz_176) rfl rfl (Nat.le_of_ble_eq_true rfl) dX12_number_67 (fun r4 s3 h => ?_)
        refine x_iadd F dX12_number_70 ?_
        refine x_bipush (48 : Int32) F dX12_number_71 (by decide) ?_
        refine x_isub F dX12_number_73 ?_
        refine x_topi (fun y5 ey5 => ?_)
        replace h := h y5 ey5
        refine x_istore (lv' := [(4, .int y5), (0, .ref (ad X 176)), (1, .int x1), (2, .int x2), (3, .int x3), (5, .int x5)]) F dX12_number_74 (by decide) rfl ?_
        refine x_aload_n F dX12_number_76 rfl 1 rfl ?_
        refine x_dup F dX12_number_77 rfl ?_
        refine g_12_3 F kz_176 in_12 (mc bw_13_11) dX12_number_78 ?_
        refine x_iconst (1 : Int32) F dX12_number_81 (by decide) ?_
        refine x_iadd F dX12_number_82 ?_
        refine q_12_3 F kz_176 in_12 (mc bw_13_11) dX12_number_83 ?_
        refine x_nmS (fun s6 es6 => ?_)
        replace h := h s6 es6
        obtain ⟨y7, ey7⟩ : ∃ y : Int32, y = (x5 + (1 : Int32)) := ⟨_, rfl⟩
        replace h := h y7 ey7
        refine x_iinc (q := 5) (v := y7) (lv' := [(5, .int y7), (4, .int y5), (0, .ref (ad X 176)), (1, .int x1), (2, .int x2), (3, .int x3)]) F dX12_number_86 rfl (by rw [ey7]; rfl) (by decide) rfl ?_
        refine x_goto (tgt := 48) F dX12_number_89 (by decide) ?_
        refine x_sub (lv' := [(0, .ref (ad X 176)), (1, .int x1), (2, .int x2), (3, .int x3), (4, .int y5), (5, .int y7)]) [2, 3, 4, 5, 1, 0] rfl ?_
        exact ih _ _ _ _ _ _ h
def b_X12_number_29   (Q : Int32 → wS → Prop) (x1 : Int32) (x2 : Int32) (x3 : Int32) (σ : wS) : Prop := w_X12_isDigit  σ (fun r2 s1 => (¬ r2 = 0 → ((∃ m, l_X12_number_48   Q m x1 x2 x3 (0 : Int32) (0 : Int32) s1))) ∧ (r2 = 0 → (w_X12_fails  s1 (fun s3 => Q (0 : Int32) s3))))
set_option maxRecDepth 100000 in
set_option maxHeartbeats 4000000 in
theorem wb_X12_number_29 {X : XT} {Q : Int32 → wS → Prop}  (F : Fx X cX12_number 6 RX12 wvX12_number 2 40) (hret : Ri X 6 cX12_number .int Q)    (x1 : Int32) (x2 : Int32) (x3 : Int32) (σ : wS) (h : b_X12_number_29   Q x1 x2 x3 σ) : Wx X 6 σ 29 [(0, .ref (ad X 176)), (1, .int x1), (2, .int x2), (3, .int x3)] [] := by
  unfold b_X12_number_29 at h
  refine x_aload_n F dX12_number_29 rfl 0 rfl ?_
  refine x_callV_i F (c_X12_isDigit (xl X) (xg X) (xA X) F.2.2.1  h) (bw_V bw_17_11 bw_17_12 bw_17_13 bw_1_5 bw_17_14) rfl cd_X12_isDigit (Nat.le_of_ble_eq_true rfl) (Nat.le_of_ble_eq_true rfl) (kd_w (by decide) kz_176) rfl (cl_12 kz_176) rfl rfl (Nat.le_of_ble_eq_true rfl) dX12_number_30 (fun r2 s1 h => ?_)
  refine x_if_ne (tgt := 42) F dX12_number_33 (by decide) (fun c => ?_) (fun c => ?_)
  · replace h := h.1 c
    refine x_iconst (0 : Int32) F dX12_number_42 (by decide) ?_
    refine x_istore (lv' := [(4, .int (0 : Int32)), (0, .ref (ad X 176)), (1, .int x1), (2, .int x2), (3, .int x3)]) F dX12_number_43 (by decide) rfl ?_
    refine x_iconst (0 : Int32) F dX12_number_45 (by decide) ?_
    refine x_istore (lv' := [(5, .int (0 : Int32)), (4, .int (0 : Int32)), (0, .ref (ad X 176)), (1, .int x1), (2, .int x2), (3, .int x3)]) F dX12_number_46 (by decide) rfl ?_
    refine x_sub (lv' := [(0, .ref (ad X 176)), (1, .int x1), (2, .int x2), (3, .int x3), (4, .int (0 : Int32)), (5, .int (0 : Int32))]) [2, 3, 4, 5, 1, 0] rfl ?_
    obtain ⟨n2, h⟩ := h
    exact wl_X12_number_48 F hret   n2 _ _ _ _ _ _ h
  · replace h := h.2 c
    refine x_aload_n F dX12_number_36 rfl 0 rfl ?_
    refine x_callV_v F (c_X12_fails (xl X) (xg X) (xA X) F.2.2.1  h) (bw_V bw_16_21 bw_16_22 bw_16_23 bw_1_5 bw_17_0) rfl cd_X12_fails (Nat.le_of_ble_eq_true rfl) (Nat.le_of_ble_eq_true rfl) (kd_w (by decide) kz_176) rfl (cl_12 kz_176) rfl rfl (Nat.le_of_ble_eq_true rfl) dX12_number_37 (fun s3 h => ?_)
    refine x_iconst (0 : Int32) F dX12_number_40 (by decide) ?_
    exact hret _ _ _ _ h rfl dX12_number_41
def b_X12_number_14   (Q : Int32 → wS → Prop) (x1 : Int32) (x2 : Int32) (z0 : Int32) (σ : wS) : Prop := (z0 = 0 → (b_X12_number_29   Q x1 x2 z0 σ)) ∧ (¬ z0 = 0 → (∀ s1 : wS, s1 = upI σ 176 3 ((σ.1 176 3) + (1 : Int32)) → (b_X12_number_29   Q x1 x2 z0 s1)))
set_option maxRecDepth 100000 in
set_option maxHeartbeats 4000000 in
theorem wb_X12_number_14 {X : XT} {Q : Int32 → wS → Prop}  (F : Fx X cX12_number 6 RX12 wvX12_number 2 40) (hret : Ri X 6 cX12_number .int Q)    (x1 : Int32) (x2 : Int32) (z0 : Int32) (σ : wS) (h : b_X12_number_14   Q x1 x2 z0 σ) : Wx X 6 σ 14 [(0, .ref (ad X 176)), (1, .int x1), (2, .int x2)] [.int z0] := by
  unfold b_X12_number_14 at h
  refine x_istore_n (lv' := [(3, .int z0), (0, .ref (ad X 176)), (1, .int x1), (2, .int x2)]) F dX12_number_14 rfl (by decide) rfl ?_
  refine x_iload_n F dX12_number_15 rfl 0 rfl ?_
  refine x_if_eq (tgt := 29) F dX12_number_16 (by decide) (fun c => ?_) (fun c => ?_)
  · replace h := h.1 c
    refine x_sub (lv' := [(0, .ref (ad X 176)), (1, .int x1), (2, .int x2), (3, .int z0)]) [1, 2, 3, 0] rfl ?_
    exact wb_X12_number_29 F hret   _ _ _ _ h
  · replace h := h.2 c
    refine x_aload_n F dX12_number_19 rfl 1 rfl ?_
    refine x_dup F dX12_number_20 rfl ?_
    refine g_12_3 F kz_176 in_12 (mc bw_13_11) dX12_number_21 ?_
    refine x_iconst (1 : Int32) F dX12_number_24 (by decide) ?_
    refine x_iadd F dX12_number_25 ?_
    refine q_12_3 F kz_176 in_12 (mc bw_13_11) dX12_number_26 ?_
    refine x_nmS (fun s1 es1 => ?_)
    replace h := h s1 es1
    refine x_sub (lv' := [(0, .ref (ad X 176)), (1, .int x1), (2, .int x2), (3, .int z0)]) [1, 2, 3, 0] rfl ?_
    exact wb_X12_number_29 F hret   _ _ _ _ h
def w_X12_number  (p0 : Int32) (p1 : Int32) (σ : wS) (Q : Int32 → wS → Prop) : Prop := w_X12_look  σ (fun r2 s1 => (¬ r2 = (45 : Int32) → (b_X12_number_14   Q p0 p1 (0 : Int32) s1)) ∧ (r2 = (45 : Int32) → (b_X12_number_14   Q p0 p1 (1 : Int32) s1)))
set_option maxRecDepth 100000 in
set_option maxHeartbeats 4000000 in
theorem c_X12_number (l : Launch) (g : wG) (A : Nat → Prop) (hA : adO g A)   {p0 : Int32} {p1 : Int32} {σ : wS} {Q : Int32 → wS → Prop} (h : w_X12_number  p0 p1 σ Q) : Mi l yX12_number wvX12_number 2 40 g A [.ref (g.2.2 176), .int p0, .int p1] σ Q := by
  refine mt_i (own := RX12) (lv := [(0, .ref (g.2.2 176)), (1, .int p0), (2, .int p1)]) (by decide) rfl rfl hA (Nat.le_of_ble_eq_true rfl) rfl ?_
  intro X hl hg hAA F hret
  subst hl hg hAA
  unfold w_X12_number at h
  refine x_aload_n F dX12_number_0 rfl 0 rfl ?_
  refine x_callV_i F (c_X12_look (xl X) (xg X) (xA X) F.2.2.1  h) (bw_V bw_14_2 bw_14_3 bw_14_4 bw_1_5 bw_14_5) rfl cd_X12_look (Nat.le_of_ble_eq_true rfl) (Nat.le_of_ble_eq_true rfl) (kd_w (by decide) kz_176) rfl (cl_12 kz_176) rfl rfl (Nat.le_of_ble_eq_true rfl) dX12_number_1 (fun r2 s1 h => ?_)
  refine x_bipush (45 : Int32) F dX12_number_4 (by decide) ?_
  refine x_icmp_ne (tgt := 13) F dX12_number_6 (by decide) (fun c => ?_) (fun c => ?_)
  · replace h := h.1 c
    refine x_iconst (0 : Int32) F dX12_number_13 (by decide) ?_
    refine x_sub (lv' := [(0, .ref (ad X 176)), (1, .int p0), (2, .int p1)]) [0, 1, 2] rfl ?_
    exact wb_X12_number_14 F hret   _ _ _ _ h
  · replace h := h.2 c
    refine x_iconst (1 : Int32) F dX12_number_9 (by decide) ?_
    refine x_goto (tgt := 14) F dX12_number_10 (by decide) ?_
    refine x_sub (lv' := [(0, .ref (ad X 176)), (1, .int p0), (2, .int p1)]) [0, 1, 2] rfl ?_
    exact wb_X12_number_14 F hret   _ _ _ _ h
/-! X12_leastRule -/
abbrev wvX12_leastRule : List Cond := Cond.code yX12_leastRule cX12_leastRule 1 (some .int) :: wsL_law
theorem cd_X12_leastRule : okN yX12_leastRule RX12 1 := by unfold okN; decide +kernel
def w_X12_leastRule  (p0 : Int32) (σ : wS) (Q : Int32 → wS → Prop) : Prop := (¬ p0 = 0 → ((¬ p0 = (3 : Int32) → (Q (-99 : Int32) σ)) ∧ (p0 = (3 : Int32) → (Q (-999 : Int32) σ)))) ∧ (p0 = 0 → (Q (1 : Int32) σ))
set_option maxRecDepth 100000 in
set_option maxHeartbeats 4000000 in
theorem c_X12_leastRule (l : Launch) (g : wG) (A : Nat → Prop) (hA : adO g A)   {p0 : Int32} {σ : wS} {Q : Int32 → wS → Prop} (h : w_X12_leastRule  p0 σ Q) : Mi l yX12_leastRule wvX12_leastRule 0 0 g A [.int p0] σ Q := by
  refine mt_i (own := RX12) (lv := [(0, .int p0)]) (by decide) rfl rfl hA (Nat.le_of_ble_eq_true rfl) rfl ?_
  intro X hl hg hAA F hret
  subst hl hg hAA
  unfold w_X12_leastRule at h
  refine x_iload_n F dX12_leastRule_0 rfl 0 rfl ?_
  refine x_if_ne (tgt := 8) F dX12_leastRule_1 (by decide) (fun c => ?_) (fun c => ?_)
  · replace h := h.1 c
    refine x_iload_n F dX12_leastRule_8 rfl 0 rfl ?_
    refine x_iconst (3 : Int32) F dX12_leastRule_9 (by decide) ?_
    refine x_icmp_ne (tgt := 19) F dX12_leastRule_10 (by decide) (fun c => ?_) (fun c => ?_)
    · replace h := h.1 c
      refine x_bipush (-99 : Int32) F dX12_leastRule_19 (by decide) ?_
      exact hret _ _ _ _ h rfl dX12_leastRule_21
    · replace h := h.2 c
      refine x_sipush (-999 : Int32) F dX12_leastRule_13 (by decide) ?_
      refine x_goto (tgt := 21) F dX12_leastRule_16 (by decide) ?_
      exact hret _ _ _ _ h rfl dX12_leastRule_21
  · replace h := h.2 c
    refine x_iconst (1 : Int32) F dX12_leastRule_4 (by decide) ?_
    refine x_goto (tgt := 21) F dX12_leastRule_5 (by decide) ?_
    exact hret _ _ _ _ h rfl dX12_leastRule_21
/-! X12_mostRule -/
abbrev wvX12_mostRule : List Cond := Cond.code yX12_mostRule cX12_mostRule 1 (some .int) :: wsL_law
theorem cd_X12_mostRule : okN yX12_mostRule RX12 1 := by unfold okN; decide +kernel
def w_X12_mostRule  (p0 : Int32) (σ : wS) (Q : Int32 → wS → Prop) : Prop := (¬ p0 = 0 → ((¬ p0 = (3 : Int32) → (Q (99 : Int32) σ)) ∧ (p0 = (3 : Int32) → (Q (999 : Int32) σ)))) ∧ (p0 = 0 → (Q (7 : Int32) σ))
set_option maxRecDepth 100000 in
set_option maxHeartbeats 4000000 in
theorem c_X12_mostRule (l : Launch) (g : wG) (A : Nat → Prop) (hA : adO g A)   {p0 : Int32} {σ : wS} {Q : Int32 → wS → Prop} (h : w_X12_mostRule  p0 σ Q) : Mi l yX12_mostRule wvX12_mostRule 0 0 g A [.int p0] σ Q := by
  refine mt_i (own := RX12) (lv := [(0, .int p0)]) (by decide) rfl rfl hA (Nat.le_of_ble_eq_true rfl) rfl ?_
  intro X hl hg hAA F hret
  subst hl hg hAA
  unfold w_X12_mostRule at h
  refine x_iload_n F dX12_mostRule_0 rfl 0 rfl ?_
  refine x_if_ne (tgt := 9) F dX12_mostRule_1 (by decide) (fun c => ?_) (fun c => ?_)
  · replace h := h.1 c
    refine x_iload_n F dX12_mostRule_9 rfl 0 rfl ?_
    refine x_iconst (3 : Int32) F dX12_mostRule_10 (by decide) ?_
    refine x_icmp_ne (tgt := 20) F dX12_mostRule_11 (by decide) (fun c => ?_) (fun c => ?_)
    · replace h := h.1 c
      refine x_bipush (99 : Int32) F dX12_mostRule_20 (by decide) ?_
      exact hret _ _ _ _ h rfl dX12_mostRule_22
    · replace h := h.2 c
      refine x_sipush (999 : Int32) F dX12_mostRule_14 (by decide) ?_
      refine x_goto (tgt := 22) F dX12_mostRule_17 (by decide) ?_
      exact hret _ _ _ _ h rfl dX12_mostRule_22
  · replace h := h.2 c
    refine x_bipush (7 : Int32) F dX12_mostRule_4 (by decide) ?_
    refine x_goto (tgt := 22) F dX12_mostRule_6 (by decide) ?_
    exact hret _ _ _ _ h rfl dX12_mostRule_22
/-! X12_leastOf -/
abbrev wvX12_leastOf : List Cond := Cond.code yX12_leastOf cX12_leastOf 1 (some .int) :: wsL_law
theorem cd_X12_leastOf : okN yX12_leastOf RX12 1 := by unfold okN; decide +kernel
def w_X12_leastOf  (p0 : Int32) (σ : wS) (Q : Int32 → wS → Prop) : Prop := (p0 = (0 : Int32) → (Q (1 : Int32) σ)) ∧ (p0 = (5 : Int32) → (Q (-50 : Int32) σ)) ∧ (p0 = (6 : Int32) → (Q (1 : Int32) σ)) ∧ (¬ p0 = (0 : Int32) → ¬ p0 = (5 : Int32) → ¬ p0 = (6 : Int32) → (Q (-4 : Int32) σ))
set_option maxRecDepth 100000 in
set_option maxHeartbeats 4000000 in
theorem c_X12_leastOf (l : Launch) (g : wG) (A : Nat → Prop) (hA : adO g A)   {p0 : Int32} {σ : wS} {Q : Int32 → wS → Prop} (h : w_X12_leastOf  p0 σ Q) : Mi l yX12_leastOf wvX12_leastOf 0 0 g A [.int p0] σ Q := by
  refine mt_i (own := RX12) (lv := [(0, .int p0)]) (by decide) rfl rfl hA (Nat.le_of_ble_eq_true rfl) rfl ?_
  intro X hl hg hAA F hret
  subst hl hg hAA
  unfold w_X12_leastOf at h
  refine x_iload_n F dX12_leastOf_0 rfl 0 rfl ?_
  by_cases c0 : p0 = (0 : Int32)
  · replace h := h.1 c0
    refine x_look (off := 35) (tgt := 36) F dX12_leastOf_1 (by decide) (by rw [c0]; rfl) (by decide) ?_
    refine x_iconst (1 : Int32) F dX12_leastOf_36 (by decide) ?_
    exact hret _ _ _ _ h rfl dX12_leastOf_37
  replace h := h.2
  by_cases c5 : p0 = (5 : Int32)
  · replace h := h.1 c5
    refine x_look (off := 37) (tgt := 38) F dX12_leastOf_1 (by decide) (by rw [c5]; rfl) (by decide) ?_
    refine x_bipush (-50 : Int32) F dX12_leastOf_38 (by decide) ?_
    exact hret _ _ _ _ h rfl dX12_leastOf_40
  replace h := h.2
  by_cases c6 : p0 = (6 : Int32)
  · replace h := h.1 c6
    refine x_look (off := 35) (tgt := 36) F dX12_leastOf_1 (by decide) (by rw [c6]; rfl) (by decide) ?_
    refine x_iconst (1 : Int32) F dX12_leastOf_36 (by decide) ?_
    exact hret _ _ _ _ h rfl dX12_leastOf_37
  replace h := h.2
  replace h := h c0 c5 c6
  refine x_look (off := 40) (tgt := 41) F dX12_leastOf_1 (by decide) ((lv_osw c0 rfl).trans ((lv_osw c5 rfl).trans ((lv_osw c6 rfl).trans rfl))) (by decide) ?_
  refine x_bipush (-4 : Int32) F dX12_leastOf_41 (by decide) ?_
  exact hret _ _ _ _ h rfl dX12_leastOf_43
/-! X12_mostOf -/
abbrev wvX12_mostOf : List Cond := Cond.code yX12_mostOf cX12_mostOf 1 (some .int) :: wsL_law
theorem cd_X12_mostOf : okN yX12_mostOf RX12 1 := by unfold okN; decide +kernel
def w_X12_mostOf  (p0 : Int32) (σ : wS) (Q : Int32 → wS → Prop) : Prop := (p0 = (0 : Int32) → (Q (9 : Int32) σ)) ∧ (p0 = (5 : Int32) → (Q (50 : Int32) σ)) ∧ (p0 = (6 : Int32) → (Q (999 : Int32) σ)) ∧ (¬ p0 = (0 : Int32) → ¬ p0 = (5 : Int32) → ¬ p0 = (6 : Int32) → (Q (4 : Int32) σ))
set_option maxRecDepth 100000 in
set_option maxHeartbeats 4000000 in
theorem c_X12_mostOf (l : Launch) (g : wG) (A : Nat → Prop) (hA : adO g A)   {p0 : Int32} {σ : wS} {Q : Int32 → wS → Prop} (h : w_X12_mostOf  p0 σ Q) : Mi l yX12_mostOf wvX12_mostOf 0 0 g A [.int p0] σ Q := by
  refine mt_i (own := RX12) (lv := [(0, .int p0)]) (by decide) rfl rfl hA (Nat.le_of_ble_eq_true rfl) rfl ?_
  intro X hl hg hAA F hret
  subst hl hg hAA
  unfold w_X12_mostOf at h
  refine x_iload_n F dX12_mostOf_0 rfl 0 rfl ?_
  by_cases c0 : p0 = (0 : Int32)
  · replace h := h.1 c0
    refine x_look (off := 35) (tgt := 36) F dX12_mostOf_1 (by decide) (by rw [c0]; rfl) (by decide) ?_
    refine x_bipush (9 : Int32) F dX12_mostOf_36 (by decide) ?_
    exact hret _ _ _ _ h rfl dX12_mostOf_38
  replace h := h.2
  by_cases c5 : p0 = (5 : Int32)
  · replace h := h.1 c5
    refine x_look (off := 38) (tgt := 39) F dX12_mostOf_1 (by decide) (by rw [c5]; rfl) (by decide) ?_
    refine x_bipush (50 : Int32) F dX12_mostOf_39 (by decide) ?_
    exact hret _ _ _ _ h rfl dX12_mostOf_41
  replace h := h.2
  by_cases c6 : p0 = (6 : Int32)
  · replace h := h.1 c6
    refine x_look (off := 41) (tgt := 42) F dX12_mostOf_1 (by decide) (by rw [c6]; rfl) (by decide) ?_
    refine x_sipush (999 : Int32) F dX12_mostOf_42 (by decide) ?_
    exact hret _ _ _ _ h rfl dX12_mostOf_45
  replace h := h.2
  replace h := h c0 c5 c6
  refine x_look (off := 45) (tgt := 46) F dX12_mostOf_1 (by decide) ((lv_osw c0 rfl).trans ((lv_osw c5 rfl).trans ((lv_osw c6 rfl).trans rfl))) (by decide) ?_
  refine x_iconst (4 : Int32) F dX12_mostOf_46 (by decide) ?_
  exact hret _ _ _ _ h rfl dX12_mostOf_47
/-! X12_readItems -/
abbrev wvX12_readItems : List Cond := Cond.code yX12_readItems cX12_readItems 5 none :: wsL_law
theorem cd_X12_readItems : okN yX12_readItems RX12 1 := by unfold okN; decide +kernel
def b_X12_readItems_168  (K39 : Int32 → Int32 → Int32 → Int32 → wS → Prop) (Q : wS → Prop) (x1 : Int32) (x2 : Int32) (x3 : Int32) (z0 : Int32) (σ : wS) : Prop := K39 x1 x2 x3 z0 σ
set_option maxRecDepth 100000 in
set_option maxHeartbeats 4000000 in
theorem wb_X12_readItems_168 {X : XT} {Q : wS → Prop}  (F : Fx X cX12_readItems 5 RX12 wvX12_readItems 6 128) (hret : Rv X 5 cX12_readItems Q)  {K39 : Int32 → Int32 → Int32 → Int32 → wS → Prop} (hK39 : ∀ (x1 : Int32) (x2 : Int32) (x3 : Int32) (x4 : Int32) (σ : wS), K39 x1 x2 x3 x4 σ → Wx X 5 σ 39 [(0, .ref (ad X 176)), (1, .int x1), (2, .int x2), (3, .int x3), (4, .int x4)] []) (x1 : Int32) (x2 : Int32) (x3 : Int32) (z0 : Int32) (σ : wS) (h : b_X12_readItems_168  K39 Q x1 x2 x3 z0 σ) : Wx X 5 σ 168 [(0, .ref (ad X 176)), (1, .int x1), (2, .int x2), (3, .int x3)] [.int z0] := by
  unfold b_X12_readItems_168 at h
  refine x_istore (lv' := [(4, .int z0), (0, .ref (ad X 176)), (1, .int x1), (2, .int x2), (3, .int x3)]) F dX12_readItems_168 (by decide) rfl ?_
  refine x_goto (tgt := 39) F dX12_readItems_170 (by decide) ?_
  refine x_sub (lv' := [(0, .ref (ad X 176)), (1, .int x1), (2, .int x2), (3, .int x3), (4, .int z0)]) [1, 2, 3, 4, 0] rfl ?_
  exact hK39 _ _ _ _ _ h
def b_X12_readItems_135  (K39 : Int32 → Int32 → Int32 → Int32 → wS → Prop) (Q : wS → Prop) (x1 : Int32) (x2 : Int32) (x3 : Int32) (x4 : Int32) (σ : wS) : Prop := (¬ (σ.1 176 4) = (-1 : Int32) → (K39 x1 x2 x3 x4 σ)) ∧ ((σ.1 176 4) = (-1 : Int32) → ((x1 = 0 → (w_X12_look  σ (fun r2 s1 => w_X12_spotOf 211 r2 s1 (fun r4 s3 => b_X12_readItems_168  K39 Q x1 x2 x3 r4 s3)))) ∧ (¬ x1 = 0 → (w_X12_look  σ (fun r6 s5 => w_X12_spotOf 210 r6 s5 (fun r8 s7 => b_X12_readItems_168  K39 Q x1 x2 x3 r8 s7))))))
set_option maxRecDepth 100000 in
set_option maxHeartbeats 4000000 in
theorem wb_X12_readItems_135 {X : XT} {Q : wS → Prop}  (F : Fx X cX12_readItems 5 RX12 wvX12_readItems 6 128) (hret : Rv X 5 cX12_readItems Q)  {K39 : Int32 → Int32 → Int32 → Int32 → wS → Prop} (hK39 : ∀ (x1 : Int32) (x2 : Int32) (x3 : Int32) (x4 : Int32) (σ : wS), K39 x1 x2 x3 x4 σ → Wx X 5 σ 39 [(0, .ref (ad X 176)), (1, .int x1), (2, .int x2), (3, .int x3), (4, .int x4)] []) (x1 : Int32) (x2 : Int32) (x3 : Int32) (x4 : Int32) (σ : wS) (h : b_X12_readItems_135  K39 Q x1 x2 x3 x4 σ) : Wx X 5 σ 135 [(0, .ref (ad X 176)), (1, .int x1), (2, .int x2), (3, .int x3), (4, .int x4)] [] := by
  unfold b_X12_readItems_135 at h
  refine x_aload_n F dX12_readItems_135 rfl 0 rfl ?_
  refine g_12_4 F kz_176 in_12 (mc bw_13_12) dX12_readItems_136 ?_
  refine x_iconst (-1 : Int32) F dX12_readItems_139 (by decide) ?_
  refine x_icmp_ne (tgt := 39) F dX12_readItems_140 (by decide) (fun c => ?_) (fun c => ?_)
  · replace h := h.1 c
    refine x_sub (lv' := [(0, .ref (ad X 176)), (1, .int x1), (2, .int x2), (3, .int x3), (4, .int x4)]) [0, 1, 2, 3, 4] rfl ?_
    exact hK39 _ _ _ _ _ h
  · replace h := h.2 c
    refine x_iload_n F dX12_readItems_143 rfl 1 rfl ?_
    refine x_if_eq (tgt := 159) F dX12_readItems_144 (by decide) (fun c => ?_) (fun c => ?_)
    · replace h := h.1 c
      refine x_ldcS (q := 1) F dX12_readItems_159 (by decide) rfl ?_
      refine x_aload_n F dX12_readItems_161 rfl 0 rfl ?_
      refine x_callV_i F (c_X12_look (xl X) (xg X) (xA X) F.2.2.1  h) (bw_V bw_14_2 bw_14_3 bw_14_4 bw_1_5 bw_14_5) rfl cd_X12_look (Nat.le_of_ble_eq_true rfl) (Nat.le_of_ble_eq_true rfl) (kd_w (by decide) kz_176) rfl (cl_12 kz_176) rfl rfl (Nat.le_of_ble_eq_true rfl) dX12_readItems_162 (fun r2 s1 h => ?_)
      refine x_callT_i F (c_X12_spotOf (xl X) (xg X) (xA X) F.2.2.1 kz_211 h) (bw_S bw_14_14 bw_14_15 bw_1_5 bw_14_16) rfl cd_X12_spotOf (Nat.le_of_ble_eq_true rfl) (Nat.le_of_ble_eq_true rfl) rfl rfl (Nat.le_of_ble_eq_true rfl) dX12_readItems_165 (fun r4 s3 h => ?_)
      refine x_sub (lv' := [(0, .ref (ad X 176)), (1, .int x1), (2, .int x2), (3, .int x3)]) [0, 1, 2, 3] rfl ?_
      exact wb_X12_readItems_168 F hret  hK39 _ _ _ _ _ h
    · replace h := h.2 c
      refine x_ldcS (q := 0) F dX12_readItems_147 (by decide) rfl ?_
      refine x_aload_n F dX12_readItems_149 rfl 0 rfl ?_
      refine x_callV_i F (c_X12_look (xl X) (xg X) (xA X) F.2.2.1  h) (bw_V bw_14_2 bw_14_3 bw_14_4 bw_1_5 bw_14_5) rfl cd_X12_look (Nat.le_of_ble_eq_true rfl) (Nat.le_of_ble_eq_true rfl) (kd_w (by decide) kz_176) rfl (cl_12 kz_176) rfl rfl (Nat.le_of_ble_eq_true rfl) dX12_readItems_150 (fun r6 s5 h => ?_)
      refine x_callT_i F (c_X12_spotOf (xl X) (xg X) (xA X) F.2.2.1 kz_210 h) (bw_S bw_14_14 bw_14_15 bw_1_5 bw_14_16) rfl cd_X12_spotOf (Nat.le_of_ble_eq_true rfl) (Nat.le_of_ble_eq_true rfl) rfl rfl (Nat.le_of_ble_eq_true rfl) dX12_readItems_153 (fun r8 s7 h => ?_)
      refine x_goto (tgt := 168) F dX12_readItems_156 (by decide) ?_
      refine x_sub (lv' := [(0, .ref (ad X 176)), (1, .int x1), (2, .int x2), (3, .int x3)]) [0, 1, 2, 3] rfl ?_
      exact wb_X12_readItems_168 F hret  hK39 _ _ _ _ _ h
def l_X12_readItems_39   (Q : wS → Prop) : Nat → Int32 → Int32 → Int32 → Int32 → wS → Prop
  | 0, _, _, _, _, _ => False
  | n + 1, x1, x2, x3, x4, σ => (x4 = (-1 : Int32) → (Q σ)) ∧ (¬ x4 = (-1 : Int32) → ((¬ (σ.1 176 4) = (-1 : Int32) → (Q σ)) ∧ ((σ.1 176 4) = (-1 : Int32) → (w_X12_has x3 x4 σ (fun r2 s1 => (r2 = 0 → (∀ y3 : Int32, y3 = (x3 ||| ((1 : Int32) <<< (x4 &&& 31))) → (∀ s4 : wS, s4 = upI s1 176 3 ((s1.1 176 3) + (1 : Int32)) → ((x1 = 0 → (w_X12_leastOf x4 s4 (fun r6 s5 => w_X12_mostOf x4 s5 (fun r8 s7 => w_X12_number r6 r8 s7 (fun r10 s9 => vp_in (x2 + x4) 56 ∧ (∀ s11 : wS, s11 = upI s9 180 ((x2 + x4)).toNatClampNeg r10 → (b_X12_readItems_135  (fun x1 x2 x3 x4 σ => l_X12_readItems_39   Q n x1 x2 x3 x4 σ) Q x1 x2 y3 x4 s11))))))) ∧ (¬ x1 = 0 → (w_X12_leastRule x4 s4 (fun r13 s12 => w_X12_mostRule x4 s12 (fun r15 s14 => w_X12_number r13 r15 s14 (fun r17 s16 => vp_in x4 4 ∧ (∀ s18 : wS, s18 = upI s16 178 (x4).toNatClampNeg r17 → (b_X12_readItems_135  (fun x1 x2 x3 x4 σ => l_X12_readItems_39   Q n x1 x2 x3 x4 σ) Q x1 x2 y3 x4 s18))))))))))) ∧ (¬ r2 = 0 → (w_X12_fails  s1 (fun s19 => Q s19))))))))
set_option maxRecDepth 100000 in
set_option maxHeartbeats 4000000 in
theorem wl_X12_readItems_39 {X : XT} {Q : wS → Prop}  (F : Fx X cX12_readItems 5 RX12 wvX12_readItems 6 128) (hret : Rv X 5 cX12_readItems Q)    : ∀ (n : Nat) (x1 : Int32) (x2 : Int32) (x3 : Int32) (x4 : Int32) (σ : wS), l_X12_readItems_39   Q n x1 x2 x3 x4 σ → Wx X 5 σ 39 [(0, .ref (ad X 176)), (1, .int x1), (2, .int x2), (3, .int x3), (4, .int x4)] [] := by
  intro n
  induction n with
  | zero =>
    intros
    contradiction
  | succ n ih =>
    intro x1 x2 x3 x4 σ h
    simp only [l_X12_readItems_39] at h
    refine x_iload F dX12_readItems_39 4 rfl ?_
    refine x_iconst (-1 : Int32) F dX12_readItems_41 (by decide) ?_
    refine x_icmp_eq (tgt := 173) F dX12_readItems_42 (by decide) (fun c => ?_) (fun c => ?_)
    · replace h := h.1 c
      exact hret _ _ _ h dX12_readItems_173
    · replace h := h.2 c
      refine x_aload_n F dX12_readItems_45 rfl 0 rfl ?_
      refine g_12_4 F kz_176 in_12 (mc bw_13_12) dX12_readItems_46 ?_
      refine x_iconst (-1 : Int32) F dX12_readItems_49 (by decide) ?_
      refine x_icmp_ne (tgt := 173) F dX12_readItems_50 (by decide) (fun c => ?_) (fun c => ?_)
      · replace h := h.1 c
        exact hret _ _ _ h dX12_readItems_173
      · replace h := h.2 c
        refine x_iload_n F dX12_readItems_53 rfl 3 rfl ?_
        refine x_iload F dX12_readItems_54 4 rfl ?_
        refine x_callT_i F (c_X12_has (xl X) (xg X) (xA X) F.2.2.1  h) (bw_S bw_16_18 bw_16_19 bw_1_5 bw_16_20) rfl cd_X12_has (Nat.le_of_ble_eq_true rfl) (Nat.le_of_ble_eq_true rfl) rfl rfl (Nat.le_of_ble_eq_true rfl) dX12_readItems_56 (fun r2 s1 h => ?_)
        refine x_if_eq (tgt := 67) F dX12_readItems_59 (by decide) (fun c => ?_) (fun c => ?_)
        · replace h := h.1 c
          refine x_iload_n F dX12_readItems_67 rfl 3 rfl ?_
          refine x_iconst (1 : Int32) F dX12_readItems_68 (by decide) ?_
          refine x_iload F dX12_readItems_69 4 rfl ?_
          refine x_ishl F dX12_readItems_71 ?_
          refine x_ior F dX12_readItems_72 ?_
          refine x_topi (fun y3 ey3 => ?_)
          replace h := h y3 ey3
          refine x_istore_n (lv' := [(3, .int y3), (0, .ref (ad X 176)), (1, .int x1), (2, .int x2), (4, .int x4)]) F dX12_readItems_73 rfl (by decide) rfl ?_
          refine x_aload_n F dX12_readItems_74 rfl 1 rfl ?_
          refine x_dup F dX12_readItems_75 rfl ?_
          refine g_12_3 F kz_176 in_12 (mc bw_13_11) dX12_readItems_76 ?_
          refine x_iconst (1 : Int32) F dX12_readItems_79 (by decide) ?_
          refine x_iadd F dX12_readItems_80 ?_
          refine q_12_3 F kz_176 in_12 (mc bw_13_11) dX12_readItems_81 ?_
          refine x_nmS (fun s4 es4 => ?_)
          replace h := h s4 es4
          refine x_iload_n F dX12_readItems_84 rfl 2 rfl ?_
          refine x_if_eq (tgt := 112) F dX12_readItems_85 (by decide) (fun c => ?_) (fun c => ?_)
          · replace h := h.1 c
            refine x_aload_n F dX12_readItems_112 rfl 1 rfl ?_
            refine g_12_7 F kz_176 in_12 (mc bw_7_10) dX12_readItems_113 ?_
            refine x_iload_n F dX12_readItems_116 rfl 3 rfl ?_
            refine x_iload F dX12_readItems_117 4 rfl ?_
            refine x_iadd F dX12_readItems_119 ?_
            refine x_aload_n F dX12_readItems_120 rfl 1 rfl ?_
            refine x_iload F dX12_readItems_121 4 rfl ?_
            refine x_callT_i F (c_X12_leastOf (xl X) (xg X) (xA X) F.2.2.1  h) (bw_S bw_17_15 bw_17_16 bw_1_5 bw_17_17) rfl cd_X12_leastOf (Nat.le_of_ble_eq_true rfl) (Nat.le_of_ble_eq_true rfl) rfl rfl (Nat.le_of_ble_eq_true rfl) dX12_readItems_123 (fun r6 s5 h => ?_)
            refine x_iload F dX12_readItems_126 4 rfl ?_
            refine x_callT_i F (c_X12_mostOf (xl X) (xg X) (xA X) F.2.2.1  h) (bw_S bw_17_18 bw_17_19 bw_1_5 bw_17_20) rfl cd_X12_mostOf (Nat.le_of_ble_eq_true rfl) (Nat.le_of_ble_eq_true rfl) rfl rfl (Nat.le_of_ble_eq_true rfl) dX12_readItems_128 (fun r8 s7 h => ?_)
            refine x_callV_i F (c_X12_number (xl X) (xg X) (xA X) F.2.2.1  h) (bw_V bw_17_7 bw_17_8 bw_17_9 bw_1_5 bw_17_10) rfl cd_X12_number (Nat.le_of_ble_eq_true rfl) (Nat.le_of_ble_eq_true rfl) (kd_w (by decide) kz_176) rfl (cl_12 kz_176) rfl rfl (Nat.le_of_ble_eq_true rfl) dX12_readItems_131 (fun r10 s9 h => ?_)
            obtain ⟨hz, h⟩ := h
            refine x_iast F kz_180 nz_180 hz dX12_readItems_134 ?_
            refine x_nmS (fun s11 es11 => ?_)
            replace h := h s11 es11
            refine x_sub (lv' := [(0, .ref (ad X 176)), (1, .int x1), (2, .int x2), (3, .int y3), (4, .int x4)]) [1, 2, 3, 0, 4] rfl ?_
            exact wb_X12_readItems_135 F hret  ih _ _ _ _ _ h
          · replace h := h.2 c
            refine x_aload_n F dX12_readItems_88 rfl 1 rfl ?_
            refine g_12_5 F kz_176 in_12 (mc bw_7_8) dX12_readItems_89 ?_
            refine x_iload F dX12_readItems_92 4 rfl ?_
            refine x_aload_n F dX12_readItems_94 rfl 1 rfl ?_
            refine x_iload F dX12_readItems_95 4 rfl ?_
            refine x_callT_i F (c_X12_leastRule (xl X) (xg X) (xA X) F.2.2.1  h) (bw_S bw_17_1 bw_17_2 bw_1_5 bw_17_3) rfl cd_X12_leastRule (Nat.le_of_ble_eq_true rfl) (Nat.le_of_ble_eq_true rfl) rfl rfl (Nat.le_of_ble_eq_true rfl) dX12_readItems_97 (fun r13 s12 h => ?_)
            refine x_iload F dX12_readItems_100 4 rfl ?_
            refine x_callT_i F (c_X12_mostRule (xl X) (xg X) (xA X) F.2.2.1  h) (bw_S bw_17_4 bw_17_5 bw_1_5 bw_17_6) rfl cd_X12_mostRule (Nat.le_of_ble_eq_true rfl) (Nat.le_of_ble_eq_true rfl) rfl rfl (Nat.le_of_ble_eq_true rfl) dX12_readItems_102 (fun r15 s14 h => ?_)
            refine x_callV_i F (c_X12_number (xl X) (xg X) (xA X) F.2.2.1  h) (bw_V bw_17_7 bw_17_8 bw_17_9 bw_1_5 bw_17_10) rfl cd_X12_number (Nat.le_of_ble_eq_true rfl) (Nat.le_of_ble_eq_true rfl) (kd_w (by decide) kz_176) rfl (cl_12 kz_176) rfl rfl (Nat.le_of_ble_eq_true rfl) dX12_readItems_105 (fun r17 s16 h => ?_)
            obtain ⟨hz, h⟩ := h
            refine x_iast F kz_178 nz_178 hz dX12_readItems_108 ?_
            refine x_nmS (fun s18 es18 => ?_)
            replace h := h s18 es18
            refine x_goto (tgt := 135) F dX12_readItems_109 (by decide) ?_
            refine x_sub (lv' := [(0, .ref (ad X 176)), (1, .int x1), (2, .int x2), (3, .int y3), (4, .int x4)]) [1, 2, 3, 0, 4] rfl ?_
            exact wb_X12_readItems_135 F hret  ih _ _ _ _ _ h
        · replace h := h.2 c
          refine x_aload_n F dX12_readItems_62 rfl 0 rfl ?_
          refine x_callV_v F (c_X12_fails (xl X) (xg X) (xA X) F.2.2.1  h) (bw_V bw_16_21 bw_16_22 bw_16_23 bw_1_5 bw_17_0) rfl cd_X12_fails (Nat.le_of_ble_eq_true rfl) (Nat.le_of_ble_eq_true rfl) (kd_w (by decide) kz_176) rfl (cl_12 kz_176) rfl rfl (Nat.le_of_ble_eq_true rfl) dX12_readItems_63 (fun s19 h => ?_)
          exact hret _ _ _ h dX12_readItems_66
def b_X12_readItems_37   (Q : wS → Prop) (x1 : Int32) (x2 : Int32) (x3 : Int32) (z0 : Int32) (σ : wS) : Prop := (∃ m, l_X12_readItems_39   Q m x1 x2 x3 z0 σ)
set_option maxRecDepth 100000 in
set_option maxHeartbeats 4000000 in
theorem wb_X12_readItems_37 {X : XT} {Q : wS → Prop}  (F : Fx X cX12_readItems 5 RX12 wvX12_readItems 6 128) (hret : Rv X 5 cX12_readItems Q)    (x1 : Int32) (x2 : Int32) (x3 : Int32) (z0 : Int32) (σ : wS) (h : b_X12_readItems_37   Q x1 x2 x3 z0 σ) : Wx X 5 σ 37 [(0, .ref (ad X 176)), (1, .int x1), (2, .int x2), (3, .int x3)] [.int z0] := by
  unfold b_X12_readItems_37 at h
  refine x_istore (lv' := [(4, .int z0), (0, .ref (ad X 176)), (1, .int x1), (2, .int x2), (3, .int x3)]) F dX12_readItems_37 (by decide) rfl ?_
  refine x_sub (lv' := [(0, .ref (ad X 176)), (1, .int x1), (2, .int x2), (3, .int x3), (4, .int z0)]) [1, 2, 3, 4, 0] rfl ?_
  obtain ⟨n2, h⟩ := h
  exact wl_X12_readItems_39 F hret   n2 _ _ _ _ _ h
def w_X12_readItems  (p0 : Int32) (σ : wS) (Q : wS → Prop) : Prop := ∀ y1 : Int32, y1 = ((7 : Int32) * ((σ.1 176 13) - (1 : Int32))) → ((p0 = 0 → (w_X12_look  σ (fun r3 s2 => w_X12_spotOf 211 r3 s2 (fun r5 s4 => b_X12_readItems_37   Q p0 y1 (0 : Int32) r5 s4)))) ∧ (¬ p0 = 0 → (w_X12_look  σ (fun r7 s6 => w_X12_spotOf 210 r7 s6 (fun r9 s8 => b_X12_readItems_37   Q p0 y1 (0 : Int32) r9 s8)))))
set_option maxRecDepth 100000 in
set_option maxHeartbeats 4000000 in
theorem c_X12_readItems (l : Launch) (g : wG) (A : Nat → Prop) (hA : adO g A)   {p0 : Int32} {σ : wS} {Q : wS → Prop} (h : w_X12_readItems  p0 σ Q) : Mv l yX12_readItems wvX12_readItems 6 128 g A [.ref (g.2.2 176), .int p0] σ Q := by
  refine mt_v (own := RX12) (lv := [(0, .ref (g.2.2 176)), (1, .int p0)]) (by decide) rfl rfl hA (Nat.le_of_ble_eq_true rfl) rfl ?_
  intro X hl hg hAA F hret
  subst hl hg hAA
  unfold w_X12_readItems at h
  refine x_bipush (7 : Int32) F dX12_readItems_0 (by decide) ?_
  refine x_aload_n F dX12_readItems_2 rfl 0 rfl ?_
  refine g_12_13 F kz_176 in_12 (mc bw_13_20) dX12_readItems_3 ?_
  refine x_iconst (1 : Int32) F dX12_readItems_6 (by decide) ?_
  refine x_isub F dX12_readItems_7 ?_
  refine x_imul F dX12_readItems_8 ?_
  refine x_topi (fun y1 ey1 => ?_)
  replace h := h y1 ey1
  refine x_istore_n (lv' := [(2, .int y1), (0, .ref (ad X 176)), (1, .int p0)]) F dX12_readItems_9 rfl (by decide) rfl ?_
  refine x_iconst (0 : Int32) F dX12_readItems_10 (by decide) ?_
  refine x_istore_n (lv' := [(3, .int (0 : Int32)), (2, .int y1), (0, .ref (ad X 176)), (1, .int p0)]) F dX12_readItems_11 rfl (by decide) rfl ?_
  refine x_iload_n F dX12_readItems_12 rfl 3 rfl ?_
  refine x_if_eq (tgt := 28) F dX12_readItems_13 (by decide) (fun c => ?_) (fun c => ?_)
  · replace h := h.1 c
    refine x_ldcS (q := 1) F dX12_readItems_28 (by decide) rfl ?_
    refine x_aload_n F dX12_readItems_30 rfl 2 rfl ?_
    refine x_callV_i F (c_X12_look (xl X) (xg X) (xA X) F.2.2.1  h) (bw_V bw_14_2 bw_14_3 bw_14_4 bw_1_5 bw_14_5) rfl cd_X12_look (Nat.le_of_ble_eq_true rfl) (Nat.le_of_ble_eq_true rfl) (kd_w (by decide) kz_176) rfl (cl_12 kz_176) rfl rfl (Nat.le_of_ble_eq_true rfl) dX12_readItems_31 (fun r3 s2 h => ?_)
    refine x_callT_i F (c_X12_spotOf (xl X) (xg X) (xA X) F.2.2.1 kz_211 h) (bw_S bw_14_14 bw_14_15 bw_1_5 bw_14_16) rfl cd_X12_spotOf (Nat.le_of_ble_eq_true rfl) (Nat.le_of_ble_eq_true rfl) rfl rfl (Nat.le_of_ble_eq_true rfl) dX12_readItems_34 (fun r5 s4 h => ?_)
    refine x_sub (lv' := [(0, .ref (ad X 176)), (1, .int p0), (2, .int y1), (3, .int (0 : Int32))]) [2, 3, 1, 0] rfl ?_
    exact wb_X12_readItems_37 F hret   _ _ _ _ _ h
  · replace h := h.2 c
    refine x_ldcS (q := 0) F dX12_readItems_16 (by decide) rfl ?_
    refine x_aload_n F dX12_readItems_18 rfl 2 rfl ?_
    refine x_callV_i F (c_X12_look (xl X) (xg X) (xA X) F.2.2.1  h) (bw_V bw_14_2 bw_14_3 bw_14_4 bw_1_5 bw_14_5) rfl cd_X12_look (Nat.le_of_ble_eq_true rfl) (Nat.le_of_ble_eq_true rfl) (kd_w (by decide) kz_176) rfl (cl_12 kz_176) rfl rfl (Nat.le_of_ble_eq_true rfl) dX12_readItems_19 (fun r7 s6 h => ?_)
    refine x_callT_i F (c_X12_spotOf (xl X) (xg X) (xA X) F.2.2.1 kz_210 h) (bw_S bw_14_14 bw_14_15 bw_1_5 bw_14_16) rfl cd_X12_spotOf (Nat.le_of_ble_eq_true rfl) (Nat.le_of_ble_eq_true rfl) rfl rfl (Nat.le_of_ble_eq_true rfl) dX12_readItems_22 (fun r9 s8 h => ?_)
    refine x_goto (tgt := 37) F dX12_readItems_25 (by decide) ?_
    refine x_sub (lv' := [(0, .ref (ad X 176)), (1, .int p0), (2, .int y1), (3, .int (0 : Int32))]) [2, 3, 1, 0] rfl ?_
    exact wb_X12_readItems_37 F hret   _ _ _ _ _ h
/-! X12_readClause -/
abbrev wvX12_readClause : List Cond := Cond.code yX12_readClause cX12_readClause 4 none :: wsL_law
theorem cd_X12_readClause : okN yX12_readClause RX12 0 := by unfold okN; decide +kernel
def b_X12_readClause_140   (Q : wS → Prop)  (σ : wS) : Prop := w_X12_fails  σ (fun s1 => Q s1)
set_option maxRecDepth 100000 in
set_option maxHeartbeats 4000000 in
theorem wb_X12_readClause_140 {X : XT} {Q : wS → Prop}  (F : Fx X cX12_readClause 4 RX12 wvX12_readClause 7 152) (hret : Rv X 4 cX12_readClause Q)     (σ : wS) (h : b_X12_readClause_140   Q  σ) : Wx X 4 σ 140 [(0, .ref (ad X 176))] [] := by
  unfold b_X12_readClause_140 at h
  refine x_aload_n F dX12_readClause_140 rfl 0 rfl ?_
  refine x_callV_v F (c_X12_fails (xl X) (xg X) (xA X) F.2.2.1  h) (bw_V bw_16_21 bw_16_22 bw_16_23 bw_1_5 bw_17_0) rfl cd_X12_fails (Nat.le_of_ble_eq_true rfl) (Nat.le_of_ble_eq_true rfl) (kd_w (by decide) kz_176) rfl (cl_12 kz_176) rfl rfl (Nat.le_of_ble_eq_true rfl) dX12_readClause_141 (fun s1 h => ?_)
  exact hret _ _ _ h dX12_readClause_144
def b_X12_readClause_105  (K66 : Int32 → Int32 → wS → Prop) (Q : wS → Prop) (x2 : Int32) (x3 : Int32) (z0 : Int32) (z1 : Int32) (σ : wS) : Prop := vp_in z1 56 ∧ (∀ s1 : wS, s1 = upI σ 180 (z1).toNatClampNeg z0 → (∀ y2 : Int32, y2 = (x3 + (1 : Int32)) → (K66 x2 y2 s1)))
set_option maxRecDepth 100000 in
set_option maxHeartbeats 4000000 in
theorem wb_X12_readClause_105 {X : XT} {Q : wS → Prop}  (F : Fx X cX12_readClause 4 RX12 wvX12_readClause 7 152) (hret : Rv X 4 cX12_readClause Q)  {K66 : Int32 → Int32 → wS → Prop} (hK66 : ∀ (x2 : Int32) (x3 : Int32) (σ : wS), K66 x2 x3 σ → Wx X 4 σ 66 [(0, .ref (ad X 176)), (2, .int x2), (3, .int x3)] []) (x2 : Int32) (x3 : Int32) (z0 : Int32) (z1 : Int32) (σ : wS) (h : b_X12_readClause_105  K66 Q x2 x3 z0 z1 σ) : Wx X 4 σ 105 [(0, .ref (ad X 176)), (2, .int x2), (3, .int x3)] [.int z0, .int z1, .ref (ad X 180)] := by
  unfold b_X12_readClause_105 at h
  obtain ⟨hz, h⟩ := h
  refine x_iast F kz_180 nz_180 hz dX12_readClause_105 ?_
  refine x_nmS (fun s1 es1 => ?_)
  replace h := h s1 es1
  obtain ⟨y2, ey2⟩ : ∃ y : Int32, y = (x3 + (1 : Int32)) := ⟨_, rfl⟩
  replace h := h y2 ey2
  refine x_iinc (q := 2) (v := y2) (lv' := [(3, .int y2), (0, .ref (ad X 176)), (2, .int x2)]) F dX12_readClause_106 rfl (by rw [ey2]; rfl) (by decide) rfl ?_
  refine x_goto (tgt := 66) F dX12_readClause_109 (by decide) ?_
  refine x_sub (lv' := [(0, .ref (ad X 176)), (2, .int x2), (3, .int y2)]) [1, 2, 0] rfl ?_
  exact hK66 _ _ _ h
def b_X12_readClause_88  (K66 : Int32 → Int32 → wS → Prop) (Q : wS → Prop) (x2 : Int32) (x3 : Int32) (z0 : Int32) (σ : wS) : Prop := b_X12_readClause_105  K66 Q x2 x3 (1 : Int32) z0 σ
set_option maxRecDepth 100000 in
set_option maxHeartbeats 4000000 in
theorem wb_X12_readClause_88 {X : XT} {Q : wS → Prop}  (F : Fx X cX12_readClause 4 RX12 wvX12_readClause 7 152) (hret : Rv X 4 cX12_readClause Q)  {K66 : Int32 → Int32 → wS → Prop} (hK66 : ∀ (x2 : Int32) (x3 : Int32) (σ : wS), K66 x2 x3 σ → Wx X 4 σ 66 [(0, .ref (ad X 176)), (2, .int x2), (3, .int x3)] []) (x2 : Int32) (x3 : Int32) (z0 : Int32) (σ : wS) (h : b_X12_readClause_88  K66 Q x2 x3 z0 σ) : Wx X 4 σ 88 [(0, .ref (ad X 176)), (2, .int x2), (3, .int x3)] [.int z0, .ref (ad X 180)] := by
  unfold b_X12_readClause_88 at h
  refine x_iconst (1 : Int32) F dX12_readClause_88 (by decide) ?_
  refine x_goto (tgt := 105) F dX12_readClause_89 (by decide) ?_
  refine x_sub (lv' := [(0, .ref (ad X 176)), (2, .int x2), (3, .int x3)]) [0, 1, 2] rfl ?_
  exact wb_X12_readClause_105 F hret  hK66 _ _ _ _ _ h
def l_X12_readClause_66   (Q : wS → Prop) : Nat → Int32 → Int32 → wS → Prop
  | 0, _, _, _ => False
  | n + 1, x2, x3, σ => ((7 : Int32) ≤ x3 → (∀ s1 : wS, s1 = upI σ 176 13 ((σ.1 176 13) + (1 : Int32)) → (∀ s2 : wS, s2 = upI s1 176 3 ((s1.1 176 3) + (1 : Int32)) → (w_X12_readItems (0 : Int32) s2 (fun s3 => Q s3))))) ∧ (¬ (7 : Int32) ≤ x3 → ((x3 = 0 → (b_X12_readClause_88  (fun x2 x3 σ => l_X12_readClause_66   Q n x2 x3 σ) Q x2 x3 (x2 + x3) σ)) ∧ (¬ x3 = 0 → ((¬ x3 = (3 : Int32) → ((¬ x3 = (6 : Int32) → (b_X12_readClause_105  (fun x2 x3 σ => l_X12_readClause_66   Q n x2 x3 σ) Q x2 x3 (0 : Int32) (x2 + x3) σ)) ∧ (x3 = (6 : Int32) → (b_X12_readClause_105  (fun x2 x3 σ => l_X12_readClause_66   Q n x2 x3 σ) Q x2 x3 (999 : Int32) (x2 + x3) σ)))) ∧ (x3 = (3 : Int32) → (b_X12_readClause_88  (fun x2 x3 σ => l_X12_readClause_66   Q n x2 x3 σ) Q x2 x3 (x2 + x3) σ))))))
set_option maxRecDepth 100000 in
set_option maxHeartbeats 4000000 in
theorem wl_X12_readClause_66 {X : XT} {Q : wS → Prop}  (F : Fx X cX12_readClause 4 RX12 wvX12_readClause 7 152) (hret : Rv X 4 cX12_readClause Q)    : ∀ (n : Nat) (x2 : Int32) (x3 : Int32) (σ : wS), l_X12_readClause_66   Q n x2 x3 σ → Wx X 4 σ 66 [(0, .ref (ad X 176)), (2, .int x2), (3, .int x3)] [] := by
  intro n
  induction n with
  | zero =>
    intros
    contradiction
  | succ n ih =>
    intro x2 x3 σ h
    simp only [l_X12_readClause_66] at h
    refine x_iload_n F dX12_readClause_66 rfl 2 rfl ?_
    refine x_bipush (7 : Int32) F dX12_readClause_67 (by decide) ?_
    refine x_icmp_ge (tgt := 112) F dX12_readClause_69 (by decide) (fun c => ?_) (fun c => ?_)
    · replace h := h.1 c
      refine x_aload_n F dX12_readClause_112 rfl 0 rfl ?_
      refine x_dup F dX12_readClause_113 rfl ?_
      refine g_12_13 F kz_176 in_12 (mc bw_13_20) dX12_readClause_114 ?_
      refine x_iconst (1 : Int32) F dX12_readClause_117 (by decide) ?_
      refine x_iadd F dX12_readClause_118 ?_
      refine q_12_13 F kz_176 in_12 (mc bw_13_20) dX12_readClause_119 ?_
      refine x_nmS (fun s1 es1 => ?_)
      replace h := h s1 es1
      refine x_aload_n F dX12_readClause_122 rfl 0 rfl ?_
      refine x_dup F dX12_readClause_123 rfl ?_
      refine g_12_3 F kz_176 in_12 (mc bw_13_11) dX12_readClause_124 ?_
      refine x_iconst (1 : Int32) F dX12_readClause_127 (by decide) ?_
      refine x_iadd F dX12_readClause_128 ?_
      refine q_12_3 F kz_176 in_12 (mc bw_13_11) dX12_readClause_129 ?_
      refine x_nmS (fun s2 es2 => ?_)
      replace h := h s2 es2
      refine x_aload_n F dX12_readClause_132 rfl 0 rfl ?_
      refine x_iconst (0 : Int32) F dX12_readClause_133 (by decide) ?_
      refine x_callV_v F (c_X12_readItems (xl X) (xg X) (xA X) F.2.2.1  h) (bw_V bw_14_10 bw_14_11 bw_14_12 bw_1_5 bw_14_13) rfl cd_X12_readItems (Nat.le_of_ble_eq_true rfl) (Nat.le_of_ble_eq_true rfl) (kd_w (by decide) kz_176) rfl (cl_12 kz_176) rfl rfl (Nat.le_of_ble_eq_true rfl) dX12_readClause_134 (fun s3 h => ?_)
      refine x_goto (tgt := 144) F dX12_readClause_137 (by decide) ?_
      exact hret _ _ _ h dX12_readClause_144
    · replace h := h.2 c
      refine x_aload_n F dX12_readClause_72 rfl 0 rfl ?_
      refine g_12_7 F kz_176 in_12 (mc bw_7_10) dX12_readClause_73 ?_
      refine x_iload_n F dX12_readClause_76 rfl 1 rfl ?_
      refine x_iload_n F dX12_readClause_77 rfl 2 rfl ?_
      refine x_iadd F dX12_readClause_78 ?_
      refine x_iload_n F dX12_readClause_79 rfl 2 rfl ?_
      refine x_if_eq (tgt := 88) F dX12_readClause_80 (by decide) (fun c => ?_) (fun c => ?_)
      · replace h := h.1 c
        refine x_sub (lv' := [(0, .ref (ad X 176)), (2, .int x2), (3, .int x3)]) [0, 1, 2] rfl ?_
        exact wb_X12_readClause_88 F hret  ih _ _ _ _ h
      · replace h := h.2 c
        refine x_iload_n F dX12_readClause_83 rfl 2 rfl ?_
        refine x_iconst (3 : Int32) F dX12_readClause_84 (by decide) ?_
        refine x_icmp_ne (tgt := 92) F dX12_readClause_85 (by decide) (fun c => ?_) (fun c => ?_)
        · replace h := h.1 c
          refine x_iload_n F dX12_readClause_92 rfl 2 rfl ?_
          refine x_bipush (6 : Int32) F dX12_readClause_93 (by decide) ?_
          refine x_icmp_ne (tgt := 104) F dX12_readClause_95 (by decide) (fun c => ?_) (fun c => ?_)
          · replace h := h.1 c
            refine x_iconst (0 : Int32) F dX12_readClause_104 (by decide) ?_
            refine x_sub (lv' := [(0, .ref (ad X 176)), (2, .int x2), (3, .int x3)]) [0, 1, 2] rfl ?_
            exact wb_X12_readClause_105 F hret  ih _ _ _ _ _ h
          · replace h := h.2 c
            refine x_sipush (999 : Int32) F dX12_readClause_98 (by decide) ?_
            refine x_goto (tgt := 105) F dX12_readClause_101 (by decide) ?_
            refine x_sub (lv' := [(0, .ref (ad X 176)), (2, .int x2), (3, .int x3)]) [0, 1, 2] rfl ?_
            exact wb_X12_readClause_105 F hret  ih _ _ _ _ _ h
        · replace h := h.2 c
          refine x_sub (lv' := [(0, .ref (ad X 176)), (2, .int x2), (3, .int x3)]) [0, 1, 2] rfl ?_
          exact wb_X12_readClause_88 F hret  ih _ _ _ _ h
def b_X12_readClause_41   (Q : wS → Prop) (x1 : Int32) (σ : wS) : Prop := (¬ x1 = (114 : Int32) → (b_X12_readClause_140   Q  σ)) ∧ (x1 = (114 : Int32) → (((8 : Int32) ≤ (σ.1 176 13) → (b_X12_readClause_140   Q  σ)) ∧ (¬ (8 : Int32) ≤ (σ.1 176 13) → (∀ y1 : Int32, y1 = ((7 : Int32) * (σ.1 176 13)) → ((∃ m, l_X12_readClause_66   Q m y1 (0 : Int32) σ))))))
set_option maxRecDepth 100000 in
set_option maxHeartbeats 4000000 in
theorem wb_X12_readClause_41 {X : XT} {Q : wS → Prop}  (F : Fx X cX12_readClause 4 RX12 wvX12_readClause 7 152) (hret : Rv X 4 cX12_readClause Q)    (x1 : Int32) (σ : wS) (h : b_X12_readClause_41   Q x1 σ) : Wx X 4 σ 41 [(0, .ref (ad X 176)), (1, .int x1)] [] := by
  unfold b_X12_readClause_41 at h
  refine x_iload_n F dX12_readClause_41 rfl 1 rfl ?_
  refine x_bipush (114 : Int32) F dX12_readClause_42 (by decide) ?_
  refine x_icmp_ne (tgt := 140) F dX12_readClause_44 (by decide) (fun c => ?_) (fun c => ?_)
  · replace h := h.1 c
    refine x_sub (lv' := [(0, .ref (ad X 176))]) [0] rfl ?_
    exact wb_X12_readClause_140 F hret    _ h
  · replace h := h.2 c
    refine x_aload_n F dX12_readClause_47 rfl 0 rfl ?_
    refine g_12_13 F kz_176 in_12 (mc bw_13_20) dX12_readClause_48 ?_
    refine x_bipush (8 : Int32) F dX12_readClause_51 (by decide) ?_
    refine x_icmp_ge (tgt := 140) F dX12_readClause_53 (by decide) (fun c => ?_) (fun c => ?_)
    · replace h := h.1 c
      refine x_sub (lv' := [(0, .ref (ad X 176))]) [0] rfl ?_
      exact wb_X12_readClause_140 F hret    _ h
    · replace h := h.2 c
      refine x_bipush (7 : Int32) F dX12_readClause_56 (by decide) ?_
      refine x_aload_n F dX12_readClause_58 rfl 0 rfl ?_
      refine g_12_13 F kz_176 in_12 (mc bw_13_20) dX12_readClause_59 ?_
      refine x_imul F dX12_readClause_62 ?_
      refine x_topi (fun y1 ey1 => ?_)
      replace h := h y1 ey1
      refine x_istore_n (lv' := [(2, .int y1), (0, .ref (ad X 176)), (1, .int x1)]) F dX12_readClause_63 rfl (by decide) rfl ?_
      refine x_iconst (0 : Int32) F dX12_readClause_64 (by decide) ?_
      refine x_istore_n (lv' := [(3, .int (0 : Int32)), (2, .int y1), (0, .ref (ad X 176)), (1, .int x1)]) F dX12_readClause_65 rfl (by decide) rfl ?_
      refine x_sub (lv' := [(0, .ref (ad X 176)), (2, .int y1), (3, .int (0 : Int32))]) [2, 1, 0] rfl ?_
      obtain ⟨n2, h⟩ := h
      exact wl_X12_readClause_66 F hret   n2 _ _ _ h
def w_X12_readClause   (σ : wS) (Q : wS → Prop) : Prop := w_X12_look  σ (fun r2 s1 => (¬ r2 = (115 : Int32) → (b_X12_readClause_41   Q r2 s1)) ∧ (r2 = (115 : Int32) → ((¬ (s1.1 176 16) = 0 → (b_X12_readClause_41   Q r2 s1)) ∧ ((s1.1 176 16) = 0 → (∀ s3 : wS, s3 = upI s1 176 16 (1 : Int32) → (∀ s4 : wS, s4 = upI s3 176 3 ((s3.1 176 3) + (1 : Int32)) → (w_X12_readItems (1 : Int32) s4 (fun s5 => Q s5))))))))
set_option maxRecDepth 100000 in
set_option maxHeartbeats 4000000 in
theorem c_X12_readClause (l : Launch) (g : wG) (A : Nat → Prop) (hA : adO g A)    {σ : wS} {Q : wS → Prop} (h : w_X12_readClause   σ Q) : Mv l yX12_readClause wvX12_readClause 7 152 g A [.ref (g.2.2 176)] σ Q := by
  refine mt_v (own := RX12) (lv := [(0, .ref (g.2.2 176))]) (by decide) rfl rfl hA (Nat.le_of_ble_eq_true rfl) rfl ?_
  intro X hl hg hAA F hret
  subst hl hg hAA
  unfold w_X12_readClause at h
  refine x_aload_n F dX12_readClause_0 rfl 0 rfl ?_
  refine x_callV_i F (c_X12_look (xl X) (xg X) (xA X) F.2.2.1  h) (bw_V bw_14_2 bw_14_3 bw_14_4 bw_1_5 bw_14_5) rfl cd_X12_look (Nat.le_of_ble_eq_true rfl) (Nat.le_of_ble_eq_true rfl) (kd_w (by decide) kz_176) rfl (cl_12 kz_176) rfl rfl (Nat.le_of_ble_eq_true rfl) dX12_readClause_1 (fun r2 s1 h => ?_)
  refine x_istore_n (lv' := [(1, .int r2), (0, .ref (ad X 176))]) F dX12_readClause_4 rfl (by decide) rfl ?_
  refine x_iload_n F dX12_readClause_5 rfl 0 rfl ?_
  refine x_bipush (115 : Int32) F dX12_readClause_6 (by decide) ?_
  refine x_icmp_ne (tgt := 41) F dX12_readClause_8 (by decide) (fun c => ?_) (fun c => ?_)
  · replace h := h.1 c
    refine x_sub (lv' := [(0, .ref (ad X 176)), (1, .int r2)]) [1, 0] rfl ?_
    exact wb_X12_readClause_41 F hret   _ _ h
  · replace h := h.2 c
    refine x_aload_n F dX12_readClause_11 rfl 1 rfl ?_
    refine g_12_16 F kz_176 in_12 (mc bw_13_21) dX12_readClause_12 ?_
    refine x_if_ne (tgt := 41) F dX12_readClause_15 (by decide) (fun c => ?_) (fun c => ?_)
    · replace h := h.1 c
      refine x_sub (lv' := [(0, .ref (ad X 176)), (1, .int r2)]) [1, 0] rfl ?_
      exact wb_X12_readClause_41 F hret   _ _ h
    · replace h := h.2 c
      refine x_aload_n F dX12_readClause_18 rfl 1 rfl ?_
      refine x_iconst (1 : Int32) F dX12_readClause_19 (by decide) ?_
      refine q_12_16 F kz_176 (by decide) in_12 (mc bw_13_21) dX12_readClause_20 ?_
      refine x_nmS (fun s3 es3 => ?_)
      replace h := h s3 es3
      refine x_aload_n F dX12_readClause_23 rfl 1 rfl ?_
      refine x_dup F dX12_readClause_24 rfl ?_
      refine g_12_3 F kz_176 in_12 (mc bw_13_11) dX12_readClause_25 ?_
      refine x_iconst (1 : Int32) F dX12_readClause_28 (by decide) ?_
      refine x_iadd F dX12_readClause_29 ?_
      refine q_12_3 F kz_176 in_12 (mc bw_13_11) dX12_readClause_30 ?_
      refine x_nmS (fun s4 es4 => ?_)
      replace h := h s4 es4
      refine x_aload_n F dX12_readClause_33 rfl 1 rfl ?_
      refine x_iconst (1 : Int32) F dX12_readClause_34 (by decide) ?_
      refine x_callV_v F (c_X12_readItems (xl X) (xg X) (xA X) F.2.2.1  h) (bw_V bw_14_10 bw_14_11 bw_14_12 bw_1_5 bw_14_13) rfl cd_X12_readItems (Nat.le_of_ble_eq_true rfl) (Nat.le_of_ble_eq_true rfl) (kd_w (by decide) kz_176) rfl (cl_12 kz_176) rfl rfl (Nat.le_of_ble_eq_true rfl) dX12_readClause_35 (fun s5 h => ?_)
      refine x_goto (tgt := 144) F dX12_readClause_38 (by decide) ?_
      exact hret _ _ _ h dX12_readClause_144
/-! X12_isWhole -/
abbrev wvX12_isWhole : List Cond := Cond.code yX12_isWhole cX12_isWhole 2 (some .boolean) :: wsL_law
theorem cd_X12_isWhole : okN yX12_isWhole RX12 0 := by unfold okN; decide +kernel
def b_X12_isWhole_40  (K2 : Int32 → wS → Prop) (Q : Int32 → wS → Prop) (x1 : Int32) (σ : wS) : Prop := ∀ y1 : Int32, y1 = (x1 + (1 : Int32)) → (K2 y1 σ)
set_option maxRecDepth 100000 in
set_option maxHeartbeats 4000000 in
theorem wb_X12_isWhole_40 {X : XT} {Q : Int32 → wS → Prop}  (F : Fx X cX12_isWhole 2 RX12 wvX12_isWhole 0 0) (hret : Ri X 2 cX12_isWhole .boolean Q)  {K2 : Int32 → wS → Prop} (hK2 : ∀ (x1 : Int32) (σ : wS), K2 x1 σ → Wx X 2 σ 2 [(0, .ref (ad X 176)), (1, .int x1)] []) (x1 : Int32) (σ : wS) (h : b_X12_isWhole_40  K2 Q x1 σ) : Wx X 2 σ 40 [(0, .ref (ad X 176)), (1, .int x1)] [] := by
  unfold b_X12_isWhole_40 at h
  obtain ⟨y1, ey1⟩ : ∃ y : Int32, y = (x1 + (1 : Int32)) := ⟨_, rfl⟩
  replace h := h y1 ey1
  refine x_iinc (q := 1) (v := y1) (lv' := [(1, .int y1), (0, .ref (ad X 176))]) F dX12_isWhole_40 rfl (by rw [ey1]; rfl) (by decide) rfl ?_
  refine x_goto (tgt := 2) F dX12_isWhole_43 (by decide) ?_
  refine x_sub (lv' := [(0, .ref (ad X 176)), (1, .int y1)]) [1, 0] rfl ?_
  exact hK2 _ _ h
def l_X12_isWhole_2   (Q : Int32 → wS → Prop) : Nat → Int32 → wS → Prop
  | 0, _, _ => False
  | n + 1, x1, σ => ((σ.1 176 13) ≤ x1 → (((σ.1 176 13) ≤ 0 → (Q (0 : Int32) σ)) ∧ (¬ (σ.1 176 13) ≤ 0 → (Q (1 : Int32) σ)))) ∧ (¬ (σ.1 176 13) ≤ x1 → (vp_in (((7 : Int32) * x1) + (3 : Int32)) 56 ∧ ((¬ (σ.1 180 ((((7 : Int32) * x1) + (3 : Int32))).toNatClampNeg) = 0 → (b_X12_isWhole_40  (fun x1 σ => l_X12_isWhole_2   Q n x1 σ) Q x1 σ)) ∧ ((σ.1 180 ((((7 : Int32) * x1) + (3 : Int32))).toNatClampNeg) = 0 → (vp_in (((7 : Int32) * x1) + (4 : Int32)) 56 ∧ ((¬ (σ.1 180 ((((7 : Int32) * x1) + (4 : Int32))).toNatClampNeg) = 0 → (b_X12_isWhole_40  (fun x1 σ => l_X12_isWhole_2   Q n x1 σ) Q x1 σ)) ∧ ((σ.1 180 ((((7 : Int32) * x1) + (4 : Int32))).toNatClampNeg) = 0 → (Q (0 : Int32) σ))))))))
set_option maxRecDepth 100000 in
set_option maxHeartbeats 4000000 in
theorem wl_X12_isWhole_2 {X : XT} {Q : Int32 → wS → Prop}  (F : Fx X cX12_isWhole 2 RX12 wvX12_isWhole 0 0) (hret : Ri X 2 cX12_isWhole .boolean Q)    : ∀ (n : Nat) (x1 : Int32) (σ : wS), l_X12_isWhole_2   Q n x1 σ → Wx X 2 σ 2 [(0, .ref (ad X 176)), (1, .int x1)] [] := by
  intro n
  induction n with
  | zero =>
    intros
    contradiction
  | succ n ih =>
    intro x1 σ h
    simp only [l_X12_isWhole_2] at h
    refine x_iload_n F dX12_isWhole_2 rfl 1 rfl ?_
    refine x_aload_n F dX12_isWhole_3 rfl 0 rfl ?_
    refine g_12_13 F kz_176 in_12 (mc bw_13_20) dX12_isWhole_4 ?_
    refine x_icmp_ge (tgt := 46) F dX12_isWhole_7 (by decide) (fun c => ?_) (fun c => ?_)
    · replace h := h.1 c
      refine x_aload_n F dX12_isWhole_46 rfl 0 rfl ?_
      refine g_12_13 F kz_176 in_12 (mc bw_13_20) dX12_isWhole_47 ?_
      refine x_if_le (tgt := 57) F dX12_isWhole_50 (by decide) (fun c => ?_) (fun c => ?_)
      · replace h := h.1 c
        refine x_iconst (0 : Int32) F dX12_isWhole_57 (by decide) ?_
        exact hret _ _ _ _ h (nar01 (by decide)) dX12_isWhole_58
      · replace h := h.2 c
        refine x_iconst (1 : Int32) F dX12_isWhole_53 (by decide) ?_
        refine x_goto (tgt := 58) F dX12_isWhole_54 (by decide) ?_
        exact hret _ _ _ _ h (nar01 (by decide)) dX12_isWhole_58
    · replace h := h.2 c
      refine x_aload_n F dX12_isWhole_10 rfl 0 rfl ?_
      refine g_12_7 F kz_176 in_12 (mc bw_7_10) dX12_isWhole_11 ?_
      refine x_bipush (7 : Int32) F dX12_isWhole_14 (by decide) ?_
      refine x_iload_n F dX12_isWhole_16 rfl 1 rfl ?_
      refine x_imul F dX12_isWhole_17 ?_
      refine x_iconst (3 : Int32) F dX12_isWhole_18 (by decide) ?_
      refine x_iadd F dX12_isWhole_19 ?_
      obtain ⟨hj, h⟩ := h
      refine x_iald F kz_180 nz_180 hj dX12_isWhole_20 ?_
      refine x_if_ne (tgt := 40) F dX12_isWhole_21 (by decide) (fun c => ?_) (fun c => ?_)
      · replace h := h.1 c
        refine x_sub (lv' := [(0, .ref (ad X 176)), (1, .int x1)]) [0, 1] rfl ?_
        exact wb_X12_isWhole_40 F hret  ih _ _ h
      · replace h := h.2 c
        refine x_aload_n F dX12_isWhole_24 rfl 0 rfl ?_
        refine g_12_7 F kz_176 in_12 (mc bw_7_10) dX12_isWhole_25 ?_
        refine x_bipush (7 : Int32) F dX12_isWhole_28 (by decide) ?_
        refine x_iload_n F dX12_isWhole_30 rfl 1 rfl ?_
        refine x_imul F dX12_isWhole_31 ?_
        refine x_iconst (4 : Int32) F dX12_isWhole_32 (by decide) ?_
        refine x_iadd F dX12_isWhole_33 ?_
        obtain ⟨hj, h⟩ := h
        refine x_iald F kz_180 nz_180 hj dX12_isWhole_34 ?_
        refine x_if_ne (tgt := 40) F dX12_isWhole_35 (by decide) (fun c => ?_) (fun c => ?_)
        · replace h := h.1 c
          refine x_sub (lv' := [(0, .ref (ad X 176)), (1, .int x1)]) [0, 1] rfl ?_
          exact wb_X12_isWhole_40 F hret  ih _ _ h
        · replace h := h.2 c
          refine x_iconst (0 : Int32) F dX12_isWhole_38 (by decide) ?_
          exact hret _ _ _ _ h (nar01 (by decide)) dX12_isWhole_39
def w_X12_isWhole   (σ : wS) (Q : Int32 → wS → Prop) : Prop := (∃ m, l_X12_isWhole_2   Q m (0 : Int32) σ)
set_option maxRecDepth 100000 in
set_option maxHeartbeats 4000000 in
theorem c_X12_isWhole (l : Launch) (g : wG) (A : Nat → Prop) (hA : adO g A)    {σ : wS} {Q : Int32 → wS → Prop} (h : w_X12_isWhole   σ Q) : Mi l yX12_isWhole wvX12_isWhole 0 0 g A [.ref (g.2.2 176)] σ Q := by
  refine mt_i (own := RX12) (lv := [(0, .ref (g.2.2 176))]) (by decide) rfl rfl hA (Nat.le_of_ble_eq_true rfl) rfl ?_
  intro X hl hg hAA F hret
  subst hl hg hAA
  unfold w_X12_isWhole at h
  refine x_iconst (0 : Int32) F dX12_isWhole_0 (by decide) ?_
  refine x_istore_n (lv' := [(1, .int (0 : Int32)), (0, .ref (ad X 176))]) F dX12_isWhole_1 rfl (by decide) rfl ?_
  refine x_sub (lv' := [(0, .ref (ad X 176)), (1, .int (0 : Int32))]) [1, 0] rfl ?_
  obtain ⟨n2, h⟩ := h
  exact wl_X12_isWhole_2 F hret   n2 _ _ h
/-! X12_readMooring -/
abbrev wvX12_readMooring : List Cond := Cond.code yX12_readMooring cX12_readMooring 2 none :: wsL_law
theorem cd_X12_readMooring : okN yX12_readMooring RX12 0 := by unfold okN; decide +kernel
def b_X12_readMooring_119   (Q : wS → Prop)  (σ : wS) : Prop := w_X12_fails  σ (fun s1 => Q s1)
set_option maxRecDepth 100000 in
set_option maxHeartbeats 4000000 in
theorem wb_X12_readMooring_119 {X : XT} {Q : wS → Prop}  (F : Fx X cX12_readMooring 2 RX12 wvX12_readMooring 8 175) (hret : Rv X 2 cX12_readMooring Q)     (σ : wS) (h : b_X12_readMooring_119   Q  σ) : Wx X 2 σ 119 [(0, .ref (ad X 176))] [] := by
  unfold b_X12_readMooring_119 at h
  refine x_aload_n F dX12_readMooring_119 rfl 0 rfl ?_
  refine x_callV_v F (c_X12_fails (xl X) (xg X) (xA X) F.2.2.1  h) (bw_V bw_16_21 bw_16_22 bw_16_23 bw_1_5 bw_17_0) rfl cd_X12_fails (Nat.le_of_ble_eq_true rfl) (Nat.le_of_ble_eq_true rfl) (kd_w (by decide) kz_176) rfl (cl_12 kz_176) rfl rfl (Nat.le_of_ble_eq_true rfl) dX12_readMooring_120 (fun s1 h => ?_)
  exact hret _ _ _ h dX12_readMooring_123
def b_X12_readMooring_96   (Q : wS → Prop)  (σ : wS) : Prop := (¬ (σ.1 176 4) = (-1 : Int32) → (Q σ)) ∧ ((σ.1 176 4) = (-1 : Int32) → (w_X12_look  σ (fun r2 s1 => (¬ r2 = (-1 : Int32) → (b_X12_readMooring_119   Q  s1)) ∧ (r2 = (-1 : Int32) → (w_X12_isWhole  s1 (fun r4 s3 => (¬ r4 = 0 → (Q s3)) ∧ (r4 = 0 → (b_X12_readMooring_119   Q  s3))))))))
set_option maxRecDepth 100000 in
set_option maxHeartbeats 4000000 in
theorem wb_X12_readMooring_96 {X : XT} {Q : wS → Prop}  (F : Fx X cX12_readMooring 2 RX12 wvX12_readMooring 8 175) (hret : Rv X 2 cX12_readMooring Q)     (σ : wS) (h : b_X12_readMooring_96   Q  σ) : Wx X 2 σ 96 [(0, .ref (ad X 176))] [] := by
  unfold b_X12_readMooring_96 at h
  refine x_aload_n F dX12_readMooring_96 rfl 0 rfl ?_
  refine g_12_4 F kz_176 in_12 (mc bw_13_12) dX12_readMooring_97 ?_
  refine x_iconst (-1 : Int32) F dX12_readMooring_100 (by decide) ?_
  refine x_icmp_ne (tgt := 123) F dX12_readMooring_101 (by decide) (fun c => ?_) (fun c => ?_)
  · replace h := h.1 c
    exact hret _ _ _ h dX12_readMooring_123
  · replace h := h.2 c
    refine x_aload_n F dX12_readMooring_104 rfl 0 rfl ?_
    refine x_callV_i F (c_X12_look (xl X) (xg X) (xA X) F.2.2.1  h) (bw_V bw_14_2 bw_14_3 bw_14_4 bw_1_5 bw_14_5) rfl cd_X12_look (Nat.le_of_ble_eq_true rfl) (Nat.le_of_ble_eq_true rfl) (kd_w (by decide) kz_176) rfl (cl_12 kz_176) rfl rfl (Nat.le_of_ble_eq_true rfl) dX12_readMooring_105 (fun r2 s1 h => ?_)
    refine x_iconst (-1 : Int32) F dX12_readMooring_108 (by decide) ?_
    refine x_icmp_ne (tgt := 119) F dX12_readMooring_109 (by decide) (fun c => ?_) (fun c => ?_)
    · replace h := h.1 c
      refine x_sub (lv' := [(0, .ref (ad X 176))]) [0] rfl ?_
      exact wb_X12_readMooring_119 F hret    _ h
    · replace h := h.2 c
      refine x_aload_n F dX12_readMooring_112 rfl 0 rfl ?_
      refine x_callV_i F (c_X12_isWhole (xl X) (xg X) (xA X) F.2.2.1  h) (bw_V bw_17_21 bw_17_22 bw_17_23 bw_1_5 bw_18_0) rfl cd_X12_isWhole (Nat.le_of_ble_eq_true rfl) (Nat.le_of_ble_eq_true rfl) (kd_w (by decide) kz_176) rfl (cl_12 kz_176) rfl rfl (Nat.le_of_ble_eq_true rfl) dX12_readMooring_113 (fun r4 s3 h => ?_)
      refine x_if_ne (tgt := 123) F dX12_readMooring_116 (by decide) (fun c => ?_) (fun c => ?_)
      · replace h := h.1 c
        exact hret _ _ _ h dX12_readMooring_123
      · replace h := h.2 c
        refine x_sub (lv' := [(0, .ref (ad X 176))]) [0] rfl ?_
        exact wb_X12_readMooring_119 F hret    _ h
def b_X12_readMooring_78  (K40 : Int32 → wS → Prop) (Q : wS → Prop) (z0 : Int32) (σ : wS) : Prop := (z0 = 0 → (K40 z0 σ)) ∧ (¬ z0 = 0 → (∀ s1 : wS, s1 = upI σ 176 3 ((σ.1 176 3) + (1 : Int32)) → (K40 z0 s1)))
set_option maxRecDepth 100000 in
set_option maxHeartbeats 4000000 in
theorem wb_X12_readMooring_78 {X : XT} {Q : wS → Prop}  (F : Fx X cX12_readMooring 2 RX12 wvX12_readMooring 8 175) (hret : Rv X 2 cX12_readMooring Q)  {K40 : Int32 → wS → Prop} (hK40 : ∀ (x1 : Int32) (σ : wS), K40 x1 σ → Wx X 2 σ 40 [(0, .ref (ad X 176)), (1, .int x1)] []) (z0 : Int32) (σ : wS) (h : b_X12_readMooring_78  K40 Q z0 σ) : Wx X 2 σ 78 [(0, .ref (ad X 176))] [.int z0] := by
  unfold b_X12_readMooring_78 at h
  refine x_istore_n (lv' := [(1, .int z0), (0, .ref (ad X 176))]) F dX12_readMooring_78 rfl (by decide) rfl ?_
  refine x_iload_n F dX12_readMooring_79 rfl 0 rfl ?_
  refine x_if_eq (tgt := 40) F dX12_readMooring_80 (by decide) (fun c => ?_) (fun c => ?_)
  · replace h := h.1 c
    refine x_sub (lv' := [(0, .ref (ad X 176)), (1, .int z0)]) [1, 0] rfl ?_
    exact hK40 _ _ h
  · replace h := h.2 c
    refine x_aload_n F dX12_readMooring_83 rfl 1 rfl ?_
    refine x_dup F dX12_readMooring_84 rfl ?_
    refine g_12_3 F kz_176 in_12 (mc bw_13_11) dX12_readMooring_85 ?_
    refine x_iconst (1 : Int32) F dX12_readMooring_88 (by decide) ?_
    refine x_iadd F dX12_readMooring_89 ?_
    refine q_12_3 F kz_176 in_12 (mc bw_13_11) dX12_readMooring_90 ?_
    refine x_nmS (fun s1 es1 => ?_)
    replace h := h s1 es1
    refine x_goto (tgt := 40) F dX12_readMooring_93 (by decide) ?_
    refine x_sub (lv' := [(0, .ref (ad X 176)), (1, .int z0)]) [1, 0] rfl ?_
    exact hK40 _ _ h
def b_X12_readMooring_77  (K40 : Int32 → wS → Prop) (Q : wS → Prop)  (σ : wS) : Prop := b_X12_readMooring_78  K40 Q (0 : Int32) σ
set_option maxRecDepth 100000 in
set_option maxHeartbeats 4000000 in
theorem wb_X12_readMooring_77 {X : XT} {Q : wS → Prop}  (F : Fx X cX12_readMooring 2 RX12 wvX12_readMooring 8 175) (hret : Rv X 2 cX12_readMooring Q)  {K40 : Int32 → wS → Prop} (hK40 : ∀ (x1 : Int32) (σ : wS), K40 x1 σ → Wx X 2 σ 40 [(0, .ref (ad X 176)), (1, .int x1)] [])  (σ : wS) (h : b_X12_readMooring_77  K40 Q  σ) : Wx X 2 σ 77 [(0, .ref (ad X 176))] [] := by
  unfold b_X12_readMooring_77 at h
  refine x_iconst (0 : Int32) F dX12_readMooring_77 (by decide) ?_
  refine x_sub (lv' := [(0, .ref (ad X 176))]) [0] rfl ?_
  exact wb_X12_readMooring_78 F hret  hK40 _ _ h
def l_X12_readMooring_40   (Q : wS → Prop) : Nat → Int32 → wS → Prop
  | 0, _, _ => False
  | n + 1, x1, σ => (x1 = 0 → (b_X12_readMooring_96   Q  σ)) ∧ (¬ x1 = 0 → ((¬ (σ.1 176 4) = (-1 : Int32) → (b_X12_readMooring_96   Q  σ)) ∧ ((σ.1 176 4) = (-1 : Int32) → (w_X12_readClause  σ (fun s1 => (¬ (s1.1 176 4) = (-1 : Int32) → (b_X12_readMooring_77  (fun x1 σ => l_X12_readMooring_40   Q n x1 σ) Q  s1)) ∧ ((s1.1 176 4) = (-1 : Int32) → (w_X12_look  s1 (fun r4 s3 => (¬ r4 = (59 : Int32) → (b_X12_readMooring_77  (fun x1 σ => l_X12_readMooring_40   Q n x1 σ) Q  s3)) ∧ (r4 = (59 : Int32) → (b_X12_readMooring_78  (fun x1 σ => l_X12_readMooring_40   Q n x1 σ) Q (1 : Int32) s3))))))))))
set_option maxRecDepth 100000 in
set_option maxHeartbeats 4000000 in
theorem wl_X12_readMooring_40 {X : XT} {Q : wS → Prop}  (F : Fx X cX12_readMooring 2 RX12 wvX12_readMooring 8 175) (hret : Rv X 2 cX12_readMooring Q)    : ∀ (n : Nat) (x1 : Int32) (σ : wS), l_X12_readMooring_40   Q n x1 σ → Wx X 2 σ 40 [(0, .ref (ad X 176)), (1, .int x1)] [] := by
  intro n
  induction n with
  | zero =>
    intros
    contradiction
  | succ n ih =>
    intro x1 σ h
    simp only [l_X12_readMooring_40] at h
    refine x_iload_n F dX12_readMooring_40 rfl 1 rfl ?_
    refine x_if_eq (tgt := 96) F dX12_readMooring_41 (by decide) (fun c => ?_) (fun c => ?_)
    · replace h := h.1 c
      refine x_sub (lv' := [(0, .ref (ad X 176))]) [0] rfl ?_
      exact wb_X12_readMooring_96 F hret    _ h
    · replace h := h.2 c
      refine x_aload_n F dX12_readMooring_44 rfl 0 rfl ?_
      refine g_12_4 F kz_176 in_12 (mc bw_13_12) dX12_readMooring_45 ?_
      refine x_iconst (-1 : Int32) F dX12_readMooring_48 (by decide) ?_
      refine x_icmp_ne (tgt := 96) F dX12_readMooring_49 (by decide) (fun c => ?_) (fun c => ?_)
      · replace h := h.1 c
        refine x_sub (lv' := [(0, .ref (ad X 176))]) [0] rfl ?_
        exact wb_X12_readMooring_96 F hret    _ h
      · replace h := h.2 c
        refine x_aload_n F dX12_readMooring_52 rfl 0 rfl ?_
        refine x_callV_v F (c_X12_readClause (xl X) (xg X) (xA X) F.2.2.1  h) (bw_V bw_13_22 bw_13_23 bw_14_0 bw_1_5 bw_14_1) rfl cd_X12_readClause (Nat.le_of_ble_eq_true rfl) (Nat.le_of_ble_eq_true rfl) (kd_w (by decide) kz_176) rfl (cl_12 kz_176) rfl rfl (Nat.le_of_ble_eq_true rfl) dX12_readMooring_53 (fun s1 h => ?_)
        refine x_aload_n F dX12_readMooring_56 rfl 0 rfl ?_
        refine g_12_4 F kz_176 in_12 (mc bw_13_12) dX12_readMooring_57 ?_
        refine x_iconst (-1 : Int32) F dX12_readMooring_60 (by decide) ?_
        refine x_icmp_ne (tgt := 77) F dX12_readMooring_61 (by decide) (fun c => ?_) (fun c => ?_)
        · replace h := h.1 c
          refine x_sub (lv' := [(0, .ref (ad X 176))]) [0] rfl ?_
          exact wb_X12_readMooring_77 F hret  ih  _ h
        · replace h := h.2 c
          refine x_aload_n F dX12_readMooring_64 rfl 0 rfl ?_
          refine x_callV_i F (c_X12_look (xl X) (xg X) (xA X) F.2.2.1  h) (bw_V bw_14_2 bw_14_3 bw_14_4 bw_1_5 bw_14_5) rfl cd_X12_look (Nat.le_of_ble_eq_true rfl) (Nat.le_of_ble_eq_true rfl) (kd_w (by decide) kz_176) rfl (cl_12 kz_176) rfl rfl (Nat.le_of_ble_eq_true rfl) dX12_readMooring_65 (fun r4 s3 h => ?_)
          refine x_bipush (59 : Int32) F dX12_readMooring_68 (by decide) ?_
          refine x_icmp_ne (tgt := 77) F dX12_readMooring_70 (by decide) (fun c => ?_) (fun c => ?_)
          · replace h := h.1 c
            refine x_sub (lv' := [(0, .ref (ad X 176))]) [0] rfl ?_
            exact wb_X12_readMooring_77 F hret  ih  _ h
          · replace h := h.2 c
            refine x_iconst (1 : Int32) F dX12_readMooring_73 (by decide) ?_
            refine x_goto (tgt := 78) F dX12_readMooring_74 (by decide) ?_
            refine x_sub (lv' := [(0, .ref (ad X 176))]) [0] rfl ?_
            exact wb_X12_readMooring_78 F hret  ih _ _ h
def w_X12_readMooring   (σ : wS) (Q : wS → Prop) : Prop := ∀ s1 : wS, s1 = upI σ 178 ((0 : Int32)).toNatClampNeg (3 : Int32) → (∀ s2 : wS, s2 = upI s1 178 ((1 : Int32)).toNatClampNeg (0 : Int32) → (∀ s3 : wS, s3 = upI s2 178 ((2 : Int32)).toNatClampNeg (0 : Int32) → (∀ s4 : wS, s4 = upI s3 178 ((3 : Int32)).toNatClampNeg (0 : Int32) → (∀ s5 : wS, s5 = upI s4 176 13 (0 : Int32) → (∀ s6 : wS, s6 = upI s5 176 16 (0 : Int32) → ((∃ m, l_X12_readMooring_40   Q m (1 : Int32) s6)))))))
set_option maxRecDepth 100000 in
set_option maxHeartbeats 4000000 in
theorem c_X12_readMooring (l : Launch) (g : wG) (A : Nat → Prop) (hA : adO g A)    {σ : wS} {Q : wS → Prop} (h : w_X12_readMooring   σ Q) : Mv l yX12_readMooring wvX12_readMooring 8 175 g A [.ref (g.2.2 176)] σ Q := by
  refine mt_v (own := RX12) (lv := [(0, .ref (g.2.2 176))]) (by decide) rfl rfl hA (Nat.le_of_ble_eq_true rfl) rfl ?_
  intro X hl hg hAA F hret
  subst hl hg hAA
  unfold w_X12_readMooring at h
  refine x_aload_n F dX12_readMooring_0 rfl 0 rfl ?_
  refine g_12_5 F kz_176 in_12 (mc bw_7_8) dX12_readMooring_1 ?_
  refine x_iconst (0 : Int32) F dX12_readMooring_4 (by decide) ?_
  refine x_iconst (3 : Int32) F dX12_readMooring_5 (by decide) ?_
  refine x_iast F kz_178 nz_178 (by unfold vp_in; decide) dX12_readMooring_6 ?_
  refine x_nmS (fun s1 es1 => ?_)
  replace h := h s1 es1
  refine x_aload_n F dX12_readMooring_7 rfl 0 rfl ?_
  refine g_12_5 F kz_176 in_12 (mc bw_7_8) dX12_readMooring_8 ?_
  refine x_iconst (1 : Int32) F dX12_readMooring_11 (by decide) ?_
  refine x_iconst (0 : Int32) F dX12_readMooring_12 (by decide) ?_
  refine x_iast F kz_178 nz_178 (by unfold vp_in; decide) dX12_readMooring_13 ?_
  refine x_nmS (fun s2 es2 => ?_)
  replace h := h s2 es2
  refine x_aload_n F dX12_readMooring_14 rfl 0 rfl ?_
  refine g_12_5 F kz_176 in_12 (mc bw_7_8) dX12_readMooring_15 ?_
  refine x_iconst (2 : Int32) F dX12_readMooring_18 (by decide) ?_
  refine x_iconst (0 : Int32) F dX12_readMooring_19 (by decide) ?_
  refine x_iast F kz_178 nz_178 (by unfold vp_in; decide) dX12_readMooring_20 ?_
  refine x_nmS (fun s3 es3 => ?_)
  replace h := h s3 es3
  refine x_aload_n F dX12_readMooring_21 rfl 0 rfl ?_
  refine g_12_5 F kz_176 in_12 (mc bw_7_8) dX12_readMooring_22 ?_
  refine x_iconst (3 : Int32) F dX12_readMooring_25 (by decide) ?_
  refine x_iconst (0 : Int32) F dX12_readMooring_26 (by decide) ?_
  refine x_iast F kz_178 nz_178 (by unfold vp_in; decide) dX12_readMooring_27 ?_
  refine x_nmS (fun s4 es4 => ?_)
  replace h := h s4 es4
  refine x_aload_n F dX12_readMooring_28 rfl 0 rfl ?_
  refine x_iconst (0 : Int32) F dX12_readMooring_29 (by decide) ?_
  refine q_12_13 F kz_176 in_12 (mc bw_13_20) dX12_readMooring_30 ?_
  refine x_nmS (fun s5 es5 => ?_)
  replace h := h s5 es5
  refine x_aload_n F dX12_readMooring_33 rfl 0 rfl ?_
  refine x_iconst (0 : Int32) F dX12_readMooring_34 (by decide) ?_
  refine q_12_16 F kz_176 (by decide) in_12 (mc bw_13_21) dX12_readMooring_35 ?_
  refine x_nmS (fun s6 es6 => ?_)
  replace h := h s6 es6
  refine x_iconst (1 : Int32) F dX12_readMooring_38 (by decide) ?_
  refine x_istore_n (lv' := [(1, .int (1 : Int32)), (0, .ref (ad X 176))]) F dX12_readMooring_39 rfl (by decide) rfl ?_
  refine x_sub (lv' := [(0, .ref (ad X 176)), (1, .int (1 : Int32))]) [1, 0] rfl ?_
  obtain ⟨n2, h⟩ := h
  exact wl_X12_readMooring_40 F hret   n2 _ _ h
/-! X12_digit -/
abbrev wvX12_digit : List Cond := Cond.code yX12_digit cX12_digit 2 (some .int) :: wsL_law
theorem cd_X12_digit : okN yX12_digit RX12 0 := by unfold okN; decide +kernel
def w_X12_digit   (σ : wS) (Q : Int32 → wS → Prop) : Prop := w_X12_look  σ (fun r2 s1 => w_X12_isDigit  s1 (fun r4 s3 => (¬ r4 = 0 → (∀ s5 : wS, s5 = upI s3 176 3 ((s3.1 176 3) + (1 : Int32)) → (Q (r2 - (48 : Int32)) s5))) ∧ (r4 = 0 → (w_X12_fails  s3 (fun s6 => Q (0 : Int32) s6)))))
set_option maxRecDepth 100000 in
set_option maxHeartbeats 4000000 in
theorem c_X12_digit (l : Launch) (g : wG) (A : Nat → Prop) (hA : adO g A)    {σ : wS} {Q : Int32 → wS → Prop} (h : w_X12_digit   σ Q) : Mi l yX12_digit wvX12_digit 2 40 g A [.ref (g.2.2 176)] σ Q := by
  refine mt_i (own := RX12) (lv := [(0, .ref (g.2.2 176))]) (by decide) rfl rfl hA (Nat.le_of_ble_eq_true rfl) rfl ?_
  intro X hl hg hAA F hret
  subst hl hg hAA
  unfold w_X12_digit at h
  refine x_aload_n F dX12_digit_0 rfl 0 rfl ?_
  refine x_callV_i F (c_X12_look (xl X) (xg X) (xA X) F.2.2.1  h) (bw_V bw_14_2 bw_14_3 bw_14_4 bw_1_5 bw_14_5) rfl cd_X12_look (Nat.le_of_ble_eq_true rfl) (Nat.le_of_ble_eq_true rfl) (kd_w (by decide) kz_176) rfl (cl_12 kz_176) rfl rfl (Nat.le_of_ble_eq_true rfl) dX12_digit_1 (fun r2 s1 h => ?_)
  refine x_istore_n (lv' := [(1, .int r2), (0, .ref (ad X 176))]) F dX12_digit_4 rfl (by decide) rfl ?_
  refine x_aload_n F dX12_digit_5 rfl 1 rfl ?_
  refine x_callV_i F (c_X12_isDigit (xl X) (xg X) (xA X) F.2.2.1  h) (bw_V bw_17_11 bw_17_12 bw_17_13 bw_1_5 bw_17_14) rfl cd_X12_isDigit (Nat.le_of_ble_eq_true rfl) (Nat.le_of_ble_eq_true rfl) (kd_w (by decide) kz_176) rfl (cl_12 kz_176) rfl rfl (Nat.le_of_ble_eq_true rfl) dX12_digit_6 (fun r4 s3 h => ?_)
  refine x_if_ne (tgt := 18) F dX12_digit_9 (by decide) (fun c => ?_) (fun c => ?_)
  · replace h := h.1 c
    refine x_aload_n F dX12_digit_18 rfl 1 rfl ?_
    refine x_dup F dX12_digit_19 rfl ?_
    refine g_12_3 F kz_176 in_12 (mc bw_13_11) dX12_digit_20 ?_
    refine x_iconst (1 : Int32) F dX12_digit_23 (by decide) ?_
    refine x_iadd F dX12_digit_24 ?_
    refine q_12_3 F kz_176 in_12 (mc bw_13_11) dX12_digit_25 ?_
    refine x_nmS (fun s5 es5 => ?_)
    replace h := h s5 es5
    refine x_iload_n F dX12_digit_28 rfl 0 rfl ?_
    refine x_bipush (48 : Int32) F dX12_digit_29 (by decide) ?_
    refine x_isub F dX12_digit_31 ?_
    exact hret _ _ _ _ h rfl dX12_digit_32
  · replace h := h.2 c
    refine x_aload_n F dX12_digit_12 rfl 1 rfl ?_
    refine x_callV_v F (c_X12_fails (xl X) (xg X) (xA X) F.2.2.1  h) (bw_V bw_16_21 bw_16_22 bw_16_23 bw_1_5 bw_17_0) rfl cd_X12_fails (Nat.le_of_ble_eq_true rfl) (Nat.le_of_ble_eq_true rfl) (kd_w (by decide) kz_176) rfl (cl_12 kz_176) rfl rfl (Nat.le_of_ble_eq_true rfl) dX12_digit_13 (fun s6 h => ?_)
    refine x_iconst (0 : Int32) F dX12_digit_16 (by decide) ?_
    exact hret _ _ _ _ h rfl dX12_digit_17
/-! X12_sign -/
abbrev wvX12_sign : List Cond := Cond.code yX12_sign cX12_sign 2 none :: wsL_law
theorem cd_X12_sign : okN yX12_sign RX12 1 := by unfold okN; decide +kernel
def w_X12_sign  (p0 : Int32) (σ : wS) (Q : wS → Prop) : Prop := ((σ.1 176 4) = (-1 : Int32) → (w_X12_look  σ (fun r2 s1 => (¬ r2 = p0 → (w_X12_fails  s1 (fun s3 => Q s3))) ∧ (r2 = p0 → (∀ s5 : wS, s5 = upI s1 176 3 ((s1.1 176 3) + (1 : Int32)) → (Q s5)))))) ∧ (¬ (σ.1 176 4) = (-1 : Int32) → (Q σ))
set_option maxRecDepth 100000 in
set_option maxHeartbeats 4000000 in
theorem c_X12_sign (l : Launch) (g : wG) (A : Nat → Prop) (hA : adO g A)   {p0 : Int32} {σ : wS} {Q : wS → Prop} (h : w_X12_sign  p0 σ Q) : Mv l yX12_sign wvX12_sign 2 40 g A [.ref (g.2.2 176), .int p0] σ Q := by
  refine mt_v (own := RX12) (lv := [(0, .ref (g.2.2 176)), (1, .int p0)]) (by decide) rfl rfl hA (Nat.le_of_ble_eq_true rfl) rfl ?_
  intro X hl hg hAA F hret
  subst hl hg hAA
  unfold w_X12_sign at h
  refine x_aload_n F dX12_sign_0 rfl 0 rfl ?_
  refine g_12_4 F kz_176 in_12 (mc bw_13_12) dX12_sign_1 ?_
  refine x_iconst (-1 : Int32) F dX12_sign_4 (by decide) ?_
  refine x_icmp_eq (tgt := 9) F dX12_sign_5 (by decide) (fun c => ?_) (fun c => ?_)
  · replace h := h.1 c
    refine x_aload_n F dX12_sign_9 rfl 0 rfl ?_
    refine x_callV_i F (c_X12_look (xl X) (xg X) (xA X) F.2.2.1  h) (bw_V bw_14_2 bw_14_3 bw_14_4 bw_1_5 bw_14_5) rfl cd_X12_look (Nat.le_of_ble_eq_true rfl) (Nat.le_of_ble_eq_true rfl) (kd_w (by decide) kz_176) rfl (cl_12 kz_176) rfl rfl (Nat.le_of_ble_eq_true rfl) dX12_sign_10 (fun r2 s1 h => ?_)
    refine x_iload_n F dX12_sign_13 rfl 1 rfl ?_
    refine x_icmp_ne (tgt := 30) F dX12_sign_14 (by decide) (fun c => ?_) (fun c => ?_)
    · replace h := h.1 c
      refine x_aload_n F dX12_sign_30 rfl 0 rfl ?_
      refine x_callV_v F (c_X12_fails (xl X) (xg X) (xA X) F.2.2.1  h) (bw_V bw_16_21 bw_16_22 bw_16_23 bw_1_5 bw_17_0) rfl cd_X12_fails (Nat.le_of_ble_eq_true rfl) (Nat.le_of_ble_eq_true rfl) (kd_w (by decide) kz_176) rfl (cl_12 kz_176) rfl rfl (Nat.le_of_ble_eq_true rfl) dX12_sign_31 (fun s3 h => ?_)
      exact hret _ _ _ h dX12_sign_34
    · replace h := h.2 c
      refine x_aload_n F dX12_sign_17 rfl 0 rfl ?_
      refine x_dup F dX12_sign_18 rfl ?_
      refine g_12_3 F kz_176 in_12 (mc bw_13_11) dX12_sign_19 ?_
      refine x_iconst (1 : Int32) F dX12_sign_22 (by decide) ?_
      refine x_iadd F dX12_sign_23 ?_
      refine q_12_3 F kz_176 in_12 (mc bw_13_11) dX12_sign_24 ?_
      refine x_nmS (fun s5 es5 => ?_)
      replace h := h s5 es5
      refine x_goto (tgt := 34) F dX12_sign_27 (by decide) ?_
      exact hret _ _ _ h dX12_sign_34
  · replace h := h.2 c
    exact hret _ _ _ h dX12_sign_8
/-! X12_readStep -/
abbrev wvX12_readStep : List Cond := Cond.code yX12_readStep cX12_readStep 4 none :: wsL_law
theorem cd_X12_readStep : okN yX12_readStep RX12 1 := by unfold okN; decide +kernel
def b_X12_readStep_167  (K115 : Int32 → Int32 → wS → Prop) (Q : wS → Prop) (x1 : Int32) (x3 : Int32) (σ : wS) : Prop := ∀ y1 : Int32, y1 = (x3 + (1 : Int32)) → (K115 x1 y1 σ)
set_option maxRecDepth 100000 in
set_option maxHeartbeats 4000000 in
theorem wb_X12_readStep_167 {X : XT} {Q : wS → Prop}  (F : Fx X cX12_readStep 4 RX12 wvX12_readStep 6 128) (hret : Rv X 4 cX12_readStep Q)  {K115 : Int32 → Int32 → wS → Prop} (hK115 : ∀ (x1 : Int32) (x3 : Int32) (σ : wS), K115 x1 x3 σ → Wx X 4 σ 115 [(0, .ref (ad X 176)), (1, .int x1), (3, .int x3)] []) (x1 : Int32) (x3 : Int32) (σ : wS) (h : b_X12_readStep_167  K115 Q x1 x3 σ) : Wx X 4 σ 167 [(0, .ref (ad X 176)), (1, .int x1), (3, .int x3)] [] := by
  unfold b_X12_readStep_167 at h
  obtain ⟨y1, ey1⟩ : ∃ y : Int32, y = (x3 + (1 : Int32)) := ⟨_, rfl⟩
  replace h := h y1 ey1
  refine x_iinc (q := 2) (v := y1) (lv' := [(3, .int y1), (0, .ref (ad X 176)), (1, .int x1)]) F dX12_readStep_167 rfl (by rw [ey1]; rfl) (by decide) rfl ?_
  refine x_goto (tgt := 115) F dX12_readStep_170 (by decide) ?_
  refine x_sub (lv' := [(0, .ref (ad X 176)), (1, .int x1), (3, .int y1)]) [1, 2, 0] rfl ?_
  exact hK115 _ _ _ h
def b_X12_readStep_139  (K115 : Int32 → Int32 → wS → Prop) (Q : wS → Prop) (x1 : Int32) (x3 : Int32) (σ : wS) : Prop := (¬ (σ.1 176 4) = (-1 : Int32) → (b_X12_readStep_167  K115 Q x1 x3 σ)) ∧ ((σ.1 176 4) = (-1 : Int32) → (w_X12_leastRule x3 σ (fun r2 s1 => w_X12_mostRule x3 s1 (fun r4 s3 => w_X12_number r2 r4 s3 (fun r6 s5 => vp_in (x1 + x3) 320 ∧ (∀ s7 : wS, s7 = upI s5 183 ((x1 + x3)).toNatClampNeg r6 → (b_X12_readStep_167  K115 Q x1 x3 s7)))))))
set_option maxRecDepth 100000 in
set_option maxHeartbeats 4000000 in
theorem wb_X12_readStep_139 {X : XT} {Q : wS → Prop}  (F : Fx X cX12_readStep 4 RX12 wvX12_readStep 6 128) (hret : Rv X 4 cX12_readStep Q)  {K115 : Int32 → Int32 → wS → Prop} (hK115 : ∀ (x1 : Int32) (x3 : Int32) (σ : wS), K115 x1 x3 σ → Wx X 4 σ 115 [(0, .ref (ad X 176)), (1, .int x1), (3, .int x3)] []) (x1 : Int32) (x3 : Int32) (σ : wS) (h : b_X12_readStep_139  K115 Q x1 x3 σ) : Wx X 4 σ 139 [(0, .ref (ad X 176)), (1, .int x1), (3, .int x3)] [] := by
  unfold b_X12_readStep_139 at h
  refine x_aload_n F dX12_readStep_139 rfl 0 rfl ?_
  refine g_12_4 F kz_176 in_12 (mc bw_13_12) dX12_readStep_140 ?_
  refine x_iconst (-1 : Int32) F dX12_readStep_143 (by decide) ?_
  refine x_icmp_ne (tgt := 167) F dX12_readStep_144 (by decide) (fun c => ?_) (fun c => ?_)
  · replace h := h.1 c
    refine x_sub (lv' := [(0, .ref (ad X 176)), (1, .int x1), (3, .int x3)]) [0, 1, 2] rfl ?_
    exact wb_X12_readStep_167 F hret  hK115 _ _ _ h
  · replace h := h.2 c
    refine x_aload_n F dX12_readStep_147 rfl 0 rfl ?_
    refine g_12_10 F kz_176 in_12 (mc bw_7_13) dX12_readStep_148 ?_
    refine x_iload_n F dX12_readStep_151 rfl 1 rfl ?_
    refine x_iload_n F dX12_readStep_152 rfl 2 rfl ?_
    refine x_iadd F dX12_readStep_153 ?_
    refine x_aload_n F dX12_readStep_154 rfl 0 rfl ?_
    refine x_iload_n F dX12_readStep_155 rfl 2 rfl ?_
    refine x_callT_i F (c_X12_leastRule (xl X) (xg X) (xA X) F.2.2.1  h) (bw_S bw_17_1 bw_17_2 bw_1_5 bw_17_3) rfl cd_X12_leastRule (Nat.le_of_ble_eq_true rfl) (Nat.le_of_ble_eq_true rfl) rfl rfl (Nat.le_of_ble_eq_true rfl) dX12_readStep_156 (fun r2 s1 h => ?_)
    refine x_iload_n F dX12_readStep_159 rfl 2 rfl ?_
    refine x_callT_i F (c_X12_mostRule (xl X) (xg X) (xA X) F.2.2.1  h) (bw_S bw_17_4 bw_17_5 bw_1_5 bw_17_6) rfl cd_X12_mostRule (Nat.le_of_ble_eq_true rfl) (Nat.le_of_ble_eq_true rfl) rfl rfl (Nat.le_of_ble_eq_true rfl) dX12_readStep_160 (fun r4 s3 h => ?_)
    refine x_callV_i F (c_X12_number (xl X) (xg X) (xA X) F.2.2.1  h) (bw_V bw_17_7 bw_17_8 bw_17_9 bw_1_5 bw_17_10) rfl cd_X12_number (Nat.le_of_ble_eq_true rfl) (Nat.le_of_ble_eq_true rfl) (kd_w (by decide) kz_176) rfl (cl_12 kz_176) rfl rfl (Nat.le_of_ble_eq_true rfl) dX12_readStep_163 (fun r6 s5 h => ?_)
    obtain ⟨hz, h⟩ := h
    refine x_iast F kz_183 nz_183 hz dX12_readStep_166 ?_
    refine x_nmS (fun s7 es7 => ?_)
    replace h := h s7 es7
    refine x_sub (lv' := [(0, .ref (ad X 176)), (1, .int x1), (3, .int x3)]) [0, 1, 2] rfl ?_
    exact wb_X12_readStep_167 F hret  hK115 _ _ _ h
def l_X12_readStep_115   (Q : wS → Prop) : Nat → Int32 → Int32 → wS → Prop
  | 0, _, _, _ => False
  | n + 1, x1, x3, σ => ((4 : Int32) ≤ x3 → (Q σ)) ∧ (¬ (4 : Int32) ≤ x3 → ((¬ (σ.1 176 4) = (-1 : Int32) → (Q σ)) ∧ ((σ.1 176 4) = (-1 : Int32) → ((x3 ≤ (1 : Int32) → (b_X12_readStep_139  (fun x1 x3 σ => l_X12_readStep_115   Q n x1 x3 σ) Q x1 x3 σ)) ∧ (¬ x3 ≤ (1 : Int32) → (w_X12_sign (44 : Int32) σ (fun s1 => b_X12_readStep_139  (fun x1 x3 σ => l_X12_readStep_115   Q n x1 x3 σ) Q x1 x3 s1)))))))
set_option maxRecDepth 100000 in
set_option maxHeartbeats 4000000 in
theorem wl_X12_readStep_115 {X : XT} {Q : wS → Prop}  (F : Fx X cX12_readStep 4 RX12 wvX12_readStep 6 128) (hret : Rv X 4 cX12_readStep Q)    : ∀ (n : Nat) (x1 : Int32) (x3 : Int32) (σ : wS), l_X12_readStep_115   Q n x1 x3 σ → Wx X 4 σ 115 [(0, .ref (ad X 176)), (1, .int x1), (3, .int x3)] [] := by
  intro n
  induction n with
  | zero =>
    intros
    contradiction
  | succ n ih =>
    intro x1 x3 σ h
    simp only [l_X12_readStep_115] at h
    refine x_iload_n F dX12_readStep_115 rfl 2 rfl ?_
    refine x_iconst (4 : Int32) F dX12_readStep_116 (by decide) ?_
    refine x_icmp_ge (tgt := 173) F dX12_readStep_117 (by decide) (fun c => ?_) (fun c => ?_)
    · replace h := h.1 c
      exact hret _ _ _ h dX12_readStep_173
    · replace h := h.2 c
      refine x_aload_n F dX12_readStep_120 rfl 0 rfl ?_
      refine g_12_4 F kz_176 in_12 (mc bw_13_12) dX12_readStep_121 ?_
      refine x_iconst (-1 : Int32) F dX12_readStep_124 (by decide) ?_
      refine x_icmp_ne (tgt := 173) F dX12_readStep_125 (by decide) (fun c => ?_) (fun c => ?_)
      · replace h := h.1 c
        exact hret _ _ _ h dX12_readStep_173
      · replace h := h.2 c
        refine x_iload_n F dX12_readStep_128 rfl 2 rfl ?_
        refine x_iconst (1 : Int32) F dX12_readStep_129 (by decide) ?_
        refine x_icmp_le (tgt := 139) F dX12_readStep_130 (by decide) (fun c => ?_) (fun c => ?_)
        · replace h := h.1 c
          refine x_sub (lv' := [(0, .ref (ad X 176)), (1, .int x1), (3, .int x3)]) [0, 1, 2] rfl ?_
          exact wb_X12_readStep_139 F hret  ih _ _ _ h
        · replace h := h.2 c
          refine x_aload_n F dX12_readStep_133 rfl 0 rfl ?_
          refine x_bipush (44 : Int32) F dX12_readStep_134 (by decide) ?_
          refine x_callV_v F (c_X12_sign (xl X) (xg X) (xA X) F.2.2.1  h) (bw_V bw_18_14 bw_18_15 bw_18_16 bw_1_5 bw_18_17) rfl cd_X12_sign (Nat.le_of_ble_eq_true rfl) (Nat.le_of_ble_eq_true rfl) (kd_w (by decide) kz_176) rfl (cl_12 kz_176) rfl rfl (Nat.le_of_ble_eq_true rfl) dX12_readStep_136 (fun s1 h => ?_)
          refine x_sub (lv' := [(0, .ref (ad X 176)), (1, .int x1), (3, .int x3)]) [0, 1, 2] rfl ?_
          exact wb_X12_readStep_139 F hret  ih _ _ _ h
def l_X12_readStep_12   (Q : wS → Prop) : Nat → Int32 → Int32 → Int32 → wS → Prop
  | 0, _, _, _, _ => False
  | n + 1, x1, x2, x3, σ => ((4 : Int32) ≤ x3 → ((¬ x2 = (-1 : Int32) → (∀ s1 : wS, s1 = upI σ 176 3 ((σ.1 176 3) + (1 : Int32)) → (vp_in x1 320 ∧ (∀ s2 : wS, s2 = upI s1 183 (x1).toNatClampNeg x2 → ((x2 ≤ 0 → ((∃ m, l_X12_readStep_115   Q m x1 (1 : Int32) s2))) ∧ (¬ x2 ≤ 0 → (w_X12_digit  s2 (fun r4 s3 => vp_in (x1 + (1 : Int32)) 320 ∧ (∀ s5 : wS, s5 = upI s3 183 ((x1 + (1 : Int32))).toNatClampNeg r4 → ((x2 ≤ (1 : Int32) → (w_X12_sign (58 : Int32) s5 (fun s6 => (¬ (s6.1 176 4) = (-1 : Int32) → (Q s6)) ∧ ((s6.1 176 4) = (-1 : Int32) → (w_X12_number (-9 : Int32) (9 : Int32) s6 (fun r9 s8 => vp_in (x1 + (2 : Int32)) 320 ∧ (∀ s10 : wS, s10 = upI s8 183 ((x1 + (2 : Int32))).toNatClampNeg r9 → (Q s10)))))))) ∧ (¬ x2 ≤ (1 : Int32) → (Q s5)))))))))))) ∧ (x2 = (-1 : Int32) → (w_X12_fails  σ (fun s11 => Q s11))))) ∧ (¬ (4 : Int32) ≤ x3 → (vp_in (x1 + x3) 320 ∧ (∀ s13 : wS, s13 = upI σ 183 ((x1 + x3)).toNatClampNeg (-1000000 : Int32) → (∀ y14 : Int32, y14 = (x3 + (1 : Int32)) → (l_X12_readStep_12   Q n x1 x2 y14 s13)))))
set_option maxRecDepth 100000 in
set_option maxHeartbeats 4000000 in
theorem wl_X12_readStep_12 {X : XT} {Q : wS → Prop}  (F : Fx X cX12_readStep 4 RX12 wvX12_readStep 6 128) (hret : Rv X 4 cX12_readStep Q)    : ∀ (n : Nat) (x1 : Int32) (x2 : Int32) (x3 : Int32) (σ : wS), l_X12_readStep_12   Q n x1 x2 x3 σ → Wx X 4 σ 12 [(0, .ref (ad X 176)), (1, .int x1), (2, .int x2), (3, .int x3)] [] := by
  intro n
  induction n with
  | zero =>
    intros
    contradiction
  | succ n ih =>
    intro x1 x2 x3 σ h
    simp only [l_X12_readStep_12] at h
    refine x_iload_n F dX12_readStep_12 rfl 3 rfl ?_
    refine x_iconst (4 : Int32) F dX12_readStep_13 (by decide) ?_
    refine x_icmp_ge (tgt := 33) F dX12_readStep_14 (by decide) (fun c => ?_) (fun c => ?_)
    · replace h := h.1 c
      refine x_iload_n F dX12_readStep_33 rfl 2 rfl ?_
      refine x_iconst (-1 : Int32) F dX12_readStep_34 (by decide) ?_
      refine x_icmp_ne (tgt := 43) F dX12_readStep_35 (by decide) (fun c => ?_) (fun c => ?_)
      · replace h := h.1 c
        refine x_aload_n F dX12_readStep_43 rfl 0 rfl ?_
        refine x_dup F dX12_readStep_44 rfl ?_
        refine g_12_3 F kz_176 in_12 (mc bw_13_11) dX12_readStep_45 ?_
        refine x_iconst (1 : Int32) F dX12_readStep_48 (by decide) ?_
        refine x_iadd F dX12_readStep_49 ?_
        refine q_12_3 F kz_176 in_12 (mc bw_13_11) dX12_readStep_50 ?_
        refine x_nmS (fun s1 es1 => ?_)
        replace h := h s1 es1
        refine x_aload_n F dX12_readStep_53 rfl 0 rfl ?_
        refine g_12_10 F kz_176 in_12 (mc bw_7_13) dX12_readStep_54 ?_
        refine x_iload_n F dX12_readStep_57 rfl 1 rfl ?_
        refine x_iload_n F dX12_readStep_58 rfl 2 rfl ?_
        obtain ⟨hz, h⟩ := h
        refine x_iast F kz_183 nz_183 hz dX12_readStep_59 ?_
        refine x_nmS (fun s2 es2 => ?_)
        replace h := h s2 es2
        refine x_iload_n F dX12_readStep_60 rfl 2 rfl ?_
        refine x_if_le (tgt := 113) F dX12_readStep_61 (by decide) (fun c => ?_) (fun c => ?_)
        · replace h := h.1 c
          refine x_iconst (1 : Int32) F dX12_readStep_113 (by decide) ?_
          refine x_istore_n (lv' := [(3, .int (1 : Int32)), (0, .ref (ad X 176)), (1, .int x1), (2, .int x2)]) F dX12_readStep_114 rfl (by decide) rfl ?_
          refine x_sub (lv' := [(0, .ref (ad X 176)), (1, .int x1), (3, .int (1 : Int32))]) [1, 2, 0] rfl ?_
          obtain ⟨n2, h⟩ := h
          exact wl_X12_readStep_115 F hret   n2 _ _ _ h
        · replace h := h.2 c
          refine x_aload_n F dX12_readStep_64 rfl 0 rfl ?_
          refine g_12_10 F kz_176 in_12 (mc bw_7_13) dX12_readStep_65 ?_
          refine x_iload_n F dX12_readStep_68 rfl 1 rfl ?_
          refine x_iconst (1 : Int32) F dX12_readStep_69 (by decide) ?_
          refine x_iadd F dX12_readStep_70 ?_
          refine x_aload_n F dX12_readStep_71 rfl 0 rfl ?_
          refine x_callV_i F (c_X12_digit (xl X) (xg X) (xA X) F.2.2.1  h) (bw_V bw_18_10 bw_18_11 bw_18_12 bw_1_5 bw_18_13) rfl cd_X12_digit (Nat.le_of_ble_eq_true rfl) (Nat.le_of_ble_eq_true rfl) (kd_w (by decide) kz_176) rfl (cl_12 kz_176) rfl rfl (Nat.le_of_ble_eq_true rfl) dX12_readStep_72 (fun r4 s3 h => ?_)
          obtain ⟨hz, h⟩ := h
          refine x_iast F kz_183 nz_183 hz dX12_readStep_75 ?_
          refine x_nmS (fun s5 es5 => ?_)
          replace h := h s5 es5
          refine x_iload_n F dX12_readStep_76 rfl 2 rfl ?_
          refine x_iconst (1 : Int32) F dX12_readStep_77 (by decide) ?_
          refine x_icmp_le (tgt := 82) F dX12_readStep_78 (by decide) (fun c => ?_) (fun c => ?_)
          · replace h := h.1 c
            refine x_aload_n F dX12_readStep_82 rfl 0 rfl ?_
            refine x_bipush (58 : Int32) F dX12_readStep_83 (by decide) ?_
            refine x_callV_v F (c_X12_sign (xl X) (xg X) (xA X) F.2.2.1  h) (bw_V bw_18_14 bw_18_15 bw_18_16 bw_1_5 bw_18_17) rfl cd_X12_sign (Nat.le_of_ble_eq_true rfl) (Nat.le_of_ble_eq_true rfl) (kd_w (by decide) kz_176) rfl (cl_12 kz_176) rfl rfl (Nat.le_of_ble_eq_true rfl) dX12_readStep_85 (fun s6 h => ?_)
            refine x_aload_n F dX12_readStep_88 rfl 0 rfl ?_
            refine g_12_4 F kz_176 in_12 (mc bw_13_12) dX12_readStep_89 ?_
            refine x_iconst (-1 : Int32) F dX12_readStep_92 (by decide) ?_
            refine x_icmp_ne (tgt := 112) F dX12_readStep_93 (by decide) (fun c => ?_) (fun c => ?_)
            · replace h := h.1 c
              exact hret _ _ _ h dX12_readStep_112
            · replace h := h.2 c
              refine x_aload_n F dX12_readStep_96 rfl 0 rfl ?_
              refine g_12_10 F kz_176 in_12 (mc bw_7_13) dX12_readStep_97 ?_
              refine x_iload_n F dX12_readStep_100 rfl 1 rfl ?_
              refine x_iconst (2 : Int32) F dX12_readStep_101 (by decide) ?_
              refine x_iadd F dX12_readStep_102 ?_
              refine x_aload_n F dX12_readStep_103 rfl 0 rfl ?_
              refine x_bipush (-9 : Int32) F dX12_readStep_104 (by decide) ?_
              refine x_bipush (9 : Int32) F dX12_readStep_106 (by decide) ?_
              refine x_callV_i F (c_X12_number (xl X) (xg X) (xA X) F.2.2.1  h) (bw_V bw_17_7 bw_17_8 bw_17_9 bw_1_5 bw_17_10) rfl cd_X12_number (Nat.le_of_ble_eq_true rfl) (Nat.le_of_ble_eq_true rfl) (kd_w (by decide) kz_176) rfl (cl_12 kz_176) rfl rfl (Nat.le_of_ble_eq_true rfl) dX12_readStep_108 (fun r9 s8 h => ?_)
              obtain ⟨hz, h⟩ := h
              refine x_iast F kz_183 nz_183 hz dX12_readStep_111 ?_
              refine x_nmS (fun s10 es10 => ?_)
              replace h := h s10 es10
              exact hret _ _ _ h dX12_readStep_112
          · replace h := h.2 c
            exact hret _ _ _ h dX12_readStep_81
      · replace h := h.2 c
        refine x_aload_n F dX12_readStep_38 rfl 0 rfl ?_
        refine x_callV_v F (c_X12_fails (xl X) (xg X) (xA X) F.2.2.1  h) (bw_V bw_16_21 bw_16_22 bw_16_23 bw_1_5 bw_17_0) rfl cd_X12_fails (Nat.le_of_ble_eq_true rfl) (Nat.le_of_ble_eq_true rfl) (kd_w (by decide) kz_176) rfl (cl_12 kz_176) rfl rfl (Nat.le_of_ble_eq_true rfl) dX12_readStep_39 (fun s11 h => ?_)
        exact hret _ _ _ h dX12_readStep_42
    · replace h := h.2 c
      refine x_aload_n F dX12_readStep_17 rfl 0 rfl ?_
      refine g_12_10 F kz_176 in_12 (mc bw_7_13) dX12_readStep_18 ?_
      refine x_iload_n F dX12_readStep_21 rfl 1 rfl ?_
      refine x_iload_n F dX12_readStep_22 rfl 3 rfl ?_
      refine x_iadd F dX12_readStep_23 ?_
      refine x_ldc F dX12_readStep_24 (mc bw_18_9) ?_
      obtain ⟨hz, h⟩ := h
      refine x_iast F kz_183 nz_183 hz dX12_readStep_26 ?_
      refine x_nmS (fun s13 es13 => ?_)
      replace h := h s13 es13
      obtain ⟨y14, ey14⟩ : ∃ y : Int32, y = (x3 + (1 : Int32)) := ⟨_, rfl⟩
      replace h := h y14 ey14
      refine x_iinc (q := 3) (v := y14) (lv' := [(3, .int y14), (0, .ref (ad X 176)), (1, .int x1), (2, .int x2)]) F dX12_readStep_27 rfl (by rw [ey14]; rfl) (by decide) rfl ?_
      refine x_goto (tgt := 12) F dX12_readStep_30 (by decide) ?_
      refine x_sub (lv' := [(0, .ref (ad X 176)), (1, .int x1), (2, .int x2), (3, .int y14)]) [1, 2, 3, 0] rfl ?_
      exact ih _ _ _ _ h
def w_X12_readStep  (p0 : Int32) (σ : wS) (Q : wS → Prop) : Prop := w_X12_look  σ (fun r2 s1 => w_X12_spotOf 212 r2 s1 (fun r4 s3 => (∃ m, l_X12_readStep_12   Q m p0 r4 (1 : Int32) s3)))
set_option maxRecDepth 100000 in
set_option maxHeartbeats 4000000 in
theorem c_X12_readStep (l : Launch) (g : wG) (A : Nat → Prop) (hA : adO g A)   {p0 : Int32} {σ : wS} {Q : wS → Prop} (h : w_X12_readStep  p0 σ Q) : Mv l yX12_readStep wvX12_readStep 6 128 g A [.ref (g.2.2 176), .int p0] σ Q := by
  refine mt_v (own := RX12) (lv := [(0, .ref (g.2.2 176)), (1, .int p0)]) (by decide) rfl rfl hA (Nat.le_of_ble_eq_true rfl) rfl ?_
  intro X hl hg hAA F hret
  subst hl hg hAA
  unfold w_X12_readStep at h
  refine x_ldcS (q := 2) F dX12_readStep_0 (by decide) rfl ?_
  refine x_aload_n F dX12_readStep_2 rfl 0 rfl ?_
  refine x_callV_i F (c_X12_look (xl X) (xg X) (xA X) F.2.2.1  h) (bw_V bw_14_2 bw_14_3 bw_14_4 bw_1_5 bw_14_5) rfl cd_X12_look (Nat.le_of_ble_eq_true rfl) (Nat.le_of_ble_eq_true rfl) (kd_w (by decide) kz_176) rfl (cl_12 kz_176) rfl rfl (Nat.le_of_ble_eq_true rfl) dX12_readStep_3 (fun r2 s1 h => ?_)
  refine x_callT_i F (c_X12_spotOf (xl X) (xg X) (xA X) F.2.2.1 kz_212 h) (bw_S bw_14_14 bw_14_15 bw_1_5 bw_14_16) rfl cd_X12_spotOf (Nat.le_of_ble_eq_true rfl) (Nat.le_of_ble_eq_true rfl) rfl rfl (Nat.le_of_ble_eq_true rfl) dX12_readStep_6 (fun r4 s3 h => ?_)
  refine x_istore_n (lv' := [(2, .int r4), (0, .ref (ad X 176)), (1, .int p0)]) F dX12_readStep_9 rfl (by decide) rfl ?_
  refine x_iconst (1 : Int32) F dX12_readStep_10 (by decide) ?_
  refine x_istore_n (lv' := [(3, .int (1 : Int32)), (2, .int r4), (0, .ref (ad X 176)), (1, .int p0)]) F dX12_readStep_11 rfl (by decide) rfl ?_
  refine x_sub (lv' := [(0, .ref (ad X 176)), (1, .int p0), (2, .int r4), (3, .int (1 : Int32))]) [2, 3, 1, 0] rfl ?_
  obtain ⟨n2, h⟩ := h
  exact wl_X12_readStep_12 F hret   n2 _ _ _ _ h
