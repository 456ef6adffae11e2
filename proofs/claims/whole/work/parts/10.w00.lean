/-! X0_begin -/
abbrev wvX0_begin : List Cond := Cond.code yX0_begin cX0_begin 5 none :: wsL_law
theorem cd_X0_begin : okN yX0_begin RX0 2 := by unfold okN; decide +kernel
def b_X0_begin_78 (p0 : Nat) (p1 : Nat) (K2 : Int32 → wS → Prop) (Q : wS → Prop) (x3 : Int32) (z0 : Int64) (z1 : Int32) (σ : wS) : Prop := vp_in z1 3 ∧ (∀ s1 : wS, s1 = upJ σ 43 (z1).toNatClampNeg z0 → (∀ y2 : Int32, y2 = (x3 + (1 : Int32)) → (K2 y2 s1)))
set_option maxRecDepth 100000 in
set_option maxHeartbeats 4000000 in
theorem wb_X0_begin_78 {X : XT} {Q : wS → Prop} {p0 : Nat} {p1 : Nat} (F : Fx X cX0_begin 5 RX0 wvX0_begin 0 0) (hret : Rv X 5 cX0_begin Q) (k_p0 : kd p0 = 5) (k_p1 : kd p1 = 3) {K2 : Int32 → wS → Prop} (hK2 : ∀ (x3 : Int32) (σ : wS), K2 x3 σ → Wx X 5 σ 2 [(0, .ref (ad X 41)), (1, .ref (ad X p0)), (2, .ref (ad X p1)), (3, .int x3)] []) (x3 : Int32) (z0 : Int64) (z1 : Int32) (σ : wS) (h : b_X0_begin_78 p0 p1 K2 Q x3 z0 z1 σ) : Wx X 5 σ 78 [(0, .ref (ad X 41)), (1, .ref (ad X p0)), (2, .ref (ad X p1)), (3, .int x3)] [.long z0, .int z1, .ref (ad X 43)] := by
  unfold b_X0_begin_78 at h
  obtain ⟨hz, h⟩ := h
  refine x_last F kz_43 nz_43 hz dX0_begin_78 ?_
  refine x_nmS (fun s1 es1 => ?_)
  replace h := h s1 es1
  obtain ⟨y2, ey2⟩ : ∃ y : Int32, y = (x3 + (1 : Int32)) := ⟨_, rfl⟩
  replace h := h y2 ey2
  refine x_iinc (q := 3) (v := y2) (lv' := [(3, .int y2), (0, .ref (ad X 41)), (1, .ref (ad X p0)), (2, .ref (ad X p1))]) F dX0_begin_79 rfl (by rw [ey2]; rfl) (by decide) rfl ?_
  refine x_goto (tgt := 2) F dX0_begin_82 (by decide) ?_
  refine x_sub (lv' := [(0, .ref (ad X 41)), (1, .ref (ad X p0)), (2, .ref (ad X p1)), (3, .int y2)]) [1, 2, 3, 0] rfl ?_
  exact hK2 _ _ h
def b_X0_begin_46 (p0 : Nat) (p1 : Nat) (K2 : Int32 → wS → Prop) (K10 : Int32 → Int32 → wS → Prop) (Q : wS → Prop) (x3 : Int32) (x4 : Int32) (z0 : Int64) (z1 : Int32) (σ : wS) : Prop := vp_in z1 9 ∧ (∀ s1 : wS, s1 = upJ σ 42 (z1).toNatClampNeg z0 → (∀ y2 : Int32, y2 = (x4 + (1 : Int32)) → (K10 x3 y2 s1)))
set_option maxRecDepth 100000 in
set_option maxHeartbeats 4000000 in
theorem wb_X0_begin_46 {X : XT} {Q : wS → Prop} {p0 : Nat} {p1 : Nat} (F : Fx X cX0_begin 5 RX0 wvX0_begin 0 0) (hret : Rv X 5 cX0_begin Q) (k_p0 : kd p0 = 5) (k_p1 : kd p1 = 3) {K2 : Int32 → wS → Prop} {K10 : Int32 → Int32 → wS → Prop} (hK2 : ∀ (x3 : Int32) (σ : wS), K2 x3 σ → Wx X 5 σ 2 [(0, .ref (ad X 41)), (1, .ref (ad X p0)), (2, .ref (ad X p1)), (3, .int x3)] []) (hK10 : ∀ (x3 : Int32) (x4 : Int32) (σ : wS), K10 x3 x4 σ → Wx X 5 σ 10 [(0, .ref (ad X 41)), (1, .ref (ad X p0)), (2, .ref (ad X p1)), (3, .int x3), (4, .int x4)] []) (x3 : Int32) (x4 : Int32) (z0 : Int64) (z1 : Int32) (σ : wS) (h : b_X0_begin_46 p0 p1 K2 K10 Q x3 x4 z0 z1 σ) : Wx X 5 σ 46 [(0, .ref (ad X 41)), (1, .ref (ad X p0)), (2, .ref (ad X p1)), (3, .int x3), (4, .int x4)] [.long z0, .int z1, .ref (ad X 42)] := by
  unfold b_X0_begin_46 at h
  obtain ⟨hz, h⟩ := h
  refine x_last F kz_42 nz_42 hz dX0_begin_46 ?_
  refine x_nmS (fun s1 es1 => ?_)
  replace h := h s1 es1
  obtain ⟨y2, ey2⟩ : ∃ y : Int32, y = (x4 + (1 : Int32)) := ⟨_, rfl⟩
  replace h := h y2 ey2
  refine x_iinc (q := 4) (v := y2) (lv' := [(4, .int y2), (0, .ref (ad X 41)), (1, .ref (ad X p0)), (2, .ref (ad X p1)), (3, .int x3)]) F dX0_begin_47 rfl (by rw [ey2]; rfl) (by decide) rfl ?_
  refine x_goto (tgt := 10) F dX0_begin_50 (by decide) ?_
  refine x_sub (lv' := [(0, .ref (ad X 41)), (1, .ref (ad X p0)), (2, .ref (ad X p1)), (3, .int x3), (4, .int y2)]) [1, 2, 3, 4, 0] rfl ?_
  exact hK10 _ _ _ h
def b_X0_begin_45 (p0 : Nat) (p1 : Nat) (K2 : Int32 → wS → Prop) (K10 : Int32 → Int32 → wS → Prop) (Q : wS → Prop) (x3 : Int32) (x4 : Int32) (z0 : Int32) (σ : wS) : Prop := b_X0_begin_46 p0 p1 K2 K10 Q x3 x4 (0 : Int64) z0 σ
set_option maxRecDepth 100000 in
set_option maxHeartbeats 4000000 in
theorem wb_X0_begin_45 {X : XT} {Q : wS → Prop} {p0 : Nat} {p1 : Nat} (F : Fx X cX0_begin 5 RX0 wvX0_begin 0 0) (hret : Rv X 5 cX0_begin Q) (k_p0 : kd p0 = 5) (k_p1 : kd p1 = 3) {K2 : Int32 → wS → Prop} {K10 : Int32 → Int32 → wS → Prop} (hK2 : ∀ (x3 : Int32) (σ : wS), K2 x3 σ → Wx X 5 σ 2 [(0, .ref (ad X 41)), (1, .ref (ad X p0)), (2, .ref (ad X p1)), (3, .int x3)] []) (hK10 : ∀ (x3 : Int32) (x4 : Int32) (σ : wS), K10 x3 x4 σ → Wx X 5 σ 10 [(0, .ref (ad X 41)), (1, .ref (ad X p0)), (2, .ref (ad X p1)), (3, .int x3), (4, .int x4)] []) (x3 : Int32) (x4 : Int32) (z0 : Int32) (σ : wS) (h : b_X0_begin_45 p0 p1 K2 K10 Q x3 x4 z0 σ) : Wx X 5 σ 45 [(0, .ref (ad X 41)), (1, .ref (ad X p0)), (2, .ref (ad X p1)), (3, .int x3), (4, .int x4)] [.int z0, .ref (ad X 42)] := by
  unfold b_X0_begin_45 at h
  refine x_lconst (0 : Int64) F dX0_begin_45 (by decide) ?_
  refine x_sub (lv' := [(0, .ref (ad X 41)), (1, .ref (ad X p0)), (2, .ref (ad X p1)), (3, .int x3), (4, .int x4)]) [0, 1, 2, 3, 4] rfl ?_
  exact wb_X0_begin_46 F hret k_p0 k_p1 hK2 hK10 _ _ _ _ _ h
def l_X0_begin_10 (p0 : Nat) (p1 : Nat) (K2 : Int32 → wS → Prop) (Q : wS → Prop) : Nat → Int32 → Int32 → wS → Prop
  | 0, _, _, _ => False
  | n + 1, x3, x4, σ => ((3 : Int32) ≤ x4 → (vp_in x3 3 ∧ (((σ.1 (p0 + 6) (x3).toNatClampNeg) = 0 → (b_X0_begin_78 p0 p1 K2 Q x3 (0 : Int64) x3 σ)) ∧ (¬ (σ.1 (p0 + 6) (x3).toNatClampNeg) = 0 → (vp_in x3 3 ∧ (b_X0_begin_78 p0 p1 K2 Q x3 ((σ.1 (p1 + 2) (x3).toNatClampNeg)).toInt64 x3 σ)))))) ∧ (¬ (3 : Int32) ≤ x4 → ((¬ x3 = x4 → (b_X0_begin_45 p0 p1 K2 (fun x3 x4 σ => l_X0_begin_10 p0 p1 K2 Q n x3 x4 σ) Q x3 x4 (((3 : Int32) * x3) + x4) σ)) ∧ (x3 = x4 → (vp_in x3 3 ∧ ((¬ (σ.1 (p0 + 6) (x3).toNatClampNeg) = 0 → (b_X0_begin_45 p0 p1 K2 (fun x3 x4 σ => l_X0_begin_10 p0 p1 K2 Q n x3 x4 σ) Q x3 x4 (((3 : Int32) * x3) + x4) σ)) ∧ ((σ.1 (p0 + 6) (x3).toNatClampNeg) = 0 → (b_X0_begin_46 p0 p1 K2 (fun x3 x4 σ => l_X0_begin_10 p0 p1 K2 Q n x3 x4 σ) Q x3 x4 (1 : Int64) (((3 : Int32) * x3) + x4) σ)))))))
set_option maxRecDepth 100000 in
set_option maxHeartbeats 4000000 in
theorem wl_X0_begin_10 {X : XT} {Q : wS → Prop} {p0 : Nat} {p1 : Nat} (F : Fx X cX0_begin 5 RX0 wvX0_begin 0 0) (hret : Rv X 5 cX0_begin Q) (k_p0 : kd p0 = 5) (k_p1 : kd p1 = 3) {K2 : Int32 → wS → Prop} (hK2 : ∀ (x3 : Int32) (σ : wS), K2 x3 σ → Wx X 5 σ 2 [(0, .ref (ad X 41)), (1, .ref (ad X p0)), (2, .ref (ad X p1)), (3, .int x3)] []) : ∀ (n : Nat) (x3 : Int32) (x4 : Int32) (σ : wS), l_X0_begin_10 p0 p1 K2 Q n x3 x4 σ → Wx X 5 σ 10 [(0, .ref (ad X 41)), (1, .ref (ad X p0)), (2, .ref (ad X p1)), (3, .int x3), (4, .int x4)] [] := by
  intro n
  induction n with
  | zero =>
    intros
    contradiction
  | succ n ih =>
    intro x3 x4 σ h
    simp only [l_X0_begin_10] at h
    refine x_iload F dX0_begin_10 4 rfl ?_
    refine x_iconst (3 : Int32) F dX0_begin_12 (by decide) ?_
    refine x_icmp_ge (tgt := 53) F dX0_begin_13 (by decide) (fun c => ?_) (fun c => ?_)
    · replace h := h.1 c
      refine x_aload_n F dX0_begin_53 rfl 0 rfl ?_
      refine g_0_1 F kz_41 in_0 (mc bw_5_19) dX0_begin_54 ?_
      refine x_iload_n F dX0_begin_57 rfl 3 rfl ?_
      refine x_aload_n F dX0_begin_58 rfl 1 rfl ?_
      refine g_5_5 F k_p0 in_5 (mc bw_20_7) dX0_begin_59 ?_
      refine x_iload_n F dX0_begin_62 rfl 3 rfl ?_
      obtain ⟨hj, h⟩ := h
      refine x_zald F (ky_5_5 k_p0) (kn_5_5 k_p0) hj dX0_begin_63 ?_
      refine x_if_eq (tgt := 77) F dX0_begin_64 (by decide) (fun c => ?_) (fun c => ?_)
      · replace h := h.1 c
        refine x_lconst (0 : Int64) F dX0_begin_77 (by decide) ?_
        refine x_sub (lv' := [(0, .ref (ad X 41)), (1, .ref (ad X p0)), (2, .ref (ad X p1)), (3, .int x3)]) [0, 1, 2, 3] rfl ?_
        exact wb_X0_begin_78 F hret k_p0 k_p1 hK2 _ _ _ _ h
      · replace h := h.2 c
        refine x_aload_n F dX0_begin_67 rfl 2 rfl ?_
        refine g_3_1 F k_p1 in_3 (mc bw_20_8) dX0_begin_68 ?_
        refine x_iload_n F dX0_begin_71 rfl 3 rfl ?_
        obtain ⟨hj, h⟩ := h
        refine x_iald F (ky_3_1 k_p1) (kn_3_1 k_p1) hj dX0_begin_72 ?_
        refine x_i2l F dX0_begin_73 ?_
        refine x_goto (tgt := 78) F dX0_begin_74 (by decide) ?_
        refine x_sub (lv' := [(0, .ref (ad X 41)), (1, .ref (ad X p0)), (2, .ref (ad X p1)), (3, .int x3)]) [0, 1, 2, 3] rfl ?_
        exact wb_X0_begin_78 F hret k_p0 k_p1 hK2 _ _ _ _ h
    · replace h := h.2 c
      refine x_aload_n F dX0_begin_16 rfl 0 rfl ?_
      refine g_0_0 F kz_41 in_0 (mc bw_5_18) dX0_begin_17 ?_
      refine x_iconst (3 : Int32) F dX0_begin_20 (by decide) ?_
      refine x_iload_n F dX0_begin_21 rfl 3 rfl ?_
      refine x_imul F dX0_begin_22 ?_
      refine x_iload F dX0_begin_23 4 rfl ?_
      refine x_iadd F dX0_begin_25 ?_
      refine x_iload_n F dX0_begin_26 rfl 3 rfl ?_
      refine x_iload F dX0_begin_27 4 rfl ?_
      refine x_icmp_ne (tgt := 45) F dX0_begin_29 (by decide) (fun c => ?_) (fun c => ?_)
      · replace h := h.1 c
        refine x_sub (lv' := [(0, .ref (ad X 41)), (1, .ref (ad X p0)), (2, .ref (ad X p1)), (3, .int x3), (4, .int x4)]) [0, 1, 2, 3, 4] rfl ?_
        exact wb_X0_begin_45 F hret k_p0 k_p1 hK2 ih _ _ _ _ h
      · replace h := h.2 c
        refine x_aload_n F dX0_begin_32 rfl 1 rfl ?_
        refine g_5_5 F k_p0 in_5 (mc bw_20_7) dX0_begin_33 ?_
        refine x_iload_n F dX0_begin_36 rfl 3 rfl ?_
        obtain ⟨hj, h⟩ := h
        refine x_zald F (ky_5_5 k_p0) (kn_5_5 k_p0) hj dX0_begin_37 ?_
        refine x_if_ne (tgt := 45) F dX0_begin_38 (by decide) (fun c => ?_) (fun c => ?_)
        · replace h := h.1 c
          refine x_sub (lv' := [(0, .ref (ad X 41)), (1, .ref (ad X p0)), (2, .ref (ad X p1)), (3, .int x3), (4, .int x4)]) [0, 1, 2, 3, 4] rfl ?_
          exact wb_X0_begin_45 F hret k_p0 k_p1 hK2 ih _ _ _ _ h
        · replace h := h.2 c
          refine x_lconst (1 : Int64) F dX0_begin_41 (by decide) ?_
          refine x_goto (tgt := 46) F dX0_begin_42 (by decide) ?_
          refine x_sub (lv' := [(0, .ref (ad X 41)), (1, .ref (ad X p0)), (2, .ref (ad X p1)), (3, .int x3), (4, .int x4)]) [0, 1, 2, 3, 4] rfl ?_
          exact wb_X0_begin_46 F hret k_p0 k_p1 hK2 ih _ _ _ _ _ h
def l_X0_begin_2 (p0 : Nat) (p1 : Nat)  (Q : wS → Prop) : Nat → Int32 → wS → Prop
  | 0, _, _ => False
  | n + 1, x3, σ => ((3 : Int32) ≤ x3 → (Q σ)) ∧ (¬ (3 : Int32) ≤ x3 → ((∃ m, l_X0_begin_10 p0 p1 (fun x3 σ => l_X0_begin_2 p0 p1  Q n x3 σ) Q m x3 (0 : Int32) σ)))
set_option maxRecDepth 100000 in
set_option maxHeartbeats 4000000 in
theorem wl_X0_begin_2 {X : XT} {Q : wS → Prop} {p0 : Nat} {p1 : Nat} (F : Fx X cX0_begin 5 RX0 wvX0_begin 0 0) (hret : Rv X 5 cX0_begin Q) (k_p0 : kd p0 = 5) (k_p1 : kd p1 = 3)   : ∀ (n : Nat) (x3 : Int32) (σ : wS), l_X0_begin_2 p0 p1  Q n x3 σ → Wx X 5 σ 2 [(0, .ref (ad X 41)), (1, .ref (ad X p0)), (2, .ref (ad X p1)), (3, .int x3)] [] := by
  intro n
  induction n with
  | zero =>
    intros
    contradiction
  | succ n ih =>
    intro x3 σ h
    simp only [l_X0_begin_2] at h
    refine x_iload_n F dX0_begin_2 rfl 3 rfl ?_
    refine x_iconst (3 : Int32) F dX0_begin_3 (by decide) ?_
    refine x_icmp_ge (tgt := 85) F dX0_begin_4 (by decide) (fun c => ?_) (fun c => ?_)
    · replace h := h.1 c
      exact hret _ _ _ h dX0_begin_85
    · replace h := h.2 c
      refine x_iconst (0 : Int32) F dX0_begin_7 (by decide) ?_
      refine x_istore (lv' := [(4, .int (0 : Int32)), (0, .ref (ad X 41)), (1, .ref (ad X p0)), (2, .ref (ad X p1)), (3, .int x3)]) F dX0_begin_8 (by decide) rfl ?_
      refine x_sub (lv' := [(0, .ref (ad X 41)), (1, .ref (ad X p0)), (2, .ref (ad X p1)), (3, .int x3), (4, .int (0 : Int32))]) [1, 2, 3, 4, 0] rfl ?_
      obtain ⟨n2, h⟩ := h
      exact wl_X0_begin_10 F hret k_p0 k_p1 ih n2 _ _ _ h
def w_X0_begin (p0 : Nat) (p1 : Nat)  (σ : wS) (Q : wS → Prop) : Prop := (∃ m, l_X0_begin_2 p0 p1  Q m (0 : Int32) σ)
set_option maxRecDepth 100000 in
set_option maxHeartbeats 4000000 in
theorem c_X0_begin (l : Launch) (g : wG) (A : Nat → Prop) (hA : adO g A) {p0 : Nat} {p1 : Nat} (k_p0 : kd p0 = 5) (k_p1 : kd p1 = 3)  {σ : wS} {Q : wS → Prop} (h : w_X0_begin p0 p1  σ Q) : Mv l yX0_begin wvX0_begin 0 0 g A [.ref (g.2.2 41), .ref (g.2.2 p0), .ref (g.2.2 p1)] σ Q := by
  refine mt_v (own := RX0) (lv := [(0, .ref (g.2.2 41)), (1, .ref (g.2.2 p0)), (2, .ref (g.2.2 p1))]) (by decide) rfl rfl hA (Nat.le_of_ble_eq_true rfl) rfl ?_
  intro X hl hg hAA F hret
  subst hl hg hAA
  unfold w_X0_begin at h
  refine x_iconst (0 : Int32) F dX0_begin_0 (by decide) ?_
  refine x_istore_n (lv' := [(3, .int (0 : Int32)), (0, .ref (ad X 41)), (1, .ref (ad X p0)), (2, .ref (ad X p1))]) F dX0_begin_1 rfl (by decide) rfl ?_
  refine x_sub (lv' := [(0, .ref (ad X 41)), (1, .ref (ad X p0)), (2, .ref (ad X p1)), (3, .int (0 : Int32))]) [1, 2, 3, 0] rfl ?_
  obtain ⟨n2, h⟩ := h
  exact wl_X0_begin_2 F hret k_p0 k_p1  n2 _ _ h
/-! X0_addRope -/
abbrev wvX0_addRope : List Cond := Cond.code yX0_addRope cX0_addRope 7 none :: wsL_law
theorem cd_X0_addRope : okN yX0_addRope RX0 3 := by unfold okN; decide +kernel
def b_X0_addRope_117 (p0 : Nat) (p1 : Nat) (K3 : Int32 → Int32 → wS → Prop) (Q : wS → Prop) (x3 : Int32) (x4 : Int32) (σ : wS) : Prop := ∀ y1 : Int32, y1 = (x4 + (1 : Int32)) → (K3 x3 y1 σ)
set_option maxRecDepth 100000 in
set_option maxHeartbeats 4000000 in
theorem wb_X0_addRope_117 {X : XT} {Q : wS → Prop} {p0 : Nat} {p1 : Nat} (F : Fx X cX0_addRope 7 RX0 wvX0_addRope 0 0) (hret : Rv X 7 cX0_addRope Q) (k_p0 : kd p0 = 5) (k_p1 : kd p1 = 3) {K3 : Int32 → Int32 → wS → Prop} (hK3 : ∀ (x3 : Int32) (x4 : Int32) (σ : wS), K3 x3 x4 σ → Wx X 7 σ 3 [(0, .ref (ad X 41)), (1, .ref (ad X p0)), (2, .ref (ad X p1)), (3, .int x3), (4, .int x4)] []) (x3 : Int32) (x4 : Int32) (σ : wS) (h : b_X0_addRope_117 p0 p1 K3 Q x3 x4 σ) : Wx X 7 σ 117 [(0, .ref (ad X 41)), (1, .ref (ad X p0)), (2, .ref (ad X p1)), (3, .int x3), (4, .int x4)] [] := by
  unfold b_X0_addRope_117 at h
  obtain ⟨y1, ey1⟩ : ∃ y : Int32, y = (x4 + (1 : Int32)) := ⟨_, rfl⟩
  replace h := h y1 ey1
  refine x_iinc (q := 4) (v := y1) (lv' := [(4, .int y1), (0, .ref (ad X 41)), (1, .ref (ad X p0)), (2, .ref (ad X p1)), (3, .int x3)]) F dX0_addRope_117 rfl (by rw [ey1]; rfl) (by decide) rfl ?_
  refine x_goto (tgt := 3) F dX0_addRope_120 (by decide) ?_
  refine x_sub (lv' := [(0, .ref (ad X 41)), (1, .ref (ad X p0)), (2, .ref (ad X p1)), (3, .int x3), (4, .int y1)]) [1, 2, 3, 4, 0] rfl ?_
  exact hK3 _ _ _ h
def b_X0_addRope_111 (p0 : Nat) (p1 : Nat) (K3 : Int32 → Int32 → wS → Prop) (K58 : Int32 → Int32 → Int32 → Int32 → wS → Prop) (Q : wS → Prop) (x3 : Int32) (x4 : Int32) (x5 : Int32) (x6 : Int32) (σ : wS) : Prop := ∀ y1 : Int32, y1 = (x6 + (1 : Int32)) → (K58 x3 x4 x5 y1 σ)
set_option maxRecDepth 100000 in
set_option maxHeartbeats 4000000 in
theorem wb_X0_addRope_111 {X : XT} {Q : wS → Prop} {p0 : Nat} {p1 : Nat} (F : Fx X cX0_addRope 7 RX0 wvX0_addRope 0 0) (hret : Rv X 7 cX0_addRope Q) (k_p0 : kd p0 = 5) (k_p1 : kd p1 = 3) {K3 : Int32 → Int32 → wS → Prop} {K58 : Int32 → Int32 → Int32 → Int32 → wS → Prop} (hK3 : ∀ (x3 : Int32) (x4 : Int32) (σ : wS), K3 x3 x4 σ → Wx X 7 σ 3 [(0, .ref (ad X 41)), (1, .ref (ad X p0)), (2, .ref (ad X p1)), (3, .int x3), (4, .int x4)] []) (hK58 : ∀ (x3 : Int32) (x4 : Int32) (x5 : Int32) (x6 : Int32) (σ : wS), K58 x3 x4 x5 x6 σ → Wx X 7 σ 58 [(0, .ref (ad X 41)), (1, .ref (ad X p0)), (2, .ref (ad X p1)), (3, .int x3), (4, .int x4), (5, .int x5), (6, .int x6)] []) (x3 : Int32) (x4 : Int32) (x5 : Int32) (x6 : Int32) (σ : wS) (h : b_X0_addRope_111 p0 p1 K3 K58 Q x3 x4 x5 x6 σ) : Wx X 7 σ 111 [(0, .ref (ad X 41)), (1, .ref (ad X p0)), (2, .ref (ad X p1)), (3, .int x3), (4, .int x4), (5, .int x5), (6, .int x6)] [] := by
  unfold b_X0_addRope_111 at h
  obtain ⟨y1, ey1⟩ : ∃ y : Int32, y = (x6 + (1 : Int32)) := ⟨_, rfl⟩
  replace h := h y1 ey1
  refine x_iinc (q := 6) (v := y1) (lv' := [(6, .int y1), (0, .ref (ad X 41)), (1, .ref (ad X p0)), (2, .ref (ad X p1)), (3, .int x3), (4, .int x4), (5, .int x5)]) F dX0_addRope_111 rfl (by rw [ey1]; rfl) (by decide) rfl ?_
  refine x_goto (tgt := 58) F dX0_addRope_114 (by decide) ?_
  refine x_sub (lv' := [(0, .ref (ad X 41)), (1, .ref (ad X p0)), (2, .ref (ad X p1)), (3, .int x3), (4, .int x4), (5, .int x5), (6, .int y1)]) [1, 2, 3, 4, 5, 6, 0] rfl ?_
  exact hK58 _ _ _ _ _ h
def l_X0_addRope_58 (p0 : Nat) (p1 : Nat) (K3 : Int32 → Int32 → wS → Prop) (Q : wS → Prop) : Nat → Int32 → Int32 → Int32 → Int32 → wS → Prop
  | 0, _, _, _, _, _ => False
  | n + 1, x3, x4, x5, x6, σ => ((3 : Int32) ≤ x6 → (b_X0_addRope_117 p0 p1 K3 Q x3 x4 σ)) ∧ (¬ (3 : Int32) ≤ x6 → (vp_in x6 3 ∧ (((σ.1 (p0 + 6) (x6).toNatClampNeg) = 0 → (b_X0_addRope_111 p0 p1 K3 (fun x3 x4 x5 x6 σ => l_X0_addRope_58 p0 p1 K3 Q n x3 x4 x5 x6 σ) Q x3 x4 x5 x6 σ)) ∧ (¬ (σ.1 (p0 + 6) (x6).toNatClampNeg) = 0 → (vp_in (((3 : Int32) * x4) + x6) 9 ∧ (vp_in x3 8 ∧ (vp_in (((3 : Int32) * x3) + x6) 24 ∧ (vp_in (((3 : Int32) * x4) + x6) 9 ∧ (∀ s1 : wS, s1 = upJ σ 42 ((((3 : Int32) * x4) + x6)).toNatClampNeg ((σ.2 42 ((((3 : Int32) * x4) + x6)).toNatClampNeg) + ((((σ.1 (p0 + 4) (x3).toNatClampNeg) * x5) * (σ.1 (p0 + 3) ((((3 : Int32) * x3) + x6)).toNatClampNeg))).toInt64) → (b_X0_addRope_111 p0 p1 K3 (fun x3 x4 x5 x6 σ => l_X0_addRope_58 p0 p1 K3 Q n x3 x4 x5 x6 σ) Q x3 x4 x5 x6 s1))))))))))
set_option maxRecDepth 100000 in
set_option maxHeartbeats 4000000 in
theorem wl_X0_addRope_58 {X : XT} {Q : wS → Prop} {p0 : Nat} {p1 : Nat} (F : Fx X cX0_addRope 7 RX0 wvX0_addRope 0 0) (hret : Rv X 7 cX0_addRope Q) (k_p0 : kd p0 = 5) (k_p1 : kd p1 = 3) {K3 : Int32 → Int32 → wS → Prop} (hK3 : ∀ (x3 : Int32) (x4 : Int32) (σ : wS), K3 x3 x4 σ → Wx X 7 σ 3 [(0, .ref (ad X 41)), (1, .ref (ad X p0)), (2, .ref (ad X p1)), (3, .int x3), (4, .int x4)] []) : ∀ (n : Nat) (x3 : Int32) (x4 : Int32) (x5 : Int32) (x6 : Int32) (σ : wS), l_X0_addRope_58 p0 p1 K3 Q n x3 x4 x5 x6 σ → Wx X 7 σ 58 [(0, .ref (ad X 41)), (1, .ref (ad X p0)), (2, .ref (ad X p1)), (3, .int x3), (4, .int x4), (5, .int x5), (6, .int x6)] [] := by
  intro n
  induction n with
  | zero =>
    intros
    contradiction
  | succ n ih =>
    intro x3 x4 x5 x6 σ h
    simp only [l_X0_addRope_58] at h
    refine x_iload F dX0_addRope_58 6 rfl ?_
    refine x_iconst (3 : Int32) F dX0_addRope_60 (by decide) ?_
    refine x_icmp_ge (tgt := 117) F dX0_addRope_61 (by decide) (fun c => ?_) (fun c => ?_)
    · replace h := h.1 c
      refine x_sub (lv' := [(0, .ref (ad X 41)), (1, .ref (ad X p0)), (2, .ref (ad X p1)), (3, .int x3), (4, .int x4)]) [0, 1, 2, 3, 4] rfl ?_
      exact wb_X0_addRope_117 F hret k_p0 k_p1 hK3 _ _ _ h
    · replace h := h.2 c
      refine x_aload_n F dX0_addRope_64 rfl 1 rfl ?_
      refine g_5_5 F k_p0 in_5 (mc bw_20_7) dX0_addRope_65 ?_
      refine x_iload F dX0_addRope_68 6 rfl ?_
      obtain ⟨hj, h⟩ := h
      refine x_zald F (ky_5_5 k_p0) (kn_5_5 k_p0) hj dX0_addRope_70 ?_
      refine x_if_eq (tgt := 111) F dX0_addRope_71 (by decide) (fun c => ?_) (fun c => ?_)
      · replace h := h.1 c
        refine x_sub (lv' := [(0, .ref (ad X 41)), (1, .ref (ad X p0)), (2, .ref (ad X p1)), (3, .int x3), (4, .int x4), (5, .int x5), (6, .int x6)]) [0, 1, 2, 3, 4, 5, 6] rfl ?_
        exact wb_X0_addRope_111 F hret k_p0 k_p1 hK3 ih _ _ _ _ _ h
      · replace h := h.2 c
        refine x_aload_n F dX0_addRope_74 rfl 0 rfl ?_
        refine g_0_0 F kz_41 in_0 (mc bw_5_18) dX0_addRope_75 ?_
        refine x_iconst (3 : Int32) F dX0_addRope_78 (by decide) ?_
        refine x_iload F dX0_addRope_79 4 rfl ?_
        refine x_imul F dX0_addRope_81 ?_
        refine x_iload F dX0_addRope_82 6 rfl ?_
        refine x_iadd F dX0_addRope_84 ?_
        refine x_dup2_11 F dX0_addRope_85 rfl rfl ?_
        obtain ⟨hj, h⟩ := h
        refine x_lald F kz_42 nz_42 hj dX0_addRope_86 ?_
        refine x_aload_n F dX0_addRope_87 rfl 1 rfl ?_
        refine g_5_3 F k_p0 in_5 (mc bw_20_15) dX0_addRope_88 ?_
        refine x_iload_n F dX0_addRope_91 rfl 3 rfl ?_
        obtain ⟨hj, h⟩ := h
        refine x_iald F (ky_5_3 k_p0) (kn_5_3 k_p0) hj dX0_addRope_92 ?_
        refine x_iload F dX0_addRope_93 5 rfl ?_
        refine x_imul F dX0_addRope_95 ?_
        refine x_aload_n F dX0_addRope_96 rfl 1 rfl ?_
        refine g_5_2 F k_p0 in_5 (mc bw_20_13) dX0_addRope_97 ?_
        refine x_iconst (3 : Int32) F dX0_addRope_100 (by decide) ?_
        refine x_iload_n F dX0_addRope_101 rfl 3 rfl ?_
        refine x_imul F dX0_addRope_102 ?_
        refine x_iload F dX0_addRope_103 6 rfl ?_
        refine x_iadd F dX0_addRope_105 ?_
        obtain ⟨hj, h⟩ := h
        refine x_iald F (ky_5_2 k_p0) (kn_5_2 k_p0) hj dX0_addRope_106 ?_
        refine x_imul F dX0_addRope_107 ?_
        refine x_i2l F dX0_addRope_108 ?_
        refine x_ladd F dX0_addRope_109 ?_
        obtain ⟨hz, h⟩ := h
        refine x_last F kz_42 nz_42 hz dX0_addRope_110 ?_
        refine x_nmS (fun s1 es1 => ?_)
        replace h := h s1 es1
        refine x_sub (lv' := [(0, .ref (ad X 41)), (1, .ref (ad X p0)), (2, .ref (ad X p1)), (3, .int x3), (4, .int x4), (5, .int x5), (6, .int x6)]) [0, 1, 2, 3, 4, 5, 6] rfl ?_
        exact wb_X0_addRope_111 F hret k_p0 k_p1 hK3 ih _ _ _ _ _ h
def l_X0_addRope_3 (p0 : Nat) (p1 : Nat)  (Q : wS → Prop) : Nat → Int32 → Int32 → wS → Prop
  | 0, _, _, _ => False
  | n + 1, x3, x4, σ => ((3 : Int32) ≤ x4 → (Q σ)) ∧ (¬ (3 : Int32) ≤ x4 → (vp_in x4 3 ∧ ((¬ (σ.1 (p0 + 6) (x4).toNatClampNeg) = 0 → (vp_in (((3 : Int32) * x3) + x4) 24 ∧ (∀ y1 : Int32, y1 = (σ.1 (p0 + 3) ((((3 : Int32) * x3) + x4)).toNatClampNeg) → (vp_in x4 3 ∧ (vp_in x3 8 ∧ (vp_in x4 3 ∧ (∀ s2 : wS, s2 = upJ σ 43 (x4).toNatClampNeg ((σ.2 43 (x4).toNatClampNeg) + (((σ.1 (p1 + 1) (x3).toNatClampNeg) * y1)).toInt64) → ((∃ m, l_X0_addRope_58 p0 p1 (fun x3 x4 σ => l_X0_addRope_3 p0 p1  Q n x3 x4 σ) Q m x3 x4 y1 (0 : Int32) s2))))))))) ∧ ((σ.1 (p0 + 6) (x4).toNatClampNeg) = 0 → (b_X0_addRope_117 p0 p1 (fun x3 x4 σ => l_X0_addRope_3 p0 p1  Q n x3 x4 σ) Q x3 x4 σ)))))
set_option maxRecDepth 100000 in
set_option maxHeartbeats 4000000 in
theorem wl_X0_addRope_3 {X : XT} {Q : wS → Prop} {p0 : Nat} {p1 : Nat} (F : Fx X cX0_addRope 7 RX0 wvX0_addRope 0 0) (hret : Rv X 7 cX0_addRope Q) (k_p0 : kd p0 = 5) (k_p1 : kd p1 = 3)   : ∀ (n : Nat) (x3 : Int32) (x4 : Int32) (σ : wS), l_X0_addRope_3 p0 p1  Q n x3 x4 σ → Wx X 7 σ 3 [(0, .ref (ad X 41)), (1, .ref (ad X p0)), (2, .ref (ad X p1)), (3, .int x3), (4, .int x4)] [] := by
  intro n
  induction n with
  | zero =>
    intros
    contradiction
  | succ n ih =>
    intro x3 x4 σ h
    simp only [l_X0_addRope_3] at h
    refine x_iload F dX0_addRope_3 4 rfl ?_
    refine x_iconst (3 : Int32) F dX0_addRope_5 (by decide) ?_
    refine x_icmp_ge (tgt := 123) F dX0_addRope_6 (by decide) (fun c => ?_) (fun c => ?_)
    · replace h := h.1 c
      exact hret _ _ _ h dX0_addRope_123
    · replace h := h.2 c
      refine x_aload_n F dX0_addRope_9 rfl 1 rfl ?_
      refine g_5_5 F k_p0 in_5 (mc bw_20_7) dX0_addRope_10 ?_
      refine x_iload F dX0_addRope_13 4 rfl ?_
      obtain ⟨hj, h⟩ := h
      refine x_zald F (ky_5_5 k_p0) (kn_5_5 k_p0) hj dX0_addRope_15 ?_
      refine x_if_ne (tgt := 22) F dX0_addRope_16 (by decide) (fun c => ?_) (fun c => ?_)
      · replace h := h.1 c
        refine x_aload_n F dX0_addRope_22 rfl 1 rfl ?_
        refine g_5_2 F k_p0 in_5 (mc bw_20_13) dX0_addRope_23 ?_
        refine x_iconst (3 : Int32) F dX0_addRope_26 (by decide) ?_
        refine x_iload_n F dX0_addRope_27 rfl 3 rfl ?_
        refine x_imul F dX0_addRope_28 ?_
        refine x_iload F dX0_addRope_29 4 rfl ?_
        refine x_iadd F dX0_addRope_31 ?_
        obtain ⟨hj, h⟩ := h
        refine x_iald F (ky_5_2 k_p0) (kn_5_2 k_p0) hj dX0_addRope_32 ?_
        refine x_topi (fun y1 ey1 => ?_)
        replace h := h y1 ey1
        refine x_istore (lv' := [(5, .int y1), (0, .ref (ad X 41)), (1, .ref (ad X p0)), (2, .ref (ad X p1)), (3, .int x3), (4, .int x4)]) F dX0_addRope_33 (by decide) rfl ?_
        refine x_aload_n F dX0_addRope_35 rfl 1 rfl ?_
        refine g_0_1 F kz_41 in_0 (mc bw_5_19) dX0_addRope_36 ?_
        refine x_iload F dX0_addRope_39 5 rfl ?_
        refine x_dup2_11 F dX0_addRope_41 rfl rfl ?_
        obtain ⟨hj, h⟩ := h
        refine x_lald F kz_43 nz_43 hj dX0_addRope_42 ?_
        refine x_aload_n F dX0_addRope_43 rfl 3 rfl ?_
        refine g_3_0 F k_p1 in_3 (mc bw_20_14) dX0_addRope_44 ?_
        refine x_iload_n F dX0_addRope_47 rfl 4 rfl ?_
        obtain ⟨hj, h⟩ := h
        refine x_iald F (ky_3_0 k_p1) (kn_3_0 k_p1) hj dX0_addRope_48 ?_
        refine x_iload F dX0_addRope_49 0 rfl ?_
        refine x_imul F dX0_addRope_51 ?_
        refine x_i2l F dX0_addRope_52 ?_
        refine x_ladd F dX0_addRope_53 ?_
        obtain ⟨hz, h⟩ := h
        refine x_last F kz_43 nz_43 hz dX0_addRope_54 ?_
        refine x_nmS (fun s2 es2 => ?_)
        replace h := h s2 es2
        refine x_iconst (0 : Int32) F dX0_addRope_55 (by decide) ?_
        refine x_istore (lv' := [(6, .int (0 : Int32)), (5, .int y1), (0, .ref (ad X 41)), (1, .ref (ad X p0)), (2, .ref (ad X p1)), (3, .int x3), (4, .int x4)]) F dX0_addRope_56 (by decide) rfl ?_
        refine x_sub (lv' := [(0, .ref (ad X 41)), (1, .ref (ad X p0)), (2, .ref (ad X p1)), (3, .int x3), (4, .int x4), (5, .int y1), (6, .int (0 : Int32))]) [2, 3, 4, 5, 6, 1, 0] rfl ?_
        obtain ⟨n2, h⟩ := h
        exact wl_X0_addRope_58 F hret k_p0 k_p1 ih n2 _ _ _ _ _ h
      · replace h := h.2 c
        refine x_goto (tgt := 117) F dX0_addRope_19 (by decide) ?_
        refine x_sub (lv' := [(0, .ref (ad X 41)), (1, .ref (ad X p0)), (2, .ref (ad X p1)), (3, .int x3), (4, .int x4)]) [0, 1, 2, 3, 4] rfl ?_
        exact wb_X0_addRope_117 F hret k_p0 k_p1 ih _ _ _ h
def w_X0_addRope (p0 : Nat) (p1 : Nat) (p2 : Int32) (σ : wS) (Q : wS → Prop) : Prop := (∃ m, l_X0_addRope_3 p0 p1  Q m p2 (0 : Int32) σ)
set_option maxRecDepth 100000 in
set_option maxHeartbeats 4000000 in
theorem c_X0_addRope (l : Launch) (g : wG) (A : Nat → Prop) (hA : adO g A) {p0 : Nat} {p1 : Nat} (k_p0 : kd p0 = 5) (k_p1 : kd p1 = 3) {p2 : Int32} {σ : wS} {Q : wS → Prop} (h : w_X0_addRope p0 p1 p2 σ Q) : Mv l yX0_addRope wvX0_addRope 0 0 g A [.ref (g.2.2 41), .ref (g.2.2 p0), .ref (g.2.2 p1), .int p2] σ Q := by
  refine mt_v (own := RX0) (lv := [(0, .ref (g.2.2 41)), (1, .ref (g.2.2 p0)), (2, .ref (g.2.2 p1)), (3, .int p2)]) (by decide) rfl rfl hA (Nat.le_of_ble_eq_true rfl) rfl ?_
  intro X hl hg hAA F hret
  subst hl hg hAA
  unfold w_X0_addRope at h
  refine x_iconst (0 : Int32) F dX0_addRope_0 (by decide) ?_
  refine x_istore (lv' := [(4, .int (0 : Int32)), (0, .ref (ad X 41)), (1, .ref (ad X p0)), (2, .ref (ad X p1)), (3, .int p2)]) F dX0_addRope_1 (by decide) rfl ?_
  refine x_sub (lv' := [(0, .ref (ad X 41)), (1, .ref (ad X p0)), (2, .ref (ad X p1)), (3, .int p2), (4, .int (0 : Int32))]) [1, 2, 3, 4, 0] rfl ?_
  obtain ⟨n2, h⟩ := h
  exact wl_X0_addRope_3 F hret k_p0 k_p1  n2 _ _ _ h
/-! X0_cofactor -/
abbrev wvX0_cofactor : List Cond := Cond.code yX0_cofactor cX0_cofactor 7 (some .long) :: wsL_law
theorem cd_X0_cofactor : okN yX0_cofactor RX0 2 := by unfold okN; decide +kernel
def w_X0_cofactor  (p0 : Int32) (p1 : Int32) (σ : wS) (Q : Int64 → wS → Prop) : Prop := ∀ y1 : Int32, y1 = ((3 : Int32) * ((p0 + (1 : Int32)) - (p0 + (1 : Int32)) / (3 : Int32) * (3 : Int32))) → (∀ y2 : Int32, y2 = ((3 : Int32) * ((p0 + (2 : Int32)) - (p0 + (2 : Int32)) / (3 : Int32) * (3 : Int32))) → (∀ y3 : Int32, y3 = ((p1 + (1 : Int32)) - (p1 + (1 : Int32)) / (3 : Int32) * (3 : Int32)) → (∀ y4 : Int32, y4 = ((p1 + (2 : Int32)) - (p1 + (2 : Int32)) / (3 : Int32) * (3 : Int32)) → (vp_in (y1 + y3) 9 ∧ (vp_in (y2 + y4) 9 ∧ (vp_in (y1 + y4) 9 ∧ (vp_in (y2 + y3) 9 ∧ (Q (((σ.2 42 ((y1 + y3)).toNatClampNeg) * (σ.2 42 ((y2 + y4)).toNatClampNeg)) - ((σ.2 42 ((y1 + y4)).toNatClampNeg) * (σ.2 42 ((y2 + y3)).toNatClampNeg))) σ))))))))
set_option maxRecDepth 100000 in
set_option maxHeartbeats 4000000 in
theorem c_X0_cofactor (l : Launch) (g : wG) (A : Nat → Prop) (hA : adO g A)   {p0 : Int32} {p1 : Int32} {σ : wS} {Q : Int64 → wS → Prop} (h : w_X0_cofactor  p0 p1 σ Q) : Ml l yX0_cofactor wvX0_cofactor 0 0 g A [.ref (g.2.2 41), .int p0, .int p1] σ Q := by
  refine mt_l (own := RX0) (lv := [(0, .ref (g.2.2 41)), (1, .int p0), (2, .int p1)]) (by decide) rfl rfl hA (Nat.le_of_ble_eq_true rfl) rfl ?_
  intro X hl hg hAA F hret
  subst hl hg hAA
  unfold w_X0_cofactor at h
  refine x_iconst (3 : Int32) F dX0_cofactor_0 (by decide) ?_
  refine x_iload_n F dX0_cofactor_1 rfl 1 rfl ?_
  refine x_iconst (1 : Int32) F dX0_cofactor_2 (by decide) ?_
  refine x_iadd F dX0_cofactor_3 ?_
  refine x_iconst (3 : Int32) F dX0_cofactor_4 (by decide) ?_
  refine x_irem F dX0_cofactor_5 (by decide) ?_
  refine x_imul F dX0_cofactor_6 ?_
  refine x_topi (fun y1 ey1 => ?_)
  replace h := h y1 ey1
  refine x_istore_n (lv' := [(3, .int y1), (0, .ref (ad X 41)), (1, .int p0), (2, .int p1)]) F dX0_cofactor_7 rfl (by decide) rfl ?_
  refine x_iconst (3 : Int32) F dX0_cofactor_8 (by decide) ?_
  refine x_iload_n F dX0_cofactor_9 rfl 2 rfl ?_
  refine x_iconst (2 : Int32) F dX0_cofactor_10 (by decide) ?_
  refine x_iadd F dX0_cofactor_11 ?_
  refine x_iconst (3 : Int32) F dX0_cofactor_12 (by decide) ?_
  refine x_irem F dX0_cofactor_13 (by decide) ?_
  refine x_imul F dX0_cofactor_14 ?_
  refine x_topi (fun y2 ey2 => ?_)
  replace h := h y2 ey2
  refine x_istore (lv' := [(4, .int y2), (3, .int y1), (0, .ref (ad X 41)), (1, .int p0), (2, .int p1)]) F dX0_cofactor_15 (by decide) rfl ?_
  refine x_iload_n F dX0_cofactor_17 rfl 4 rfl ?_
  refine x_iconst (1 : Int32) F dX0_cofactor_18 (by decide) ?_
  refine x_iadd F dX0_cofactor_19 ?_
  refine x_iconst (3 : Int32) F dX0_cofactor_20 (by decide) ?_
  refine x_irem F dX0_cofactor_21 (by decide) ?_
  refine x_topi (fun y3 ey3 => ?_)
  replace h := h y3 ey3
  refine x_istore (lv' := [(5, .int y3), (4, .int y2), (3, .int y1), (0, .ref (ad X 41)), (1, .int p0), (2, .int p1)]) F dX0_cofactor_22 (by decide) rfl ?_
  refine x_iload_n F dX0_cofactor_24 rfl 5 rfl ?_
  refine x_iconst (2 : Int32) F dX0_cofactor_25 (by decide) ?_
  refine x_iadd F dX0_cofactor_26 ?_
  refine x_iconst (3 : Int32) F dX0_cofactor_27 (by decide) ?_
  refine x_irem F dX0_cofactor_28 (by decide) ?_
  refine x_topi (fun y4 ey4 => ?_)
  replace h := h y4 ey4
  refine x_istore (lv' := [(6, .int y4), (5, .int y3), (4, .int y2), (3, .int y1), (0, .ref (ad X 41)), (1, .int p0), (2, .int p1)]) F dX0_cofactor_29 (by decide) rfl ?_
  refine x_aload_n F dX0_cofactor_31 rfl 4 rfl ?_
  refine g_0_0 F kz_41 in_0 (mc bw_5_18) dX0_cofactor_32 ?_
  refine x_iload_n F dX0_cofactor_35 rfl 3 rfl ?_
  refine x_iload F dX0_cofactor_36 1 rfl ?_
  refine x_iadd F dX0_cofactor_38 ?_
  obtain ⟨hj, h⟩ := h
  refine x_lald F kz_42 nz_42 hj dX0_cofactor_39 ?_
  refine x_aload_n F dX0_cofactor_40 rfl 4 rfl ?_
  refine g_0_0 F kz_41 in_0 (mc bw_5_18) dX0_cofactor_41 ?_
  refine x_iload F dX0_cofactor_44 2 rfl ?_
  refine x_iload F dX0_cofactor_46 0 rfl ?_
  refine x_iadd F dX0_cofactor_48 ?_
  obtain ⟨hj, h⟩ := h
  refine x_lald F kz_42 nz_42 hj dX0_cofactor_49 ?_
  refine x_lmul F dX0_cofactor_50 ?_
  refine x_aload_n F dX0_cofactor_51 rfl 4 rfl ?_
  refine g_0_0 F kz_41 in_0 (mc bw_5_18) dX0_cofactor_52 ?_
  refine x_iload_n F dX0_cofactor_55 rfl 3 rfl ?_
  refine x_iload F dX0_cofactor_56 0 rfl ?_
  refine x_iadd F dX0_cofactor_58 ?_
  obtain ⟨hj, h⟩ := h
  refine x_lald F kz_42 nz_42 hj dX0_cofactor_59 ?_
  refine x_aload_n F dX0_cofactor_60 rfl 4 rfl ?_
  refine g_0_0 F kz_41 in_0 (mc bw_5_18) dX0_cofactor_61 ?_
  refine x_iload F dX0_cofactor_64 2 rfl ?_
  refine x_iload F dX0_cofactor_66 1 rfl ?_
  refine x_iadd F dX0_cofactor_68 ?_
  obtain ⟨hj, h⟩ := h
  refine x_lald F kz_42 nz_42 hj dX0_cofactor_69 ?_
  refine x_lmul F dX0_cofactor_70 ?_
  refine x_lsub F dX0_cofactor_71 ?_
  exact hret _ _ _ _ h dX0_cofactor_72
/-! X0_putPulls -/
abbrev wvX0_putPulls : List Cond := Cond.code yX0_putPulls cX0_putPulls 7 none :: wsL_law
theorem cd_X0_putPulls : okN yX0_putPulls RX0 2 := by unfold okN; decide +kernel
def l_X0_putPulls_16 (p0 : Nat) (p1 : Nat) (K2 : Int32 → wS → Prop) (Q : wS → Prop) : Nat → Int32 → Int64 → Int32 → wS → Prop
  | 0, _, _, _, _ => False
  | n + 1, x3, x4, x6, σ => ((3 : Int32) ≤ x6 → (vp_in x3 8 ∧ (vp_in x3 8 ∧ (vp_in x3 8 ∧ (∀ s1 : wS, s1 = upJ σ 45 (x3).toNatClampNeg ((((σ.1 (p1 + 1) (x3).toNatClampNeg)).toInt64 * (σ.2 41 4)) - (((σ.1 (p0 + 4) (x3).toNatClampNeg)).toInt64 * x4)) → (∀ y2 : Int32, y2 = (x3 + (1 : Int32)) → (K2 y2 s1))))))) ∧ (¬ (3 : Int32) ≤ x6 → (vp_in (((3 : Int32) * x3) + x6) 24 ∧ (vp_in x6 3 ∧ (∀ y3 : Int64, y3 = (x4 + (((σ.1 (p0 + 3) ((((3 : Int32) * x3) + x6)).toNatClampNeg)).toInt64 * (σ.2 44 (x6).toNatClampNeg))) → (∀ y4 : Int32, y4 = (x6 + (1 : Int32)) → (l_X0_putPulls_16 p0 p1 K2 Q n x3 y3 y4 σ))))))
set_option maxRecDepth 100000 in
set_option maxHeartbeats 4000000 in
theorem wl_X0_putPulls_16 {X : XT} {Q : wS → Prop} {p0 : Nat} {p1 : Nat} (F : Fx X cX0_putPulls 7 RX0 wvX0_putPulls 0 0) (hret : Rv X 7 cX0_putPulls Q) (k_p0 : kd p0 = 5) (k_p1 : kd p1 = 3) {K2 : Int32 → wS → Prop} (hK2 : ∀ (x3 : Int32) (σ : wS), K2 x3 σ → Wx X 7 σ 2 [(0, .ref (ad X 41)), (1, .ref (ad X p0)), (2, .ref (ad X p1)), (3, .int x3)] []) : ∀ (n : Nat) (x3 : Int32) (x4 : Int64) (x6 : Int32) (σ : wS), l_X0_putPulls_16 p0 p1 K2 Q n x3 x4 x6 σ → Wx X 7 σ 16 [(0, .ref (ad X 41)), (1, .ref (ad X p0)), (2, .ref (ad X p1)), (3, .int x3), (4, .long x4), (6, .int x6)] [] := by
  intro n
  induction n with
  | zero =>
    intros
    contradiction
  | succ n ih =>
    intro x3 x4 x6 σ h
    simp only [l_X0_putPulls_16] at h
    refine x_iload F dX0_putPulls_16 5 rfl ?_
    refine x_iconst (3 : Int32) F dX0_putPulls_18 (by decide) ?_
    refine x_icmp_ge (tgt := 53) F dX0_putPulls_19 (by decide) (fun c => ?_) (fun c => ?_)
    · replace h := h.1 c
      refine x_aload_n F dX0_putPulls_53 rfl 0 rfl ?_
      refine g_0_3 F kz_41 in_0 (mc bw_5_21) dX0_putPulls_54 ?_
      refine x_iload_n F dX0_putPulls_57 rfl 3 rfl ?_
      refine x_aload_n F dX0_putPulls_58 rfl 2 rfl ?_
      refine g_3_0 F k_p1 in_3 (mc bw_20_14) dX0_putPulls_59 ?_
      refine x_iload_n F dX0_putPulls_62 rfl 3 rfl ?_
      obtain ⟨hj, h⟩ := h
      refine x_iald F (ky_3_0 k_p1) (kn_3_0 k_p1) hj dX0_putPulls_63 ?_
      refine x_i2l F dX0_putPulls_64 ?_
      refine x_aload_n F dX0_putPulls_65 rfl 0 rfl ?_
      refine g_0_4 F kz_41 in_0 (mc bw_5_22) dX0_putPulls_66 ?_
      refine x_lmul F dX0_putPulls_69 ?_
      refine x_aload_n F dX0_putPulls_70 rfl 1 rfl ?_
      refine g_5_3 F k_p0 in_5 (mc bw_20_15) dX0_putPulls_71 ?_
      refine x_iload_n F dX0_putPulls_74 rfl 3 rfl ?_
      obtain ⟨hj, h⟩ := h
      refine x_iald F (ky_5_3 k_p0) (kn_5_3 k_p0) hj dX0_putPulls_75 ?_
      refine x_i2l F dX0_putPulls_76 ?_
      refine x_lload F dX0_putPulls_77 4 rfl ?_
      refine x_lmul F dX0_putPulls_79 ?_
      refine x_lsub F dX0_putPulls_80 ?_
      obtain ⟨hz, h⟩ := h
      refine x_last F kz_45 nz_45 hz dX0_putPulls_81 ?_
      refine x_nmS (fun s1 es1 => ?_)
      replace h := h s1 es1
      obtain ⟨y2, ey2⟩ : ∃ y : Int32, y = (x3 + (1 : Int32)) := ⟨_, rfl⟩
      replace h := h y2 ey2
      refine x_iinc (q := 3) (v := y2) (lv' := [(3, .int y2), (0, .ref (ad X 41)), (1, .ref (ad X p0)), (2, .ref (ad X p1)), (4, .long x4), (6, .int x6)]) F dX0_putPulls_82 rfl (by rw [ey2]; rfl) (by decide) rfl ?_
      refine x_goto (tgt := 2) F dX0_putPulls_85 (by decide) ?_
      refine x_sub (lv' := [(0, .ref (ad X 41)), (1, .ref (ad X p0)), (2, .ref (ad X p1)), (3, .int y2)]) [1, 2, 3, 0] rfl ?_
      exact hK2 _ _ h
    · replace h := h.2 c
      refine x_lload F dX0_putPulls_22 4 rfl ?_
      refine x_aload_n F dX0_putPulls_24 rfl 1 rfl ?_
      refine g_5_2 F k_p0 in_5 (mc bw_20_13) dX0_putPulls_25 ?_
      refine x_iconst (3 : Int32) F dX0_putPulls_28 (by decide) ?_
      refine x_iload_n F dX0_putPulls_29 rfl 3 rfl ?_
      refine x_imul F dX0_putPulls_30 ?_
      refine x_iload F dX0_putPulls_31 5 rfl ?_
      refine x_iadd F dX0_putPulls_33 ?_
      obtain ⟨hj, h⟩ := h
      refine x_iald F (ky_5_2 k_p0) (kn_5_2 k_p0) hj dX0_putPulls_34 ?_
      refine x_i2l F dX0_putPulls_35 ?_
      refine x_aload_n F dX0_putPulls_36 rfl 0 rfl ?_
      refine g_0_2 F kz_41 in_0 (mc bw_5_20) dX0_putPulls_37 ?_
      refine x_iload F dX0_putPulls_40 5 rfl ?_
      obtain ⟨hj, h⟩ := h
      refine x_lald F kz_44 nz_44 hj dX0_putPulls_42 ?_
      refine x_lmul F dX0_putPulls_43 ?_
      refine x_ladd F dX0_putPulls_44 ?_
      refine x_topl (fun y3 ey3 => ?_)
      replace h := h y3 ey3
      refine x_lstore (lv' := [(4, .long y3), (0, .ref (ad X 41)), (1, .ref (ad X p0)), (2, .ref (ad X p1)), (3, .int x3), (6, .int x6)]) F dX0_putPulls_45 (by decide) rfl ?_
      obtain ⟨y4, ey4⟩ : ∃ y : Int32, y = (x6 + (1 : Int32)) := ⟨_, rfl⟩
      replace h := h y4 ey4
      refine x_iinc (q := 5) (v := y4) (lv' := [(6, .int y4), (4, .long y3), (0, .ref (ad X 41)), (1, .ref (ad X p0)), (2, .ref (ad X p1)), (3, .int x3)]) F dX0_putPulls_47 rfl (by rw [ey4]; rfl) (by decide) rfl ?_
      refine x_goto (tgt := 16) F dX0_putPulls_50 (by decide) ?_
      refine x_sub (lv' := [(0, .ref (ad X 41)), (1, .ref (ad X p0)), (2, .ref (ad X p1)), (3, .int x3), (4, .long y3), (6, .int y4)]) [2, 3, 4, 5, 1, 0] rfl ?_
      exact ih _ _ _ _ h
def l_X0_putPulls_2 (p0 : Nat) (p1 : Nat)  (Q : wS → Prop) : Nat → Int32 → wS → Prop
  | 0, _, _ => False
  | n + 1, x3, σ => ((σ.1 p0 6) ≤ x3 → (Q σ)) ∧ (¬ (σ.1 p0 6) ≤ x3 → ((∃ m, l_X0_putPulls_16 p0 p1 (fun x3 σ => l_X0_putPulls_2 p0 p1  Q n x3 σ) Q m x3 (0 : Int64) (0 : Int32) σ)))
set_option maxRecDepth 100000 in
set_option maxHeartbeats 4000000 in
theorem wl_X0_putPulls_2 {X : XT} {Q : wS → Prop} {p0 : Nat} {p1 : Nat} (F : Fx X cX0_putPulls 7 RX0 wvX0_putPulls 0 0) (hret : Rv X 7 cX0_putPulls Q) (k_p0 : kd p0 = 5) (k_p1 : kd p1 = 3)   : ∀ (n : Nat) (x3 : Int32) (σ : wS), l_X0_putPulls_2 p0 p1  Q n x3 σ → Wx X 7 σ 2 [(0, .ref (ad X 41)), (1, .ref (ad X p0)), (2, .ref (ad X p1)), (3, .int x3)] [] := by
  intro n
  induction n with
  | zero =>
    intros
    contradiction
  | succ n ih =>
    intro x3 σ h
    simp only [l_X0_putPulls_2] at h
    refine x_iload_n F dX0_putPulls_2 rfl 3 rfl ?_
    refine x_aload_n F dX0_putPulls_3 rfl 1 rfl ?_
    refine g_5_6 F k_p0 in_5 (mc bw_20_2) dX0_putPulls_4 ?_
    refine x_icmp_ge (tgt := 88) F dX0_putPulls_7 (by decide) (fun c => ?_) (fun c => ?_)
    · replace h := h.1 c
      exact hret _ _ _ h dX0_putPulls_88
    · replace h := h.2 c
      refine x_lconst (0 : Int64) F dX0_putPulls_10 (by decide) ?_
      refine x_lstore (lv' := [(4, .long (0 : Int64)), (0, .ref (ad X 41)), (1, .ref (ad X p0)), (2, .ref (ad X p1)), (3, .int x3)]) F dX0_putPulls_11 (by decide) rfl ?_
      refine x_iconst (0 : Int32) F dX0_putPulls_13 (by decide) ?_
      refine x_istore (lv' := [(6, .int (0 : Int32)), (4, .long (0 : Int64)), (0, .ref (ad X 41)), (1, .ref (ad X p0)), (2, .ref (ad X p1)), (3, .int x3)]) F dX0_putPulls_14 (by decide) rfl ?_
      refine x_sub (lv' := [(0, .ref (ad X 41)), (1, .ref (ad X p0)), (2, .ref (ad X p1)), (3, .int x3), (4, .long (0 : Int64)), (6, .int (0 : Int32))]) [2, 3, 4, 5, 1, 0] rfl ?_
      obtain ⟨n2, h⟩ := h
      exact wl_X0_putPulls_16 F hret k_p0 k_p1 ih n2 _ _ _ _ h
def w_X0_putPulls (p0 : Nat) (p1 : Nat)  (σ : wS) (Q : wS → Prop) : Prop := (∃ m, l_X0_putPulls_2 p0 p1  Q m (0 : Int32) σ)
set_option maxRecDepth 100000 in
set_option maxHeartbeats 4000000 in
theorem c_X0_putPulls (l : Launch) (g : wG) (A : Nat → Prop) (hA : adO g A) {p0 : Nat} {p1 : Nat} (k_p0 : kd p0 = 5) (k_p1 : kd p1 = 3)  {σ : wS} {Q : wS → Prop} (h : w_X0_putPulls p0 p1  σ Q) : Mv l yX0_putPulls wvX0_putPulls 0 0 g A [.ref (g.2.2 41), .ref (g.2.2 p0), .ref (g.2.2 p1)] σ Q := by
  refine mt_v (own := RX0) (lv := [(0, .ref (g.2.2 41)), (1, .ref (g.2.2 p0)), (2, .ref (g.2.2 p1))]) (by decide) rfl rfl hA (Nat.le_of_ble_eq_true rfl) rfl ?_
  intro X hl hg hAA F hret
  subst hl hg hAA
  unfold w_X0_putPulls at h
  refine x_iconst (0 : Int32) F dX0_putPulls_0 (by decide) ?_
  refine x_istore_n (lv' := [(3, .int (0 : Int32)), (0, .ref (ad X 41)), (1, .ref (ad X p0)), (2, .ref (ad X p1))]) F dX0_putPulls_1 rfl (by decide) rfl ?_
  refine x_sub (lv' := [(0, .ref (ad X 41)), (1, .ref (ad X p0)), (2, .ref (ad X p1)), (3, .int (0 : Int32))]) [1, 2, 3, 0] rfl ?_
  obtain ⟨n2, h⟩ := h
  exact wl_X0_putPulls_2 F hret k_p0 k_p1  n2 _ _ h
/-! X0_solve -/
abbrev wvX0_solve : List Cond := Cond.code yX0_solve cX0_solve 6 (some .boolean) :: wsL_law
theorem cd_X0_solve : okN yX0_solve RX0 3 := by unfold okN; decide +kernel
def l_X0_solve_117 (p0 : Nat) (p1 : Nat) (K100 : Int32 → wS → Prop) (Q : Int32 → wS → Prop) : Nat → Int32 → Int32 → wS → Prop
  | 0, _, _, _ => False
  | n + 1, x4, x5, σ => ((3 : Int32) ≤ x5 → (∀ y1 : Int32, y1 = (x4 + (1 : Int32)) → (K100 y1 σ))) ∧ (¬ (3 : Int32) ≤ x5 → (vp_in x4 3 ∧ (w_X0_cofactor x4 x5 σ (fun r3 s2 => vp_in x5 3 ∧ (vp_in x4 3 ∧ (∀ s4 : wS, s4 = upJ s2 44 (x4).toNatClampNeg ((σ.2 44 (x4).toNatClampNeg) + (r3 * (s2.2 43 (x5).toNatClampNeg))) → (∀ y5 : Int32, y5 = (x5 + (1 : Int32)) → (l_X0_solve_117 p0 p1 K100 Q n x4 y5 s4))))))))
set_option maxRecDepth 100000 in
set_option maxHeartbeats 4000000 in
theorem wl_X0_solve_117 {X : XT} {Q : Int32 → wS → Prop} {p0 : Nat} {p1 : Nat} (F : Fx X cX0_solve 6 RX0 wvX0_solve 1 26) (hret : Ri X 6 cX0_solve .boolean Q) (k_p0 : kd p0 = 5) (k_p1 : kd p1 = 3) {K100 : Int32 → wS → Prop} (hK100 : ∀ (x4 : Int32) (σ : wS), K100 x4 σ → Wx X 6 σ 100 [(0, .ref (ad X 41)), (1, .ref (ad X p0)), (2, .ref (ad X p1)), (4, .int x4)] []) : ∀ (n : Nat) (x4 : Int32) (x5 : Int32) (σ : wS), l_X0_solve_117 p0 p1 K100 Q n x4 x5 σ → Wx X 6 σ 117 [(0, .ref (ad X 41)), (1, .ref (ad X p0)), (2, .ref (ad X p1)), (4, .int x4), (5, .int x5)] [] := by
  intro n
  induction n with
  | zero =>
    intros
    contradiction
  | succ n ih =>
    intro x4 x5 σ h
    simp only [l_X0_solve_117] at h
    refine x_iload F dX0_solve_117 4 rfl ?_
    refine x_iconst (3 : Int32) F dX0_solve_119 (by decide) ?_
    refine x_icmp_ge (tgt := 155) F dX0_solve_120 (by decide) (fun c => ?_) (fun c => ?_)
    · replace h := h.1 c
      obtain ⟨y1, ey1⟩ : ∃ y : Int32, y = (x4 + (1 : Int32)) := ⟨_, rfl⟩
      replace h := h y1 ey1
      refine x_iinc (q := 3) (v := y1) (lv' := [(4, .int y1), (0, .ref (ad X 41)), (1, .ref (ad X p0)), (2, .ref (ad X p1)), (5, .int x5)]) F dX0_solve_155 rfl (by rw [ey1]; rfl) (by decide) rfl ?_
      refine x_goto (tgt := 100) F dX0_solve_158 (by decide) ?_
      refine x_sub (lv' := [(0, .ref (ad X 41)), (1, .ref (ad X p0)), (2, .ref (ad X p1)), (4, .int y1)]) [1, 2, 3, 0] rfl ?_
      exact hK100 _ _ h
    · replace h := h.2 c
      refine x_aload_n F dX0_solve_123 rfl 0 rfl ?_
      refine g_0_2 F kz_41 in_0 (mc bw_5_20) dX0_solve_124 ?_
      refine x_iload F dX0_solve_127 3 rfl ?_
      refine x_dup2_11 F dX0_solve_129 rfl rfl ?_
      obtain ⟨hj, h⟩ := h
      refine x_lald F kz_44 nz_44 hj dX0_solve_130 ?_
      refine x_aload_n F dX0_solve_131 rfl 0 rfl ?_
      refine x_iload F dX0_solve_132 3 rfl ?_
      refine x_iload F dX0_solve_134 4 rfl ?_
      refine x_callV_l F (c_X0_cofactor (xl X) (xg X) (xA X) F.2.2.1  h) (bw_V bw_20_16 bw_20_17 bw_20_18 bw_5_8 bw_20_19) rfl cd_X0_cofactor (Nat.le_of_ble_eq_true rfl) (Nat.le_of_ble_eq_true rfl) (kd_w (by decide) kz_41) rfl (cl_0 kz_41) rfl rfl (Nat.le_of_ble_eq_true rfl) dX0_solve_136 (fun r3 s2 h => ?_)
      refine x_aload_n F dX0_solve_139 rfl 0 rfl ?_
      refine g_0_1 F kz_41 in_0 (mc bw_5_19) dX0_solve_140 ?_
      refine x_iload F dX0_solve_143 4 rfl ?_
      obtain ⟨hj, h⟩ := h
      refine x_lald F kz_43 nz_43 hj dX0_solve_145 ?_
      refine x_lmul F dX0_solve_146 ?_
      refine x_ladd F dX0_solve_147 ?_
      obtain ⟨hz, h⟩ := h
      refine x_last F kz_44 nz_44 hz dX0_solve_148 ?_
      refine x_nmS (fun s4 es4 => ?_)
      replace h := h s4 es4
      obtain ⟨y5, ey5⟩ : ∃ y : Int32, y = (x5 + (1 : Int32)) := ⟨_, rfl⟩
      replace h := h y5 ey5
      refine x_iinc (q := 4) (v := y5) (lv' := [(5, .int y5), (0, .ref (ad X 41)), (1, .ref (ad X p0)), (2, .ref (ad X p1)), (4, .int x4)]) F dX0_solve_149 rfl (by rw [ey5]; rfl) (by decide) rfl ?_
      refine x_goto (tgt := 117) F dX0_solve_152 (by decide) ?_
      refine x_sub (lv' := [(0, .ref (ad X 41)), (1, .ref (ad X p0)), (2, .ref (ad X p1)), (4, .int x4), (5, .int y5)]) [1, 2, 3, 4, 0] rfl ?_
      exact ih _ _ _ h
def l_X0_solve_100 (p0 : Nat) (p1 : Nat)  (Q : Int32 → wS → Prop) : Nat → Int32 → wS → Prop
  | 0, _, _ => False
  | n + 1, x4, σ => ((3 : Int32) ≤ x4 → (w_X0_putPulls p0 p1 σ (fun s1 => Q (1 : Int32) s1))) ∧ (¬ (3 : Int32) ≤ x4 → (vp_in x4 3 ∧ (∀ s3 : wS, s3 = upJ σ 44 (x4).toNatClampNeg (0 : Int64) → ((∃ m, l_X0_solve_117 p0 p1 (fun x4 σ => l_X0_solve_100 p0 p1  Q n x4 σ) Q m x4 (0 : Int32) s3)))))
set_option maxRecDepth 100000 in
set_option maxHeartbeats 4000000 in
theorem wl_X0_solve_100 {X : XT} {Q : Int32 → wS → Prop} {p0 : Nat} {p1 : Nat} (F : Fx X cX0_solve 6 RX0 wvX0_solve 1 26) (hret : Ri X 6 cX0_solve .boolean Q) (k_p0 : kd p0 = 5) (k_p1 : kd p1 = 3)   : ∀ (n : Nat) (x4 : Int32) (σ : wS), l_X0_solve_100 p0 p1  Q n x4 σ → Wx X 6 σ 100 [(0, .ref (ad X 41)), (1, .ref (ad X p0)), (2, .ref (ad X p1)), (4, .int x4)] [] := by
  intro n
  induction n with
  | zero =>
    intros
    contradiction
  | succ n ih =>
    intro x4 σ h
    simp only [l_X0_solve_100] at h
    refine x_iload F dX0_solve_100 3 rfl ?_
    refine x_iconst (3 : Int32) F dX0_solve_102 (by decide) ?_
    refine x_icmp_ge (tgt := 161) F dX0_solve_103 (by decide) (fun c => ?_) (fun c => ?_)
    · replace h := h.1 c
      refine x_aload_n F dX0_solve_161 rfl 0 rfl ?_
      refine x_aload_n F dX0_solve_162 rfl 1 rfl ?_
      refine x_aload_n F dX0_solve_163 rfl 2 rfl ?_
      refine x_callV_v F (c_X0_putPulls (xl X) (xg X) (xA X) F.2.2.1 k_p0 k_p1 h) (bw_V bw_20_20 bw_20_21 bw_20_22 bw_5_8 bw_20_23) rfl cd_X0_putPulls (Nat.le_of_ble_eq_true rfl) (Nat.le_of_ble_eq_true rfl) (kd_w (by decide) kz_41) rfl (cl_0 kz_41) rfl rfl (Nat.le_of_ble_eq_true rfl) dX0_solve_164 (fun s1 h => ?_)
      refine x_iconst (1 : Int32) F dX0_solve_167 (by decide) ?_
      exact hret _ _ _ _ h (nar01 (by decide)) dX0_solve_168
    · replace h := h.2 c
      refine x_aload_n F dX0_solve_106 rfl 0 rfl ?_
      refine g_0_2 F kz_41 in_0 (mc bw_5_20) dX0_solve_107 ?_
      refine x_iload F dX0_solve_110 3 rfl ?_
      refine x_lconst (0 : Int64) F dX0_solve_112 (by decide) ?_
      obtain ⟨hz, h⟩ := h
      refine x_last F kz_44 nz_44 hz dX0_solve_113 ?_
      refine x_nmS (fun s3 es3 => ?_)
      replace h := h s3 es3
      refine x_iconst (0 : Int32) F dX0_solve_114 (by decide) ?_
      refine x_istore (lv' := [(5, .int (0 : Int32)), (0, .ref (ad X 41)), (1, .ref (ad X p0)), (2, .ref (ad X p1)), (4, .int x4)]) F dX0_solve_115 (by decide) rfl ?_
      refine x_sub (lv' := [(0, .ref (ad X 41)), (1, .ref (ad X p0)), (2, .ref (ad X p1)), (4, .int x4), (5, .int (0 : Int32))]) [1, 2, 3, 4, 0] rfl ?_
      obtain ⟨n2, h⟩ := h
      exact wl_X0_solve_117 F hret k_p0 k_p1 ih n2 _ _ _ h
def b_X0_solve_35 (p0 : Nat) (p1 : Nat) (K9 : Int32 → Int32 → wS → Prop) (Q : Int32 → wS → Prop) (x3 : Int32) (x4 : Int32) (σ : wS) : Prop := ∀ y1 : Int32, y1 = (x4 + (1 : Int32)) → (K9 x3 y1 σ)
set_option maxRecDepth 100000 in
set_option maxHeartbeats 4000000 in
theorem wb_X0_solve_35 {X : XT} {Q : Int32 → wS → Prop} {p0 : Nat} {p1 : Nat} (F : Fx X cX0_solve 6 RX0 wvX0_solve 1 26) (hret : Ri X 6 cX0_solve .boolean Q) (k_p0 : kd p0 = 5) (k_p1 : kd p1 = 3) {K9 : Int32 → Int32 → wS → Prop} (hK9 : ∀ (x3 : Int32) (x4 : Int32) (σ : wS), K9 x3 x4 σ → Wx X 6 σ 9 [(0, .ref (ad X 41)), (1, .ref (ad X p0)), (2, .ref (ad X p1)), (3, .int x3), (4, .int x4)] []) (x3 : Int32) (x4 : Int32) (σ : wS) (h : b_X0_solve_35 p0 p1 K9 Q x3 x4 σ) : Wx X 6 σ 35 [(0, .ref (ad X 41)), (1, .ref (ad X p0)), (2, .ref (ad X p1)), (3, .int x3), (4, .int x4)] [] := by
  unfold b_X0_solve_35 at h
  obtain ⟨y1, ey1⟩ : ∃ y : Int32, y = (x4 + (1 : Int32)) := ⟨_, rfl⟩
  replace h := h y1 ey1
  refine x_iinc (q := 4) (v := y1) (lv' := [(4, .int y1), (0, .ref (ad X 41)), (1, .ref (ad X p0)), (2, .ref (ad X p1)), (3, .int x3)]) F dX0_solve_35 rfl (by rw [ey1]; rfl) (by decide) rfl ?_
  refine x_goto (tgt := 9) F dX0_solve_38 (by decide) ?_
  refine x_sub (lv' := [(0, .ref (ad X 41)), (1, .ref (ad X p0)), (2, .ref (ad X p1)), (3, .int x3), (4, .int y1)]) [1, 2, 3, 4, 0] rfl ?_
  exact hK9 _ _ _ h
def l_X0_solve_9 (p0 : Nat) (p1 : Nat)  (Q : Int32 → wS → Prop) : Nat → Int32 → Int32 → wS → Prop
  | 0, _, _, _ => False
  | n + 1, x3, x4, σ => ((σ.1 p0 6) ≤ x4 → (w_X0_cofactor (0 : Int32) (0 : Int32) σ (fun r2 s1 => w_X0_cofactor (0 : Int32) (1 : Int32) s1 (fun r4 s3 => w_X0_cofactor (0 : Int32) (2 : Int32) s3 (fun r6 s5 => ∀ s7 : wS, s7 = upJ s5 41 4 ((((σ.2 42 ((0 : Int32)).toNatClampNeg) * r2) + ((s1.2 42 ((1 : Int32)).toNatClampNeg) * r4)) + ((s3.2 42 ((2 : Int32)).toNatClampNeg) * r6)) → ((0 < (lg_cmp (s7.2 41 4) (0 : Int64)) → ((∃ m, l_X0_solve_100 p0 p1  Q m (0 : Int32) s7))) ∧ (¬ 0 < (lg_cmp (s7.2 41 4) (0 : Int64)) → (Q (0 : Int32) s7)))))))) ∧ (¬ (σ.1 p0 6) ≤ x4 → ((((x3 >>> (x4 &&& 31)) &&& (1 : Int32)) = 0 → (b_X0_solve_35 p0 p1 (fun x3 x4 σ => l_X0_solve_9 p0 p1  Q n x3 x4 σ) Q x3 x4 σ)) ∧ (¬ ((x3 >>> (x4 &&& 31)) &&& (1 : Int32)) = 0 → (w_X0_addRope p0 p1 x4 σ (fun s8 => b_X0_solve_35 p0 p1 (fun x3 x4 σ => l_X0_solve_9 p0 p1  Q n x3 x4 σ) Q x3 x4 s8)))))
set_option maxRecDepth 100000 in
set_option maxHeartbeats 4000000 in
theorem wl_X0_solve_9 {X : XT} {Q : Int32 → wS → Prop} {p0 : Nat} {p1 : Nat} (F : Fx X cX0_solve 6 RX0 wvX0_solve 1 26) (hret : Ri X 6 cX0_solve .boolean Q) (k_p0 : kd p0 = 5) (k_p1 : kd p1 = 3)   : ∀ (n : Nat) (x3 : Int32) (x4 : Int32) (σ : wS), l_X0_solve_9 p0 p1  Q n x3 x4 σ → Wx X 6 σ 9 [(0, .ref (ad X 41)), (1, .ref (ad X p0)), (2, .ref (ad X p1)), (3, .int x3), (4, .int x4)] [] := by
  intro n
  induction n with
  | zero =>
    intros
    contradiction
  | succ n ih =>
    intro x3 x4 σ h
    simp only [l_X0_solve_9] at h
    refine x_iload F dX0_solve_9 4 rfl ?_
    refine x_aload_n F dX0_solve_11 rfl 1 rfl ?_
    refine g_5_6 F k_p0 in_5 (mc bw_20_2) dX0_solve_12 ?_
    refine x_icmp_ge (tgt := 41) F dX0_solve_15 (by decide) (fun c => ?_) (fun c => ?_)
    · replace h := h.1 c
      refine x_aload_n F dX0_solve_41 rfl 0 rfl ?_
      refine x_aload_n F dX0_solve_42 rfl 0 rfl ?_
      refine g_0_0 F kz_41 in_0 (mc bw_5_18) dX0_solve_43 ?_
      refine x_iconst (0 : Int32) F dX0_solve_46 (by decide) ?_
      refine x_lald F kz_42 nz_42 (by unfold vp_in; decide) dX0_solve_47 ?_
      refine x_aload_n F dX0_solve_48 rfl 0 rfl ?_
      refine x_iconst (0 : Int32) F dX0_solve_49 (by decide) ?_
      refine x_iconst (0 : Int32) F dX0_solve_50 (by decide) ?_
      refine x_callV_l F (c_X0_cofactor (xl X) (xg X) (xA X) F.2.2.1  h) (bw_V bw_20_16 bw_20_17 bw_20_18 bw_5_8 bw_20_19) rfl cd_X0_cofactor (Nat.le_of_ble_eq_true rfl) (Nat.le_of_ble_eq_true rfl) (kd_w (by decide) kz_41) rfl (cl_0 kz_41) rfl rfl (Nat.le_of_ble_eq_true rfl) dX0_solve_51 (fun r2 s1 h => ?_)
      refine x_lmul F dX0_solve_54 ?_
      refine x_aload_n F dX0_solve_55 rfl 0 rfl ?_
      refine g_0_0 F kz_41 in_0 (mc bw_5_18) dX0_solve_56 ?_
      refine x_iconst (1 : Int32) F dX0_solve_59 (by decide) ?_
      refine x_lald F kz_42 nz_42 (by unfold vp_in; decide) dX0_solve_60 ?_
      refine x_aload_n F dX0_solve_61 rfl 0 rfl ?_
      refine x_iconst (0 : Int32) F dX0_solve_62 (by decide) ?_
      refine x_iconst (1 : Int32) F dX0_solve_63 (by decide) ?_
      refine x_callV_l F (c_X0_cofactor (xl X) (xg X) (xA X) F.2.2.1  h) (bw_V bw_20_16 bw_20_17 bw_20_18 bw_5_8 bw_20_19) rfl cd_X0_cofactor (Nat.le_of_ble_eq_true rfl) (Nat.le_of_ble_eq_true rfl) (kd_w (by decide) kz_41) rfl (cl_0 kz_41) rfl rfl (Nat.le_of_ble_eq_true rfl) dX0_solve_64 (fun r4 s3 h => ?_)
      refine x_lmul F dX0_solve_67 ?_
      refine x_ladd F dX0_solve_68 ?_
      refine x_aload_n F dX0_solve_69 rfl 0 rfl ?_
      refine g_0_0 F kz_41 in_0 (mc bw_5_18) dX0_solve_70 ?_
      refine x_iconst (2 : Int32) F dX0_solve_73 (by decide) ?_
      refine x_lald F kz_42 nz_42 (by unfold vp_in; decide) dX0_solve_74 ?_
      refine x_aload_n F dX0_solve_75 rfl 0 rfl ?_
      refine x_iconst (0 : Int32) F dX0_solve_76 (by decide) ?_
      refine x_iconst (2 : Int32) F dX0_solve_77 (by decide) ?_
      refine x_callV_l F (c_X0_cofactor (xl X) (xg X) (xA X) F.2.2.1  h) (bw_V bw_20_16 bw_20_17 bw_20_18 bw_5_8 bw_20_19) rfl cd_X0_cofactor (Nat.le_of_ble_eq_true rfl) (Nat.le_of_ble_eq_true rfl) (kd_w (by decide) kz_41) rfl (cl_0 kz_41) rfl rfl (Nat.le_of_ble_eq_true rfl) dX0_solve_78 (fun r6 s5 h => ?_)
      refine x_lmul F dX0_solve_81 ?_
      refine x_ladd F dX0_solve_82 ?_
      refine q_0_4 F kz_41 in_0 (mc bw_5_22) dX0_solve_83 ?_
      refine x_nmS (fun s7 es7 => ?_)
      replace h := h s7 es7
      refine x_aload_n F dX0_solve_86 rfl 0 rfl ?_
      refine g_0_4 F kz_41 in_0 (mc bw_5_22) dX0_solve_87 ?_
      refine x_lconst (0 : Int64) F dX0_solve_90 (by decide) ?_
      refine x_lcmp F dX0_solve_91 ?_
      refine x_if_gt (tgt := 97) F dX0_solve_92 (by decide) (fun c => ?_) (fun c => ?_)
      · replace h := h.1 c
        refine x_iconst (0 : Int32) F dX0_solve_97 (by decide) ?_
        refine x_istore (lv' := [(4, .int (0 : Int32)), (0, .ref (ad X 41)), (1, .ref (ad X p0)), (2, .ref (ad X p1)), (3, .int x3)]) F dX0_solve_98 (by decide) rfl ?_
        refine x_sub (lv' := [(0, .ref (ad X 41)), (1, .ref (ad X p0)), (2, .ref (ad X p1)), (4, .int (0 : Int32))]) [1, 2, 3, 0] rfl ?_
        obtain ⟨n2, h⟩ := h
        exact wl_X0_solve_100 F hret k_p0 k_p1  n2 _ _ h
      · replace h := h.2 c
        refine x_iconst (0 : Int32) F dX0_solve_95 (by decide) ?_
        exact hret _ _ _ _ h (nar01 (by decide)) dX0_solve_96
    · replace h := h.2 c
      refine x_iload_n F dX0_solve_18 rfl 3 rfl ?_
      refine x_iload F dX0_solve_19 4 rfl ?_
      refine x_ishr F dX0_solve_21 ?_
      refine x_iconst (1 : Int32) F dX0_solve_22 (by decide) ?_
      refine x_iand F dX0_solve_23 ?_
      refine x_if_eq (tgt := 35) F dX0_solve_24 (by decide) (fun c => ?_) (fun c => ?_)
      · replace h := h.1 c
        refine x_sub (lv' := [(0, .ref (ad X 41)), (1, .ref (ad X p0)), (2, .ref (ad X p1)), (3, .int x3), (4, .int x4)]) [0, 1, 2, 3, 4] rfl ?_
        exact wb_X0_solve_35 F hret k_p0 k_p1 ih _ _ _ h
      · replace h := h.2 c
        refine x_aload_n F dX0_solve_27 rfl 0 rfl ?_
        refine x_aload_n F dX0_solve_28 rfl 1 rfl ?_
        refine x_aload_n F dX0_solve_29 rfl 2 rfl ?_
        refine x_iload F dX0_solve_30 4 rfl ?_
        refine x_callV_v F (c_X0_addRope (xl X) (xg X) (xA X) F.2.2.1 k_p0 k_p1 h) (bw_V bw_20_9 bw_20_10 bw_20_11 bw_5_8 bw_20_12) rfl cd_X0_addRope (Nat.le_of_ble_eq_true rfl) (Nat.le_of_ble_eq_true rfl) (kd_w (by decide) kz_41) rfl (cl_0 kz_41) rfl rfl (Nat.le_of_ble_eq_true rfl) dX0_solve_32 (fun s8 h => ?_)
        refine x_sub (lv' := [(0, .ref (ad X 41)), (1, .ref (ad X p0)), (2, .ref (ad X p1)), (3, .int x3), (4, .int x4)]) [0, 1, 2, 3, 4] rfl ?_
        exact wb_X0_solve_35 F hret k_p0 k_p1 ih _ _ _ h
def w_X0_solve (p0 : Nat) (p1 : Nat) (p2 : Int32) (σ : wS) (Q : Int32 → wS → Prop) : Prop := w_X0_begin p0 p1 σ (fun s1 => (∃ m, l_X0_solve_9 p0 p1  Q m p2 (0 : Int32) s1))
set_option maxRecDepth 100000 in
set_option maxHeartbeats 4000000 in
theorem c_X0_solve (l : Launch) (g : wG) (A : Nat → Prop) (hA : adO g A) {p0 : Nat} {p1 : Nat} (k_p0 : kd p0 = 5) (k_p1 : kd p1 = 3) {p2 : Int32} {σ : wS} {Q : Int32 → wS → Prop} (h : w_X0_solve p0 p1 p2 σ Q) : Mi l yX0_solve wvX0_solve 1 26 g A [.ref (g.2.2 41), .ref (g.2.2 p0), .ref (g.2.2 p1), .int p2] σ Q := by
  refine mt_i (own := RX0) (lv := [(0, .ref (g.2.2 41)), (1, .ref (g.2.2 p0)), (2, .ref (g.2.2 p1)), (3, .int p2)]) (by decide) rfl rfl hA (Nat.le_of_ble_eq_true rfl) rfl ?_
  intro X hl hg hAA F hret
  subst hl hg hAA
  unfold w_X0_solve at h
  refine x_aload_n F dX0_solve_0 rfl 0 rfl ?_
  refine x_aload_n F dX0_solve_1 rfl 1 rfl ?_
  refine x_aload_n F dX0_solve_2 rfl 2 rfl ?_
  refine x_callV_v F (c_X0_begin (xl X) (xg X) (xA X) F.2.2.1 k_p0 k_p1 h) (bw_V bw_20_3 bw_20_4 bw_20_5 bw_5_8 bw_20_6) rfl cd_X0_begin (Nat.le_of_ble_eq_true rfl) (Nat.le_of_ble_eq_true rfl) (kd_w (by decide) kz_41) rfl (cl_0 kz_41) rfl rfl (Nat.le_of_ble_eq_true rfl) dX0_solve_3 (fun s1 h => ?_)
  refine x_iconst (0 : Int32) F dX0_solve_6 (by decide) ?_
  refine x_istore (lv' := [(4, .int (0 : Int32)), (0, .ref (ad X 41)), (1, .ref (ad X p0)), (2, .ref (ad X p1)), (3, .int p2)]) F dX0_solve_7 (by decide) rfl ?_
  refine x_sub (lv' := [(0, .ref (ad X 41)), (1, .ref (ad X p0)), (2, .ref (ad X p1)), (3, .int p2), (4, .int (0 : Int32))]) [1, 2, 3, 4, 0] rfl ?_
  obtain ⟨n2, h⟩ := h
  exact wl_X0_solve_9 F hret k_p0 k_p1  n2 _ _ _ h
/-! X0_restOn -/
abbrev wvX0_restOn : List Cond := Cond.code yX0_restOn cX0_restOn 7 (some .long) :: wsL_law
theorem cd_X0_restOn : okN yX0_restOn RX0 3 := by unfold okN; decide +kernel
def b_X0_restOn_63 (p0 : Nat) (p1 : Nat) (K17 : Int32 → Int64 → Int32 → wS → Prop) (Q : Int64 → wS → Prop) (x3 : Int32) (x4 : Int64) (x6 : Int32) (σ : wS) : Prop := ∀ y1 : Int32, y1 = (x6 + (1 : Int32)) → (K17 x3 x4 y1 σ)
set_option maxRecDepth 100000 in
set_option maxHeartbeats 4000000 in
theorem wb_X0_restOn_63 {X : XT} {Q : Int64 → wS → Prop} {p0 : Nat} {p1 : Nat} (F : Fx X cX0_restOn 7 RX0 wvX0_restOn 0 0) (hret : Rl X 7 cX0_restOn Q) (k_p0 : kd p0 = 5) (k_p1 : kd p1 = 3) {K17 : Int32 → Int64 → Int32 → wS → Prop} (hK17 : ∀ (x3 : Int32) (x4 : Int64) (x6 : Int32) (σ : wS), K17 x3 x4 x6 σ → Wx X 7 σ 17 [(0, .ref (ad X 41)), (1, .ref (ad X p0)), (2, .ref (ad X p1)), (3, .int x3), (4, .long x4), (6, .int x6)] []) (x3 : Int32) (x4 : Int64) (x6 : Int32) (σ : wS) (h : b_X0_restOn_63 p0 p1 K17 Q x3 x4 x6 σ) : Wx X 7 σ 63 [(0, .ref (ad X 41)), (1, .ref (ad X p0)), (2, .ref (ad X p1)), (3, .int x3), (4, .long x4), (6, .int x6)] [] := by
  unfold b_X0_restOn_63 at h
  obtain ⟨y1, ey1⟩ : ∃ y : Int32, y = (x6 + (1 : Int32)) := ⟨_, rfl⟩
  replace h := h y1 ey1
  refine x_iinc (q := 5) (v := y1) (lv' := [(6, .int y1), (0, .ref (ad X 41)), (1, .ref (ad X p0)), (2, .ref (ad X p1)), (3, .int x3), (4, .long x4)]) F dX0_restOn_63 rfl (by rw [ey1]; rfl) (by decide) rfl ?_
  refine x_goto (tgt := 17) F dX0_restOn_66 (by decide) ?_
  refine x_sub (lv' := [(0, .ref (ad X 41)), (1, .ref (ad X p0)), (2, .ref (ad X p1)), (3, .int x3), (4, .long x4), (6, .int y1)]) [1, 2, 3, 4, 5, 0] rfl ?_
  exact hK17 _ _ _ _ h
def l_X0_restOn_17 (p0 : Nat) (p1 : Nat)  (Q : Int64 → wS → Prop) : Nat → Int32 → Int64 → Int32 → wS → Prop
  | 0, _, _, _, _ => False
  | n + 1, x3, x4, x6, σ => ((σ.1 p0 6) ≤ x6 → (Q x4 σ)) ∧ (¬ (σ.1 p0 6) ≤ x6 → (((((σ.1 p1 2) >>> (x6 &&& 31)) &&& (1 : Int32)) = 0 → (b_X0_restOn_63 p0 p1 (fun x3 x4 x6 σ => l_X0_restOn_17 p0 p1  Q n x3 x4 x6 σ) Q x3 x4 x6 σ)) ∧ (¬ (((σ.1 p1 2) >>> (x6 &&& 31)) &&& (1 : Int32)) = 0 → (vp_in x6 8 ∧ (vp_in (((3 : Int32) * x6) + x3) 24 ∧ (∀ y1 : Int64, y1 = (x4 + ((σ.2 45 (x6).toNatClampNeg) * ((σ.1 (p0 + 3) ((((3 : Int32) * x6) + x3)).toNatClampNeg)).toInt64)) → (b_X0_restOn_63 p0 p1 (fun x3 x4 x6 σ => l_X0_restOn_17 p0 p1  Q n x3 x4 x6 σ) Q x3 y1 x6 σ)))))))
set_option maxRecDepth 100000 in
set_option maxHeartbeats 4000000 in
theorem wl_X0_restOn_17 {X : XT} {Q : Int64 → wS → Prop} {p0 : Nat} {p1 : Nat} (F : Fx X cX0_restOn 7 RX0 wvX0_restOn 0 0) (hret : Rl X 7 cX0_restOn Q) (k_p0 : kd p0 = 5) (k_p1 : kd p1 = 3)   : ∀ (n : Nat) (x3 : Int32) (x4 : Int64) (x6 : Int32) (σ : wS), l_X0_restOn_17 p0 p1  Q n x3 x4 x6 σ → Wx X 7 σ 17 [(0, .ref (ad X 41)), (1, .ref (ad X p0)), (2, .ref (ad X p1)), (3, .int x3), (4, .long x4), (6, .int x6)] [] := by
  intro n
  induction n with
  | zero =>
    intros
    contradiction
  | succ n ih =>
    intro x3 x4 x6 σ h
    simp only [l_X0_restOn_17] at h
    refine x_iload F dX0_restOn_17 5 rfl ?_
    refine x_aload_n F dX0_restOn_19 rfl 1 rfl ?_
    refine g_5_6 F k_p0 in_5 (mc bw_20_2) dX0_restOn_20 ?_
    refine x_icmp_ge (tgt := 69) F dX0_restOn_23 (by decide) (fun c => ?_) (fun c => ?_)
    · replace h := h.1 c
      refine x_lload F dX0_restOn_69 4 rfl ?_
      exact hret _ _ _ _ h dX0_restOn_71
    · replace h := h.2 c
      refine x_aload_n F dX0_restOn_26 rfl 2 rfl ?_
      refine g_3_2 F k_p1 in_3 (mc bw_31_4) dX0_restOn_27 ?_
      refine x_iload F dX0_restOn_30 5 rfl ?_
      refine x_ishr F dX0_restOn_32 ?_
      refine x_iconst (1 : Int32) F dX0_restOn_33 (by decide) ?_
      refine x_iand F dX0_restOn_34 ?_
      refine x_if_eq (tgt := 63) F dX0_restOn_35 (by decide) (fun c => ?_) (fun c => ?_)
      · replace h := h.1 c
        refine x_sub (lv' := [(0, .ref (ad X 41)), (1, .ref (ad X p0)), (2, .ref (ad X p1)), (3, .int x3), (4, .long x4), (6, .int x6)]) [0, 1, 2, 3, 4, 5] rfl ?_
        exact wb_X0_restOn_63 F hret k_p0 k_p1 ih _ _ _ _ h
      · replace h := h.2 c
        refine x_lload F dX0_restOn_38 4 rfl ?_
        refine x_aload_n F dX0_restOn_40 rfl 0 rfl ?_
        refine g_0_3 F kz_41 in_0 (mc bw_5_21) dX0_restOn_41 ?_
        refine x_iload F dX0_restOn_44 5 rfl ?_
        obtain ⟨hj, h⟩ := h
        refine x_lald F kz_45 nz_45 hj dX0_restOn_46 ?_
        refine x_aload_n F dX0_restOn_47 rfl 1 rfl ?_
        refine g_5_2 F k_p0 in_5 (mc bw_20_13) dX0_restOn_48 ?_
        refine x_iconst (3 : Int32) F dX0_restOn_51 (by decide) ?_
        refine x_iload F dX0_restOn_52 5 rfl ?_
        refine x_imul F dX0_restOn_54 ?_
        refine x_iload_n F dX0_restOn_55 rfl 3 rfl ?_
        refine x_iadd F dX0_restOn_56 ?_
        obtain ⟨hj, h⟩ := h
        refine x_iald F (ky_5_2 k_p0) (kn_5_2 k_p0) hj dX0_restOn_57 ?_
        refine x_i2l F dX0_restOn_58 ?_
        refine x_lmul F dX0_restOn_59 ?_
        refine x_ladd F dX0_restOn_60 ?_
        refine x_topl (fun y1 ey1 => ?_)
        replace h := h y1 ey1
        refine x_lstore (lv' := [(4, .long y1), (0, .ref (ad X 41)), (1, .ref (ad X p0)), (2, .ref (ad X p1)), (3, .int x3), (6, .int x6)]) F dX0_restOn_61 (by decide) rfl ?_
        refine x_sub (lv' := [(0, .ref (ad X 41)), (1, .ref (ad X p0)), (2, .ref (ad X p1)), (3, .int x3), (4, .long y1), (6, .int x6)]) [1, 2, 3, 4, 0, 5] rfl ?_
        exact wb_X0_restOn_63 F hret k_p0 k_p1 ih _ _ _ _ h
def w_X0_restOn (p0 : Nat) (p1 : Nat) (p2 : Int32) (σ : wS) (Q : Int64 → wS → Prop) : Prop := vp_in p2 3 ∧ (∀ y1 : Int64, y1 = (((σ.1 (p1 + 2) (p2).toNatClampNeg)).toInt64 * (σ.2 41 4)) → ((∃ m, l_X0_restOn_17 p0 p1  Q m p2 y1 (0 : Int32) σ)))
set_option maxRecDepth 100000 in
set_option maxHeartbeats 4000000 in
theorem c_X0_restOn (l : Launch) (g : wG) (A : Nat → Prop) (hA : adO g A) {p0 : Nat} {p1 : Nat} (k_p0 : kd p0 = 5) (k_p1 : kd p1 = 3) {p2 : Int32} {σ : wS} {Q : Int64 → wS → Prop} (h : w_X0_restOn p0 p1 p2 σ Q) : Ml l yX0_restOn wvX0_restOn 0 0 g A [.ref (g.2.2 41), .ref (g.2.2 p0), .ref (g.2.2 p1), .int p2] σ Q := by
  refine mt_l (own := RX0) (lv := [(0, .ref (g.2.2 41)), (1, .ref (g.2.2 p0)), (2, .ref (g.2.2 p1)), (3, .int p2)]) (by decide) rfl rfl hA (Nat.le_of_ble_eq_true rfl) rfl ?_
  intro X hl hg hAA F hret
  subst hl hg hAA
  unfold w_X0_restOn at h
  refine x_aload_n F dX0_restOn_0 rfl 2 rfl ?_
  refine g_3_1 F k_p1 in_3 (mc bw_20_8) dX0_restOn_1 ?_
  refine x_iload_n F dX0_restOn_4 rfl 3 rfl ?_
  obtain ⟨hj, h⟩ := h
  refine x_iald F (ky_3_1 k_p1) (kn_3_1 k_p1) hj dX0_restOn_5 ?_
  refine x_i2l F dX0_restOn_6 ?_
  refine x_aload_n F dX0_restOn_7 rfl 0 rfl ?_
  refine g_0_4 F kz_41 in_0 (mc bw_5_22) dX0_restOn_8 ?_
  refine x_lmul F dX0_restOn_11 ?_
  refine x_topl (fun y1 ey1 => ?_)
  replace h := h y1 ey1
  refine x_lstore (lv' := [(4, .long y1), (0, .ref (ad X 41)), (1, .ref (ad X p0)), (2, .ref (ad X p1)), (3, .int p2)]) F dX0_restOn_12 (by decide) rfl ?_
  refine x_iconst (0 : Int32) F dX0_restOn_14 (by decide) ?_
  refine x_istore (lv' := [(6, .int (0 : Int32)), (4, .long y1), (0, .ref (ad X 41)), (1, .ref (ad X p0)), (2, .ref (ad X p1)), (3, .int p2)]) F dX0_restOn_15 (by decide) rfl ?_
  refine x_sub (lv' := [(0, .ref (ad X 41)), (1, .ref (ad X p0)), (2, .ref (ad X p1)), (3, .int p2), (4, .long y1), (6, .int (0 : Int32))]) [2, 3, 4, 5, 1, 0] rfl ?_
  obtain ⟨n2, h⟩ := h
  exact wl_X0_restOn_17 F hret k_p0 k_p1  n2 _ _ _ _ h
/-! X0_mostPulled -/
abbrev wvX0_mostPulled : List Cond := Cond.code yX0_mostPulled cX0_mostPulled 5 (some .int) :: wsL_law
theorem cd_X0_mostPulled : okN yX0_mostPulled RX0 2 := by unfold okN; decide +kernel
def b_X0_mostPulled_52  (K5 : Int32 → Int32 → Int32 → Int32 → wS → Prop) (Q : Int32 → wS → Prop) (x1 : Int32) (x2 : Int32) (x3 : Int32) (x4 : Int32) (σ : wS) : Prop := ∀ y1 : Int32, y1 = (x4 + (1 : Int32)) → (K5 x1 x2 x3 y1 σ)
set_option maxRecDepth 100000 in
set_option maxHeartbeats 4000000 in
theorem wb_X0_mostPulled_52 {X : XT} {Q : Int32 → wS → Prop}  (F : Fx X cX0_mostPulled 5 RX0 wvX0_mostPulled 0 0) (hret : Ri X 5 cX0_mostPulled .int Q)  {K5 : Int32 → Int32 → Int32 → Int32 → wS → Prop} (hK5 : ∀ (x1 : Int32) (x2 : Int32) (x3 : Int32) (x4 : Int32) (σ : wS), K5 x1 x2 x3 x4 σ → Wx X 5 σ 5 [(0, .ref (ad X 41)), (1, .int x1), (2, .int x2), (3, .int x3), (4, .int x4)] []) (x1 : Int32) (x2 : Int32) (x3 : Int32) (x4 : Int32) (σ : wS) (h : b_X0_mostPulled_52  K5 Q x1 x2 x3 x4 σ) : Wx X 5 σ 52 [(0, .ref (ad X 41)), (1, .int x1), (2, .int x2), (3, .int x3), (4, .int x4)] [] := by
  unfold b_X0_mostPulled_52 at h
  obtain ⟨y1, ey1⟩ : ∃ y : Int32, y = (x4 + (1 : Int32)) := ⟨_, rfl⟩
  replace h := h y1 ey1
  refine x_iinc (q := 4) (v := y1) (lv' := [(4, .int y1), (0, .ref (ad X 41)), (1, .int x1), (2, .int x2), (3, .int x3)]) F dX0_mostPulled_52 rfl (by rw [ey1]; rfl) (by decide) rfl ?_
  refine x_goto (tgt := 5) F dX0_mostPulled_55 (by decide) ?_
  refine x_sub (lv' := [(0, .ref (ad X 41)), (1, .int x1), (2, .int x2), (3, .int x3), (4, .int y1)]) [1, 2, 3, 4, 0] rfl ?_
  exact hK5 _ _ _ _ _ h
def b_X0_mostPulled_49  (K5 : Int32 → Int32 → Int32 → Int32 → wS → Prop) (Q : Int32 → wS → Prop) (x1 : Int32) (x2 : Int32) (x4 : Int32) (σ : wS) : Prop := b_X0_mostPulled_52  K5 Q x1 x2 x4 x4 σ
set_option maxRecDepth 100000 in
set_option maxHeartbeats 4000000 in
theorem wb_X0_mostPulled_49 {X : XT} {Q : Int32 → wS → Prop}  (F : Fx X cX0_mostPulled 5 RX0 wvX0_mostPulled 0 0) (hret : Ri X 5 cX0_mostPulled .int Q)  {K5 : Int32 → Int32 → Int32 → Int32 → wS → Prop} (hK5 : ∀ (x1 : Int32) (x2 : Int32) (x3 : Int32) (x4 : Int32) (σ : wS), K5 x1 x2 x3 x4 σ → Wx X 5 σ 5 [(0, .ref (ad X 41)), (1, .int x1), (2, .int x2), (3, .int x3), (4, .int x4)] []) (x1 : Int32) (x2 : Int32) (x4 : Int32) (σ : wS) (h : b_X0_mostPulled_49  K5 Q x1 x2 x4 σ) : Wx X 5 σ 49 [(0, .ref (ad X 41)), (1, .int x1), (2, .int x2), (4, .int x4)] [] := by
  unfold b_X0_mostPulled_49 at h
  refine x_iload F dX0_mostPulled_49 3 rfl ?_
  refine x_istore_n (lv' := [(3, .int x4), (0, .ref (ad X 41)), (1, .int x1), (2, .int x2), (4, .int x4)]) F dX0_mostPulled_51 rfl (by decide) rfl ?_
  refine x_sub (lv' := [(0, .ref (ad X 41)), (1, .int x1), (2, .int x2), (3, .int x4), (4, .int x4)]) [1, 2, 3, 0, 4] rfl ?_
  exact wb_X0_mostPulled_52 F hret  hK5 _ _ _ _ _ h
def l_X0_mostPulled_5   (Q : Int32 → wS → Prop) : Nat → Int32 → Int32 → Int32 → Int32 → wS → Prop
  | 0, _, _, _, _, _ => False
  | n + 1, x1, x2, x3, x4, σ => ((8 : Int32) ≤ x4 → (Q x3 σ)) ∧ (¬ (8 : Int32) ≤ x4 → ((((x1 >>> (x4 &&& 31)) &&& (1 : Int32)) = 0 → (b_X0_mostPulled_52  (fun x1 x2 x3 x4 σ => l_X0_mostPulled_5   Q n x1 x2 x3 x4 σ) Q x1 x2 x3 x4 σ)) ∧ (¬ ((x1 >>> (x4 &&& 31)) &&& (1 : Int32)) = 0 → ((x3 = (-1 : Int32) → (b_X0_mostPulled_49  (fun x1 x2 x3 x4 σ => l_X0_mostPulled_5   Q n x1 x2 x3 x4 σ) Q x1 x2 x4 σ)) ∧ (¬ x3 = (-1 : Int32) → (vp_in x4 8 ∧ (vp_in x3 8 ∧ (((lg_cmp ((x2).toInt64 * (σ.2 45 (x4).toNatClampNeg)) ((x2).toInt64 * (σ.2 45 (x3).toNatClampNeg))) ≤ 0 → (b_X0_mostPulled_52  (fun x1 x2 x3 x4 σ => l_X0_mostPulled_5   Q n x1 x2 x3 x4 σ) Q x1 x2 x3 x4 σ)) ∧ (¬ (lg_cmp ((x2).toInt64 * (σ.2 45 (x4).toNatClampNeg)) ((x2).toInt64 * (σ.2 45 (x3).toNatClampNeg))) ≤ 0 → (b_X0_mostPulled_49  (fun x1 x2 x3 x4 σ => l_X0_mostPulled_5   Q n x1 x2 x3 x4 σ) Q x1 x2 x4 σ))))))))))
set_option maxRecDepth 100000 in
set_option maxHeartbeats 4000000 in
theorem wl_X0_mostPulled_5 {X : XT} {Q : Int32 → wS → Prop}  (F : Fx X cX0_mostPulled 5 RX0 wvX0_mostPulled 0 0) (hret : Ri X 5 cX0_mostPulled .int Q)    : ∀ (n : Nat) (x1 : Int32) (x2 : Int32) (x3 : Int32) (x4 : Int32) (σ : wS), l_X0_mostPulled_5   Q n x1 x2 x3 x4 σ → Wx X 5 σ 5 [(0, .ref (ad X 41)), (1, .int x1), (2, .int x2), (3, .int x3), (4, .int x4)] [] := by
  intro n
  induction n with
  | zero =>
    intros
    contradiction
  | succ n ih =>
    intro x1 x2 x3 x4 σ h
    simp only [l_X0_mostPulled_5] at h
    refine x_iload F dX0_mostPulled_5 4 rfl ?_
    refine x_bipush (8 : Int32) F dX0_mostPulled_7 (by decide) ?_
    refine x_icmp_ge (tgt := 58) F dX0_mostPulled_9 (by decide) (fun c => ?_) (fun c => ?_)
    · replace h := h.1 c
      refine x_iload_n F dX0_mostPulled_58 rfl 3 rfl ?_
      exact hret _ _ _ _ h rfl dX0_mostPulled_59
    · replace h := h.2 c
      refine x_iload_n F dX0_mostPulled_12 rfl 1 rfl ?_
      refine x_iload F dX0_mostPulled_13 4 rfl ?_
      refine x_ishr F dX0_mostPulled_15 ?_
      refine x_iconst (1 : Int32) F dX0_mostPulled_16 (by decide) ?_
      refine x_iand F dX0_mostPulled_17 ?_
      refine x_if_eq (tgt := 52) F dX0_mostPulled_18 (by decide) (fun c => ?_) (fun c => ?_)
      · replace h := h.1 c
        refine x_sub (lv' := [(0, .ref (ad X 41)), (1, .int x1), (2, .int x2), (3, .int x3), (4, .int x4)]) [0, 1, 2, 3, 4] rfl ?_
        exact wb_X0_mostPulled_52 F hret  ih _ _ _ _ _ h
      · replace h := h.2 c
        refine x_iload_n F dX0_mostPulled_21 rfl 3 rfl ?_
        refine x_iconst (-1 : Int32) F dX0_mostPulled_22 (by decide) ?_
        refine x_icmp_eq (tgt := 49) F dX0_mostPulled_23 (by decide) (fun c => ?_) (fun c => ?_)
        · replace h := h.1 c
          refine x_sub (lv' := [(0, .ref (ad X 41)), (1, .int x1), (2, .int x2), (4, .int x4)]) [0, 1, 2, 4] rfl ?_
          exact wb_X0_mostPulled_49 F hret  ih _ _ _ _ h
        · replace h := h.2 c
          refine x_iload_n F dX0_mostPulled_26 rfl 2 rfl ?_
          refine x_i2l F dX0_mostPulled_27 ?_
          refine x_aload_n F dX0_mostPulled_28 rfl 0 rfl ?_
          refine g_0_3 F kz_41 in_0 (mc bw_5_21) dX0_mostPulled_29 ?_
          refine x_iload F dX0_mostPulled_32 4 rfl ?_
          obtain ⟨hj, h⟩ := h
          refine x_lald F kz_45 nz_45 hj dX0_mostPulled_34 ?_
          refine x_lmul F dX0_mostPulled_35 ?_
          refine x_iload_n F dX0_mostPulled_36 rfl 2 rfl ?_
          refine x_i2l F dX0_mostPulled_37 ?_
          refine x_aload_n F dX0_mostPulled_38 rfl 0 rfl ?_
          refine g_0_3 F kz_41 in_0 (mc bw_5_21) dX0_mostPulled_39 ?_
          refine x_iload_n F dX0_mostPulled_42 rfl 3 rfl ?_
          obtain ⟨hj, h⟩ := h
          refine x_lald F kz_45 nz_45 hj dX0_mostPulled_43 ?_
          refine x_lmul F dX0_mostPulled_44 ?_
          refine x_lcmp F dX0_mostPulled_45 ?_
          refine x_if_le (tgt := 52) F dX0_mostPulled_46 (by decide) (fun c => ?_) (fun c => ?_)
          · replace h := h.1 c
            refine x_sub (lv' := [(0, .ref (ad X 41)), (1, .int x1), (2, .int x2), (3, .int x3), (4, .int x4)]) [0, 1, 2, 3, 4] rfl ?_
            exact wb_X0_mostPulled_52 F hret  ih _ _ _ _ _ h
          · replace h := h.2 c
            refine x_sub (lv' := [(0, .ref (ad X 41)), (1, .int x1), (2, .int x2), (4, .int x4)]) [0, 1, 2, 4] rfl ?_
            exact wb_X0_mostPulled_49 F hret  ih _ _ _ _ h
def w_X0_mostPulled  (p0 : Int32) (p1 : Int32) (σ : wS) (Q : Int32 → wS → Prop) : Prop := (∃ m, l_X0_mostPulled_5   Q m p0 p1 (-1 : Int32) (0 : Int32) σ)
set_option maxRecDepth 100000 in
set_option maxHeartbeats 4000000 in
theorem c_X0_mostPulled (l : Launch) (g : wG) (A : Nat → Prop) (hA : adO g A)   {p0 : Int32} {p1 : Int32} {σ : wS} {Q : Int32 → wS → Prop} (h : w_X0_mostPulled  p0 p1 σ Q) : Mi l yX0_mostPulled wvX0_mostPulled 0 0 g A [.ref (g.2.2 41), .int p0, .int p1] σ Q := by
  refine mt_i (own := RX0) (lv := [(0, .ref (g.2.2 41)), (1, .int p0), (2, .int p1)]) (by decide) rfl rfl hA (Nat.le_of_ble_eq_true rfl) rfl ?_
  intro X hl hg hAA F hret
  subst hl hg hAA
  unfold w_X0_mostPulled at h
  refine x_iconst (-1 : Int32) F dX0_mostPulled_0 (by decide) ?_
  refine x_istore_n (lv' := [(3, .int (-1 : Int32)), (0, .ref (ad X 41)), (1, .int p0), (2, .int p1)]) F dX0_mostPulled_1 rfl (by decide) rfl ?_
  refine x_iconst (0 : Int32) F dX0_mostPulled_2 (by decide) ?_
  refine x_istore (lv' := [(4, .int (0 : Int32)), (3, .int (-1 : Int32)), (0, .ref (ad X 41)), (1, .int p0), (2, .int p1)]) F dX0_mostPulled_3 (by decide) rfl ?_
  refine x_sub (lv' := [(0, .ref (ad X 41)), (1, .int p0), (2, .int p1), (3, .int (-1 : Int32)), (4, .int (0 : Int32))]) [2, 3, 4, 1, 0] rfl ?_
  obtain ⟨n2, h⟩ := h
  exact wl_X0_mostPulled_5 F hret   n2 _ _ _ _ _ h
/-! X0_mostLoaded -/
abbrev wvX0_mostLoaded : List Cond := Cond.code yX0_mostLoaded cX0_mostLoaded 6 (some .int) :: wsL_law
theorem cd_X0_mostLoaded : okN yX0_mostLoaded RX0 3 := by unfold okN; decide +kernel
def b_X0_mostLoaded_74 (p0 : Nat) (K6 : Int32 → Int32 → Int32 → Int32 → wS → Prop) (Q : Int32 → wS → Prop) (x2 : Int32) (x3 : Int32) (x4 : Int32) (x5 : Int32) (σ : wS) : Prop := ∀ y1 : Int32, y1 = (x5 + (1 : Int32)) → (K6 x2 x3 x4 y1 σ)
set_option maxRecDepth 100000 in
set_option maxHeartbeats 4000000 in
theorem wb_X0_mostLoaded_74 {X : XT} {Q : Int32 → wS → Prop} {p0 : Nat} (F : Fx X cX0_mostLoaded 6 RX0 wvX0_mostLoaded 0 0) (hret : Ri X 6 cX0_mostLoaded .int Q) (k_p0 : kd p0 = 5) {K6 : Int32 → Int32 → Int32 → Int32 → wS → Prop} (hK6 : ∀ (x2 : Int32) (x3 : Int32) (x4 : Int32) (x5 : Int32) (σ : wS), K6 x2 x3 x4 x5 σ → Wx X 6 σ 6 [(0, .ref (ad X 41)), (1, .ref (ad X p0)), (2, .int x2), (3, .int x3), (4, .int x4), (5, .int x5)] []) (x2 : Int32) (x3 : Int32) (x4 : Int32) (x5 : Int32) (σ : wS) (h : b_X0_mostLoaded_74 p0 K6 Q x2 x3 x4 x5 σ) : Wx X 6 σ 74 [(0, .ref (ad X 41)), (1, .ref (ad X p0)), (2, .int x2), (3, .int x3), (4, .int x4), (5, .int x5)] [] := by
  unfold b_X0_mostLoaded_74 at h
  obtain ⟨y1, ey1⟩ : ∃ y : Int32, y = (x5 + (1 : Int32)) := ⟨_, rfl⟩
  replace h := h y1 ey1
  refine x_iinc (q := 5) (v := y1) (lv' := [(5, .int y1), (0, .ref (ad X 41)), (1, .ref (ad X p0)), (2, .int x2), (3, .int x3), (4, .int x4)]) F dX0_mostLoaded_74 rfl (by rw [ey1]; rfl) (by decide) rfl ?_
  refine x_goto (tgt := 6) F dX0_mostLoaded_77 (by decide) ?_
  refine x_sub (lv' := [(0, .ref (ad X 41)), (1, .ref (ad X p0)), (2, .int x2), (3, .int x3), (4, .int x4), (5, .int y1)]) [1, 2, 3, 4, 5, 0] rfl ?_
  exact hK6 _ _ _ _ _ h
def b_X0_mostLoaded_70 (p0 : Nat) (K6 : Int32 → Int32 → Int32 → Int32 → wS → Prop) (Q : Int32 → wS → Prop) (x2 : Int32) (x3 : Int32) (x5 : Int32) (σ : wS) : Prop := b_X0_mostLoaded_74 p0 K6 Q x2 x3 x5 x5 σ
set_option maxRecDepth 100000 in
set_option maxHeartbeats 4000000 in
theorem wb_X0_mostLoaded_70 {X : XT} {Q : Int32 → wS → Prop} {p0 : Nat} (F : Fx X cX0_mostLoaded 6 RX0 wvX0_mostLoaded 0 0) (hret : Ri X 6 cX0_mostLoaded .int Q) (k_p0 : kd p0 = 5) {K6 : Int32 → Int32 → Int32 → Int32 → wS → Prop} (hK6 : ∀ (x2 : Int32) (x3 : Int32) (x4 : Int32) (x5 : Int32) (σ : wS), K6 x2 x3 x4 x5 σ → Wx X 6 σ 6 [(0, .ref (ad X 41)), (1, .ref (ad X p0)), (2, .int x2), (3, .int x3), (4, .int x4), (5, .int x5)] []) (x2 : Int32) (x3 : Int32) (x5 : Int32) (σ : wS) (h : b_X0_mostLoaded_70 p0 K6 Q x2 x3 x5 σ) : Wx X 6 σ 70 [(0, .ref (ad X 41)), (1, .ref (ad X p0)), (2, .int x2), (3, .int x3), (5, .int x5)] [] := by
  unfold b_X0_mostLoaded_70 at h
  refine x_iload F dX0_mostLoaded_70 4 rfl ?_
  refine x_istore (lv' := [(4, .int x5), (0, .ref (ad X 41)), (1, .ref (ad X p0)), (2, .int x2), (3, .int x3), (5, .int x5)]) F dX0_mostLoaded_72 (by decide) rfl ?_
  refine x_sub (lv' := [(0, .ref (ad X 41)), (1, .ref (ad X p0)), (2, .int x2), (3, .int x3), (4, .int x5), (5, .int x5)]) [1, 2, 3, 4, 0, 5] rfl ?_
  exact wb_X0_mostLoaded_74 F hret k_p0 hK6 _ _ _ _ _ h
def l_X0_mostLoaded_6 (p0 : Nat)  (Q : Int32 → wS → Prop) : Nat → Int32 → Int32 → Int32 → Int32 → wS → Prop
  | 0, _, _, _, _, _ => False
  | n + 1, x2, x3, x4, x5, σ => ((8 : Int32) ≤ x5 → (Q x4 σ)) ∧ (¬ (8 : Int32) ≤ x5 → ((((x2 >>> (x5 &&& 31)) &&& (1 : Int32)) = 0 → (b_X0_mostLoaded_74 p0 (fun x2 x3 x4 x5 σ => l_X0_mostLoaded_6 p0  Q n x2 x3 x4 x5 σ) Q x2 x3 x4 x5 σ)) ∧ (¬ ((x2 >>> (x5 &&& 31)) &&& (1 : Int32)) = 0 → ((x4 = (-1 : Int32) → (b_X0_mostLoaded_70 p0 (fun x2 x3 x4 x5 σ => l_X0_mostLoaded_6 p0  Q n x2 x3 x4 x5 σ) Q x2 x3 x5 σ)) ∧ (¬ x4 = (-1 : Int32) → (vp_in x5 8 ∧ (vp_in x4 8 ∧ (vp_in x4 8 ∧ (vp_in x5 8 ∧ (((lg_cmp (((x3).toInt64 * (σ.2 45 (x5).toNatClampNeg)) * ((σ.1 (p0 + 5) (x4).toNatClampNeg)).toInt64) (((x3).toInt64 * (σ.2 45 (x4).toNatClampNeg)) * ((σ.1 (p0 + 5) (x5).toNatClampNeg)).toInt64)) ≤ 0 → (b_X0_mostLoaded_74 p0 (fun x2 x3 x4 x5 σ => l_X0_mostLoaded_6 p0  Q n x2 x3 x4 x5 σ) Q x2 x3 x4 x5 σ)) ∧ (¬ (lg_cmp (((x3).toInt64 * (σ.2 45 (x5).toNatClampNeg)) * ((σ.1 (p0 + 5) (x4).toNatClampNeg)).toInt64) (((x3).toInt64 * (σ.2 45 (x4).toNatClampNeg)) * ((σ.1 (p0 + 5) (x5).toNatClampNeg)).toInt64)) ≤ 0 → (b_X0_mostLoaded_70 p0 (fun x2 x3 x4 x5 σ => l_X0_mostLoaded_6 p0  Q n x2 x3 x4 x5 σ) Q x2 x3 x5 σ))))))))))))
set_option maxRecDepth 100000 in
set_option maxHeartbeats 4000000 in
theorem wl_X0_mostLoaded_6 {X : XT} {Q : Int32 → wS → Prop} {p0 : Nat} (F : Fx X cX0_mostLoaded 6 RX0 wvX0_mostLoaded 0 0) (hret : Ri X 6 cX0_mostLoaded .int Q) (k_p0 : kd p0 = 5)   : ∀ (n : Nat) (x2 : Int32) (x3 : Int32) (x4 : Int32) (x5 : Int32) (σ : wS), l_X0_mostLoaded_6 p0  Q n x2 x3 x4 x5 σ → Wx X 6 σ 6 [(0, .ref (ad X 41)), (1, .ref (ad X p0)), (2, .int x2), (3, .int x3), (4, .int x4), (5, .int x5)] [] := by
  intro n
  induction n with
  | zero =>
    intros
    contradiction
  | succ n ih =>
    intro x2 x3 x4 x5 σ h
    simp only [l_X0_mostLoaded_6] at h
    refine x_iload F dX0_mostLoaded_6 5 rfl ?_
    refine x_bipush (8 : Int32) F dX0_mostLoaded_8 (by decide) ?_
    refine x_icmp_ge (tgt := 80) F dX0_mostLoaded_10 (by decide) (fun c => ?_) (fun c => ?_)
    · replace h := h.1 c
      refine x_iload F dX0_mostLoaded_80 4 rfl ?_
      exact hret _ _ _ _ h rfl dX0_mostLoaded_82
    · replace h := h.2 c
      refine x_iload_n F dX0_mostLoaded_13 rfl 2 rfl ?_
      refine x_iload F dX0_mostLoaded_14 5 rfl ?_
      refine x_ishr F dX0_mostLoaded_16 ?_
      refine x_iconst (1 : Int32) F dX0_mostLoaded_17 (by decide) ?_
      refine x_iand F dX0_mostLoaded_18 ?_
      refine x_if_eq (tgt := 74) F dX0_mostLoaded_19 (by decide) (fun c => ?_) (fun c => ?_)
      · replace h := h.1 c
        refine x_sub (lv' := [(0, .ref (ad X 41)), (1, .ref (ad X p0)), (2, .int x2), (3, .int x3), (4, .int x4), (5, .int x5)]) [0, 1, 2, 3, 4, 5] rfl ?_
        exact wb_X0_mostLoaded_74 F hret k_p0 ih _ _ _ _ _ h
      · replace h := h.2 c
        refine x_iload F dX0_mostLoaded_22 4 rfl ?_
        refine x_iconst (-1 : Int32) F dX0_mostLoaded_24 (by decide) ?_
        refine x_icmp_eq (tgt := 70) F dX0_mostLoaded_25 (by decide) (fun c => ?_) (fun c => ?_)
        · replace h := h.1 c
          refine x_sub (lv' := [(0, .ref (ad X 41)), (1, .ref (ad X p0)), (2, .int x2), (3, .int x3), (5, .int x5)]) [0, 1, 2, 3, 5] rfl ?_
          exact wb_X0_mostLoaded_70 F hret k_p0 ih _ _ _ _ h
        · replace h := h.2 c
          refine x_iload_n F dX0_mostLoaded_28 rfl 3 rfl ?_
          refine x_i2l F dX0_mostLoaded_29 ?_
          refine x_aload_n F dX0_mostLoaded_30 rfl 0 rfl ?_
          refine g_0_3 F kz_41 in_0 (mc bw_5_21) dX0_mostLoaded_31 ?_
          refine x_iload F dX0_mostLoaded_34 5 rfl ?_
          obtain ⟨hj, h⟩ := h
          refine x_lald F kz_45 nz_45 hj dX0_mostLoaded_36 ?_
          refine x_lmul F dX0_mostLoaded_37 ?_
          refine x_aload_n F dX0_mostLoaded_38 rfl 1 rfl ?_
          refine g_5_4 F k_p0 in_5 (mc bw_22_0) dX0_mostLoaded_39 ?_
          refine x_iload F dX0_mostLoaded_42 4 rfl ?_
          obtain ⟨hj, h⟩ := h
          refine x_iald F (ky_5_4 k_p0) (kn_5_4 k_p0) hj dX0_mostLoaded_44 ?_
          refine x_i2l F dX0_mostLoaded_45 ?_
          refine x_lmul F dX0_mostLoaded_46 ?_
          refine x_iload_n F dX0_mostLoaded_47 rfl 3 rfl ?_
          refine x_i2l F dX0_mostLoaded_48 ?_
          refine x_aload_n F dX0_mostLoaded_49 rfl 0 rfl ?_
          refine g_0_3 F kz_41 in_0 (mc bw_5_21) dX0_mostLoaded_50 ?_
          refine x_iload F dX0_mostLoaded_53 4 rfl ?_
          obtain ⟨hj, h⟩ := h
          refine x_lald F kz_45 nz_45 hj dX0_mostLoaded_55 ?_
          refine x_lmul F dX0_mostLoaded_56 ?_
          refine x_aload_n F dX0_mostLoaded_57 rfl 1 rfl ?_
          refine g_5_4 F k_p0 in_5 (mc bw_22_0) dX0_mostLoaded_58 ?_
          refine x_iload F dX0_mostLoaded_61 5 rfl ?_
          obtain ⟨hj, h⟩ := h
          refine x_iald F (ky_5_4 k_p0) (kn_5_4 k_p0) hj dX0_mostLoaded_63 ?_
          refine x_i2l F dX0_mostLoaded_64 ?_
          refine x_lmul F dX0_mostLoaded_65 ?_
          refine x_lcmp F dX0_mostLoaded_66 ?_
          refine x_if_le (tgt := 74) F dX0_mostLoaded_67 (by decide) (fun c => ?_) (fun c => ?_)
          · replace h := h.1 c
            refine x_sub (lv' := [(0, .ref (ad X 41)), (1, .ref (ad X p0)), (2, .int x2), (3, .int x3), (4, .int x4), (5, .int x5)]) [0, 1, 2, 3, 4, 5] rfl ?_
            exact wb_X0_mostLoaded_74 F hret k_p0 ih _ _ _ _ _ h
          · replace h := h.2 c
            refine x_sub (lv' := [(0, .ref (ad X 41)), (1, .ref (ad X p0)), (2, .int x2), (3, .int x3), (5, .int x5)]) [0, 1, 2, 3, 5] rfl ?_
            exact wb_X0_mostLoaded_70 F hret k_p0 ih _ _ _ _ h
def w_X0_mostLoaded (p0 : Nat) (p1 : Int32) (p2 : Int32) (σ : wS) (Q : Int32 → wS → Prop) : Prop := (∃ m, l_X0_mostLoaded_6 p0  Q m p1 p2 (-1 : Int32) (0 : Int32) σ)
set_option maxRecDepth 100000 in
set_option maxHeartbeats 4000000 in
theorem c_X0_mostLoaded (l : Launch) (g : wG) (A : Nat → Prop) (hA : adO g A) {p0 : Nat} (k_p0 : kd p0 = 5) {p1 : Int32} {p2 : Int32} {σ : wS} {Q : Int32 → wS → Prop} (h : w_X0_mostLoaded p0 p1 p2 σ Q) : Mi l yX0_mostLoaded wvX0_mostLoaded 0 0 g A [.ref (g.2.2 41), .ref (g.2.2 p0), .int p1, .int p2] σ Q := by
  refine mt_i (own := RX0) (lv := [(0, .ref (g.2.2 41)), (1, .ref (g.2.2 p0)), (2, .int p1), (3, .int p2)]) (by decide) rfl rfl hA (Nat.le_of_ble_eq_true rfl) rfl ?_
  intro X hl hg hAA F hret
  subst hl hg hAA
  unfold w_X0_mostLoaded at h
  refine x_iconst (-1 : Int32) F dX0_mostLoaded_0 (by decide) ?_
  refine x_istore (lv' := [(4, .int (-1 : Int32)), (0, .ref (ad X 41)), (1, .ref (ad X p0)), (2, .int p1), (3, .int p2)]) F dX0_mostLoaded_1 (by decide) rfl ?_
  refine x_iconst (0 : Int32) F dX0_mostLoaded_3 (by decide) ?_
  refine x_istore (lv' := [(5, .int (0 : Int32)), (4, .int (-1 : Int32)), (0, .ref (ad X 41)), (1, .ref (ad X p0)), (2, .int p1), (3, .int p2)]) F dX0_mostLoaded_4 (by decide) rfl ?_
  refine x_sub (lv' := [(0, .ref (ad X 41)), (1, .ref (ad X p0)), (2, .int p1), (3, .int p2), (4, .int (-1 : Int32)), (5, .int (0 : Int32))]) [2, 3, 4, 5, 1, 0] rfl ?_
  obtain ⟨n2, h⟩ := h
  exact wl_X0_mostLoaded_6 F hret k_p0  n2 _ _ _ _ _ h
/-! X11_isWithin -/
abbrev wvX11_isWithin : List Cond := Cond.code yX11_isWithin cX11_isWithin 3 (some .boolean) :: wsL_law
theorem cd_X11_isWithin : okN yX11_isWithin RX11 3 := by unfold okN; decide +kernel
def w_X11_isWithin  (p0 : Int32) (p1 : Int32) (p2 : Int32) (σ : wS) (Q : Int32 → wS → Prop) : Prop := (p0 < p1 → (Q (0 : Int32) σ)) ∧ (¬ p0 < p1 → ((p2 < p0 → (Q (0 : Int32) σ)) ∧ (¬ p2 < p0 → (Q (1 : Int32) σ))))
set_option maxRecDepth 100000 in
set_option maxHeartbeats 4000000 in
theorem c_X11_isWithin (l : Launch) (g : wG) (A : Nat → Prop) (hA : adO g A)   {p0 : Int32} {p1 : Int32} {p2 : Int32} {σ : wS} {Q : Int32 → wS → Prop} (h : w_X11_isWithin  p0 p1 p2 σ Q) : Mi l yX11_isWithin wvX11_isWithin 0 0 g A [.int p0, .int p1, .int p2] σ Q := by
  refine mt_i (own := RX11) (lv := [(0, .int p0), (1, .int p1), (2, .int p2)]) (by decide) rfl rfl hA (Nat.le_of_ble_eq_true rfl) rfl ?_
  intro X hl hg hAA F hret
  subst hl hg hAA
  unfold w_X11_isWithin at h
  refine x_iload_n F dX11_isWithin_0 rfl 0 rfl ?_
  refine x_iload_n F dX11_isWithin_1 rfl 1 rfl ?_
  refine x_icmp_lt (tgt := 14) F dX11_isWithin_2 (by decide) (fun c => ?_) (fun c => ?_)
  · replace h := h.1 c
    refine x_iconst (0 : Int32) F dX11_isWithin_14 (by decide) ?_
    exact hret _ _ _ _ h (nar01 (by decide)) dX11_isWithin_15
  · replace h := h.2 c
    refine x_iload_n F dX11_isWithin_5 rfl 0 rfl ?_
    refine x_iload_n F dX11_isWithin_6 rfl 2 rfl ?_
    refine x_icmp_gt (tgt := 14) F dX11_isWithin_7 (by decide) (fun c => ?_) (fun c => ?_)
    · replace h := h.1 c
      refine x_iconst (0 : Int32) F dX11_isWithin_14 (by decide) ?_
      exact hret _ _ _ _ h (nar01 (by decide)) dX11_isWithin_15
    · replace h := h.2 c
      refine x_iconst (1 : Int32) F dX11_isWithin_10 (by decide) ?_
      refine x_goto (tgt := 15) F dX11_isWithin_11 (by decide) ?_
      exact hret _ _ _ _ h (nar01 (by decide)) dX11_isWithin_15
/-! X1_isGustWithin -/
abbrev wvX1_isGustWithin : List Cond := Cond.code yX1_isGustWithin cX1_isGustWithin 3 (some .boolean) :: wsL_law
theorem cd_X1_isGustWithin : okN yX1_isGustWithin RX1 3 := by unfold okN; decide +kernel
def w_X1_isGustWithin  (p0 : Int32) (p1 : Int32) (p2 : Int32) (σ : wS) (Q : Int32 → wS → Prop) : Prop := w_X11_isWithin p0 (-(stv 200 ((0 : Int32)).toNatClampNeg)) (stv 200 ((0 : Int32)).toNatClampNeg) σ (fun r2 s1 => (r2 = 0 → (Q (0 : Int32) s1)) ∧ (¬ r2 = 0 → (w_X11_isWithin p1 (-(stv 200 ((1 : Int32)).toNatClampNeg)) (stv 200 ((1 : Int32)).toNatClampNeg) s1 (fun r4 s3 => (r4 = 0 → (Q (0 : Int32) s3)) ∧ (¬ r4 = 0 → (w_X11_isWithin p2 (-(stv 200 ((2 : Int32)).toNatClampNeg)) (stv 200 ((2 : Int32)).toNatClampNeg) s3 (fun r6 s5 => (r6 = 0 → (Q (0 : Int32) s5)) ∧ (¬ r6 = 0 → (Q (1 : Int32) s5)))))))))
set_option maxRecDepth 100000 in
set_option maxHeartbeats 4000000 in
theorem c_X1_isGustWithin (l : Launch) (g : wG) (A : Nat → Prop) (hA : adO g A)   {p0 : Int32} {p1 : Int32} {p2 : Int32} {σ : wS} {Q : Int32 → wS → Prop} (h : w_X1_isGustWithin  p0 p1 p2 σ Q) : Mi l yX1_isGustWithin wvX1_isGustWithin 1 22 g A [.int p0, .int p1, .int p2] σ Q := by
  refine mt_i (own := RX1) (lv := [(0, .int p0), (1, .int p1), (2, .int p2)]) (by decide) rfl rfl hA (Nat.le_of_ble_eq_true rfl) rfl ?_
  intro X hl hg hAA F hret
  subst hl hg hAA
  unfold w_X1_isGustWithin at h
  refine x_iload_n F dX1_isGustWithin_0 rfl 0 rfl ?_
  refine x_getsN (q := 0) F (by decide) (by decide) dX1_isGustWithin_1 ?_
  refine x_iconst (0 : Int32) F dX1_isGustWithin_4 (by decide) ?_
  refine x_ialdS F kz_200 nz_200 (by unfold vp_in; decide) dX1_isGustWithin_5 ?_
  refine x_ineg F dX1_isGustWithin_6 ?_
  refine x_getsN (q := 0) F (by decide) (by decide) dX1_isGustWithin_7 ?_
  refine x_iconst (0 : Int32) F dX1_isGustWithin_10 (by decide) ?_
  refine x_ialdS F kz_200 nz_200 (by unfold vp_in; decide) dX1_isGustWithin_11 ?_
  refine x_callW F (c_X11_isWithin (xl X) (xg X) (xA X) F.2.2.1  h) (bw_own bw_26_7) rfl (mc bw_1_2) (mc bw_26_6) cd_X11_isWithin (Nat.le_of_ble_eq_true rfl) (Nat.le_of_ble_eq_true rfl) rfl rfl (Nat.le_of_ble_eq_true rfl) dX1_isGustWithin_12 (fun r2 s1 h => ?_)
  refine x_if_eq (tgt := 58) F dX1_isGustWithin_15 (by decide) (fun c => ?_) (fun c => ?_)
  · replace h := h.1 c
    refine x_iconst (0 : Int32) F dX1_isGustWithin_58 (by decide) ?_
    exact hret _ _ _ _ h (nar01 (by decide)) dX1_isGustWithin_59
  · replace h := h.2 c
    refine x_iload_n F dX1_isGustWithin_18 rfl 1 rfl ?_
    refine x_getsN (q := 0) F (by decide) (by decide) dX1_isGustWithin_19 ?_
    refine x_iconst (1 : Int32) F dX1_isGustWithin_22 (by decide) ?_
    refine x_ialdS F kz_200 nz_200 (by unfold vp_in; decide) dX1_isGustWithin_23 ?_
    refine x_ineg F dX1_isGustWithin_24 ?_
    refine x_getsN (q := 0) F (by decide) (by decide) dX1_isGustWithin_25 ?_
    refine x_iconst (1 : Int32) F dX1_isGustWithin_28 (by decide) ?_
    refine x_ialdS F kz_200 nz_200 (by unfold vp_in; decide) dX1_isGustWithin_29 ?_
    refine x_callW F (c_X11_isWithin (xl X) (xg X) (xA X) F.2.2.1  h) (bw_own bw_26_7) rfl (mc bw_1_2) (mc bw_26_6) cd_X11_isWithin (Nat.le_of_ble_eq_true rfl) (Nat.le_of_ble_eq_true rfl) rfl rfl (Nat.le_of_ble_eq_true rfl) dX1_isGustWithin_30 (fun r4 s3 h => ?_)
    refine x_if_eq (tgt := 58) F dX1_isGustWithin_33 (by decide) (fun c => ?_) (fun c => ?_)
    · replace h := h.1 c
      refine x_iconst (0 : Int32) F dX1_isGustWithin_58 (by decide) ?_
      exact hret _ _ _ _ h (nar01 (by decide)) dX1_isGustWithin_59
    · replace h := h.2 c
      refine x_iload_n F dX1_isGustWithin_36 rfl 2 rfl ?_
      refine x_getsN (q := 0) F (by decide) (by decide) dX1_isGustWithin_37 ?_
      refine x_iconst (2 : Int32) F dX1_isGustWithin_40 (by decide) ?_
      refine x_ialdS F kz_200 nz_200 (by unfold vp_in; decide) dX1_isGustWithin_41 ?_
      refine x_ineg F dX1_isGustWithin_42 ?_
      refine x_getsN (q := 0) F (by decide) (by decide) dX1_isGustWithin_43 ?_
      refine x_iconst (2 : Int32) F dX1_isGustWithin_46 (by decide) ?_
      refine x_ialdS F kz_200 nz_200 (by unfold vp_in; decide) dX1_isGustWithin_47 ?_
      refine x_callW F (c_X11_isWithin (xl X) (xg X) (xA X) F.2.2.1  h) (bw_own bw_26_7) rfl (mc bw_1_2) (mc bw_26_6) cd_X11_isWithin (Nat.le_of_ble_eq_true rfl) (Nat.le_of_ble_eq_true rfl) rfl rfl (Nat.le_of_ble_eq_true rfl) dX1_isGustWithin_48 (fun r6 s5 h => ?_)
      refine x_if_eq (tgt := 58) F dX1_isGustWithin_51 (by decide) (fun c => ?_) (fun c => ?_)
      · replace h := h.1 c
        refine x_iconst (0 : Int32) F dX1_isGustWithin_58 (by decide) ?_
        exact hret _ _ _ _ h (nar01 (by decide)) dX1_isGustWithin_59
      · replace h := h.2 c
        refine x_iconst (1 : Int32) F dX1_isGustWithin_54 (by decide) ?_
        refine x_goto (tgt := 59) F dX1_isGustWithin_55 (by decide) ?_
        exact hret _ _ _ _ h (nar01 (by decide)) dX1_isGustWithin_59
/-! X1_firstBroken -/
abbrev wvX1_firstBroken : List Cond := Cond.code yX1_firstBroken cX1_firstBroken 1 (some .int) :: wsL_law
theorem cd_X1_firstBroken : okN yX1_firstBroken RX1 0 := by unfold okN; decide +kernel
def w_X1_firstBroken   (σ : wS) (Q : Int32 → wS → Prop) : Prop := (¬ (σ.1 38 5) = (-1 : Int32) → (Q (-1 : Int32) σ)) ∧ ((σ.1 38 5) = (-1 : Int32) → (((σ.1 38 4) ≤ 0 → (Q (-1 : Int32) σ)) ∧ (¬ (σ.1 38 4) ≤ 0 → (Q (σ.1 39 ((0 : Int32)).toNatClampNeg) σ))))
set_option maxRecDepth 100000 in
set_option maxHeartbeats 4000000 in
theorem c_X1_firstBroken (l : Launch) (g : wG) (A : Nat → Prop) (hA : adO g A)    {σ : wS} {Q : Int32 → wS → Prop} (h : w_X1_firstBroken   σ Q) : Mi l yX1_firstBroken wvX1_firstBroken 0 0 g A [.ref (g.2.2 38)] σ Q := by
  refine mt_i (own := RX1) (lv := [(0, .ref (g.2.2 38))]) (by decide) rfl rfl hA (Nat.le_of_ble_eq_true rfl) rfl ?_
  intro X hl hg hAA F hret
  subst hl hg hAA
  unfold w_X1_firstBroken at h
  refine x_aload_n F dX1_firstBroken_0 rfl 0 rfl ?_
  refine g_1_5 F kz_38 in_1 (mc bw_5_14) dX1_firstBroken_1 ?_
  refine x_iconst (-1 : Int32) F dX1_firstBroken_4 (by decide) ?_
  refine x_icmp_ne (tgt := 24) F dX1_firstBroken_5 (by decide) (fun c => ?_) (fun c => ?_)
  · replace h := h.1 c
    refine x_iconst (-1 : Int32) F dX1_firstBroken_24 (by decide) ?_
    exact hret _ _ _ _ h rfl dX1_firstBroken_25
  · replace h := h.2 c
    refine x_aload_n F dX1_firstBroken_8 rfl 0 rfl ?_
    refine g_1_4 F kz_38 in_1 (mc bw_5_13) dX1_firstBroken_9 ?_
    refine x_if_le (tgt := 24) F dX1_firstBroken_12 (by decide) (fun c => ?_) (fun c => ?_)
    · replace h := h.1 c
      refine x_iconst (-1 : Int32) F dX1_firstBroken_24 (by decide) ?_
      exact hret _ _ _ _ h rfl dX1_firstBroken_25
    · replace h := h.2 c
      refine x_aload_n F dX1_firstBroken_15 rfl 0 rfl ?_
      refine g_1_1 F kz_38 in_1 (mc bw_5_10) dX1_firstBroken_16 ?_
      refine x_iconst (0 : Int32) F dX1_firstBroken_19 (by decide) ?_
      refine x_iald F kz_39 nz_39 (by unfold vp_in; decide) dX1_firstBroken_20 ?_
      refine x_goto (tgt := 25) F dX1_firstBroken_21 (by decide) ?_
      exact hret _ _ _ _ h rfl dX1_firstBroken_25
/-! X1_blow -/
abbrev wvX1_blow : List Cond := Cond.code yX1_blow cX1_blow 6 (some .int) :: wsL_law
theorem cd_X1_blow : okN yX1_blow RX1 5 := by unfold okN; decide +kernel
def l_X1_blow_55 (p0 : Nat) (p1 : Nat)  (Q : Int32 → wS → Prop) : Nat → Int32 → Int32 → Int32 → Int32 → wS → Prop
  | 0, _, _, _, _, _ => False
  | n + 1, x2, x3, x4, x5, σ => ((3 : Int32) ≤ x5 → ((¬ x2 = 0 → (Q (-1 : Int32) σ)) ∧ (x2 = 0 → ((¬ x3 = 0 → (Q (-1 : Int32) σ)) ∧ (x3 = 0 → ((¬ x4 = 0 → (Q (-1 : Int32) σ)) ∧ (x4 = 0 → (Q (2 : Int32) σ)))))))) ∧ (¬ (3 : Int32) ≤ x5 → (vp_in x5 3 ∧ (vp_in x5 3 ∧ (vp_in x5 3 ∧ (w_X11_isWithin (σ.1 (p1 + 2) (x5).toNatClampNeg) (-(stv 201 (x5).toNatClampNeg)) (stv 201 (x5).toNatClampNeg) σ (fun r2 s1 => (¬ r2 = 0 → (∀ y3 : Int32, y3 = (x5 + (1 : Int32)) → (l_X1_blow_55 p0 p1  Q n x2 x3 x4 y3 s1))) ∧ (r2 = 0 → (Q (1 : Int32) s1))))))))
set_option maxRecDepth 100000 in
set_option maxHeartbeats 4000000 in
theorem wl_X1_blow_55 {X : XT} {Q : Int32 → wS → Prop} {p0 : Nat} {p1 : Nat} (F : Fx X cX1_blow 6 RX1 wvX1_blow 2 44) (hret : Ri X 6 cX1_blow .int Q) (k_p0 : kd p0 = 5) (k_p1 : kd p1 = 3)   : ∀ (n : Nat) (x2 : Int32) (x3 : Int32) (x4 : Int32) (x5 : Int32) (σ : wS), l_X1_blow_55 p0 p1  Q n x2 x3 x4 x5 σ → Wx X 6 σ 55 [(1, .ref (ad X p1)), (2, .int x2), (3, .int x3), (4, .int x4), (5, .int x5)] [] := by
  intro n
  induction n with
  | zero =>
    intros
    contradiction
  | succ n ih =>
    intro x2 x3 x4 x5 σ h
    simp only [l_X1_blow_55] at h
    refine x_iload F dX1_blow_55 4 rfl ?_
    refine x_iconst (3 : Int32) F dX1_blow_57 (by decide) ?_
    refine x_icmp_ge (tgt := 95) F dX1_blow_58 (by decide) (fun c => ?_) (fun c => ?_)
    · replace h := h.1 c
      refine x_iload_n F dX1_blow_95 rfl 1 rfl ?_
      refine x_if_ne (tgt := 112) F dX1_blow_96 (by decide) (fun c => ?_) (fun c => ?_)
      · replace h := h.1 c
        refine x_iconst (-1 : Int32) F dX1_blow_112 (by decide) ?_
        exact hret _ _ _ _ h rfl dX1_blow_113
      · replace h := h.2 c
        refine x_iload_n F dX1_blow_99 rfl 2 rfl ?_
        refine x_if_ne (tgt := 112) F dX1_blow_100 (by decide) (fun c => ?_) (fun c => ?_)
        · replace h := h.1 c
          refine x_iconst (-1 : Int32) F dX1_blow_112 (by decide) ?_
          exact hret _ _ _ _ h rfl dX1_blow_113
        · replace h := h.2 c
          refine x_iload F dX1_blow_103 3 rfl ?_
          refine x_if_ne (tgt := 112) F dX1_blow_105 (by decide) (fun c => ?_) (fun c => ?_)
          · replace h := h.1 c
            refine x_iconst (-1 : Int32) F dX1_blow_112 (by decide) ?_
            exact hret _ _ _ _ h rfl dX1_blow_113
          · replace h := h.2 c
            refine x_iconst (2 : Int32) F dX1_blow_108 (by decide) ?_
            refine x_goto (tgt := 113) F dX1_blow_109 (by decide) ?_
            exact hret _ _ _ _ h rfl dX1_blow_113
    · replace h := h.2 c
      refine x_aload_n F dX1_blow_61 rfl 0 rfl ?_
      refine g_3_1 F k_p1 in_3 (mc bw_33_7) dX1_blow_62 ?_
      refine x_iload F dX1_blow_65 4 rfl ?_
      obtain ⟨hj, h⟩ := h
      refine x_iald F (ky_3_1 k_p1) (kn_3_1 k_p1) hj dX1_blow_67 ?_
      refine x_getsN (q := 1) F (by decide) (by decide) dX1_blow_68 ?_
      refine x_iload F dX1_blow_71 4 rfl ?_
      obtain ⟨hj, h⟩ := h
      refine x_ialdS F kz_201 nz_201 hj dX1_blow_73 ?_
      refine x_ineg F dX1_blow_74 ?_
      refine x_getsN (q := 1) F (by decide) (by decide) dX1_blow_75 ?_
      refine x_iload F dX1_blow_78 4 rfl ?_
      obtain ⟨hj, h⟩ := h
      refine x_ialdS F kz_201 nz_201 hj dX1_blow_80 ?_
      refine x_callW F (c_X11_isWithin (xl X) (xg X) (xA X) F.2.2.1  h) (bw_own bw_26_7) rfl (mc bw_1_2) (mc bw_26_6) cd_X11_isWithin (Nat.le_of_ble_eq_true rfl) (Nat.le_of_ble_eq_true rfl) rfl rfl (Nat.le_of_ble_eq_true rfl) dX1_blow_81 (fun r2 s1 h => ?_)
      refine x_if_ne (tgt := 89) F dX1_blow_84 (by decide) (fun c => ?_) (fun c => ?_)
      · replace h := h.1 c
        obtain ⟨y3, ey3⟩ : ∃ y : Int32, y = (x5 + (1 : Int32)) := ⟨_, rfl⟩
        replace h := h y3 ey3
        refine x_iinc (q := 4) (v := y3) (lv' := [(5, .int y3), (1, .ref (ad X p1)), (2, .int x2), (3, .int x3), (4, .int x4)]) F dX1_blow_89 rfl (by rw [ey3]; rfl) (by decide) rfl ?_
        refine x_goto (tgt := 55) F dX1_blow_92 (by decide) ?_
        refine x_sub (lv' := [(1, .ref (ad X p1)), (2, .int x2), (3, .int x3), (4, .int x4), (5, .int y3)]) [1, 2, 3, 4, 0] rfl ?_
        exact ih _ _ _ _ _ h
      · replace h := h.2 c
        refine x_iconst (1 : Int32) F dX1_blow_87 (by decide) ?_
        exact hret _ _ _ _ h rfl dX1_blow_88
def w_X1_blow (p0 : Nat) (p1 : Nat) (p2 : Int32) (p3 : Int32) (p4 : Int32) (σ : wS) (Q : Int32 → wS → Prop) : Prop := (¬ (σ.1 p0 6) = 0 → (w_X1_isGustWithin p2 p3 p4 σ (fun r2 s1 => (¬ r2 = 0 → (∀ s3 : wS, s3 = upI s1 (p1 + 2) ((0 : Int32)).toNatClampNeg ((s1.1 (p1 + 2) ((0 : Int32)).toNatClampNeg) + p2) → (∀ s4 : wS, s4 = upI s3 (p1 + 2) ((1 : Int32)).toNatClampNeg ((s3.1 (p1 + 2) ((1 : Int32)).toNatClampNeg) + p3) → (∀ s5 : wS, s5 = upI s4 (p1 + 2) ((2 : Int32)).toNatClampNeg ((s4.1 (p1 + 2) ((2 : Int32)).toNatClampNeg) + p4) → ((∃ m, l_X1_blow_55 p0 p1  Q m p2 p3 p4 (0 : Int32) s5)))))) ∧ (r2 = 0 → (Q (1 : Int32) s1))))) ∧ ((σ.1 p0 6) = 0 → (Q (0 : Int32) σ))
set_option maxRecDepth 100000 in
set_option maxHeartbeats 4000000 in
theorem c_X1_blow (l : Launch) (g : wG) (A : Nat → Prop) (hA : adO g A) {p0 : Nat} {p1 : Nat} (k_p0 : kd p0 = 5) (k_p1 : kd p1 = 3) {p2 : Int32} {p3 : Int32} {p4 : Int32} {σ : wS} {Q : Int32 → wS → Prop} (h : w_X1_blow p0 p1 p2 p3 p4 σ Q) : Mi l yX1_blow wvX1_blow 2 44 g A [.ref (g.2.2 p0), .ref (g.2.2 p1), .int p2, .int p3, .int p4] σ Q := by
  refine mt_i (own := RX1) (lv := [(0, .ref (g.2.2 p0)), (1, .ref (g.2.2 p1)), (2, .int p2), (3, .int p3), (4, .int p4)]) (by decide) rfl rfl hA (Nat.le_of_ble_eq_true rfl) rfl ?_
  intro X hl hg hAA F hret
  subst hl hg hAA
  unfold w_X1_blow at h
  refine x_aload_n F dX1_blow_0 rfl 0 rfl ?_
  refine g_5_6 F k_p0 in_5 (mc bw_33_3) dX1_blow_1 ?_
  refine x_if_ne (tgt := 9) F dX1_blow_4 (by decide) (fun c => ?_) (fun c => ?_)
  · replace h := h.1 c
    refine x_iload_n F dX1_blow_9 rfl 2 rfl ?_
    refine x_iload_n F dX1_blow_10 rfl 3 rfl ?_
    refine x_iload F dX1_blow_11 4 rfl ?_
    refine x_callT_i F (c_X1_isGustWithin (xl X) (xg X) (xA X) F.2.2.1  h) (bw_S bw_33_8 bw_33_9 bw_2_13 bw_33_10) rfl cd_X1_isGustWithin (Nat.le_of_ble_eq_true rfl) (Nat.le_of_ble_eq_true rfl) rfl rfl (Nat.le_of_ble_eq_true rfl) dX1_blow_13 (fun r2 s1 h => ?_)
    refine x_if_ne (tgt := 21) F dX1_blow_16 (by decide) (fun c => ?_) (fun c => ?_)
    · replace h := h.1 c
      refine x_aload_n F dX1_blow_21 rfl 1 rfl ?_
      refine g_3_1 F k_p1 in_3 (mc bw_33_7) dX1_blow_22 ?_
      refine x_iconst (0 : Int32) F dX1_blow_25 (by decide) ?_
      refine x_dup2_11 F dX1_blow_26 rfl rfl ?_
      refine x_iald F (ky_3_1 k_p1) (kn_3_1 k_p1) (by unfold vp_in; decide) dX1_blow_27 ?_
      refine x_iload_n F dX1_blow_28 rfl 2 rfl ?_
      refine x_iadd F dX1_blow_29 ?_
      refine x_iast F (ky_3_1 k_p1) (kn_3_1 k_p1) (by unfold vp_in; decide) dX1_blow_30 ?_
      refine x_nmS (fun s3 es3 => ?_)
      replace h := h s3 es3
      refine x_aload_n F dX1_blow_31 rfl 1 rfl ?_
      refine g_3_1 F k_p1 in_3 (mc bw_33_7) dX1_blow_32 ?_
      refine x_iconst (1 : Int32) F dX1_blow_35 (by decide) ?_
      refine x_dup2_11 F dX1_blow_36 rfl rfl ?_
      refine x_iald F (ky_3_1 k_p1) (kn_3_1 k_p1) (by unfold vp_in; decide) dX1_blow_37 ?_
      refine x_iload_n F dX1_blow_38 rfl 3 rfl ?_
      refine x_iadd F dX1_blow_39 ?_
      refine x_iast F (ky_3_1 k_p1) (kn_3_1 k_p1) (by unfold vp_in; decide) dX1_blow_40 ?_
      refine x_nmS (fun s4 es4 => ?_)
      replace h := h s4 es4
      refine x_aload_n F dX1_blow_41 rfl 1 rfl ?_
      refine g_3_1 F k_p1 in_3 (mc bw_33_7) dX1_blow_42 ?_
      refine x_iconst (2 : Int32) F dX1_blow_45 (by decide) ?_
      refine x_dup2_11 F dX1_blow_46 rfl rfl ?_
      refine x_iald F (ky_3_1 k_p1) (kn_3_1 k_p1) (by unfold vp_in; decide) dX1_blow_47 ?_
      refine x_iload F dX1_blow_48 4 rfl ?_
      refine x_iadd F dX1_blow_50 ?_
      refine x_iast F (ky_3_1 k_p1) (kn_3_1 k_p1) (by unfold vp_in; decide) dX1_blow_51 ?_
      refine x_nmS (fun s5 es5 => ?_)
      replace h := h s5 es5
      refine x_iconst (0 : Int32) F dX1_blow_52 (by decide) ?_
      refine x_istore (lv' := [(5, .int (0 : Int32)), (0, .ref (ad X p0)), (1, .ref (ad X p1)), (2, .int p2), (3, .int p3), (4, .int p4)]) F dX1_blow_53 (by decide) rfl ?_
      refine x_sub (lv' := [(1, .ref (ad X p1)), (2, .int p2), (3, .int p3), (4, .int p4), (5, .int (0 : Int32))]) [2, 3, 4, 5, 0] rfl ?_
      obtain ⟨n2, h⟩ := h
      exact wl_X1_blow_55 F hret k_p0 k_p1  n2 _ _ _ _ _ h
    · replace h := h.2 c
      refine x_iconst (1 : Int32) F dX1_blow_19 (by decide) ?_
      exact hret _ _ _ _ h rfl dX1_blow_20
  · replace h := h.2 c
    refine x_iconst (0 : Int32) F dX1_blow_7 (by decide) ?_
    exact hret _ _ _ _ h rfl dX1_blow_8
/-! X3_isFast -/
abbrev wvX3_isFast : List Cond := Cond.code yX3_isFast cX3_isFast 2 (some .boolean) :: wsL_law
theorem cd_X3_isFast : okN yX3_isFast RX3 1 := by unfold okN; decide +kernel
def w_X3_isFast (i0 : Nat) (p0 : Int32) (σ : wS) (Q : Int32 → wS → Prop) : Prop := (¬ ((((σ.1 i0 3) ||| (σ.1 i0 4)) >>> (p0 &&& 31)) &&& (1 : Int32)) = 0 → (Q (0 : Int32) σ)) ∧ (((((σ.1 i0 3) ||| (σ.1 i0 4)) >>> (p0 &&& 31)) &&& (1 : Int32)) = 0 → (Q (1 : Int32) σ))
set_option maxRecDepth 100000 in
set_option maxHeartbeats 4000000 in
theorem c_X3_isFast (l : Launch) (g : wG) (A : Nat → Prop) (hA : adO g A) {i0 : Nat} (k_i0 : kd i0 = 3) {p0 : Int32} {σ : wS} {Q : Int32 → wS → Prop} (h : w_X3_isFast i0 p0 σ Q) : Mi l yX3_isFast wvX3_isFast 0 0 g A [.ref (g.2.2 i0), .int p0] σ Q := by
  refine mt_i (own := RX3) (lv := [(0, .ref (g.2.2 i0)), (1, .int p0)]) (by decide) rfl rfl hA (Nat.le_of_ble_eq_true rfl) rfl ?_
  intro X hl hg hAA F hret
  subst hl hg hAA
  unfold w_X3_isFast at h
  refine x_aload_n F dX3_isFast_0 rfl 0 rfl ?_
  refine g_3_3 F k_i0 in_3 (mc bw_4_22) dX3_isFast_1 ?_
  refine x_aload_n F dX3_isFast_4 rfl 0 rfl ?_
  refine g_3_4 F k_i0 in_3 (mc bw_4_23) dX3_isFast_5 ?_
  refine x_ior F dX3_isFast_8 ?_
  refine x_iload_n F dX3_isFast_9 rfl 1 rfl ?_
  refine x_ishr F dX3_isFast_10 ?_
  refine x_iconst (1 : Int32) F dX3_isFast_11 (by decide) ?_
  refine x_iand F dX3_isFast_12 ?_
  refine x_if_ne (tgt := 20) F dX3_isFast_13 (by decide) (fun c => ?_) (fun c => ?_)
  · replace h := h.1 c
    refine x_iconst (0 : Int32) F dX3_isFast_20 (by decide) ?_
    exact hret _ _ _ _ h (nar01 (by decide)) dX3_isFast_21
  · replace h := h.2 c
    refine x_iconst (1 : Int32) F dX3_isFast_16 (by decide) ?_
    refine x_goto (tgt := 21) F dX3_isFast_17 (by decide) ?_
    exact hret _ _ _ _ h (nar01 (by decide)) dX3_isFast_21
/-! X1_turn -/
abbrev wvX1_turn : List Cond := Cond.code yX1_turn cX1_turn 4 (some .int) :: wsL_law
theorem cd_X1_turn : okN yX1_turn RX1 4 := by unfold okN; decide +kernel
def b_X1_turn_62 (p0 : Nat) (p1 : Nat)  (Q : Int32 → wS → Prop)  (σ : wS) : Prop := Q (2 : Int32) σ
set_option maxRecDepth 100000 in
set_option maxHeartbeats 4000000 in
theorem wb_X1_turn_62 {X : XT} {Q : Int32 → wS → Prop} {p0 : Nat} {p1 : Nat} (F : Fx X cX1_turn 4 RX1 wvX1_turn 1 22) (hret : Ri X 4 cX1_turn .int Q) (k_p0 : kd p0 = 5) (k_p1 : kd p1 = 3)    (σ : wS) (h : b_X1_turn_62 p0 p1  Q  σ) : Wx X 4 σ 62 [] [] := by
  unfold b_X1_turn_62 at h
  refine x_iconst (2 : Int32) F dX1_turn_62 (by decide) ?_
  refine x_goto (tgt := 67) F dX1_turn_63 (by decide) ?_
  exact hret _ _ _ _ h rfl dX1_turn_67
def w_X1_turn (p0 : Nat) (p1 : Nat) (p2 : Int32) (p3 : Int32) (σ : wS) (Q : Int32 → wS → Prop) : Prop := w_X11_isWithin p3 (-9 : Int32) (9 : Int32) σ (fun r2 s1 => (¬ r2 = 0 → (vp_in p2 8 ∧ (vp_in p2 8 ∧ (vp_in p2 8 ∧ (∀ s3 : wS, s3 = upI s1 (p1 + 1) (p2).toNatClampNeg ((s1.1 (p1 + 1) (p2).toNatClampNeg) + (p3 * (s1.1 (p0 + 4) (p2).toNatClampNeg))) → (vp_in p2 8 ∧ (w_X11_isWithin (s3.1 (p1 + 1) (p2).toNatClampNeg) (-999 : Int32) (999 : Int32) s3 (fun r5 s4 => (¬ r5 = 0 → ((p3 = 0 → (b_X1_turn_62 p0 p1  Q  s4)) ∧ (¬ p3 = 0 → (w_X3_isFast p1 p2 s4 (fun r7 s6 => (¬ r7 = 0 → (Q (-1 : Int32) s6)) ∧ (r7 = 0 → (b_X1_turn_62 p0 p1  Q  s6))))))) ∧ (r5 = 0 → (Q (1 : Int32) s4)))))))))) ∧ (r2 = 0 → (Q (1 : Int32) s1)))
set_option maxRecDepth 100000 in
set_option maxHeartbeats 4000000 in
theorem c_X1_turn (l : Launch) (g : wG) (A : Nat → Prop) (hA : adO g A) {p0 : Nat} {p1 : Nat} (k_p0 : kd p0 = 5) (k_p1 : kd p1 = 3) {p2 : Int32} {p3 : Int32} {σ : wS} {Q : Int32 → wS → Prop} (h : w_X1_turn p0 p1 p2 p3 σ Q) : Mi l yX1_turn wvX1_turn 1 22 g A [.ref (g.2.2 p0), .ref (g.2.2 p1), .int p2, .int p3] σ Q := by
  refine mt_i (own := RX1) (lv := [(0, .ref (g.2.2 p0)), (1, .ref (g.2.2 p1)), (2, .int p2), (3, .int p3)]) (by decide) rfl rfl hA (Nat.le_of_ble_eq_true rfl) rfl ?_
  intro X hl hg hAA F hret
  subst hl hg hAA
  unfold w_X1_turn at h
  refine x_iload_n F dX1_turn_0 rfl 3 rfl ?_
  refine x_bipush (-9 : Int32) F dX1_turn_1 (by decide) ?_
  refine x_bipush (9 : Int32) F dX1_turn_3 (by decide) ?_
  refine x_callW F (c_X11_isWithin (xl X) (xg X) (xA X) F.2.2.1  h) (bw_own bw_26_7) rfl (mc bw_1_2) (mc bw_26_6) cd_X11_isWithin (Nat.le_of_ble_eq_true rfl) (Nat.le_of_ble_eq_true rfl) rfl rfl (Nat.le_of_ble_eq_true rfl) dX1_turn_5 (fun r2 s1 h => ?_)
  refine x_if_ne (tgt := 13) F dX1_turn_8 (by decide) (fun c => ?_) (fun c => ?_)
  · replace h := h.1 c
    refine x_aload_n F dX1_turn_13 rfl 1 rfl ?_
    refine g_3_0 F k_p1 in_3 (mc bw_33_14) dX1_turn_14 ?_
    refine x_iload_n F dX1_turn_17 rfl 2 rfl ?_
    refine x_dup2_11 F dX1_turn_18 rfl rfl ?_
    obtain ⟨hj, h⟩ := h
    refine x_iald F (ky_3_0 k_p1) (kn_3_0 k_p1) hj dX1_turn_19 ?_
    refine x_iload_n F dX1_turn_20 rfl 3 rfl ?_
    refine x_aload_n F dX1_turn_21 rfl 0 rfl ?_
    refine g_5_3 F k_p0 in_5 (mc bw_33_15) dX1_turn_22 ?_
    refine x_iload_n F dX1_turn_25 rfl 2 rfl ?_
    obtain ⟨hj, h⟩ := h
    refine x_iald F (ky_5_3 k_p0) (kn_5_3 k_p0) hj dX1_turn_26 ?_
    refine x_imul F dX1_turn_27 ?_
    refine x_iadd F dX1_turn_28 ?_
    obtain ⟨hz, h⟩ := h
    refine x_iast F (ky_3_0 k_p1) (kn_3_0 k_p1) hz dX1_turn_29 ?_
    refine x_nmS (fun s3 es3 => ?_)
    replace h := h s3 es3
    refine x_aload_n F dX1_turn_30 rfl 1 rfl ?_
    refine g_3_0 F k_p1 in_3 (mc bw_33_14) dX1_turn_31 ?_
    refine x_iload_n F dX1_turn_34 rfl 2 rfl ?_
    obtain ⟨hj, h⟩ := h
    refine x_iald F (ky_3_0 k_p1) (kn_3_0 k_p1) hj dX1_turn_35 ?_
    refine x_sipush (-999 : Int32) F dX1_turn_36 (by decide) ?_
    refine x_sipush (999 : Int32) F dX1_turn_39 (by decide) ?_
    refine x_callW F (c_X11_isWithin (xl X) (xg X) (xA X) F.2.2.1  h) (bw_own bw_26_7) rfl (mc bw_1_2) (mc bw_26_6) cd_X11_isWithin (Nat.le_of_ble_eq_true rfl) (Nat.le_of_ble_eq_true rfl) rfl rfl (Nat.le_of_ble_eq_true rfl) dX1_turn_42 (fun r5 s4 h => ?_)
    refine x_if_ne (tgt := 50) F dX1_turn_45 (by decide) (fun c => ?_) (fun c => ?_)
    · replace h := h.1 c
      refine x_iload_n F dX1_turn_50 rfl 3 rfl ?_
      refine x_if_eq (tgt := 62) F dX1_turn_51 (by decide) (fun c => ?_) (fun c => ?_)
      · replace h := h.1 c
        refine x_sub (lv' := []) [] rfl ?_
        exact wb_X1_turn_62 F hret k_p0 k_p1   _ h
      · replace h := h.2 c
        refine x_aload_n F dX1_turn_54 rfl 1 rfl ?_
        refine x_iload_n F dX1_turn_55 rfl 2 rfl ?_
        refine x_callV_i F (c_X3_isFast (xl X) (xg X) (xA X) F.2.2.1 k_p1 h) (bw_V bw_33_16 bw_27_12 bw_27_13 bw_2_8 bw_27_14) rfl cd_X3_isFast (Nat.le_of_ble_eq_true rfl) (Nat.le_of_ble_eq_true rfl) (kd_w (by decide) k_p1) rfl (cl_3 k_p1) rfl rfl (Nat.le_of_ble_eq_true rfl) dX1_turn_56 (fun r7 s6 h => ?_)
        refine x_if_ne (tgt := 66) F dX1_turn_59 (by decide) (fun c => ?_) (fun c => ?_)
        · replace h := h.1 c
          refine x_iconst (-1 : Int32) F dX1_turn_66 (by decide) ?_
          exact hret _ _ _ _ h rfl dX1_turn_67
        · replace h := h.2 c
          refine x_sub (lv' := []) [] rfl ?_
          exact wb_X1_turn_62 F hret k_p0 k_p1   _ h
    · replace h := h.2 c
      refine x_iconst (1 : Int32) F dX1_turn_48 (by decide) ?_
      exact hret _ _ _ _ h rfl dX1_turn_49
  · replace h := h.2 c
    refine x_iconst (1 : Int32) F dX1_turn_11 (by decide) ?_
    exact hret _ _ _ _ h rfl dX1_turn_12
/-! X1_castOff -/
abbrev wvX1_castOff : List Cond := Cond.code yX1_castOff cX1_castOff 2 (some .int) :: wsL_law
theorem cd_X1_castOff : okN yX1_castOff RX1 2 := by unfold okN; decide +kernel
def w_X1_castOff (p0 : Nat) (p1 : Int32) (σ : wS) (Q : Int32 → wS → Prop) : Prop := w_X3_isFast p0 p1 σ (fun r2 s1 => (¬ r2 = 0 → (∀ s3 : wS, s3 = upI s1 p0 2 ((s1.1 p0 2) &&& (((1 : Int32) <<< (p1 &&& 31)) ^^^ (-1 : Int32))) → (∀ s4 : wS, s4 = upI s3 p0 4 ((s3.1 p0 4) ||| ((1 : Int32) <<< (p1 &&& 31))) → (Q (-1 : Int32) s4)))) ∧ (r2 = 0 → (Q (2 : Int32) s1)))
set_option maxRecDepth 100000 in
set_option maxHeartbeats 4000000 in
theorem c_X1_castOff (l : Launch) (g : wG) (A : Nat → Prop) (hA : adO g A) {p0 : Nat} (k_p0 : kd p0 = 3) {p1 : Int32} {σ : wS} {Q : Int32 → wS → Prop} (h : w_X1_castOff p0 p1 σ Q) : Mi l yX1_castOff wvX1_castOff 1 21 g A [.ref (g.2.2 p0), .int p1] σ Q := by
  refine mt_i (own := RX1) (lv := [(0, .ref (g.2.2 p0)), (1, .int p1)]) (by decide) rfl rfl hA (Nat.le_of_ble_eq_true rfl) rfl ?_
  intro X hl hg hAA F hret
  subst hl hg hAA
  unfold w_X1_castOff at h
  refine x_aload_n F dX1_castOff_0 rfl 0 rfl ?_
  refine x_iload_n F dX1_castOff_1 rfl 1 rfl ?_
  refine x_callV_i F (c_X3_isFast (xl X) (xg X) (xA X) F.2.2.1 k_p0 h) (bw_V bw_33_16 bw_27_12 bw_27_13 bw_2_8 bw_27_14) rfl cd_X3_isFast (Nat.le_of_ble_eq_true rfl) (Nat.le_of_ble_eq_true rfl) (kd_w (by decide) k_p0) rfl (cl_3 k_p0) rfl rfl (Nat.le_of_ble_eq_true rfl) dX1_castOff_2 (fun r2 s1 h => ?_)
  refine x_if_ne (tgt := 10) F dX1_castOff_5 (by decide) (fun c => ?_) (fun c => ?_)
  · replace h := h.1 c
    refine x_aload_n F dX1_castOff_10 rfl 0 rfl ?_
    refine x_dup F dX1_castOff_11 rfl ?_
    refine g_3_2 F k_p0 in_3 (mc bw_19_15) dX1_castOff_12 ?_
    refine x_iconst (1 : Int32) F dX1_castOff_15 (by decide) ?_
    refine x_iload_n F dX1_castOff_16 rfl 1 rfl ?_
    refine x_ishl F dX1_castOff_17 ?_
    refine x_iconst (-1 : Int32) F dX1_castOff_18 (by decide) ?_
    refine x_ixor F dX1_castOff_19 ?_
    refine x_iand F dX1_castOff_20 ?_
    refine q_3_2 F k_p0 in_3 (mc bw_19_15) dX1_castOff_21 ?_
    refine x_nmS (fun s3 es3 => ?_)
    replace h := h s3 es3
    refine x_aload_n F dX1_castOff_24 rfl 0 rfl ?_
    refine x_dup F dX1_castOff_25 rfl ?_
    refine g_3_4 F k_p0 in_3 (mc bw_33_20) dX1_castOff_26 ?_
    refine x_iconst (1 : Int32) F dX1_castOff_29 (by decide) ?_
    refine x_iload_n F dX1_castOff_30 rfl 1 rfl ?_
    refine x_ishl F dX1_castOff_31 ?_
    refine x_ior F dX1_castOff_32 ?_
    refine q_3_4 F k_p0 in_3 (mc bw_33_20) dX1_castOff_33 ?_
    refine x_nmS (fun s4 es4 => ?_)
    replace h := h s4 es4
    refine x_iconst (-1 : Int32) F dX1_castOff_36 (by decide) ?_
    exact hret _ _ _ _ h rfl dX1_castOff_37
  · replace h := h.2 c
    refine x_iconst (2 : Int32) F dX1_castOff_8 (by decide) ?_
    exact hret _ _ _ _ h rfl dX1_castOff_9
/-! X5_itemOf -/
abbrev wvX5_itemOf : List Cond := Cond.code yX5_itemOf cX5_itemOf 3 (some .int) :: wsL_law
theorem cd_X5_itemOf : okN yX5_itemOf RX5 2 := by unfold okN; decide +kernel
def w_X5_itemOf (i0 : Nat) (p0 : Int32) (p1 : Int32) (σ : wS) (Q : Int32 → wS → Prop) : Prop := vp_in (((7 : Int32) * p0) + p1) 56 ∧ (Q (σ.1 (i0 + 2) ((((7 : Int32) * p0) + p1)).toNatClampNeg) σ)
set_option maxRecDepth 100000 in
set_option maxHeartbeats 4000000 in
theorem c_X5_itemOf (l : Launch) (g : wG) (A : Nat → Prop) (hA : adO g A) {i0 : Nat} (k_i0 : kd i0 = 5) {p0 : Int32} {p1 : Int32} {σ : wS} {Q : Int32 → wS → Prop} (h : w_X5_itemOf i0 p0 p1 σ Q) : Mi l yX5_itemOf wvX5_itemOf 0 0 g A [.ref (g.2.2 i0), .int p0, .int p1] σ Q := by
  refine mt_i (own := RX5) (lv := [(0, .ref (g.2.2 i0)), (1, .int p0), (2, .int p1)]) (by decide) rfl rfl hA (Nat.le_of_ble_eq_true rfl) rfl ?_
  intro X hl hg hAA F hret
  subst hl hg hAA
  unfold w_X5_itemOf at h
  refine x_aload_n F dX5_itemOf_0 rfl 0 rfl ?_
  refine g_5_1 F k_i0 in_5 (mc bw_4_9) dX5_itemOf_1 ?_
  refine x_bipush (7 : Int32) F dX5_itemOf_4 (by decide) ?_
  refine x_iload_n F dX5_itemOf_6 rfl 1 rfl ?_
  refine x_imul F dX5_itemOf_7 ?_
  refine x_iload_n F dX5_itemOf_8 rfl 2 rfl ?_
  refine x_iadd F dX5_itemOf_9 ?_
  obtain ⟨hj, h⟩ := h
  refine x_iald F (ky_5_1 k_i0) (kn_5_1 k_i0) hj dX5_itemOf_10 ?_
  exact hret _ _ _ _ h rfl dX5_itemOf_11
/-! X1_takeAgain -/
abbrev wvX1_takeAgain : List Cond := Cond.code yX1_takeAgain cX1_takeAgain 3 (some .int) :: wsL_law
theorem cd_X1_takeAgain : okN yX1_takeAgain RX1 3 := by unfold okN; decide +kernel
def w_X1_takeAgain (p0 : Nat) (p1 : Nat) (p2 : Int32) (σ : wS) (Q : Int32 → wS → Prop) : Prop := w_X3_isFast p1 p2 σ (fun r2 s1 => (r2 = 0 → (∀ s3 : wS, s3 = upI s1 p1 3 ((s1.1 p1 3) &&& (((1 : Int32) <<< (p2 &&& 31)) ^^^ (-1 : Int32))) → (∀ s4 : wS, s4 = upI s3 p1 4 ((s3.1 p1 4) &&& (((1 : Int32) <<< (p2 &&& 31)) ^^^ (-1 : Int32))) → (∀ s5 : wS, s5 = upI s4 p1 2 ((s4.1 p1 2) ||| ((1 : Int32) <<< (p2 &&& 31))) → (w_X5_itemOf p0 p2 (5 : Int32) s5 (fun r7 s6 => vp_in p2 8 ∧ (∀ s8 : wS, s8 = upI s6 (p1 + 1) (p2).toNatClampNeg r7 → (Q (-1 : Int32) s8)))))))) ∧ (¬ r2 = 0 → (Q (2 : Int32) s1)))
set_option maxRecDepth 100000 in
set_option maxHeartbeats 4000000 in
theorem c_X1_takeAgain (l : Launch) (g : wG) (A : Nat → Prop) (hA : adO g A) {p0 : Nat} {p1 : Nat} (k_p0 : kd p0 = 5) (k_p1 : kd p1 = 3) {p2 : Int32} {σ : wS} {Q : Int32 → wS → Prop} (h : w_X1_takeAgain p0 p1 p2 σ Q) : Mi l yX1_takeAgain wvX1_takeAgain 1 22 g A [.ref (g.2.2 p0), .ref (g.2.2 p1), .int p2] σ Q := by
  refine mt_i (own := RX1) (lv := [(0, .ref (g.2.2 p0)), (1, .ref (g.2.2 p1)), (2, .int p2)]) (by decide) rfl rfl hA (Nat.le_of_ble_eq_true rfl) rfl ?_
  intro X hl hg hAA F hret
  subst hl hg hAA
  unfold w_X1_takeAgain at h
  refine x_aload_n F dX1_takeAgain_0 rfl 1 rfl ?_
  refine x_iload_n F dX1_takeAgain_1 rfl 2 rfl ?_
  refine x_callV_i F (c_X3_isFast (xl X) (xg X) (xA X) F.2.2.1 k_p1 h) (bw_V bw_33_16 bw_27_12 bw_27_13 bw_2_8 bw_27_14) rfl cd_X3_isFast (Nat.le_of_ble_eq_true rfl) (Nat.le_of_ble_eq_true rfl) (kd_w (by decide) k_p1) rfl (cl_3 k_p1) rfl rfl (Nat.le_of_ble_eq_true rfl) dX1_takeAgain_2 (fun r2 s1 h => ?_)
  refine x_if_eq (tgt := 10) F dX1_takeAgain_5 (by decide) (fun c => ?_) (fun c => ?_)
  · replace h := h.1 c
    refine x_aload_n F dX1_takeAgain_10 rfl 1 rfl ?_
    refine x_dup F dX1_takeAgain_11 rfl ?_
    refine g_3_3 F k_p1 in_3 (mc bw_21_19) dX1_takeAgain_12 ?_
    refine x_iconst (1 : Int32) F dX1_takeAgain_15 (by decide) ?_
    refine x_iload_n F dX1_takeAgain_16 rfl 2 rfl ?_
    refine x_ishl F dX1_takeAgain_17 ?_
    refine x_iconst (-1 : Int32) F dX1_takeAgain_18 (by decide) ?_
    refine x_ixor F dX1_takeAgain_19 ?_
    refine x_iand F dX1_takeAgain_20 ?_
    refine q_3_3 F k_p1 in_3 (mc bw_21_19) dX1_takeAgain_21 ?_
    refine x_nmS (fun s3 es3 => ?_)
    replace h := h s3 es3
    refine x_aload_n F dX1_takeAgain_24 rfl 1 rfl ?_
    refine x_dup F dX1_takeAgain_25 rfl ?_
    refine g_3_4 F k_p1 in_3 (mc bw_33_20) dX1_takeAgain_26 ?_
    refine x_iconst (1 : Int32) F dX1_takeAgain_29 (by decide) ?_
    refine x_iload_n F dX1_takeAgain_30 rfl 2 rfl ?_
    refine x_ishl F dX1_takeAgain_31 ?_
    refine x_iconst (-1 : Int32) F dX1_takeAgain_32 (by decide) ?_
    refine x_ixor F dX1_takeAgain_33 ?_
    refine x_iand F dX1_takeAgain_34 ?_
    refine q_3_4 F k_p1 in_3 (mc bw_33_20) dX1_takeAgain_35 ?_
    refine x_nmS (fun s4 es4 => ?_)
    replace h := h s4 es4
    refine x_aload_n F dX1_takeAgain_38 rfl 1 rfl ?_
    refine x_dup F dX1_takeAgain_39 rfl ?_
    refine g_3_2 F k_p1 in_3 (mc bw_19_15) dX1_takeAgain_40 ?_
    refine x_iconst (1 : Int32) F dX1_takeAgain_43 (by decide) ?_
    refine x_iload_n F dX1_takeAgain_44 rfl 2 rfl ?_
    refine x_ishl F dX1_takeAgain_45 ?_
    refine x_ior F dX1_takeAgain_46 ?_
    refine q_3_2 F k_p1 in_3 (mc bw_19_15) dX1_takeAgain_47 ?_
    refine x_nmS (fun s5 es5 => ?_)
    replace h := h s5 es5
    refine x_aload_n F dX1_takeAgain_50 rfl 1 rfl ?_
    refine g_3_0 F k_p1 in_3 (mc bw_33_14) dX1_takeAgain_51 ?_
    refine x_iload_n F dX1_takeAgain_54 rfl 2 rfl ?_
    refine x_aload_n F dX1_takeAgain_55 rfl 0 rfl ?_
    refine x_iload_n F dX1_takeAgain_56 rfl 2 rfl ?_
    refine x_iconst (5 : Int32) F dX1_takeAgain_57 (by decide) ?_
    refine x_callV_i F (c_X5_itemOf (xl X) (xg X) (xA X) F.2.2.1 k_p0 h) (bw_V bw_34_0 bw_11_23 bw_12_0 bw_2_0 bw_12_1) rfl cd_X5_itemOf (Nat.le_of_ble_eq_true rfl) (Nat.le_of_ble_eq_true rfl) (kd_w (by decide) k_p0) rfl (cl_5 k_p0) rfl rfl (Nat.le_of_ble_eq_true rfl) dX1_takeAgain_58 (fun r7 s6 h => ?_)
    obtain ⟨hz, h⟩ := h
    refine x_iast F (ky_3_0 k_p1) (kn_3_0 k_p1) hz dX1_takeAgain_61 ?_
    refine x_nmS (fun s8 es8 => ?_)
    replace h := h s8 es8
    refine x_iconst (-1 : Int32) F dX1_takeAgain_62 (by decide) ?_
    exact hret _ _ _ _ h rfl dX1_takeAgain_63
  · replace h := h.2 c
    refine x_iconst (2 : Int32) F dX1_takeAgain_8 (by decide) ?_
    exact hret _ _ _ _ h rfl dX1_takeAgain_9
