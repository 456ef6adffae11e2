/-! X12_key -/
abbrev wvX12_key : List Cond := Cond.code yX12_key cX12_key 5 (some .int) :: wsL_law
theorem cd_X12_key : okN yX12_key RX12 0 := by unfold okN; decide +kernel
def b_X12_key_103  (K20 : Int32 → Int32 → Int32 → wS → Prop) (Q : Int32 → wS → Prop) (x1 : Int32) (x2 : Int32) (x3 : Int32) (σ : wS) : Prop := ∀ y1 : Int32, y1 = (x3 + (1 : Int32)) → (K20 x1 x2 y1 σ)
set_option maxRecDepth 100000 in
set_option maxHeartbeats 4000000 in
theorem wb_X12_key_103 {X : XT} {Q : Int32 → wS → Prop}  (F : Fx X cX12_key 5 RX12 wvX12_key 6 151) (hret : Ri X 5 cX12_key .int Q)  {K20 : Int32 → Int32 → Int32 → wS → Prop} (hK20 : ∀ (x1 : Int32) (x2 : Int32) (x3 : Int32) (σ : wS), K20 x1 x2 x3 σ → Wx X 5 σ 20 [(0, .ref (ad X 176)), (1, .int x1), (2, .int x2), (3, .int x3)] []) (x1 : Int32) (x2 : Int32) (x3 : Int32) (σ : wS) (h : b_X12_key_103  K20 Q x1 x2 x3 σ) : Wx X 5 σ 103 [(0, .ref (ad X 176)), (1, .int x1), (2, .int x2), (3, .int x3)] [] := by
  unfold b_X12_key_103 at h
  obtain ⟨y1, ey1⟩ : ∃ y : Int32, y = (x3 + (1 : Int32)) := ⟨_, rfl⟩
  replace h := h y1 ey1
  refine x_iinc (q := 3) (v := y1) (lv' := [(3, .int y1), (0, .ref (ad X 176)), (1, .int x1), (2, .int x2)]) F dX12_key_103 rfl (by rw [ey1]; rfl) (by decide) rfl ?_
  refine x_goto (tgt := 20) F dX12_key_106 (by decide) ?_
  refine x_sub (lv' := [(0, .ref (ad X 176)), (1, .int x1), (2, .int x2), (3, .int y1)]) [1, 2, 3, 0] rfl ?_
  exact hK20 _ _ _ _ h
def b_X12_key_98  (K20 : Int32 → Int32 → Int32 → wS → Prop) (Q : Int32 → wS → Prop) (x3 : Int32) (x4 : Int32) (σ : wS) : Prop := b_X12_key_103  K20 Q x3 x4 x3 σ
set_option maxRecDepth 100000 in
set_option maxHeartbeats 4000000 in
theorem wb_X12_key_98 {X : XT} {Q : Int32 → wS → Prop}  (F : Fx X cX12_key 5 RX12 wvX12_key 6 151) (hret : Ri X 5 cX12_key .int Q)  {K20 : Int32 → Int32 → Int32 → wS → Prop} (hK20 : ∀ (x1 : Int32) (x2 : Int32) (x3 : Int32) (σ : wS), K20 x1 x2 x3 σ → Wx X 5 σ 20 [(0, .ref (ad X 176)), (1, .int x1), (2, .int x2), (3, .int x3)] []) (x3 : Int32) (x4 : Int32) (σ : wS) (h : b_X12_key_98  K20 Q x3 x4 σ) : Wx X 5 σ 98 [(0, .ref (ad X 176)), (3, .int x3), (4, .int x4)] [] := by
  unfold b_X12_key_98 at h
  refine x_iload_n F dX12_key_98 rfl 1 rfl ?_
  refine x_istore_n (lv' := [(1, .int x3), (0, .ref (ad X 176)), (3, .int x3), (4, .int x4)]) F dX12_key_99 rfl (by decide) rfl ?_
  refine x_iload F dX12_key_100 3 rfl ?_
  refine x_istore_n (lv' := [(2, .int x4), (1, .int x3), (0, .ref (ad X 176)), (3, .int x3), (4, .int x4)]) F dX12_key_102 rfl (by decide) rfl ?_
  refine x_sub (lv' := [(0, .ref (ad X 176)), (1, .int x3), (2, .int x4), (3, .int x3)]) [2, 1, 0, 3] rfl ?_
  exact wb_X12_key_103 F hret  hK20 _ _ _ _ h
def b_X12_key_82  (K20 : Int32 → Int32 → Int32 → wS → Prop) (Q : Int32 → wS → Prop) (x1 : Int32) (x2 : Int32) (x3 : Int32) (z0 : Int32) (σ : wS) : Prop := (x1 = (-1 : Int32) → (b_X12_key_98  K20 Q x3 z0 σ)) ∧ (¬ x1 = (-1 : Int32) → ((x2 < z0 → (b_X12_key_98  K20 Q x3 z0 σ)) ∧ (¬ x2 < z0 → (b_X12_key_103  K20 Q x1 x2 x3 σ))))
set_option maxRecDepth 100000 in
set_option maxHeartbeats 4000000 in
theorem wb_X12_key_82 {X : XT} {Q : Int32 → wS → Prop}  (F : Fx X cX12_key 5 RX12 wvX12_key 6 151) (hret : Ri X 5 cX12_key .int Q)  {K20 : Int32 → Int32 → Int32 → wS → Prop} (hK20 : ∀ (x1 : Int32) (x2 : Int32) (x3 : Int32) (σ : wS), K20 x1 x2 x3 σ → Wx X 5 σ 20 [(0, .ref (ad X 176)), (1, .int x1), (2, .int x2), (3, .int x3)] []) (x1 : Int32) (x2 : Int32) (x3 : Int32) (z0 : Int32) (σ : wS) (h : b_X12_key_82  K20 Q x1 x2 x3 z0 σ) : Wx X 5 σ 82 [(0, .ref (ad X 176)), (1, .int x1), (2, .int x2), (3, .int x3)] [.int z0] := by
  unfold b_X12_key_82 at h
  refine x_istore (lv' := [(4, .int z0), (0, .ref (ad X 176)), (1, .int x1), (2, .int x2), (3, .int x3)]) F dX12_key_82 (by decide) rfl ?_
  refine x_iload_n F dX12_key_84 rfl 2 rfl ?_
  refine x_iconst (-1 : Int32) F dX12_key_85 (by decide) ?_
  refine x_icmp_eq (tgt := 98) F dX12_key_86 (by decide) (fun c => ?_) (fun c => ?_)
  · replace h := h.1 c
    refine x_sub (lv' := [(0, .ref (ad X 176)), (3, .int x3), (4, .int z0)]) [1, 4, 0] rfl ?_
    exact wb_X12_key_98 F hret  hK20 _ _ _ h
  · replace h := h.2 c
    refine x_iload F dX12_key_89 0 rfl ?_
    refine x_iload_n F dX12_key_91 rfl 3 rfl ?_
    refine x_icmp_gt (tgt := 98) F dX12_key_92 (by decide) (fun c => ?_) (fun c => ?_)
    · replace h := h.1 c
      refine x_sub (lv' := [(0, .ref (ad X 176)), (3, .int x3), (4, .int z0)]) [1, 4, 0] rfl ?_
      exact wb_X12_key_98 F hret  hK20 _ _ _ h
    · replace h := h.2 c
      refine x_goto (tgt := 103) F dX12_key_95 (by decide) ?_
      refine x_sub (lv' := [(0, .ref (ad X 176)), (1, .int x1), (2, .int x2), (3, .int x3)]) [1, 2, 3, 4] rfl ?_
      exact wb_X12_key_103 F hret  hK20 _ _ _ _ h
def l_X12_key_20   (Q : Int32 → wS → Prop) : Nat → Int32 → Int32 → Int32 → wS → Prop
  | 0, _, _, _, _ => False
  | n + 1, x1, x2, x3, σ => ((σ.1 176 14) ≤ x3 → (Q x1 σ)) ∧ (¬ (σ.1 176 14) ≤ x3 → (vp_in ((8 : Int32) + x3) 202 ∧ (((σ.1 188 (((8 : Int32) + x3)).toNatClampNeg) < (2 : Int32) → (w_X12_copyRow 188 189 (0 : Int32) (0 : Int32) σ (fun s1 => w_X12_does 189 (2 : Int32) x3 (0 : Int32) (0 : Int32) s1 (fun r4 s3 => (r4 = (-1 : Int32) → (b_X12_key_82  (fun x1 x2 x3 σ => l_X12_key_20   Q n x1 x2 x3 σ) Q x1 x2 x3 (s3.1 176 32) s3)) ∧ (¬ r4 = (-1 : Int32) → (b_X12_key_82  (fun x1 x2 x3 σ => l_X12_key_20   Q n x1 x2 x3 σ) Q x1 x2 x3 (9 : Int32) s3)))))) ∧ (¬ (σ.1 188 (((8 : Int32) + x3)).toNatClampNeg) < (2 : Int32) → (b_X12_key_103  (fun x1 x2 x3 σ => l_X12_key_20   Q n x1 x2 x3 σ) Q x1 x2 x3 σ)))))
set_option maxRecDepth 100000 in
set_option maxHeartbeats 4000000 in
theorem wl_X12_key_20 {X : XT} {Q : Int32 → wS → Prop}  (F : Fx X cX12_key 5 RX12 wvX12_key 6 151) (hret : Ri X 5 cX12_key .int Q)    : ∀ (n : Nat) (x1 : Int32) (x2 : Int32) (x3 : Int32) (σ : wS), l_X12_key_20   Q n x1 x2 x3 σ → Wx X 5 σ 20 [(0, .ref (ad X 176)), (1, .int x1), (2, .int x2), (3, .int x3)] [] := by
  intro n
  induction n with
  | zero =>
    intros
    contradiction
  | succ n ih =>
    intro x1 x2 x3 σ h
    simp only [l_X12_key_20] at h
    refine x_iload_n F dX12_key_20 rfl 3 rfl ?_
    refine x_aload_n F dX12_key_21 rfl 0 rfl ?_
    refine g_12_14 F kz_176 in_12 (mc bw_22_18) dX12_key_22 ?_
    refine x_icmp_ge (tgt := 109) F dX12_key_25 (by decide) (fun c => ?_) (fun c => ?_)
    · replace h := h.1 c
      refine x_iload_n F dX12_key_109 rfl 1 rfl ?_
      exact hret _ _ _ _ h rfl dX12_key_110
    · replace h := h.2 c
      refine x_aload_n F dX12_key_28 rfl 0 rfl ?_
      refine g_12_19 F kz_176 in_12 (mc bw_7_18) dX12_key_29 ?_
      refine x_bipush (8 : Int32) F dX12_key_32 (by decide) ?_
      refine x_iload_n F dX12_key_34 rfl 3 rfl ?_
      refine x_iadd F dX12_key_35 ?_
      obtain ⟨hj, h⟩ := h
      refine x_iald F kz_188 nz_188 hj dX12_key_36 ?_
      refine x_iconst (2 : Int32) F dX12_key_37 (by decide) ?_
      refine x_icmp_lt (tgt := 44) F dX12_key_38 (by decide) (fun c => ?_) (fun c => ?_)
      · replace h := h.1 c
        refine x_aload_n F dX12_key_44 rfl 0 rfl ?_
        refine g_12_19 F kz_176 in_12 (mc bw_7_18) dX12_key_45 ?_
        refine x_iconst (0 : Int32) F dX12_key_48 (by decide) ?_
        refine x_aload_n F dX12_key_49 rfl 0 rfl ?_
        refine g_12_20 F kz_176 in_12 (mc bw_7_19) dX12_key_50 ?_
        refine x_iconst (0 : Int32) F dX12_key_53 (by decide) ?_
        refine x_callT_v F (c_X12_copyRow (xl X) (xg X) (xA X) F.2.2.1 kz_188 kz_189 h) (bw_S bw_25_14 bw_25_15 bw_1_5 bw_25_16) rfl cd_X12_copyRow (Nat.le_of_ble_eq_true rfl) (Nat.le_of_ble_eq_true rfl) rfl rfl (Nat.le_of_ble_eq_true rfl) dX12_key_54 (fun s1 h => ?_)
        refine x_aload_n F dX12_key_57 rfl 0 rfl ?_
        refine x_aload_n F dX12_key_58 rfl 0 rfl ?_
        refine g_12_20 F kz_176 in_12 (mc bw_7_19) dX12_key_59 ?_
        refine x_iconst (2 : Int32) F dX12_key_62 (by decide) ?_
        refine x_iload_n F dX12_key_63 rfl 3 rfl ?_
        refine x_iconst (0 : Int32) F dX12_key_64 (by decide) ?_
        refine x_iconst (0 : Int32) F dX12_key_65 (by decide) ?_
        refine x_callV_i F (c_X12_does (xl X) (xg X) (xA X) F.2.2.1 kz_189 h) (bw_V bw_36_2 bw_36_3 bw_36_4 bw_1_5 bw_36_5) rfl cd_X12_does (Nat.le_of_ble_eq_true rfl) (Nat.le_of_ble_eq_true rfl) (kd_w (by decide) kz_176) rfl (cl_12 kz_176) rfl rfl (Nat.le_of_ble_eq_true rfl) dX12_key_66 (fun r4 s3 h => ?_)
        refine x_iconst (-1 : Int32) F dX12_key_69 (by decide) ?_
        refine x_icmp_eq (tgt := 78) F dX12_key_70 (by decide) (fun c => ?_) (fun c => ?_)
        · replace h := h.1 c
          refine x_aload_n F dX12_key_78 rfl 0 rfl ?_
          refine g_12_32 F kz_176 in_12 (mc bw_23_9) dX12_key_79 ?_
          refine x_sub (lv' := [(0, .ref (ad X 176)), (1, .int x1), (2, .int x2), (3, .int x3)]) [0, 1, 2, 3] rfl ?_
          exact wb_X12_key_82 F hret  ih _ _ _ _ _ h
        · replace h := h.2 c
          refine x_bipush (9 : Int32) F dX12_key_73 (by decide) ?_
          refine x_goto (tgt := 82) F dX12_key_75 (by decide) ?_
          refine x_sub (lv' := [(0, .ref (ad X 176)), (1, .int x1), (2, .int x2), (3, .int x3)]) [0, 1, 2, 3] rfl ?_
          exact wb_X12_key_82 F hret  ih _ _ _ _ _ h
      · replace h := h.2 c
        refine x_goto (tgt := 103) F dX12_key_41 (by decide) ?_
        refine x_sub (lv' := [(0, .ref (ad X 176)), (1, .int x1), (2, .int x2), (3, .int x3)]) [0, 1, 2, 3] rfl ?_
        exact wb_X12_key_103 F hret  ih _ _ _ _ h
def w_X12_key   (σ : wS) (Q : Int32 → wS → Prop) : Prop := ∀ s1 : wS, s1 = upI σ 176 0 (0 : Int32) → ((¬ (s1.1 176 14) = 0 → ((∃ m, l_X12_key_20   Q m (-1 : Int32) (0 : Int32) (0 : Int32) s1))) ∧ ((s1.1 176 14) = 0 → (Q (-1 : Int32) s1)))
set_option maxRecDepth 100000 in
set_option maxHeartbeats 4000000 in
theorem c_X12_key (l : Launch) (g : wG) (A : Nat → Prop) (hA : adO g A)    {σ : wS} {Q : Int32 → wS → Prop} (h : w_X12_key   σ Q) : Mi l yX12_key wvX12_key 6 151 g A [.ref (g.2.2 176)] σ Q := by
  refine mt_i (own := RX12) (lv := [(0, .ref (g.2.2 176))]) (by decide) rfl rfl hA (Nat.le_of_ble_eq_true rfl) rfl ?_
  intro X hl hg hAA F hret
  subst hl hg hAA
  unfold w_X12_key at h
  refine x_aload_n F dX12_key_0 rfl 0 rfl ?_
  refine x_iconst (0 : Int32) F dX12_key_1 (by decide) ?_
  refine q_12_0 F kz_176 in_12 (mc bw_8_21) dX12_key_2 ?_
  refine x_nmS (fun s1 es1 => ?_)
  replace h := h s1 es1
  refine x_aload_n F dX12_key_5 rfl 0 rfl ?_
  refine g_12_14 F kz_176 in_12 (mc bw_22_18) dX12_key_6 ?_
  refine x_if_ne (tgt := 14) F dX12_key_9 (by decide) (fun c => ?_) (fun c => ?_)
  · replace h := h.1 c
    refine x_iconst (-1 : Int32) F dX12_key_14 (by decide) ?_
    refine x_istore_n (lv' := [(1, .int (-1 : Int32)), (0, .ref (ad X 176))]) F dX12_key_15 rfl (by decide) rfl ?_
    refine x_iconst (0 : Int32) F dX12_key_16 (by decide) ?_
    refine x_istore_n (lv' := [(2, .int (0 : Int32)), (1, .int (-1 : Int32)), (0, .ref (ad X 176))]) F dX12_key_17 rfl (by decide) rfl ?_
    refine x_iconst (0 : Int32) F dX12_key_18 (by decide) ?_
    refine x_istore_n (lv' := [(3, .int (0 : Int32)), (2, .int (0 : Int32)), (1, .int (-1 : Int32)), (0, .ref (ad X 176))]) F dX12_key_19 rfl (by decide) rfl ?_
    refine x_sub (lv' := [(0, .ref (ad X 176)), (1, .int (-1 : Int32)), (2, .int (0 : Int32)), (3, .int (0 : Int32))]) [3, 2, 1, 0] rfl ?_
    obtain ⟨n2, h⟩ := h
    exact wl_X12_key_20 F hret   n2 _ _ _ _ h
  · replace h := h.2 c
    refine x_iconst (-1 : Int32) F dX12_key_12 (by decide) ?_
    exact hret _ _ _ _ h rfl dX12_key_13
/-! X12_pulled -/
abbrev wvX12_pulled : List Cond := Cond.code yX12_pulled cX12_pulled 4 (some .int) :: wsL_law
theorem cd_X12_pulled : okN yX12_pulled RX12 1 := by unfold okN; decide +kernel
def b_X12_pulled_93  (K12 : Int32 → Int32 → Int32 → wS → Prop) (Q : Int32 → wS → Prop) (x1 : Int32) (x2 : Int32) (x3 : Int32) (σ : wS) : Prop := ∀ y1 : Int32, y1 = (x3 + (1 : Int32)) → (K12 x1 x2 y1 σ)
set_option maxRecDepth 100000 in
set_option maxHeartbeats 4000000 in
theorem wb_X12_pulled_93 {X : XT} {Q : Int32 → wS → Prop}  (F : Fx X cX12_pulled 4 RX12 wvX12_pulled 5 119) (hret : Ri X 4 cX12_pulled .int Q)  {K12 : Int32 → Int32 → Int32 → wS → Prop} (hK12 : ∀ (x1 : Int32) (x2 : Int32) (x3 : Int32) (σ : wS), K12 x1 x2 x3 σ → Wx X 4 σ 12 [(0, .ref (ad X 176)), (1, .int x1), (2, .int x2), (3, .int x3)] []) (x1 : Int32) (x2 : Int32) (x3 : Int32) (σ : wS) (h : b_X12_pulled_93  K12 Q x1 x2 x3 σ) : Wx X 4 σ 93 [(0, .ref (ad X 176)), (1, .int x1), (2, .int x2), (3, .int x3)] [] := by
  unfold b_X12_pulled_93 at h
  obtain ⟨y1, ey1⟩ : ∃ y : Int32, y = (x3 + (1 : Int32)) := ⟨_, rfl⟩
  replace h := h y1 ey1
  refine x_iinc (q := 3) (v := y1) (lv' := [(3, .int y1), (0, .ref (ad X 176)), (1, .int x1), (2, .int x2)]) F dX12_pulled_93 rfl (by rw [ey1]; rfl) (by decide) rfl ?_
  refine x_goto (tgt := 12) F dX12_pulled_96 (by decide) ?_
  refine x_sub (lv' := [(0, .ref (ad X 176)), (1, .int x1), (2, .int x2), (3, .int y1)]) [1, 2, 3, 0] rfl ?_
  exact hK12 _ _ _ _ h
def b_X12_pulled_91  (K12 : Int32 → Int32 → Int32 → wS → Prop) (Q : Int32 → wS → Prop) (x1 : Int32) (x3 : Int32) (σ : wS) : Prop := b_X12_pulled_93  K12 Q x1 x3 x3 σ
set_option maxRecDepth 100000 in
set_option maxHeartbeats 4000000 in
theorem wb_X12_pulled_91 {X : XT} {Q : Int32 → wS → Prop}  (F : Fx X cX12_pulled 4 RX12 wvX12_pulled 5 119) (hret : Ri X 4 cX12_pulled .int Q)  {K12 : Int32 → Int32 → Int32 → wS → Prop} (hK12 : ∀ (x1 : Int32) (x2 : Int32) (x3 : Int32) (σ : wS), K12 x1 x2 x3 σ → Wx X 4 σ 12 [(0, .ref (ad X 176)), (1, .int x1), (2, .int x2), (3, .int x3)] []) (x1 : Int32) (x3 : Int32) (σ : wS) (h : b_X12_pulled_91  K12 Q x1 x3 σ) : Wx X 4 σ 91 [(0, .ref (ad X 176)), (1, .int x1), (3, .int x3)] [] := by
  unfold b_X12_pulled_91 at h
  refine x_iload_n F dX12_pulled_91 rfl 2 rfl ?_
  refine x_istore_n (lv' := [(2, .int x3), (0, .ref (ad X 176)), (1, .int x1), (3, .int x3)]) F dX12_pulled_92 rfl (by decide) rfl ?_
  refine x_sub (lv' := [(0, .ref (ad X 176)), (1, .int x1), (2, .int x3), (3, .int x3)]) [1, 2, 0, 3] rfl ?_
  exact wb_X12_pulled_93 F hret  hK12 _ _ _ _ h
def l_X12_pulled_12   (Q : Int32 → wS → Prop) : Nat → Int32 → Int32 → Int32 → wS → Prop
  | 0, _, _, _, _ => False
  | n + 1, x1, x2, x3, σ => ((σ.1 176 14) ≤ x3 → (Q x2 σ)) ∧ (¬ (σ.1 176 14) ≤ x3 → (vp_in ((8 : Int32) + x3) 202 ∧ (((σ.1 188 (((8 : Int32) + x3)).toNatClampNeg) = 0 → ((x2 = (-1 : Int32) → (b_X12_pulled_91  (fun x1 x2 x3 σ => l_X12_pulled_12   Q n x1 x2 x3 σ) Q x1 x3 σ)) ∧ (¬ x2 = (-1 : Int32) → ((x1 = 0 → (w_X12_pullOf 188 x3 σ (fun r2 s1 => w_X12_pullOf 188 x2 s1 (fun r4 s3 => (0 ≤ (lg_cmp r2 r4) → (b_X12_pulled_93  (fun x1 x2 x3 σ => l_X12_pulled_12   Q n x1 x2 x3 σ) Q x1 x2 x3 s3)) ∧ (¬ 0 ≤ (lg_cmp r2 r4) → (b_X12_pulled_91  (fun x1 x2 x3 σ => l_X12_pulled_12   Q n x1 x2 x3 σ) Q x1 x3 s3)))))) ∧ (¬ x1 = 0 → (w_X12_pullOf 188 x3 σ (fun r6 s5 => w_X12_pullOf 188 x2 s5 (fun r8 s7 => ((lg_cmp r6 r8) ≤ 0 → (b_X12_pulled_93  (fun x1 x2 x3 σ => l_X12_pulled_12   Q n x1 x2 x3 σ) Q x1 x2 x3 s7)) ∧ (¬ (lg_cmp r6 r8) ≤ 0 → (b_X12_pulled_91  (fun x1 x2 x3 σ => l_X12_pulled_12   Q n x1 x2 x3 σ) Q x1 x3 s7)))))))))) ∧ (¬ (σ.1 188 (((8 : Int32) + x3)).toNatClampNeg) = 0 → (b_X12_pulled_93  (fun x1 x2 x3 σ => l_X12_pulled_12   Q n x1 x2 x3 σ) Q x1 x2 x3 σ)))))
set_option maxRecDepth 100000 in
set_option maxHeartbeats 4000000 in
theorem wl_X12_pulled_12 {X : XT} {Q : Int32 → wS → Prop}  (F : Fx X cX12_pulled 4 RX12 wvX12_pulled 5 119) (hret : Ri X 4 cX12_pulled .int Q)    : ∀ (n : Nat) (x1 : Int32) (x2 : Int32) (x3 : Int32) (σ : wS), l_X12_pulled_12   Q n x1 x2 x3 σ → Wx X 4 σ 12 [(0, .ref (ad X 176)), (1, .int x1), (2, .int x2), (3, .int x3)] [] := by
  intro n
  induction n with
  | zero =>
    intros
    contradiction
  | succ n ih =>
    intro x1 x2 x3 σ h
    simp only [l_X12_pulled_12] at h
    refine x_iload_n F dX12_pulled_12 rfl 3 rfl ?_
    refine x_aload_n F dX12_pulled_13 rfl 0 rfl ?_
    refine g_12_14 F kz_176 in_12 (mc bw_22_18) dX12_pulled_14 ?_
    refine x_icmp_ge (tgt := 99) F dX12_pulled_17 (by decide) (fun c => ?_) (fun c => ?_)
    · replace h := h.1 c
      refine x_iload_n F dX12_pulled_99 rfl 2 rfl ?_
      exact hret _ _ _ _ h rfl dX12_pulled_100
    · replace h := h.2 c
      refine x_aload_n F dX12_pulled_20 rfl 0 rfl ?_
      refine g_12_19 F kz_176 in_12 (mc bw_7_18) dX12_pulled_21 ?_
      refine x_bipush (8 : Int32) F dX12_pulled_24 (by decide) ?_
      refine x_iload_n F dX12_pulled_26 rfl 3 rfl ?_
      refine x_iadd F dX12_pulled_27 ?_
      obtain ⟨hj, h⟩ := h
      refine x_iald F kz_188 nz_188 hj dX12_pulled_28 ?_
      refine x_if_eq (tgt := 35) F dX12_pulled_29 (by decide) (fun c => ?_) (fun c => ?_)
      · replace h := h.1 c
        refine x_iload_n F dX12_pulled_35 rfl 2 rfl ?_
        refine x_iconst (-1 : Int32) F dX12_pulled_36 (by decide) ?_
        refine x_icmp_eq (tgt := 91) F dX12_pulled_37 (by decide) (fun c => ?_) (fun c => ?_)
        · replace h := h.1 c
          refine x_sub (lv' := [(0, .ref (ad X 176)), (1, .int x1), (3, .int x3)]) [0, 1, 3] rfl ?_
          exact wb_X12_pulled_91 F hret  ih _ _ _ h
        · replace h := h.2 c
          refine x_iload_n F dX12_pulled_40 rfl 1 rfl ?_
          refine x_if_eq (tgt := 69) F dX12_pulled_41 (by decide) (fun c => ?_) (fun c => ?_)
          · replace h := h.1 c
            refine x_aload_n F dX12_pulled_69 rfl 0 rfl ?_
            refine x_aload_n F dX12_pulled_70 rfl 0 rfl ?_
            refine g_12_19 F kz_176 in_12 (mc bw_7_18) dX12_pulled_71 ?_
            refine x_iload_n F dX12_pulled_74 rfl 3 rfl ?_
            refine x_callV_l F (c_X12_pullOf (xl X) (xg X) (xA X) F.2.2.1 kz_188 h) (bw_V bw_24_22 bw_24_23 bw_25_0 bw_1_5 bw_25_1) rfl cd_X12_pullOf (Nat.le_of_ble_eq_true rfl) (Nat.le_of_ble_eq_true rfl) (kd_w (by decide) kz_176) rfl (cl_12 kz_176) rfl rfl (Nat.le_of_ble_eq_true rfl) dX12_pulled_75 (fun r2 s1 h => ?_)
            refine x_aload_n F dX12_pulled_78 rfl 0 rfl ?_
            refine x_aload_n F dX12_pulled_79 rfl 0 rfl ?_
            refine g_12_19 F kz_176 in_12 (mc bw_7_18) dX12_pulled_80 ?_
            refine x_iload_n F dX12_pulled_83 rfl 2 rfl ?_
            refine x_callV_l F (c_X12_pullOf (xl X) (xg X) (xA X) F.2.2.1 kz_188 h) (bw_V bw_24_22 bw_24_23 bw_25_0 bw_1_5 bw_25_1) rfl cd_X12_pullOf (Nat.le_of_ble_eq_true rfl) (Nat.le_of_ble_eq_true rfl) (kd_w (by decide) kz_176) rfl (cl_12 kz_176) rfl rfl (Nat.le_of_ble_eq_true rfl) dX12_pulled_84 (fun r4 s3 h => ?_)
            refine x_lcmp F dX12_pulled_87 ?_
            refine x_if_ge (tgt := 93) F dX12_pulled_88 (by decide) (fun c => ?_) (fun c => ?_)
            · replace h := h.1 c
              refine x_sub (lv' := [(0, .ref (ad X 176)), (1, .int x1), (2, .int x2), (3, .int x3)]) [0, 1, 2, 3] rfl ?_
              exact wb_X12_pulled_93 F hret  ih _ _ _ _ h
            · replace h := h.2 c
              refine x_sub (lv' := [(0, .ref (ad X 176)), (1, .int x1), (3, .int x3)]) [0, 1, 3] rfl ?_
              exact wb_X12_pulled_91 F hret  ih _ _ _ h
          · replace h := h.2 c
            refine x_aload_n F dX12_pulled_44 rfl 0 rfl ?_
            refine x_aload_n F dX12_pulled_45 rfl 0 rfl ?_
            refine g_12_19 F kz_176 in_12 (mc bw_7_18) dX12_pulled_46 ?_
            refine x_iload_n F dX12_pulled_49 rfl 3 rfl ?_
            refine x_callV_l F (c_X12_pullOf (xl X) (xg X) (xA X) F.2.2.1 kz_188 h) (bw_V bw_24_22 bw_24_23 bw_25_0 bw_1_5 bw_25_1) rfl cd_X12_pullOf (Nat.le_of_ble_eq_true rfl) (Nat.le_of_ble_eq_true rfl) (kd_w (by decide) kz_176) rfl (cl_12 kz_176) rfl rfl (Nat.le_of_ble_eq_true rfl) dX12_pulled_50 (fun r6 s5 h => ?_)
            refine x_aload_n F dX12_pulled_53 rfl 0 rfl ?_
            refine x_aload_n F dX12_pulled_54 rfl 0 rfl ?_
            refine g_12_19 F kz_176 in_12 (mc bw_7_18) dX12_pulled_55 ?_
            refine x_iload_n F dX12_pulled_58 rfl 2 rfl ?_
            refine x_callV_l F (c_X12_pullOf (xl X) (xg X) (xA X) F.2.2.1 kz_188 h) (bw_V bw_24_22 bw_24_23 bw_25_0 bw_1_5 bw_25_1) rfl cd_X12_pullOf (Nat.le_of_ble_eq_true rfl) (Nat.le_of_ble_eq_true rfl) (kd_w (by decide) kz_176) rfl (cl_12 kz_176) rfl rfl (Nat.le_of_ble_eq_true rfl) dX12_pulled_59 (fun r8 s7 h => ?_)
            refine x_lcmp F dX12_pulled_62 ?_
            refine x_if_le (tgt := 93) F dX12_pulled_63 (by decide) (fun c => ?_) (fun c => ?_)
            · replace h := h.1 c
              refine x_sub (lv' := [(0, .ref (ad X 176)), (1, .int x1), (2, .int x2), (3, .int x3)]) [0, 1, 2, 3] rfl ?_
              exact wb_X12_pulled_93 F hret  ih _ _ _ _ h
            · replace h := h.2 c
              refine x_goto (tgt := 91) F dX12_pulled_66 (by decide) ?_
              refine x_sub (lv' := [(0, .ref (ad X 176)), (1, .int x1), (3, .int x3)]) [0, 1, 3] rfl ?_
              exact wb_X12_pulled_91 F hret  ih _ _ _ h
      · replace h := h.2 c
        refine x_goto (tgt := 93) F dX12_pulled_32 (by decide) ?_
        refine x_sub (lv' := [(0, .ref (ad X 176)), (1, .int x1), (2, .int x2), (3, .int x3)]) [0, 1, 2, 3] rfl ?_
        exact wb_X12_pulled_93 F hret  ih _ _ _ _ h
def w_X12_pulled  (p0 : Int32) (σ : wS) (Q : Int32 → wS → Prop) : Prop := w_X12_asks 188 σ (fun s1 => (∃ m, l_X12_pulled_12   Q m p0 (-1 : Int32) (0 : Int32) s1))
set_option maxRecDepth 100000 in
set_option maxHeartbeats 4000000 in
theorem c_X12_pulled (l : Launch) (g : wG) (A : Nat → Prop) (hA : adO g A)   {p0 : Int32} {σ : wS} {Q : Int32 → wS → Prop} (h : w_X12_pulled  p0 σ Q) : Mi l yX12_pulled wvX12_pulled 5 119 g A [.ref (g.2.2 176), .int p0] σ Q := by
  refine mt_i (own := RX12) (lv := [(0, .ref (g.2.2 176)), (1, .int p0)]) (by decide) rfl rfl hA (Nat.le_of_ble_eq_true rfl) rfl ?_
  intro X hl hg hAA F hret
  subst hl hg hAA
  unfold w_X12_pulled at h
  refine x_aload_n F dX12_pulled_0 rfl 0 rfl ?_
  refine x_aload_n F dX12_pulled_1 rfl 0 rfl ?_
  refine g_12_19 F kz_176 in_12 (mc bw_7_18) dX12_pulled_2 ?_
  refine x_callV_v F (c_X12_asks (xl X) (xg X) (xA X) F.2.2.1 kz_188 h) (bw_V bw_29_20 bw_29_21 bw_29_22 bw_1_5 bw_29_23) rfl cd_X12_asks (Nat.le_of_ble_eq_true rfl) (Nat.le_of_ble_eq_true rfl) (kd_w (by decide) kz_176) rfl (cl_12 kz_176) rfl rfl (Nat.le_of_ble_eq_true rfl) dX12_pulled_5 (fun s1 h => ?_)
  refine x_iconst (-1 : Int32) F dX12_pulled_8 (by decide) ?_
  refine x_istore_n (lv' := [(2, .int (-1 : Int32)), (0, .ref (ad X 176)), (1, .int p0)]) F dX12_pulled_9 rfl (by decide) rfl ?_
  refine x_iconst (0 : Int32) F dX12_pulled_10 (by decide) ?_
  refine x_istore_n (lv' := [(3, .int (0 : Int32)), (2, .int (-1 : Int32)), (0, .ref (ad X 176)), (1, .int p0)]) F dX12_pulled_11 rfl (by decide) rfl ?_
  refine x_sub (lv' := [(0, .ref (ad X 176)), (1, .int p0), (2, .int (-1 : Int32)), (3, .int (0 : Int32))]) [2, 3, 1, 0] rfl ?_
  obtain ⟨n2, h⟩ := h
  exact wl_X12_pulled_12 F hret   n2 _ _ _ _ h
/-! X12_unlike -/
abbrev wvX12_unlike : List Cond := Cond.code yX12_unlike cX12_unlike 4 (some .int) :: wsL_law
theorem cd_X12_unlike : okN yX12_unlike RX12 0 := by unfold okN; decide +kernel
def b_X12_unlike_84  (K4 : Int32 → Int32 → wS → Prop) (K16 : Int32 → Int32 → Int32 → wS → Prop) (Q : Int32 → wS → Prop) (x1 : Int32) (x2 : Int32) (x3 : Int32) (σ : wS) : Prop := ∀ y1 : Int32, y1 = (x3 + (1 : Int32)) → (K16 x1 x2 y1 σ)
set_option maxRecDepth 100000 in
set_option maxHeartbeats 4000000 in
theorem wb_X12_unlike_84 {X : XT} {Q : Int32 → wS → Prop}  (F : Fx X cX12_unlike 4 RX12 wvX12_unlike 3 66) (hret : Ri X 4 cX12_unlike .int Q)  {K4 : Int32 → Int32 → wS → Prop} {K16 : Int32 → Int32 → Int32 → wS → Prop} (hK4 : ∀ (x1 : Int32) (x2 : Int32) (σ : wS), K4 x1 x2 σ → Wx X 4 σ 4 [(0, .ref (ad X 176)), (1, .int x1), (2, .int x2)] []) (hK16 : ∀ (x1 : Int32) (x2 : Int32) (x3 : Int32) (σ : wS), K16 x1 x2 x3 σ → Wx X 4 σ 16 [(0, .ref (ad X 176)), (1, .int x1), (2, .int x2), (3, .int x3)] []) (x1 : Int32) (x2 : Int32) (x3 : Int32) (σ : wS) (h : b_X12_unlike_84  K4 K16 Q x1 x2 x3 σ) : Wx X 4 σ 84 [(0, .ref (ad X 176)), (1, .int x1), (2, .int x2), (3, .int x3)] [] := by
  unfold b_X12_unlike_84 at h
  obtain ⟨y1, ey1⟩ : ∃ y : Int32, y = (x3 + (1 : Int32)) := ⟨_, rfl⟩
  replace h := h y1 ey1
  refine x_iinc (q := 3) (v := y1) (lv' := [(3, .int y1), (0, .ref (ad X 176)), (1, .int x1), (2, .int x2)]) F dX12_unlike_84 rfl (by rw [ey1]; rfl) (by decide) rfl ?_
  refine x_goto (tgt := 16) F dX12_unlike_87 (by decide) ?_
  refine x_sub (lv' := [(0, .ref (ad X 176)), (1, .int x1), (2, .int x2), (3, .int y1)]) [1, 2, 3, 0] rfl ?_
  exact hK16 _ _ _ _ h
def b_X12_unlike_77  (K4 : Int32 → Int32 → wS → Prop) (K16 : Int32 → Int32 → Int32 → wS → Prop) (Q : Int32 → wS → Prop) (x2 : Int32) (x3 : Int32) (σ : wS) : Prop := ∀ y1 : Int32, y1 = (((8 : Int32) * x2) + x3) → (b_X12_unlike_84  K4 K16 Q y1 x2 x3 σ)
set_option maxRecDepth 100000 in
set_option maxHeartbeats 4000000 in
theorem wb_X12_unlike_77 {X : XT} {Q : Int32 → wS → Prop}  (F : Fx X cX12_unlike 4 RX12 wvX12_unlike 3 66) (hret : Ri X 4 cX12_unlike .int Q)  {K4 : Int32 → Int32 → wS → Prop} {K16 : Int32 → Int32 → Int32 → wS → Prop} (hK4 : ∀ (x1 : Int32) (x2 : Int32) (σ : wS), K4 x1 x2 σ → Wx X 4 σ 4 [(0, .ref (ad X 176)), (1, .int x1), (2, .int x2)] []) (hK16 : ∀ (x1 : Int32) (x2 : Int32) (x3 : Int32) (σ : wS), K16 x1 x2 x3 σ → Wx X 4 σ 16 [(0, .ref (ad X 176)), (1, .int x1), (2, .int x2), (3, .int x3)] []) (x2 : Int32) (x3 : Int32) (σ : wS) (h : b_X12_unlike_77  K4 K16 Q x2 x3 σ) : Wx X 4 σ 77 [(0, .ref (ad X 176)), (2, .int x2), (3, .int x3)] [] := by
  unfold b_X12_unlike_77 at h
  refine x_bipush (8 : Int32) F dX12_unlike_77 (by decide) ?_
  refine x_iload_n F dX12_unlike_79 rfl 1 rfl ?_
  refine x_imul F dX12_unlike_80 ?_
  refine x_iload_n F dX12_unlike_81 rfl 2 rfl ?_
  refine x_iadd F dX12_unlike_82 ?_
  refine x_topi (fun y1 ey1 => ?_)
  replace h := h y1 ey1
  refine x_istore_n (lv' := [(1, .int y1), (0, .ref (ad X 176)), (2, .int x2), (3, .int x3)]) F dX12_unlike_83 rfl (by decide) rfl ?_
  refine x_sub (lv' := [(0, .ref (ad X 176)), (1, .int y1), (2, .int x2), (3, .int x3)]) [1, 0, 2, 3] rfl ?_
  exact wb_X12_unlike_84 F hret  hK4 hK16 _ _ _ _ h
def l_X12_unlike_16  (K4 : Int32 → Int32 → wS → Prop) (Q : Int32 → wS → Prop) : Nat → Int32 → Int32 → Int32 → wS → Prop
  | 0, _, _, _, _ => False
  | n + 1, x1, x2, x3, σ => ((σ.1 176 14) ≤ x3 → (∀ y1 : Int32, y1 = (x2 + (1 : Int32)) → (K4 x1 y1 σ))) ∧ (¬ (σ.1 176 14) ≤ x3 → (vp_in ((8 : Int32) + x2) 202 ∧ ((¬ (σ.1 188 (((8 : Int32) + x2)).toNatClampNeg) = 0 → (b_X12_unlike_84  K4 (fun x1 x2 x3 σ => l_X12_unlike_16  K4 Q n x1 x2 x3 σ) Q x1 x2 x3 σ)) ∧ ((σ.1 188 (((8 : Int32) + x2)).toNatClampNeg) = 0 → (vp_in ((8 : Int32) + x3) 202 ∧ (((σ.1 188 (((8 : Int32) + x3)).toNatClampNeg) = 0 → ((x1 = (-1 : Int32) → (b_X12_unlike_77  K4 (fun x1 x2 x3 σ => l_X12_unlike_16  K4 Q n x1 x2 x3 σ) Q x2 x3 σ)) ∧ (¬ x1 = (-1 : Int32) → (w_X12_accordOf x2 x3 σ (fun r3 s2 => w_X12_accordOf (x1 / (8 : Int32)) (x1 - x1 / (8 : Int32) * (8 : Int32)) s2 (fun r5 s4 => (r5 ≤ r3 → (b_X12_unlike_84  K4 (fun x1 x2 x3 σ => l_X12_unlike_16  K4 Q n x1 x2 x3 σ) Q x1 x2 x3 s4)) ∧ (¬ r5 ≤ r3 → (b_X12_unlike_77  K4 (fun x1 x2 x3 σ => l_X12_unlike_16  K4 Q n x1 x2 x3 σ) Q x2 x3 s4)))))))) ∧ (¬ (σ.1 188 (((8 : Int32) + x3)).toNatClampNeg) = 0 → (b_X12_unlike_84  K4 (fun x1 x2 x3 σ => l_X12_unlike_16  K4 Q n x1 x2 x3 σ) Q x1 x2 x3 σ))))))))
set_option maxRecDepth 100000 in
set_option maxHeartbeats 4000000 in
theorem wl_X12_unlike_16 {X : XT} {Q : Int32 → wS → Prop}  (F : Fx X cX12_unlike 4 RX12 wvX12_unlike 3 66) (hret : Ri X 4 cX12_unlike .int Q)  {K4 : Int32 → Int32 → wS → Prop} (hK4 : ∀ (x1 : Int32) (x2 : Int32) (σ : wS), K4 x1 x2 σ → Wx X 4 σ 4 [(0, .ref (ad X 176)), (1, .int x1), (2, .int x2)] []) : ∀ (n : Nat) (x1 : Int32) (x2 : Int32) (x3 : Int32) (σ : wS), l_X12_unlike_16  K4 Q n x1 x2 x3 σ → Wx X 4 σ 16 [(0, .ref (ad X 176)), (1, .int x1), (2, .int x2), (3, .int x3)] [] := by
  intro n
  induction n with
  | zero =>
    intros
    contradiction
  | succ n ih =>
    intro x1 x2 x3 σ h
    simp only [l_X12_unlike_16] at h
    refine x_iload_n F dX12_unlike_16 rfl 3 rfl ?_
    refine x_aload_n F dX12_unlike_17 rfl 0 rfl ?_
    refine g_12_14 F kz_176 in_12 (mc bw_22_18) dX12_unlike_18 ?_
    refine x_icmp_ge (tgt := 90) F dX12_unlike_21 (by decide) (fun c => ?_) (fun c => ?_)
    · replace h := h.1 c
      obtain ⟨y1, ey1⟩ : ∃ y : Int32, y = (x2 + (1 : Int32)) := ⟨_, rfl⟩
      replace h := h y1 ey1
      refine x_iinc (q := 2) (v := y1) (lv' := [(2, .int y1), (0, .ref (ad X 176)), (1, .int x1), (3, .int x3)]) F dX12_unlike_90 rfl (by rw [ey1]; rfl) (by decide) rfl ?_
      refine x_goto (tgt := 4) F dX12_unlike_93 (by decide) ?_
      refine x_sub (lv' := [(0, .ref (ad X 176)), (1, .int x1), (2, .int y1)]) [1, 2, 0] rfl ?_
      exact hK4 _ _ _ h
    · replace h := h.2 c
      refine x_aload_n F dX12_unlike_24 rfl 0 rfl ?_
      refine g_12_19 F kz_176 in_12 (mc bw_7_18) dX12_unlike_25 ?_
      refine x_bipush (8 : Int32) F dX12_unlike_28 (by decide) ?_
      refine x_iload_n F dX12_unlike_30 rfl 2 rfl ?_
      refine x_iadd F dX12_unlike_31 ?_
      obtain ⟨hj, h⟩ := h
      refine x_iald F kz_188 nz_188 hj dX12_unlike_32 ?_
      refine x_if_ne (tgt := 84) F dX12_unlike_33 (by decide) (fun c => ?_) (fun c => ?_)
      · replace h := h.1 c
        refine x_sub (lv' := [(0, .ref (ad X 176)), (1, .int x1), (2, .int x2), (3, .int x3)]) [0, 1, 2, 3] rfl ?_
        exact wb_X12_unlike_84 F hret  hK4 ih _ _ _ _ h
      · replace h := h.2 c
        refine x_aload_n F dX12_unlike_36 rfl 0 rfl ?_
        refine g_12_19 F kz_176 in_12 (mc bw_7_18) dX12_unlike_37 ?_
        refine x_bipush (8 : Int32) F dX12_unlike_40 (by decide) ?_
        refine x_iload_n F dX12_unlike_42 rfl 3 rfl ?_
        refine x_iadd F dX12_unlike_43 ?_
        obtain ⟨hj, h⟩ := h
        refine x_iald F kz_188 nz_188 hj dX12_unlike_44 ?_
        refine x_if_eq (tgt := 51) F dX12_unlike_45 (by decide) (fun c => ?_) (fun c => ?_)
        · replace h := h.1 c
          refine x_iload_n F dX12_unlike_51 rfl 1 rfl ?_
          refine x_iconst (-1 : Int32) F dX12_unlike_52 (by decide) ?_
          refine x_icmp_eq (tgt := 77) F dX12_unlike_53 (by decide) (fun c => ?_) (fun c => ?_)
          · replace h := h.1 c
            refine x_sub (lv' := [(0, .ref (ad X 176)), (2, .int x2), (3, .int x3)]) [0, 2, 3] rfl ?_
            exact wb_X12_unlike_77 F hret  hK4 ih _ _ _ h
          · replace h := h.2 c
            refine x_aload_n F dX12_unlike_56 rfl 0 rfl ?_
            refine x_iload_n F dX12_unlike_57 rfl 2 rfl ?_
            refine x_iload_n F dX12_unlike_58 rfl 3 rfl ?_
            refine x_callV_i F (c_X12_accordOf (xl X) (xg X) (xA X) F.2.2.1  h) (bw_V bw_47_4 bw_47_5 bw_47_6 bw_1_5 bw_47_7) rfl cd_X12_accordOf (Nat.le_of_ble_eq_true rfl) (Nat.le_of_ble_eq_true rfl) (kd_w (by decide) kz_176) rfl (cl_12 kz_176) rfl rfl (Nat.le_of_ble_eq_true rfl) dX12_unlike_59 (fun r3 s2 h => ?_)
            refine x_aload_n F dX12_unlike_62 rfl 0 rfl ?_
            refine x_iload_n F dX12_unlike_63 rfl 1 rfl ?_
            refine x_bipush (8 : Int32) F dX12_unlike_64 (by decide) ?_
            refine x_idiv F dX12_unlike_66 (by decide) ?_
            refine x_iload_n F dX12_unlike_67 rfl 1 rfl ?_
            refine x_bipush (8 : Int32) F dX12_unlike_68 (by decide) ?_
            refine x_irem F dX12_unlike_70 (by decide) ?_
            refine x_callV_i F (c_X12_accordOf (xl X) (xg X) (xA X) F.2.2.1  h) (bw_V bw_47_4 bw_47_5 bw_47_6 bw_1_5 bw_47_7) rfl cd_X12_accordOf (Nat.le_of_ble_eq_true rfl) (Nat.le_of_ble_eq_true rfl) (kd_w (by decide) kz_176) rfl (cl_12 kz_176) rfl rfl (Nat.le_of_ble_eq_true rfl) dX12_unlike_71 (fun r5 s4 h => ?_)
            refine x_icmp_ge (tgt := 84) F dX12_unlike_74 (by decide) (fun c => ?_) (fun c => ?_)
            · replace h := h.1 c
              refine x_sub (lv' := [(0, .ref (ad X 176)), (1, .int x1), (2, .int x2), (3, .int x3)]) [0, 1, 2, 3] rfl ?_
              exact wb_X12_unlike_84 F hret  hK4 ih _ _ _ _ h
            · replace h := h.2 c
              refine x_sub (lv' := [(0, .ref (ad X 176)), (2, .int x2), (3, .int x3)]) [0, 2, 3] rfl ?_
              exact wb_X12_unlike_77 F hret  hK4 ih _ _ _ h
        · replace h := h.2 c
          refine x_goto (tgt := 84) F dX12_unlike_48 (by decide) ?_
          refine x_sub (lv' := [(0, .ref (ad X 176)), (1, .int x1), (2, .int x2), (3, .int x3)]) [0, 1, 2, 3] rfl ?_
          exact wb_X12_unlike_84 F hret  hK4 ih _ _ _ _ h
def l_X12_unlike_4   (Q : Int32 → wS → Prop) : Nat → Int32 → Int32 → wS → Prop
  | 0, _, _, _ => False
  | n + 1, x1, x2, σ => ((σ.1 176 14) ≤ x2 → (Q x1 σ)) ∧ (¬ (σ.1 176 14) ≤ x2 → (∀ y1 : Int32, y1 = (x2 + (1 : Int32)) → ((∃ m, l_X12_unlike_16  (fun x1 x2 σ => l_X12_unlike_4   Q n x1 x2 σ) Q m x1 x2 y1 σ))))
set_option maxRecDepth 100000 in
set_option maxHeartbeats 4000000 in
theorem wl_X12_unlike_4 {X : XT} {Q : Int32 → wS → Prop}  (F : Fx X cX12_unlike 4 RX12 wvX12_unlike 3 66) (hret : Ri X 4 cX12_unlike .int Q)    : ∀ (n : Nat) (x1 : Int32) (x2 : Int32) (σ : wS), l_X12_unlike_4   Q n x1 x2 σ → Wx X 4 σ 4 [(0, .ref (ad X 176)), (1, .int x1), (2, .int x2)] [] := by
  intro n
  induction n with
  | zero =>
    intros
    contradiction
  | succ n ih =>
    intro x1 x2 σ h
    simp only [l_X12_unlike_4] at h
    refine x_iload_n F dX12_unlike_4 rfl 2 rfl ?_
    refine x_aload_n F dX12_unlike_5 rfl 0 rfl ?_
    refine g_12_14 F kz_176 in_12 (mc bw_22_18) dX12_unlike_6 ?_
    refine x_icmp_ge (tgt := 96) F dX12_unlike_9 (by decide) (fun c => ?_) (fun c => ?_)
    · replace h := h.1 c
      refine x_iload_n F dX12_unlike_96 rfl 1 rfl ?_
      exact hret _ _ _ _ h rfl dX12_unlike_97
    · replace h := h.2 c
      refine x_iload_n F dX12_unlike_12 rfl 2 rfl ?_
      refine x_iconst (1 : Int32) F dX12_unlike_13 (by decide) ?_
      refine x_iadd F dX12_unlike_14 ?_
      refine x_topi (fun y1 ey1 => ?_)
      replace h := h y1 ey1
      refine x_istore_n (lv' := [(3, .int y1), (0, .ref (ad X 176)), (1, .int x1), (2, .int x2)]) F dX12_unlike_15 rfl (by decide) rfl ?_
      refine x_sub (lv' := [(0, .ref (ad X 176)), (1, .int x1), (2, .int x2), (3, .int y1)]) [1, 2, 3, 0] rfl ?_
      obtain ⟨n2, h⟩ := h
      exact wl_X12_unlike_16 F hret  ih n2 _ _ _ _ h
def w_X12_unlike   (σ : wS) (Q : Int32 → wS → Prop) : Prop := (∃ m, l_X12_unlike_4   Q m (-1 : Int32) (0 : Int32) σ)
set_option maxRecDepth 100000 in
set_option maxHeartbeats 4000000 in
theorem c_X12_unlike (l : Launch) (g : wG) (A : Nat → Prop) (hA : adO g A)    {σ : wS} {Q : Int32 → wS → Prop} (h : w_X12_unlike   σ Q) : Mi l yX12_unlike wvX12_unlike 3 66 g A [.ref (g.2.2 176)] σ Q := by
  refine mt_i (own := RX12) (lv := [(0, .ref (g.2.2 176))]) (by decide) rfl rfl hA (Nat.le_of_ble_eq_true rfl) rfl ?_
  intro X hl hg hAA F hret
  subst hl hg hAA
  unfold w_X12_unlike at h
  refine x_iconst (-1 : Int32) F dX12_unlike_0 (by decide) ?_
  refine x_istore_n (lv' := [(1, .int (-1 : Int32)), (0, .ref (ad X 176))]) F dX12_unlike_1 rfl (by decide) rfl ?_
  refine x_iconst (0 : Int32) F dX12_unlike_2 (by decide) ?_
  refine x_istore_n (lv' := [(2, .int (0 : Int32)), (1, .int (-1 : Int32)), (0, .ref (ad X 176))]) F dX12_unlike_3 rfl (by decide) rfl ?_
  refine x_sub (lv' := [(0, .ref (ad X 176)), (1, .int (-1 : Int32)), (2, .int (0 : Int32))]) [2, 1, 0] rfl ?_
  obtain ⟨n2, h⟩ := h
  exact wl_X12_unlike_4 F hret   n2 _ _ _ h
/-! X12_most -/
abbrev wvX12_most : List Cond := Cond.code yX12_most cX12_most 2 (some .int) :: wsL_law
theorem cd_X12_most : okN yX12_most RX12 1 := by unfold okN; decide +kernel
def w_X12_most  (p0 : Int32) (σ : wS) (Q : Int32 → wS → Prop) : Prop := ∀ s1 : wS, s1 = upI σ 176 0 (0 : Int32) → ((¬ (s1.1 176 14) = 0 → ((p0 = (0 : Int32) → (w_X12_those 188 (s1.1 176 14) p0 s1 (fun r3 s2 => Q r3 s2))) ∧ (p0 = (1 : Int32) → (w_X12_those 188 (s1.1 176 14) p0 s1 (fun r5 s4 => Q r5 s4))) ∧ (p0 = (2 : Int32) → (w_X12_those 188 (s1.1 176 14) p0 s1 (fun r7 s6 => Q r7 s6))) ∧ (p0 = (3 : Int32) → (w_X12_those 188 (s1.1 176 14) p0 s1 (fun r9 s8 => Q r9 s8))) ∧ (p0 = (4 : Int32) → (w_X12_pulled (1 : Int32) s1 (fun r11 s10 => Q r11 s10))) ∧ (p0 = (5 : Int32) → (w_X12_pulled (0 : Int32) s1 (fun r13 s12 => Q r13 s12))) ∧ (p0 = (6 : Int32) → (w_X12_stiffnesses  s1 (fun r15 s14 => Q r15 s14))) ∧ (p0 = (7 : Int32) → (Q (s1.1 188 ((20 : Int32)).toNatClampNeg) s1)) ∧ (p0 = (8 : Int32) → (w_X12_unlike  s1 (fun r17 s16 => Q r17 s16))) ∧ (¬ p0 = (0 : Int32) → ¬ p0 = (1 : Int32) → ¬ p0 = (2 : Int32) → ¬ p0 = (3 : Int32) → ¬ p0 = (4 : Int32) → ¬ p0 = (5 : Int32) → ¬ p0 = (6 : Int32) → ¬ p0 = (7 : Int32) → ¬ p0 = (8 : Int32) → (Q (-1000000 : Int32) s1)))) ∧ ((s1.1 176 14) = 0 → (Q (-1000000 : Int32) s1)))
set_option maxRecDepth 100000 in
set_option maxHeartbeats 4000000 in
theorem c_X12_most (l : Launch) (g : wG) (A : Nat → Prop) (hA : adO g A)   {p0 : Int32} {σ : wS} {Q : Int32 → wS → Prop} (h : w_X12_most  p0 σ Q) : Mi l yX12_most wvX12_most 6 142 g A [.ref (g.2.2 176), .int p0] σ Q := by
  refine mt_i (own := RX12) (lv := [(0, .ref (g.2.2 176)), (1, .int p0)]) (by decide) rfl rfl hA (Nat.le_of_ble_eq_true rfl) rfl ?_
  intro X hl hg hAA F hret
  subst hl hg hAA
  unfold w_X12_most at h
  refine x_aload_n F dX12_most_0 rfl 0 rfl ?_
  refine x_iconst (0 : Int32) F dX12_most_1 (by decide) ?_
  refine q_12_0 F kz_176 in_12 (mc bw_8_21) dX12_most_2 ?_
  refine x_nmS (fun s1 es1 => ?_)
  replace h := h s1 es1
  refine x_aload_n F dX12_most_5 rfl 0 rfl ?_
  refine g_12_14 F kz_176 in_12 (mc bw_22_18) dX12_most_6 ?_
  refine x_if_ne (tgt := 15) F dX12_most_9 (by decide) (fun c => ?_) (fun c => ?_)
  · replace h := h.1 c
    refine x_iload_n F dX12_most_15 rfl 1 rfl ?_
    by_cases c0 : p0 = (0 : Int32)
    · replace h := h.1 c0
      refine x_tin (off := 52) (tgt := 68) F dX12_most_16 (by rw [c0]; decide) (by rw [c0]; decide) (by rw [c0]; rfl) (by decide) ?_
      refine x_aload_n F dX12_most_68 rfl 0 rfl ?_
      refine g_12_19 F kz_176 in_12 (mc bw_7_18) dX12_most_69 ?_
      refine x_aload_n F dX12_most_72 rfl 0 rfl ?_
      refine g_12_14 F kz_176 in_12 (mc bw_22_18) dX12_most_73 ?_
      refine x_iload_n F dX12_most_76 rfl 1 rfl ?_
      refine x_callT_i F (c_X12_those (xl X) (xg X) (xA X) F.2.2.1 kz_188 h) (bw_S bw_23_11 bw_23_12 bw_1_5 bw_23_13) rfl cd_X12_those (Nat.le_of_ble_eq_true rfl) (Nat.le_of_ble_eq_true rfl) rfl rfl (Nat.le_of_ble_eq_true rfl) dX12_most_77 (fun r3 s2 h => ?_)
      exact hret _ _ _ _ h rfl dX12_most_80
    replace h := h.2
    by_cases c1 : p0 = (1 : Int32)
    · replace h := h.1 c1
      refine x_tin (off := 52) (tgt := 68) F dX12_most_16 (by rw [c1]; decide) (by rw [c1]; decide) (by rw [c1]; rfl) (by decide) ?_
      refine x_aload_n F dX12_most_68 rfl 0 rfl ?_
      refine g_12_19 F kz_176 in_12 (mc bw_7_18) dX12_most_69 ?_
      refine x_aload_n F dX12_most_72 rfl 0 rfl ?_
      refine g_12_14 F kz_176 in_12 (mc bw_22_18) dX12_most_73 ?_
      refine x_iload_n F dX12_most_76 rfl 1 rfl ?_
      refine x_callT_i F (c_X12_those (xl X) (xg X) (xA X) F.2.2.1 kz_188 h) (bw_S bw_23_11 bw_23_12 bw_1_5 bw_23_13) rfl cd_X12_those (Nat.le_of_ble_eq_true rfl) (Nat.le_of_ble_eq_true rfl) rfl rfl (Nat.le_of_ble_eq_true rfl) dX12_most_77 (fun r5 s4 h => ?_)
      exact hret _ _ _ _ h rfl dX12_most_80
    replace h := h.2
    by_cases c2 : p0 = (2 : Int32)
    · replace h := h.1 c2
      refine x_tin (off := 52) (tgt := 68) F dX12_most_16 (by rw [c2]; decide) (by rw [c2]; decide) (by rw [c2]; rfl) (by decide) ?_
      refine x_aload_n F dX12_most_68 rfl 0 rfl ?_
      refine g_12_19 F kz_176 in_12 (mc bw_7_18) dX12_most_69 ?_
      refine x_aload_n F dX12_most_72 rfl 0 rfl ?_
      refine g_12_14 F kz_176 in_12 (mc bw_22_18) dX12_most_73 ?_
      refine x_iload_n F dX12_most_76 rfl 1 rfl ?_
      refine x_callT_i F (c_X12_those (xl X) (xg X) (xA X) F.2.2.1 kz_188 h) (bw_S bw_23_11 bw_23_12 bw_1_5 bw_23_13) rfl cd_X12_those (Nat.le_of_ble_eq_true rfl) (Nat.le_of_ble_eq_true rfl) rfl rfl (Nat.le_of_ble_eq_true rfl) dX12_most_77 (fun r7 s6 h => ?_)
      exact hret _ _ _ _ h rfl dX12_most_80
    replace h := h.2
    by_cases c3 : p0 = (3 : Int32)
    · replace h := h.1 c3
      refine x_tin (off := 52) (tgt := 68) F dX12_most_16 (by rw [c3]; decide) (by rw [c3]; decide) (by rw [c3]; rfl) (by decide) ?_
      refine x_aload_n F dX12_most_68 rfl 0 rfl ?_
      refine g_12_19 F kz_176 in_12 (mc bw_7_18) dX12_most_69 ?_
      refine x_aload_n F dX12_most_72 rfl 0 rfl ?_
      refine g_12_14 F kz_176 in_12 (mc bw_22_18) dX12_most_73 ?_
      refine x_iload_n F dX12_most_76 rfl 1 rfl ?_
      refine x_callT_i F (c_X12_those (xl X) (xg X) (xA X) F.2.2.1 kz_188 h) (bw_S bw_23_11 bw_23_12 bw_1_5 bw_23_13) rfl cd_X12_those (Nat.le_of_ble_eq_true rfl) (Nat.le_of_ble_eq_true rfl) rfl rfl (Nat.le_of_ble_eq_true rfl) dX12_most_77 (fun r9 s8 h => ?_)
      exact hret _ _ _ _ h rfl dX12_most_80
    replace h := h.2
    by_cases c4 : p0 = (4 : Int32)
    · replace h := h.1 c4
      refine x_tin (off := 65) (tgt := 81) F dX12_most_16 (by rw [c4]; decide) (by rw [c4]; decide) (by rw [c4]; rfl) (by decide) ?_
      refine x_aload_n F dX12_most_81 rfl 0 rfl ?_
      refine x_iconst (1 : Int32) F dX12_most_82 (by decide) ?_
      refine x_callV_i F (c_X12_pulled (xl X) (xg X) (xA X) F.2.2.1  h) (bw_V bw_53_17 bw_53_18 bw_53_19 bw_1_5 bw_53_20) rfl cd_X12_pulled (Nat.le_of_ble_eq_true rfl) (Nat.le_of_ble_eq_true rfl) (kd_w (by decide) kz_176) rfl (cl_12 kz_176) rfl rfl (Nat.le_of_ble_eq_true rfl) dX12_most_83 (fun r11 s10 h => ?_)
      exact hret _ _ _ _ h rfl dX12_most_86
    replace h := h.2
    by_cases c5 : p0 = (5 : Int32)
    · replace h := h.1 c5
      refine x_tin (off := 71) (tgt := 87) F dX12_most_16 (by rw [c5]; decide) (by rw [c5]; decide) (by rw [c5]; rfl) (by decide) ?_
      refine x_aload_n F dX12_most_87 rfl 0 rfl ?_
      refine x_iconst (0 : Int32) F dX12_most_88 (by decide) ?_
      refine x_callV_i F (c_X12_pulled (xl X) (xg X) (xA X) F.2.2.1  h) (bw_V bw_53_17 bw_53_18 bw_53_19 bw_1_5 bw_53_20) rfl cd_X12_pulled (Nat.le_of_ble_eq_true rfl) (Nat.le_of_ble_eq_true rfl) (kd_w (by decide) kz_176) rfl (cl_12 kz_176) rfl rfl (Nat.le_of_ble_eq_true rfl) dX12_most_89 (fun r13 s12 h => ?_)
      exact hret _ _ _ _ h rfl dX12_most_92
    replace h := h.2
    by_cases c6 : p0 = (6 : Int32)
    · replace h := h.1 c6
      refine x_tin (off := 77) (tgt := 93) F dX12_most_16 (by rw [c6]; decide) (by rw [c6]; decide) (by rw [c6]; rfl) (by decide) ?_
      refine x_aload_n F dX12_most_93 rfl 0 rfl ?_
      refine x_callV_i F (c_X12_stiffnesses (xl X) (xg X) (xA X) F.2.2.1  h) (bw_V bw_51_12 bw_51_13 bw_51_14 bw_1_5 bw_51_15) rfl cd_X12_stiffnesses (Nat.le_of_ble_eq_true rfl) (Nat.le_of_ble_eq_true rfl) (kd_w (by decide) kz_176) rfl (cl_12 kz_176) rfl rfl (Nat.le_of_ble_eq_true rfl) dX12_most_94 (fun r15 s14 h => ?_)
      exact hret _ _ _ _ h rfl dX12_most_97
    replace h := h.2
    by_cases c7 : p0 = (7 : Int32)
    · replace h := h.1 c7
      refine x_tin (off := 82) (tgt := 98) F dX12_most_16 (by rw [c7]; decide) (by rw [c7]; decide) (by rw [c7]; rfl) (by decide) ?_
      refine x_aload_n F dX12_most_98 rfl 0 rfl ?_
      refine g_12_19 F kz_176 in_12 (mc bw_7_18) dX12_most_99 ?_
      refine x_bipush (20 : Int32) F dX12_most_102 (by decide) ?_
      refine x_iald F kz_188 nz_188 (by unfold vp_in; decide) dX12_most_104 ?_
      exact hret _ _ _ _ h rfl dX12_most_105
    replace h := h.2
    by_cases c8 : p0 = (8 : Int32)
    · replace h := h.1 c8
      refine x_tin (off := 90) (tgt := 106) F dX12_most_16 (by rw [c8]; decide) (by rw [c8]; decide) (by rw [c8]; rfl) (by decide) ?_
      refine x_aload_n F dX12_most_106 rfl 0 rfl ?_
      refine x_callV_i F (c_X12_unlike (xl X) (xg X) (xA X) F.2.2.1  h) (bw_V bw_53_21 bw_53_22 bw_53_23 bw_1_5 bw_54_0) rfl cd_X12_unlike (Nat.le_of_ble_eq_true rfl) (Nat.le_of_ble_eq_true rfl) (kd_w (by decide) kz_176) rfl (cl_12 kz_176) rfl rfl (Nat.le_of_ble_eq_true rfl) dX12_most_107 (fun r17 s16 h => ?_)
      exact hret _ _ _ _ h rfl dX12_most_110
    replace h := h.2
    replace h := h c0 c1 c2 c3 c4 c5 c6 c7 c8
    refine x_tout (tgt := 111) F dX12_most_16 (sw_out (fun z h1 h2 hz => ?_)) (by decide) ?_
    · rcases (show z = 0 ∨ z = 1 ∨ z = 2 ∨ z = 3 ∨ z = 4 ∨ z = 5 ∨ z = 6 ∨ z = 7 ∨ z = 8 by omega) with rfl | rfl | rfl | rfl | rfl | rfl | rfl | rfl | rfl
      · exact c0 (Int32.toInt_inj.mp (by rw [hz]; rfl))
      · exact c1 (Int32.toInt_inj.mp (by rw [hz]; rfl))
      · exact c2 (Int32.toInt_inj.mp (by rw [hz]; rfl))
      · exact c3 (Int32.toInt_inj.mp (by rw [hz]; rfl))
      · exact c4 (Int32.toInt_inj.mp (by rw [hz]; rfl))
      · exact c5 (Int32.toInt_inj.mp (by rw [hz]; rfl))
      · exact c6 (Int32.toInt_inj.mp (by rw [hz]; rfl))
      · exact c7 (Int32.toInt_inj.mp (by rw [hz]; rfl))
      · exact c8 (Int32.toInt_inj.mp (by rw [hz]; rfl))
    refine x_ldc F dX12_most_111 (mc bw_18_9) ?_
    exact hret _ _ _ _ h rfl dX12_most_113
  · replace h := h.2 c
    refine x_ldc F dX12_most_12 (mc bw_18_9) ?_
    exact hret _ _ _ _ h rfl dX12_most_14
/-! X12_count -/
abbrev wvX12_count : List Cond := Cond.code yX12_count cX12_count 2 (some .int) :: wsL_law
theorem cd_X12_count : okN yX12_count RX12 1 := by unfold okN; decide +kernel
def w_X12_count  (p0 : Int32) (σ : wS) (Q : Int32 → wS → Prop) : Prop := ∀ s1 : wS, s1 = upI σ 176 0 (0 : Int32) → ((p0 = (0 : Int32) → (Q (s1.1 176 14) s1)) ∧ (p0 = (1 : Int32) → (Q (s1.1 176 15) s1)) ∧ (p0 = (2 : Int32) → (Q (s1.1 176 2) s1)) ∧ (p0 = (3 : Int32) → (Q (s1.1 188 ((21 : Int32)).toNatClampNeg) s1)) ∧ (p0 = (4 : Int32) → (Q (s1.1 176 24) s1)) ∧ (¬ p0 = (0 : Int32) → ¬ p0 = (1 : Int32) → ¬ p0 = (2 : Int32) → ¬ p0 = (3 : Int32) → ¬ p0 = (4 : Int32) → (Q (-1000000 : Int32) s1)))
set_option maxRecDepth 100000 in
set_option maxHeartbeats 4000000 in
theorem c_X12_count (l : Launch) (g : wG) (A : Nat → Prop) (hA : adO g A)   {p0 : Int32} {σ : wS} {Q : Int32 → wS → Prop} (h : w_X12_count  p0 σ Q) : Mi l yX12_count wvX12_count 0 0 g A [.ref (g.2.2 176), .int p0] σ Q := by
  refine mt_i (own := RX12) (lv := [(0, .ref (g.2.2 176)), (1, .int p0)]) (by decide) rfl rfl hA (Nat.le_of_ble_eq_true rfl) rfl ?_
  intro X hl hg hAA F hret
  subst hl hg hAA
  unfold w_X12_count at h
  refine x_aload_n F dX12_count_0 rfl 0 rfl ?_
  refine x_iconst (0 : Int32) F dX12_count_1 (by decide) ?_
  refine q_12_0 F kz_176 in_12 (mc bw_8_21) dX12_count_2 ?_
  refine x_nmS (fun s1 es1 => ?_)
  replace h := h s1 es1
  refine x_iload_n F dX12_count_5 rfl 1 rfl ?_
  by_cases c0 : p0 = (0 : Int32)
  · replace h := h.1 c0
    refine x_tin (off := 34) (tgt := 40) F dX12_count_6 (by rw [c0]; decide) (by rw [c0]; decide) (by rw [c0]; rfl) (by decide) ?_
    refine x_aload_n F dX12_count_40 rfl 0 rfl ?_
    refine g_12_14 F kz_176 in_12 (mc bw_22_18) dX12_count_41 ?_
    exact hret _ _ _ _ h rfl dX12_count_44
  replace h := h.2
  by_cases c1 : p0 = (1 : Int32)
  · replace h := h.1 c1
    refine x_tin (off := 39) (tgt := 45) F dX12_count_6 (by rw [c1]; decide) (by rw [c1]; decide) (by rw [c1]; rfl) (by decide) ?_
    refine x_aload_n F dX12_count_45 rfl 0 rfl ?_
    refine g_12_15 F kz_176 in_12 (mc bw_22_17) dX12_count_46 ?_
    exact hret _ _ _ _ h rfl dX12_count_49
  replace h := h.2
  by_cases c2 : p0 = (2 : Int32)
  · replace h := h.1 c2
    refine x_tin (off := 44) (tgt := 50) F dX12_count_6 (by rw [c2]; decide) (by rw [c2]; decide) (by rw [c2]; rfl) (by decide) ?_
    refine x_aload_n F dX12_count_50 rfl 0 rfl ?_
    refine g_12_2 F kz_176 in_12 (mc bw_8_22) dX12_count_51 ?_
    exact hret _ _ _ _ h rfl dX12_count_54
  replace h := h.2
  by_cases c3 : p0 = (3 : Int32)
  · replace h := h.1 c3
    refine x_tin (off := 49) (tgt := 55) F dX12_count_6 (by rw [c3]; decide) (by rw [c3]; decide) (by rw [c3]; rfl) (by decide) ?_
    refine x_aload_n F dX12_count_55 rfl 0 rfl ?_
    refine g_12_19 F kz_176 in_12 (mc bw_7_18) dX12_count_56 ?_
    refine x_bipush (21 : Int32) F dX12_count_59 (by decide) ?_
    refine x_iald F kz_188 nz_188 (by unfold vp_in; decide) dX12_count_61 ?_
    exact hret _ _ _ _ h rfl dX12_count_62
  replace h := h.2
  by_cases c4 : p0 = (4 : Int32)
  · replace h := h.1 c4
    refine x_tin (off := 57) (tgt := 63) F dX12_count_6 (by rw [c4]; decide) (by rw [c4]; decide) (by rw [c4]; rfl) (by decide) ?_
    refine x_aload_n F dX12_count_63 rfl 0 rfl ?_
    refine g_12_24 F kz_176 in_12 (mc bw_22_19) dX12_count_64 ?_
    exact hret _ _ _ _ h rfl dX12_count_67
  replace h := h.2
  replace h := h c0 c1 c2 c3 c4
  refine x_tout (tgt := 68) F dX12_count_6 (sw_out (fun z h1 h2 hz => ?_)) (by decide) ?_
  · rcases (show z = 0 ∨ z = 1 ∨ z = 2 ∨ z = 3 ∨ z = 4 by omega) with rfl | rfl | rfl | rfl | rfl
    · exact c0 (Int32.toInt_inj.mp (by rw [hz]; rfl))
    · exact c1 (Int32.toInt_inj.mp (by rw [hz]; rfl))
    · exact c2 (Int32.toInt_inj.mp (by rw [hz]; rfl))
    · exact c3 (Int32.toInt_inj.mp (by rw [hz]; rfl))
    · exact c4 (Int32.toInt_inj.mp (by rw [hz]; rfl))
  refine x_ldc F dX12_count_68 (mc bw_18_9) ?_
  exact hret _ _ _ _ h rfl dX12_count_70
