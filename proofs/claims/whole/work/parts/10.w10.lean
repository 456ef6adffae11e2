/-! X12_common -/
abbrev wvX12_common : List Cond := Cond.code yX12_common cX12_common 10 (some .long) :: wsL_law
theorem cd_X12_common : okN yX12_common RX12 2 := by unfold okN; decide +kernel
def l_X12_common_17   (Q : Int64 → wS → Prop) : Nat → Int64 → Int64 → wS → Prop
  | 0, _, _, _ => False
  | n + 1, x4, x6, σ => ((lg_cmp x6 (0 : Int64)) = 0 → (Q x4 σ)) ∧ (¬ (lg_cmp x6 (0 : Int64)) = 0 → (¬ x6 = 0 ∧ (∀ y1 : Int64, y1 = (x4 - x4 / x6 * x6) → (l_X12_common_17   Q n x6 y1 σ))))
set_option maxRecDepth 100000 in
set_option maxHeartbeats 4000000 in
theorem wl_X12_common_17 {X : XT} {Q : Int64 → wS → Prop}  (F : Fx X cX12_common 10 RX12 wvX12_common 0 0) (hret : Rl X 10 cX12_common Q)    : ∀ (n : Nat) (x4 : Int64) (x6 : Int64) (σ : wS), l_X12_common_17   Q n x4 x6 σ → Wx X 10 σ 17 [(4, .long x4), (6, .long x6)] [] := by
  intro n
  induction n with
  | zero =>
    intros
    contradiction
  | succ n ih =>
    intro x4 x6 σ h
    simp only [l_X12_common_17] at h
    refine x_lload F dX12_common_17 1 rfl ?_
    refine x_lconst (0 : Int64) F dX12_common_19 (by decide) ?_
    refine x_lcmp F dX12_common_20 ?_
    refine x_if_eq (tgt := 42) F dX12_common_21 (by decide) (fun c => ?_) (fun c => ?_)
    · replace h := h.1 c
      refine x_lload F dX12_common_42 0 rfl ?_
      exact hret _ _ _ _ h dX12_common_44
    · replace h := h.2 c
      refine x_lload F dX12_common_24 0 rfl ?_
      refine x_lload F dX12_common_26 1 rfl ?_
      obtain ⟨hj, h⟩ := h
      refine x_lrem F dX12_common_28 hj ?_
      refine x_topl (fun y1 ey1 => ?_)
      replace h := h y1 ey1
      refine x_lstore (lv' := [(8, .long y1), (4, .long x4), (6, .long x6)]) F dX12_common_29 (by decide) rfl ?_
      refine x_lload F dX12_common_31 2 rfl ?_
      refine x_lstore (lv' := [(4, .long x6), (8, .long y1), (6, .long x6)]) F dX12_common_33 (by decide) rfl ?_
      refine x_lload F dX12_common_35 1 rfl ?_
      refine x_lstore (lv' := [(6, .long y1), (4, .long x6), (8, .long y1)]) F dX12_common_37 (by decide) rfl ?_
      refine x_goto (tgt := 17) F dX12_common_39 (by decide) ?_
      refine x_sub (lv' := [(4, .long x6), (6, .long y1)]) [1, 0] rfl ?_
      exact ih _ _ _ h
def b_X12_common_12   (Q : Int64 → wS → Prop) (x2 : Int64) (z0 : Int64) (σ : wS) : Prop := (∃ m, l_X12_common_17   Q m z0 x2 σ)
set_option maxRecDepth 100000 in
set_option maxHeartbeats 4000000 in
theorem wb_X12_common_12 {X : XT} {Q : Int64 → wS → Prop}  (F : Fx X cX12_common 10 RX12 wvX12_common 0 0) (hret : Rl X 10 cX12_common Q)    (x2 : Int64) (z0 : Int64) (σ : wS) (h : b_X12_common_12   Q x2 z0 σ) : Wx X 10 σ 12 [(2, .long x2)] [.long z0] := by
  unfold b_X12_common_12 at h
  refine x_lstore (lv' := [(4, .long z0), (2, .long x2)]) F dX12_common_12 (by decide) rfl ?_
  refine x_lload_n F dX12_common_14 rfl 1 rfl ?_
  refine x_lstore (lv' := [(6, .long x2), (4, .long z0), (2, .long x2)]) F dX12_common_15 (by decide) rfl ?_
  refine x_sub (lv' := [(4, .long z0), (6, .long x2)]) [1, 0] rfl ?_
  obtain ⟨n2, h⟩ := h
  exact wl_X12_common_17 F hret   n2 _ _ _ h
def w_X12_common  (p0 : Int64) (p1 : Int64) (σ : wS) (Q : Int64 → wS → Prop) : Prop := (0 ≤ (lg_cmp p0 (0 : Int64)) → (b_X12_common_12   Q p1 p0 σ)) ∧ (¬ 0 ≤ (lg_cmp p0 (0 : Int64)) → (b_X12_common_12   Q p1 (-p0) σ))
set_option maxRecDepth 100000 in
set_option maxHeartbeats 4000000 in
theorem c_X12_common (l : Launch) (g : wG) (A : Nat → Prop) (hA : adO g A)   {p0 : Int64} {p1 : Int64} {σ : wS} {Q : Int64 → wS → Prop} (h : w_X12_common  p0 p1 σ Q) : Ml l yX12_common wvX12_common 0 0 g A [.long p0, .long p1] σ Q := by
  refine mt_l (own := RX12) (lv := [(0, .long p0), (2, .long p1)]) (by decide) rfl rfl hA (Nat.le_of_ble_eq_true rfl) rfl ?_
  intro X hl hg hAA F hret
  subst hl hg hAA
  unfold w_X12_common at h
  refine x_lload_n F dX12_common_0 rfl 0 rfl ?_
  refine x_lconst (0 : Int64) F dX12_common_1 (by decide) ?_
  refine x_lcmp F dX12_common_2 ?_
  refine x_if_ge (tgt := 11) F dX12_common_3 (by decide) (fun c => ?_) (fun c => ?_)
  · replace h := h.1 c
    refine x_lload_n F dX12_common_11 rfl 0 rfl ?_
    refine x_sub (lv' := [(2, .long p1)]) [1] rfl ?_
    exact wb_X12_common_12 F hret   _ _ _ h
  · replace h := h.2 c
    refine x_lload_n F dX12_common_6 rfl 0 rfl ?_
    refine x_lneg F dX12_common_7 ?_
    refine x_goto (tgt := 12) F dX12_common_8 (by decide) ?_
    refine x_sub (lv' := [(2, .long p1)]) [1] rfl ?_
    exact wb_X12_common_12 F hret   _ _ _ h
/-! X12_told -/
abbrev wvX12_told : List Cond := Cond.code yX12_told cX12_told 7 (some .long) :: wsL_law
theorem cd_X12_told : okN yX12_told RX12 3 := by unfold okN; decide +kernel
def w_X12_told  (p0 : Int64) (p1 : Int64) (p2 : Int32) (σ : wS) (Q : Int64 → wS → Prop) : Prop := w_X12_common p0 p1 σ (fun r2 s1 => (¬ p2 = 0 → (¬ r2 = 0 ∧ (Q (p1 / r2) s1))) ∧ (p2 = 0 → (¬ r2 = 0 ∧ (Q (p0 / r2) s1))))
set_option maxRecDepth 100000 in
set_option maxHeartbeats 4000000 in
theorem c_X12_told (l : Launch) (g : wG) (A : Nat → Prop) (hA : adO g A)   {p0 : Int64} {p1 : Int64} {p2 : Int32} {σ : wS} {Q : Int64 → wS → Prop} (h : w_X12_told  p0 p1 p2 σ Q) : Ml l yX12_told wvX12_told 1 29 g A [.long p0, .long p1, .int p2] σ Q := by
  refine mt_l (own := RX12) (lv := [(0, .long p0), (2, .long p1), (4, .int p2)]) (by decide) rfl rfl hA (Nat.le_of_ble_eq_true rfl) rfl ?_
  intro X hl hg hAA F hret
  subst hl hg hAA
  unfold w_X12_told at h
  refine x_lload_n F dX12_told_0 rfl 0 rfl ?_
  refine x_lload_n F dX12_told_1 rfl 1 rfl ?_
  refine x_callT_l F (c_X12_common (xl X) (xg X) (xA X) F.2.2.1  h) (bw_S bw_30_3 bw_30_4 bw_1_5 bw_30_5) rfl cd_X12_common (Nat.le_of_ble_eq_true rfl) (Nat.le_of_ble_eq_true rfl) rfl rfl (Nat.le_of_ble_eq_true rfl) dX12_told_2 (fun r2 s1 h => ?_)
  refine x_lstore (lv' := [(5, .long r2), (0, .long p0), (2, .long p1), (4, .int p2)]) F dX12_told_5 (by decide) rfl ?_
  refine x_iload F dX12_told_7 3 rfl ?_
  refine x_if_ne (tgt := 19) F dX12_told_9 (by decide) (fun c => ?_) (fun c => ?_)
  · replace h := h.1 c
    refine x_lload_n F dX12_told_19 rfl 2 rfl ?_
    refine x_lload F dX12_told_20 0 rfl ?_
    obtain ⟨hj, h⟩ := h
    refine x_ldiv F dX12_told_22 hj ?_
    exact hret _ _ _ _ h dX12_told_23
  · replace h := h.2 c
    refine x_lload_n F dX12_told_12 rfl 1 rfl ?_
    refine x_lload F dX12_told_13 0 rfl ?_
    obtain ⟨hj, h⟩ := h
    refine x_ldiv F dX12_told_15 hj ?_
    refine x_goto (tgt := 23) F dX12_told_16 (by decide) ?_
    exact hret _ _ _ _ h dX12_told_23
/-! X12_isLess -/
abbrev wvX12_isLess : List Cond := Cond.code yX12_isLess cX12_isLess 21 (some .boolean) :: wsL_law
theorem cd_X12_isLess : okN yX12_isLess RX12 4 := by unfold okN; decide +kernel
def b_X12_isLess_132  (K17 : Int64 → Int64 → Int64 → Int64 → Int32 → wS → Prop) (Q : Int32 → wS → Prop) (x8 : Int64) (x10 : Int64) (x12 : Int64) (x14 : Int64) (z0 : Int32) (σ : wS) : Prop := K17 x8 x10 x12 x14 z0 σ
set_option maxRecDepth 100000 in
set_option maxHeartbeats 4000000 in
theorem wb_X12_isLess_132 {X : XT} {Q : Int32 → wS → Prop}  (F : Fx X cX12_isLess 21 RX12 wvX12_isLess 0 0) (hret : Ri X 21 cX12_isLess .boolean Q)  {K17 : Int64 → Int64 → Int64 → Int64 → Int32 → wS → Prop} (hK17 : ∀ (x8 : Int64) (x10 : Int64) (x12 : Int64) (x14 : Int64) (x16 : Int32) (σ : wS), K17 x8 x10 x12 x14 x16 σ → Wx X 21 σ 17 [(8, .long x8), (10, .long x10), (12, .long x12), (14, .long x14), (16, .int x16)] []) (x8 : Int64) (x10 : Int64) (x12 : Int64) (x14 : Int64) (z0 : Int32) (σ : wS) (h : b_X12_isLess_132  K17 Q x8 x10 x12 x14 z0 σ) : Wx X 21 σ 132 [(8, .long x8), (10, .long x10), (12, .long x12), (14, .long x14)] [.int z0] := by
  unfold b_X12_isLess_132 at h
  refine x_istore (lv' := [(16, .int z0), (8, .long x8), (10, .long x10), (12, .long x12), (14, .long x14)]) F dX12_isLess_132 (by decide) rfl ?_
  refine x_goto (tgt := 17) F dX12_isLess_134 (by decide) ?_
  refine x_sub (lv' := [(8, .long x8), (10, .long x10), (12, .long x12), (14, .long x14), (16, .int z0)]) [1, 2, 3, 4, 0] rfl ?_
  exact hK17 _ _ _ _ _ _ h
def b_X12_isLess_82   (Q : Int32 → wS → Prop)  (σ : wS) : Prop := Q (0 : Int32) σ
set_option maxRecDepth 100000 in
set_option maxHeartbeats 4000000 in
theorem wb_X12_isLess_82 {X : XT} {Q : Int32 → wS → Prop}  (F : Fx X cX12_isLess 21 RX12 wvX12_isLess 0 0) (hret : Ri X 21 cX12_isLess .boolean Q)     (σ : wS) (h : b_X12_isLess_82   Q  σ) : Wx X 21 σ 82 [] [] := by
  unfold b_X12_isLess_82 at h
  refine x_iconst (0 : Int32) F dX12_isLess_82 (by decide) ?_
  refine x_goto (tgt := 105) F dX12_isLess_83 (by decide) ?_
  exact hret _ _ _ _ h (nar01 (by decide)) dX12_isLess_105
def b_X12_isLess_59   (Q : Int32 → wS → Prop) (x16 : Int32) (x17 : Int64) (x19 : Int64) (σ : wS) : Prop := (x16 = 0 → ((¬ (lg_cmp x17 (0 : Int64)) = 0 → (Q (0 : Int32) σ)) ∧ ((lg_cmp x17 (0 : Int64)) = 0 → (((lg_cmp x19 (0 : Int64)) = 0 → (Q (0 : Int32) σ)) ∧ (¬ (lg_cmp x19 (0 : Int64)) = 0 → (Q (1 : Int32) σ)))))) ∧ (¬ x16 = 0 → ((¬ (lg_cmp x19 (0 : Int64)) = 0 → (b_X12_isLess_82   Q  σ)) ∧ ((lg_cmp x19 (0 : Int64)) = 0 → (((lg_cmp x17 (0 : Int64)) = 0 → (b_X12_isLess_82   Q  σ)) ∧ (¬ (lg_cmp x17 (0 : Int64)) = 0 → (Q (1 : Int32) σ))))))
set_option maxRecDepth 100000 in
set_option maxHeartbeats 4000000 in
theorem wb_X12_isLess_59 {X : XT} {Q : Int32 → wS → Prop}  (F : Fx X cX12_isLess 21 RX12 wvX12_isLess 0 0) (hret : Ri X 21 cX12_isLess .boolean Q)    (x16 : Int32) (x17 : Int64) (x19 : Int64) (σ : wS) (h : b_X12_isLess_59   Q x16 x17 x19 σ) : Wx X 21 σ 59 [(16, .int x16), (17, .long x17), (19, .long x19)] [] := by
  unfold b_X12_isLess_59 at h
  refine x_iload F dX12_isLess_59 0 rfl ?_
  refine x_if_eq (tgt := 86) F dX12_isLess_61 (by decide) (fun c => ?_) (fun c => ?_)
  · replace h := h.1 c
    refine x_lload F dX12_isLess_86 1 rfl ?_
    refine x_lconst (0 : Int64) F dX12_isLess_88 (by decide) ?_
    refine x_lcmp F dX12_isLess_89 ?_
    refine x_if_ne (tgt := 104) F dX12_isLess_90 (by decide) (fun c => ?_) (fun c => ?_)
    · replace h := h.1 c
      refine x_iconst (0 : Int32) F dX12_isLess_104 (by decide) ?_
      exact hret _ _ _ _ h (nar01 (by decide)) dX12_isLess_105
    · replace h := h.2 c
      refine x_lload F dX12_isLess_93 2 rfl ?_
      refine x_lconst (0 : Int64) F dX12_isLess_95 (by decide) ?_
      refine x_lcmp F dX12_isLess_96 ?_
      refine x_if_eq (tgt := 104) F dX12_isLess_97 (by decide) (fun c => ?_) (fun c => ?_)
      · replace h := h.1 c
        refine x_iconst (0 : Int32) F dX12_isLess_104 (by decide) ?_
        exact hret _ _ _ _ h (nar01 (by decide)) dX12_isLess_105
      · replace h := h.2 c
        refine x_iconst (1 : Int32) F dX12_isLess_100 (by decide) ?_
        refine x_goto (tgt := 105) F dX12_isLess_101 (by decide) ?_
        exact hret _ _ _ _ h (nar01 (by decide)) dX12_isLess_105
  · replace h := h.2 c
    refine x_lload F dX12_isLess_64 2 rfl ?_
    refine x_lconst (0 : Int64) F dX12_isLess_66 (by decide) ?_
    refine x_lcmp F dX12_isLess_67 ?_
    refine x_if_ne (tgt := 82) F dX12_isLess_68 (by decide) (fun c => ?_) (fun c => ?_)
    · replace h := h.1 c
      refine x_sub (lv' := []) [] rfl ?_
      exact wb_X12_isLess_82 F hret    _ h
    · replace h := h.2 c
      refine x_lload F dX12_isLess_71 1 rfl ?_
      refine x_lconst (0 : Int64) F dX12_isLess_73 (by decide) ?_
      refine x_lcmp F dX12_isLess_74 ?_
      refine x_if_eq (tgt := 82) F dX12_isLess_75 (by decide) (fun c => ?_) (fun c => ?_)
      · replace h := h.1 c
        refine x_sub (lv' := []) [] rfl ?_
        exact wb_X12_isLess_82 F hret    _ h
      · replace h := h.2 c
        refine x_iconst (1 : Int32) F dX12_isLess_78 (by decide) ?_
        refine x_goto (tgt := 105) F dX12_isLess_79 (by decide) ?_
        exact hret _ _ _ _ h (nar01 (by decide)) dX12_isLess_105
def l_X12_isLess_17   (Q : Int32 → wS → Prop) : Nat → Int64 → Int64 → Int64 → Int64 → Int32 → wS → Prop
  | 0, _, _, _, _, _, _ => False
  | n + 1, x8, x10, x12, x14, x16, σ => ¬ x10 = 0 ∧ (¬ x14 = 0 ∧ ((¬ (lg_cmp (x8 / x10) (x12 / x14)) = 0 → ((x16 = 0 → (¬ x10 = 0 ∧ (¬ x14 = 0 ∧ ((0 ≤ (lg_cmp (x8 / x10) (x12 / x14)) → (Q (0 : Int32) σ)) ∧ (¬ 0 ≤ (lg_cmp (x8 / x10) (x12 / x14)) → (Q (1 : Int32) σ)))))) ∧ (¬ x16 = 0 → (¬ x10 = 0 ∧ (¬ x14 = 0 ∧ (((lg_cmp (x8 / x10) (x12 / x14)) ≤ 0 → (Q (0 : Int32) σ)) ∧ (¬ (lg_cmp (x8 / x10) (x12 / x14)) ≤ 0 → (Q (1 : Int32) σ)))))))) ∧ ((lg_cmp (x8 / x10) (x12 / x14)) = 0 → (¬ x10 = 0 ∧ (∀ y1 : Int64, y1 = (x8 - x8 / x10 * x10) → (¬ x14 = 0 ∧ (∀ y2 : Int64, y2 = (x12 - x12 / x14 * x14) → (((lg_cmp y1 (0 : Int64)) = 0 → (b_X12_isLess_59   Q x16 y1 y2 σ)) ∧ (¬ (lg_cmp y1 (0 : Int64)) = 0 → ((¬ (lg_cmp y2 (0 : Int64)) = 0 → ((¬ x16 = 0 → (b_X12_isLess_132  (fun x8 x10 x12 x14 x16 σ => l_X12_isLess_17   Q n x8 x10 x12 x14 x16 σ) Q x10 y1 x14 y2 (0 : Int32) σ)) ∧ (x16 = 0 → (b_X12_isLess_132  (fun x8 x10 x12 x14 x16 σ => l_X12_isLess_17   Q n x8 x10 x12 x14 x16 σ) Q x10 y1 x14 y2 (1 : Int32) σ)))) ∧ ((lg_cmp y2 (0 : Int64)) = 0 → (b_X12_isLess_59   Q x16 y1 y2 σ))))))))))))
set_option maxRecDepth 100000 in
set_option maxHeartbeats 4000000 in
theorem wl_X12_isLess_17 {X : XT} {Q : Int32 → wS → Prop}  (F : Fx X cX12_isLess 21 RX12 wvX12_isLess 0 0) (hret : Ri X 21 cX12_isLess .boolean Q)    : ∀ (n : Nat) (x8 : Int64) (x10 : Int64) (x12 : Int64) (x14 : Int64) (x16 : Int32) (σ : wS), l_X12_isLess_17   Q n x8 x10 x12 x14 x16 σ → Wx X 21 σ 17 [(8, .long x8), (10, .long x10), (12, .long x12), (14, .long x14), (16, .int x16)] [] := by
  intro n
  induction n with
  | zero =>
    intros
    contradiction
  | succ n ih =>
    intro x8 x10 x12 x14 x16 σ h
    simp only [l_X12_isLess_17] at h
    refine x_lload F dX12_isLess_17 0 rfl ?_
    refine x_lload F dX12_isLess_19 1 rfl ?_
    obtain ⟨hj, h⟩ := h
    refine x_ldiv F dX12_isLess_21 hj ?_
    refine x_lload F dX12_isLess_22 2 rfl ?_
    refine x_lload F dX12_isLess_24 3 rfl ?_
    obtain ⟨hj, h⟩ := h
    refine x_ldiv F dX12_isLess_26 hj ?_
    refine x_lcmp F dX12_isLess_27 ?_
    refine x_if_ne (tgt := 137) F dX12_isLess_28 (by decide) (fun c => ?_) (fun c => ?_)
    · replace h := h.1 c
      refine x_iload F dX12_isLess_137 4 rfl ?_
      refine x_if_eq (tgt := 164) F dX12_isLess_139 (by decide) (fun c => ?_) (fun c => ?_)
      · replace h := h.1 c
        refine x_lload F dX12_isLess_164 0 rfl ?_
        refine x_lload F dX12_isLess_166 1 rfl ?_
        obtain ⟨hj, h⟩ := h
        refine x_ldiv F dX12_isLess_168 hj ?_
        refine x_lload F dX12_isLess_169 2 rfl ?_
        refine x_lload F dX12_isLess_171 3 rfl ?_
        obtain ⟨hj, h⟩ := h
        refine x_ldiv F dX12_isLess_173 hj ?_
        refine x_lcmp F dX12_isLess_174 ?_
        refine x_if_ge (tgt := 182) F dX12_isLess_175 (by decide) (fun c => ?_) (fun c => ?_)
        · replace h := h.1 c
          refine x_iconst (0 : Int32) F dX12_isLess_182 (by decide) ?_
          exact hret _ _ _ _ h (nar01 (by decide)) dX12_isLess_183
        · replace h := h.2 c
          refine x_iconst (1 : Int32) F dX12_isLess_178 (by decide) ?_
          refine x_goto (tgt := 183) F dX12_isLess_179 (by decide) ?_
          exact hret _ _ _ _ h (nar01 (by decide)) dX12_isLess_183
      · replace h := h.2 c
        refine x_lload F dX12_isLess_142 0 rfl ?_
        refine x_lload F dX12_isLess_144 1 rfl ?_
        obtain ⟨hj, h⟩ := h
        refine x_ldiv F dX12_isLess_146 hj ?_
        refine x_lload F dX12_isLess_147 2 rfl ?_
        refine x_lload F dX12_isLess_149 3 rfl ?_
        obtain ⟨hj, h⟩ := h
        refine x_ldiv F dX12_isLess_151 hj ?_
        refine x_lcmp F dX12_isLess_152 ?_
        refine x_if_le (tgt := 160) F dX12_isLess_153 (by decide) (fun c => ?_) (fun c => ?_)
        · replace h := h.1 c
          refine x_iconst (0 : Int32) F dX12_isLess_160 (by decide) ?_
          refine x_goto (tgt := 183) F dX12_isLess_161 (by decide) ?_
          exact hret _ _ _ _ h (nar01 (by decide)) dX12_isLess_183
        · replace h := h.2 c
          refine x_iconst (1 : Int32) F dX12_isLess_156 (by decide) ?_
          refine x_goto (tgt := 183) F dX12_isLess_157 (by decide) ?_
          exact hret _ _ _ _ h (nar01 (by decide)) dX12_isLess_183
    · replace h := h.2 c
      refine x_lload F dX12_isLess_31 0 rfl ?_
      refine x_lload F dX12_isLess_33 1 rfl ?_
      obtain ⟨hj, h⟩ := h
      refine x_lrem F dX12_isLess_35 hj ?_
      refine x_topl (fun y1 ey1 => ?_)
      replace h := h y1 ey1
      refine x_lstore (lv' := [(17, .long y1), (8, .long x8), (10, .long x10), (12, .long x12), (14, .long x14), (16, .int x16)]) F dX12_isLess_36 (by decide) rfl ?_
      refine x_lload F dX12_isLess_38 3 rfl ?_
      refine x_lload F dX12_isLess_40 4 rfl ?_
      obtain ⟨hj, h⟩ := h
      refine x_lrem F dX12_isLess_42 hj ?_
      refine x_topl (fun y2 ey2 => ?_)
      replace h := h y2 ey2
      refine x_lstore (lv' := [(19, .long y2), (17, .long y1), (8, .long x8), (10, .long x10), (12, .long x12), (14, .long x14), (16, .int x16)]) F dX12_isLess_43 (by decide) rfl ?_
      refine x_lload F dX12_isLess_45 1 rfl ?_
      refine x_lconst (0 : Int64) F dX12_isLess_47 (by decide) ?_
      refine x_lcmp F dX12_isLess_48 ?_
      refine x_if_eq (tgt := 59) F dX12_isLess_49 (by decide) (fun c => ?_) (fun c => ?_)
      · replace h := h.1 c
        refine x_sub (lv' := [(16, .int x16), (17, .long y1), (19, .long y2)]) [6, 1, 0] rfl ?_
        exact wb_X12_isLess_59 F hret   _ _ _ _ h
      · replace h := h.2 c
        refine x_lload F dX12_isLess_52 0 rfl ?_
        refine x_lconst (0 : Int64) F dX12_isLess_54 (by decide) ?_
        refine x_lcmp F dX12_isLess_55 ?_
        refine x_if_ne (tgt := 106) F dX12_isLess_56 (by decide) (fun c => ?_) (fun c => ?_)
        · replace h := h.1 c
          refine x_lload F dX12_isLess_106 3 rfl ?_
          refine x_lstore (lv' := [(8, .long x10), (19, .long y2), (17, .long y1), (10, .long x10), (12, .long x12), (14, .long x14), (16, .int x16)]) F dX12_isLess_108 (by decide) rfl ?_
          refine x_lload F dX12_isLess_110 2 rfl ?_
          refine x_lstore (lv' := [(10, .long y1), (8, .long x10), (19, .long y2), (17, .long y1), (12, .long x12), (14, .long x14), (16, .int x16)]) F dX12_isLess_112 (by decide) rfl ?_
          refine x_lload F dX12_isLess_114 5 rfl ?_
          refine x_lstore (lv' := [(12, .long x14), (10, .long y1), (8, .long x10), (19, .long y2), (17, .long y1), (14, .long x14), (16, .int x16)]) F dX12_isLess_116 (by decide) rfl ?_
          refine x_lload F dX12_isLess_118 3 rfl ?_
          refine x_lstore (lv' := [(14, .long y2), (12, .long x14), (10, .long y1), (8, .long x10), (19, .long y2), (17, .long y1), (16, .int x16)]) F dX12_isLess_120 (by decide) rfl ?_
          refine x_iload F dX12_isLess_122 6 rfl ?_
          refine x_if_ne (tgt := 131) F dX12_isLess_124 (by decide) (fun c => ?_) (fun c => ?_)
          · replace h := h.1 c
            refine x_iconst (0 : Int32) F dX12_isLess_131 (by decide) ?_
            refine x_sub (lv' := [(8, .long x10), (10, .long y1), (12, .long x14), (14, .long y2)]) [3, 2, 1, 0] rfl ?_
            exact wb_X12_isLess_132 F hret  ih _ _ _ _ _ _ h
          · replace h := h.2 c
            refine x_iconst (1 : Int32) F dX12_isLess_127 (by decide) ?_
            refine x_goto (tgt := 132) F dX12_isLess_128 (by decide) ?_
            refine x_sub (lv' := [(8, .long x10), (10, .long y1), (12, .long x14), (14, .long y2)]) [3, 2, 1, 0] rfl ?_
            exact wb_X12_isLess_132 F hret  ih _ _ _ _ _ _ h
        · replace h := h.2 c
          refine x_sub (lv' := [(16, .int x16), (17, .long y1), (19, .long y2)]) [6, 1, 0] rfl ?_
          exact wb_X12_isLess_59 F hret   _ _ _ _ h
def w_X12_isLess  (p0 : Int64) (p1 : Int64) (p2 : Int64) (p3 : Int64) (σ : wS) (Q : Int32 → wS → Prop) : Prop := (∃ m, l_X12_isLess_17   Q m p0 p1 p2 p3 (0 : Int32) σ)
set_option maxRecDepth 100000 in
set_option maxHeartbeats 4000000 in
theorem c_X12_isLess (l : Launch) (g : wG) (A : Nat → Prop) (hA : adO g A)   {p0 : Int64} {p1 : Int64} {p2 : Int64} {p3 : Int64} {σ : wS} {Q : Int32 → wS → Prop} (h : w_X12_isLess  p0 p1 p2 p3 σ Q) : Mi l yX12_isLess wvX12_isLess 0 0 g A [.long p0, .long p1, .long p2, .long p3] σ Q := by
  refine mt_i (own := RX12) (lv := [(0, .long p0), (2, .long p1), (4, .long p2), (6, .long p3)]) (by decide) rfl rfl hA (Nat.le_of_ble_eq_true rfl) rfl ?_
  intro X hl hg hAA F hret
  subst hl hg hAA
  unfold w_X12_isLess at h
  refine x_lload_n F dX12_isLess_0 rfl 0 rfl ?_
  refine x_lstore (lv' := [(8, .long p0), (0, .long p0), (2, .long p1), (4, .long p2), (6, .long p3)]) F dX12_isLess_1 (by decide) rfl ?_
  refine x_lload_n F dX12_isLess_3 rfl 2 rfl ?_
  refine x_lstore (lv' := [(10, .long p1), (8, .long p0), (0, .long p0), (2, .long p1), (4, .long p2), (6, .long p3)]) F dX12_isLess_4 (by decide) rfl ?_
  refine x_lload F dX12_isLess_6 4 rfl ?_
  refine x_lstore (lv' := [(12, .long p2), (10, .long p1), (8, .long p0), (0, .long p0), (2, .long p1), (4, .long p2), (6, .long p3)]) F dX12_isLess_8 (by decide) rfl ?_
  refine x_lload F dX12_isLess_10 6 rfl ?_
  refine x_lstore (lv' := [(14, .long p3), (12, .long p2), (10, .long p1), (8, .long p0), (0, .long p0), (2, .long p1), (4, .long p2), (6, .long p3)]) F dX12_isLess_12 (by decide) rfl ?_
  refine x_iconst (0 : Int32) F dX12_isLess_14 (by decide) ?_
  refine x_istore (lv' := [(16, .int (0 : Int32)), (14, .long p3), (12, .long p2), (10, .long p1), (8, .long p0), (0, .long p0), (2, .long p1), (4, .long p2), (6, .long p3)]) F dX12_isLess_15 (by decide) rfl ?_
  refine x_sub (lv' := [(8, .long p0), (10, .long p1), (12, .long p2), (14, .long p3), (16, .int (0 : Int32))]) [4, 3, 2, 1, 0] rfl ?_
  obtain ⟨n2, h⟩ := h
  exact wl_X12_isLess_17 F hret   n2 _ _ _ _ _ _ h
/-! X12_asks -/
abbrev wvX12_asks : List Cond := Cond.code yX12_asks cX12_asks 2 none :: wsL_law
theorem cd_X12_asks : okN yX12_asks RX12 1 := by unfold okN; decide +kernel
def w_X12_asks (p0 : Nat)  (σ : wS) (Q : wS → Prop) : Prop := w_X12_those p0 (σ.1 176 14) (0 : Int32) σ (fun r2 s1 => w_X12_solves p0 r2 s1 (fun s3 => Q s3))
set_option maxRecDepth 100000 in
set_option maxHeartbeats 4000000 in
theorem c_X12_asks (l : Launch) (g : wG) (A : Nat → Prop) (hA : adO g A) {p0 : Nat} (k_p0 : kd p0 = 14)  {σ : wS} {Q : wS → Prop} (h : w_X12_asks p0  σ Q) : Mv l yX12_asks wvX12_asks 4 98 g A [.ref (g.2.2 176), .ref (g.2.2 p0)] σ Q := by
  refine mt_v (own := RX12) (lv := [(0, .ref (g.2.2 176)), (1, .ref (g.2.2 p0))]) (by decide) rfl rfl hA (Nat.le_of_ble_eq_true rfl) rfl ?_
  intro X hl hg hAA F hret
  subst hl hg hAA
  unfold w_X12_asks at h
  refine x_aload_n F dX12_asks_0 rfl 0 rfl ?_
  refine x_aload_n F dX12_asks_1 rfl 1 rfl ?_
  refine x_aload_n F dX12_asks_2 rfl 1 rfl ?_
  refine x_aload_n F dX12_asks_3 rfl 0 rfl ?_
  refine g_12_14 F kz_176 in_12 (mc bw_22_18) dX12_asks_4 ?_
  refine x_iconst (0 : Int32) F dX12_asks_7 (by decide) ?_
  refine x_callT_i F (c_X12_those (xl X) (xg X) (xA X) F.2.2.1 k_p0 h) (bw_S bw_23_11 bw_23_12 bw_1_5 bw_23_13) rfl cd_X12_those (Nat.le_of_ble_eq_true rfl) (Nat.le_of_ble_eq_true rfl) rfl rfl (Nat.le_of_ble_eq_true rfl) dX12_asks_8 (fun r2 s1 h => ?_)
  refine x_callV_v F (c_X12_solves (xl X) (xg X) (xA X) F.2.2.1 k_p0 h) (bw_V bw_23_18 bw_23_19 bw_23_20 bw_1_5 bw_23_21) rfl cd_X12_solves (Nat.le_of_ble_eq_true rfl) (Nat.le_of_ble_eq_true rfl) (kd_w (by decide) kz_176) rfl (cl_12 kz_176) rfl rfl (Nat.le_of_ble_eq_true rfl) dX12_asks_11 (fun s3 h => ?_)
  exact hret _ _ _ h dX12_asks_14
/-! X12_rule -/
abbrev wvX12_rule : List Cond := Cond.code yX12_rule cX12_rule 2 (some .int) :: wsL_law
theorem cd_X12_rule : okN yX12_rule RX12 1 := by unfold okN; decide +kernel
def w_X12_rule  (p0 : Int32) (σ : wS) (Q : Int32 → wS → Prop) : Prop := ∀ s1 : wS, s1 = upI σ 176 0 (0 : Int32) → (((s1.1 176 14) = 0 → (Q (-1000000 : Int32) s1)) ∧ (¬ (s1.1 176 14) = 0 → (w_X12_isIn (p0).toInt64 (0 : Int64) (4 : Int64) s1 (fun r3 s2 => (¬ r3 = 0 → ((¬ p0 = 0 → ((¬ p0 = (4 : Int32) → (vp_in (((16 : Int32) + p0) - (1 : Int32)) 202 ∧ (Q (s2.1 188 ((((16 : Int32) + p0) - (1 : Int32))).toNatClampNeg) s2))) ∧ (p0 = (4 : Int32) → (Q (s2.1 188 ((19 : Int32)).toNatClampNeg) s2)))) ∧ (p0 = 0 → (Q (s2.1 179 ((0 : Int32)).toNatClampNeg) s2)))) ∧ (r3 = 0 → (Q (-1000000 : Int32) s2))))))
set_option maxRecDepth 100000 in
set_option maxHeartbeats 4000000 in
theorem c_X12_rule (l : Launch) (g : wG) (A : Nat → Prop) (hA : adO g A)   {p0 : Int32} {σ : wS} {Q : Int32 → wS → Prop} (h : w_X12_rule  p0 σ Q) : Mi l yX12_rule wvX12_rule 1 25 g A [.ref (g.2.2 176), .int p0] σ Q := by
  refine mt_i (own := RX12) (lv := [(0, .ref (g.2.2 176)), (1, .int p0)]) (by decide) rfl rfl hA (Nat.le_of_ble_eq_true rfl) rfl ?_
  intro X hl hg hAA F hret
  subst hl hg hAA
  unfold w_X12_rule at h
  refine x_aload_n F dX12_rule_0 rfl 0 rfl ?_
  refine x_iconst (0 : Int32) F dX12_rule_1 (by decide) ?_
  refine q_12_0 F kz_176 in_12 (mc bw_8_21) dX12_rule_2 ?_
  refine x_nmS (fun s1 es1 => ?_)
  replace h := h s1 es1
  refine x_aload_n F dX12_rule_5 rfl 0 rfl ?_
  refine g_12_14 F kz_176 in_12 (mc bw_22_18) dX12_rule_6 ?_
  refine x_if_eq (tgt := 24) F dX12_rule_9 (by decide) (fun c => ?_) (fun c => ?_)
  · replace h := h.1 c
    refine x_ldc F dX12_rule_24 (mc bw_18_9) ?_
    exact hret _ _ _ _ h rfl dX12_rule_26
  · replace h := h.2 c
    refine x_iload_n F dX12_rule_12 rfl 1 rfl ?_
    refine x_i2l F dX12_rule_13 ?_
    refine x_lconst (0 : Int64) F dX12_rule_14 (by decide) ?_
    refine x_ldc2 F dX12_rule_15 (mc bw_26_12) ?_
    refine x_callT_i F (c_X12_isIn (xl X) (xg X) (xA X) F.2.2.1  h) (bw_S bw_13_13 bw_13_14 bw_1_5 bw_13_15) rfl cd_X12_isIn (Nat.le_of_ble_eq_true rfl) (Nat.le_of_ble_eq_true rfl) rfl rfl (Nat.le_of_ble_eq_true rfl) dX12_rule_18 (fun r3 s2 h => ?_)
    refine x_if_ne (tgt := 27) F dX12_rule_21 (by decide) (fun c => ?_) (fun c => ?_)
    · replace h := h.1 c
      refine x_iload_n F dX12_rule_27 rfl 1 rfl ?_
      refine x_if_ne (tgt := 40) F dX12_rule_28 (by decide) (fun c => ?_) (fun c => ?_)
      · replace h := h.1 c
        refine x_iload_n F dX12_rule_40 rfl 1 rfl ?_
        refine x_iconst (4 : Int32) F dX12_rule_41 (by decide) ?_
        refine x_icmp_ne (tgt := 55) F dX12_rule_42 (by decide) (fun c => ?_) (fun c => ?_)
        · replace h := h.1 c
          refine x_aload_n F dX12_rule_55 rfl 0 rfl ?_
          refine g_12_19 F kz_176 in_12 (mc bw_7_18) dX12_rule_56 ?_
          refine x_bipush (16 : Int32) F dX12_rule_59 (by decide) ?_
          refine x_iload_n F dX12_rule_61 rfl 1 rfl ?_
          refine x_iadd F dX12_rule_62 ?_
          refine x_iconst (1 : Int32) F dX12_rule_63 (by decide) ?_
          refine x_isub F dX12_rule_64 ?_
          obtain ⟨hj, h⟩ := h
          refine x_iald F kz_188 nz_188 hj dX12_rule_65 ?_
          exact hret _ _ _ _ h rfl dX12_rule_66
        · replace h := h.2 c
          refine x_aload_n F dX12_rule_45 rfl 0 rfl ?_
          refine g_12_19 F kz_176 in_12 (mc bw_7_18) dX12_rule_46 ?_
          refine x_bipush (19 : Int32) F dX12_rule_49 (by decide) ?_
          refine x_iald F kz_188 nz_188 (by unfold vp_in; decide) dX12_rule_51 ?_
          refine x_goto (tgt := 66) F dX12_rule_52 (by decide) ?_
          exact hret _ _ _ _ h rfl dX12_rule_66
      · replace h := h.2 c
        refine x_aload_n F dX12_rule_31 rfl 0 rfl ?_
        refine g_12_6 F kz_176 in_12 (mc bw_7_9) dX12_rule_32 ?_
        refine x_iconst (0 : Int32) F dX12_rule_35 (by decide) ?_
        refine x_iald F kz_179 nz_179 (by unfold vp_in; decide) dX12_rule_36 ?_
        refine x_goto (tgt := 66) F dX12_rule_37 (by decide) ?_
        exact hret _ _ _ _ h rfl dX12_rule_66
    · replace h := h.2 c
      refine x_ldc F dX12_rule_24 (mc bw_18_9) ?_
      exact hret _ _ _ _ h rfl dX12_rule_26
/-! X12_rope -/
abbrev wvX12_rope : List Cond := Cond.code yX12_rope cX12_rope 3 (some .int) :: wsL_law
theorem cd_X12_rope : okN yX12_rope RX12 2 := by unfold okN; decide +kernel
def b_X12_rope_25   (Q : Int32 → wS → Prop)  (σ : wS) : Prop := ∀ s1 : wS, s1 = upI σ 176 0 (1 : Int32) → (Q (0 : Int32) s1)
set_option maxRecDepth 100000 in
set_option maxHeartbeats 4000000 in
theorem wb_X12_rope_25 {X : XT} {Q : Int32 → wS → Prop}  (F : Fx X cX12_rope 3 RX12 wvX12_rope 1 25) (hret : Ri X 3 cX12_rope .int Q)     (σ : wS) (h : b_X12_rope_25   Q  σ) : Wx X 3 σ 25 [(0, .ref (ad X 176))] [] := by
  unfold b_X12_rope_25 at h
  refine x_aload_n F dX12_rope_25 rfl 0 rfl ?_
  refine x_iconst (1 : Int32) F dX12_rope_26 (by decide) ?_
  refine q_12_0 F kz_176 in_12 (mc bw_8_21) dX12_rope_27 ?_
  refine x_nmS (fun s1 es1 => ?_)
  replace h := h s1 es1
  refine x_iconst (0 : Int32) F dX12_rope_30 (by decide) ?_
  exact hret _ _ _ _ h rfl dX12_rope_31
def w_X12_rope  (p0 : Int32) (p1 : Int32) (σ : wS) (Q : Int32 → wS → Prop) : Prop := ∀ s1 : wS, s1 = upI σ 176 0 (0 : Int32) → (w_X12_isRope p0 s1 (fun r3 s2 => (r3 = 0 → (b_X12_rope_25   Q  s2)) ∧ (¬ r3 = 0 → (w_X12_isIn (p1).toInt64 (0 : Int64) (8 : Int64) s2 (fun r5 s4 => (¬ r5 = 0 → (((5 : Int32) ≤ p1 → ((¬ p1 = (5 : Int32) → ((¬ p1 = (6 : Int32) → ((¬ p1 = (7 : Int32) → (vp_in ((8 : Int32) + p0) 202 ∧ (Q (s4.1 188 (((8 : Int32) + p0)).toNatClampNeg) s4))) ∧ (p1 = (7 : Int32) → (vp_in ((0 : Int32) + p0) 202 ∧ (Q (s4.1 188 (((0 : Int32) + p0)).toNatClampNeg) s4))))) ∧ (p1 = (6 : Int32) → (w_X12_strength p0 s4 (fun r7 s6 => Q r7 s6))))) ∧ (p1 = (5 : Int32) → (vp_in (((3 : Int32) * p0) + (2 : Int32)) 24 ∧ (Q (s4.1 182 ((((3 : Int32) * p0) + (2 : Int32))).toNatClampNeg) s4))))) ∧ (¬ (5 : Int32) ≤ p1 → (vp_in (((7 : Int32) * p0) + p1) 56 ∧ (Q (s4.1 181 ((((7 : Int32) * p0) + p1)).toNatClampNeg) s4))))) ∧ (r5 = 0 → (b_X12_rope_25   Q  s4)))))))
set_option maxRecDepth 100000 in
set_option maxHeartbeats 4000000 in
theorem c_X12_rope (l : Launch) (g : wG) (A : Nat → Prop) (hA : adO g A)   {p0 : Int32} {p1 : Int32} {σ : wS} {Q : Int32 → wS → Prop} (h : w_X12_rope  p0 p1 σ Q) : Mi l yX12_rope wvX12_rope 1 25 g A [.ref (g.2.2 176), .int p0, .int p1] σ Q := by
  refine mt_i (own := RX12) (lv := [(0, .ref (g.2.2 176)), (1, .int p0), (2, .int p1)]) (by decide) rfl rfl hA (Nat.le_of_ble_eq_true rfl) rfl ?_
  intro X hl hg hAA F hret
  subst hl hg hAA
  unfold w_X12_rope at h
  refine x_aload_n F dX12_rope_0 rfl 0 rfl ?_
  refine x_iconst (0 : Int32) F dX12_rope_1 (by decide) ?_
  refine q_12_0 F kz_176 in_12 (mc bw_8_21) dX12_rope_2 ?_
  refine x_nmS (fun s1 es1 => ?_)
  replace h := h s1 es1
  refine x_aload_n F dX12_rope_5 rfl 0 rfl ?_
  refine x_iload_n F dX12_rope_6 rfl 1 rfl ?_
  refine x_callV_i F (c_X12_isRope (xl X) (xg X) (xA X) F.2.2.1  h) (bw_V bw_27_21 bw_27_22 bw_27_23 bw_1_5 bw_28_0) rfl cd_X12_isRope (Nat.le_of_ble_eq_true rfl) (Nat.le_of_ble_eq_true rfl) (kd_w (by decide) kz_176) rfl (cl_12 kz_176) rfl rfl (Nat.le_of_ble_eq_true rfl) dX12_rope_7 (fun r3 s2 h => ?_)
  refine x_if_eq (tgt := 25) F dX12_rope_10 (by decide) (fun c => ?_) (fun c => ?_)
  · replace h := h.1 c
    refine x_sub (lv' := [(0, .ref (ad X 176))]) [0] rfl ?_
    exact wb_X12_rope_25 F hret    _ h
  · replace h := h.2 c
    refine x_iload_n F dX12_rope_13 rfl 2 rfl ?_
    refine x_i2l F dX12_rope_14 ?_
    refine x_lconst (0 : Int64) F dX12_rope_15 (by decide) ?_
    refine x_ldc2 F dX12_rope_16 (mc bw_27_20) ?_
    refine x_callT_i F (c_X12_isIn (xl X) (xg X) (xA X) F.2.2.1  h) (bw_S bw_13_13 bw_13_14 bw_1_5 bw_13_15) rfl cd_X12_isIn (Nat.le_of_ble_eq_true rfl) (Nat.le_of_ble_eq_true rfl) rfl rfl (Nat.le_of_ble_eq_true rfl) dX12_rope_19 (fun r5 s4 h => ?_)
    refine x_if_ne (tgt := 32) F dX12_rope_22 (by decide) (fun c => ?_) (fun c => ?_)
    · replace h := h.1 c
      refine x_iload_n F dX12_rope_32 rfl 2 rfl ?_
      refine x_iconst (5 : Int32) F dX12_rope_33 (by decide) ?_
      refine x_icmp_ge (tgt := 49) F dX12_rope_34 (by decide) (fun c => ?_) (fun c => ?_)
      · replace h := h.1 c
        refine x_iload_n F dX12_rope_49 rfl 2 rfl ?_
        refine x_iconst (5 : Int32) F dX12_rope_50 (by decide) ?_
        refine x_icmp_ne (tgt := 67) F dX12_rope_51 (by decide) (fun c => ?_) (fun c => ?_)
        · replace h := h.1 c
          refine x_iload_n F dX12_rope_67 rfl 2 rfl ?_
          refine x_bipush (6 : Int32) F dX12_rope_68 (by decide) ?_
          refine x_icmp_ne (tgt := 81) F dX12_rope_70 (by decide) (fun c => ?_) (fun c => ?_)
          · replace h := h.1 c
            refine x_iload_n F dX12_rope_81 rfl 2 rfl ?_
            refine x_bipush (7 : Int32) F dX12_rope_82 (by decide) ?_
            refine x_icmp_ne (tgt := 98) F dX12_rope_84 (by decide) (fun c => ?_) (fun c => ?_)
            · replace h := h.1 c
              refine x_aload_n F dX12_rope_98 rfl 0 rfl ?_
              refine g_12_19 F kz_176 in_12 (mc bw_7_18) dX12_rope_99 ?_
              refine x_bipush (8 : Int32) F dX12_rope_102 (by decide) ?_
              refine x_iload_n F dX12_rope_104 rfl 1 rfl ?_
              refine x_iadd F dX12_rope_105 ?_
              obtain ⟨hj, h⟩ := h
              refine x_iald F kz_188 nz_188 hj dX12_rope_106 ?_
              exact hret _ _ _ _ h rfl dX12_rope_107
            · replace h := h.2 c
              refine x_aload_n F dX12_rope_87 rfl 0 rfl ?_
              refine g_12_19 F kz_176 in_12 (mc bw_7_18) dX12_rope_88 ?_
              refine x_iconst (0 : Int32) F dX12_rope_91 (by decide) ?_
              refine x_iload_n F dX12_rope_92 rfl 1 rfl ?_
              refine x_iadd F dX12_rope_93 ?_
              obtain ⟨hj, h⟩ := h
              refine x_iald F kz_188 nz_188 hj dX12_rope_94 ?_
              refine x_goto (tgt := 107) F dX12_rope_95 (by decide) ?_
              exact hret _ _ _ _ h rfl dX12_rope_107
          · replace h := h.2 c
            refine x_aload_n F dX12_rope_73 rfl 0 rfl ?_
            refine x_iload_n F dX12_rope_74 rfl 1 rfl ?_
            refine x_callV_i F (c_X12_strength (xl X) (xg X) (xA X) F.2.2.1  h) (bw_V bw_25_10 bw_25_11 bw_25_12 bw_1_5 bw_25_13) rfl cd_X12_strength (Nat.le_of_ble_eq_true rfl) (Nat.le_of_ble_eq_true rfl) (kd_w (by decide) kz_176) rfl (cl_12 kz_176) rfl rfl (Nat.le_of_ble_eq_true rfl) dX12_rope_75 (fun r7 s6 h => ?_)
            refine x_goto (tgt := 107) F dX12_rope_78 (by decide) ?_
            exact hret _ _ _ _ h rfl dX12_rope_107
        · replace h := h.2 c
          refine x_aload_n F dX12_rope_54 rfl 0 rfl ?_
          refine g_12_9 F kz_176 in_12 (mc bw_7_12) dX12_rope_55 ?_
          refine x_iconst (3 : Int32) F dX12_rope_58 (by decide) ?_
          refine x_iload_n F dX12_rope_59 rfl 1 rfl ?_
          refine x_imul F dX12_rope_60 ?_
          refine x_iconst (2 : Int32) F dX12_rope_61 (by decide) ?_
          refine x_iadd F dX12_rope_62 ?_
          obtain ⟨hj, h⟩ := h
          refine x_iald F kz_182 nz_182 hj dX12_rope_63 ?_
          refine x_goto (tgt := 107) F dX12_rope_64 (by decide) ?_
          exact hret _ _ _ _ h rfl dX12_rope_107
      · replace h := h.2 c
        refine x_aload_n F dX12_rope_37 rfl 0 rfl ?_
        refine g_12_8 F kz_176 in_12 (mc bw_7_11) dX12_rope_38 ?_
        refine x_bipush (7 : Int32) F dX12_rope_41 (by decide) ?_
        refine x_iload_n F dX12_rope_43 rfl 1 rfl ?_
        refine x_imul F dX12_rope_44 ?_
        refine x_iload_n F dX12_rope_45 rfl 2 rfl ?_
        refine x_iadd F dX12_rope_46 ?_
        obtain ⟨hj, h⟩ := h
        refine x_iald F kz_181 nz_181 hj dX12_rope_47 ?_
        exact hret _ _ _ _ h rfl dX12_rope_48
    · replace h := h.2 c
      refine x_sub (lv' := [(0, .ref (ad X 176))]) [0] rfl ?_
      exact wb_X12_rope_25 F hret    _ h
/-! X12_pull -/
abbrev wvX12_pull : List Cond := Cond.code yX12_pull cX12_pull 3 (some .long) :: wsL_law
theorem cd_X12_pull : okN yX12_pull RX12 2 := by unfold okN; decide +kernel
def w_X12_pull  (p0 : Int32) (p1 : Int32) (σ : wS) (Q : Int64 → wS → Prop) : Prop := ∀ s1 : wS, s1 = upI σ 176 0 (0 : Int32) → (w_X12_isRope p0 s1 (fun r3 s2 => (r3 = 0 → (Q (-1000000 : Int64) s2)) ∧ (¬ r3 = 0 → (w_X12_isIn (p1).toInt64 (0 : Int64) (1 : Int64) s2 (fun r5 s4 => (r5 = 0 → (Q (-1000000 : Int64) s4)) ∧ (¬ r5 = 0 → (vp_in ((8 : Int32) + p0) 202 ∧ (((s4.1 188 (((8 : Int32) + p0)).toNatClampNeg) < (2 : Int32) → (w_X12_asks 188 s4 (fun s6 => w_X12_pullOf 188 p0 s6 (fun r9 s8 => w_X12_told r9 (s8.2 176 29) p1 s8 (fun r11 s10 => Q r11 s10))))) ∧ (¬ (s4.1 188 (((8 : Int32) + p0)).toNatClampNeg) < (2 : Int32) → (Q (-1000000 : Int64) s4))))))))))
set_option maxRecDepth 100000 in
set_option maxHeartbeats 4000000 in
theorem c_X12_pull (l : Launch) (g : wG) (A : Nat → Prop) (hA : adO g A)   {p0 : Int32} {p1 : Int32} {σ : wS} {Q : Int64 → wS → Prop} (h : w_X12_pull  p0 p1 σ Q) : Ml l yX12_pull wvX12_pull 5 119 g A [.ref (g.2.2 176), .int p0, .int p1] σ Q := by
  refine mt_l (own := RX12) (lv := [(0, .ref (g.2.2 176)), (1, .int p0), (2, .int p1)]) (by decide) rfl rfl hA (Nat.le_of_ble_eq_true rfl) rfl ?_
  intro X hl hg hAA F hret
  subst hl hg hAA
  unfold w_X12_pull at h
  refine x_aload_n F dX12_pull_0 rfl 0 rfl ?_
  refine x_iconst (0 : Int32) F dX12_pull_1 (by decide) ?_
  refine q_12_0 F kz_176 in_12 (mc bw_8_21) dX12_pull_2 ?_
  refine x_nmS (fun s1 es1 => ?_)
  replace h := h s1 es1
  refine x_aload_n F dX12_pull_5 rfl 0 rfl ?_
  refine x_iload_n F dX12_pull_6 rfl 1 rfl ?_
  refine x_callV_i F (c_X12_isRope (xl X) (xg X) (xA X) F.2.2.1  h) (bw_V bw_27_21 bw_27_22 bw_27_23 bw_1_5 bw_28_0) rfl cd_X12_isRope (Nat.le_of_ble_eq_true rfl) (Nat.le_of_ble_eq_true rfl) (kd_w (by decide) kz_176) rfl (cl_12 kz_176) rfl rfl (Nat.le_of_ble_eq_true rfl) dX12_pull_7 (fun r3 s2 h => ?_)
  refine x_if_eq (tgt := 36) F dX12_pull_10 (by decide) (fun c => ?_) (fun c => ?_)
  · replace h := h.1 c
    refine x_ldc2 F dX12_pull_36 (mc bw_29_19) ?_
    exact hret _ _ _ _ h dX12_pull_39
  · replace h := h.2 c
    refine x_iload_n F dX12_pull_13 rfl 2 rfl ?_
    refine x_i2l F dX12_pull_14 ?_
    refine x_lconst (0 : Int64) F dX12_pull_15 (by decide) ?_
    refine x_lconst (1 : Int64) F dX12_pull_16 (by decide) ?_
    refine x_callT_i F (c_X12_isIn (xl X) (xg X) (xA X) F.2.2.1  h) (bw_S bw_13_13 bw_13_14 bw_1_5 bw_13_15) rfl cd_X12_isIn (Nat.le_of_ble_eq_true rfl) (Nat.le_of_ble_eq_true rfl) rfl rfl (Nat.le_of_ble_eq_true rfl) dX12_pull_17 (fun r5 s4 h => ?_)
    refine x_if_eq (tgt := 36) F dX12_pull_20 (by decide) (fun c => ?_) (fun c => ?_)
    · replace h := h.1 c
      refine x_ldc2 F dX12_pull_36 (mc bw_29_19) ?_
      exact hret _ _ _ _ h dX12_pull_39
    · replace h := h.2 c
      refine x_aload_n F dX12_pull_23 rfl 0 rfl ?_
      refine g_12_19 F kz_176 in_12 (mc bw_7_18) dX12_pull_24 ?_
      refine x_bipush (8 : Int32) F dX12_pull_27 (by decide) ?_
      refine x_iload_n F dX12_pull_29 rfl 1 rfl ?_
      refine x_iadd F dX12_pull_30 ?_
      obtain ⟨hj, h⟩ := h
      refine x_iald F kz_188 nz_188 hj dX12_pull_31 ?_
      refine x_iconst (2 : Int32) F dX12_pull_32 (by decide) ?_
      refine x_icmp_lt (tgt := 40) F dX12_pull_33 (by decide) (fun c => ?_) (fun c => ?_)
      · replace h := h.1 c
        refine x_aload_n F dX12_pull_40 rfl 0 rfl ?_
        refine x_aload_n F dX12_pull_41 rfl 0 rfl ?_
        refine g_12_19 F kz_176 in_12 (mc bw_7_18) dX12_pull_42 ?_
        refine x_callV_v F (c_X12_asks (xl X) (xg X) (xA X) F.2.2.1 kz_188 h) (bw_V bw_29_20 bw_29_21 bw_29_22 bw_1_5 bw_29_23) rfl cd_X12_asks (Nat.le_of_ble_eq_true rfl) (Nat.le_of_ble_eq_true rfl) (kd_w (by decide) kz_176) rfl (cl_12 kz_176) rfl rfl (Nat.le_of_ble_eq_true rfl) dX12_pull_45 (fun s6 h => ?_)
        refine x_aload_n F dX12_pull_48 rfl 0 rfl ?_
        refine x_aload_n F dX12_pull_49 rfl 0 rfl ?_
        refine g_12_19 F kz_176 in_12 (mc bw_7_18) dX12_pull_50 ?_
        refine x_iload_n F dX12_pull_53 rfl 1 rfl ?_
        refine x_callV_l F (c_X12_pullOf (xl X) (xg X) (xA X) F.2.2.1 kz_188 h) (bw_V bw_24_22 bw_24_23 bw_25_0 bw_1_5 bw_25_1) rfl cd_X12_pullOf (Nat.le_of_ble_eq_true rfl) (Nat.le_of_ble_eq_true rfl) (kd_w (by decide) kz_176) rfl (cl_12 kz_176) rfl rfl (Nat.le_of_ble_eq_true rfl) dX12_pull_54 (fun r9 s8 h => ?_)
        refine x_aload_n F dX12_pull_57 rfl 0 rfl ?_
        refine g_12_29 F kz_176 in_12 (mc bw_23_10) dX12_pull_58 ?_
        refine x_iload_n F dX12_pull_61 rfl 2 rfl ?_
        refine x_callT_l F (c_X12_told (xl X) (xg X) (xA X) F.2.2.1  h) (bw_S bw_30_0 bw_30_1 bw_1_5 bw_30_2) rfl cd_X12_told (Nat.le_of_ble_eq_true rfl) (Nat.le_of_ble_eq_true rfl) rfl rfl (Nat.le_of_ble_eq_true rfl) dX12_pull_62 (fun r11 s10 h => ?_)
        exact hret _ _ _ _ h dX12_pull_65
      · replace h := h.2 c
        refine x_ldc2 F dX12_pull_36 (mc bw_29_19) ?_
        exact hret _ _ _ _ h dX12_pull_39
/-! X12_shift -/
abbrev wvX12_shift : List Cond := Cond.code yX12_shift cX12_shift 3 (some .long) :: wsL_law
theorem cd_X12_shift : okN yX12_shift RX12 2 := by unfold okN; decide +kernel
def w_X12_shift  (p0 : Int32) (p1 : Int32) (σ : wS) (Q : Int64 → wS → Prop) : Prop := ∀ s1 : wS, s1 = upI σ 176 0 (0 : Int32) → (((s1.1 176 14) = 0 → (Q (-1000000 : Int64) s1)) ∧ (¬ (s1.1 176 14) = 0 → (w_X12_isIn (p0).toInt64 (0 : Int64) (2 : Int64) s1 (fun r3 s2 => (r3 = 0 → (Q (-1000000 : Int64) s2)) ∧ (¬ r3 = 0 → (w_X12_isIn (p1).toInt64 (0 : Int64) (1 : Int64) s2 (fun r5 s4 => (¬ r5 = 0 → (w_X12_asks 188 s4 (fun s6 => vp_in p0 3 ∧ (w_X12_told (s6.2 194 (p0).toNatClampNeg) (s6.2 176 29) p1 s6 (fun r9 s8 => Q r9 s8))))) ∧ (r5 = 0 → (Q (-1000000 : Int64) s4)))))))))
set_option maxRecDepth 100000 in
set_option maxHeartbeats 4000000 in
theorem c_X12_shift (l : Launch) (g : wG) (A : Nat → Prop) (hA : adO g A)   {p0 : Int32} {p1 : Int32} {σ : wS} {Q : Int64 → wS → Prop} (h : w_X12_shift  p0 p1 σ Q) : Ml l yX12_shift wvX12_shift 5 119 g A [.ref (g.2.2 176), .int p0, .int p1] σ Q := by
  refine mt_l (own := RX12) (lv := [(0, .ref (g.2.2 176)), (1, .int p0), (2, .int p1)]) (by decide) rfl rfl hA (Nat.le_of_ble_eq_true rfl) rfl ?_
  intro X hl hg hAA F hret
  subst hl hg hAA
  unfold w_X12_shift at h
  refine x_aload_n F dX12_shift_0 rfl 0 rfl ?_
  refine x_iconst (0 : Int32) F dX12_shift_1 (by decide) ?_
  refine q_12_0 F kz_176 in_12 (mc bw_8_21) dX12_shift_2 ?_
  refine x_nmS (fun s1 es1 => ?_)
  replace h := h s1 es1
  refine x_aload_n F dX12_shift_5 rfl 0 rfl ?_
  refine g_12_14 F kz_176 in_12 (mc bw_22_18) dX12_shift_6 ?_
  refine x_if_eq (tgt := 34) F dX12_shift_9 (by decide) (fun c => ?_) (fun c => ?_)
  · replace h := h.1 c
    refine x_ldc2 F dX12_shift_34 (mc bw_29_19) ?_
    exact hret _ _ _ _ h dX12_shift_37
  · replace h := h.2 c
    refine x_iload_n F dX12_shift_12 rfl 1 rfl ?_
    refine x_i2l F dX12_shift_13 ?_
    refine x_lconst (0 : Int64) F dX12_shift_14 (by decide) ?_
    refine x_ldc2 F dX12_shift_15 (mc bw_30_18) ?_
    refine x_callT_i F (c_X12_isIn (xl X) (xg X) (xA X) F.2.2.1  h) (bw_S bw_13_13 bw_13_14 bw_1_5 bw_13_15) rfl cd_X12_isIn (Nat.le_of_ble_eq_true rfl) (Nat.le_of_ble_eq_true rfl) rfl rfl (Nat.le_of_ble_eq_true rfl) dX12_shift_18 (fun r3 s2 h => ?_)
    refine x_if_eq (tgt := 34) F dX12_shift_21 (by decide) (fun c => ?_) (fun c => ?_)
    · replace h := h.1 c
      refine x_ldc2 F dX12_shift_34 (mc bw_29_19) ?_
      exact hret _ _ _ _ h dX12_shift_37
    · replace h := h.2 c
      refine x_iload_n F dX12_shift_24 rfl 2 rfl ?_
      refine x_i2l F dX12_shift_25 ?_
      refine x_lconst (0 : Int64) F dX12_shift_26 (by decide) ?_
      refine x_lconst (1 : Int64) F dX12_shift_27 (by decide) ?_
      refine x_callT_i F (c_X12_isIn (xl X) (xg X) (xA X) F.2.2.1  h) (bw_S bw_13_13 bw_13_14 bw_1_5 bw_13_15) rfl cd_X12_isIn (Nat.le_of_ble_eq_true rfl) (Nat.le_of_ble_eq_true rfl) rfl rfl (Nat.le_of_ble_eq_true rfl) dX12_shift_28 (fun r5 s4 h => ?_)
      refine x_if_ne (tgt := 38) F dX12_shift_31 (by decide) (fun c => ?_) (fun c => ?_)
      · replace h := h.1 c
        refine x_aload_n F dX12_shift_38 rfl 0 rfl ?_
        refine x_aload_n F dX12_shift_39 rfl 0 rfl ?_
        refine g_12_19 F kz_176 in_12 (mc bw_7_18) dX12_shift_40 ?_
        refine x_callV_v F (c_X12_asks (xl X) (xg X) (xA X) F.2.2.1 kz_188 h) (bw_V bw_29_20 bw_29_21 bw_29_22 bw_1_5 bw_29_23) rfl cd_X12_asks (Nat.le_of_ble_eq_true rfl) (Nat.le_of_ble_eq_true rfl) (kd_w (by decide) kz_176) rfl (cl_12 kz_176) rfl rfl (Nat.le_of_ble_eq_true rfl) dX12_shift_43 (fun s6 h => ?_)
        refine x_aload_n F dX12_shift_46 rfl 0 rfl ?_
        refine g_12_28 F kz_176 in_12 (mc bw_8_0) dX12_shift_47 ?_
        refine x_iload_n F dX12_shift_50 rfl 1 rfl ?_
        obtain ⟨hj, h⟩ := h
        refine x_lald F kz_194 nz_194 hj dX12_shift_51 ?_
        refine x_aload_n F dX12_shift_52 rfl 0 rfl ?_
        refine g_12_29 F kz_176 in_12 (mc bw_23_10) dX12_shift_53 ?_
        refine x_iload_n F dX12_shift_56 rfl 2 rfl ?_
        refine x_callT_l F (c_X12_told (xl X) (xg X) (xA X) F.2.2.1  h) (bw_S bw_30_0 bw_30_1 bw_1_5 bw_30_2) rfl cd_X12_told (Nat.le_of_ble_eq_true rfl) (Nat.le_of_ble_eq_true rfl) rfl rfl (Nat.le_of_ble_eq_true rfl) dX12_shift_57 (fun r9 s8 h => ?_)
        exact hret _ _ _ _ h dX12_shift_60
      · replace h := h.2 c
        refine x_ldc2 F dX12_shift_34 (mc bw_29_19) ?_
        exact hret _ _ _ _ h dX12_shift_37
/-! X12_held -/
abbrev wvX12_held : List Cond := Cond.code yX12_held cX12_held 6 (some .long) :: wsL_law
theorem cd_X12_held : okN yX12_held RX12 2 := by unfold okN; decide +kernel
def b_X12_held_126  (K76 : Int32 → Int32 → Int64 → Int32 → wS → Prop) (Q : Int64 → wS → Prop) (x1 : Int32) (x2 : Int32) (x5 : Int32) (z0 : Int64) (z1 : Int64) (σ : wS) : Prop := ∀ y1 : Int64, y1 = (z1 + z0) → (∀ y2 : Int32, y2 = (x5 + (1 : Int32)) → (K76 x1 x2 y1 y2 σ))
set_option maxRecDepth 100000 in
set_option maxHeartbeats 4000000 in
theorem wb_X12_held_126 {X : XT} {Q : Int64 → wS → Prop}  (F : Fx X cX12_held 6 RX12 wvX12_held 5 119) (hret : Rl X 6 cX12_held Q)  {K76 : Int32 → Int32 → Int64 → Int32 → wS → Prop} (hK76 : ∀ (x1 : Int32) (x2 : Int32) (x3 : Int64) (x5 : Int32) (σ : wS), K76 x1 x2 x3 x5 σ → Wx X 6 σ 76 [(0, .ref (ad X 176)), (1, .int x1), (2, .int x2), (3, .long x3), (5, .int x5)] []) (x1 : Int32) (x2 : Int32) (x5 : Int32) (z0 : Int64) (z1 : Int64) (σ : wS) (h : b_X12_held_126  K76 Q x1 x2 x5 z0 z1 σ) : Wx X 6 σ 126 [(0, .ref (ad X 176)), (1, .int x1), (2, .int x2), (5, .int x5)] [.long z0, .long z1] := by
  unfold b_X12_held_126 at h
  refine x_ladd F dX12_held_126 ?_
  refine x_topl (fun y1 ey1 => ?_)
  replace h := h y1 ey1
  refine x_lstore_n (lv' := [(3, .long y1), (0, .ref (ad X 176)), (1, .int x1), (2, .int x2), (5, .int x5)]) F dX12_held_127 rfl (by decide) rfl ?_
  obtain ⟨y2, ey2⟩ : ∃ y : Int32, y = (x5 + (1 : Int32)) := ⟨_, rfl⟩
  replace h := h y2 ey2
  refine x_iinc (q := 4) (v := y2) (lv' := [(5, .int y2), (3, .long y1), (0, .ref (ad X 176)), (1, .int x1), (2, .int x2)]) F dX12_held_128 rfl (by rw [ey2]; rfl) (by decide) rfl ?_
  refine x_goto (tgt := 76) F dX12_held_131 (by decide) ?_
  refine x_sub (lv' := [(0, .ref (ad X 176)), (1, .int x1), (2, .int x2), (3, .long y1), (5, .int y2)]) [2, 3, 4, 1, 0] rfl ?_
  exact hK76 _ _ _ _ _ h
def l_X12_held_76   (Q : Int64 → wS → Prop) : Nat → Int32 → Int32 → Int64 → Int32 → wS → Prop
  | 0, _, _, _, _, _ => False
  | n + 1, x1, x2, x3, x5, σ => ((σ.1 176 14) ≤ x5 → (w_X12_told x3 (σ.2 176 29) x2 σ (fun r2 s1 => Q r2 s1))) ∧ (¬ (σ.1 176 14) ≤ x5 → (vp_in ((8 : Int32) + x5) 202 ∧ ((¬ (σ.1 188 (((8 : Int32) + x5)).toNatClampNeg) = 0 → (b_X12_held_126  (fun x1 x2 x3 x5 σ => l_X12_held_76   Q n x1 x2 x3 x5 σ) Q x1 x2 x5 (0 : Int64) x3 σ)) ∧ ((σ.1 188 (((8 : Int32) + x5)).toNatClampNeg) = 0 → (w_X12_pullOf 188 x5 σ (fun r4 s3 => vp_in (((3 : Int32) * x5) + x1) 24 ∧ (b_X12_held_126  (fun x1 x2 x3 x5 σ => l_X12_held_76   Q n x1 x2 x3 x5 σ) Q x1 x2 x5 (r4 * ((s3.1 182 ((((3 : Int32) * x5) + x1)).toNatClampNeg)).toInt64) x3 s3)))))))
set_option maxRecDepth 100000 in
set_option maxHeartbeats 4000000 in
theorem wl_X12_held_76 {X : XT} {Q : Int64 → wS → Prop}  (F : Fx X cX12_held 6 RX12 wvX12_held 5 119) (hret : Rl X 6 cX12_held Q)    : ∀ (n : Nat) (x1 : Int32) (x2 : Int32) (x3 : Int64) (x5 : Int32) (σ : wS), l_X12_held_76   Q n x1 x2 x3 x5 σ → Wx X 6 σ 76 [(0, .ref (ad X 176)), (1, .int x1), (2, .int x2), (3, .long x3), (5, .int x5)] [] := by
  intro n
  induction n with
  | zero =>
    intros
    contradiction
  | succ n ih =>
    intro x1 x2 x3 x5 σ h
    simp only [l_X12_held_76] at h
    refine x_iload F dX12_held_76 4 rfl ?_
    refine x_aload_n F dX12_held_78 rfl 0 rfl ?_
    refine g_12_14 F kz_176 in_12 (mc bw_22_18) dX12_held_79 ?_
    refine x_icmp_ge (tgt := 134) F dX12_held_82 (by decide) (fun c => ?_) (fun c => ?_)
    · replace h := h.1 c
      refine x_lload_n F dX12_held_134 rfl 3 rfl ?_
      refine x_aload_n F dX12_held_135 rfl 0 rfl ?_
      refine g_12_29 F kz_176 in_12 (mc bw_23_10) dX12_held_136 ?_
      refine x_iload_n F dX12_held_139 rfl 2 rfl ?_
      refine x_callT_l F (c_X12_told (xl X) (xg X) (xA X) F.2.2.1  h) (bw_S bw_30_0 bw_30_1 bw_1_5 bw_30_2) rfl cd_X12_told (Nat.le_of_ble_eq_true rfl) (Nat.le_of_ble_eq_true rfl) rfl rfl (Nat.le_of_ble_eq_true rfl) dX12_held_140 (fun r2 s1 h => ?_)
      exact hret _ _ _ _ h dX12_held_143
    · replace h := h.2 c
      refine x_lload_n F dX12_held_85 rfl 3 rfl ?_
      refine x_aload_n F dX12_held_86 rfl 0 rfl ?_
      refine g_12_19 F kz_176 in_12 (mc bw_7_18) dX12_held_87 ?_
      refine x_bipush (8 : Int32) F dX12_held_90 (by decide) ?_
      refine x_iload F dX12_held_92 4 rfl ?_
      refine x_iadd F dX12_held_94 ?_
      obtain ⟨hj, h⟩ := h
      refine x_iald F kz_188 nz_188 hj dX12_held_95 ?_
      refine x_if_ne (tgt := 125) F dX12_held_96 (by decide) (fun c => ?_) (fun c => ?_)
      · replace h := h.1 c
        refine x_lconst (0 : Int64) F dX12_held_125 (by decide) ?_
        refine x_sub (lv' := [(0, .ref (ad X 176)), (1, .int x1), (2, .int x2), (5, .int x5)]) [0, 1, 2, 4] rfl ?_
        exact wb_X12_held_126 F hret  ih _ _ _ _ _ _ h
      · replace h := h.2 c
        refine x_aload_n F dX12_held_99 rfl 0 rfl ?_
        refine x_aload_n F dX12_held_100 rfl 0 rfl ?_
        refine g_12_19 F kz_176 in_12 (mc bw_7_18) dX12_held_101 ?_
        refine x_iload F dX12_held_104 4 rfl ?_
        refine x_callV_l F (c_X12_pullOf (xl X) (xg X) (xA X) F.2.2.1 kz_188 h) (bw_V bw_24_22 bw_24_23 bw_25_0 bw_1_5 bw_25_1) rfl cd_X12_pullOf (Nat.le_of_ble_eq_true rfl) (Nat.le_of_ble_eq_true rfl) (kd_w (by decide) kz_176) rfl (cl_12 kz_176) rfl rfl (Nat.le_of_ble_eq_true rfl) dX12_held_106 (fun r4 s3 h => ?_)
        refine x_aload_n F dX12_held_109 rfl 0 rfl ?_
        refine g_12_9 F kz_176 in_12 (mc bw_7_12) dX12_held_110 ?_
        refine x_iconst (3 : Int32) F dX12_held_113 (by decide) ?_
        refine x_iload F dX12_held_114 4 rfl ?_
        refine x_imul F dX12_held_116 ?_
        refine x_iload_n F dX12_held_117 rfl 1 rfl ?_
        refine x_iadd F dX12_held_118 ?_
        obtain ⟨hj, h⟩ := h
        refine x_iald F kz_182 nz_182 hj dX12_held_119 ?_
        refine x_i2l F dX12_held_120 ?_
        refine x_lmul F dX12_held_121 ?_
        refine x_goto (tgt := 126) F dX12_held_122 (by decide) ?_
        refine x_sub (lv' := [(0, .ref (ad X 176)), (1, .int x1), (2, .int x2), (5, .int x5)]) [0, 1, 2, 4] rfl ?_
        exact wb_X12_held_126 F hret  ih _ _ _ _ _ _ h
def w_X12_held  (p0 : Int32) (p1 : Int32) (σ : wS) (Q : Int64 → wS → Prop) : Prop := ∀ s1 : wS, s1 = upI σ 176 0 (0 : Int32) → (((s1.1 176 14) = 0 → (Q (-1000000 : Int64) s1)) ∧ (¬ (s1.1 176 14) = 0 → (w_X12_isIn (p0).toInt64 (0 : Int64) (2 : Int64) s1 (fun r3 s2 => (r3 = 0 → (Q (-1000000 : Int64) s2)) ∧ (¬ r3 = 0 → (w_X12_isIn (p1).toInt64 (0 : Int64) (1 : Int64) s2 (fun r5 s4 => (¬ r5 = 0 → (w_X12_isFree p0 s4 (fun r7 s6 => (r7 = 0 → (w_X12_asks 188 s6 (fun s8 => vp_in ((16 : Int32) + p0) 202 ∧ (∀ y10 : Int64, y10 = (((s8.1 188 (((16 : Int32) + p0)).toNatClampNeg)).toInt64 * (s8.2 176 29)) → ((∃ m, l_X12_held_76   Q m p0 p1 y10 (0 : Int32) s8)))))) ∧ (¬ r7 = 0 → (Q (p1).toInt64 s6))))) ∧ (r5 = 0 → (Q (-1000000 : Int64) s4)))))))))
set_option maxRecDepth 100000 in
set_option maxHeartbeats 4000000 in
theorem c_X12_held (l : Launch) (g : wG) (A : Nat → Prop) (hA : adO g A)   {p0 : Int32} {p1 : Int32} {σ : wS} {Q : Int64 → wS → Prop} (h : w_X12_held  p0 p1 σ Q) : Ml l yX12_held wvX12_held 5 119 g A [.ref (g.2.2 176), .int p0, .int p1] σ Q := by
  refine mt_l (own := RX12) (lv := [(0, .ref (g.2.2 176)), (1, .int p0), (2, .int p1)]) (by decide) rfl rfl hA (Nat.le_of_ble_eq_true rfl) rfl ?_
  intro X hl hg hAA F hret
  subst hl hg hAA
  unfold w_X12_held at h
  refine x_aload_n F dX12_held_0 rfl 0 rfl ?_
  refine x_iconst (0 : Int32) F dX12_held_1 (by decide) ?_
  refine q_12_0 F kz_176 in_12 (mc bw_8_21) dX12_held_2 ?_
  refine x_nmS (fun s1 es1 => ?_)
  replace h := h s1 es1
  refine x_aload_n F dX12_held_5 rfl 0 rfl ?_
  refine g_12_14 F kz_176 in_12 (mc bw_22_18) dX12_held_6 ?_
  refine x_if_eq (tgt := 34) F dX12_held_9 (by decide) (fun c => ?_) (fun c => ?_)
  · replace h := h.1 c
    refine x_ldc2 F dX12_held_34 (mc bw_29_19) ?_
    exact hret _ _ _ _ h dX12_held_37
  · replace h := h.2 c
    refine x_iload_n F dX12_held_12 rfl 1 rfl ?_
    refine x_i2l F dX12_held_13 ?_
    refine x_lconst (0 : Int64) F dX12_held_14 (by decide) ?_
    refine x_ldc2 F dX12_held_15 (mc bw_30_18) ?_
    refine x_callT_i F (c_X12_isIn (xl X) (xg X) (xA X) F.2.2.1  h) (bw_S bw_13_13 bw_13_14 bw_1_5 bw_13_15) rfl cd_X12_isIn (Nat.le_of_ble_eq_true rfl) (Nat.le_of_ble_eq_true rfl) rfl rfl (Nat.le_of_ble_eq_true rfl) dX12_held_18 (fun r3 s2 h => ?_)
    refine x_if_eq (tgt := 34) F dX12_held_21 (by decide) (fun c => ?_) (fun c => ?_)
    · replace h := h.1 c
      refine x_ldc2 F dX12_held_34 (mc bw_29_19) ?_
      exact hret _ _ _ _ h dX12_held_37
    · replace h := h.2 c
      refine x_iload_n F dX12_held_24 rfl 2 rfl ?_
      refine x_i2l F dX12_held_25 ?_
      refine x_lconst (0 : Int64) F dX12_held_26 (by decide) ?_
      refine x_lconst (1 : Int64) F dX12_held_27 (by decide) ?_
      refine x_callT_i F (c_X12_isIn (xl X) (xg X) (xA X) F.2.2.1  h) (bw_S bw_13_13 bw_13_14 bw_1_5 bw_13_15) rfl cd_X12_isIn (Nat.le_of_ble_eq_true rfl) (Nat.le_of_ble_eq_true rfl) rfl rfl (Nat.le_of_ble_eq_true rfl) dX12_held_28 (fun r5 s4 h => ?_)
      refine x_if_ne (tgt := 38) F dX12_held_31 (by decide) (fun c => ?_) (fun c => ?_)
      · replace h := h.1 c
        refine x_aload_n F dX12_held_38 rfl 0 rfl ?_
        refine x_iload_n F dX12_held_39 rfl 1 rfl ?_
        refine x_callV_i F (c_X12_isFree (xl X) (xg X) (xA X) F.2.2.1  h) (bw_V bw_23_22 bw_23_23 bw_24_0 bw_1_5 bw_24_1) rfl cd_X12_isFree (Nat.le_of_ble_eq_true rfl) (Nat.le_of_ble_eq_true rfl) (kd_w (by decide) kz_176) rfl (cl_12 kz_176) rfl rfl (Nat.le_of_ble_eq_true rfl) dX12_held_40 (fun r7 s6 h => ?_)
        refine x_if_eq (tgt := 49) F dX12_held_43 (by decide) (fun c => ?_) (fun c => ?_)
        · replace h := h.1 c
          refine x_aload_n F dX12_held_49 rfl 0 rfl ?_
          refine x_aload_n F dX12_held_50 rfl 0 rfl ?_
          refine g_12_19 F kz_176 in_12 (mc bw_7_18) dX12_held_51 ?_
          refine x_callV_v F (c_X12_asks (xl X) (xg X) (xA X) F.2.2.1 kz_188 h) (bw_V bw_29_20 bw_29_21 bw_29_22 bw_1_5 bw_29_23) rfl cd_X12_asks (Nat.le_of_ble_eq_true rfl) (Nat.le_of_ble_eq_true rfl) (kd_w (by decide) kz_176) rfl (cl_12 kz_176) rfl rfl (Nat.le_of_ble_eq_true rfl) dX12_held_54 (fun s8 h => ?_)
          refine x_aload_n F dX12_held_57 rfl 0 rfl ?_
          refine g_12_19 F kz_176 in_12 (mc bw_7_18) dX12_held_58 ?_
          refine x_bipush (16 : Int32) F dX12_held_61 (by decide) ?_
          refine x_iload_n F dX12_held_63 rfl 1 rfl ?_
          refine x_iadd F dX12_held_64 ?_
          obtain ⟨hj, h⟩ := h
          refine x_iald F kz_188 nz_188 hj dX12_held_65 ?_
          refine x_i2l F dX12_held_66 ?_
          refine x_aload_n F dX12_held_67 rfl 0 rfl ?_
          refine g_12_29 F kz_176 in_12 (mc bw_23_10) dX12_held_68 ?_
          refine x_lmul F dX12_held_71 ?_
          refine x_topl (fun y10 ey10 => ?_)
          replace h := h y10 ey10
          refine x_lstore_n (lv' := [(3, .long y10), (0, .ref (ad X 176)), (1, .int p0), (2, .int p1)]) F dX12_held_72 rfl (by decide) rfl ?_
          refine x_iconst (0 : Int32) F dX12_held_73 (by decide) ?_
          refine x_istore (lv' := [(5, .int (0 : Int32)), (3, .long y10), (0, .ref (ad X 176)), (1, .int p0), (2, .int p1)]) F dX12_held_74 (by decide) rfl ?_
          refine x_sub (lv' := [(0, .ref (ad X 176)), (1, .int p0), (2, .int p1), (3, .long y10), (5, .int (0 : Int32))]) [2, 3, 4, 1, 0] rfl ?_
          obtain ⟨n2, h⟩ := h
          exact wl_X12_held_76 F hret   n2 _ _ _ _ _ h
        · replace h := h.2 c
          refine x_iload_n F dX12_held_46 rfl 2 rfl ?_
          refine x_i2l F dX12_held_47 ?_
          exact hret _ _ _ _ h dX12_held_48
      · replace h := h.2 c
        refine x_ldc2 F dX12_held_34 (mc bw_29_19) ?_
        exact hret _ _ _ _ h dX12_held_37
/-! X12_load -/
abbrev wvX12_load : List Cond := Cond.code yX12_load cX12_load 3 (some .long) :: wsL_law
theorem cd_X12_load : okN yX12_load RX12 2 := by unfold okN; decide +kernel
def w_X12_load  (p0 : Int32) (p1 : Int32) (σ : wS) (Q : Int64 → wS → Prop) : Prop := ∀ s1 : wS, s1 = upI σ 176 0 (0 : Int32) → (w_X12_isRope p0 s1 (fun r3 s2 => (r3 = 0 → (Q (-1000000 : Int64) s2)) ∧ (¬ r3 = 0 → (w_X12_isIn (p1).toInt64 (0 : Int64) (1 : Int64) s2 (fun r5 s4 => (r5 = 0 → (Q (-1000000 : Int64) s4)) ∧ (¬ r5 = 0 → (vp_in ((8 : Int32) + p0) 202 ∧ (((s4.1 188 (((8 : Int32) + p0)).toNatClampNeg) = 0 → (w_X12_asks 188 s4 (fun s6 => w_X12_pullOf 188 p0 s6 (fun r9 s8 => w_X12_strength p0 s8 (fun r11 s10 => w_X12_told r9 ((s8.2 176 29) * (r11).toInt64) p1 s10 (fun r13 s12 => Q r13 s12)))))) ∧ (¬ (s4.1 188 (((8 : Int32) + p0)).toNatClampNeg) = 0 → (Q (-1000000 : Int64) s4))))))))))
set_option maxRecDepth 100000 in
set_option maxHeartbeats 4000000 in
theorem c_X12_load (l : Launch) (g : wG) (A : Nat → Prop) (hA : adO g A)   {p0 : Int32} {p1 : Int32} {σ : wS} {Q : Int64 → wS → Prop} (h : w_X12_load  p0 p1 σ Q) : Ml l yX12_load wvX12_load 5 119 g A [.ref (g.2.2 176), .int p0, .int p1] σ Q := by
  refine mt_l (own := RX12) (lv := [(0, .ref (g.2.2 176)), (1, .int p0), (2, .int p1)]) (by decide) rfl rfl hA (Nat.le_of_ble_eq_true rfl) rfl ?_
  intro X hl hg hAA F hret
  subst hl hg hAA
  unfold w_X12_load at h
  refine x_aload_n F dX12_load_0 rfl 0 rfl ?_
  refine x_iconst (0 : Int32) F dX12_load_1 (by decide) ?_
  refine q_12_0 F kz_176 in_12 (mc bw_8_21) dX12_load_2 ?_
  refine x_nmS (fun s1 es1 => ?_)
  replace h := h s1 es1
  refine x_aload_n F dX12_load_5 rfl 0 rfl ?_
  refine x_iload_n F dX12_load_6 rfl 1 rfl ?_
  refine x_callV_i F (c_X12_isRope (xl X) (xg X) (xA X) F.2.2.1  h) (bw_V bw_27_21 bw_27_22 bw_27_23 bw_1_5 bw_28_0) rfl cd_X12_isRope (Nat.le_of_ble_eq_true rfl) (Nat.le_of_ble_eq_true rfl) (kd_w (by decide) kz_176) rfl (cl_12 kz_176) rfl rfl (Nat.le_of_ble_eq_true rfl) dX12_load_7 (fun r3 s2 h => ?_)
  refine x_if_eq (tgt := 35) F dX12_load_10 (by decide) (fun c => ?_) (fun c => ?_)
  · replace h := h.1 c
    refine x_ldc2 F dX12_load_35 (mc bw_29_19) ?_
    exact hret _ _ _ _ h dX12_load_38
  · replace h := h.2 c
    refine x_iload_n F dX12_load_13 rfl 2 rfl ?_
    refine x_i2l F dX12_load_14 ?_
    refine x_lconst (0 : Int64) F dX12_load_15 (by decide) ?_
    refine x_lconst (1 : Int64) F dX12_load_16 (by decide) ?_
    refine x_callT_i F (c_X12_isIn (xl X) (xg X) (xA X) F.2.2.1  h) (bw_S bw_13_13 bw_13_14 bw_1_5 bw_13_15) rfl cd_X12_isIn (Nat.le_of_ble_eq_true rfl) (Nat.le_of_ble_eq_true rfl) rfl rfl (Nat.le_of_ble_eq_true rfl) dX12_load_17 (fun r5 s4 h => ?_)
    refine x_if_eq (tgt := 35) F dX12_load_20 (by decide) (fun c => ?_) (fun c => ?_)
    · replace h := h.1 c
      refine x_ldc2 F dX12_load_35 (mc bw_29_19) ?_
      exact hret _ _ _ _ h dX12_load_38
    · replace h := h.2 c
      refine x_aload_n F dX12_load_23 rfl 0 rfl ?_
      refine g_12_19 F kz_176 in_12 (mc bw_7_18) dX12_load_24 ?_
      refine x_bipush (8 : Int32) F dX12_load_27 (by decide) ?_
      refine x_iload_n F dX12_load_29 rfl 1 rfl ?_
      refine x_iadd F dX12_load_30 ?_
      obtain ⟨hj, h⟩ := h
      refine x_iald F kz_188 nz_188 hj dX12_load_31 ?_
      refine x_if_eq (tgt := 39) F dX12_load_32 (by decide) (fun c => ?_) (fun c => ?_)
      · replace h := h.1 c
        refine x_aload_n F dX12_load_39 rfl 0 rfl ?_
        refine x_aload_n F dX12_load_40 rfl 0 rfl ?_
        refine g_12_19 F kz_176 in_12 (mc bw_7_18) dX12_load_41 ?_
        refine x_callV_v F (c_X12_asks (xl X) (xg X) (xA X) F.2.2.1 kz_188 h) (bw_V bw_29_20 bw_29_21 bw_29_22 bw_1_5 bw_29_23) rfl cd_X12_asks (Nat.le_of_ble_eq_true rfl) (Nat.le_of_ble_eq_true rfl) (kd_w (by decide) kz_176) rfl (cl_12 kz_176) rfl rfl (Nat.le_of_ble_eq_true rfl) dX12_load_44 (fun s6 h => ?_)
        refine x_aload_n F dX12_load_47 rfl 0 rfl ?_
        refine x_aload_n F dX12_load_48 rfl 0 rfl ?_
        refine g_12_19 F kz_176 in_12 (mc bw_7_18) dX12_load_49 ?_
        refine x_iload_n F dX12_load_52 rfl 1 rfl ?_
        refine x_callV_l F (c_X12_pullOf (xl X) (xg X) (xA X) F.2.2.1 kz_188 h) (bw_V bw_24_22 bw_24_23 bw_25_0 bw_1_5 bw_25_1) rfl cd_X12_pullOf (Nat.le_of_ble_eq_true rfl) (Nat.le_of_ble_eq_true rfl) (kd_w (by decide) kz_176) rfl (cl_12 kz_176) rfl rfl (Nat.le_of_ble_eq_true rfl) dX12_load_53 (fun r9 s8 h => ?_)
        refine x_aload_n F dX12_load_56 rfl 0 rfl ?_
        refine g_12_29 F kz_176 in_12 (mc bw_23_10) dX12_load_57 ?_
        refine x_aload_n F dX12_load_60 rfl 0 rfl ?_
        refine x_iload_n F dX12_load_61 rfl 1 rfl ?_
        refine x_callV_i F (c_X12_strength (xl X) (xg X) (xA X) F.2.2.1  h) (bw_V bw_25_10 bw_25_11 bw_25_12 bw_1_5 bw_25_13) rfl cd_X12_strength (Nat.le_of_ble_eq_true rfl) (Nat.le_of_ble_eq_true rfl) (kd_w (by decide) kz_176) rfl (cl_12 kz_176) rfl rfl (Nat.le_of_ble_eq_true rfl) dX12_load_62 (fun r11 s10 h => ?_)
        refine x_i2l F dX12_load_65 ?_
        refine x_lmul F dX12_load_66 ?_
        refine x_iload_n F dX12_load_67 rfl 2 rfl ?_
        refine x_callT_l F (c_X12_told (xl X) (xg X) (xA X) F.2.2.1  h) (bw_S bw_30_0 bw_30_1 bw_1_5 bw_30_2) rfl cd_X12_told (Nat.le_of_ble_eq_true rfl) (Nat.le_of_ble_eq_true rfl) rfl rfl (Nat.le_of_ble_eq_true rfl) dX12_load_68 (fun r13 s12 h => ?_)
        exact hret _ _ _ _ h dX12_load_71
      · replace h := h.2 c
        refine x_ldc2 F dX12_load_35 (mc bw_29_19) ?_
        exact hret _ _ _ _ h dX12_load_38
/-! X12_worst -/
abbrev wvX12_worst : List Cond := Cond.code yX12_worst cX12_worst 1 (some .int) :: wsL_law
theorem cd_X12_worst : okN yX12_worst RX12 0 := by unfold okN; decide +kernel
def w_X12_worst   (σ : wS) (Q : Int32 → wS → Prop) : Prop := ∀ s1 : wS, s1 = upI σ 176 0 (0 : Int32) → ((¬ (s1.1 176 14) = 0 → (w_X12_asks 188 s1 (fun s2 => w_X12_those 188 (s2.1 176 14) (0 : Int32) s2 (fun r5 s4 => w_X12_worstOf 188 r5 (0 : Int32) s4 (fun r7 s6 => Q r7 s6))))) ∧ ((s1.1 176 14) = 0 → (Q (-1 : Int32) s1)))
set_option maxRecDepth 100000 in
set_option maxHeartbeats 4000000 in
theorem c_X12_worst (l : Launch) (g : wG) (A : Nat → Prop) (hA : adO g A)    {σ : wS} {Q : Int32 → wS → Prop} (h : w_X12_worst   σ Q) : Mi l yX12_worst wvX12_worst 5 119 g A [.ref (g.2.2 176)] σ Q := by
  refine mt_i (own := RX12) (lv := [(0, .ref (g.2.2 176))]) (by decide) rfl rfl hA (Nat.le_of_ble_eq_true rfl) rfl ?_
  intro X hl hg hAA F hret
  subst hl hg hAA
  unfold w_X12_worst at h
  refine x_aload_n F dX12_worst_0 rfl 0 rfl ?_
  refine x_iconst (0 : Int32) F dX12_worst_1 (by decide) ?_
  refine q_12_0 F kz_176 in_12 (mc bw_8_21) dX12_worst_2 ?_
  refine x_nmS (fun s1 es1 => ?_)
  replace h := h s1 es1
  refine x_aload_n F dX12_worst_5 rfl 0 rfl ?_
  refine g_12_14 F kz_176 in_12 (mc bw_22_18) dX12_worst_6 ?_
  refine x_if_ne (tgt := 14) F dX12_worst_9 (by decide) (fun c => ?_) (fun c => ?_)
  · replace h := h.1 c
    refine x_aload_n F dX12_worst_14 rfl 0 rfl ?_
    refine x_aload_n F dX12_worst_15 rfl 0 rfl ?_
    refine g_12_19 F kz_176 in_12 (mc bw_7_18) dX12_worst_16 ?_
    refine x_callV_v F (c_X12_asks (xl X) (xg X) (xA X) F.2.2.1 kz_188 h) (bw_V bw_29_20 bw_29_21 bw_29_22 bw_1_5 bw_29_23) rfl cd_X12_asks (Nat.le_of_ble_eq_true rfl) (Nat.le_of_ble_eq_true rfl) (kd_w (by decide) kz_176) rfl (cl_12 kz_176) rfl rfl (Nat.le_of_ble_eq_true rfl) dX12_worst_19 (fun s2 h => ?_)
    refine x_aload_n F dX12_worst_22 rfl 0 rfl ?_
    refine x_aload_n F dX12_worst_23 rfl 0 rfl ?_
    refine g_12_19 F kz_176 in_12 (mc bw_7_18) dX12_worst_24 ?_
    refine x_aload_n F dX12_worst_27 rfl 0 rfl ?_
    refine g_12_19 F kz_176 in_12 (mc bw_7_18) dX12_worst_28 ?_
    refine x_aload_n F dX12_worst_31 rfl 0 rfl ?_
    refine g_12_14 F kz_176 in_12 (mc bw_22_18) dX12_worst_32 ?_
    refine x_iconst (0 : Int32) F dX12_worst_35 (by decide) ?_
    refine x_callT_i F (c_X12_those (xl X) (xg X) (xA X) F.2.2.1 kz_188 h) (bw_S bw_23_11 bw_23_12 bw_1_5 bw_23_13) rfl cd_X12_those (Nat.le_of_ble_eq_true rfl) (Nat.le_of_ble_eq_true rfl) rfl rfl (Nat.le_of_ble_eq_true rfl) dX12_worst_36 (fun r5 s4 h => ?_)
    refine x_iconst (0 : Int32) F dX12_worst_39 (by decide) ?_
    refine x_callV_i F (c_X12_worstOf (xl X) (xg X) (xA X) F.2.2.1 kz_188 h) (bw_V bw_25_6 bw_25_7 bw_25_8 bw_1_5 bw_25_9) rfl cd_X12_worstOf (Nat.le_of_ble_eq_true rfl) (Nat.le_of_ble_eq_true rfl) (kd_w (by decide) kz_176) rfl (cl_12 kz_176) rfl rfl (Nat.le_of_ble_eq_true rfl) dX12_worst_40 (fun r7 s6 h => ?_)
    exact hret _ _ _ _ h rfl dX12_worst_43
  · replace h := h.2 c
    refine x_iconst (-1 : Int32) F dX12_worst_12 (by decide) ?_
    exact hret _ _ _ _ h rfl dX12_worst_13
/-! X12_idlest -/
abbrev wvX12_idlest : List Cond := Cond.code yX12_idlest cX12_idlest 3 (some .int) :: wsL_law
theorem cd_X12_idlest : okN yX12_idlest RX12 0 := by unfold okN; decide +kernel
def b_X12_idlest_70  (K4 : Int32 → Int32 → wS → Prop) (Q : Int32 → wS → Prop) (x1 : Int32) (x2 : Int32) (σ : wS) : Prop := ∀ y1 : Int32, y1 = (x2 + (1 : Int32)) → (K4 x1 y1 σ)
set_option maxRecDepth 100000 in
set_option maxHeartbeats 4000000 in
theorem wb_X12_idlest_70 {X : XT} {Q : Int32 → wS → Prop}  (F : Fx X cX12_idlest 3 RX12 wvX12_idlest 2 46) (hret : Ri X 3 cX12_idlest .int Q)  {K4 : Int32 → Int32 → wS → Prop} (hK4 : ∀ (x1 : Int32) (x2 : Int32) (σ : wS), K4 x1 x2 σ → Wx X 3 σ 4 [(0, .ref (ad X 176)), (1, .int x1), (2, .int x2)] []) (x1 : Int32) (x2 : Int32) (σ : wS) (h : b_X12_idlest_70  K4 Q x1 x2 σ) : Wx X 3 σ 70 [(0, .ref (ad X 176)), (1, .int x1), (2, .int x2)] [] := by
  unfold b_X12_idlest_70 at h
  obtain ⟨y1, ey1⟩ : ∃ y : Int32, y = (x2 + (1 : Int32)) := ⟨_, rfl⟩
  replace h := h y1 ey1
  refine x_iinc (q := 2) (v := y1) (lv' := [(2, .int y1), (0, .ref (ad X 176)), (1, .int x1)]) F dX12_idlest_70 rfl (by rw [ey1]; rfl) (by decide) rfl ?_
  refine x_goto (tgt := 4) F dX12_idlest_73 (by decide) ?_
  refine x_sub (lv' := [(0, .ref (ad X 176)), (1, .int x1), (2, .int y1)]) [1, 2, 0] rfl ?_
  exact hK4 _ _ _ h
def b_X12_idlest_68  (K4 : Int32 → Int32 → wS → Prop) (Q : Int32 → wS → Prop) (x2 : Int32) (σ : wS) : Prop := b_X12_idlest_70  K4 Q x2 x2 σ
set_option maxRecDepth 100000 in
set_option maxHeartbeats 4000000 in
theorem wb_X12_idlest_68 {X : XT} {Q : Int32 → wS → Prop}  (F : Fx X cX12_idlest 3 RX12 wvX12_idlest 2 46) (hret : Ri X 3 cX12_idlest .int Q)  {K4 : Int32 → Int32 → wS → Prop} (hK4 : ∀ (x1 : Int32) (x2 : Int32) (σ : wS), K4 x1 x2 σ → Wx X 3 σ 4 [(0, .ref (ad X 176)), (1, .int x1), (2, .int x2)] []) (x2 : Int32) (σ : wS) (h : b_X12_idlest_68  K4 Q x2 σ) : Wx X 3 σ 68 [(0, .ref (ad X 176)), (2, .int x2)] [] := by
  unfold b_X12_idlest_68 at h
  refine x_iload_n F dX12_idlest_68 rfl 1 rfl ?_
  refine x_istore_n (lv' := [(1, .int x2), (0, .ref (ad X 176)), (2, .int x2)]) F dX12_idlest_69 rfl (by decide) rfl ?_
  refine x_sub (lv' := [(0, .ref (ad X 176)), (1, .int x2), (2, .int x2)]) [1, 0, 2] rfl ?_
  exact wb_X12_idlest_70 F hret  hK4 _ _ _ h
def l_X12_idlest_4   (Q : Int32 → wS → Prop) : Nat → Int32 → Int32 → wS → Prop
  | 0, _, _, _ => False
  | n + 1, x1, x2, σ => ((σ.1 176 14) ≤ x2 → (Q x1 σ)) ∧ (¬ (σ.1 176 14) ≤ x2 → (vp_in ((8 : Int32) + x2) 202 ∧ (((σ.1 188 (((8 : Int32) + x2)).toNatClampNeg) = 0 → ((x1 = (-1 : Int32) → (b_X12_idlest_68  (fun x1 x2 σ => l_X12_idlest_4   Q n x1 x2 σ) Q x2 σ)) ∧ (¬ x1 = (-1 : Int32) → (w_X12_pullOf 188 x2 σ (fun r2 s1 => w_X12_strength x1 s1 (fun r4 s3 => w_X12_pullOf 188 x1 s3 (fun r6 s5 => w_X12_strength x2 s5 (fun r8 s7 => (0 ≤ (lg_cmp (r2 * (r4).toInt64) (r6 * (r8).toInt64)) → (b_X12_idlest_70  (fun x1 x2 σ => l_X12_idlest_4   Q n x1 x2 σ) Q x1 x2 s7)) ∧ (¬ 0 ≤ (lg_cmp (r2 * (r4).toInt64) (r6 * (r8).toInt64)) → (b_X12_idlest_68  (fun x1 x2 σ => l_X12_idlest_4   Q n x1 x2 σ) Q x2 s7)))))))))) ∧ (¬ (σ.1 188 (((8 : Int32) + x2)).toNatClampNeg) = 0 → (b_X12_idlest_70  (fun x1 x2 σ => l_X12_idlest_4   Q n x1 x2 σ) Q x1 x2 σ)))))
set_option maxRecDepth 100000 in
set_option maxHeartbeats 4000000 in
theorem wl_X12_idlest_4 {X : XT} {Q : Int32 → wS → Prop}  (F : Fx X cX12_idlest 3 RX12 wvX12_idlest 2 46) (hret : Ri X 3 cX12_idlest .int Q)    : ∀ (n : Nat) (x1 : Int32) (x2 : Int32) (σ : wS), l_X12_idlest_4   Q n x1 x2 σ → Wx X 3 σ 4 [(0, .ref (ad X 176)), (1, .int x1), (2, .int x2)] [] := by
  intro n
  induction n with
  | zero =>
    intros
    contradiction
  | succ n ih =>
    intro x1 x2 σ h
    simp only [l_X12_idlest_4] at h
    refine x_iload_n F dX12_idlest_4 rfl 2 rfl ?_
    refine x_aload_n F dX12_idlest_5 rfl 0 rfl ?_
    refine g_12_14 F kz_176 in_12 (mc bw_22_18) dX12_idlest_6 ?_
    refine x_icmp_ge (tgt := 76) F dX12_idlest_9 (by decide) (fun c => ?_) (fun c => ?_)
    · replace h := h.1 c
      refine x_iload_n F dX12_idlest_76 rfl 1 rfl ?_
      exact hret _ _ _ _ h rfl dX12_idlest_77
    · replace h := h.2 c
      refine x_aload_n F dX12_idlest_12 rfl 0 rfl ?_
      refine g_12_19 F kz_176 in_12 (mc bw_7_18) dX12_idlest_13 ?_
      refine x_bipush (8 : Int32) F dX12_idlest_16 (by decide) ?_
      refine x_iload_n F dX12_idlest_18 rfl 2 rfl ?_
      refine x_iadd F dX12_idlest_19 ?_
      obtain ⟨hj, h⟩ := h
      refine x_iald F kz_188 nz_188 hj dX12_idlest_20 ?_
      refine x_if_eq (tgt := 27) F dX12_idlest_21 (by decide) (fun c => ?_) (fun c => ?_)
      · replace h := h.1 c
        refine x_iload_n F dX12_idlest_27 rfl 1 rfl ?_
        refine x_iconst (-1 : Int32) F dX12_idlest_28 (by decide) ?_
        refine x_icmp_eq (tgt := 68) F dX12_idlest_29 (by decide) (fun c => ?_) (fun c => ?_)
        · replace h := h.1 c
          refine x_sub (lv' := [(0, .ref (ad X 176)), (2, .int x2)]) [0, 2] rfl ?_
          exact wb_X12_idlest_68 F hret  ih _ _ h
        · replace h := h.2 c
          refine x_aload_n F dX12_idlest_32 rfl 0 rfl ?_
          refine x_aload_n F dX12_idlest_33 rfl 0 rfl ?_
          refine g_12_19 F kz_176 in_12 (mc bw_7_18) dX12_idlest_34 ?_
          refine x_iload_n F dX12_idlest_37 rfl 2 rfl ?_
          refine x_callV_l F (c_X12_pullOf (xl X) (xg X) (xA X) F.2.2.1 kz_188 h) (bw_V bw_24_22 bw_24_23 bw_25_0 bw_1_5 bw_25_1) rfl cd_X12_pullOf (Nat.le_of_ble_eq_true rfl) (Nat.le_of_ble_eq_true rfl) (kd_w (by decide) kz_176) rfl (cl_12 kz_176) rfl rfl (Nat.le_of_ble_eq_true rfl) dX12_idlest_38 (fun r2 s1 h => ?_)
          refine x_aload_n F dX12_idlest_41 rfl 0 rfl ?_
          refine x_iload_n F dX12_idlest_42 rfl 1 rfl ?_
          refine x_callV_i F (c_X12_strength (xl X) (xg X) (xA X) F.2.2.1  h) (bw_V bw_25_10 bw_25_11 bw_25_12 bw_1_5 bw_25_13) rfl cd_X12_strength (Nat.le_of_ble_eq_true rfl) (Nat.le_of_ble_eq_true rfl) (kd_w (by decide) kz_176) rfl (cl_12 kz_176) rfl rfl (Nat.le_of_ble_eq_true rfl) dX12_idlest_43 (fun r4 s3 h => ?_)
          refine x_i2l F dX12_idlest_46 ?_
          refine x_lmul F dX12_idlest_47 ?_
          refine x_aload_n F dX12_idlest_48 rfl 0 rfl ?_
          refine x_aload_n F dX12_idlest_49 rfl 0 rfl ?_
          refine g_12_19 F kz_176 in_12 (mc bw_7_18) dX12_idlest_50 ?_
          refine x_iload_n F dX12_idlest_53 rfl 1 rfl ?_
          refine x_callV_l F (c_X12_pullOf (xl X) (xg X) (xA X) F.2.2.1 kz_188 h) (bw_V bw_24_22 bw_24_23 bw_25_0 bw_1_5 bw_25_1) rfl cd_X12_pullOf (Nat.le_of_ble_eq_true rfl) (Nat.le_of_ble_eq_true rfl) (kd_w (by decide) kz_176) rfl (cl_12 kz_176) rfl rfl (Nat.le_of_ble_eq_true rfl) dX12_idlest_54 (fun r6 s5 h => ?_)
          refine x_aload_n F dX12_idlest_57 rfl 0 rfl ?_
          refine x_iload_n F dX12_idlest_58 rfl 2 rfl ?_
          refine x_callV_i F (c_X12_strength (xl X) (xg X) (xA X) F.2.2.1  h) (bw_V bw_25_10 bw_25_11 bw_25_12 bw_1_5 bw_25_13) rfl cd_X12_strength (Nat.le_of_ble_eq_true rfl) (Nat.le_of_ble_eq_true rfl) (kd_w (by decide) kz_176) rfl (cl_12 kz_176) rfl rfl (Nat.le_of_ble_eq_true rfl) dX12_idlest_59 (fun r8 s7 h => ?_)
          refine x_i2l F dX12_idlest_62 ?_
          refine x_lmul F dX12_idlest_63 ?_
          refine x_lcmp F dX12_idlest_64 ?_
          refine x_if_ge (tgt := 70) F dX12_idlest_65 (by decide) (fun c => ?_) (fun c => ?_)
          · replace h := h.1 c
            refine x_sub (lv' := [(0, .ref (ad X 176)), (1, .int x1), (2, .int x2)]) [0, 1, 2] rfl ?_
            exact wb_X12_idlest_70 F hret  ih _ _ _ h
          · replace h := h.2 c
            refine x_sub (lv' := [(0, .ref (ad X 176)), (2, .int x2)]) [0, 2] rfl ?_
            exact wb_X12_idlest_68 F hret  ih _ _ h
      · replace h := h.2 c
        refine x_goto (tgt := 70) F dX12_idlest_24 (by decide) ?_
        refine x_sub (lv' := [(0, .ref (ad X 176)), (1, .int x1), (2, .int x2)]) [0, 1, 2] rfl ?_
        exact wb_X12_idlest_70 F hret  ih _ _ _ h
def w_X12_idlest   (σ : wS) (Q : Int32 → wS → Prop) : Prop := (∃ m, l_X12_idlest_4   Q m (-1 : Int32) (0 : Int32) σ)
set_option maxRecDepth 100000 in
set_option maxHeartbeats 4000000 in
theorem c_X12_idlest (l : Launch) (g : wG) (A : Nat → Prop) (hA : adO g A)    {σ : wS} {Q : Int32 → wS → Prop} (h : w_X12_idlest   σ Q) : Mi l yX12_idlest wvX12_idlest 2 46 g A [.ref (g.2.2 176)] σ Q := by
  refine mt_i (own := RX12) (lv := [(0, .ref (g.2.2 176))]) (by decide) rfl rfl hA (Nat.le_of_ble_eq_true rfl) rfl ?_
  intro X hl hg hAA F hret
  subst hl hg hAA
  unfold w_X12_idlest at h
  refine x_iconst (-1 : Int32) F dX12_idlest_0 (by decide) ?_
  refine x_istore_n (lv' := [(1, .int (-1 : Int32)), (0, .ref (ad X 176))]) F dX12_idlest_1 rfl (by decide) rfl ?_
  refine x_iconst (0 : Int32) F dX12_idlest_2 (by decide) ?_
  refine x_istore_n (lv' := [(2, .int (0 : Int32)), (1, .int (-1 : Int32)), (0, .ref (ad X 176))]) F dX12_idlest_3 rfl (by decide) rfl ?_
  refine x_sub (lv' := [(0, .ref (ad X 176)), (1, .int (-1 : Int32)), (2, .int (0 : Int32))]) [2, 1, 0] rfl ?_
  obtain ⟨n2, h⟩ := h
  exact wl_X12_idlest_4 F hret   n2 _ _ _ h
/-! X12_uneven -/
abbrev wvX12_uneven : List Cond := Cond.code yX12_uneven cX12_uneven 4 (some .long) :: wsL_law
theorem cd_X12_uneven : okN yX12_uneven RX12 1 := by unfold okN; decide +kernel
def w_X12_uneven  (p0 : Int32) (σ : wS) (Q : Int64 → wS → Prop) : Prop := ∀ s1 : wS, s1 = upI σ 176 0 (0 : Int32) → (((s1.1 176 14) = 0 → (Q (-1000000 : Int64) s1)) ∧ (¬ (s1.1 176 14) = 0 → (w_X12_isIn (p0).toInt64 (0 : Int64) (1 : Int64) s1 (fun r3 s2 => (¬ r3 = 0 → (w_X12_asks 188 s2 (fun s4 => w_X12_those 188 (s4.1 176 14) (0 : Int32) s4 (fun r7 s6 => w_X12_worstOf 188 r7 (0 : Int32) s6 (fun r9 s8 => w_X12_idlest  s8 (fun r11 s10 => w_X12_pullOf 188 r9 s10 (fun r13 s12 => w_X12_strength r11 s12 (fun r15 s14 => w_X12_pullOf 188 r11 s14 (fun r17 s16 => w_X12_strength r9 s16 (fun r19 s18 => w_X12_strength r9 s18 (fun r21 s20 => w_X12_strength r11 s20 (fun r23 s22 => w_X12_told ((r13 * (r15).toInt64) - (r17 * (r19).toInt64)) (((s18.2 176 29) * (r21).toInt64) * (r23).toInt64) p0 s22 (fun r25 s24 => Q r25 s24))))))))))))) ∧ (r3 = 0 → (Q (-1000000 : Int64) s2))))))
set_option maxRecDepth 100000 in
set_option maxHeartbeats 4000000 in
theorem c_X12_uneven (l : Launch) (g : wG) (A : Nat → Prop) (hA : adO g A)   {p0 : Int32} {σ : wS} {Q : Int64 → wS → Prop} (h : w_X12_uneven  p0 σ Q) : Ml l yX12_uneven wvX12_uneven 5 119 g A [.ref (g.2.2 176), .int p0] σ Q := by
  refine mt_l (own := RX12) (lv := [(0, .ref (g.2.2 176)), (1, .int p0)]) (by decide) rfl rfl hA (Nat.le_of_ble_eq_true rfl) rfl ?_
  intro X hl hg hAA F hret
  subst hl hg hAA
  unfold w_X12_uneven at h
  refine x_aload_n F dX12_uneven_0 rfl 0 rfl ?_
  refine x_iconst (0 : Int32) F dX12_uneven_1 (by decide) ?_
  refine q_12_0 F kz_176 in_12 (mc bw_8_21) dX12_uneven_2 ?_
  refine x_nmS (fun s1 es1 => ?_)
  replace h := h s1 es1
  refine x_aload_n F dX12_uneven_5 rfl 0 rfl ?_
  refine g_12_14 F kz_176 in_12 (mc bw_22_18) dX12_uneven_6 ?_
  refine x_if_eq (tgt := 22) F dX12_uneven_9 (by decide) (fun c => ?_) (fun c => ?_)
  · replace h := h.1 c
    refine x_ldc2 F dX12_uneven_22 (mc bw_29_19) ?_
    exact hret _ _ _ _ h dX12_uneven_25
  · replace h := h.2 c
    refine x_iload_n F dX12_uneven_12 rfl 1 rfl ?_
    refine x_i2l F dX12_uneven_13 ?_
    refine x_lconst (0 : Int64) F dX12_uneven_14 (by decide) ?_
    refine x_lconst (1 : Int64) F dX12_uneven_15 (by decide) ?_
    refine x_callT_i F (c_X12_isIn (xl X) (xg X) (xA X) F.2.2.1  h) (bw_S bw_13_13 bw_13_14 bw_1_5 bw_13_15) rfl cd_X12_isIn (Nat.le_of_ble_eq_true rfl) (Nat.le_of_ble_eq_true rfl) rfl rfl (Nat.le_of_ble_eq_true rfl) dX12_uneven_16 (fun r3 s2 h => ?_)
    refine x_if_ne (tgt := 26) F dX12_uneven_19 (by decide) (fun c => ?_) (fun c => ?_)
    · replace h := h.1 c
      refine x_aload_n F dX12_uneven_26 rfl 0 rfl ?_
      refine x_aload_n F dX12_uneven_27 rfl 0 rfl ?_
      refine g_12_19 F kz_176 in_12 (mc bw_7_18) dX12_uneven_28 ?_
      refine x_callV_v F (c_X12_asks (xl X) (xg X) (xA X) F.2.2.1 kz_188 h) (bw_V bw_29_20 bw_29_21 bw_29_22 bw_1_5 bw_29_23) rfl cd_X12_asks (Nat.le_of_ble_eq_true rfl) (Nat.le_of_ble_eq_true rfl) (kd_w (by decide) kz_176) rfl (cl_12 kz_176) rfl rfl (Nat.le_of_ble_eq_true rfl) dX12_uneven_31 (fun s4 h => ?_)
      refine x_aload_n F dX12_uneven_34 rfl 0 rfl ?_
      refine x_aload_n F dX12_uneven_35 rfl 0 rfl ?_
      refine g_12_19 F kz_176 in_12 (mc bw_7_18) dX12_uneven_36 ?_
      refine x_aload_n F dX12_uneven_39 rfl 0 rfl ?_
      refine g_12_19 F kz_176 in_12 (mc bw_7_18) dX12_uneven_40 ?_
      refine x_aload_n F dX12_uneven_43 rfl 0 rfl ?_
      refine g_12_14 F kz_176 in_12 (mc bw_22_18) dX12_uneven_44 ?_
      refine x_iconst (0 : Int32) F dX12_uneven_47 (by decide) ?_
      refine x_callT_i F (c_X12_those (xl X) (xg X) (xA X) F.2.2.1 kz_188 h) (bw_S bw_23_11 bw_23_12 bw_1_5 bw_23_13) rfl cd_X12_those (Nat.le_of_ble_eq_true rfl) (Nat.le_of_ble_eq_true rfl) rfl rfl (Nat.le_of_ble_eq_true rfl) dX12_uneven_48 (fun r7 s6 h => ?_)
      refine x_iconst (0 : Int32) F dX12_uneven_51 (by decide) ?_
      refine x_callV_i F (c_X12_worstOf (xl X) (xg X) (xA X) F.2.2.1 kz_188 h) (bw_V bw_25_6 bw_25_7 bw_25_8 bw_1_5 bw_25_9) rfl cd_X12_worstOf (Nat.le_of_ble_eq_true rfl) (Nat.le_of_ble_eq_true rfl) (kd_w (by decide) kz_176) rfl (cl_12 kz_176) rfl rfl (Nat.le_of_ble_eq_true rfl) dX12_uneven_52 (fun r9 s8 h => ?_)
      refine x_istore_n (lv' := [(2, .int r9), (0, .ref (ad X 176)), (1, .int p0)]) F dX12_uneven_55 rfl (by decide) rfl ?_
      refine x_aload_n F dX12_uneven_56 rfl 1 rfl ?_
      refine x_callV_i F (c_X12_idlest (xl X) (xg X) (xA X) F.2.2.1  h) (bw_V bw_46_12 bw_46_13 bw_46_14 bw_1_5 bw_46_15) rfl cd_X12_idlest (Nat.le_of_ble_eq_true rfl) (Nat.le_of_ble_eq_true rfl) (kd_w (by decide) kz_176) rfl (cl_12 kz_176) rfl rfl (Nat.le_of_ble_eq_true rfl) dX12_uneven_57 (fun r11 s10 h => ?_)
      refine x_istore_n (lv' := [(3, .int r11), (2, .int r9), (0, .ref (ad X 176)), (1, .int p0)]) F dX12_uneven_60 rfl (by decide) rfl ?_
      refine x_aload_n F dX12_uneven_61 rfl 2 rfl ?_
      refine x_aload_n F dX12_uneven_62 rfl 2 rfl ?_
      refine g_12_19 F kz_176 in_12 (mc bw_7_18) dX12_uneven_63 ?_
      refine x_iload_n F dX12_uneven_66 rfl 1 rfl ?_
      refine x_callV_l F (c_X12_pullOf (xl X) (xg X) (xA X) F.2.2.1 kz_188 h) (bw_V bw_24_22 bw_24_23 bw_25_0 bw_1_5 bw_25_1) rfl cd_X12_pullOf (Nat.le_of_ble_eq_true rfl) (Nat.le_of_ble_eq_true rfl) (kd_w (by decide) kz_176) rfl (cl_12 kz_176) rfl rfl (Nat.le_of_ble_eq_true rfl) dX12_uneven_67 (fun r13 s12 h => ?_)
      refine x_aload_n F dX12_uneven_70 rfl 2 rfl ?_
      refine x_iload_n F dX12_uneven_71 rfl 0 rfl ?_
      refine x_callV_i F (c_X12_strength (xl X) (xg X) (xA X) F.2.2.1  h) (bw_V bw_25_10 bw_25_11 bw_25_12 bw_1_5 bw_25_13) rfl cd_X12_strength (Nat.le_of_ble_eq_true rfl) (Nat.le_of_ble_eq_true rfl) (kd_w (by decide) kz_176) rfl (cl_12 kz_176) rfl rfl (Nat.le_of_ble_eq_true rfl) dX12_uneven_72 (fun r15 s14 h => ?_)
      refine x_i2l F dX12_uneven_75 ?_
      refine x_lmul F dX12_uneven_76 ?_
      refine x_aload_n F dX12_uneven_77 rfl 2 rfl ?_
      refine x_aload_n F dX12_uneven_78 rfl 2 rfl ?_
      refine g_12_19 F kz_176 in_12 (mc bw_7_18) dX12_uneven_79 ?_
      refine x_iload_n F dX12_uneven_82 rfl 0 rfl ?_
      refine x_callV_l F (c_X12_pullOf (xl X) (xg X) (xA X) F.2.2.1 kz_188 h) (bw_V bw_24_22 bw_24_23 bw_25_0 bw_1_5 bw_25_1) rfl cd_X12_pullOf (Nat.le_of_ble_eq_true rfl) (Nat.le_of_ble_eq_true rfl) (kd_w (by decide) kz_176) rfl (cl_12 kz_176) rfl rfl (Nat.le_of_ble_eq_true rfl) dX12_uneven_83 (fun r17 s16 h => ?_)
      refine x_aload_n F dX12_uneven_86 rfl 2 rfl ?_
      refine x_iload_n F dX12_uneven_87 rfl 1 rfl ?_
      refine x_callV_i F (c_X12_strength (xl X) (xg X) (xA X) F.2.2.1  h) (bw_V bw_25_10 bw_25_11 bw_25_12 bw_1_5 bw_25_13) rfl cd_X12_strength (Nat.le_of_ble_eq_true rfl) (Nat.le_of_ble_eq_true rfl) (kd_w (by decide) kz_176) rfl (cl_12 kz_176) rfl rfl (Nat.le_of_ble_eq_true rfl) dX12_uneven_88 (fun r19 s18 h => ?_)
      refine x_i2l F dX12_uneven_91 ?_
      refine x_lmul F dX12_uneven_92 ?_
      refine x_lsub F dX12_uneven_93 ?_
      refine x_aload_n F dX12_uneven_94 rfl 2 rfl ?_
      refine g_12_29 F kz_176 in_12 (mc bw_23_10) dX12_uneven_95 ?_
      refine x_aload_n F dX12_uneven_98 rfl 2 rfl ?_
      refine x_iload_n F dX12_uneven_99 rfl 1 rfl ?_
      refine x_callV_i F (c_X12_strength (xl X) (xg X) (xA X) F.2.2.1  h) (bw_V bw_25_10 bw_25_11 bw_25_12 bw_1_5 bw_25_13) rfl cd_X12_strength (Nat.le_of_ble_eq_true rfl) (Nat.le_of_ble_eq_true rfl) (kd_w (by decide) kz_176) rfl (cl_12 kz_176) rfl rfl (Nat.le_of_ble_eq_true rfl) dX12_uneven_100 (fun r21 s20 h => ?_)
      refine x_i2l F dX12_uneven_103 ?_
      refine x_lmul F dX12_uneven_104 ?_
      refine x_aload_n F dX12_uneven_105 rfl 2 rfl ?_
      refine x_iload_n F dX12_uneven_106 rfl 0 rfl ?_
      refine x_callV_i F (c_X12_strength (xl X) (xg X) (xA X) F.2.2.1  h) (bw_V bw_25_10 bw_25_11 bw_25_12 bw_1_5 bw_25_13) rfl cd_X12_strength (Nat.le_of_ble_eq_true rfl) (Nat.le_of_ble_eq_true rfl) (kd_w (by decide) kz_176) rfl (cl_12 kz_176) rfl rfl (Nat.le_of_ble_eq_true rfl) dX12_uneven_107 (fun r23 s22 h => ?_)
      refine x_i2l F dX12_uneven_110 ?_
      refine x_lmul F dX12_uneven_111 ?_
      refine x_iload_n F dX12_uneven_112 rfl 3 rfl ?_
      refine x_callT_l F (c_X12_told (xl X) (xg X) (xA X) F.2.2.1  h) (bw_S bw_30_0 bw_30_1 bw_1_5 bw_30_2) rfl cd_X12_told (Nat.le_of_ble_eq_true rfl) (Nat.le_of_ble_eq_true rfl) rfl rfl (Nat.le_of_ble_eq_true rfl) dX12_uneven_113 (fun r25 s24 h => ?_)
      exact hret _ _ _ _ h dX12_uneven_116
    · replace h := h.2 c
      refine x_ldc2 F dX12_uneven_22 (mc bw_29_19) ?_
      exact hret _ _ _ _ h dX12_uneven_25
/-! X12_accordOf -/
abbrev wvX12_accordOf : List Cond := Cond.code yX12_accordOf cX12_accordOf 5 (some .int) :: wsL_law
theorem cd_X12_accordOf : okN yX12_accordOf RX12 2 := by unfold okN; decide +kernel
def b_X12_accordOf_48  (K5 : Int32 → Int32 → Int32 → Int32 → wS → Prop) (Q : Int32 → wS → Prop) (x1 : Int32) (x2 : Int32) (x4 : Int32) (z0 : Int32) (z1 : Int32) (σ : wS) : Prop := ∀ y1 : Int32, y1 = (z1 + z0) → (∀ y2 : Int32, y2 = (x4 + (1 : Int32)) → (K5 x1 x2 y1 y2 σ))
set_option maxRecDepth 100000 in
set_option maxHeartbeats 4000000 in
theorem wb_X12_accordOf_48 {X : XT} {Q : Int32 → wS → Prop}  (F : Fx X cX12_accordOf 5 RX12 wvX12_accordOf 2 42) (hret : Ri X 5 cX12_accordOf .int Q)  {K5 : Int32 → Int32 → Int32 → Int32 → wS → Prop} (hK5 : ∀ (x1 : Int32) (x2 : Int32) (x3 : Int32) (x4 : Int32) (σ : wS), K5 x1 x2 x3 x4 σ → Wx X 5 σ 5 [(0, .ref (ad X 176)), (1, .int x1), (2, .int x2), (3, .int x3), (4, .int x4)] []) (x1 : Int32) (x2 : Int32) (x4 : Int32) (z0 : Int32) (z1 : Int32) (σ : wS) (h : b_X12_accordOf_48  K5 Q x1 x2 x4 z0 z1 σ) : Wx X 5 σ 48 [(0, .ref (ad X 176)), (1, .int x1), (2, .int x2), (4, .int x4)] [.int z0, .int z1] := by
  unfold b_X12_accordOf_48 at h
  refine x_iadd F dX12_accordOf_48 ?_
  refine x_topi (fun y1 ey1 => ?_)
  replace h := h y1 ey1
  refine x_istore_n (lv' := [(3, .int y1), (0, .ref (ad X 176)), (1, .int x1), (2, .int x2), (4, .int x4)]) F dX12_accordOf_49 rfl (by decide) rfl ?_
  obtain ⟨y2, ey2⟩ : ∃ y : Int32, y = (x4 + (1 : Int32)) := ⟨_, rfl⟩
  replace h := h y2 ey2
  refine x_iinc (q := 4) (v := y2) (lv' := [(4, .int y2), (3, .int y1), (0, .ref (ad X 176)), (1, .int x1), (2, .int x2)]) F dX12_accordOf_50 rfl (by rw [ey2]; rfl) (by decide) rfl ?_
  refine x_goto (tgt := 5) F dX12_accordOf_53 (by decide) ?_
  refine x_sub (lv' := [(0, .ref (ad X 176)), (1, .int x1), (2, .int x2), (3, .int y1), (4, .int y2)]) [2, 3, 4, 1, 0] rfl ?_
  exact hK5 _ _ _ _ _ h
def l_X12_accordOf_5   (Q : Int32 → wS → Prop) : Nat → Int32 → Int32 → Int32 → Int32 → wS → Prop
  | 0, _, _, _, _, _ => False
  | n + 1, x1, x2, x3, x4, σ => ((3 : Int32) ≤ x4 → (Q x3 σ)) ∧ (¬ (3 : Int32) ≤ x4 → (w_X12_isFree x4 σ (fun r2 s1 => (r2 = 0 → (b_X12_accordOf_48  (fun x1 x2 x3 x4 σ => l_X12_accordOf_5   Q n x1 x2 x3 x4 σ) Q x1 x2 x4 (0 : Int32) x3 s1)) ∧ (¬ r2 = 0 → (vp_in (((3 : Int32) * x1) + x4) 24 ∧ (vp_in (((3 : Int32) * x2) + x4) 24 ∧ (b_X12_accordOf_48  (fun x1 x2 x3 x4 σ => l_X12_accordOf_5   Q n x1 x2 x3 x4 σ) Q x1 x2 x4 ((s1.1 182 ((((3 : Int32) * x1) + x4)).toNatClampNeg) * (s1.1 182 ((((3 : Int32) * x2) + x4)).toNatClampNeg)) x3 s1)))))))
set_option maxRecDepth 100000 in
set_option maxHeartbeats 4000000 in
theorem wl_X12_accordOf_5 {X : XT} {Q : Int32 → wS → Prop}  (F : Fx X cX12_accordOf 5 RX12 wvX12_accordOf 2 42) (hret : Ri X 5 cX12_accordOf .int Q)    : ∀ (n : Nat) (x1 : Int32) (x2 : Int32) (x3 : Int32) (x4 : Int32) (σ : wS), l_X12_accordOf_5   Q n x1 x2 x3 x4 σ → Wx X 5 σ 5 [(0, .ref (ad X 176)), (1, .int x1), (2, .int x2), (3, .int x3), (4, .int x4)] [] := by
  intro n
  induction n with
  | zero =>
    intros
    contradiction
  | succ n ih =>
    intro x1 x2 x3 x4 σ h
    simp only [l_X12_accordOf_5] at h
    refine x_iload F dX12_accordOf_5 4 rfl ?_
    refine x_iconst (3 : Int32) F dX12_accordOf_7 (by decide) ?_
    refine x_icmp_ge (tgt := 56) F dX12_accordOf_8 (by decide) (fun c => ?_) (fun c => ?_)
    · replace h := h.1 c
      refine x_iload_n F dX12_accordOf_56 rfl 3 rfl ?_
      exact hret _ _ _ _ h rfl dX12_accordOf_57
    · replace h := h.2 c
      refine x_iload_n F dX12_accordOf_11 rfl 3 rfl ?_
      refine x_aload_n F dX12_accordOf_12 rfl 0 rfl ?_
      refine x_iload F dX12_accordOf_13 4 rfl ?_
      refine x_callV_i F (c_X12_isFree (xl X) (xg X) (xA X) F.2.2.1  h) (bw_V bw_23_22 bw_23_23 bw_24_0 bw_1_5 bw_24_1) rfl cd_X12_isFree (Nat.le_of_ble_eq_true rfl) (Nat.le_of_ble_eq_true rfl) (kd_w (by decide) kz_176) rfl (cl_12 kz_176) rfl rfl (Nat.le_of_ble_eq_true rfl) dX12_accordOf_15 (fun r2 s1 h => ?_)
      refine x_if_eq (tgt := 47) F dX12_accordOf_18 (by decide) (fun c => ?_) (fun c => ?_)
      · replace h := h.1 c
        refine x_iconst (0 : Int32) F dX12_accordOf_47 (by decide) ?_
        refine x_sub (lv' := [(0, .ref (ad X 176)), (1, .int x1), (2, .int x2), (4, .int x4)]) [0, 1, 2, 4] rfl ?_
        exact wb_X12_accordOf_48 F hret  ih _ _ _ _ _ _ h
      · replace h := h.2 c
        refine x_aload_n F dX12_accordOf_21 rfl 0 rfl ?_
        refine g_12_9 F kz_176 in_12 (mc bw_7_12) dX12_accordOf_22 ?_
        refine x_iconst (3 : Int32) F dX12_accordOf_25 (by decide) ?_
        refine x_iload_n F dX12_accordOf_26 rfl 1 rfl ?_
        refine x_imul F dX12_accordOf_27 ?_
        refine x_iload F dX12_accordOf_28 4 rfl ?_
        refine x_iadd F dX12_accordOf_30 ?_
        obtain ⟨hj, h⟩ := h
        refine x_iald F kz_182 nz_182 hj dX12_accordOf_31 ?_
        refine x_aload_n F dX12_accordOf_32 rfl 0 rfl ?_
        refine g_12_9 F kz_176 in_12 (mc bw_7_12) dX12_accordOf_33 ?_
        refine x_iconst (3 : Int32) F dX12_accordOf_36 (by decide) ?_
        refine x_iload_n F dX12_accordOf_37 rfl 2 rfl ?_
        refine x_imul F dX12_accordOf_38 ?_
        refine x_iload F dX12_accordOf_39 4 rfl ?_
        refine x_iadd F dX12_accordOf_41 ?_
        obtain ⟨hj, h⟩ := h
        refine x_iald F kz_182 nz_182 hj dX12_accordOf_42 ?_
        refine x_imul F dX12_accordOf_43 ?_
        refine x_goto (tgt := 48) F dX12_accordOf_44 (by decide) ?_
        refine x_sub (lv' := [(0, .ref (ad X 176)), (1, .int x1), (2, .int x2), (4, .int x4)]) [0, 1, 2, 4] rfl ?_
        exact wb_X12_accordOf_48 F hret  ih _ _ _ _ _ _ h
def w_X12_accordOf  (p0 : Int32) (p1 : Int32) (σ : wS) (Q : Int32 → wS → Prop) : Prop := (∃ m, l_X12_accordOf_5   Q m p0 p1 (0 : Int32) (0 : Int32) σ)
set_option maxRecDepth 100000 in
set_option maxHeartbeats 4000000 in
theorem c_X12_accordOf (l : Launch) (g : wG) (A : Nat → Prop) (hA : adO g A)   {p0 : Int32} {p1 : Int32} {σ : wS} {Q : Int32 → wS → Prop} (h : w_X12_accordOf  p0 p1 σ Q) : Mi l yX12_accordOf wvX12_accordOf 2 42 g A [.ref (g.2.2 176), .int p0, .int p1] σ Q := by
  refine mt_i (own := RX12) (lv := [(0, .ref (g.2.2 176)), (1, .int p0), (2, .int p1)]) (by decide) rfl rfl hA (Nat.le_of_ble_eq_true rfl) rfl ?_
  intro X hl hg hAA F hret
  subst hl hg hAA
  unfold w_X12_accordOf at h
  refine x_iconst (0 : Int32) F dX12_accordOf_0 (by decide) ?_
  refine x_istore_n (lv' := [(3, .int (0 : Int32)), (0, .ref (ad X 176)), (1, .int p0), (2, .int p1)]) F dX12_accordOf_1 rfl (by decide) rfl ?_
  refine x_iconst (0 : Int32) F dX12_accordOf_2 (by decide) ?_
  refine x_istore (lv' := [(4, .int (0 : Int32)), (3, .int (0 : Int32)), (0, .ref (ad X 176)), (1, .int p0), (2, .int p1)]) F dX12_accordOf_3 (by decide) rfl ?_
  refine x_sub (lv' := [(0, .ref (ad X 176)), (1, .int p0), (2, .int p1), (3, .int (0 : Int32)), (4, .int (0 : Int32))]) [2, 3, 4, 1, 0] rfl ?_
  obtain ⟨n2, h⟩ := h
  exact wl_X12_accordOf_5 F hret   n2 _ _ _ _ _ h
/-! X12_accord -/
abbrev wvX12_accord : List Cond := Cond.code yX12_accord cX12_accord 3 (some .int) :: wsL_law
theorem cd_X12_accord : okN yX12_accord RX12 2 := by unfold okN; decide +kernel
def w_X12_accord  (p0 : Int32) (p1 : Int32) (σ : wS) (Q : Int32 → wS → Prop) : Prop := ∀ s1 : wS, s1 = upI σ 176 0 (0 : Int32) → (w_X12_isRope p0 s1 (fun r3 s2 => (r3 = 0 → (Q (-1000000 : Int32) s2)) ∧ (¬ r3 = 0 → (w_X12_isRope p1 s2 (fun r5 s4 => (r5 = 0 → (Q (-1000000 : Int32) s4)) ∧ (¬ r5 = 0 → (w_X12_accordOf p0 p1 s4 (fun r7 s6 => Q r7 s6))))))))
set_option maxRecDepth 100000 in
set_option maxHeartbeats 4000000 in
theorem c_X12_accord (l : Launch) (g : wG) (A : Nat → Prop) (hA : adO g A)   {p0 : Int32} {p1 : Int32} {σ : wS} {Q : Int32 → wS → Prop} (h : w_X12_accord  p0 p1 σ Q) : Mi l yX12_accord wvX12_accord 3 66 g A [.ref (g.2.2 176), .int p0, .int p1] σ Q := by
  refine mt_i (own := RX12) (lv := [(0, .ref (g.2.2 176)), (1, .int p0), (2, .int p1)]) (by decide) rfl rfl hA (Nat.le_of_ble_eq_true rfl) rfl ?_
  intro X hl hg hAA F hret
  subst hl hg hAA
  unfold w_X12_accord at h
  refine x_aload_n F dX12_accord_0 rfl 0 rfl ?_
  refine x_iconst (0 : Int32) F dX12_accord_1 (by decide) ?_
  refine q_12_0 F kz_176 in_12 (mc bw_8_21) dX12_accord_2 ?_
  refine x_nmS (fun s1 es1 => ?_)
  replace h := h s1 es1
  refine x_aload_n F dX12_accord_5 rfl 0 rfl ?_
  refine x_iload_n F dX12_accord_6 rfl 1 rfl ?_
  refine x_callV_i F (c_X12_isRope (xl X) (xg X) (xA X) F.2.2.1  h) (bw_V bw_27_21 bw_27_22 bw_27_23 bw_1_5 bw_28_0) rfl cd_X12_isRope (Nat.le_of_ble_eq_true rfl) (Nat.le_of_ble_eq_true rfl) (kd_w (by decide) kz_176) rfl (cl_12 kz_176) rfl rfl (Nat.le_of_ble_eq_true rfl) dX12_accord_7 (fun r3 s2 h => ?_)
  refine x_if_eq (tgt := 30) F dX12_accord_10 (by decide) (fun c => ?_) (fun c => ?_)
  · replace h := h.1 c
    refine x_ldc F dX12_accord_30 (mc bw_18_9) ?_
    exact hret _ _ _ _ h rfl dX12_accord_32
  · replace h := h.2 c
    refine x_aload_n F dX12_accord_13 rfl 0 rfl ?_
    refine x_iload_n F dX12_accord_14 rfl 2 rfl ?_
    refine x_callV_i F (c_X12_isRope (xl X) (xg X) (xA X) F.2.2.1  h) (bw_V bw_27_21 bw_27_22 bw_27_23 bw_1_5 bw_28_0) rfl cd_X12_isRope (Nat.le_of_ble_eq_true rfl) (Nat.le_of_ble_eq_true rfl) (kd_w (by decide) kz_176) rfl (cl_12 kz_176) rfl rfl (Nat.le_of_ble_eq_true rfl) dX12_accord_15 (fun r5 s4 h => ?_)
    refine x_if_eq (tgt := 30) F dX12_accord_18 (by decide) (fun c => ?_) (fun c => ?_)
    · replace h := h.1 c
      refine x_ldc F dX12_accord_30 (mc bw_18_9) ?_
      exact hret _ _ _ _ h rfl dX12_accord_32
    · replace h := h.2 c
      refine x_aload_n F dX12_accord_21 rfl 0 rfl ?_
      refine x_iload_n F dX12_accord_22 rfl 1 rfl ?_
      refine x_iload_n F dX12_accord_23 rfl 2 rfl ?_
      refine x_callV_i F (c_X12_accordOf (xl X) (xg X) (xA X) F.2.2.1  h) (bw_V bw_47_4 bw_47_5 bw_47_6 bw_1_5 bw_47_7) rfl cd_X12_accordOf (Nat.le_of_ble_eq_true rfl) (Nat.le_of_ble_eq_true rfl) (kd_w (by decide) kz_176) rfl (cl_12 kz_176) rfl rfl (Nat.le_of_ble_eq_true rfl) dX12_accord_24 (fun r7 s6 h => ?_)
      refine x_goto (tgt := 32) F dX12_accord_27 (by decide) ?_
      exact hret _ _ _ _ h rfl dX12_accord_32
/-! X12_stiffnesses -/
abbrev wvX12_stiffnesses : List Cond := Cond.code yX12_stiffnesses cX12_stiffnesses 3 (some .int) :: wsL_law
theorem cd_X12_stiffnesses : okN yX12_stiffnesses RX12 0 := by unfold okN; decide +kernel
def b_X12_stiffnesses_34  (K4 : Int32 → Int32 → wS → Prop) (Q : Int32 → wS → Prop) (x2 : Int32) (z0 : Int32) (z1 : Int32) (σ : wS) : Prop := ∀ y1 : Int32, y1 = (z1 + z0) → (∀ y2 : Int32, y2 = (x2 + (1 : Int32)) → (K4 y1 y2 σ))
set_option maxRecDepth 100000 in
set_option maxHeartbeats 4000000 in
theorem wb_X12_stiffnesses_34 {X : XT} {Q : Int32 → wS → Prop}  (F : Fx X cX12_stiffnesses 3 RX12 wvX12_stiffnesses 1 21) (hret : Ri X 3 cX12_stiffnesses .int Q)  {K4 : Int32 → Int32 → wS → Prop} (hK4 : ∀ (x1 : Int32) (x2 : Int32) (σ : wS), K4 x1 x2 σ → Wx X 3 σ 4 [(0, .ref (ad X 176)), (1, .int x1), (2, .int x2)] []) (x2 : Int32) (z0 : Int32) (z1 : Int32) (σ : wS) (h : b_X12_stiffnesses_34  K4 Q x2 z0 z1 σ) : Wx X 3 σ 34 [(0, .ref (ad X 176)), (2, .int x2)] [.int z0, .int z1] := by
  unfold b_X12_stiffnesses_34 at h
  refine x_iadd F dX12_stiffnesses_34 ?_
  refine x_topi (fun y1 ey1 => ?_)
  replace h := h y1 ey1
  refine x_istore_n (lv' := [(1, .int y1), (0, .ref (ad X 176)), (2, .int x2)]) F dX12_stiffnesses_35 rfl (by decide) rfl ?_
  obtain ⟨y2, ey2⟩ : ∃ y : Int32, y = (x2 + (1 : Int32)) := ⟨_, rfl⟩
  replace h := h y2 ey2
  refine x_iinc (q := 2) (v := y2) (lv' := [(2, .int y2), (1, .int y1), (0, .ref (ad X 176))]) F dX12_stiffnesses_36 rfl (by rw [ey2]; rfl) (by decide) rfl ?_
  refine x_goto (tgt := 4) F dX12_stiffnesses_39 (by decide) ?_
  refine x_sub (lv' := [(0, .ref (ad X 176)), (1, .int y1), (2, .int y2)]) [2, 1, 0] rfl ?_
  exact hK4 _ _ _ h
def l_X12_stiffnesses_4   (Q : Int32 → wS → Prop) : Nat → Int32 → Int32 → wS → Prop
  | 0, _, _, _ => False
  | n + 1, x1, x2, σ => ((σ.1 176 14) ≤ x2 → (Q x1 σ)) ∧ (¬ (σ.1 176 14) ≤ x2 → (vp_in ((8 : Int32) + x2) 202 ∧ ((¬ (σ.1 188 (((8 : Int32) + x2)).toNatClampNeg) = 0 → (b_X12_stiffnesses_34  (fun x1 x2 σ => l_X12_stiffnesses_4   Q n x1 x2 σ) Q x2 (0 : Int32) x1 σ)) ∧ ((σ.1 188 (((8 : Int32) + x2)).toNatClampNeg) = 0 → (w_X12_stiffness x2 σ (fun r2 s1 => b_X12_stiffnesses_34  (fun x1 x2 σ => l_X12_stiffnesses_4   Q n x1 x2 σ) Q x2 r2 x1 s1))))))
set_option maxRecDepth 100000 in
set_option maxHeartbeats 4000000 in
theorem wl_X12_stiffnesses_4 {X : XT} {Q : Int32 → wS → Prop}  (F : Fx X cX12_stiffnesses 3 RX12 wvX12_stiffnesses 1 21) (hret : Ri X 3 cX12_stiffnesses .int Q)    : ∀ (n : Nat) (x1 : Int32) (x2 : Int32) (σ : wS), l_X12_stiffnesses_4   Q n x1 x2 σ → Wx X 3 σ 4 [(0, .ref (ad X 176)), (1, .int x1), (2, .int x2)] [] := by
  intro n
  induction n with
  | zero =>
    intros
    contradiction
  | succ n ih =>
    intro x1 x2 σ h
    simp only [l_X12_stiffnesses_4] at h
    refine x_iload_n F dX12_stiffnesses_4 rfl 2 rfl ?_
    refine x_aload_n F dX12_stiffnesses_5 rfl 0 rfl ?_
    refine g_12_14 F kz_176 in_12 (mc bw_22_18) dX12_stiffnesses_6 ?_
    refine x_icmp_ge (tgt := 42) F dX12_stiffnesses_9 (by decide) (fun c => ?_) (fun c => ?_)
    · replace h := h.1 c
      refine x_iload_n F dX12_stiffnesses_42 rfl 1 rfl ?_
      exact hret _ _ _ _ h rfl dX12_stiffnesses_43
    · replace h := h.2 c
      refine x_iload_n F dX12_stiffnesses_12 rfl 1 rfl ?_
      refine x_aload_n F dX12_stiffnesses_13 rfl 0 rfl ?_
      refine g_12_19 F kz_176 in_12 (mc bw_7_18) dX12_stiffnesses_14 ?_
      refine x_bipush (8 : Int32) F dX12_stiffnesses_17 (by decide) ?_
      refine x_iload_n F dX12_stiffnesses_19 rfl 2 rfl ?_
      refine x_iadd F dX12_stiffnesses_20 ?_
      obtain ⟨hj, h⟩ := h
      refine x_iald F kz_188 nz_188 hj dX12_stiffnesses_21 ?_
      refine x_if_ne (tgt := 33) F dX12_stiffnesses_22 (by decide) (fun c => ?_) (fun c => ?_)
      · replace h := h.1 c
        refine x_iconst (0 : Int32) F dX12_stiffnesses_33 (by decide) ?_
        refine x_sub (lv' := [(0, .ref (ad X 176)), (2, .int x2)]) [0, 2] rfl ?_
        exact wb_X12_stiffnesses_34 F hret  ih _ _ _ _ h
      · replace h := h.2 c
        refine x_aload_n F dX12_stiffnesses_25 rfl 0 rfl ?_
        refine x_iload_n F dX12_stiffnesses_26 rfl 2 rfl ?_
        refine x_callV_i F (c_X12_stiffness (xl X) (xg X) (xA X) F.2.2.1  h) (bw_V bw_24_2 bw_24_3 bw_24_4 bw_1_5 bw_24_5) rfl cd_X12_stiffness (Nat.le_of_ble_eq_true rfl) (Nat.le_of_ble_eq_true rfl) (kd_w (by decide) kz_176) rfl (cl_12 kz_176) rfl rfl (Nat.le_of_ble_eq_true rfl) dX12_stiffnesses_27 (fun r2 s1 h => ?_)
        refine x_goto (tgt := 34) F dX12_stiffnesses_30 (by decide) ?_
        refine x_sub (lv' := [(0, .ref (ad X 176)), (2, .int x2)]) [0, 2] rfl ?_
        exact wb_X12_stiffnesses_34 F hret  ih _ _ _ _ h
def w_X12_stiffnesses   (σ : wS) (Q : Int32 → wS → Prop) : Prop := (∃ m, l_X12_stiffnesses_4   Q m (0 : Int32) (0 : Int32) σ)
set_option maxRecDepth 100000 in
set_option maxHeartbeats 4000000 in
theorem c_X12_stiffnesses (l : Launch) (g : wG) (A : Nat → Prop) (hA : adO g A)    {σ : wS} {Q : Int32 → wS → Prop} (h : w_X12_stiffnesses   σ Q) : Mi l yX12_stiffnesses wvX12_stiffnesses 1 21 g A [.ref (g.2.2 176)] σ Q := by
  refine mt_i (own := RX12) (lv := [(0, .ref (g.2.2 176))]) (by decide) rfl rfl hA (Nat.le_of_ble_eq_true rfl) rfl ?_
  intro X hl hg hAA F hret
  subst hl hg hAA
  unfold w_X12_stiffnesses at h
  refine x_iconst (0 : Int32) F dX12_stiffnesses_0 (by decide) ?_
  refine x_istore_n (lv' := [(1, .int (0 : Int32)), (0, .ref (ad X 176))]) F dX12_stiffnesses_1 rfl (by decide) rfl ?_
  refine x_iconst (0 : Int32) F dX12_stiffnesses_2 (by decide) ?_
  refine x_istore_n (lv' := [(2, .int (0 : Int32)), (1, .int (0 : Int32)), (0, .ref (ad X 176))]) F dX12_stiffnesses_3 rfl (by decide) rfl ?_
  refine x_sub (lv' := [(0, .ref (ad X 176)), (1, .int (0 : Int32)), (2, .int (0 : Int32))]) [2, 1, 0] rfl ?_
  obtain ⟨n2, h⟩ := h
  exact wl_X12_stiffnesses_4 F hret   n2 _ _ _ h
/-! X12_shares -/
abbrev wvX12_shares : List Cond := Cond.code yX12_shares cX12_shares 3 (some .int) :: wsL_law
theorem cd_X12_shares : okN yX12_shares RX12 2 := by unfold okN; decide +kernel
def w_X12_shares  (p0 : Int32) (p1 : Int32) (σ : wS) (Q : Int32 → wS → Prop) : Prop := ∀ s1 : wS, s1 = upI σ 176 0 (0 : Int32) → (w_X12_isRope p0 s1 (fun r3 s2 => (r3 = 0 → (Q (-1 : Int32) s2)) ∧ (¬ r3 = 0 → (vp_in ((8 : Int32) + p0) 202 ∧ ((¬ (s2.1 188 (((8 : Int32) + p0)).toNatClampNeg) = 0 → (Q (-1 : Int32) s2)) ∧ ((s2.1 188 (((8 : Int32) + p0)).toNatClampNeg) = 0 → (w_X12_isIn (p1).toInt64 (0 : Int64) (999 : Int64) s2 (fun r5 s4 => (¬ r5 = 0 → (w_X12_stiffness p0 s4 (fun r7 s6 => w_X12_stiffnesses  s6 (fun r9 s8 => ¬ r9 = 0 ∧ (Q ((p1 * r7) / r9) s8))))) ∧ (r5 = 0 → (Q (-1 : Int32) s4))))))))))
set_option maxRecDepth 100000 in
set_option maxHeartbeats 4000000 in
theorem c_X12_shares (l : Launch) (g : wG) (A : Nat → Prop) (hA : adO g A)   {p0 : Int32} {p1 : Int32} {σ : wS} {Q : Int32 → wS → Prop} (h : w_X12_shares  p0 p1 σ Q) : Mi l yX12_shares wvX12_shares 2 43 g A [.ref (g.2.2 176), .int p0, .int p1] σ Q := by
  refine mt_i (own := RX12) (lv := [(0, .ref (g.2.2 176)), (1, .int p0), (2, .int p1)]) (by decide) rfl rfl hA (Nat.le_of_ble_eq_true rfl) rfl ?_
  intro X hl hg hAA F hret
  subst hl hg hAA
  unfold w_X12_shares at h
  refine x_aload_n F dX12_shares_0 rfl 0 rfl ?_
  refine x_iconst (0 : Int32) F dX12_shares_1 (by decide) ?_
  refine q_12_0 F kz_176 in_12 (mc bw_8_21) dX12_shares_2 ?_
  refine x_nmS (fun s1 es1 => ?_)
  replace h := h s1 es1
  refine x_aload_n F dX12_shares_5 rfl 0 rfl ?_
  refine x_iload_n F dX12_shares_6 rfl 1 rfl ?_
  refine x_callV_i F (c_X12_isRope (xl X) (xg X) (xA X) F.2.2.1  h) (bw_V bw_27_21 bw_27_22 bw_27_23 bw_1_5 bw_28_0) rfl cd_X12_isRope (Nat.le_of_ble_eq_true rfl) (Nat.le_of_ble_eq_true rfl) (kd_w (by decide) kz_176) rfl (cl_12 kz_176) rfl rfl (Nat.le_of_ble_eq_true rfl) dX12_shares_7 (fun r3 s2 h => ?_)
  refine x_if_eq (tgt := 37) F dX12_shares_10 (by decide) (fun c => ?_) (fun c => ?_)
  · replace h := h.1 c
    refine x_iconst (-1 : Int32) F dX12_shares_37 (by decide) ?_
    exact hret _ _ _ _ h rfl dX12_shares_38
  · replace h := h.2 c
    refine x_aload_n F dX12_shares_13 rfl 0 rfl ?_
    refine g_12_19 F kz_176 in_12 (mc bw_7_18) dX12_shares_14 ?_
    refine x_bipush (8 : Int32) F dX12_shares_17 (by decide) ?_
    refine x_iload_n F dX12_shares_19 rfl 1 rfl ?_
    refine x_iadd F dX12_shares_20 ?_
    obtain ⟨hj, h⟩ := h
    refine x_iald F kz_188 nz_188 hj dX12_shares_21 ?_
    refine x_if_ne (tgt := 37) F dX12_shares_22 (by decide) (fun c => ?_) (fun c => ?_)
    · replace h := h.1 c
      refine x_iconst (-1 : Int32) F dX12_shares_37 (by decide) ?_
      exact hret _ _ _ _ h rfl dX12_shares_38
    · replace h := h.2 c
      refine x_iload_n F dX12_shares_25 rfl 2 rfl ?_
      refine x_i2l F dX12_shares_26 ?_
      refine x_lconst (0 : Int64) F dX12_shares_27 (by decide) ?_
      refine x_ldc2 F dX12_shares_28 (mc bw_36_12) ?_
      refine x_callT_i F (c_X12_isIn (xl X) (xg X) (xA X) F.2.2.1  h) (bw_S bw_13_13 bw_13_14 bw_1_5 bw_13_15) rfl cd_X12_isIn (Nat.le_of_ble_eq_true rfl) (Nat.le_of_ble_eq_true rfl) rfl rfl (Nat.le_of_ble_eq_true rfl) dX12_shares_31 (fun r5 s4 h => ?_)
      refine x_if_ne (tgt := 39) F dX12_shares_34 (by decide) (fun c => ?_) (fun c => ?_)
      · replace h := h.1 c
        refine x_iload_n F dX12_shares_39 rfl 2 rfl ?_
        refine x_aload_n F dX12_shares_40 rfl 0 rfl ?_
        refine x_iload_n F dX12_shares_41 rfl 1 rfl ?_
        refine x_callV_i F (c_X12_stiffness (xl X) (xg X) (xA X) F.2.2.1  h) (bw_V bw_24_2 bw_24_3 bw_24_4 bw_1_5 bw_24_5) rfl cd_X12_stiffness (Nat.le_of_ble_eq_true rfl) (Nat.le_of_ble_eq_true rfl) (kd_w (by decide) kz_176) rfl (cl_12 kz_176) rfl rfl (Nat.le_of_ble_eq_true rfl) dX12_shares_42 (fun r7 s6 h => ?_)
        refine x_imul F dX12_shares_45 ?_
        refine x_aload_n F dX12_shares_46 rfl 0 rfl ?_
        refine x_callV_i F (c_X12_stiffnesses (xl X) (xg X) (xA X) F.2.2.1  h) (bw_V bw_51_12 bw_51_13 bw_51_14 bw_1_5 bw_51_15) rfl cd_X12_stiffnesses (Nat.le_of_ble_eq_true rfl) (Nat.le_of_ble_eq_true rfl) (kd_w (by decide) kz_176) rfl (cl_12 kz_176) rfl rfl (Nat.le_of_ble_eq_true rfl) dX12_shares_47 (fun r9 s8 h => ?_)
        obtain ⟨hj, h⟩ := h
        refine x_idiv F dX12_shares_50 hj ?_
        exact hret _ _ _ _ h rfl dX12_shares_51
      · replace h := h.2 c
        refine x_iconst (-1 : Int32) F dX12_shares_37 (by decide) ?_
        exact hret _ _ _ _ h rfl dX12_shares_38
