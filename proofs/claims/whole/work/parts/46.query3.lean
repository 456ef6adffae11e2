/-! accord -/
def acc (μ : MU) (a b : Nat) : Int := sm 3 (fun i => if mu_f μ i then mu_w μ a i * mu_w μ b i else 0)
theorem acc_b {μ : MU} (hμ : mu_ok μ) {a b : Nat} (ha : a < μ.1) (hb : b < μ.1) : (acc μ a b).natAbs ≤ 3 * (32 * 32) := by
  unfold acc
  refine sm_ab (fun i hi => ?_)
  split
  · exact ab_mul (w_b hμ ha hi) (w_b hμ hb hi)
  · simp
theorem acc3 (μ : MU) (a b : Nat) : acc μ a b = (if mu_f μ 0 then mu_w μ a 0 * mu_w μ b 0 else 0) + (if mu_f μ 1 then mu_w μ a 1 * mu_w μ b 1 else 0) + (if mu_f μ 2 then mu_w μ a 2 * mu_w μ b 2 else 0) := by
  simp [acc, sm]
theorem s_accordOf {μ : MU} (hμ : mu_ok μ) {p a b : Nat} {σ : wS} {Q : Int32 → wS → Prop} (hM : MoC μ p σ) (ha : a < μ.1) (hb : b < μ.1) (hq : Q (iI (acc μ a b)) σ) : w_X5_accordOf p (nI a) (nI b) σ Q := by
  have h8 := hμ.1
  have key : ∀ (k m : Nat), m ≤ 3 → m + k = 4 → l_X5_accordOf_5 p Q k (nI a) (nI b) (iI (sm m (fun i => if mu_f μ i then mu_w μ a i * mu_w μ b i else 0))) (nI m) σ := by
    intro k
    induction k with
    | zero => intro m h1 h2; omega
    | succ k ih =>
      intro m h1 h2
      simp only [l_X5_accordOf_5]
      have e3 : ((3 : Int32) ≤ nI m) ↔ 3 ≤ m := nI_leI (a := 3) (by decide) (by omega)
      rw [e3]
      refine ⟨fun hc => ?_, fun hc => ⟨vp_in_nI (by omega) (by decide), ?_⟩⟩
      · have : m = 3 := by omega
        subst this
        exact hq
      · have ih := ih (m + 1) (by omega) (by omega)
        rw [← nI_1, sm] at ih
        have ea : ∀ r, (3 : Int32) * nI r + nI m = nI (3 * r + m) := fun r => by rw [show (3 : Int32) = nI 3 from rfl, pk_mul, nI_add]
        rw [nI_clamp (by omega), hM.2.2.2.2.2 m (by omega), ea a, ea b, nI_clamp (by omega), nI_clamp (by omega)]
        simp only [b_X5_accordOf_47, forall_eq]
        cases hf : mu_f μ m
        · rw [hf] at ih
          simp only [Bool.false_eq_true, if_false, Int.add_zero] at ih
          exact ⟨fun _ => ih, fun q => absurd rfl q⟩
        · rw [hf] at ih
          simp only [if_true] at ih
          rw [hM.2.2.2.1 a ha m (by omega), hM.2.2.2.1 b hb m (by omega), iI_mul, iI_add]
          exact ⟨fun q => absurd q (by decide), fun _ => ⟨vp_in_nI (by omega) (by decide), vp_in_nI (by omega) (by decide), ih⟩⟩
  exact ⟨4, key 4 0 (by decide) (by decide)⟩
theorem m_accordOf {μ : MU} (hμ : mu_ok μ) {a b : Nat} {σ : wS} {Q : Int32 → wS → Prop} (hM : MoM μ σ) (ha : a < μ.1) (hb : b < μ.1) (hq : Q (iI (acc μ a b)) σ) : w_X12_accordOf (nI a) (nI b) σ Q := by
  have h8 := hμ.1
  have key : ∀ (k m : Nat), m ≤ 3 → m + k = 4 → l_X12_accordOf_5 Q k (nI a) (nI b) (iI (sm m (fun i => if mu_f μ i then mu_w μ a i * mu_w μ b i else 0))) (nI m) σ := by
    intro k
    induction k with
    | zero => intro m h1 h2; omega
    | succ k ih =>
      intro m h1 h2
      simp only [l_X12_accordOf_5]
      have e3 : ((3 : Int32) ≤ nI m) ↔ 3 ≤ m := nI_leI (a := 3) (by decide) (by omega)
      rw [e3]
      refine ⟨fun hc => ?_, fun hc => ?_⟩
      · have : m = 3 := by omega
        subst this
        exact hq
      · have ih := ih (m + 1) (by omega) (by omega)
        rw [← nI_1, sm] at ih
        have ea : ∀ r, (3 : Int32) * nI r + nI m = nI (3 * r + m) := fun r => by rw [show (3 : Int32) = nI 3 from rfl, pk_mul, nI_add]
        rw [isF hμ hM rfl (show m < 3 by omega), ea a, ea b, nI_clamp (by omega), nI_clamp (by omega)]
        simp only [b_X12_accordOf_48, forall_eq]
        cases hf : mu_f μ m
        · rw [hf] at ih
          simp only [Bool.false_eq_true, if_false, Int.add_zero] at ih
          rw [Int32.add_zero]
          exact ⟨fun _ => ih, fun q => absurd rfl q⟩
        · rw [hf] at ih
          simp only [if_true] at ih
          rw [hM.2.2.2 a ha m (by omega), hM.2.2.2 b hb m (by omega), iI_mul, iI_add]
          exact ⟨fun q => absurd q (by decide), fun _ => ⟨vp_in_nI (by omega) (by decide), vp_in_nI (by omega) (by decide), ih⟩⟩
  exact ⟨4, key 4 0 (by decide) (by decide)⟩
def f_accord (a b : Int32) (γ : GS) : Int32 × GS := (if rpe γ.2.1.1 a ∧ rpe γ.2.1.1 b then iI (acc γ.2.1 a.toInt.toNat b.toInt.toNat) else -1000000, γ)
theorem o_accord {bd : Nat} {σ : wS} {a b : Int32} (hI : In bd σ) : w_X11_accord a b σ (fun r1 s => w_X12_accord a b s (fun r' s' => r1 = r' ∧ In (bd + 40) s')) := by
  refine prI (f := f_accord a b) (w1 := w_X11_accord a b) (w2 := w_X12_accord a b) (fun γ σ Q hC hg hq => ?_) (fun γ σ Q hD hg hq => ?_) (fun γ hg => hg.wk (by omega)) hI
  · unfold f_accord at hq
    have hq := hq σ hC Fcm.rf
    unfold w_X11_accord
    rw [s_isRope hg hC]
    refine sw (fun ha => ?_) (fun hf => by rw [if_neg (fun q => hf q.1)] at hq; exact hq)
    rw [s_isRope hg hC]
    refine sw' (fun hb => ?_) (fun hf => by rw [if_neg (fun q => hf q.2)] at hq; exact hq)
    rw [if_pos ⟨ha, hb⟩] at hq
    obtain ⟨hμ, -⟩ := hg.hk (show 0 < γ.2.1.1 by have := ha.1; have := ha.2; omega)
    obtain ⟨i, rfl, hi, -⟩ := nn ha.1
    obtain ⟨j, rfl, hj, -⟩ := nn hb.1
    rw [← hi, ← hj, show ((j : Int)).toNat = j by omega, show ((i : Int)).toNat = i by omega] at hq
    exact s_accordOf hμ hC.2.1.2 (by have := ha.2; omega) (by have := hb.2; omega) hq
  · intro s1 e1
    have D1 : D γ s1 := by rw [e1]; exact hD.up (by decide)
    have F1 : Fdm σ s1 := by rw [e1]; exact Fdm.rf.up (by decide)
    unfold f_accord at hq
    have hq := hq s1 D1 F1
    have h8 := hg.n8
    rw [isRM h8 D1.2.1.1]
    refine sw (fun ha => ?_) (fun hf => by rw [if_neg (fun q => hf q.1)] at hq; exact hq)
    rw [isRM h8 D1.2.1.1]
    refine sw (fun hb => ?_) (fun hf => by rw [if_neg (fun q => hf q.2)] at hq; exact hq)
    rw [if_pos ⟨ha, hb⟩] at hq
    obtain ⟨hμ, -⟩ := hg.hk (show 0 < γ.2.1.1 by have := ha.1; have := ha.2; omega)
    obtain ⟨i, rfl, hi, -⟩ := nn ha.1
    obtain ⟨j, rfl, hj, -⟩ := nn hb.1
    rw [← hi, ← hj, show ((j : Int)).toNat = j by omega, show ((i : Int)).toNat = i by omega] at hq
    exact m_accordOf hμ D1.2.1 (by have := ha.2; omega) (by have := hb.2; omega) hq
/-! shares -/
def stS (μ : MU) (set m : Nat) : Int := sm m (fun r => if set.testBit r then mu_k μ r else 0)
theorem stS_b {μ : MU} (hμ : mu_ok μ) (set : Nat) : 0 ≤ stS μ set μ.1 ∧ stS μ set μ.1 ≤ 72 ∧ ((∃ r, r < μ.1 ∧ set.testBit r = true) → 0 < stS μ set μ.1) := by
  have key : ∀ m, m ≤ μ.1 → 0 ≤ stS μ set m ∧ stS μ set m ≤ 9 * m ∧ ((∃ r, r < m ∧ set.testBit r = true) → 0 < stS μ set m) := by
    intro m
    induction m with
    | zero => intro _; exact ⟨by simp [stS, sm], by simp [stS, sm], fun ⟨r, h, _⟩ => absurd h (by omega)⟩
    | succ m ih =>
      intro hm
      obtain ⟨i1, i2, i3⟩ := ih (by omega)
      have hk := hμ.2.1 m (by omega)
      have e : stS μ set (m + 1) = stS μ set m + (if set.testBit m then mu_k μ m else 0) := rfl
      rw [e]
      cases hb : set.testBit m
      · refine ⟨by simpa using i1, by simp; omega, fun ⟨r, h1, h2⟩ => ?_⟩
        have : r ≠ m := fun q => by rw [q, hb] at h2; cases h2
        have := i3 ⟨r, by omega, h2⟩
        simpa using this
      · simp only [if_true]
        unfold mu_k
        refine ⟨by omega, by omega, fun _ => by omega⟩
  have := key μ.1 (Nat.le_refl _)
  have := hμ.1
  exact ⟨by omega, by omega, (key μ.1 (Nat.le_refl _)).2.2⟩
theorem s_stiffOf {n p set : Nat} {μ : MU} {σ : wS} {Q : Int32 → wS → Prop} (h8 : μ.1 ≤ 8) (hs : set < 256) (hM : MoC μ p σ) (hq : Q (iI (stS μ set μ.1)) σ) : w_X5_stiffnessOf p (nI set) σ Q := by
  have key : ∀ (k m : Nat), m ≤ μ.1 → m + k = μ.1 + 1 → l_X5_stiffnessOf_4 p Q k (nI set) (iI (stS μ set m)) (nI m) σ := by
    intro k
    induction k with
    | zero => intro m h1 h2; omega
    | succ k ih =>
      intro m h1 h2
      simp only [l_X5_stiffnessOf_4]
      rw [hM.1, nI_leI (by omega) (by omega)]
      refine ⟨fun hc => ?_, fun hc => ?_⟩
      · have : m = μ.1 := by omega
        subst this
        exact hq
      · have ih := ih (m + 1) (by omega) (by omega)
        have e : stS μ set (m + 1) = stS μ set m + (if set.testBit m then mu_k μ m else 0) := rfl
        rw [← nI_1, e] at ih
        rw [bt8 hs (show m < 8 by omega), nI_clamp (by omega)]
        simp only [b_X5_stiffnessOf_29, forall_eq]
        cases hb : set.testBit m
        · rw [hb] at ih
          simp only [Bool.false_eq_true, if_false, Int.add_zero] at ih
          exact ⟨fun _ => ih, fun q => absurd rfl q⟩
        · rw [hb] at ih
          simp only [if_true] at ih
          rw [(hM.2.2.2.2.1 m (by omega)).1, iI_add]
          exact ⟨fun q => absurd q (by decide), fun _ => ⟨vp_in_nI (by omega) (by decide), ih⟩⟩
  exact ⟨μ.1 + 1, key (μ.1 + 1) 0 (by omega) (by omega)⟩
theorem m_stiffs {μ : MU} (hμ : mu_ok μ) {h : HS} {lg : List LE} {σ : wS} {Q : Int32 → wS → Prop} (hk : hok μ h) (hM : MoM μ σ) (hR : RowM μ h lg (σ.1 188)) (hq : Q (iI (stS μ h.2.2.1.1 μ.1)) σ) : w_X12_stiffnesses σ Q := by
  have h8 := hμ.1
  have key : ∀ (k m : Nat), m ≤ μ.1 → m + k = μ.1 + 1 → l_X12_stiffnesses_4 Q k (iI (stS μ h.2.2.1.1 m)) (nI m) σ := by
    intro k
    induction k with
    | zero => intro m h1 h2; omega
    | succ k ih =>
      intro m h1 h2
      simp only [l_X12_stiffnesses_4]
      rw [hM.1, nI_leI (by omega) (by omega)]
      refine ⟨fun hc => ?_, fun hc => ?_⟩
      · have : m = μ.1 := by omega
        subst this
        exact hq
      · have ih := ih (m + 1) (by omega) (by omega)
        have e : stS μ h.2.2.1.1 (m + 1) = stS μ h.2.2.1.1 m + (if h.2.2.1.1.testBit m then mu_k μ m else 0) := rfl
        rw [← nI_1, e] at ih
        have v8 := v8p (show m < 8 by omega)
        rw [v8.2, hR.2.2.1 m (by omega), srt_0 hk, stf (show m < 8 by omega)]
        simp only [b_X12_stiffnesses_34, forall_eq]
        refine ⟨v8.1, fun hb => ?_, fun hb => ?_⟩
        · rw [if_neg hb, Int.add_zero] at ih
          rw [Int32.add_zero]
          exact ih
        · rw [if_pos hb] at ih
          have ek : σ.1 181 (7 * m) = iI (mu_k μ m) := hM.2.1 m (by omega) 0 (by decide)
          rw [ek, iI_add]
          exact ih
  exact ⟨μ.1 + 1, key (μ.1 + 1) 0 (by omega) (by omega)⟩
def f_shares (r c : Int32) (γ : GS) : Int32 × GS := (if tau γ.2.1 γ.2.2.1.1 r ∧ (0 ≤ c.toInt ∧ c.toInt ≤ 999) then (c * iI (mu_k γ.2.1 r.toInt.toNat)) / iI (stS γ.2.1 γ.2.2.1.1.2.2.1.1 γ.2.1.1) else -1, γ)
theorem o_shares {bd : Nat} {σ : wS} {r c : Int32} (hI : In bd σ) : w_X11_shares r c σ (fun r1 s => w_X12_shares r c s (fun r' s' => r1 = r' ∧ In (bd + 40) s')) := by
  refine prI (f := f_shares r c) (w1 := w_X11_shares r c) (w2 := w_X12_shares r c) (fun γ σ Q hC hg hq => ?_) (fun γ σ Q hD hg hq => ?_) (fun γ hg => hg.wk (by omega)) hI
  · unfold f_shares at hq
    have hq := hq σ hC Fcm.rf
    unfold w_X11_shares
    have h8 := hg.n8
    have ht : γ.2.2.1.1.2.2.1.1 < 256 := by
      rcases Nat.eq_zero_or_pos γ.2.1.1 with q | q
      · rw [(hg.2.2.2.2.2.2.1 q).1]; decide
      · exact (hg.hk q).2.1.2.1
    rw [hC.2.2.1.1.2.1]
    refine s_stiffOf (n := 0) h8 ht hC.2.1.2 ?_
    rw [s_isTaut hg hC]
    refine sw (fun hf => ?_) (fun hf => by rw [if_neg (fun q => hf q.1)] at hq; exact hq)
    rw [w0_999]
    refine sw (fun hw => ?_) (fun hw => by rw [if_neg (fun q => hw q.2)] at hq; exact hq)
    rw [if_pos ⟨hf, hw⟩] at hq
    have h0 : 0 < γ.2.1.1 := by have := hf.1.1; have := hf.1.2; omega
    obtain ⟨hμ, hk, hs, -⟩ := hg.hk h0
    obtain ⟨j, rfl, hj, -⟩ := nn hf.1.1
    have hjt : (nI j).toInt.toNat = j := by omega
    have hjn : j < γ.2.1.1 := by have := hf.1.2; omega
    have hSb := stS_b hμ γ.2.2.1.1.2.2.1.1
    have hSp := hSb.2.2 ⟨j, hjn, by have := hf.2; rw [hjt] at this; exact this⟩
    have e1 : (0 < iI (stS γ.2.1 γ.2.2.1.1.2.2.1.1 γ.2.1.1)) ↔ 0 < stS γ.2.1 γ.2.2.1.1.2.2.1.1 γ.2.1.1 := iI_lt (a := 0) (by decide) (by omega)
    have e2 : ¬ iI (stS γ.2.1 γ.2.2.1.1.2.2.1.1 γ.2.1.1) = 0 := by rw [show (0 : Int32) = iI 0 by decide, iI_eq (by omega) (by decide)]; omega
    refine ⟨fun _ => ⟨vp_in_nI (by omega) (by decide), e2, ?_⟩, fun q => absurd (e1.mpr hSp) q⟩
    rw [nI_clamp (by omega), (hC.2.1.2.2.2.2.2.1 j hjn).1]
    rw [hjt] at hq
    exact hq
  · intro s1 e1
    have D1 : D γ s1 := by rw [e1]; exact hD.up (by decide)
    have F1 : Fdm σ s1 := by rw [e1]; exact Fdm.rf.up (by decide)
    unfold f_shares at hq
    have hq := hq s1 D1 F1
    have h8 := hg.n8
    rw [isRM h8 D1.2.1.1]
    refine sw (fun hr => ?_) (fun hf => by rw [if_neg (fun q => hf q.1.1)] at hq; exact hq)
    have h0 : 0 < γ.2.1.1 := by have := hr.1; have := hr.2; omega
    obtain ⟨hμ, hk, hs, -⟩ := hg.hk h0
    obtain ⟨j, rfl, hj, -⟩ := nn hr.1
    have hjt : (nI j).toInt.toNat = j := by omega
    have hjn : j < γ.2.1.1 := by have := hr.2; omega
    have v8 := v8p (show j < 8 by omega)
    rw [v8.2, D1.row.2.2.1 j hjn, srt_0 hk]
    refine ⟨v8.1, fun hb => ?_, fun hb => ?_⟩
    · rw [if_neg (fun q => hb (by have := q.1.2; rw [hjt] at this; exact this))] at hq
      exact hq
    rw [i0_999]
    refine sw' (fun hw => ?_) (fun hw => by rw [if_neg (fun q => hw q.2)] at hq; exact hq)
    rw [if_pos ⟨⟨hr, by rw [hjt]; exact hb⟩, hw⟩, hjt] at hq
    have ek : s1.1 181 (7 * j) = iI (mu_k γ.2.1 j) := D1.2.1.2.1 j hjn 0 (by decide)
    rw [stf (show j < 8 by omega), ek]
    have hSb := stS_b hμ γ.2.2.1.1.2.2.1.1
    have hSp := hSb.2.2 ⟨j, hjn, hb⟩
    have e2 : ¬ iI (stS γ.2.1 γ.2.2.1.1.2.2.1.1 γ.2.1.1) = 0 := by rw [show (0 : Int32) = iI 0 by decide, iI_eq (by omega) (by decide)]; omega
    exact m_stiffs hμ hk D1.2.1 D1.row ⟨e2, hq⟩
