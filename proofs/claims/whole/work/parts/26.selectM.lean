/-! the model's choices -/
theorem cmp_ge (x y : Int64) : 0 ≤ lg_cmp x y ↔ y ≤ x := by
  unfold lg_cmp
  by_cases h1 : x > y
  · simp only [h1, if_true]
    exact ⟨fun _ => Int64.le_of_lt h1, fun _ => by decide⟩
  · simp only [h1, if_false]
    by_cases h2 : x = y
    · subst h2
      simp
    · simp only [h2, if_false]
      refine ⟨fun q => absurd q (by decide), fun q => ?_⟩
      have h3 : ¬ y < x := h1
      have h4 : x ≤ y := Int64.not_lt.mp h3
      exact absurd (Int64.le_antisymm h4 q) h2
theorem cmp_eq (x y : Int64) : lg_cmp x y = 0 ↔ x = y := by
  unfold lg_cmp
  by_cases h1 : x > y
  · simp only [h1, if_true]
    refine ⟨fun q => absurd q (by decide), fun q => ?_⟩
    subst q
    exact absurd h1 (Int64.lt_irrefl)
  · simp only [h1, if_false]
    by_cases h2 : x = y
    · simp [h2]
    · simp only [h2, if_false, iff_false]
      decide
theorem cmp_lt (x y : Int64) : lg_cmp x y < 0 ↔ x < y := by
  have h := cmp_ge x y
  rw [← Int32.not_le, h, Int64.not_le]
/-- the model stands at a solved set -/
def PhM (μ : MU) (laid wind : Nat → Int) (set p : Nat) (σ : wS) : Prop := ln p = 202 ∧ MoM μ σ ∧ LwM μ.1 laid wind p σ ∧ σ.2 176 29 = iJ (Lw μ set) ∧ ∀ a, a < 3 → σ.2 194 a = iJ (Sh μ laid wind set a)
theorem m_pl {μ : MU} (hμ : mu_ok μ) {laid wind : Nat → Int} {set p r : Nat} {σ : wS} {Q : Int64 → wS → Prop} (hb : bdd μ.1 laid wind) (h : PhM μ laid wind set p σ) (hr : r < μ.1) (hq : Q (iJ (Pl μ laid wind set r)) σ) : w_X12_pullOf p (nI r) σ Q := m_pullOf hμ h.1 h.2.1 h.2.2.1 hb hr h.2.2.2.1 h.2.2.2.2 hq
theorem strg {μ : MU} (hμ : mu_ok μ) {σ : wS} {Q : Int32 → wS → Prop} {r : Nat} (hM : MoM μ σ) (hr : r < μ.1) : w_X12_strength (nI r) σ Q = Q (iI (mu_t μ r)) σ := by
  have h : ∀ r, r < 8 → vp_in ((7 : Int32) * nI r + 6) 56 ∧ ((7 : Int32) * nI r + 6).toNatClampNeg = 7 * r + 6 := by unfold vp_in; decide +kernel
  have hr8 : r < 8 := Nat.lt_of_lt_of_le hr hμ.1
  unfold w_X12_strength
  rw [(h r hr8).2, hM.2.1 r hr 6 (by decide)]
  simp [(h r hr8).1]
  rfl
theorem t_b {μ : MU} (hμ : mu_ok μ) {r : Nat} (hr : r < μ.1) : 1 ≤ mu_t μ r ∧ mu_t μ r ≤ 999 := by
  have := hμ.2.1 r hr
  unfold mu_t
  exact ⟨this.2.2.2.2.2.1, this.2.2.2.2.2.2⟩
theorem t_J {μ : MU} (hμ : mu_ok μ) {r : Nat} (hr : r < μ.1) : (iI (mu_t μ r)).toInt64 = iJ (mu_t μ r) := iI_J (by have := t_b hμ hr; omega)
theorem PB_lt : PB < 2 ^ 63 := by decide
theorem iJ_0lt {z : Int} (h : z.natAbs ≤ PB) : (iJ z < 0 ↔ z < 0) ∧ (0 ≤ iJ z ↔ 0 ≤ z) ∧ (iJ z ≤ 0 ↔ z ≤ 0) ∧ (0 < iJ z ↔ 0 < z) := by
  have hp := PB_lt
  have a := iJ_lt (a := z) (b := 0) (by omega) (by decide)
  have b := iJ_le (a := 0) (b := z) (by decide) (by omega)
  have c := iJ_le (a := z) (b := 0) (by omega) (by decide)
  have d := iJ_lt (a := 0) (b := z) (by decide) (by omega)
  rw [iJ_0] at a b c d
  exact ⟨a, b, c, d⟩
theorem pt_J {μ : MU} (hμ : mu_ok μ) {P : Nat → Int} (hP : ∀ r, r < μ.1 → (P r).natAbs ≤ PB) {r b : Nat} (hr : r < μ.1) (hb : b < μ.1) : iJ (P r) * (iI (mu_t μ b)).toInt64 = iJ (P r * mu_t μ b) ∧ (P r * mu_t μ b).natAbs < 2 ^ 62 := by
  rw [t_J hμ hb, iJ_mul]
  refine ⟨rfl, ?_⟩
  have h1 := hP r hr
  have h2 := t_b hμ hb
  have := ab_mul (b := 999) h1 (show (mu_t μ b).natAbs ≤ 999 by omega)
  have hpb : PB * 999 < 2 ^ 62 := by decide
  omega
/-- the model's pusher -/
theorem m_pusher {μ : MU} (hμ : mu_ok μ) {laid wind : Nat → Int} {set p : Nat} {σ : wS} {Q : Int32 → wS → Prop} (hs : set < 256) (hb : bdd μ.1 laid wind) (h : PhM μ laid wind set p σ)
    (hq : Q (oI (sel (fun r b => decide (Pl μ laid wind set r < Pl μ laid wind set b)) (fun r => set.testBit r && decide (Pl μ laid wind set r < 0)) μ.1)) σ) : w_X12_pusher p (nI set) σ Q := by
  have h8 := hμ.1
  have hP : ∀ r, r < μ.1 → (Pl μ laid wind set r).natAbs ≤ PB := fun r hr => Pl_ab hμ set hb.1 hb.2 hr
  have hpb := PB_lt
  generalize hbt : (fun r b => decide (Pl μ laid wind set r < Pl μ laid wind set b)) = bt at hq
  generalize hSe : (fun r => set.testBit r && decide (Pl μ laid wind set r < 0)) = S at hq
  have key : ∀ (k m : Nat), m ≤ μ.1 → m + k = μ.1 + 1 → l_X12_pusher_5 p Q k (nI set) (oI (sel bt S m)) (nI m) σ := by
    intro k
    induction k with
    | zero => intro m h1 h2; omega
    | succ k ih =>
      intro m h1 h2
      simp only [l_X12_pusher_5, h.2.1.1]
      refine ⟨fun hc => ?_, fun hc => ?_⟩
      · have : m = μ.1 := by
          have := (nI_leI (by omega) (by omega)).mp hc
          omega
        subst this
        exact hq
      · have hm : m < μ.1 := by
          rcases Nat.lt_or_ge m μ.1 with q | q
          · exact q
          · exact absurd (nI_le q (by omega)) hc
        have ih := ih (m + 1) (by omega) (by omega)
        rw [← nI_1] at ih
        rw [m_has hs (show m < 8 by omega)]
        have eS : S m = (set.testBit m && decide (Pl μ laid wind set m < 0)) := by rw [← hSe]
        cases hb1 : set.testBit m
        · refine ⟨fun _ => ?_, fun q => absurd rfl q⟩
          simp only [b_X12_pusher_60, forall_eq]
          rw [sel_s0 (by rw [eS, hb1]; rfl)] at ih
          exact ih
        · refine ⟨fun q => absurd q (by decide), fun _ => m_pl hμ hb h hm ?_⟩
          rw [cmp_ge, (iJ_0lt (hP m hm)).2.1]
          refine ⟨fun h0 => ?_, fun h0 => ?_⟩
          · simp only [b_X12_pusher_60, forall_eq]
            rw [sel_s0 (by rw [eS, hb1, decide_eq_false (by omega)]; rfl)] at ih
            exact ih
          · have hS1 : S m = true := by rw [eS, hb1, decide_eq_true (by omega)]; rfl
            cases hsel : sel bt S m with
            | none =>
              rw [sel_s1 hS1 hsel] at ih
              refine ⟨fun _ => ?_, fun q => absurd rfl q⟩
              simp only [b_X12_pusher_57, b_X12_pusher_60, forall_eq]
              exact ih
            | some b =>
              have hbl := (sel_lt hsel).1
              have ob := oI_s (show b < 8 by omega)
              refine ⟨fun q => absurd q ob.1, fun _ => m_pl hμ hb h hm (m_pl (r := b) hμ hb h (by omega) ?_)⟩
              rw [cmp_ge, iJ_le (by have := hP b (by omega); omega) (by have := hP m hm; omega)]
              have ebt : bt m b = decide (Pl μ laid wind set m < Pl μ laid wind set b) := by rw [← hbt]
              refine ⟨fun h9 => ?_, fun h9 => ?_⟩
              · simp only [b_X12_pusher_60, forall_eq]
                rw [sel_s2 hsel (by rw [ebt]; exact decide_eq_false (by omega))] at ih
                exact ih
              · simp only [b_X12_pusher_57, b_X12_pusher_60, forall_eq]
                rw [sel_s3 hS1 hsel (by rw [ebt]; exact decide_eq_true (by omega))] at ih
                exact ih
  exact ⟨μ.1 + 1, key (μ.1 + 1) 0 (by omega) (by omega)⟩
/-- the model's wanted; so r: what a rope is -/
theorem m_wanted {μ : MU} (hμ : mu_ok μ) {laid wind : Nat → Int} {so : Nat → Nat} {set p : Nat} {σ : wS} {Q : Int32 → wS → Prop} (hs : set < 256) (hb : bdd μ.1 laid wind) (h : PhM μ laid wind set p σ) (hso : ∀ r, r < μ.1 → σ.1 p (8 + r) = nI (so r) ∧ so r < 4)
    (hq : Q (oI (sel (fun r b => decide (Pl μ laid wind set b < Pl μ laid wind set r)) (fun r => (!set.testBit r && decide (so r < 2)) && decide (0 < Pl μ laid wind set r)) μ.1)) σ) : w_X12_wanted p (nI set) σ Q := by
  have h8 := hμ.1
  have hP : ∀ r, r < μ.1 → (Pl μ laid wind set r).natAbs ≤ PB := fun r hr => Pl_ab hμ set hb.1 hb.2 hr
  have hpb := PB_lt
  generalize hbt : (fun r b => decide (Pl μ laid wind set b < Pl μ laid wind set r)) = bt at hq
  generalize hSe : (fun r => (!set.testBit r && decide (so r < 2)) && decide (0 < Pl μ laid wind set r)) = S at hq
  have v8 : ∀ r, r < 8 → vp_in ((8 : Int32) + nI r) 202 ∧ ((8 : Int32) + nI r).toNatClampNeg = 8 + r := by unfold vp_in; decide +kernel
  have key : ∀ (k m : Nat), m ≤ μ.1 → m + k = μ.1 + 1 → l_X12_wanted_5 p Q k (nI set) (oI (sel bt S m)) (nI m) σ := by
    intro k
    induction k with
    | zero => intro m h1 h2; omega
    | succ k ih =>
      intro m h1 h2
      simp only [l_X12_wanted_5, h.2.1.1]
      refine ⟨fun hc => ?_, fun hc => ?_⟩
      · have : m = μ.1 := by
          have := (nI_leI (by omega) (by omega)).mp hc
          omega
        subst this
        exact hq
      · have hm : m < μ.1 := by
          rcases Nat.lt_or_ge m μ.1 with q | q
          · exact q
          · exact absurd (nI_le q (by omega)) hc
        have ih := ih (m + 1) (by omega) (by omega)
        rw [← nI_1] at ih
        rw [m_has hs (show m < 8 by omega)]
        have eS : S m = ((!set.testBit m && decide (so m < 2)) && decide (0 < Pl μ laid wind set m)) := by rw [← hSe]
        cases hb1 : set.testBit m
        · refine ⟨fun q => absurd rfl q, fun _ => ⟨by rw [h.1]; exact (v8 m (by omega)).1, ?_⟩⟩
          rw [(v8 m (by omega)).2, (hso m hm).1]
          have e2 : (2 : Int32) ≤ nI (so m) ↔ 2 ≤ so m := nI_leI (a := 2) (by decide) (by have := (hso m hm).2; omega)
          rw [e2]
          refine ⟨fun h2 => ?_, fun h2 => m_pl hμ hb h hm ?_⟩
          · simp only [b_X12_wanted_71, forall_eq]
            rw [sel_s0 (by rw [eS, decide_eq_false (show ¬ so m < 2 by omega)]; simp)] at ih
            exact ih
          · rw [cmp_le, (iJ_0lt (hP m hm)).2.2.1]
            refine ⟨fun h0 => ?_, fun h0 => ?_⟩
            · simp only [b_X12_wanted_71, forall_eq]
              rw [sel_s0 (by rw [eS, decide_eq_false (show ¬ 0 < Pl μ laid wind set m by omega)]; simp)] at ih
              exact ih
            · have hS1 : S m = true := by rw [eS, hb1, decide_eq_true (show so m < 2 by omega), decide_eq_true (show 0 < Pl μ laid wind set m by omega)]; rfl
              cases hsel : sel bt S m with
              | none =>
                rw [sel_s1 hS1 hsel] at ih
                refine ⟨fun _ => ?_, fun q => absurd rfl q⟩
                simp only [b_X12_wanted_68, b_X12_wanted_71, forall_eq]
                exact ih
              | some b =>
                have hbl := (sel_lt hsel).1
                have ob := oI_s (show b < 8 by omega)
                refine ⟨fun q => absurd q ob.1, fun _ => m_pl hμ hb h hm (m_pl (r := b) hμ hb h (by omega) ?_)⟩
                rw [cmp_le, iJ_le (by have := hP m hm; omega) (by have := hP b (by omega); omega)]
                have ebt : bt m b = decide (Pl μ laid wind set b < Pl μ laid wind set m) := by rw [← hbt]
                refine ⟨fun h9 => ?_, fun h9 => ?_⟩
                · simp only [b_X12_wanted_71, forall_eq]
                  rw [sel_s2 hsel (by rw [ebt]; exact decide_eq_false (by omega))] at ih
                  exact ih
                · simp only [b_X12_wanted_68, b_X12_wanted_71, forall_eq]
                  rw [sel_s3 hS1 hsel (by rw [ebt]; exact decide_eq_true (by omega))] at ih
                  exact ih
        · refine ⟨fun _ => ?_, fun q => absurd q (by decide)⟩
          simp only [b_X12_wanted_71, forall_eq]
          rw [sel_s0 (by rw [eS, hb1]; rfl)] at ih
          exact ih
  exact ⟨μ.1 + 1, key (μ.1 + 1) 0 (by omega) (by omega)⟩
/-- the model's worstOf, of all (x = 0) or of those above their strength -/
theorem m_worstOf {μ : MU} (hμ : mu_ok μ) {laid wind : Nat → Int} {set p : Nat} {x : Int32} {σ : wS} {Q : Int32 → wS → Prop} (hs : set < 256) (hb : bdd μ.1 laid wind) (h : PhM μ laid wind set p σ)
    (hq : Q (oI (sel (fun r b => decide (Pl μ laid wind set b * mu_t μ r < Pl μ laid wind set r * mu_t μ b)) (fun r => set.testBit r && decide (x = 0 ∨ mu_t μ r * Lw μ set < Pl μ laid wind set r)) μ.1)) σ) : w_X12_worstOf p (nI set) x σ Q := by
  have h8 := hμ.1
  have hP : ∀ r, r < μ.1 → (Pl μ laid wind set r).natAbs ≤ PB := fun r hr => Pl_ab hμ set hb.1 hb.2 hr
  have hpb := PB_lt
  generalize hbt : (fun r b => decide (Pl μ laid wind set b * mu_t μ r < Pl μ laid wind set r * mu_t μ b)) = bt at hq
  generalize hSe : (fun r => set.testBit r && decide (x = 0 ∨ mu_t μ r * Lw μ set < Pl μ laid wind set r)) = S at hq
  have hL := Lw_ab hμ set
  have key : ∀ (k m : Nat), m ≤ μ.1 → m + k = μ.1 + 1 → l_X12_worstOf_6 p Q k (nI set) x (oI (sel bt S m)) (nI m) σ := by
    intro k
    induction k with
    | zero => intro m h1 h2; omega
    | succ k ih =>
      intro m h1 h2
      simp only [l_X12_worstOf_6, h.2.1.1]
      refine ⟨fun hc => ?_, fun hc => ?_⟩
      · have : m = μ.1 := by
          have := (nI_leI (by omega) (by omega)).mp hc
          omega
        subst this
        exact hq
      · have hm : m < μ.1 := by
          rcases Nat.lt_or_ge m μ.1 with q | q
          · exact q
          · exact absurd (nI_le q (by omega)) hc
        have ih := ih (m + 1) (by omega) (by omega)
        rw [← nI_1] at ih
        rw [m_has hs (show m < 8 by omega)]
        have eS : S m = (set.testBit m && decide (x = 0 ∨ mu_t μ m * Lw μ set < Pl μ laid wind set m)) := by rw [← hSe]
        have take : S m = true → b_X12_worstOf_54 p (fun x2 x3 x4 x5 σ => l_X12_worstOf_6 p Q k x2 x3 x4 x5 σ) Q (nI set) x (oI (sel bt S m)) (nI m) σ := by
          intro hS1
          cases hsel : sel bt S m with
          | none =>
            rw [sel_s1 hS1 hsel] at ih
            refine ⟨fun _ => ?_, fun q => absurd rfl q⟩
            simp only [b_X12_worstOf_94, b_X12_worstOf_98, forall_eq]
            exact ih
          | some b =>
            have hbl := (sel_lt hsel).1
            have hbn : b < μ.1 := by omega
            have ob := oI_s (show b < 8 by omega)
            refine ⟨fun q => absurd q ob.1, fun _ => m_pl hμ hb h hm ?_⟩
            show w_X12_strength (nI b) σ _
            rw [strg hμ h.2.1 hbn]
            refine m_pl (r := b) hμ hb h hbn ?_
            rw [strg hμ h.2.1 hm, (pt_J hμ hP hm hbn).1, (pt_J hμ hP hbn hm).1, cmp_le, iJ_le (by have := (pt_J hμ hP hm hbn).2; omega) (by have := (pt_J hμ hP hbn hm).2; omega)]
            have ebt : bt m b = decide (Pl μ laid wind set b * mu_t μ m < Pl μ laid wind set m * mu_t μ b) := by rw [← hbt]
            refine ⟨fun h9 => ?_, fun h9 => ?_⟩
            · simp only [b_X12_worstOf_98, forall_eq]
              rw [sel_s2 hsel (by rw [ebt]; exact decide_eq_false (by omega))] at ih
              exact ih
            · simp only [b_X12_worstOf_94, b_X12_worstOf_98, forall_eq]
              rw [sel_s3 hS1 hsel (by rw [ebt]; exact decide_eq_true (by omega))] at ih
              exact ih
        cases hb1 : set.testBit m
        · refine ⟨fun _ => ?_, fun q => absurd rfl q⟩
          simp only [b_X12_worstOf_98, forall_eq]
          rw [sel_s0 (by rw [eS, hb1]; rfl)] at ih
          exact ih
        · refine ⟨fun q => absurd q (by decide), fun _ => ⟨fun hx => take ?_, fun hx => m_pl hμ hb h hm ?_⟩⟩
          · rw [eS, hb1, decide_eq_true (Or.inl hx)]; rfl
          · rw [strg hμ h.2.1 hm, t_J hμ hm, h.2.2.2.1, iJ_mul, cmp_gt]
            have ht := t_b hμ hm
            have hm2 : (mu_t μ m * Lw μ set).natAbs < 2 ^ 62 := by
              have := ab_mul (a := 999) (show (mu_t μ m).natAbs ≤ 999 by omega) hL
              omega
            rw [iJ_lt (by omega) (by have := hP m hm; omega)]
            refine ⟨fun h9 => take ?_, fun h9 => ?_⟩
            · rw [eS, hb1, decide_eq_true (Or.inr h9)]; rfl
            · simp only [b_X12_worstOf_98, forall_eq]
              rw [sel_s0 (by rw [eS, decide_eq_false (by rintro (q | q); exact hx q; exact h9 q)]; simp)] at ih
              exact ih
  exact ⟨μ.1 + 1, key (μ.1 + 1) 0 (by omega) (by omega)⟩
