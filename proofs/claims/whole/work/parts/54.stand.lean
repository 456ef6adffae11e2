/-! WHAT WOULD BE: acts tried on work, on the trial row -/
theorem att_em {μ : MU} (hμ : mu_ok μ) {h : HS} (hk : hok μ h) (sort : Nat) (a b c : Int) : (iI (att μ h sort a b c).1 = -1) ↔ (att μ h sort a b c).1 = -1 := by
  have := (att_ok hμ hk sort a b c).1
  rw [show (-1 : Int32) = iI (-1) by decide, iI_eq (by omega) (by decide)]
theorem msk_0 {l : List Nat} (h : ∀ r ∈ l, r < 8) : nI (msk l) = 0 ↔ l = [] := by
  rw [show (0 : Int32) = nI 0 from rfl, nI_eq (by have := msk_lt h; omega) (by decide)]
  cases l with
  | nil => exact ⟨fun _ => rfl, fun _ => rfl⟩
  | cons a l =>
    refine ⟨fun q => ?_, fun q => by cases q⟩
    exfalso
    have ha := h a List.mem_cons_self
    have hm : msk (a :: l) = adb (msk l) a := rfl
    rw [hm] at q
    have := tb_adb (msk_lt (fun r hr => h r (List.mem_cons_of_mem _ hr))) ha a
    rw [q] at this
    simp at this
theorem s_att {γ : GS} {bd : Nat} {σ : wS} {h : HS} {sort : Nat} {x y z : Int32} {Q : Int32 → wS → Prop} (hg : gok γ bd) (h0 : 0 < γ.2.1.1) (hC : C γ σ) (hk : hok γ.2.1 h) (hH : HC γ.2.1 h 32 σ) (hs : sort < 4) (hq : ∀ τ : wS, C γ τ → Fr cW σ τ → CA γ.2.1 (att γ.2.1 h sort x.toInt y.toInt z.toInt) σ τ → Q (iI (att γ.2.1 h sort x.toInt y.toInt z.toInt).1) τ) : w_X1_attempt (mo (σ.1 0 2)) 32 (nI sort) x y z σ Q := by
  obtain ⟨hμ, -⟩ := hg.hk h0
  refine s_attempt hμ h0 (mo_6 _) hs hk hC.2.1.2 hH (fun τ hA => ?_)
  have F : Fr cW σ τ := hA.1.wk (by decide)
  exact hq τ (hC.fr hg F) F hA
theorem m_att {γ : GS} {bd : Nat} {σ : wS} {h : HS} {lg : List LE} {sort : Nat} {x y z : Int32} {Q : Int32 → wS → Prop} (hg : gok γ bd) (h0 : 0 < γ.2.1.1) (hD : D γ σ) (hk : hok γ.2.1 h) (hR : RowM γ.2.1 h lg (σ.1 189)) (hs : sort < 4) (hq : ∀ τ : wS, D γ τ → Fdm σ τ → DA γ.2.1 (att γ.2.1 h sort x.toInt y.toInt z.toInt) lg sort (arp sort x) σ τ → Q (iI (att γ.2.1 h sort x.toInt y.toInt z.toInt).1) τ) : w_X12_does 189 (nI sort) x y z σ Q := by
  obtain ⟨hμ, -⟩ := hg.hk h0
  refine m_does hμ h0 hs hk hD.2.1 hR (fun τ hA => ?_)
  exact hq τ (hD.mv (fun i hi => (hA.1 i (by revert i; decide)).1) (fun k hk => hA.2.1 k (by revert k; decide) (by revert k; decide))) (hA.1.d (by decide)) hA
theorem m_begin0 {γ : GS} {σ : wS} {Q : wS → Prop} (h8 : γ.2.1.1 ≤ 8) (hD : D γ σ) (hq : ∀ τ : wS, D γ τ → Fdm σ τ → RowM γ.2.1 γ.2.2.1.1 γ.2.2.1.2.1 (τ.1 189) → Q τ) : w_X12_copyRow 188 189 (0 : Int32) (0 : Int32) σ Q := by
  refine m_copy0 (by decide) rfl rfl (fun s1 F1 g1 c1 => ?_)
  exact hq s1 (hD.mv (fun i hi => (F1 i (by revert i; decide)).1) (fun k _ => by rw [(F1 176 (by decide)).1])) (F1.d (by decide)) (hD.row.mv h8 c1)
/-! how often a gust is stood -/
def rpt (μ : MU) (a b c : Int) : Nat → HS → Nat × Int32
  | 0, _ => (0, -1)
  | k + 1, h => if (att μ h 0 a b c).1 = -1 ∧ (att μ h 0 a b c).2.2 = [] then ((rpt μ a b c k (att μ h 0 a b c).2.1).1 + 1, (rpt μ a b c k (att μ h 0 a b c).2.1).2) else (0, if (att μ h 0 a b c).1 = -1 then nI ((att μ h 0 a b c).2.2.getD 0 0) else -1)
theorem rpt_le (μ : MU) (a b c : Int) : ∀ (k : Nat) (h : HS), (rpt μ a b c k h).1 ≤ k := by
  intro k
  induction k with
  | zero => intro h; exact Nat.le_refl _
  | succ k ih =>
    intro h
    rw [rpt]
    split
    · have := ih (att μ h 0 a b c).2.1
      simp only
      omega
    · simp
theorem s_ts {γ : GS} {bd : Nat} {x y z : Int32} {Q : Int32 → wS → Prop} (hg : gok γ bd) (h0 : 0 < γ.2.1.1) : ∀ (k t : Nat) (h : HS) (σ : wS), t + k ≤ 60 → hok γ.2.1 h → C γ σ → HC γ.2.1 h 32 σ → (0 < k ∨ (σ.1 38 5 = -1 ∧ σ.1 38 4 = 0)) → (∀ τ : wS, C γ τ → Fr cW σ τ → (∀ Q' : Int32 → wS → Prop, Q' (rpt γ.2.1 x.toInt y.toInt z.toInt k h).2 τ → w_X1_firstBroken τ Q') → Q (nI (t + (rpt γ.2.1 x.toInt y.toInt z.toInt k h).1)) τ) → l_X11_timesStood_14 Q (k + 1) x y z (nI (t + k)) (nI t) σ := by
  obtain ⟨hμ, -⟩ := hg.hk h0
  intro k
  induction k with
  | zero =>
    intro t h σ ht hk hC hH hf hq
    simp only [l_X11_timesStood_14]
    refine ⟨fun _ => ?_, fun q => absurd (nI_le (by omega) (by omega)) q⟩
    refine hq σ hC Fr.rf (fun Q' h' => ?_)
    rcases hf with q | ⟨q1, q2⟩
    · omega
    · unfold w_X1_firstBroken
      rw [q1, q2]
      exact ⟨fun q => absurd rfl q, fun _ => ⟨fun _ => h', fun q => absurd (by decide) q⟩⟩
  | succ k ih =>
    intro t h σ ht hk hC hH hf hq
    obtain ⟨o1, o2, o3, o4⟩ := att_ok hμ hk 0 x.toInt y.toInt z.toInt
    rw [rpt] at hq
    rw [l_X11_timesStood_14]
    refine ⟨fun q => absurd q (nI_ge (by omega) (by omega)), fun _ => ?_⟩
    refine s_att (sort := 0) hg h0 hC hk hH (by decide) (fun τ C1 F1 hA => ?_)
    obtain ⟨A1, A2, A3, A4, A5, A6, A7⟩ := hA
    rw [att_em hμ hk, A4, msk_0 o2]
    refine ⟨fun hne => ?_, fun heq => ⟨fun hb y3 e3 => ?_, fun hb => ?_⟩⟩
    · rw [if_neg (fun q => hne q.1), if_neg hne] at hq
      refine hq τ C1 F1 (fun Q' h' => ⟨fun _ => h', fun q => ?_⟩)
      rw [A3, att_em hμ hk] at q
      exact absurd q hne
    · rw [if_pos ⟨heq, hb⟩] at hq
      rw [e3, nI_1, show t + (k + 1) = (t + 1) + k by omega]
      refine ih (t + 1) _ τ (by omega) (o4 heq).1 C1 (A7 heq).1 (Or.inr ⟨by rw [A3, heq]; rfl, by rw [A5, hb]; rfl⟩) (fun ρ C2 F2 hfb => ?_)
      have := hq ρ C2 (F1.tr F2) hfb
      rw [show t + ((rpt γ.2.1 x.toInt y.toInt z.toInt k (att γ.2.1 h 0 x.toInt y.toInt z.toInt).2.1).1 + 1) = t + 1 + (rpt γ.2.1 x.toInt y.toInt z.toInt k (att γ.2.1 h 0 x.toInt y.toInt z.toInt).2.1).1 by omega] at this
      exact this
    · rw [if_neg (fun q => hb q.2), if_pos heq] at hq
      have hl : 0 < (att γ.2.1 h 0 x.toInt y.toInt z.toInt).2.2.length := List.length_pos_iff.mpr hb
      refine hq τ C1 F1 (fun Q' h' => ⟨fun q => absurd (by rw [A3, heq]; rfl) q, fun _ => ⟨fun q => ?_, fun _ => ?_⟩⟩)
      · rw [A5] at q
        exact absurd q (nI_nle hl (by omega))
      · rw [c_0, A6 0 hl]; exact h'
abbrev gus (n : Nat) (x y z : Int32) : Prop := 0 < n ∧ gst x.toInt y.toInt z.toInt ∧ ¬ (x.toInt = 0 ∧ y.toInt = 0 ∧ z.toInt = 0)
theorem s_isGust {γ : GS} {bd : Nat} {σ : wS} {x y z : Int32} {Q : Int32 → wS → Prop} (hg : gok γ bd) (hC : C γ σ) : w_X11_isGust x y z σ Q = Q (if gus γ.2.1.1 x y z then 1 else 0) σ := by
  unfold w_X11_isGust b_X11_isGust_28
  rw [s_hasM hg hC, isGW, x0 x, x0 y, x0 z]
  by_cases h1 : 0 < γ.2.1.1
  · by_cases h2 : gst x.toInt y.toInt z.toInt
    · by_cases h3 : x.toInt = 0 ∧ y.toInt = 0 ∧ z.toInt = 0
      · rw [if_pos h1, if_pos h2, if_neg (fun q => q.2.2 h3)]; simp [h3.1, h3.2.1, h3.2.2]
      · rw [if_pos h1, if_pos h2, if_pos ⟨h1, h2, h3⟩]
        by_cases p1 : x.toInt = 0
        · by_cases p2 : y.toInt = 0
          · have p3 : ¬ z.toInt = 0 := fun q => h3 ⟨p1, p2, q⟩
            simp [p1, p2, p3]
          · simp [p1, p2]
        · simp [p1]
    · rw [if_pos h1, if_neg h2, if_neg (fun q => h2 q.2.1)]; simp
  · rw [if_neg h1, if_neg (show ¬ gus γ.2.1.1 x y z from fun q => h1 q.1)]; simp
theorem m_isWind {γ : GS} {bd : Nat} {σ : wS} {x y z : Int32} {Q : Int32 → wS → Prop} (hg : gok γ bd) (hD : D γ σ) : w_X12_isWind x y z σ Q = Q (if gus γ.2.1.1 x y z then 1 else 0) σ := by
  have h8 := hg.n8
  unfold w_X12_isWind b_X12_isWind_29
  have e : (σ.1 176 14 ≤ 0) ↔ ¬ 0 < γ.2.1.1 := by rw [hD.2.1.1, show (0 : Int32) = nI 0 from rfl, nI_leI (by omega) (by decide)]; omega
  rw [e, isGM, x0 x, x0 y, x0 z]
  by_cases h1 : 0 < γ.2.1.1
  · by_cases h2 : gst x.toInt y.toInt z.toInt
    · by_cases h3 : x.toInt = 0 ∧ y.toInt = 0 ∧ z.toInt = 0
      · rw [if_pos h2, if_neg (fun q => q.2.2 h3)]; simp [h1, h3.1, h3.2.1, h3.2.2]
      · rw [if_pos h2, if_pos ⟨h1, h2, h3⟩]
        by_cases p1 : x.toInt = 0
        · by_cases p2 : y.toInt = 0
          · have p3 : ¬ z.toInt = 0 := fun q => h3 ⟨p1, p2, q⟩
            simp [h1, p1, p2, p3]
          · simp [h1, p1, p2]
        · simp [h1, p1]
    · rw [if_neg h2, if_neg (fun q => h2 q.2.1)]; simp [h1]
  · rw [if_neg (show ¬ gus γ.2.1.1 x y z from fun q => h1 q.1)]; simp [h1]
def f_stand (x y z w : Int32) (γ : GS) : Int32 × GS := (if gus γ.2.1.1 x y z ∧ (0 ≤ w.toInt ∧ w.toInt ≤ 1) then (if w = 0 then nI (rpt γ.2.1 x.toInt y.toInt z.toInt 60 γ.2.2.1.1).1 else (rpt γ.2.1 x.toInt y.toInt z.toInt 60 γ.2.2.1.1).2) else -1000000, γ)
theorem o_stand {bd : Nat} {σ : wS} {x y z w : Int32} (hI : In bd σ) : w_X11_stand x y z w σ (fun r1 s => w_X12_stand x y z w s (fun r' s' => r1 = r' ∧ In (bd + 40) s')) := by
  refine prI (f := f_stand x y z w) (w1 := w_X11_stand x y z w) (w2 := w_X12_stand x y z w) (fun γ σ Q hC hg hq => ?_) (fun γ σ Q hD hg hq => ?_) (fun γ hg => hg.wk (by omega)) hI
  · unfold f_stand at hq
    unfold w_X11_stand
    rw [s_isGust hg hC]
    refine sw (fun hu => ?_) (fun hu => by rw [if_neg (fun q => hu q.1)] at hq; exact hq σ hC Fcm.rf)
    rw [w0_1]
    refine sw' (fun hw => ?_) (fun hw => by rw [if_neg (fun q => hw q.2)] at hq; exact hq σ hC Fcm.rf)
    rw [if_pos ⟨hu, hw⟩] at hq
    obtain ⟨hμ, hk⟩ := hg.hk hu.1
    refine s_begin0 hg hC (fun s1 F1 C1 H1 => ⟨61, ?_⟩)
    have := s_ts (Q := fun r6 s5 => (¬ w = 0 → (w_X1_firstBroken s5 (fun r8 s7 => Q r8 s7))) ∧ (w = 0 → (Q r6 s5))) (x := x) (y := y) (z := z) hg hu.1 60 0 γ.2.2.1.1 s1 (by decide) hk.1 C1 H1.1 (Or.inl (by decide)) (fun τ C2 F2 hfb => ?_)
    · exact this
    · have hq := hq τ C2 ((F1.tr F2).c (by decide))
      refine ⟨fun hw0 => hfb _ ?_, fun hw0 => ?_⟩
      · rw [if_neg hw0] at hq; exact hq
      · rw [if_pos hw0] at hq; rw [Nat.zero_add]; exact hq
  · intro s1 e1
    have D1 : D γ s1 := by rw [e1]; exact hD.up (by decide)
    have F1 : Fdm σ s1 := by rw [e1]; exact Fdm.rf.up (by decide)
    unfold f_stand at hq
    rw [m_isWind hg D1]
    refine sw (fun hu => ?_) (fun hu => by rw [if_neg (fun q => hu q.1)] at hq; exact hq s1 D1 F1)
    rw [i0_1]
    refine sw' (fun hw => ?_) (fun hw => by rw [if_neg (fun q => hw q.2)] at hq; exact hq s1 D1 F1)
    rw [if_pos ⟨hu, hw⟩] at hq
    obtain ⟨hμ, hk⟩ := hg.hk hu.1
    refine m_begin0 hμ.1 D1 (fun s2 D2 F2 R2 => ⟨61, ?_⟩)
    have key : ∀ (k t : Nat) (h : HS) (lg : List LE) (ρ : wS), t + k = 60 → hok γ.2.1 h → D γ ρ → RowM γ.2.1 h lg (ρ.1 189) → (∀ τ : wS, D γ τ → Fdm ρ τ → Q (if w = 0 then nI (t + (rpt γ.2.1 x.toInt y.toInt z.toInt k h).1) else (rpt γ.2.1 x.toInt y.toInt z.toInt k h).2) τ) → l_X12_stand_45 Q (k + 1) x y z w (nI t) ρ := by
      intro k
      induction k with
      | zero =>
        intro t h lg ρ ht hk hD hR hq
        have ht : t = 60 := by omega
        subst ht
        have hq := hq ρ hD Fdm.rf
        simp only [l_X12_stand_45]
        refine ⟨fun _ => ⟨fun hw0 => ?_, fun hw0 => ?_⟩, fun q => absurd (by decide) q⟩
        · rw [if_neg hw0] at hq; exact hq
        · rw [if_pos hw0] at hq; exact hq
      | succ k ih =>
        intro t h lg ρ ht hk hD hR hq
        obtain ⟨o1, o2, o3, o4⟩ := att_ok hμ hk 0 x.toInt y.toInt z.toInt
        rw [l_X12_stand_45]
        have e60 : ((60 : Int32) ≤ nI t) ↔ 60 ≤ t := nI_leI (a := 60) (by decide) (by omega)
        rw [e60]
        refine ⟨fun q => by omega, fun _ => ?_⟩
        refine m_att (sort := 0) hg hu.1 hD hk hR (by decide) (fun τ D3 F3 hA => ?_)
        obtain ⟨A1, A2, A3, A4, A5, A6⟩ := hA
        rw [att_em hμ hk]
        refine ⟨fun heq => ?_, fun hne => ?_⟩
        · obtain ⟨B1, B2⟩ := A5 (Or.inl heq)
          rw [B1]
          have el : (nI (att γ.2.1 h 0 x.toInt y.toInt z.toInt).2.2.length ≤ 0) ↔ (att γ.2.1 h 0 x.toInt y.toInt z.toInt).2.2 = [] := by
            rw [show (0 : Int32) = nI 0 from rfl, nI_leI (by omega) (by decide), Nat.le_zero, List.length_eq_zero_iff]
          rw [el]
          refine ⟨fun hb y3 e3 => ?_, fun hb => ?_⟩
          · have er : rpt γ.2.1 x.toInt y.toInt z.toInt (k + 1) h = ((rpt γ.2.1 x.toInt y.toInt z.toInt k (att γ.2.1 h 0 x.toInt y.toInt z.toInt).2.1).1 + 1, (rpt γ.2.1 x.toInt y.toInt z.toInt k (att γ.2.1 h 0 x.toInt y.toInt z.toInt).2.1).2) := by rw [rpt, if_pos ⟨heq, hb⟩]
            rw [er] at hq
            rw [e3, nI_1]
            refine ih (t + 1) _ _ τ (by omega) (o4 heq).1 D3 (A6 heq) (fun ρ' D4 F4 => ?_)
            have := hq ρ' D4 (F3.tr F4)
            rw [show t + ((rpt γ.2.1 x.toInt y.toInt z.toInt k (att γ.2.1 h 0 x.toInt y.toInt z.toInt).2.1).1 + 1) = t + 1 + (rpt γ.2.1 x.toInt y.toInt z.toInt k (att γ.2.1 h 0 x.toInt y.toInt z.toInt).2.1).1 by omega] at this
            exact this
          · have hl : 0 < (att γ.2.1 h 0 x.toInt y.toInt z.toInt).2.2.length := List.length_pos_iff.mpr hb
            have er : rpt γ.2.1 x.toInt y.toInt z.toInt (k + 1) h = (0, nI ((att γ.2.1 h 0 x.toInt y.toInt z.toInt).2.2.getD 0 0)) := by rw [rpt, if_neg (fun q => hb q.2), if_pos heq]
            rw [er] at hq
            have hq := hq τ D3 F3
            rw [c_0, B2 0 hl]
            refine ⟨fun hw0 => ?_, fun hw0 => ?_⟩
            · rw [if_neg hw0] at hq; exact hq
            · rw [if_pos hw0] at hq; exact hq
        · have er : rpt γ.2.1 x.toInt y.toInt z.toInt (k + 1) h = (0, -1) := by rw [rpt, if_neg (fun q => hne q.1), if_neg hne]
          rw [er] at hq
          have hq := hq τ D3 F3
          refine ⟨fun hw0 => ?_, fun hw0 => ?_⟩
          · rw [if_neg hw0] at hq; exact hq
          · rw [if_pos hw0] at hq; exact hq
    refine key 60 0 γ.2.2.1.1 _ s2 (by decide) hk.1 D2 R2 (fun τ D3 F3 => ?_)
    rw [Nat.zero_add]
    exact hq τ D3 ((F1.tr F2).tr F3)
