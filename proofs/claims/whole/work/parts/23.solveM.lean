/-! THE MODEL'S SOLVES: the same mathematics -/
def MoM (μ : MU) (σ : wS) : Prop := σ.1 176 14 = nI μ.1 ∧ (∀ r, r < μ.1 → ∀ k, k < 7 → σ.1 181 (7 * r + k) = iI (μ.2.1 r k)) ∧ (∀ k, k < 4 → σ.1 179 k = iI (μ.2.2 k)) ∧ (∀ r, r < μ.1 → ∀ a, a < 3 → σ.1 182 (3 * r + a) = iI (mu_w μ r a))
def LwM (n : Nat) (laid wind : Nat → Int) (w : Nat) (σ : wS) : Prop := (∀ r, r < n → σ.1 w r = iI (laid r)) ∧ ∀ a, a < 3 → σ.1 w (16 + a) = iI (wind a)
theorem isF {μ : MU} (hμ : mu_ok μ) {σ τ : wS} {Q : Int32 → wS → Prop} {a : Nat} (hM : MoM μ σ) (h1 : τ.1 = σ.1) (ha : a < 3) : w_X12_isFree (nI a) τ Q = Q (if mu_f μ a then 1 else 0) τ := by
  have h0 := hM.2.2.1 0 (by decide)
  have hf := hμ.2.2
  have e : iI (μ.2.2 0) = nI (μ.2.2 0).toNat := by rw [iI_n]; congr 1; omega
  unfold w_X12_isFree w_X12_has
  rw [c_0, h1, h0, e, bt8 (by omega) (by omega)]
  unfold mu_f
  cases (μ.2.2 0).toNat.testBit a <;> simp
theorem isF3 {μ : MU} (hμ : mu_ok μ) {σ τ : wS} {Q : Int32 → wS → Prop} (hM : MoM μ σ) (h1 : τ.1 = σ.1) : w_X12_isFree 0 τ Q = Q (if mu_f μ 0 then 1 else 0) τ ∧ w_X12_isFree 1 τ Q = Q (if mu_f μ 1 then 1 else 0) τ ∧ w_X12_isFree 2 τ Q = Q (if mu_f μ 2 then 1 else 0) τ := ⟨isF (a := 0) hμ hM h1 (by decide), isF (a := 1) hμ hM h1 (by decide), isF (a := 2) hμ hM h1 (by decide)⟩
theorem m_35 {μ : MU} (hμ : mu_ok μ) {p : Nat} {K : Int32 → Int32 → wS → Prop} {Q : wS → Prop} {σ : wS} {x i : Int32} (hM : MoM μ σ) (hi : i = 0 ∨ i = 1 ∨ i = 2)
    (hq : K x (i + 1) (upJ (upJ (upJ σ 192 (3 * i).toNatClampNeg (if i = 0 ∧ mu_f μ 0 = false then 1 else 0)) 192 (3 * i + 1).toNatClampNeg (if i = 1 ∧ mu_f μ 1 = false then 1 else 0)) 192 (3 * i + 2).toNatClampNeg (if i = 2 ∧ mu_f μ 2 = false then 1 else 0))) : ∃ m, l_X12_solves_35 p K Q m x i 0 σ := by
  refine ⟨4, ?_⟩
  have q0 : ∀ {τ : wS} {Q : Int32 → wS → Prop}, τ.1 = σ.1 → w_X12_isFree 0 τ Q = Q (if mu_f μ 0 then 1 else 0) τ := fun h => (isF3 hμ hM h).1
  have q1 : ∀ {τ : wS} {Q : Int32 → wS → Prop}, τ.1 = σ.1 → w_X12_isFree 1 τ Q = Q (if mu_f μ 1 then 1 else 0) τ := fun h => (isF3 hμ hM h).2.1
  have q2 : ∀ {τ : wS} {Q : Int32 → wS → Prop}, τ.1 = σ.1 → w_X12_isFree 2 τ Q = Q (if mu_f μ 2 then 1 else 0) τ := fun h => (isF3 hμ hM h).2.2
  rcases hi with rfl | rfl | rfl
  · simp [c_0, c_1, c_2] at hq
    cases g : mu_f μ 0 <;> simp [g] at hq <;> simp [l_X12_solves_35, b_X12_solves_69, b_X12_solves_70, vi_9, c_0, c_1, c_2, upJ_1, q0, g, hq]
  · simp [c_3, c_4, c_5] at hq
    cases g : mu_f μ 1 <;> simp [g] at hq <;> simp [l_X12_solves_35, b_X12_solves_69, b_X12_solves_70, vi_9, c_3, c_4, c_5] <;> rw [q1 (τ := upJ σ 192 3 0) rfl] <;> simp [g, hq]
  · simp [c_6, c_7, c_8] at hq
    cases g : mu_f μ 2 <;> simp [g] at hq <;> simp [l_X12_solves_35, b_X12_solves_69, b_X12_solves_70, vi_9, c_6, c_7, c_8] <;> rw [q2 (τ := upJ (upJ σ 192 6 0) 192 7 0) rfl] <;> simp [g, hq]
theorem m_2 {μ : MU} (hμ : mu_ok μ) {p set : Nat} {laid wind : Nat → Int} {σ : wS} {Q : wS → Prop} {n : Nat} {x : Int32} (hlp : ln p = 202) (hM : MoM μ σ) (hL : LwM n laid wind p σ) (hb : bdd n laid wind)
    (hq : ∀ τ : wS, Fr [192, 193] σ τ → τ.1 = σ.1 → MF 192 193 τ (mat μ set 0) (frc μ laid wind set 0) → ∃ m, l_X12_solves_85 p Q m x 0 τ) : ∃ m, l_X12_solves_2 p Q m x 0 σ := by
  have q0 : ∀ {τ : wS} {Q : Int32 → wS → Prop}, τ.1 = σ.1 → w_X12_isFree 0 τ Q = Q (if mu_f μ 0 then 1 else 0) τ := fun h => (isF3 hμ hM h).1
  have q1 : ∀ {τ : wS} {Q : Int32 → wS → Prop}, τ.1 = σ.1 → w_X12_isFree 1 τ Q = Q (if mu_f μ 1 then 1 else 0) τ := fun h => (isF3 hμ hM h).2.1
  have q2 : ∀ {τ : wS} {Q : Int32 → wS → Prop}, τ.1 = σ.1 → w_X12_isFree 2 τ Q = Q (if mu_f μ 2 then 1 else 0) τ := fun h => (isF3 hμ hM h).2.2
  have mv : ∀ {τ : wS}, τ.1 = σ.1 → MoM μ τ := fun h => by unfold MoM; rw [h]; exact hM
  obtain ⟨-, b0, b1, b2⟩ := hb
  have w0 := hL.2 0 (by decide)
  have w1 := hL.2 1 (by decide)
  have w2 := hL.2 2 (by decide)
  have v16 : vp_in 16 202 ∧ vp_in 17 202 ∧ vp_in 18 202 := by unfold vp_in; decide
  have c16 : (16 : Int32).toNatClampNeg = 16 ∧ (17 : Int32).toNatClampNeg = 17 ∧ (18 : Int32).toNatClampNeg = 18 := by decide
  have step : ∀ (i : Int32) (a : Nat) (τ : wS) (n : Nat) (hi : (i = 0 ∧ a = 0) ∨ (i = 1 ∧ a = 1) ∨ (i = 2 ∧ a = 2)), τ.1 = σ.1 → l_X12_solves_2 p Q n x (i + 1) (upJ (upJ (upJ (upJ τ 193 i.toNatClampNeg (if mu_f μ a then iJ (wind a) else 0)) 192 (3 * i).toNatClampNeg (if i = 0 ∧ mu_f μ 0 = false then 1 else 0)) 192 (3 * i + 1).toNatClampNeg (if i = 1 ∧ mu_f μ 1 = false then 1 else 0)) 192 (3 * i + 2).toNatClampNeg (if i = 2 ∧ mu_f μ 2 = false then 1 else 0)) → l_X12_solves_2 p Q (n + 1) x i τ := by
    intro i a τ n hi h1 hk
    rcases hi with ⟨rfl, rfl⟩ | ⟨rfl, rfl⟩ | ⟨rfl, rfl⟩
    · simp only [l_X12_solves_2]
      refine ⟨fun h => absurd h (by decide), fun _ => ?_⟩
      rw [q0 h1]
      cases g : mu_f μ 0
      · refine ⟨fun _ => ⟨by simp [vi_3], fun s1 e1 => m_35 hμ (mv (by rw [e1]; exact h1)) (Or.inl rfl) ?_⟩, fun q => absurd rfl q⟩
        subst e1
        simpa [g] using hk
      · refine ⟨fun q => absurd q (by decide), fun _ => ⟨by rw [hlp]; simp [v16], by simp [vi_3], fun s1 e1 => m_35 hμ (mv (by rw [e1]; exact h1)) (Or.inl rfl) ?_⟩⟩
        subst e1
        have ew : (τ.1 p ((16 : Int32) + 0).toNatClampNeg).toInt64 = iJ (wind 0) := by
          rw [h1]
          simp [c16]
          rw [w0]
          exact iI_J (by omega)
        rw [ew]
        simpa [g] using hk
    · simp only [l_X12_solves_2]
      refine ⟨fun h => absurd h (by decide), fun _ => ?_⟩
      rw [q1 h1]
      cases g : mu_f μ 1
      · refine ⟨fun _ => ⟨by simp [vi_3], fun s1 e1 => m_35 hμ (mv (by rw [e1]; exact h1)) (Or.inr (Or.inl rfl)) ?_⟩, fun q => absurd rfl q⟩
        subst e1
        simpa [g] using hk
      · refine ⟨fun q => absurd q (by decide), fun _ => ⟨by rw [hlp]; simp [v16], by simp [vi_3], fun s1 e1 => m_35 hμ (mv (by rw [e1]; exact h1)) (Or.inr (Or.inl rfl)) ?_⟩⟩
        subst e1
        have ew : (τ.1 p ((16 : Int32) + 1).toNatClampNeg).toInt64 = iJ (wind 1) := by
          rw [h1]
          simp [c16]
          rw [w1]
          exact iI_J (by omega)
        rw [ew]
        simpa [g] using hk
    · simp only [l_X12_solves_2]
      refine ⟨fun h => absurd h (by decide), fun _ => ?_⟩
      rw [q2 h1]
      cases g : mu_f μ 2
      · refine ⟨fun _ => ⟨by simp [vi_3], fun s1 e1 => m_35 hμ (mv (by rw [e1]; exact h1)) (Or.inr (Or.inr rfl)) ?_⟩, fun q => absurd rfl q⟩
        subst e1
        simpa [g] using hk
      · refine ⟨fun q => absurd q (by decide), fun _ => ⟨by rw [hlp]; simp [v16], by simp [vi_3], fun s1 e1 => m_35 hμ (mv (by rw [e1]; exact h1)) (Or.inr (Or.inr rfl)) ?_⟩⟩
        subst e1
        have ew : (τ.1 p ((16 : Int32) + 2).toNatClampNeg).toInt64 = iJ (wind 2) := by
          rw [h1]
          simp [c16]
          rw [w2]
          exact iI_J (by omega)
        rw [ew]
        simpa [g] using hk
  refine ⟨4, ?_⟩
  refine step 0 0 σ 3 (Or.inl ⟨rfl, rfl⟩) rfl ?_
  refine step 1 1 _ 2 (Or.inr (Or.inl ⟨rfl, rfl⟩)) rfl ?_
  refine step 2 2 _ 1 (Or.inr (Or.inr ⟨rfl, rfl⟩)) rfl ?_
  simp only [l_X12_solves_2]
  refine ⟨fun _ => hq _ ?_ rfl ?_, fun h => absurd (by decide) h⟩
  · exact (((((((((((Fr.rf.upJ (by decide)).upJ (by decide)).upJ (by decide)).upJ (by decide)).upJ (by decide)).upJ (by decide)).upJ (by decide)).upJ (by decide)).upJ (by decide)).upJ (by decide)).upJ (by decide)).upJ (by decide)
  · unfold MF
    simp only [upJ_2, mat_0, frc_0, dg]
    cases g0 : mu_f μ 0 <;> cases g1 : mu_f μ 1 <;> cases g2 : mu_f μ 2 <;> simp [c_0, c_1, c_2, c_3, c_4, c_5, c_6, c_7, c_8, iJ_0, iJ_1]
/-- a row of the matrix with one rope more -/
def tB (r : Nat) (g0 g1 g2 : Bool) (i : Int32) (y : Int64) (σ : wS) : wS := upJ (upJ (upJ σ 192 (3 * i).toNatClampNeg (σ.2 192 (3 * i).toNatClampNeg + if g0 then y * (σ.1 182 (3 * r)).toInt64 else 0)) 192 (3 * i + 1).toNatClampNeg (σ.2 192 (3 * i + 1).toNatClampNeg + if g1 then y * (σ.1 182 (3 * r + 1)).toInt64 else 0)) 192 (3 * i + 2).toNatClampNeg (σ.2 192 (3 * i + 2).toNatClampNeg + if g2 then y * (σ.1 182 (3 * r + 2)).toInt64 else 0)
theorem stf {σ : wS} {Q : Int32 → wS → Prop} {r : Nat} (hr : r < 8) : w_X12_stiffness (nI r) σ Q = Q (σ.1 181 (7 * r)) σ := by
  have h : ∀ r, r < 8 → vp_in ((7 : Int32) * nI r) 56 ∧ ((7 : Int32) * nI r).toNatClampNeg = 7 * r := by unfold vp_in; decide +kernel
  unfold w_X12_stiffness
  rw [(h r hr).2]
  simp [(h r hr).1]
theorem m_157 {μ : MU} (hμ : mu_ok μ) {p r : Nat} {K1 : Int32 → Int32 → wS → Prop} {K : Int32 → Int32 → Int32 → wS → Prop} {Q : wS → Prop} {σ : wS} {x i : Int32} (hM : MoM μ σ) (hr : r < 8) (hi : i = 0 ∨ i = 1 ∨ i = 2)
    (hq : K x (nI r) (i + 1) (tB r (mu_f μ 0) (mu_f μ 1) (mu_f μ 2) i ((σ.1 181 (7 * r)).toInt64 * (σ.1 182 (3 * r + i.toNatClampNeg)).toInt64) σ)) : ∃ m, l_X12_solves_157 p K1 K Q m x (nI r) i 0 σ := by
  refine ⟨4, ?_⟩
  have q0 : ∀ {τ : wS} {Q : Int32 → wS → Prop}, τ.1 = σ.1 → w_X12_isFree 0 τ Q = Q (if mu_f μ 0 then 1 else 0) τ := fun h => (isF3 hμ hM h).1
  have q1 : ∀ {τ : wS} {Q : Int32 → wS → Prop}, τ.1 = σ.1 → w_X12_isFree 1 τ Q = Q (if mu_f μ 1 then 1 else 0) τ := fun h => (isF3 hμ hM h).2.1
  have q2 : ∀ {τ : wS} {Q : Int32 → wS → Prop}, τ.1 = σ.1 → w_X12_isFree 2 τ Q = Q (if mu_f μ 2 then 1 else 0) τ := fun h => (isF3 hμ hM h).2.2
  have ix := ix3 hr
  have vx : vp_in ((3 : Int32) * nI r + i) 24 ∧ ((3 : Int32) * nI r + i).toNatClampNeg = 3 * r + i.toNatClampNeg ∧ vp_in (3 * i) 9 ∧ vp_in (3 * i + 1) 9 ∧ vp_in (3 * i + 2) 9 := by rcases hi with rfl | rfl | rfl <;> simp [ix, c_0, c_1, c_2, vi_9]
  have step : ∀ (j : Int32) (b n : Nat) (τ : wS), (j = 0 ∧ b = 0) ∨ (j = 1 ∧ b = 1) ∨ (j = 2 ∧ b = 2) → τ.1 = σ.1 → l_X12_solves_157 p K1 K Q n x (nI r) i (j + 1) (upJ τ 192 (3 * i + j).toNatClampNeg (τ.2 192 (3 * i + j).toNatClampNeg + if mu_f μ b then (σ.1 181 (7 * r)).toInt64 * (σ.1 182 (3 * r + i.toNatClampNeg)).toInt64 * (σ.1 182 (3 * r + b)).toInt64 else 0)) → l_X12_solves_157 p K1 K Q (n + 1) x (nI r) i j τ := by
    intro j b n τ hj h1 hk
    simp only [l_X12_solves_157]
    have vj : ¬ (3 : Int32) ≤ j ∧ vp_in (3 * i + j) 9 ∧ vp_in ((3 : Int32) * nI r + j) 24 ∧ ((3 : Int32) * nI r + j).toNatClampNeg = 3 * r + b ∧ ∀ {Q : Int32 → wS → Prop}, w_X12_isFree j τ Q = Q (if mu_f μ b then 1 else 0) τ := by
      rcases hj with ⟨rfl, rfl⟩ | ⟨rfl, rfl⟩ | ⟨rfl, rfl⟩
      · exact ⟨by decide, by simpa using vx.2.2.1, by simp [ix], by simp [ix], q0 h1⟩
      · exact ⟨by decide, vx.2.2.2.1, by simp [ix], by simp [ix], q1 h1⟩
      · exact ⟨by decide, vx.2.2.2.2, by simp [ix], by simp [ix], q2 h1⟩
    refine ⟨fun h => absurd h vj.1, fun _ => ⟨vj.2.1, ?_⟩⟩
    rw [vj.2.2.2.2]
    cases g : mu_f μ b
    · refine ⟨fun _ => ?_, fun q => absurd rfl q⟩
      rw [g] at hk
      refine ⟨vj.2.1, fun s1 e1 y e2 => ?_⟩
      subst e1 e2
      exact hk
    · refine ⟨fun q => absurd q (by decide), fun _ => ?_⟩
      rw [g] at hk
      rw [stf hr]
      refine ⟨vx.1, vj.2.2.1, vj.2.1, fun s1 e1 y e2 => ?_⟩
      subst e1 e2
      rw [vx.2.1, vj.2.2.2.1, h1]
      exact hk
  refine step 0 0 3 σ (Or.inl ⟨rfl, rfl⟩) rfl ?_
  refine step 1 1 2 _ (Or.inr (Or.inl ⟨rfl, rfl⟩)) rfl ?_
  refine step 2 2 1 _ (Or.inr (Or.inr ⟨rfl, rfl⟩)) rfl ?_
  simp only [l_X12_solves_157]
  refine ⟨fun _ y e => ?_, fun h => absurd (by decide) h⟩
  subst e
  rcases hi with rfl | rfl | rfl <;> simp [tB, c_0, c_1, c_2, c_3, c_4, c_5, c_6, c_7, c_8, upJ_2] at hq ⊢ <;> exact hq
theorem m_107 {μ : MU} (hμ : mu_ok μ) {p r set : Nat} {laid wind : Nat → Int} {K : Int32 → Int32 → wS → Prop} {Q : wS → Prop} {σ : wS} {x : Int32} (hlp : ln p = 202) (hM : MoM μ σ) (hL : LwM μ.1 laid wind p σ) (hb : bdd μ.1 laid wind) (hr : r < μ.1) (hs : set.testBit r = true) (hMF : MF 192 193 σ (mat μ set r) (frc μ laid wind set r))
    (hq : ∀ τ, Fr [192, 193] σ τ → τ.1 = σ.1 → MF 192 193 τ (mat μ set (r + 1)) (frc μ laid wind set (r + 1)) → K x (nI (r + 1)) τ) : ∃ m, l_X12_solves_107 p K Q m x (nI r) 0 σ := by
  have hr8 : r < 8 := Nat.lt_of_lt_of_le hr hμ.1
  have mv : ∀ {τ : wS}, τ.1 = σ.1 → MoM μ τ := fun h => by unfold MoM; rw [h]; exact hM
  have ix := ix3 hr8
  have v0 : vp_in ((0 : Int32) + nI r) 202 ∧ ((0 : Int32) + nI r).toNatClampNeg = r := by
    have h : ∀ r, r < 8 → vp_in ((0 : Int32) + nI r) 202 ∧ ((0 : Int32) + nI r).toNatClampNeg = r := by unfold vp_in; decide +kernel
    exact h r hr8
  have step : ∀ (i : Int32) (a n : Nat) (τ : wS), (i = 0 ∧ a = 0) ∨ (i = 1 ∧ a = 1) ∨ (i = 2 ∧ a = 2) → τ.1 = σ.1 → l_X12_solves_107 p K Q n x (nI r) (i + 1) (if mu_f μ a then tB r (mu_f μ 0) (mu_f μ 1) (mu_f μ 2) i ((σ.1 181 (7 * r)).toInt64 * (σ.1 182 (3 * r + a)).toInt64) (upJ τ 193 a (τ.2 193 a + (σ.1 p r).toInt64 * (σ.1 182 (3 * r + a)).toInt64)) else τ) → l_X12_solves_107 p K Q (n + 1) x (nI r) i τ := by
    intro i a n τ hi h1 hk
    simp only [l_X12_solves_107]
    have hi3 : i = 0 ∨ i = 1 ∨ i = 2 := by rcases hi with ⟨h, -⟩ | ⟨h, -⟩ | ⟨h, -⟩ <;> simp [h]
    have vj : ¬ (3 : Int32) ≤ i ∧ vp_in i 3 ∧ vp_in ((3 : Int32) * nI r + i) 24 ∧ ((3 : Int32) * nI r + i).toNatClampNeg = 3 * r + a ∧ i.toNatClampNeg = a ∧ ∀ {Q : Int32 → wS → Prop}, w_X12_isFree i τ Q = Q (if mu_f μ a then 1 else 0) τ := by
      rcases hi with ⟨rfl, rfl⟩ | ⟨rfl, rfl⟩ | ⟨rfl, rfl⟩
      · exact ⟨by decide, vi_3.1, by simp [ix], by simp [ix], rfl, (isF3 hμ hM h1).1⟩
      · exact ⟨by decide, vi_3.2.1, by simp [ix], by simp [ix], rfl, (isF3 hμ hM h1).2.1⟩
      · exact ⟨by decide, vi_3.2.2, by simp [ix], by simp [ix], rfl, (isF3 hμ hM h1).2.2⟩
    refine ⟨fun h => absurd h vj.1, fun _ => ?_⟩
    rw [vj.2.2.2.2.2]
    cases g : mu_f μ a
    · refine ⟨fun q => absurd rfl q, fun _ => ?_⟩
      rw [g] at hk
      intro y e
      subst e
      exact hk
    · refine ⟨fun _ => ?_, fun q => absurd q (by decide)⟩
      rw [g] at hk
      rw [hlp]
      refine ⟨vj.2.1, v0.1, vj.2.2.1, vj.2.1, fun s3 e3 => m_157 hμ (mv (by rw [e3]; exact h1)) hr8 hi3 ?_⟩
      have h3 : s3.1 = σ.1 := by rw [e3]; exact h1
      have e4 : s3 = upJ τ 193 a (τ.2 193 a + (σ.1 p r).toInt64 * (σ.1 182 (3 * r + a)).toInt64) := by
        rw [e3, vj.2.2.2.1, v0.2, vj.2.2.2.2.1, h1]
      rw [vj.2.2.2.2.1, h3, e4]
      exact hk
  refine ⟨4, ?_⟩
  refine step 0 0 3 σ (Or.inl ⟨rfl, rfl⟩) rfl ?_
  refine step 1 1 2 _ (Or.inr (Or.inl ⟨rfl, rfl⟩)) (by split <;> rfl) ?_
  refine step 2 2 1 _ (Or.inr (Or.inr ⟨rfl, rfl⟩)) (by (repeat' split) <;> rfl) ?_
  simp only [l_X12_solves_107]
  refine ⟨fun _ y e => ?_, fun h => absurd (by decide) h⟩
  subst e
  rw [nI_1]
  refine hq _ ?_ (by (repeat' split) <;> rfl) ?_
  · have tb : ∀ {τ : wS} {g0 g1 g2 : Bool} {i : Int32} {y : Int64}, Fr [192, 193] σ τ → Fr [192, 193] σ (tB r g0 g1 g2 i y τ) := fun h => ((h.upJ (by decide)).upJ (by decide)).upJ (by decide)
    have tc : ∀ {τ : wS} {g g0 g1 g2 : Bool} {i : Int32} {y z : Int64} {k : Nat}, Fr [192, 193] σ τ → Fr [192, 193] σ (if g = true then tB r g0 g1 g2 i y (upJ τ 193 k z) else τ) := by
      intro τ g g0 g1 g2 i y z k h
      cases g
      · exact h
      · exact tb (h.upJ (by decide))
    exact tc (tc (tc Fr.rf))
  · obtain ⟨⟨m0, m1, m2, m3, m4, m5, m6, m7, m8⟩, u0, u1, u2⟩ := hMF
    have w0 := hM.2.2.2 r hr 0 (by decide)
    have w1 := hM.2.2.2 r hr 1 (by decide)
    have w2 := hM.2.2.2 r hr 2 (by decide)
    have k0 := hM.2.1 r hr 0 (by decide)
    have l0 := hL.1 r hr
    have a0 : (iI (mu_w μ r 0)).toInt64 = iJ (mu_w μ r 0) := iI_J (by have := (wm_ab hμ hr 0 (by decide)).1; unfold sc at this; simp at this; omega)
    have a1 : (iI (mu_w μ r 1)).toInt64 = iJ (mu_w μ r 1) := iI_J (by have := (wm_ab hμ hr 1 (by decide)).1; unfold sc at this; simp at this; omega)
    have a2 : (iI (mu_w μ r 2)).toInt64 = iJ (mu_w μ r 2) := iI_J (by have := (wm_ab hμ hr 2 (by decide)).1; unfold sc at this; simp at this; omega)
    have ak : (iI (μ.2.1 r 0)).toInt64 = iJ (mu_k μ r) := iI_J (by have := hμ.2.1 r hr; omega)
    have al : (iI (laid r)).toInt64 = iJ (laid r) := iI_J (by have := hb.1 r hr; omega)
    simp only [Nat.add_zero] at w0 k0
    unfold MF
    simp only [mat_s _ _ _ _ _ hs, frc_s _ _ _ _ _ _ hs, mu_wm]
    cases g0 : mu_f μ 0 <;> cases g1 : mu_f μ 1 <;> cases g2 : mu_f μ 2 <;> simp [tB, upJ_1, upJ_2, c_0, c_1, c_2, c_3, c_4, c_5, c_6, c_7, c_8, m0, m1, m2, m3, m4, m5, m6, m7, m8, u0, u1, u2, w0, w1, w2, k0, l0, a0, a1, a2, ak, al, iJ_add, iJ_mul]
