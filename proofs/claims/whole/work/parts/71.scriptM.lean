/-! the model reads a script -/
def FN (b : Nat) (σ τ : wS) : Prop := (∀ i, i ≠ 176 → i ≠ 183 → i ≠ 184 → τ.1 i = σ.1 i) ∧ (∀ k, k ≠ 3 → k ≠ 4 → τ.1 176 k = σ.1 176 k) ∧ (∀ j, j < b → τ.1 183 j = σ.1 183 j) ∧ ∀ j, j < 4 → τ.1 184 j = σ.1 184 j
theorem FN.rf {b : Nat} {σ : wS} : FN b σ σ := ⟨fun _ _ _ _ => rfl, fun _ _ _ => rfl, fun _ _ => rfl, fun _ _ => rfl⟩
theorem FN.tr {b c : Nat} {σ τ ρ : wS} (h1 : FN b σ τ) (h2 : FN c τ ρ) (hbc : b ≤ c) : FN b σ ρ := ⟨fun i x y z => (h2.1 i x y z).trans (h1.1 i x y z), fun k x y => (h2.2.1 k x y).trans (h1.2.1 k x y), fun j hj => (h2.2.2.1 j (by omega)).trans (h1.2.2.1 j hj), fun j hj => (h2.2.2.2 j hj).trans (h1.2.2.2 j hj)⟩
theorem FN.mk {b : Nat} {σ τ ρ : wS} (h1 : FN b σ τ) (h2 : MK τ ρ) : FN b σ ρ := ⟨fun i x y z => (h2.1 i x).trans (h1.1 i x y z), fun k x y => (h2.2 k x y).trans (h1.2.1 k x y), fun j hj => by rw [h2.1 183 (by decide)]; exact h1.2.2.1 j hj, fun j hj => by rw [h2.1 184 (by decide)]; exact h1.2.2.2 j hj⟩
theorem FN.put {b k : Nat} {x : Int32} {σ τ : wS} (h : FN b σ τ) (hk : b ≤ k) : FN b σ (upI τ 183 k x) := by
  refine ⟨fun i x y z => ?_, fun k x y => ?_, fun j hj => ?_, fun j hj => ?_⟩
  · show (setI τ 183 _).1 i = _
    rw [(setI_ne y).1]; exact h.1 i x y z
  · rw [upI_1, if_neg (by omega)]; exact h.2.1 k x y
  · rw [upI_1, if_neg (by omega)]; exact h.2.2.1 j hj
  · rw [upI_1, if_neg (by omega)]; exact h.2.2.2 j hj
theorem FN.up {b k : Nat} {x : Int32} {σ τ : wS} (h : FN b σ τ) (hk : k = 3 ∨ k = 4) : FN b σ (upI τ 176 k x) := by
  refine ⟨fun i x y z => ?_, fun j x y => ?_, fun j hj => ?_, fun j hj => ?_⟩
  · show (setI τ 176 _).1 i = _
    rw [(setI_ne x).1]; exact h.1 i x y z
  · rw [upI_1, if_neg (by omega)]; exact h.2.1 j x y
  · rw [upI_1, if_neg (by omega)]; exact h.2.2.1 j hj
  · rw [upI_1, if_neg (by omega)]; exact h.2.2.2 j hj
theorem FN.tp {T : TP} {b : Nat} {σ τ : wS} (h : FN b σ τ) (hT : dT T σ) : dT T τ := by
  unfold dT at hT ⊢
  rw [h.2.1 2 (by decide) (by decide), h.1 177 (by decide) (by decide) (by decide)]
  exact hT
theorem m_rsign {T : TP} {a : Nat} {c : Int32} {σ : wS} {Q : wS → Prop} (hT : tpk T) (hC : dT T σ) (ha : a ≤ T.1) (h3 : σ.1 176 3 = nI a) (h4 : σ.1 176 4 = -1) (hq0 : (sgP T a c).2 = false → ∀ τ : wS, MK σ τ → τ.1 176 4 = nI (sgP T a c).1 → Q τ) (hq1 : (sgP T a c).2 = true → ∀ τ : wS, MK σ τ → τ.1 176 3 = nI (sgP T a c).1 → τ.1 176 4 = -1 → Q τ) : w_X12_sign c σ Q := by
  refine ⟨fun _ => ?_, fun n => absurd h4 n⟩
  refine m_look hT hC ha h3 (fun s1 K1 e1 f1 => ?_)
  rw [h4] at f1
  unfold sgP at hq0 hq1
  refine ⟨fun n => ?_, fun y s5 e5 => ?_⟩
  · rw [if_neg n] at hq0
    exact m_fails e1 f1 (fun s3 K3 e3 f3 => hq0 rfl s3 (K1.tr K3) f3)
  · rw [if_pos y] at hq1
    exact hq1 rfl s5 (by rw [e5]; exact K1.up (by decide)) (by rw [e5, upI_1]; simp; rw [e1]; exact nI_1 _) (by rw [e5, upI_1]; simp; exact f1)
theorem m_rdig {T : TP} {a : Nat} {σ : wS} {Q : Int32 → wS → Prop} (hT : tpk T) (hC : dT T σ) (ha : a ≤ T.1) (h3 : σ.1 176 3 = nI a) (h4 : σ.1 176 4 = -1) (hq0 : (dgP T a).2 = none → ∀ τ : wS, MK σ τ → τ.1 176 4 = nI (dgP T a).1 → Q 0 τ) (hq1 : ∀ d, (dgP T a).2 = some d → ∀ τ : wS, MK σ τ → τ.1 176 3 = nI (dgP T a).1 → τ.1 176 4 = -1 → Q (nI d) τ) : w_X12_digit σ Q := by
  refine m_look hT hC ha h3 (fun s1 K1 e1 f1 => ?_)
  rw [h4] at f1
  have hs := (sk_ok ha).2.1
  unfold dgP at hq0 hq1
  rw [m_isd hT (K1.tp hC) hs e1]
  cases hi : isd T (sk T a)
  · rw [hi, if_neg (by decide)] at hq0
    refine ⟨fun n => absurd rfl n, fun _ => ?_⟩
    exact m_fails e1 f1 (fun s3 K3 e3 f3 => hq0 rfl s3 (K1.tr K3) f3)
  · rw [hi, if_pos rfl] at hq1
    obtain ⟨h1, h2, h3⟩ := isd_ok hT hi
    refine ⟨fun _ s5 e5 => ?_, fun n => absurd n (by decide)⟩
    have ev : chr T (sk T a) - 48 = nI (dv T (sk T a)) := by
      rw [h3, show (48 : Int32) = nI 48 from rfl, iI_n, iI_n, iI_sub, iI_n]
      congr 1; omega
    rw [ev]
    exact hq1 _ rfl s5 (by rw [e5]; exact K1.up (by decide)) (by rw [e5, upI_1]; simp; rw [e1]; exact nI_1 _) (by rw [e5, upI_1]; simp; exact f1)
theorem rl_k {x : Nat} (hx : x < 3) {σ : wS} {Q : Int32 → wS → Prop} : (Q (iI (-(G3 x))) σ → w_X12_leastRule (nI (x + 1)) σ Q) ∧ (Q (iI (G3 x)) σ → w_X12_mostRule (nI (x + 1)) σ Q) := by
  have e : lo true (x + 1) = -(G3 x) ∧ hi true (x + 1) = G3 x := by
    have h : ∀ x, x < 3 → lo true (x + 1) = -(G3 x) ∧ hi true (x + 1) = G3 x := by decide
    exact h x hx
  refine ⟨fun hq => (m_lo (rl := true) (k := x + 1) (by show x + 1 < 4; omega) (by rw [e.1]; exact hq)).1 rfl, fun hq => (m_hi (rl := true) (k := x + 1) (by show x + 1 < 4; omega) (by rw [e.2]; exact hq)).1 rfl⟩
theorem m_gust {T : TP} {b : Nat} {σ : wS} {Q : wS → Prop} (hT : tpk T) (hC : dT T σ) (hb : b + 4 ≤ 320) : ∀ (f x a : Nat) (v : Nat → Int) (ρ : wS), x + f = 3 → a ≤ T.1 → FN (b + 1) σ ρ → ρ.1 176 3 = nI a → ρ.1 176 4 = -1 → (∀ k, k < x → ρ.1 183 (b + k + 1) = iI (v k)) →
    ((gsR T f x a v).2 = none → ∀ τ : wS, FN (b + 1) σ τ → τ.1 176 4 = nI (gsR T f x a v).1 → Q τ) →
    (∀ w, (gsR T f x a v).2 = some w → ∀ τ : wS, FN (b + 1) σ τ → τ.1 176 3 = nI (gsR T f x a v).1 → τ.1 176 4 = -1 → (∀ k, k < 3 → τ.1 183 (b + k + 1) = iI (w k)) → Q τ) → l_X12_readStep_115 Q (f + 1) (nI b) (nI (x + 1)) ρ := by
  have h240 := hT.1
  intro f
  induction f with
  | zero =>
    intro x a v ρ h1 ha F1 e1 f1 V1 hq0 hq1
    have hx : x = 3 := by omega
    subst hx
    rw [l_X12_readStep_115]
    exact ⟨fun _ => hq1 v rfl ρ F1 e1 f1 V1, fun n => absurd (by decide) n⟩
  | succ f ih =>
    intro x a v ρ h1 ha F1 e1 f1 V1 hq0 hq1
    have e4 : ((4 : Int32) ≤ nI (x + 1)) ↔ 4 ≤ x + 1 := nI_leI (a := 4) (by decide) (by omega)
    have e0 : (nI (x + 1) ≤ 1) ↔ x + 1 ≤ 1 := nI_leI (b := 1) (by omega) (by decide)
    rw [l_X12_readStep_115, e4, e0, f1]
    refine ⟨fun q => by omega, fun _ => ⟨fun n => absurd rfl n, fun _ => ?_⟩⟩
    rw [gsR] at hq0 hq1
    have hca := cmP_ok (x := x) ha
    -- a fault is told
    have out : ∀ (c : Nat) (τ : wS), c ≤ T.1 → τ.1 176 4 = nI c → Q τ → l_X12_readStep_115 Q (f + 1) (nI b) (nI (x + 1) + 1) τ := by
      intro c τ hc hf hQ
      have hne : ¬ τ.1 176 4 = -1 := by rw [hf]; exact nI_m1 (by omega)
      rw [nI_1]
      simp only [l_X12_readStep_115]
      exact ⟨fun _ => hQ, fun _ => ⟨fun _ => hQ, fun n => absurd n hne⟩⟩
    have go : ∀ τ : wS, (cmP T x a).2 = true → FN (b + 1) σ τ → τ.1 176 3 = nI (cmP T x a).1 → τ.1 176 4 = -1 → (τ.1 183 = ρ.1 183) → b_X12_readStep_139 (fun x1 x3 σ => l_X12_readStep_115 Q (f + 1) x1 x3 σ) Q (nI b) (nI (x + 1)) τ := by
      intro τ hc Fτ eτ fτ pτ
      rw [hc, if_neg (by decide)] at hq0 hq1
      have gb := G3_b (x := x)
      refine ⟨fun n => absurd fτ n, fun _ => ?_⟩
      refine (rl_k (by omega)).1 ((rl_k (by omega)).2 ?_)
      have hnum := num_ok hT hca (-(G3 x)) (G3 x)
      have ei : nI b + nI (x + 1) = nI (b + x + 1) := by rw [nI_add, Nat.add_assoc]
      rw [ei]
      refine m_num hT (Fτ.tp hC) hca eτ fτ (by omega) (by omega) (fun z s5 hno K5 e5 f5 => ⟨vp_in_nI (by omega) (by decide), fun s7 e7 y1 ey => ?_⟩) (fun s5 y hsm K5 e5 f5 => ⟨vp_in_nI (by omega) (by decide), fun s7 e7 y1 ey => ?_⟩)
      · rw [hno] at hq0
        rw [nI_clamp (by omega)] at e7
        rw [ey]
        have f7 : s7.1 176 4 = nI (num T (cmP T x a).1 (-(G3 x)) (G3 x)).1 := by rw [e7, upI_1, if_neg (by omega)]; exact f5
        refine out _ s7 hnum.1 f7 (hq0 rfl s7 (by rw [e7]; exact (Fτ.mk K5).put (by omega)) f7)
      · rw [hsm] at hq0 hq1
        rw [nI_clamp (by omega)] at e7
        rw [ey, nI_1]
        have q5 : s5.1 183 = ρ.1 183 := by rw [K5.1 183 (by decide)]; exact pτ
        refine ih (x + 1) _ (u1 v x y) s7 (by omega) hnum.1 (by rw [e7]; exact (Fτ.mk K5).put (by omega)) (by rw [e7, upI_1, if_neg (by omega)]; exact e5) (by rw [e7, upI_1, if_neg (by omega)]; exact f5) (fun k hk => ?_) hq0 hq1
        unfold u1
        rw [e7, upI_1]
        by_cases qq : k = x
        · rw [if_pos ⟨rfl, by omega⟩, if_pos qq]
        · rw [if_neg (by omega), if_neg qq, q5]; exact V1 k (by omega)
    refine ⟨fun z => ?_, fun n => ?_⟩
    · have hcm : cmP T x a = (a, true) := by unfold cmP; rw [if_neg (by omega)]
      exact go ρ (by rw [hcm]) F1 (by rw [hcm]; exact e1) f1 rfl
    · have hcm : cmP T x a = sgP T a 44 := by unfold cmP; rw [if_pos (by omega)]
      rw [hcm] at go hq0 hq1 hca
      refine m_rsign (c := 44) hT (F1.tp hC) ha e1 f1 (fun hno τ K1 fs => ?_) (fun hyes τ K1 es fs => ?_)
      · rw [hno, if_pos rfl] at hq0
        have hne : ¬ τ.1 176 4 = -1 := by rw [fs]; exact nI_m1 (by omega)
        refine ⟨fun _ y1 ey => ?_, fun n => absurd n hne⟩
        rw [ey]
        exact out _ τ hca fs (hq0 rfl τ (F1.mk K1) fs)
      · exact go τ hyes (F1.mk K1) es fs (K1.1 183 (by decide))
def stM (t : ST) (b : Nat) (f : Nat → Int32) : Prop := f b = nI t.1 ∧ f (b + 1) = iI t.2.1 ∧ f (b + 2) = (if t.1 ≤ 1 then iI t.2.2.1 else -1000000) ∧ f (b + 3) = (if t.1 = 0 then iI t.2.2.2 else -1000000)
theorem fx4 (c : Int32) : spot 212 c = oI (if c = 119 then some 0 else if c = 104 then some 1 else if c = 99 then some 2 else if c = 110 then some 3 else none) := by
  unfold spot
  rw [spF_eq]
  show oI (fxF [119, 104, 99, 110] c 0) = _
  simp only [fxF, eq_comm (b := c)]
theorem m_readStep {T : TP} {b a : Nat} {σ : wS} {Q : wS → Prop} (hT : tpk T) (hC : dT T σ) (hb : b + 4 ≤ 320) (ha : a ≤ T.1) (h3 : σ.1 176 3 = nI a) (h4 : σ.1 176 4 = -1) (hq0 : (stP T a).2 = none → ∀ τ : wS, FN b σ τ → τ.1 176 4 = nI (stP T a).1 → Q τ) (hq1 : ∀ t, (stP T a).2 = some t → ∀ τ : wS, FN b σ τ → τ.1 176 3 = nI (stP T a).1 → τ.1 176 4 = -1 → stM t b (τ.1 183) → Q τ) : w_X12_readStep (nI b) σ Q := by
  have h240 := hT.1
  have hs := (sk_ok ha).2.1
  refine m_look hT hC ha h3 (fun s3 K3 e3 f3 => ?_)
  rw [h4] at f3
  have F3 : FN b σ s3 := FN.rf.mk K3
  unfold w_X12_spotOf
  rw [fx4]
  refine ⟨4, ?_⟩
  have p1 : nI b + 1 = nI (b + 1) := nI_1 b
  have p2 : nI b + 2 = nI (b + 2) := nI_add b 2
  have p3 : nI b + 3 = nI (b + 3) := nI_add b 3
  -- what comes behind the clearing
  have main : ∀ (o : Option Nat) (τ : wS), o = (if chr T (sk T a) = 119 then some 0 else if chr T (sk T a) = 104 then some 1 else if chr T (sk T a) = 99 then some 2 else if chr T (sk T a) = 110 then some 3 else none) → FN b σ τ → τ.1 176 3 = nI (sk T a) → τ.1 176 4 = -1 → τ.1 183 (b + 2) = -1000000 → τ.1 183 (b + 3) = -1000000 → l_X12_readStep_12 Q 1 (nI b) (oI o) 4 τ := by
    intro o τ ho F4 e4 f4 g2 g3
    rw [l_X12_readStep_12]
    refine ⟨fun _ => ?_, fun n => absurd (by decide) n⟩
    cases o with
    | none =>
      refine ⟨fun n => absurd rfl n, fun _ => ?_⟩
      have hno : stP T a = (sk T a, none) := by
        unfold stP
        by_cases h1 : chr T (sk T a) = 119
        · rw [if_pos h1] at ho; cases ho
        · rw [if_neg h1] at ho ⊢
          by_cases h2 : chr T (sk T a) = 104
          · rw [if_pos h2] at ho; cases ho
          · rw [if_neg h2] at ho ⊢
            by_cases h3 : chr T (sk T a) = 99
            · rw [if_pos h3] at ho; cases ho
            · rw [if_neg h3] at ho ⊢
              by_cases h4 : chr T (sk T a) = 110
              · rw [if_pos h4] at ho; cases ho
              · rw [if_neg h4]
      rw [hno] at hq0
      exact m_fails e4 f4 (fun s5 K5 e5 f5 => hq0 rfl s5 (F4.mk K5) f5)
    | some w =>
      have hw : (w = 0 ∧ chr T (sk T a) = 119 ∧ stP T a = wP T (sk T a + 1)) ∨ ((w = 1 ∨ w = 2 ∨ w = 3) ∧ (chr T (sk T a) = 104 ∨ chr T (sk T a) = 99 ∨ chr T (sk T a) = 110) ∧ stP T a = if w = 1 then hP T (sk T a + 1) else cP2 T w (sk T a + 1)) := by
        unfold stP
        by_cases h1 : chr T (sk T a) = 119
        · rw [if_pos h1] at ho ⊢
          have := Option.some.inj ho
          exact Or.inl ⟨this, h1, rfl⟩
        · rw [if_neg h1] at ho ⊢
          by_cases h2 : chr T (sk T a) = 104
          · rw [if_pos h2] at ho ⊢
            have := Option.some.inj ho
            subst this
            exact Or.inr ⟨by decide, Or.inl h2, rfl⟩
          · rw [if_neg h2] at ho ⊢
            by_cases h3 : chr T (sk T a) = 99
            · rw [if_pos h3] at ho ⊢
              have := Option.some.inj ho
              subst this
              exact Or.inr ⟨by decide, Or.inr (Or.inl h3), rfl⟩
            · rw [if_neg h3] at ho ⊢
              by_cases h4 : chr T (sk T a) = 110
              · rw [if_pos h4] at ho ⊢
                have := Option.some.inj ho
                subst this
                exact Or.inr ⟨by decide, Or.inr (Or.inr h4), rfl⟩
              · rw [if_neg h4] at ho; cases ho
      have hlt : sk T a < T.1 := by
        rcases hw with ⟨-, q, -⟩ | ⟨-, q, -⟩
        · exact chr_in (by rw [q]; decide)
        · exact chr_in (by rcases q with q | q | q <;> rw [q] <;> decide)
      have hw3 : w ≤ 3 := by omega
      have eo : oI (some w) = nI w := rfl
      rw [eo]
      refine ⟨fun _ s1 es1 => ⟨vp_in_nI (by omega) (by decide), fun s2 es2 => ?_⟩, fun n => absurd n (nI_m1 (by omega))⟩
      rw [nI_clamp (by omega)] at es2
      have F2 : FN b σ s2 := by rw [es2, es1]; exact (F4.up (by decide)).put (Nat.le_refl _)
      have e2 : s2.1 176 3 = nI (sk T a + 1) := by rw [es2, upI_1]; simp; rw [es1, upI_1]; simp; rw [e4]; exact nI_1 _
      have f2 : s2.1 176 4 = -1 := by rw [es2, upI_1]; simp; rw [es1, upI_1]; simp; exact f4
      have r0 : s2.1 183 b = nI w := by rw [es2, upI_1]; simp
      have r2 : s2.1 183 (b + 2) = -1000000 := by rw [es2, upI_1, if_neg (by omega), es1]; exact g2
      have r3 : s2.1 183 (b + 3) = -1000000 := by rw [es2, upI_1, if_neg (by omega), es1]; exact g3
      have w0 : (nI w ≤ 0) ↔ w ≤ 0 := nI_leI (b := 0) (by omega) (by decide)
      have w1 : (nI w ≤ 1) ↔ w ≤ 1 := nI_leI (b := 1) (by omega) (by decide)
      rw [w0, w1, p1, p2]
      refine ⟨fun z => ⟨4, ?_⟩, fun z => ?_⟩
      · have hw0 : w = 0 := by omega
        subst hw0
        have hst : stP T a = wP T (sk T a + 1) := by
          rcases hw with ⟨-, -, q⟩ | ⟨q, -, -⟩
          · exact q
          · omega
        rw [hst] at hq0 hq1
        unfold wP at hq0 hq1
        refine m_gust hT (F2.tp hC) hb 3 0 (sk T a + 1) (fun _ => 0) s2 rfl hlt FN.rf e2 f2 (fun k hk => absurd hk (Nat.not_lt_zero k)) (fun hno τ Fτ fτ => ?_) (fun v hv τ Fτ eτ fτ Vτ => ?_)
        · rw [hno] at hq0
          exact hq0 rfl τ (F2.tr Fτ (by omega)) fτ
        · rw [hv] at hq1
          refine hq1 _ rfl τ (F2.tr Fτ (by omega)) eτ fτ ⟨?_, Vτ 0 (by decide), Vτ 1 (by decide), Vτ 2 (by decide)⟩
          rw [Fτ.2.2.1 b (by omega)]; exact r0
      · have hw' : (w = 1 ∨ w = 2 ∨ w = 3) ∧ stP T a = if w = 1 then hP T (sk T a + 1) else cP2 T w (sk T a + 1) := by
          rcases hw with ⟨q, -, -⟩ | ⟨q, -, r⟩
          · omega
          · exact ⟨q, r⟩
        rw [hw'.2] at hq0 hq1
        have hd := dgP_ok hT (a := sk T a + 1) hlt
        refine m_rdig hT (F2.tp hC) hlt e2 f2 (fun hno s3 K3 f3 => ⟨vp_in_nI (by omega) (by decide), fun s5 es5 => ?_⟩) (fun d hsm s3 K3 e3 f3 => ⟨vp_in_nI (by omega) (by decide), fun s5 es5 => ?_⟩)
        · rw [nI_clamp (by omega)] at es5
          have F5 : FN b σ s5 := by rw [es5]; exact (F2.mk K3).put (by omega)
          have f5 : s5.1 176 4 = nI (dgP T (sk T a + 1)).1 := by rw [es5, upI_1, if_neg (by omega)]; exact f3
          have hne : ¬ s5.1 176 4 = -1 := by rw [f5]; exact nI_m1 (by omega)
          have hfin : Q s5 := by
            refine hq0 ?_ s5 F5 ?_
            · split
              · unfold hP; rw [hno]
              · unfold cP2; rw [hno]
            · rw [f5]
              split
              · unfold hP; rw [hno]
              · unfold cP2; rw [hno]
          refine ⟨fun _ => ⟨fun n => absurd n hne, fun _ => ⟨fun _ => hfin, fun n => absurd n hne⟩⟩, fun _ => hfin⟩
        · rw [nI_clamp (by omega)] at es5
          have F5 : FN b σ s5 := by rw [es5]; exact (F2.mk K3).put (by omega)
          have e5 : s5.1 176 3 = nI (dgP T (sk T a + 1)).1 := by rw [es5, upI_1, if_neg (by omega)]; exact e3
          have f5 : s5.1 176 4 = -1 := by rw [es5, upI_1, if_neg (by omega)]; exact f3
          have q0 : s5.1 183 b = nI w := by rw [es5, upI_1, if_neg (by omega), K3.1 183 (by decide)]; exact r0
          have q1 : s5.1 183 (b + 1) = iI (d : Int) := by rw [es5, upI_1, if_pos ⟨rfl, rfl⟩, iI_n]
          have q2 : s5.1 183 (b + 2) = -1000000 := by rw [es5, upI_1, if_neg (by omega), K3.1 183 (by decide)]; exact r2
          have q3 : s5.1 183 (b + 3) = -1000000 := by rw [es5, upI_1, if_neg (by omega), K3.1 183 (by decide)]; exact r3
          refine ⟨fun h1 => ?_, fun h1 => ?_⟩
          · have hw1 : w = 1 := by omega
            subst hw1
            rw [if_pos rfl] at hq0 hq1
            unfold hP at hq0 hq1
            rw [hsm] at hq0 hq1
            simp only at hq0 hq1
            have hsg := sgP_ok (c := 58) (by decide) hd.1
            refine m_rsign (c := 58) hT (F5.tp hC) hd.1 e5 f5 (fun hno s7 K7 f7 => ?_) (fun hyes s7 K7 e7 f7 => ?_)
            · rw [hno, if_pos rfl] at hq0
              exact ⟨fun _ => hq0 rfl s7 (F5.mk K7) f7, fun n => absurd n (by rw [f7]; exact nI_m1 (by omega))⟩
            · rw [hyes, if_neg (by decide)] at hq0 hq1
              refine ⟨fun n => absurd f7 n, fun _ => ?_⟩
              have F7 := F5.mk K7
              refine m_num (l := -9) (m := 9) hT (F7.tp hC) hsg e7 f7 (by decide) (by decide) (fun x s9 hno K9 e9 f9 => ?_) (fun s9 y hy K9 e9 f9 => ?_)
              · refine ⟨vp_in_nI (by omega) (by decide), fun s10 e10 => ?_⟩
                rw [hno] at hq0
                rw [nI_clamp (by omega)] at e10
                exact hq0 rfl s10 (by rw [e10]; exact (F7.mk K9).put (by omega)) (by rw [e10, upI_1, if_neg (by omega)]; exact f9)
              · refine ⟨vp_in_nI (by omega) (by decide), fun s10 e10 => ?_⟩
                rw [hy] at hq1
                rw [nI_clamp (by omega)] at e10
                have u9 : s9.1 183 = s5.1 183 := by rw [K9.1 183 (by decide), K7.1 183 (by decide)]
                refine hq1 _ rfl s10 (by rw [e10]; exact (F7.mk K9).put (by omega)) (by rw [e10, upI_1, if_neg (by omega)]; exact e9) (by rw [e10, upI_1, if_neg (by omega)]; exact f9) ⟨?_, ?_, ?_, ?_⟩
                · rw [e10, upI_1, if_neg (by omega), u9]; exact q0
                · rw [e10, upI_1, if_neg (by omega), u9]; exact q1
                · rw [e10, upI_1, if_pos ⟨rfl, rfl⟩]; rfl
                · rw [e10, upI_1, if_neg (by omega), u9]; exact q3
          · rw [if_neg (by omega)] at hq1
            unfold cP2 at hq1
            rw [hsm] at hq1
            refine hq1 _ rfl s5 F5 e5 f5 ⟨q0, q1, ?_, ?_⟩
            · rw [q2, if_neg]; show ¬ w ≤ 1; exact h1
            · rw [q3, if_neg]; show ¬ w = 0; omega
  -- the clearing
  rw [l_X12_readStep_12, p1]
  refine ⟨fun n => absurd n (by decide), fun _ => ⟨vp_in_nI (by omega) (by decide), fun s13 e13 y14 e14 => ?_⟩⟩
  have e14 : y14 = 2 := by rw [e14]; decide
  rw [nI_clamp (by omega)] at e13
  rw [e14, l_X12_readStep_12, p2]
  refine ⟨fun n => absurd n (by decide), fun _ => ⟨vp_in_nI (by omega) (by decide), fun s23 e23 y24 e24 => ?_⟩⟩
  have e24 : y24 = 3 := by rw [e24]; decide
  rw [nI_clamp (by omega)] at e23
  rw [e24, l_X12_readStep_12, p3]
  refine ⟨fun n => absurd n (by decide), fun _ => ⟨vp_in_nI (by omega) (by decide), fun s33 e33 y34 e34 => ?_⟩⟩
  have e34 : y34 = 4 := by rw [e34]; decide
  rw [nI_clamp (by omega)] at e33
  rw [e34]
  refine main _ s33 rfl ?_ ?_ ?_ ?_ ?_
  · rw [e33, e23, e13]; exact ((F3.put (by omega)).put (by omega)).put (by omega)
  · rw [e33, upI_1, if_neg (by omega), e23, upI_1, if_neg (by omega), e13, upI_1, if_neg (by omega)]; exact e3
  · rw [e33, upI_1, if_neg (by omega), e23, upI_1, if_neg (by omega), e13, upI_1, if_neg (by omega)]; exact f3
  · rw [e33, upI_1, if_neg (by omega), e23, upI_1]; simp
  · rw [e33, upI_1]; simp
theorem m_readSc {T : TP} {σ : wS} {Q : wS → Prop} (hT : tpk T) (hC : dT T σ) (h3 : σ.1 176 3 = 0) (h4 : σ.1 176 4 = -1) (hq0 : (rdSc T).2 = none → ∀ τ : wS, FN 256 σ τ → τ.1 176 4 = nI (rdSc T).1 → Q τ) (hq1 : ∀ L, (rdSc T).2 = some L → ∀ τ : wS, FN 256 σ τ → τ.1 176 4 = -1 → τ.1 184 4 = nI L.length → scM L 256 (τ.1 183) → Q τ) : w_X12_readScript σ Q := by
  have h240 := hT.1
  refine ⟨17, ?_⟩
  have key : ∀ (f a : Nat) (L : List ST) (ρ : wS), L.length + f = 16 → 1 ≤ f → a ≤ T.1 → FN 256 σ ρ → ρ.1 176 3 = nI a → ρ.1 176 4 = -1 → (∀ j t, L[j]? = some t → stM t (256 + 4 * j) (ρ.1 183)) → scP T f a L = rdSc T → l_X12_readScript_4 Q (f + 1) (nI L.length) 1 ρ := by
    intro f
    induction f with
    | zero => intro a L ρ h1 h2; exfalso; omega
    | succ f ih =>
      intro a L ρ h1 h2 ha F1 e1 f1 V1 he
      rw [l_X12_readScript_4]
      refine ⟨fun n => absurd n (by decide), fun _ => ?_⟩
      rw [scP] at he
      obtain ⟨o1, o2⟩ := stP_ok hT ha
      have ei : (4 : Int32) * ((64 : Int32) + nI L.length) = nI (256 + 4 * L.length) := by
        rw [show (64 : Int32) = nI 64 from rfl, nI_add, show (4 : Int32) = nI 4 from rfl, pk_mul]; congr 1; omega
      rw [ei]
      refine m_readStep hT (F1.tp hC) (by omega) ha e1 f1 (fun hno τ Fτ fτ => ?_) (fun t hsm τ Fτ eτ fτ Vτ => ?_)
      · rw [hno] at he
        refine ⟨fun n => absurd n (by rw [fτ]; exact nI_m1 (by omega)), fun _ => ?_⟩
        have := hq0 (by rw [← he]) τ (F1.tr Fτ (by omega))
        rw [← he] at this
        exact this fτ
      · rw [hsm] at he
        simp only at he
        refine ⟨fun _ y8 ey8 => ?_, fun n => absurd fτ n⟩
        rw [nI_1] at ey8
        have F2 := F1.tr Fτ (show 256 ≤ 256 + 4 * L.length by omega)
        have V2 : ∀ j t', (L ++ [t])[j]? = some t' → stM t' (256 + 4 * j) (τ.1 183) := by
          intro j t' hj
          rcases Nat.lt_or_ge j L.length with q | q
          · rw [List.getElem?_append_left q] at hj
            have := V1 j t' hj
            unfold stM at this ⊢
            rw [Fτ.2.2.1 (256 + 4 * j) (by omega), Fτ.2.2.1 (256 + 4 * j + 1) (by omega), Fτ.2.2.1 (256 + 4 * j + 2) (by omega), Fτ.2.2.1 (256 + 4 * j + 3) (by omega)]
            exact this
          · have hjl := (List.getElem?_eq_some_iff.mp hj).1
            simp at hjl
            have : j = L.length := by omega
            subst this
            simp at hj
            rw [← hj]
            exact Vτ
        refine m_look hT (F2.tp hC) o1 eτ (fun s9 K9 e9 f9 => ?_)
        rw [fτ] at f9
        have F9 := F2.mk K9
        have V9 : ∀ j t', (L ++ [t])[j]? = some t' → stM t' (256 + 4 * j) (s9.1 183) := by
          intro j t' hj
          rw [K9.1 183 (by decide)]; exact V2 j t' hj
        have hk := (sk_ok o1).2.1
        have hsk := sk_sk o1
        -- it ends here
        have fin : chr T (sk T (stP T a).1) ≠ 59 → l_X12_readScript_4 Q (f + 1) y8 0 s9 := by
          intro hn
          simp only [l_X12_readScript_4]
          refine ⟨fun _ s10 e10 => ?_, fun n => absurd trivial n⟩
          have F10 : FN 256 σ s10 := by
            rw [e10]
            refine ⟨fun i x y z => ?_, fun k x y => F9.2.1 k x y, fun j hj => F9.2.2.1 j hj, fun j hj => ?_⟩
            · show (setI s9 184 _).1 i = _
              rw [(setI_ne z).1]; exact F9.1 i x y z
            · rw [upI_1, c_4, if_neg (by omega)]; exact F9.2.2.2 j hj
          have e103 : s10.1 176 3 = nI (sk T (stP T a).1) := by rw [e10]; exact e9
          have f104 : s10.1 176 4 = -1 := by rw [e10]; exact f9
          have n184 : s10.1 184 4 = nI (L ++ [t]).length := by rw [e10, upI_1, c_4]; simp; rw [ey8]
          refine m_look hT (F10.tp hC) hk e103 (fun s2 K2 e2 f2 => ?_)
          rw [hsk] at e2 ⊢
          rw [f104] at f2
          refine ⟨fun y => ?_, fun n => ?_⟩
          · rw [if_pos y] at he
            refine hq1 (L ++ [t]) (by rw [← he]) s2 (F10.mk K2) f2 (by rw [K2.1 184 (by decide)]; exact n184) (fun j t' hj => ?_)
            have : s2.1 183 = s9.1 183 := by rw [K2.1 183 (by decide), e10]; rfl
            rw [this]; exact V9 j t' hj
          · rw [if_neg n, if_neg (fun q => hn q.1)] at he
            refine m_fails e2 f2 (fun s4 K4 e4 f4 => ?_)
            have := hq0 (by rw [← he]) s4 ((F10.mk K2).mk K4)
            rw [← he] at this
            exact this f4
        refine ⟨fun n => ⟨fun _ => ⟨fun _ => fin n, fun n => absurd rfl n⟩, fun n => absurd rfl n⟩, fun y => ⟨fun n => absurd n (by decide), fun _ => ?_⟩⟩
        have n1 : ¬ chr T (sk T (stP T a).1) = -1 := by rw [y]; decide
        rw [if_neg n1] at he
        have hlt := chr_in n1
        have e16 : nI (L.length + 1) = 16 ↔ L.length + 1 = 16 := nI_eq (b := 16) (by omega) (by decide)
        rw [ey8, e16]
        refine ⟨fun n16 => ⟨fun n => absurd n (by decide), fun _ s1 e1' => ?_⟩, fun y16 => ?_⟩
        · rw [if_pos ⟨y, by omega⟩] at he
          have K1 : MK s9 s1 := by rw [e1']; exact MK.rf.up (by decide)
          have := ih (sk T (stP T a).1 + 1) (L ++ [t]) s1 (by simp; omega) (by omega) hlt (F9.mk K1) (by rw [e1', upI_1]; simp; rw [e9]; exact nI_1 _) (by rw [e1', upI_1]; simp; exact f9) (fun j t' hj => by rw [K1.1 183 (by decide)]; exact V9 j t' hj) he
          simp only [List.length_append, List.length_cons, List.length_nil, Nat.zero_add] at this
          exact this
        · rw [if_neg (fun q => by omega)] at he
          refine m_fails e9 f9 (fun s4 K4 e4 f4 => ?_)
          have := hq0 (by rw [← he]) s4 (F9.mk K4)
          rw [← he] at this
          exact this f4
  exact key 16 0 [] σ rfl (by decide) (Nat.zero_le _) FN.rf (by rw [h3]; rfl) h4 (fun j t hj => by simp at hj) rfl
