/-! a mooring's text -/
def dfR (k : Nat) : Int := ([1, 0, 0, 1, 0, 0, 999] : List Int).getD k 0
def dfU (k : Nat) : Int := ([3, 0, 0, 0] : List Int).getD k 0
def addR (μ : MU) (v : Nat → Int) : MU := (μ.1 + 1, fun r => if r = μ.1 then v else μ.2.1 r, μ.2.2)
def setU (μ : MU) (v : Nat → Int) : MU := (μ.1, μ.2.1, v)
def whole (μ : MU) : Bool := decide (0 < μ.1 ∧ ∀ r, r < μ.1 → ¬ (μ.2.1 r 3 = 0 ∧ μ.2.1 r 4 = 0))
def clE (T : TP) (a : Nat) (μ : MU) (K : Nat × Option MU) : Nat × Option MU := if chr T a = -1 then (a, if whole μ = true then some μ else none) else K
def cls (T : TP) : Nat → Nat → Bool → MU → Nat × Option MU
  | 0, a, _, _ => (a, none)
  | f + 1, a, hr, μ =>
    if chr T (sk T a) = 115 ∧ hr = false then
      match (itm T true 5 (sk T a + 1) 0 μ.2.2).2 with
      | none => ((itm T true 5 (sk T a + 1) 0 μ.2.2).1, none)
      | some v => clE T (itm T true 5 (sk T a + 1) 0 μ.2.2).1 (setU μ v) (cls T f ((itm T true 5 (sk T a + 1) 0 μ.2.2).1 + 1) true (setU μ v))
    else if chr T (sk T a) = 114 ∧ μ.1 < 8 then
      match (itm T false 8 (sk T a + 1) 0 dfR).2 with
      | none => ((itm T false 8 (sk T a + 1) 0 dfR).1, none)
      | some v => clE T (itm T false 8 (sk T a + 1) 0 dfR).1 (addR μ v) (cls T f ((itm T false 8 (sk T a + 1) 0 dfR).1 + 1) hr (addR μ v))
    else (sk T a, none)
def muP (μ : MU) : Prop := μ.1 ≤ 8 ∧ (∀ r, r < μ.1 → rgo false (μ.2.1 r)) ∧ rgo true μ.2.2
theorem muP_ok {μ : MU} (h : muP μ) : mu_ok μ := by
  obtain ⟨h1, h2, h3⟩ := h
  have u0 := h3 0 (by decide)
  have u1 := h3 1 (by decide)
  have u2 := h3 2 (by decide)
  have u3 := h3 3 (by decide)
  simp only [lo, hi, if_true, List.getD_cons_zero, List.getD_cons_succ] at u0 u1 u2 u3
  refine ⟨h1, fun r hr => ?_, by omega, by omega, by omega, by omega, by omega, by omega, by omega, by omega⟩
  have v0 := h2 r hr 0 (by decide)
  have v1 := h2 r hr 1 (by decide)
  have v2 := h2 r hr 2 (by decide)
  have v3 := h2 r hr 3 (by decide)
  have v4 := h2 r hr 4 (by decide)
  have v5 := h2 r hr 5 (by decide)
  have v6 := h2 r hr 6 (by decide)
  simp only [lo, hi, Bool.false_eq_true, if_false, List.getD_cons_zero, List.getD_cons_succ] at v0 v1 v2 v3 v4 v5 v6
  refine ⟨by omega, by omega, fun k k1 k4 => ?_, by omega, by omega, by omega, by omega⟩
  rcases (show k = 1 ∨ k = 2 ∨ k = 3 ∨ k = 4 by omega) with rfl | rfl | rfl | rfl <;> omega
theorem rgo_d : rgo false dfR ∧ rgo true dfU := by
  refine ⟨fun k hk => ?_, fun k hk => ?_⟩
  · have h : ∀ k, k < 7 → lo false k ≤ dfR k ∧ dfR k ≤ hi false k := by decide
    exact h k hk
  · have h : ∀ k, k < 4 → lo true k ≤ dfU k ∧ dfU k ≤ hi true k := by decide
    exact h k hk
theorem muP_U {μ : MU} {v : Nat → Int} (h : muP μ) (hv : rgo true v) : muP (setU μ v) := ⟨h.1, h.2.1, hv⟩
theorem muP_R {μ : MU} {v : Nat → Int} (h : muP μ) (h8 : μ.1 < 8) (hv : rgo false v) : muP (addR μ v) := by
  refine ⟨by show μ.1 + 1 ≤ 8; omega, fun r hr => ?_, h.2.2⟩
  have hr : r < μ.1 + 1 := hr
  show rgo false (if r = μ.1 then v else μ.2.1 r)
  by_cases q : r = μ.1
  · rw [if_pos q]; exact hv
  · rw [if_neg q]; exact h.2.1 r (by omega)
theorem clE_ok {T : TP} {a : Nat} {μ μ' : MU} {K : Nat × Option MU} (ha : a ≤ T.1) (hμ : muP μ) (hK : ¬ chr T a = -1 → K.1 ≤ T.1 ∧ (K.2 = some μ' → muP μ' ∧ whole μ' = true)) : (clE T a μ K).1 ≤ T.1 ∧ ((clE T a μ K).2 = some μ' → muP μ' ∧ whole μ' = true) := by
  unfold clE
  by_cases h : chr T a = -1
  · rw [if_pos h]
    refine ⟨ha, fun q => ?_⟩
    by_cases hw : whole μ = true
    · simp only [hw, if_true] at q
      rw [← Option.some.inj q]; exact ⟨hμ, hw⟩
    · simp only [hw, if_false] at q
      cases q
  · rw [if_neg h]; exact hK h
theorem cls_ok {T : TP} (hT : tpk T) {μ' : MU} : ∀ (f a : Nat) (hr : Bool) (μ : MU), a ≤ T.1 → muP μ → (cls T f a hr μ).1 ≤ T.1 ∧ ((cls T f a hr μ).2 = some μ' → muP μ' ∧ whole μ' = true) := by
  intro f
  induction f with
  | zero => intro a hr μ ha hμ; exact ⟨ha, fun h => by cases h⟩
  | succ f ih =>
    intro a hr μ ha hμ
    have hs := (sk_ok ha).2.1
    rw [cls]
    split
    · rename_i h
      have hlt : sk T a < T.1 := chr_in (by rw [h.1]; decide)
      obtain ⟨i1, i2⟩ := itm_ok hT (rl := true) 5 (sk T a + 1) 0 μ.2.2 (by omega) hμ.2.2
      generalize itm T true 5 (sk T a + 1) 0 μ.2.2 = R at i1 i2
      obtain ⟨ra, ro⟩ := R
      cases ro with
      | none => exact ⟨i1, fun h => by cases h⟩
      | some v =>
        simp only at i1 i2 ⊢
        obtain ⟨j1, j2⟩ := i2 v rfl
        exact clE_ok i1 (muP_U hμ j1) (fun hne => ih _ _ _ (by have := chr_in hne; omega) (muP_U hμ j1))
    · split
      · rename_i h
        have hlt : sk T a < T.1 := chr_in (by rw [h.1]; decide)
        obtain ⟨i1, i2⟩ := itm_ok hT (rl := false) 8 (sk T a + 1) 0 dfR (by omega) rgo_d.1
        generalize itm T false 8 (sk T a + 1) 0 dfR = R at i1 i2
        obtain ⟨ra, ro⟩ := R
        cases ro with
        | none => exact ⟨i1, fun h => by cases h⟩
        | some v =>
          simp only at i1 i2 ⊢
          obtain ⟨j1, j2⟩ := i2 v rfl
          exact clE_ok i1 (muP_R hμ h.2 j1) (fun hne => ih _ _ _ (by have := chr_in hne; omega) (muP_R hμ h.2 j1))
      · exact ⟨hs, fun h => by cases h⟩
/-! the class -/
def MoP (μ : MU) (p : Nat) (σ : wS) : Prop := σ.1 p 6 = nI μ.1 ∧ (∀ r, r < μ.1 → ∀ k, k < 7 → σ.1 (p + 2) (7 * r + k) = iI (μ.2.1 r k)) ∧ ∀ k, k < 4 → σ.1 (p + 1) k = iI (μ.2.2 k)
def FP (p : Nat) (σ τ : wS) : Prop := ∀ i, i ≠ 3 → (i < p ∨ p + 6 < i) → τ.1 i = σ.1 i
theorem FP.rf {p : Nat} {σ : wS} : FP p σ σ := fun _ _ _ => rfl
theorem FP.tr {p : Nat} {σ τ ρ : wS} (h1 : FP p σ τ) (h2 : FP p τ ρ) : FP p σ ρ := fun i a b => (h2 i a b).trans (h1 i a b)
theorem FP.rk {p : Nat} {σ τ ρ : wS} (h1 : FP p σ τ) (h2 : RK τ ρ) : FP p σ ρ := fun i a b => (h2.1 i a).trans (h1 i a b)
theorem FP.rq {p q fst N : Nat} {σ τ ρ : wS} (h1 : FP p σ τ) (hp : p ≤ q) (hq : q ≤ p + 6) (h2 : RQ q fst N τ ρ) : FP p σ ρ := fun i a b => (h2.1 i a (by omega)).trans (h1 i a b)
theorem FP.up {p i k : Nat} {x : Int32} {σ τ : wS} (h : FP p σ τ) (hi : i = 3 ∨ (p ≤ i ∧ i ≤ p + 6)) : FP p σ (upI τ i k x) := fun j a b => by
  show (setI τ i _).1 j = _
  rw [(setI_ne (show j ≠ i by omega)).1]
  exact h j a b
theorem FP.set {p i : Nat} {f : Nat → Int32} {σ τ : wS} (h : FP p σ τ) (hi : i = 3 ∨ (p ≤ i ∧ i ≤ p + 6)) : FP p σ (setI τ i f) := fun j a b => by
  rw [(setI_ne (show j ≠ i by omega)).1]
  exact h j a b
theorem FP.cT {T : TP} {p : Nat} {σ τ : wS} (h : FP p σ τ) (hp : 3 < p) (hT : cT T σ) : cT T τ := hT.mv (h 1 (by decide) (Or.inl (by omega))) (h 2 (by decide) (Or.inl (by omega)))
theorem MoP.mv {μ : MU} {p : Nat} {σ τ : wS} (h : MoP μ p σ) (h0 : τ.1 p = σ.1 p) (h1 : τ.1 (p + 1) = σ.1 (p + 1)) (h2 : τ.1 (p + 2) = σ.1 (p + 2)) : MoP μ p τ := by
  unfold MoP at h ⊢
  rw [h0, h1, h2]; exact h
theorem MoP.rk {μ : MU} {p : Nat} {σ τ : wS} (hp : 3 < p) (h : MoP μ p σ) (h2 : RK σ τ) : MoP μ p τ := h.mv (h2.1 p (by omega)) (h2.1 (p + 1) (by omega)) (h2.1 (p + 2) (by omega))
theorem st_ru : (∀ j, j < nL true → stv 206 j = (ltr true).getD j 0) ∧ (∀ j, j < nL true → stv 207 j = iI (lo true j) ∧ stv 208 j = iI (hi true j)) ∧ (∀ j, j < nL false → stv 202 j = (ltr false).getD j 0) ∧ (∀ j, j < nL false → stv 203 j = iI (lo false j) ∧ stv 204 j = iI (hi false j)) ∧ (∀ j, j < 7 → stv 205 j = iI (dfR j)) ∧ ∀ j, j < 4 → stv 209 j = iI (dfU j) := by decide
theorem s_clause {T : TP} {p a : Nat} {hr : Bool} {μ : MU} {σ : wS} {Q : Int32 → wS → Prop} (hT : tpk T) (hC : cT T σ) (hp : p = 4 ∨ p = 11) (hμ : muP μ) (hM : MoP μ p σ) (ha : a ≤ T.1) (h3 : σ.1 3 1 = nI a) (h33 : σ.1 3 3 = tI hr)
    (hU0 : chr T (sk T a) = 115 ∧ hr = false → (itm T true 5 (sk T a + 1) 0 μ.2.2).2 = none → ∀ τ, FP p σ τ → τ.1 3 1 = nI (itm T true 5 (sk T a + 1) 0 μ.2.2).1 → Q 0 τ)
    (hU1 : chr T (sk T a) = 115 ∧ hr = false → ∀ v, (itm T true 5 (sk T a + 1) 0 μ.2.2).2 = some v → ∀ τ, FP p σ τ → τ.1 3 1 = nI (itm T true 5 (sk T a + 1) 0 μ.2.2).1 → τ.1 3 3 = tI true → MoP (setU μ v) p τ → Q 1 τ)
    (hR0 : ¬ (chr T (sk T a) = 115 ∧ hr = false) → (chr T (sk T a) = 114 ∧ μ.1 < 8) → (itm T false 8 (sk T a + 1) 0 dfR).2 = none → ∀ τ, FP p σ τ → τ.1 3 1 = nI (itm T false 8 (sk T a + 1) 0 dfR).1 → Q 0 τ)
    (hR1 : ¬ (chr T (sk T a) = 115 ∧ hr = false) → (chr T (sk T a) = 114 ∧ μ.1 < 8) → ∀ v, (itm T false 8 (sk T a + 1) 0 dfR).2 = some v → ∀ τ, FP p σ τ → τ.1 3 1 = nI (itm T false 8 (sk T a + 1) 0 dfR).1 → τ.1 3 3 = tI hr → MoP (addR μ v) p τ → Q 1 τ)
    (hN : ¬ (chr T (sk T a) = 115 ∧ hr = false) → ¬ (chr T (sk T a) = 114 ∧ μ.1 < 8) → ∀ τ, FP p σ τ → τ.1 3 1 = nI (sk T a) → Q 0 τ) : w_X7_readClause p σ Q := by
  have h240 := hT.1
  have h8 := hμ.1
  have hs := (sk_ok ha).2.1
  have l1 : ln (p + 1) = 4 := by rcases hp with q | q <;> subst q <;> rfl
  have l2 : ln (p + 2) = 56 := by rcases hp with q | q <;> subst q <;> rfl
  refine s_look hT hC ha h3 (fun s3 K3 e3 => ?_)
  have C3 := K3.cT hC
  have M3 := hM.rk (by omega) K3
  have rest : ¬ (chr T (sk T a) = 115 ∧ hr = false) → b_X7_readClause_56 p Q (chr T (sk T a)) s3 := by
    intro hn
    unfold b_X7_readClause_56
    have e8 : ((8 : Int32) ≤ s3.1 p 6) ↔ 8 ≤ μ.1 := by rw [M3.1]; exact nI_leI (a := 8) (by decide) (by omega)
    rw [e8]
    refine ⟨fun n => hN hn (fun q => n q.1) s3 (FP.rf.rk K3) e3, fun y => ⟨fun n => hN hn (fun q => by omega) s3 (FP.rf.rk K3) e3, fun n s1 e1 => ?_⟩⟩
    have hlt : sk T a < T.1 := chr_in (by rw [y]; decide)
    have hc : chr T (sk T a) = 114 ∧ μ.1 < 8 := ⟨y, by omega⟩
    have x6 : s1.1 p 6 = nI μ.1 := by rw [e1, upI_1, if_neg (by omega)]; exact M3.1
    intro y1 ey1
    have ey1 : y1 = nI (7 * μ.1) := by rw [ey1, x6, show (7 : Int32) = nI 7 from rfl, pk_mul]; congr 1; omega
    refine ⟨⟨by decide, by rw [ey1]; exact nI_n0 (by omega), by decide, by decide, by rw [ey1, nI_clamp (by omega), c_7]; omega⟩, fun s2 es2 s4 es4 => ?_⟩
    rw [ey1, nI_clamp (by omega), c_0, c_7] at es2
    have w2 : s4.1 (p + 2) = va_cpy (stv 205) (s1.1 (p + 2)) 0 (7 * μ.1) 7 := by
      have : s4.1 (p + 2) = s2.1 (p + 2) := by rw [es4]; exact (setI_ne (show p + 2 ≠ p by omega)).1
      rw [this, es2, setI_eq.1]
    have F4 : FP p σ s4 := by rw [es4, es2, e1]; exact (((FP.rf.rk K3).up (Or.inl rfl)).set (Or.inr (by omega))).up (Or.inr (by omega))
    have x3 : s4.1 3 = s1.1 3 := by
      have a1 : s4.1 3 = s2.1 3 := by rw [es4]; exact (setI_ne (show 3 ≠ p by omega)).1
      rw [a1, es2]; exact (setI_ne (show 3 ≠ p + 2 by omega)).1
    have e4 : s4.1 3 1 = nI (sk T a + 1) := by rw [x3, e1, upI_1]; simp; rw [e3]; exact nI_1 _
    have h334 : s4.1 3 3 = tI hr := by rw [x3, e1, upI_1]; simp; rw [K3.2]; exact h33
    have V4 : vls (p + 2) (7 * μ.1) (nL false) dfR s4 := by
      intro k hk
      have hk : k < 7 := hk
      rw [w2, pk_cpy_in (by omega) (by omega), show 0 + (7 * μ.1 + k - 7 * μ.1) = k by omega]
      exact st_ru.2.2.2.2.1 k hk
    rw [ey1]
    refine s_items (rl := false) (v := dfR) hT (F4.cT (by omega) hC) rfl rfl rfl st_ru.2.2.1 st_ru.2.2.2.1 (by omega) (by rw [l2]; show _ + 7 ≤ 56; omega) (by omega) (by omega) e4 V4 (fun τ hno Kτ eτ => ⟨Or.inl rfl, ?_⟩) (fun τ v hv Kτ eτ Vτ => ⟨Or.inr rfl, ?_⟩)
    · exact hR0 hn hc hno τ (F4.rq (by omega) (by omega) Kτ) eτ
    · refine hR1 hn hc v hv τ (F4.rq (by omega) (by omega) Kτ) eτ (by rw [Kτ.2.1]; exact h334) ⟨?_, fun r hr2 k hk => ?_, fun k hk => ?_⟩
      · have a1 : s2.1 p 6 = nI μ.1 := by rw [es2, (setI_ne (show p ≠ p + 2 by omega)).1]; exact x6
        rw [Kτ.1 p (by omega) (by omega), es4, upI_1]; simp; rw [a1, nI_1]; rfl
      · have hr2 : r < μ.1 + 1 := hr2
        show τ.1 (p + 2) (7 * r + k) = iI ((if r = μ.1 then v else μ.2.1 r) k)
        by_cases q : r = μ.1
        · rw [if_pos q, q]; exact Vτ k hk
        · rw [if_neg q, Kτ.2.2 (7 * r + k) (Or.inl (by omega)), w2, pk_cpy_out (Or.inl (by omega))]
          have : s1.1 (p + 2) = s3.1 (p + 2) := by rw [e1]; exact (setI_ne (show p + 2 ≠ 3 by omega)).1
          rw [this]
          exact M3.2.1 r (by omega) k hk
      · have a1 : s4.1 (p + 1) = s3.1 (p + 1) := by
          have b1 : s4.1 (p + 1) = s2.1 (p + 1) := by rw [es4]; exact (setI_ne (show p + 1 ≠ p by omega)).1
          have b2 : s2.1 (p + 1) = s1.1 (p + 1) := by rw [es2]; exact (setI_ne (show p + 1 ≠ p + 2 by omega)).1
          have b3 : s1.1 (p + 1) = s3.1 (p + 1) := by rw [e1]; exact (setI_ne (show p + 1 ≠ 3 by omega)).1
          rw [b1, b2, b3]
        rw [Kτ.1 (p + 1) (by omega) (by omega), a1]
        exact M3.2.2 k hk
  refine ⟨fun n => rest (fun q => n q.1), fun y => ?_⟩
  have e33 : s3.1 3 3 = tI hr := by rw [K3.2]; exact h33
  rw [e33]
  refine ⟨fun n => rest (fun q => n (by rw [q.2]; rfl)), fun z s5 e5 s6 e6 => ?_⟩
  have hh : hr = false := by cases hr; rfl; exact absurd z (by decide)
  have hlt : sk T a < T.1 := chr_in (by rw [y]; decide)
  have F6 : FP p σ s6 := by rw [e6, e5]; exact ((FP.rf.rk K3).up (Or.inl rfl)).up (Or.inl rfl)
  have e61 : s6.1 3 1 = nI (sk T a + 1) := by rw [e6, upI_1]; simp; rw [e5, upI_1]; simp; rw [e3]; exact nI_1 _
  have e63 : s6.1 3 3 = tI true := by rw [e6, upI_1]; simp
  have M6 : MoP μ p s6 := by
    have : ∀ i, i ≠ 3 → s6.1 i = s3.1 i := fun i hi => by rw [e6, e5]; show (setI (setI s3 3 _) 3 _).1 i = _; rw [(setI_ne hi).1, (setI_ne hi).1]
    exact M3.mv (this p (by omega)) (this (p + 1) (by omega)) (this (p + 2) (by omega))
  refine s_items (rl := true) (fst := 0) (v := μ.2.2) hT (F6.cT (by omega) hC) rfl rfl rfl st_ru.1 st_ru.2.1 (by omega) (by rw [l1]; decide) (by omega) (by omega) e61 (fun k hk => by rw [Nat.zero_add]; exact M6.2.2 k hk) (fun τ hno Kτ eτ => ⟨Or.inl rfl, ?_⟩) (fun τ v hv Kτ eτ Vτ => ⟨Or.inr rfl, ?_⟩)
  · exact hU0 ⟨y, hh⟩ hno τ (F6.rq (by omega) (by omega) Kτ) eτ
  · refine hU1 ⟨y, hh⟩ v hv τ (F6.rq (by omega) (by omega) Kτ) eτ (by rw [Kτ.2.1]; exact e63) ⟨?_, fun r hr2 k hk => ?_, fun k hk => ?_⟩
    · rw [Kτ.1 p (by omega) (by omega)]; exact M6.1
    · rw [Kτ.1 (p + 2) (by omega) (by omega)]; exact M6.2.1 r hr2 k hk
    · have := Vτ k hk
      rw [Nat.zero_add] at this
      exact this
