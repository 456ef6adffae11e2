theorem s_item {μ : MU} {p r k : Nat} {σ : wS} {Q : Int32 → wS → Prop} (h8 : μ.1 ≤ 8) (hr : r < μ.1) (hk : k < 7) (hM : MoP μ p σ) (hq : Q (iI (μ.2.1 r k)) σ) : w_X5_itemOf p (nI r) (nI k) σ Q := by
  unfold w_X5_itemOf
  rw [show (7 : Int32) = nI 7 from rfl, pk_mul, nI_add, nI_clamp (by omega), hM.2.1 r hr k hk]
  exact ⟨vp_in_nI (by omega) (by decide), hq⟩
theorem rg_b {μ : MU} (hμ : muP μ) {r k : Nat} (hr : r < μ.1) (hk : k < 7) : (μ.2.1 r k).natAbs ≤ 999 := by
  have h1 := hμ.2.1 r hr k hk
  have h2 := lo_b false (k := k) hk
  omega
theorem s_whole {μ : MU} {p : Nat} {σ : wS} {Q : Int32 → wS → Prop} (hμ : muP μ) (hM : MoP μ p σ) (hq : Q (tI (whole μ)) σ) : w_X5_isWhole p σ Q := by
  have h8 := hμ.1
  have key : ∀ (f m : Nat), m + f = μ.1 + 1 → m ≤ μ.1 → (∀ r, r < m → ¬ (μ.2.1 r 3 = 0 ∧ μ.2.1 r 4 = 0)) → l_X5_isWhole_2 p Q f (nI m) σ := by
    intro f
    induction f with
    | zero => intro m h1 h2; exfalso; omega
    | succ f ih =>
      intro m h1 h2 hz
      have e0 : (nI μ.1 ≤ 0) ↔ μ.1 ≤ 0 := nI_leI (b := 0) (by omega) (by decide)
      rw [l_X5_isWhole_2, hM.1, nI_leI (by omega) (by omega), e0]
      refine ⟨fun q => ⟨fun z => ?_, fun z => ?_⟩, fun q => ?_⟩
      · have : whole μ = false := by unfold whole; rw [decide_eq_false (fun q => by omega)]
        rw [this] at hq; exact hq
      · have : whole μ = true := by unfold whole; rw [decide_eq_true ⟨by omega, fun r hr => hz r (by omega)⟩]
        rw [this] at hq; exact hq
      · have hm : m < μ.1 := by omega
        have b3 := rg_b hμ hm (show 3 < 7 by decide)
        have b4 := rg_b hμ hm (show 4 < 7 by decide)
        have z3 : iI (μ.2.1 m 3) = 0 ↔ μ.2.1 m 3 = 0 := by rw [show (0 : Int32) = iI 0 by decide, iI_eq (by omega) (by decide)]
        have z4 : iI (μ.2.1 m 4) = 0 ↔ μ.2.1 m 4 = 0 := by rw [show (0 : Int32) = iI 0 by decide, iI_eq (by omega) (by decide)]
        have nxt : ¬ (μ.2.1 m 3 = 0 ∧ μ.2.1 m 4 = 0) → b_X5_isWhole_30 p (fun x1 σ => l_X5_isWhole_2 p Q f x1 σ) Q (nI m) σ := by
          intro hn y1 e1
          rw [e1, nI_1]
          refine ih (m + 1) (by omega) (by omega) (fun r hr => ?_)
          by_cases q2 : r = m
          · rw [q2]; exact hn
          · exact hz r (by omega)
        refine s_item (k := 3) h8 hm (by decide) hM ?_
        rw [z3]
        refine ⟨fun n => nxt (fun q => n q.1), fun y => s_item (k := 4) h8 hm (by decide) hM ?_⟩
        rw [z4]
        refine ⟨fun n => nxt (fun q => n q.2), fun y4 => ?_⟩
        have : whole μ = false := by unfold whole; rw [decide_eq_false (fun q => q.2 m hm ⟨y, y4⟩)]
        rw [this] at hq; exact hq
  exact ⟨μ.1 + 1, key (μ.1 + 1) 0 (by omega) (by omega) (fun r hr => absurd hr (Nat.not_lt_zero r))⟩
theorem vnb (b : Bool) : vp_nar .boolean (tI b) = tI b := by cases b <;> decide
theorem s_measR {μ : MU} {p : Nat} {σ0 : wS} {Q : wS → Prop} (hμ : muP μ) (hp : p = 4 ∨ p = 11) (hq : ∀ τ : wS, FP p σ0 τ → MoC μ p τ → Q τ) : ∀ (f m : Nat) (σ : wS), m + f = μ.1 + 1 → m ≤ μ.1 → FP p σ0 σ → MoP μ p σ → (∀ a, a < 3 → σ.1 (p + 6) a = if mu_f μ a then 1 else 0) → (∀ r, r < m → ∀ a, a < 3 → σ.1 (p + 3) (3 * r + a) = iI (mu_w μ r a)) → (∀ r, r < m → σ.1 (p + 4) r = iI (mu_k μ r) ∧ σ.1 (p + 5) r = iI (mu_t μ r)) → l_X5_measure_39 p Q f (nI m) σ := by
  have h8 := hμ.1
  intro f
  induction f with
  | zero => intro m σ h1 h2; exfalso; omega
  | succ f ih =>
    intro m σ h1 h2 F1 M1 f6 w3 kt
    rw [l_X5_measure_39, M1.1, nI_leI (by omega) (by omega)]
    refine ⟨fun q => ?_, fun q => ?_⟩
    · have : m = μ.1 := by omega
      subst this
      exact hq σ F1 ⟨M1.1, M1.2.1, M1.2.2, w3, kt, f6⟩
    · have hm : m < μ.1 := by omega
      obtain ⟨x1, x2, x3, x4, x5, x6, x7, x8⟩ := ix3 (show m < 8 by omega)
      refine s_item (k := 3) h8 hm (by decide) M1 (s_item (k := 4) h8 hm (by decide) M1 ⟨x4, fun s5 e5 => ⟨x5, fun s6 e6 => ?_⟩⟩)
      rw [x1] at e5
      rw [x2] at e6
      have P6 : ∀ i, i ≠ p + 3 → s6.1 i = σ.1 i := fun i hi => by rw [e6, e5]; show (setI (setI σ (p + 3) _) (p + 3) _).1 i = _; rw [(setI_ne hi).1, (setI_ne hi).1]
      have M6 : MoP μ p s6 := M1.mv (P6 p (by omega)) (P6 (p + 1) (by omega)) (P6 (p + 2) (by omega))
      refine s_item (k := 1) h8 hm (by decide) M6 (s_item (k := 2) h8 hm (by decide) M6 ⟨x6, fun s11 e11 => ?_⟩)
      rw [x3] at e11
      have P11 : ∀ i, i ≠ p + 3 → s11.1 i = σ.1 i := fun i hi => by rw [e11]; show (setI s6 (p + 3) _).1 i = _; rw [(setI_ne hi).1]; exact P6 i hi
      have M11 : MoP μ p s11 := M1.mv (P11 p (by omega)) (P11 (p + 1) (by omega)) (P11 (p + 2) (by omega))
      refine s_item (k := 0) h8 hm (by decide) M11 ⟨x7, fun s14 e14 => ?_⟩
      rw [x8] at e14
      have P14 : ∀ i, i ≠ p + 3 → i ≠ p + 4 → s14.1 i = σ.1 i := fun i hi h4 => by rw [e14]; show (setI s11 (p + 4) _).1 i = _; rw [(setI_ne h4).1]; exact P11 i hi
      have M14 : MoP μ p s14 := M1.mv (P14 p (by omega) (by omega)) (P14 (p + 1) (by omega) (by omega)) (P14 (p + 2) (by omega) (by omega))
      refine s_item (k := 6) h8 hm (by decide) M14 ⟨x7, fun s17 e17 y18 e18 => ?_⟩
      rw [x8] at e17
      have P17 : ∀ i, i ≠ p + 3 → i ≠ p + 4 → i ≠ p + 5 → s17.1 i = σ.1 i := fun i hi h4 h5 => by rw [e17]; show (setI s14 (p + 5) _).1 i = _; rw [(setI_ne h5).1]; exact P14 i hi h4
      have M17 : MoP μ p s17 := M1.mv (P17 p (by omega) (by omega) (by omega)) (P17 (p + 1) (by omega) (by omega) (by omega)) (P17 (p + 2) (by omega) (by omega) (by omega))
      rw [e18, nI_1]
      refine ih (m + 1) s17 (by omega) (by omega) (fun i a b => ?_) M17 (fun a ha => ?_) (fun r hr a ha => ?_) (fun r hr => ?_)
      · rw [P17 i (by omega) (by omega) (by omega)]; exact F1 i a b
      · rw [P17 (p + 6) (by omega) (by omega) (by omega)]; exact f6 a ha
      · have v3 : s17.1 (p + 3) = s11.1 (p + 3) := by
          have a1 : s17.1 (p + 3) = s14.1 (p + 3) := by rw [e17]; exact (setI_ne (show p + 3 ≠ p + 5 by omega)).1
          have a2 : s14.1 (p + 3) = s11.1 (p + 3) := by rw [e14]; exact (setI_ne (show p + 3 ≠ p + 4 by omega)).1
          rw [a1, a2]
        rw [v3, e11, upI_1, e6, upI_1, e5, upI_1]
        by_cases q2 : r = m
        · subst q2
          rcases (show a = 0 ∨ a = 1 ∨ a = 2 by omega) with rfl | rfl | rfl
          · rw [if_neg (by omega), if_neg (by omega), if_pos ⟨rfl, by omega⟩]; rfl
          · rw [if_neg (by omega), if_pos ⟨rfl, by omega⟩]; rfl
          · rw [if_pos ⟨rfl, by omega⟩, iI_mul, iI_mul, iI_sub]; rfl
        · rw [if_neg (by omega), if_neg (by omega), if_neg (by omega)]
          exact w3 r (by omega) a ha
      · have v4 : s17.1 (p + 4) = s14.1 (p + 4) := by rw [e17]; exact (setI_ne (show p + 4 ≠ p + 5 by omega)).1
        rw [v4, e14, upI_1, e17, upI_1]
        by_cases q2 : r = m
        · subst q2
          rw [if_pos ⟨rfl, rfl⟩, if_pos ⟨rfl, rfl⟩]; exact ⟨rfl, rfl⟩
        · rw [if_neg (by omega), if_neg (by omega), P11 (p + 4) (by omega)]
          refine ⟨(kt r (by omega)).1, ?_⟩
          rw [P14 (p + 5) (by omega) (by omega)]; exact (kt r (by omega)).2
theorem s_measure {μ : MU} {p : Nat} {σ : wS} {Q : wS → Prop} (hμ : muP μ) (hp : p = 4 ∨ p = 11) (hM : MoP μ p σ) (hq : ∀ τ : wS, FP p σ τ → MoC μ p τ → Q τ) : w_X5_measure p σ Q := by
  have h8 := hμ.1
  have u0 := (muP_ok hμ).2.2
  have l6 : ln (p + 6) = 3 := by rcases hp with q | q <;> subst q <;> rfl
  have key : ∀ (f a : Nat) (τ : wS), a + f = 4 → a ≤ 3 → FP p σ τ → MoP μ p τ → (∀ b, b < a → τ.1 (p + 6) b = if mu_f μ b then 1 else 0) → l_X5_measure_2 p Q f (nI a) τ := by
    intro f
    induction f with
    | zero => intro a τ h1 h2; exfalso; omega
    | succ f ih =>
      intro a τ h1 h2 F1 M1 hb
      have e3 : ((3 : Int32) ≤ nI a) ↔ 3 ≤ a := nI_leI (a := 3) (by decide) (by omega)
      rw [l_X5_measure_2, e3]
      refine ⟨fun q => ⟨μ.1 + 1, ?_⟩, fun q => ?_⟩
      · exact s_measR hμ hp hq (μ.1 + 1) 0 τ (by omega) (by omega) F1 M1 (fun b hb2 => hb b (by omega)) (fun r hr => absurd hr (Nat.not_lt_zero r)) (fun r hr => absurd hr (Nat.not_lt_zero r))
      · have er : τ.1 (p + 1) (0 : Int32).toNatClampNeg = nI (μ.2.2 0).toNat := by
          rw [c_0, M1.2.2 0 (by decide), iI_n]; congr 1; omega
        rw [er, bt8 (by omega) (by omega)]
        have st : b_X5_measure_30 p (fun x1 σ => l_X5_measure_2 p Q f x1 σ) Q (nI a) (tI (mu_f μ a)) (nI a) (p + 6) τ := by
          refine ⟨by rw [l6]; exact vp_in_nI (by omega) (by decide), fun s1 e1 y2 e2 => ?_⟩
          rw [vnb, nI_clamp (by omega)] at e1
          have P1 : ∀ i, i ≠ p + 6 → s1.1 i = τ.1 i := fun i hi => by rw [e1]; exact (setI_ne hi).1
          rw [e2, nI_1]
          refine ih (a + 1) s1 (by omega) (by omega) (by rw [e1]; exact F1.up (Or.inr (by omega))) (M1.mv (P1 p (by omega)) (P1 (p + 1) (by omega)) (P1 (p + 2) (by omega))) (fun b hb2 => ?_)
          rw [e1, upI_1]
          by_cases q2 : b = a
          · rw [if_pos ⟨rfl, q2⟩, q2]
          · rw [if_neg (by omega)]; exact hb b (by omega)
        have hf : mu_f μ a = (μ.2.2 0).toNat.testBit a := rfl
        rw [hf] at st
        cases hb2 : (μ.2.2 0).toNat.testBit a
        · rw [hb2] at st
          exact ⟨fun _ => st, fun n => absurd rfl n⟩
        · rw [hb2] at st
          exact ⟨fun n => absurd n (by decide), fun _ => st⟩
  exact ⟨4, key 4 0 σ (by decide) (by decide) FP.rf hM (fun b hb => absurd hb (Nat.not_lt_zero b))⟩
def mu0 : MU := (0, fun _ _ => 0, dfU)
theorem muP_0 : muP mu0 := ⟨by decide, fun r hr => absurd hr (Nat.not_lt_zero r), rgo_d.2⟩
/-- how many clauses there can still be -/
def clN (hr : Bool) (μ : MU) : Nat := (if hr then 0 else 1) + (8 - μ.1)
theorem s_moorL {T : TP} {p : Nat} {σ0 : wS} {Q : Int32 → wS → Prop} {res : Nat × Option MU} (hT : tpk T) (hC : cT T σ0) (hp : p = 4 ∨ p = 11) (hq0 : res.2 = none → ∀ τ : wS, FP p σ0 τ → Q (nI res.1) τ) (hq1 : ∀ μ, res.2 = some μ → ∀ τ : wS, FP p σ0 τ → MoC μ p τ → Q (-1) τ) : ∀ (f c a : Nat) (hr : Bool) (μ : MU) (σ : wS), c + f ≤ 20 → clN hr μ < f → a ≤ T.1 → muP μ → FP p σ0 σ → MoP μ p σ → σ.1 3 1 = nI a → σ.1 3 3 = tI hr → cls T f a hr μ = res → l_X7_readMooring_16 p Q (f + 1) (nI c) σ := by
  have h240 := hT.1
  intro f
  induction f with
  | zero => intro c a hr μ σ h1 h2; exfalso; omega
  | succ f ih =>
    intro c a hr μ σ h1 h2 ha hμ F1 M1 e1 e33 he
    have C1 := F1.cT (by omega) hC
    have e240 : ((240 : Int32) ≤ nI c) ↔ 240 ≤ c := nI_leI (a := 240) (by decide) (by omega)
    rw [l_X7_readMooring_16, e240]
    refine ⟨fun q => by omega, fun _ => ?_⟩
    rw [cls] at he
    have hs := (sk_ok ha).2.1
    -- behind a clause that is whole
    have nxt : ∀ (a2 : Nat) (hr2 : Bool) (μ2 : MU) (τ : wS), a2 ≤ T.1 → (chr T a2 = -1 ∨ chr T a2 = 59) → muP μ2 → clN hr2 μ2 < f → FP p σ τ → τ.1 3 1 = nI a2 → τ.1 3 3 = tI hr2 → MoP μ2 p τ → clE T a2 μ2 (cls T f (a2 + 1) hr2 μ2) = res → w_X7_skipBlanks τ (fun s3 => w_X7_sign s3 (fun r6 s5 => (¬ r6 = (-1 : Int32) → (∀ s7 : wS, s7 = upI s5 3 1 ((s5.1 3 1) + (1 : Int32)) → (∀ y8 : Int32, y8 = (nI c + (1 : Int32)) → (l_X7_readMooring_16 p Q (f + 1) y8 s7)))) ∧ (r6 = (-1 : Int32) → (w_X7_finish p s5 (fun r10 s9 => Q r10 s9))))) := by
      intro a2 hr2 μ2 τ ha2 hch hμ2 hcl Fτ eτ e3τ Mτ he2
      have n32 : ¬ chr T a2 = 32 := by rcases hch with q | q <;> rw [q] <;> decide
      refine s_look hT (Fτ.cT (by omega) C1) ha2 eτ (fun s5 K5 e5 => ?_)
      rw [sk_id n32] at e5 ⊢
      have F5 : FP p σ0 s5 := (F1.tr Fτ).rk K5
      have M5 := Mτ.rk (by omega) K5
      unfold clE at he2
      refine ⟨fun n s7 e7 y8 e8 => ?_, fun y => ?_⟩
      · rw [if_neg n] at he2
        have hlt := chr_in n
        rw [e8, nI_1]
        have K7 : RK s5 s7 := by rw [e7]; exact RK.rf.up (by decide)
        refine ih (c + 1) (a2 + 1) hr2 μ2 s7 (by omega) hcl (by omega) hμ2 (F5.rk K7) (M5.rk (by omega) K7) (by rw [e7, upI_1]; simp; rw [e5]; exact nI_1 _) (by rw [K7.2, K5.2]; exact e3τ) he2
      · rw [if_pos y] at he2
        refine s_whole hμ2 M5 ?_
        cases hw : whole μ2
        · rw [hw] at he2
          refine ⟨fun n => absurd rfl n, fun _ => ?_⟩
          rw [e5]
          have := hq0 (by rw [← he2]; rfl) s5 F5
          rw [← he2] at this
          exact this
        · rw [hw] at he2
          refine ⟨fun _ => s_measure hμ2 hp M5 (fun s9 F9 M9 => ?_), fun n => absurd n (by decide)⟩
          exact hq1 μ2 (by rw [← he2]; rfl) s9 (F5.tr F9) M9
    refine s_clause hT C1 hp hμ M1 ha e1 e33 (fun hc hno τ Fτ eτ => ?_) (fun hc v hv τ Fτ eτ e3τ Mτ => ?_) (fun hn hc hno τ Fτ eτ => ?_) (fun hn hc v hv τ Fτ eτ e3τ Mτ => ?_) (fun hn hn2 τ Fτ eτ => ?_)
    · rw [if_pos hc, hno] at he
      refine ⟨fun n => absurd rfl n, fun _ => ?_⟩
      rw [eτ]
      have := hq0 (by rw [← he]) τ (F1.tr Fτ)
      rw [← he] at this
      exact this
    · rw [if_pos hc, hv] at he
      have hlt : sk T a < T.1 := chr_in (by rw [hc.1]; decide)
      obtain ⟨i1, i2⟩ := itm_ok hT (rl := true) 5 (sk T a + 1) 0 μ.2.2 (by omega) hμ.2.2
      obtain ⟨j1, j2⟩ := i2 v hv
      refine ⟨fun _ => ?_, fun n => absurd n (by decide)⟩
      refine nxt _ true (setU μ v) τ i1 j2 (muP_U hμ j1) ?_ Fτ eτ e3τ Mτ he
      have h2 : clN hr μ < f + 1 := h2
      unfold clN at h2 ⊢
      rw [hc.2] at h2
      simp only [Bool.false_eq_true, if_false] at h2
      show 0 + (8 - μ.1) < f
      omega
    · rw [if_neg hn, if_pos hc, hno] at he
      refine ⟨fun n => absurd rfl n, fun _ => ?_⟩
      rw [eτ]
      have := hq0 (by rw [← he]) τ (F1.tr Fτ)
      rw [← he] at this
      exact this
    · rw [if_neg hn, if_pos hc, hv] at he
      have hlt : sk T a < T.1 := chr_in (by rw [hc.1]; decide)
      obtain ⟨i1, i2⟩ := itm_ok hT (rl := false) 8 (sk T a + 1) 0 dfR (by omega) rgo_d.1
      obtain ⟨j1, j2⟩ := i2 v hv
      refine ⟨fun _ => ?_, fun n => absurd n (by decide)⟩
      refine nxt _ hr (addR μ v) τ i1 j2 (muP_R hμ hc.2 j1) ?_ Fτ eτ e3τ Mτ he
      have h2 : clN hr μ < f + 1 := h2
      unfold clN at h2 ⊢
      show (if hr then 0 else 1) + (8 - (μ.1 + 1)) < f
      omega
    · rw [if_neg hn, if_neg hn2] at he
      refine ⟨fun n => absurd rfl n, fun _ => ?_⟩
      rw [eτ]
      have := hq0 (by rw [← he]) τ (F1.tr Fτ)
      rw [← he] at this
      exact this
def rdMo (T : TP) : Nat × Option MU := cls T 10 0 false mu0
theorem s_readMo {T : TP} {p : Nat} {σ : wS} {Q : Int32 → wS → Prop} (hT : tpk T) (hC : cT T σ) (hp : p = 4 ∨ p = 11) (hq0 : (rdMo T).2 = none → ∀ τ : wS, FP p σ τ → Q (nI (rdMo T).1) τ) (hq1 : ∀ μ, (rdMo T).2 = some μ → ∀ τ : wS, FP p σ τ → MoC μ p τ → Q (-1) τ) : w_X7_readMooring p σ Q := by
  intro s1 e1 s2 e2 s3 e3
  refine ⟨by decide, fun s4 e4 => ⟨11, ?_⟩⟩
  rw [c_0, c_4] at e4
  have F4 : FP p σ s4 := by rw [e4, e3, e2, e1]; exact (((FP.rf.up (Or.inl rfl)).up (Or.inl rfl)).up (Or.inr (by omega))).set (Or.inr (by omega))
  have x3 : s4.1 3 = s2.1 3 := by
    have a1 : s4.1 3 = s3.1 3 := by rw [e4]; exact (setI_ne (show 3 ≠ p + 1 by omega)).1
    rw [a1, e3]; exact (setI_ne (show 3 ≠ p by omega)).1
  refine s_moorL (res := rdMo T) hT hC hp hq0 hq1 10 0 0 false mu0 s4 (by decide) (by decide) (Nat.zero_le _) muP_0 F4 ⟨?_, fun r hr => absurd hr (Nat.not_lt_zero r), fun k hk => ?_⟩ ?_ ?_ rfl
  · have : s4.1 p = s3.1 p := by rw [e4]; exact (setI_ne (show p ≠ p + 1 by omega)).1
    rw [this, e3, upI_1]; simp; rfl
  · rw [e4, setI_eq.1, pk_cpy_in (by omega) (by omega), show 0 + (k - 0) = k by omega]
    exact st_ru.2.2.2.2.2 k hk
  · rw [x3, e2, upI_1]; simp; rw [e1, upI_1]; simp; rfl
  · rw [x3, e2, upI_1]; simp
