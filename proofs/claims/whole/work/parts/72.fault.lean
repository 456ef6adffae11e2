/-! fault -/
theorem gok.tp {γ : GS} {bd : Nat} (h : gok γ bd) : tpk γ.1 := h.1
def rV {α : Type} (r : Nat × Option α) : Int32 := match r.2 with
  | none => nI r.1
  | some _ => -1
theorem spare {γ : GS} {σ : wS} (hC : C γ σ) : (mo (σ.1 0 2) = 4 ∧ mo (σ.1 0 3) = 11) ∨ (mo (σ.1 0 2) = 11 ∧ mo (σ.1 0 3) = 4) := by
  rcases hC.2.1.1 with ⟨a, b⟩ | ⟨a, b⟩ <;> rw [a, b]
  · exact Or.inl ⟨rfl, rfl⟩
  · exact Or.inr ⟨rfl, rfl⟩
theorem C.fp {γ : GS} {bd : Nat} {σ τ : wS} (hg : gok γ bd) (h : C γ σ) (hf : FP (mo (σ.1 0 3)) σ τ) : C γ τ := by
  have hsp := spare h
  obtain ⟨a1, a2, a3, a4, a5, a6, a7, a8⟩ := h
  have ef : ∀ i, i ≠ 3 → (i < 4 ∨ 17 < i) → τ.1 i = σ.1 i := fun i h1 h2 => hf i h1 (by omega)
  have b7 : cS γ.2.2.2.2.2.1 τ := a7.mv hg.2.2.1.1 (by rw [ef 0 (by decide) (by decide)]) (fun i h1 h2 => ef i (by omega) (by omega))
  refine ⟨a1.mv (ef 1 (by decide) (by decide)) (ef 2 (by decide) (by decide)), ?_, a3.mv (fun j h1 h2 => ef j (by omega) (by omega)), a4.mv (ef 50 (by decide) (by decide)) (fun i h1 h2 => ef i (by omega) (by omega)), a5.mv (ef 49 (by decide) (by decide)), a6.mv (by rw [ef 0 (by decide) (by decide)]) (fun i h1 h2 => ef i (by omega) (by omega)) (ef 55 (by decide) (by decide)), b7, a8.mv (ef 52 (by decide) (by decide)) (ef 53 (by decide) (by decide)) (ef 54 (by decide) (by decide))⟩
  unfold cM at a2 ⊢
  rw [ef 0 (by decide) (by decide)]
  exact ⟨a2.1, a2.2.mv (fun i h1 h2 => hf i (by omega) (by omega))⟩
theorem FP.c {p : Nat} {σ τ : wS} (h : FP p σ τ) (hp : p + 6 < 176) : Fcm σ τ := fun i hi => h i (by omega) (by omega)
theorem C.fs {γ : GS} {bd : Nat} {σ τ : wS} (hg : gok γ bd) (h : C γ σ) (hf : FS (19 + 2 * γ.2.2.2.2.2.1.length) 0 σ τ) : C γ τ := by
  have h4 := hg.2.2.1.1
  obtain ⟨a1, a2, a3, a4, a5, a6, a7, a8⟩ := h
  have ef : ∀ i, i ≠ 3 → (i < 19 ∨ 29 ≤ i) → τ.1 i = σ.1 i := fun i h1 h2 => hf.1 i h1 (by omega) (by omega)
  have b7 : cS γ.2.2.2.2.2.1 τ := a7.mv hg.2.2.1.1 (by rw [ef 0 (by decide) (by decide)]) (fun i h1 h2 => hf.1 i (by omega) (by omega) (by omega))
  exact ⟨a1.mv (ef 1 (by decide) (by decide)) (ef 2 (by decide) (by decide)), a2.mv (by rw [ef 0 (by decide) (by decide)]; exact ⟨rfl, rfl⟩) (fun i h1 h2 => ef i (by omega) (by omega)), a3.mv (fun j h1 h2 => ef j (by omega) (by omega)), a4.mv (ef 50 (by decide) (by decide)) (fun i h1 h2 => ef i (by omega) (by omega)), a5.mv (ef 49 (by decide) (by decide)), a6.mv (by rw [ef 0 (by decide) (by decide)]) (fun i h1 h2 => ef i (by omega) (by omega)) (ef 55 (by decide) (by decide)), b7, a8.mv (ef 52 (by decide) (by decide)) (ef 53 (by decide) (by decide)) (ef 54 (by decide) (by decide))⟩
theorem FS.c {p m : Nat} {σ τ : wS} (h : FS p m σ τ) (hp : p + 1 < 176) : Fcm σ τ := fun i hi => h.1 i (by omega) (by omega) (by omega)
theorem D.fm {γ : GS} {σ τ : wS} (h : D γ σ) (hf : FM σ τ) : D γ τ := h.mv (fun i hi => hf.1 i (by revert i; decide) (by revert i; decide) (by revert i; decide)) (fun k hk => hf.2 k (by revert k; decide) (by revert k; decide) (by revert k; decide) (by revert k; decide))
theorem FM.d {σ τ : wS} (h : FM σ τ) : Fdm σ τ := fun i hi => h.1 i (by omega) (by omega) (by omega)
theorem FN.d {b : Nat} {σ τ : wS} (h : FN b σ τ) : Fdm σ τ := fun i hi => h.1 i (by omega) (by omega) (by omega)
theorem D.fn {γ : GS} {bd : Nat} {σ τ : wS} (hg : gok γ bd) (h : D γ σ) (hf : FN 256 σ τ) : D γ τ := by
  obtain ⟨a1, a2, a3, a4, a5, a6, a7⟩ := h
  have ef : ∀ i, i ≠ 176 → i ≠ 183 → i ≠ 184 → τ.1 i = σ.1 i := hf.1
  have ek : ∀ k, k ≠ 3 → k ≠ 4 → τ.1 176 k = σ.1 176 k := hf.2.1
  refine ⟨?_, a2.mv (ek 14 (by decide) (by decide)) (ef 181 (by decide) (by decide) (by decide)) (ef 179 (by decide) (by decide) (by decide)) (ef 182 (by decide) (by decide) (by decide)), by rw [ef 188 (by decide) (by decide) (by decide)]; exact a3, a4.mv (ek 23 (by decide) (by decide)) (ek 24 (by decide) (by decide)) (ef 191 (by decide) (by decide) (by decide)), a5.mv (ek 25 (by decide) (by decide)) (ef 190 (by decide) (by decide) (by decide)), ⟨by rw [ek 15 (by decide) (by decide)]; exact a6.1, fun s L hs => ?_⟩, ?_⟩
  · unfold dT at a1 ⊢; rw [ek 2 (by decide) (by decide), ef 177 (by decide) (by decide) (by decide)]; exact a1
  · obtain ⟨b1, b2, b3, b4⟩ := hg.sc hs
    obtain ⟨c1, c2⟩ := a6.2 s L hs
    refine ⟨by rw [hf.2.2.2 s b1]; exact c1, fun j t hj => ?_⟩
    have hjl : j < L.length := (List.getElem?_eq_some_iff.mp hj).1
    have := c2 j t hj
    rw [hf.2.2.1 (64 * s + 4 * j) (by omega), hf.2.2.1 (64 * s + 4 * j + 1) (by omega), hf.2.2.1 (64 * s + 4 * j + 2) (by omega), hf.2.2.1 (64 * s + 4 * j + 3) (by omega)]
    exact this
  · unfold dR at a7 ⊢; rw [ek 34 (by decide) (by decide), ef 197 (by decide) (by decide) (by decide), ef 185 (by decide) (by decide) (by decide)]; exact a7
def f_fault (p : Int32) (γ : GS) : Int32 × GS := (if p = 0 then rV (rdMo γ.1) else if p = 1 then rV (rdSc γ.1) else -2, γ)
/-- the model's fault, of a mooring -/
theorem m_fault0 {γ : GS} {bd : Nat} {σ : wS} {Q : Int32 → wS → Prop} (hg : gok γ bd) (hD : D γ σ) (hq0 : (rdMo γ.1).2 = none → ∀ τ : wS, D γ τ → Fdm σ τ → Q (nI (rdMo γ.1).1) τ) (hq1 : ∀ μ, (rdMo γ.1).2 = some μ → ∀ τ : wS, D γ τ → Fdm σ τ → MoR μ τ → Q (-1) τ) : w_X12_fault 0 σ Q := by
  intro s1 e1
  have D1 : D γ s1 := by rw [e1]; exact hD.up (by decide)
  have F1 : Fdm σ s1 := by rw [e1]; exact Fdm.rf.up (by decide)
  rw [i0_1, if_pos (by decide)]
  refine ⟨fun _ s4 e4 s5 e5 => ?_, fun n => absurd n (by decide)⟩
  have D5 : D γ s5 := by rw [e5]; refine D.up ?_ (by decide); rw [e4]; exact D1.up (by decide)
  have F5 : Fdm σ s5 := by rw [e5]; refine Fdm.up ?_ (by decide); rw [e4]; exact F1.up (by decide)
  refine ⟨fun n => absurd rfl n, fun _ => ?_⟩
  refine m_readMo hg.tp D5.1 (by rw [e5, upI_1, if_neg (by omega), e4, upI_1]; simp) (by rw [e5, upI_1]; simp) (fun hno τ Fτ fτ => ?_) (fun μ hμ τ Fτ fτ Mτ => ?_)
  · unfold b_X12_fault_43
    rw [fτ]
    exact hq0 hno τ (D5.fm Fτ) (F5.tr Fτ.d)
  · unfold b_X12_fault_43
    rw [fτ]
    exact hq1 μ hμ τ (D5.fm Fτ) (F5.tr Fτ.d) Mτ
theorem m_fault1 {γ : GS} {bd : Nat} {σ : wS} {Q : Int32 → wS → Prop} (hg : gok γ bd) (hD : D γ σ) (hq0 : (rdSc γ.1).2 = none → ∀ τ : wS, D γ τ → Fdm σ τ → Q (nI (rdSc γ.1).1) τ) (hq1 : ∀ L, (rdSc γ.1).2 = some L → ∀ τ : wS, D γ τ → Fdm σ τ → τ.1 184 4 = nI L.length → scM L 256 (τ.1 183) → Q (-1) τ) : w_X12_fault 1 σ Q := by
  intro s1 e1
  have D1 : D γ s1 := by rw [e1]; exact hD.up (by decide)
  have F1 : Fdm σ s1 := by rw [e1]; exact Fdm.rf.up (by decide)
  rw [i0_1, if_pos (by decide)]
  refine ⟨fun _ s4 e4 s5 e5 => ?_, fun n => absurd n (by decide)⟩
  have D5 : D γ s5 := by rw [e5]; refine D.up ?_ (by decide); rw [e4]; exact D1.up (by decide)
  have F5 : Fdm σ s5 := by rw [e5]; refine Fdm.up ?_ (by decide); rw [e4]; exact F1.up (by decide)
  refine ⟨fun _ => ?_, fun n => absurd n (by decide)⟩
  refine m_readSc hg.tp D5.1 (by rw [e5, upI_1, if_neg (by omega), e4, upI_1]; simp) (by rw [e5, upI_1]; simp) (fun hno τ Fτ fτ => ?_) (fun L hL τ Fτ fτ nτ Mτ => ?_)
  · unfold b_X12_fault_43
    rw [fτ]
    exact hq0 hno τ (D5.fn hg Fτ) (F5.tr Fτ.d)
  · unfold b_X12_fault_43
    rw [fτ]
    exact hq1 L hL τ (D5.fn hg Fτ) (F5.tr Fτ.d) nτ Mτ
theorem rV_0 {α : Type} {r : Nat × Option α} (h : r.2 = none) : rV r = nI r.1 := by unfold rV; rw [h]
theorem rV_1 {α : Type} {r : Nat × Option α} {x : α} (h : r.2 = some x) : rV r = -1 := by unfold rV; rw [h]
theorem o_fault {bd : Nat} {σ : wS} {p : Int32} (hI : In bd σ) : w_X11_fault p σ (fun r s => w_X12_fault p s (fun r' s' => r = r' ∧ In (bd + 40) s')) := by
  refine prI (f := f_fault p) (w1 := w_X11_fault p) (w2 := w_X12_fault p) (fun γ σ Q hC hg hq => ?_) (fun γ σ Q hD hg hq => ?_) (fun γ hg => hg.wk (by omega)) hI
  · unfold f_fault at hq
    have h4 := hg.2.2.1.1
    have hsp := spare hC
    refine ⟨fun n0 => ⟨fun n1 => ?_, fun y1 => ?_⟩, fun y0 => ?_⟩
    · rw [if_neg n0, if_neg n1] at hq
      exact hq σ hC Fcm.rf
    · rw [if_neg n0, if_pos y1] at hq
      rw [hC.2.2.2.2.2.2.1.1, nI_clamp (by omega)]
      refine ⟨vp_in_nI (by omega) (by decide), ?_⟩
      refine s_readSc hg.tp hC.1 (by omega) (fun hno τ Fτ => ?_) (fun L hL τ Fτ Vτ => ?_)
      · rw [rV_0 hno] at hq
        exact hq τ (hC.fs hg Fτ) (Fτ.c (by omega))
      · rw [rV_1 hL] at hq
        exact hq τ (hC.fs hg Fτ) (Fτ.c (by omega))
    · rw [if_pos y0] at hq
      refine s_readMo hg.tp hC.1 (by omega) (fun hno τ Fτ => ?_) (fun μ hμ τ Fτ Mτ => ?_)
      · rw [rV_0 hno] at hq
        exact hq τ (hC.fp hg Fτ) (Fτ.c (by omega))
      · rw [rV_1 hμ] at hq
        exact hq τ (hC.fp hg Fτ) (Fτ.c (by omega))
  · unfold f_fault at hq
    by_cases y0 : p = 0
    · subst y0
      rw [if_pos rfl] at hq
      refine m_fault0 hg hD (fun hno τ D1 F1 => ?_) (fun μ hμ τ D1 F1 M1 => ?_)
      · rw [rV_0 hno] at hq; exact hq τ D1 F1
      · rw [rV_1 hμ] at hq; exact hq τ D1 F1
    · rw [if_neg y0] at hq
      by_cases y1 : p = 1
      · subst y1
        rw [if_pos rfl] at hq
        refine m_fault1 hg hD (fun hno τ D1 F1 => ?_) (fun L hL τ D1 F1 n1 M1 => ?_)
        · rw [rV_0 hno] at hq; exact hq τ D1 F1
        · rw [rV_1 hL] at hq; exact hq τ D1 F1
      · rw [if_neg y1] at hq
        intro s1 e1
        have D1 : D γ s1 := by rw [e1]; exact hD.up (by decide)
        have F1 : Fdm σ s1 := by rw [e1]; exact Fdm.rf.up (by decide)
        rw [i0_1, if_neg]
        · exact ⟨fun n => absurd rfl n, fun _ => hq s1 D1 F1⟩
        · intro q
          obtain ⟨k, rfl, hk, -⟩ := nn q.1
          rcases (show k = 0 ∨ k = 1 by omega) with rfl | rfl
          · exact y0 rfl
          · exact y1 rfl
/-! a script told -/
def tp0 (γ : GS) : GS := ((0, γ.1.2), γ.2)
def adS (γ : GS) (L : List ST) : GS := ((0, γ.1.2), γ.2.1, γ.2.2.1, γ.2.2.2.1, γ.2.2.2.2.1, γ.2.2.2.2.2.1 ++ [L], γ.2.2.2.2.2.2)
theorem gok_adS {γ : GS} {bd : Nat} {L : List ST} (hg : gok γ bd) (h4 : γ.2.2.2.2.2.1.length < 4) (hL : sok1 L) : gok (adS γ L) bd := by
  obtain ⟨a1, a2, a3, a4, a5, a6, a7, a8⟩ := hg
  refine ⟨⟨Nat.zero_le _, fun k hk => absurd hk (Nat.not_lt_zero k)⟩, a2, ⟨?_, fun L' h' => ?_⟩, a4, a5, a6, a7, a8⟩
  · show (γ.2.2.2.2.2.1 ++ [L]).length ≤ 4
    simp; omega
  · have h' : L' ∈ γ.2.2.2.2.2.1 ++ [L] := h'
    rcases List.mem_append.mp h' with q | q
    · exact a3.2 L' q
    · rw [List.mem_singleton.mp q]; exact hL
theorem gok_tp0 {γ : GS} {bd : Nat} (hg : gok γ bd) : gok (tp0 γ) bd := by
  obtain ⟨a1, a2, a3, a4, a5, a6, a7, a8⟩ := hg
  exact ⟨⟨Nat.zero_le _, fun k hk => absurd hk (Nat.not_lt_zero k)⟩, a2, a3, a4, a5, a6, a7, a8⟩
theorem C.tp0 {γ : GS} {bd : Nat} {σ : wS} (hg : gok γ bd) (h : C γ σ) : C (tp0 γ) (upI σ 1 1 0) := by
  obtain ⟨a1, a2, a3, a4, a5, a6, a7, a8⟩ := h
  have ef : ∀ i, i ≠ 1 → (upI σ 1 1 0).1 i = σ.1 i := fun i hi => (setI_ne hi).1
  have b7 : cS γ.2.2.2.2.2.1 (upI σ 1 1 0) := a7.mv hg.2.2.1.1 (by rw [ef 0 (by decide)]) (fun i h1 h2 => ef i (by omega))
  exact ⟨⟨by rw [upI_1]; simp; rfl, fun k hk => absurd hk (Nat.not_lt_zero k)⟩, a2.mv (by rw [ef 0 (by decide)]; exact ⟨rfl, rfl⟩) (fun i h1 h2 => ef i (by omega)), a3.mv (fun j h1 h2 => ef j (by omega)), a4.mv (ef 50 (by decide)) (fun i h1 h2 => ef i (by omega)), a5.mv (ef 49 (by decide)), a6.mv (by rw [ef 0 (by decide)]) (fun i h1 h2 => ef i (by omega)) (ef 55 (by decide)), b7, a8.mv (ef 52 (by decide)) (ef 53 (by decide)) (ef 54 (by decide))⟩
theorem D.tp0 {γ : GS} {σ : wS} (h : D γ σ) : D (tp0 γ) (upI σ 176 2 0) := by
  obtain ⟨a1, a2, a3, a4, a5, a6, a7⟩ := h
  have ef : ∀ i, i ≠ 176 → (upI σ 176 2 0).1 i = σ.1 i := fun i hi => (setI_ne hi).1
  have ek : ∀ k, k ≠ 2 → (upI σ 176 2 0).1 176 k = σ.1 176 k := fun k hk => by rw [upI_1, if_neg (by omega)]
  refine ⟨⟨by rw [upI_1]; simp; rfl, fun k hk => absurd hk (Nat.not_lt_zero k)⟩, a2.mv (ek 14 (by decide)) (ef 181 (by decide)) (ef 179 (by decide)) (ef 182 (by decide)), by rw [ef 188 (by decide)]; exact a3, a4.mv (ek 23 (by decide)) (ek 24 (by decide)) (ef 191 (by decide)), a5.mv (ek 25 (by decide)) (ef 190 (by decide)), ?_, ?_⟩
  · have a6 : dS γ.2.2.2.2.2.1 σ := a6
    show dS γ.2.2.2.2.2.1 _
    unfold dS at a6 ⊢; rw [ek 15 (by decide), ef 184 (by decide), ef 183 (by decide)]; exact a6
  · have a7 : dR γ.2.2.2.2.2.2.1 γ.2.2.2.2.2.2.2 σ := a7
    show dR γ.2.2.2.2.2.2.1 γ.2.2.2.2.2.2.2 _
    unfold dR at a7 ⊢; rw [ek 34 (by decide), ef 197 (by decide), ef 185 (by decide)]; exact a7
def f_tellS (γ : GS) : Int32 × GS := if γ.2.2.2.2.2.1.length = 4 then (-1, γ) else match (rdSc γ.1).2 with
  | none => (-1, γ)
  | some L => (nI γ.2.2.2.2.2.1.length, adS γ L)
theorem s_tellS {γ : GS} {bd : Nat} {σ : wS} {Q : Int32 → wS → Prop} (hC : C γ σ) (hg : gok γ bd) (hq : ∀ τ, C (f_tellS γ).2 τ → Fcm σ τ → Q (f_tellS γ).1 τ) : w_X11_tellScript σ Q := by
  have h4 := hg.2.2.1.1
  have e4 : ((4 : Int32) ≤ σ.1 0 5) ↔ 4 ≤ γ.2.2.2.2.2.1.length := by rw [hC.2.2.2.2.2.2.1.1]; exact nI_leI (a := 4) (by decide) (by omega)
  unfold f_tellS at hq
  unfold w_X11_tellScript
  rw [e4]
  refine ⟨fun q => ?_, fun q => ?_⟩
  · rw [if_pos (by omega)] at hq
    exact hq σ hC Fcm.rf
  · rw [if_neg (by omega)] at hq
    rw [hC.2.2.2.2.2.2.1.1, nI_clamp (by omega)]
    refine ⟨vp_in_nI (by omega) (by decide), ?_⟩
    refine s_readSc hg.tp hC.1 (by omega) (fun hno τ Fτ => ?_) (fun L hL τ Fτ Vτ => ?_)
    · rw [hno] at hq
      have hb := (scP_ok hg.tp 16 0 [] (Nat.zero_le _) (by decide) (fun t ht => by cases ht)).1
      have h240 := hg.tp.1
      refine ⟨fun n => absurd n (nI_m1 (by have : (rdSc γ.1).1 ≤ γ.1.1 := hb; omega)), fun _ => hq τ (hC.fs hg Fτ) (Fτ.c (by omega))⟩
    · rw [hL] at hq
      have C1 := hC.fs hg Fτ
      refine ⟨fun _ s4 es4 s5 es5 => ?_, fun n => absurd rfl n⟩
      have C4 : C (tp0 γ) s4 := by rw [es4]; exact C1.tp0 hg
      have n5 : s4.1 0 5 = nI γ.2.2.2.2.2.1.length := C4.2.2.2.2.2.2.1.1
      have n6 : s5.1 0 5 = nI (γ.2.2.2.2.2.1.length + 1) := by rw [es5, upI_1]; simp; rw [n5]; exact nI_1 _
      have ev : s5.1 0 5 - 1 = nI γ.2.2.2.2.2.1.length := by
        rw [n6, show (1 : Int32) = iI 1 by decide, iI_n, iI_sub, iI_n]; congr 1; omega
      rw [ev]
      have ef : ∀ i, i ≠ 0 → s5.1 i = s4.1 i := fun i hi => by rw [es5]; exact (setI_ne hi).1
      have e0 : ∀ k, k ≠ 5 → s5.1 0 k = s4.1 0 k := fun k hk => by rw [es5, upI_1, if_neg (by omega)]
      have es4f : ∀ i, i ≠ 1 → s4.1 i = τ.1 i := fun i hi => by rw [es4]; exact (setI_ne hi).1
      obtain ⟨a1, a2, a3, a4, a5, a6, a7, a8⟩ := C4
      refine hq s5 ⟨a1.mv (ef 1 (by decide)) (ef 2 (by decide)), a2.mv ⟨e0 2 (by decide), e0 3 (by decide)⟩ (fun i h1 h2 => ef i (by omega)), a3.mv (fun j h1 h2 => ef j (by omega)), a4.mv (ef 50 (by decide)) (fun i h1 h2 => ef i (by omega)), a5.mv (ef 49 (by decide)), a6.mv (e0 16 (by decide)) (fun i h1 h2 => ef i (by omega)) (ef 55 (by decide)), ⟨?_, fun s L' hs => ?_⟩, a8.mv (ef 52 (by decide)) (ef 53 (by decide)) (ef 54 (by decide))⟩ ?_
      · show s5.1 0 5 = nI (γ.2.2.2.2.2.1 ++ [L]).length
        rw [n6]; simp
      · have hs : (γ.2.2.2.2.2.1 ++ [L])[s]? = some L' := hs
        rcases Nat.lt_or_ge s γ.2.2.2.2.2.1.length with q2 | q2
        · rw [List.getElem?_append_left q2] at hs
          exact (a7.2 s L' hs).mv (ef _ (by omega)) (ef _ (by omega))
        · have hjl := (List.getElem?_eq_some_iff.mp hs).1
          simp at hjl
          have : s = γ.2.2.2.2.2.1.length := by omega
          subst this
          simp at hs
          rw [← hs]
          refine Vτ.mv ?_ ?_
          · rw [ef _ (by omega), es4f _ (by omega)]
          · rw [ef _ (by omega), es4f _ (by omega)]
      · have F5 : Fcm τ s5 := by rw [es5, es4]; exact (Fcm.rf.up (by decide)).up (by decide)
        exact (Fτ.c (by omega)).tr F5
theorem m_tellS {γ : GS} {bd : Nat} {σ : wS} {Q : Int32 → wS → Prop} (hD : D γ σ) (hg : gok γ bd) (hq : ∀ τ, D (f_tellS γ).2 τ → Fdm σ τ → Q (f_tellS γ).1 τ) : w_X12_text 1 σ Q := by
  have h4 := hg.2.2.1.1
  intro s1 e1
  have D1 : D γ s1 := by rw [e1]; exact hD.up (by decide)
  have F1 : Fdm σ s1 := by rw [e1]; exact Fdm.rf.up (by decide)
  rw [i0_1, if_pos (by decide)]
  refine ⟨fun n => absurd n (by decide), fun _ => ⟨fun n => absurd rfl n, fun _ => ?_⟩⟩
  have e4 : (s1.1 176 15 = 4) ↔ γ.2.2.2.2.2.1.length = 4 := by rw [D1.2.2.2.2.2.1.1]; exact nI_eq (b := 4) (by omega) (by decide)
  unfold f_tellS at hq
  rw [e4]
  refine ⟨fun q => ?_, fun q => ?_⟩
  · rw [if_pos q] at hq
    exact hq s1 D1 F1
  · rw [if_neg q] at hq
    refine m_fault1 hg D1 (fun hno τ D2 F2 => ?_) (fun L hL τ D2 F2 n2 M2 => ?_)
    · rw [hno] at hq
      have hb := (scP_ok hg.tp 16 0 [] (Nat.zero_le _) (by decide) (fun t ht => by cases ht)).1
      have h240 := hg.tp.1
      refine ⟨fun n => absurd n (nI_m1 (by have : (rdSc γ.1).1 ≤ γ.1.1 := hb; omega)), fun _ => hq τ D2 (F1.tr F2)⟩
    · rw [hL] at hq
      have hok := (scP_ok hg.tp 16 0 [] (Nat.zero_le _) (by decide) (fun t ht => by cases ht)).2 L hL
      refine ⟨fun _ s3 e3 => ⟨fun n => absurd rfl n, fun _ => ⟨65, ?_⟩⟩, fun n => absurd rfl n⟩
      have D3 : D (tp0 γ) s3 := by rw [e3]; exact D2.tp0
      have F3 : Fdm σ s3 := by rw [e3]; exact (F1.tr F2).up (by decide)
      have n3 : s3.1 184 4 = nI L.length := by rw [e3]; exact n2
      have M3 : scM L 256 (s3.1 183) := by rw [e3]; exact M2
      have x15 : s3.1 176 15 = nI γ.2.2.2.2.2.1.length := D3.2.2.2.2.2.1.1
      have key : ∀ (f k : Nat) (ρ : wS), k + f = 65 → k ≤ 64 → Fr [183] s3 ρ → (∀ j, (j < 64 * γ.2.2.2.2.2.1.length ∨ 64 * γ.2.2.2.2.2.1.length + k ≤ j) → ρ.1 183 j = s3.1 183 j) → (∀ j, j < k → ρ.1 183 (64 * γ.2.2.2.2.2.1.length + j) = s3.1 183 (256 + j)) → l_X12_text_51 Q f (nI k) ρ := by
        intro f
        induction f with
        | zero => intro k ρ h1 h2; exfalso; omega
        | succ f ih =>
          intro k ρ h1 h2 G1 G2 G3
          have e64 : ((64 : Int32) ≤ nI k) ↔ 64 ≤ k := nI_leI (a := 64) (by decide) (by omega)
          have y15 : ρ.1 176 15 = nI γ.2.2.2.2.2.1.length := by rw [(G1 176 (by decide)).1]; exact x15
          rw [l_X12_text_51, e64, y15]
          refine ⟨fun q2 => ⟨vp_in_nI (by omega) (by decide), fun t1 et1 t2 et2 => ?_⟩, fun q2 => ?_⟩
          · rw [nI_clamp (by omega), c_4] at et1
            have z15 : t2.1 176 15 = nI (γ.2.2.2.2.2.1.length + 1) := by
              have : t1.1 176 15 = nI γ.2.2.2.2.2.1.length := by rw [et1]; exact y15
              rw [et2, upI_1]; simp; rw [this]; exact nI_1 _
            have ev : t2.1 176 15 - 1 = nI γ.2.2.2.2.2.1.length := by
              rw [z15, show (1 : Int32) = iI 1 by decide, iI_n, iI_sub, iI_n]; congr 1; omega
            rw [ev]
            have ef : ∀ i, i ≠ 176 → i ≠ 183 → i ≠ 184 → t2.1 i = s3.1 i := fun i h1 h2 h3 => by
              have a1 : t2.1 i = t1.1 i := by rw [et2]; exact (setI_ne h1).1
              have a2 : t1.1 i = ρ.1 i := by rw [et1]; exact (setI_ne h3).1
              rw [a1, a2]; exact (G1 i (by simp; exact h2)).1
            have ek : ∀ k, k ≠ 15 → t2.1 176 k = s3.1 176 k := fun k hk => by
              have a2 : t1.1 176 k = ρ.1 176 k := by rw [et1]; rfl
              rw [et2, upI_1, if_neg (by omega), a2, (G1 176 (by decide)).1]
            have e183 : t2.1 183 = ρ.1 183 := by rw [et2, et1]; rfl
            have e184 : ∀ s, t2.1 184 s = if s = γ.2.2.2.2.2.1.length then nI L.length else s3.1 184 s := fun s => by
              have a1 : t2.1 184 s = t1.1 184 s := by rw [et2]; rfl
              have a2 : ρ.1 184 = s3.1 184 := (G1 184 (by decide)).1
              rw [a1, et1, upI_1, a2, n3]
              by_cases qq : s = γ.2.2.2.2.2.1.length
              · rw [if_pos ⟨rfl, qq⟩, if_pos qq]
              · rw [if_neg (fun r => qq r.2), if_neg qq]
            obtain ⟨a1, a2, a3, a4, a5, a6, a7⟩ := D3
            refine hq t2 ⟨?_, a2.mv (ek 14 (by decide)) (ef 181 (by decide) (by decide) (by decide)) (ef 179 (by decide) (by decide) (by decide)) (ef 182 (by decide) (by decide) (by decide)), by rw [ef 188 (by decide) (by decide) (by decide)]; exact a3, a4.mv (ek 23 (by decide)) (ek 24 (by decide)) (ef 191 (by decide) (by decide) (by decide)), a5.mv (ek 25 (by decide)) (ef 190 (by decide) (by decide) (by decide)), ⟨?_, fun s L' hs => ?_⟩, ?_⟩ ?_
            · have a1 : dT (0, γ.1.2) s3 := a1
              show dT (0, γ.1.2) t2
              unfold dT at a1 ⊢; rw [ek 2 (by decide), ef 177 (by decide) (by decide) (by decide)]; exact a1
            · show t2.1 176 15 = nI (γ.2.2.2.2.2.1 ++ [L]).length
              rw [z15]; simp
            · have hs : (γ.2.2.2.2.2.1 ++ [L])[s]? = some L' := hs
              rcases Nat.lt_or_ge s γ.2.2.2.2.2.1.length with q3 | q3
              · rw [List.getElem?_append_left q3] at hs
                obtain ⟨b1, b2, b3, b4⟩ := hg.sc hs
                obtain ⟨c1, c2⟩ := a6.2 s L' hs
                refine ⟨by rw [e184, if_neg (by omega)]; exact c1, fun j t hj => ?_⟩
                have hjl : j < L'.length := (List.getElem?_eq_some_iff.mp hj).1
                rw [e183, G2 _ (Or.inl (by omega)), G2 _ (Or.inl (by omega)), G2 _ (Or.inl (by omega)), G2 _ (Or.inl (by omega))]
                exact c2 j t hj
              · have hjl := (List.getElem?_eq_some_iff.mp hs).1
                simp at hjl
                have : s = γ.2.2.2.2.2.1.length := by omega
                subst this
                simp at hs
                rw [← hs]
                refine ⟨by rw [e184, if_pos rfl], fun j t hj => ?_⟩
                have hjl : j < L.length := (List.getElem?_eq_some_iff.mp hj).1
                have h16 := hok.2.1
                have := M3 j t hj
                rw [e183, G3 (4 * j) (by omega), Nat.add_assoc _ (4 * j) 1, Nat.add_assoc _ (4 * j) 2, Nat.add_assoc _ (4 * j) 3, G3 (4 * j + 1) (by omega), G3 (4 * j + 2) (by omega), G3 (4 * j + 3) (by omega)]
                exact this
            · have a7 : dR γ.2.2.2.2.2.2.1 γ.2.2.2.2.2.2.2 s3 := a7
              show dR γ.2.2.2.2.2.2.1 γ.2.2.2.2.2.2.2 t2
              unfold dR at a7 ⊢; rw [ek 34 (by decide), ef 197 (by decide) (by decide) (by decide), ef 185 (by decide) (by decide) (by decide)]; exact a7
            · intro i hi
              rw [ef i (by omega) (by omega) (by omega)]; exact F3 i hi
          · have i1 : (256 : Int32) + nI k = nI (256 + k) := nI_add 256 k
            have i2 : (64 : Int32) * nI γ.2.2.2.2.2.1.length + nI k = nI (64 * γ.2.2.2.2.2.1.length + k) := by rw [show (64 : Int32) = nI 64 from rfl, pk_mul, nI_add]
            rw [i1, i2, nI_clamp (by omega), nI_clamp (by omega)]
            refine ⟨vp_in_nI (by omega) (by decide), vp_in_nI (by omega) (by decide), fun t3 et3 y4 ey4 => ?_⟩
            rw [ey4, nI_1]
            refine ih (k + 1) t3 (by omega) (by omega) (by rw [et3]; exact G1.upI (by decide)) (fun j hj => ?_) (fun j hj => ?_)
            · rw [et3, upI_1, if_neg (by omega)]; exact G2 j (by omega)
            · rw [et3, upI_1]
              by_cases qq : j = k
              · rw [if_pos ⟨rfl, by omega⟩, qq]; exact G2 _ (Or.inr (by omega))
              · rw [if_neg (by omega)]; exact G3 j (by omega)
      exact key 65 0 s3 (by decide) (by decide) Fr.rf (fun _ _ => rfl) (fun j hj => absurd hj (Nat.not_lt_zero j))
