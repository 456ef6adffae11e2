/-! THE CLASS' BALANCE: what it solves is the mathematics -/
/-- nothing but the rows S has changed -/
def Fr (S : List Nat) (σ τ : wS) : Prop := ∀ i, i ∉ S → τ.1 i = σ.1 i ∧ τ.2 i = σ.2 i
theorem Fr.rf {S : List Nat} {σ : wS} : Fr S σ σ := fun _ _ => ⟨rfl, rfl⟩
theorem Fr.tr {S : List Nat} {σ τ ρ : wS} (h1 : Fr S σ τ) (h2 : Fr S τ ρ) : Fr S σ ρ := fun i hi => ⟨(h2 i hi).1.trans (h1 i hi).1, (h2 i hi).2.trans (h1 i hi).2⟩
theorem Fr.wk {S T : List Nat} {σ τ : wS} (h : Fr S σ τ) (hs : ∀ i ∈ S, i ∈ T) : Fr T σ τ := fun i hi => h i (fun q => hi (hs i q))
theorem Fr.upJ {S : List Nat} {σ τ : wS} {i k : Nat} {x : Int64} (h : Fr S σ τ) (hi : i ∈ S) : Fr S σ (upJ τ i k x) := fun j hj => by
  have hn : j ≠ i := fun e => hj (e ▸ hi)
  show (setJ τ i _).1 j = _ ∧ (setJ τ i _).2 j = _
  rw [(setJ_ne hn).1, (setJ_ne hn).2]
  exact h j hj
theorem Fr.upI {S : List Nat} {σ τ : wS} {i k : Nat} {x : Int32} (h : Fr S σ τ) (hi : i ∈ S) : Fr S σ (upI τ i k x) := fun j hj => by
  have hn : j ≠ i := fun e => hj (e ▸ hi)
  show (setI τ i _).1 j = _ ∧ (setI τ i _).2 j = _
  rw [(setI_ne hn).1, (setI_ne hn).2]
  exact h j hj
theorem Fr.setI {S : List Nat} {σ τ : wS} {i : Nat} {f : Nat → Int32} (h : Fr S σ τ) (hi : i ∈ S) : Fr S σ (setI τ i f) := fun j hj => by
  have hn : j ≠ i := fun e => hj (e ▸ hi)
  rw [(setI_ne hn).1, (setI_ne hn).2]
  exact h j hj
/-- the mooring μ, as an object p of the class has it -/
def MoC (μ : MU) (p : Nat) (σ : wS) : Prop := σ.1 p 6 = nI μ.1 ∧ (∀ r, r < μ.1 → ∀ k, k < 7 → σ.1 (p + 2) (7 * r + k) = iI (μ.2.1 r k)) ∧ (∀ k, k < 4 → σ.1 (p + 1) k = iI (μ.2.2 k)) ∧ (∀ r, r < μ.1 → ∀ a, a < 3 → σ.1 (p + 3) (3 * r + a) = iI (mu_w μ r a)) ∧ (∀ r, r < μ.1 → σ.1 (p + 4) r = iI (mu_k μ r) ∧ σ.1 (p + 5) r = iI (mu_t μ r)) ∧ (∀ a, a < 3 → σ.1 (p + 6) a = if mu_f μ a then 1 else 0)
/-- how taut ropes are laid, and the wind, as a Hold h has them -/
def LwC (n : Nat) (laid wind : Nat → Int) (h : Nat) (σ : wS) : Prop := (∀ r, r < n → σ.1 (h + 1) r = iI (laid r)) ∧ ∀ a, a < 3 → σ.1 (h + 2) a = iI (wind a)
def bdd (n : Nat) (laid wind : Nat → Int) : Prop := (∀ r, r < n → (laid r).natAbs ≤ 999) ∧ (wind 0).natAbs ≤ 999 ∧ (wind 1).natAbs ≤ 999 ∧ (wind 2).natAbs ≤ 9999
/-- a matrix and forces in two rows of longs -/
def MF (i j : Nat) (σ : wS) (M : Nat → Nat → Int) (f : Nat → Int) : Prop :=
  (σ.2 i 0 = iJ (M 0 0) ∧ σ.2 i 1 = iJ (M 0 1) ∧ σ.2 i 2 = iJ (M 0 2) ∧ σ.2 i 3 = iJ (M 1 0) ∧ σ.2 i 4 = iJ (M 1 1) ∧ σ.2 i 5 = iJ (M 1 2) ∧ σ.2 i 6 = iJ (M 2 0) ∧ σ.2 i 7 = iJ (M 2 1) ∧ σ.2 i 8 = iJ (M 2 2)) ∧ σ.2 j 0 = iJ (f 0) ∧ σ.2 j 1 = iJ (f 1) ∧ σ.2 j 2 = iJ (f 2)
theorem c_0 : (0 : Int32).toNatClampNeg = 0 := by decide
theorem c_1 : (1 : Int32).toNatClampNeg = 1 := by decide
theorem c_2 : (2 : Int32).toNatClampNeg = 2 := by decide
theorem c_3 : (3 : Int32).toNatClampNeg = 3 := by decide
theorem c_4 : (4 : Int32).toNatClampNeg = 4 := by decide
theorem c_5 : (5 : Int32).toNatClampNeg = 5 := by decide
theorem c_6 : (6 : Int32).toNatClampNeg = 6 := by decide
theorem c_7 : (7 : Int32).toNatClampNeg = 7 := by decide
theorem c_8 : (8 : Int32).toNatClampNeg = 8 := by decide
theorem vi_3 : vp_in 0 3 ∧ vp_in 1 3 ∧ vp_in 2 3 := by unfold vp_in; decide
theorem vi_9 : vp_in 0 9 ∧ vp_in 1 9 ∧ vp_in 2 9 ∧ vp_in 3 9 ∧ vp_in 4 9 ∧ vp_in 5 9 ∧ vp_in 6 9 ∧ vp_in 7 9 ∧ vp_in 8 9 := by unfold vp_in; decide
theorem upJ_1 (σ : wS) (i k : Nat) (x : Int64) : (upJ σ i k x).1 = σ.1 := rfl
theorem upI_2 (σ : wS) (i k : Nat) (x : Int32) : (upI σ i k x).2 = σ.2 := rfl
theorem upJ_2 (σ : wS) (i k j q : Nat) (x : Int64) : (upJ σ i k x).2 j q = if j = i ∧ q = k then x else σ.2 j q := by
  unfold upJ setJ vp_updL
  by_cases h : j = i
  · subst h; simp
  · simp [h]
theorem upI_1 (σ : wS) (i k j q : Nat) (x : Int32) : (upI σ i k x).1 j q = if j = i ∧ q = k then x else σ.1 j q := by
  unfold upI setI upd
  by_cases h : j = i
  · subst h; simp
  · simp [h]
theorem e_begin {p h : Nat} {K : Int32 → wS → Prop} {Q : wS → Prop} {σ : wS} {i : Int32} (hi : i = 0 ∨ i = 1 ∨ i = 2)
    (hq : K (i + 1) (upJ (upJ (upJ (upJ σ 42 (3 * i).toNatClampNeg (if i = 0 ∧ σ.1 (p + 6) 0 = 0 then 1 else 0)) 42 (3 * i + 1).toNatClampNeg (if i = 1 ∧ σ.1 (p + 6) 1 = 0 then 1 else 0)) 42 (3 * i + 2).toNatClampNeg (if i = 2 ∧ σ.1 (p + 6) 2 = 0 then 1 else 0)) 43 i.toNatClampNeg (if σ.1 (p + 6) i.toNatClampNeg = 0 then 0 else (σ.1 (h + 2) i.toNatClampNeg).toInt64))) : ∃ m, l_X0_begin_10 p h K Q m i 0 σ := by
  refine ⟨4, ?_⟩
  rcases hi with rfl | rfl | rfl
  · simp [c_0, c_1, c_2] at hq
    by_cases h0 : σ.1 (p + 6) 0 = 0 <;> simp [h0] at hq <;> simp [l_X0_begin_10, b_X0_begin_45, b_X0_begin_46, b_X0_begin_78, vi_3, vi_9, c_0, c_1, c_2, upJ_1, h0, hq]
  · simp [c_0, c_1, c_2, c_3, c_4, c_5] at hq
    by_cases h0 : σ.1 (p + 6) 1 = 0 <;> simp [h0] at hq <;> simp [l_X0_begin_10, b_X0_begin_45, b_X0_begin_46, b_X0_begin_78, vi_3, vi_9, c_0, c_1, c_2, c_3, c_4, c_5, upJ_1, h0, hq]
  · simp [c_0, c_1, c_2, c_6, c_7, c_8] at hq
    by_cases h0 : σ.1 (p + 6) 2 = 0 <;> simp [h0] at hq <;> simp [l_X0_begin_10, b_X0_begin_45, b_X0_begin_46, b_X0_begin_78, vi_3, vi_9, c_0, c_1, c_2, c_6, c_7, c_8, upJ_1, h0, hq]
theorem iJ_0 : iJ 0 = 0 := by decide
theorem iJ_1 : iJ 1 = 1 := by decide
theorem mat_0 (μ : MU) (set a b : Nat) : mat μ set 0 a b = dg μ a b := by simp [mat, sm]
theorem frc_0 (μ : MU) (laid wind : Nat → Int) (set a : Nat) : frc μ laid wind set 0 a = if mu_f μ a then wind a else 0 := by simp [frc, sm]
theorem s_begin {μ : MU} {p h : Nat} {laid wind : Nat → Int} {σ : wS} {Q : wS → Prop} {n : Nat} (set : Nat) (hM : MoC μ p σ) (hL : LwC n laid wind h σ) (hb : bdd n laid wind)
    (hq : ∀ τ, Fr [42, 43] σ τ → τ.1 = σ.1 → MF 42 43 τ (mat μ set 0) (frc μ laid wind set 0) → Q τ) : w_X0_begin p h σ Q := by
  have hf := hM.2.2.2.2.2
  have f0 := hf 0 (by decide)
  have f1 := hf 1 (by decide)
  have f2 := hf 2 (by decide)
  have w0 := hL.2 0 (by decide)
  have w1 := hL.2 1 (by decide)
  have w2 := hL.2 2 (by decide)
  obtain ⟨-, b0, b1, b2⟩ := hb
  refine ⟨4, ?_⟩
  simp only [l_X0_begin_2]
  refine ⟨fun h => absurd h (by decide), fun _ => e_begin (Or.inl rfl) ?_⟩
  refine ⟨fun h => absurd h (by decide), fun _ => e_begin (Or.inr (Or.inl rfl)) ?_⟩
  refine ⟨fun h => absurd h (by decide), fun _ => e_begin (Or.inr (Or.inr rfl)) ?_⟩
  refine ⟨fun _ => hq _ ?_ rfl ?_, fun h => absurd (by decide) h⟩
  · exact (((((((((((Fr.rf.upJ (by decide)).upJ (by decide)).upJ (by decide)).upJ (by decide)).upJ (by decide)).upJ (by decide)).upJ (by decide)).upJ (by decide)).upJ (by decide)).upJ (by decide)).upJ (by decide)).upJ (by decide)
  · unfold MF
    simp only [upJ_1, upJ_2, mat_0, frc_0, dg]
    cases g0 : mu_f μ 0 <;> cases g1 : mu_f μ 1 <;> cases g2 : mu_f μ 2 <;> simp [f0, f1, f2, g0, g1, g2, c_0, c_1, c_2, c_3, c_4, c_5, c_6, c_7, c_8, iJ_0, iJ_1, w0, w1, w2] <;> (try simp only [iI_J (z := wind 0) (by omega)]) <;> (try simp only [iI_J (z := wind 1) (by omega)]) <;> (try simp only [iI_J (z := wind 2) (by omega)]) <;> (try simp)
/-- a long stored, or not -/
def uc (c : Bool) (σ : wS) (i k : Nat) (x : Int64) : wS := if c then upJ σ i k x else σ
theorem uc_1 (c : Bool) (σ : wS) (i k : Nat) (x : Int64) : (uc c σ i k x).1 = σ.1 := by unfold uc; split <;> rfl
theorem uc_2 (c : Bool) (σ : wS) (i k j q : Nat) (x : Int64) : (uc c σ i k x).2 j q = if c = true ∧ j = i ∧ q = k then x else σ.2 j q := by
  cases c <;> simp [uc, upJ_2]
theorem Fr.uc {S : List Nat} {σ τ : wS} {c : Bool} {i k : Nat} {x : Int64} (h : Fr S σ τ) (hi : i ∈ S) : Fr S σ (uc c τ i k x) := by
  cases c
  · exact h
  · exact h.upJ hi
theorem ix3 {r : Nat} (hr : r < 8) : ((3 : Int32) * nI r).toNatClampNeg = 3 * r ∧ ((3 : Int32) * nI r + 1).toNatClampNeg = 3 * r + 1 ∧ ((3 : Int32) * nI r + 2).toNatClampNeg = 3 * r + 2 ∧ vp_in ((3 : Int32) * nI r) 24 ∧ vp_in ((3 : Int32) * nI r + 1) 24 ∧ vp_in ((3 : Int32) * nI r + 2) 24 ∧ vp_in (nI r) 8 ∧ (nI r).toNatClampNeg = r := by
  have h : ∀ r, r < 8 → ((3 : Int32) * nI r).toNatClampNeg = 3 * r ∧ ((3 : Int32) * nI r + 1).toNatClampNeg = 3 * r + 1 ∧ ((3 : Int32) * nI r + 2).toNatClampNeg = 3 * r + 2 ∧ vp_in ((3 : Int32) * nI r) 24 ∧ vp_in ((3 : Int32) * nI r + 1) 24 ∧ vp_in ((3 : Int32) * nI r + 2) 24 ∧ vp_in (nI r) 8 ∧ (nI r).toNatClampNeg = r := by unfold vp_in; decide +kernel
  exact h r hr
theorem e_add {p h r : Nat} {K : Int32 → Int32 → wS → Prop} {Q : wS → Prop} {σ : wS} {i y : Int32} {g0 g1 g2 : Bool} (hr : r < 8) (hi : i = 0 ∨ i = 1 ∨ i = 2) (f0 : σ.1 (p + 6) 0 = if g0 then 1 else 0) (f1 : σ.1 (p + 6) 1 = if g1 then 1 else 0) (f2 : σ.1 (p + 6) 2 = if g2 then 1 else 0)
    (hq : K (nI r) (i + 1) (uc g2 (uc g1 (uc g0 σ 42 (3 * i).toNatClampNeg (σ.2 42 (3 * i).toNatClampNeg + (σ.1 (p + 4) r * y * σ.1 (p + 3) (3 * r)).toInt64)) 42 (3 * i + 1).toNatClampNeg (σ.2 42 (3 * i + 1).toNatClampNeg + (σ.1 (p + 4) r * y * σ.1 (p + 3) (3 * r + 1)).toInt64)) 42 (3 * i + 2).toNatClampNeg (σ.2 42 (3 * i + 2).toNatClampNeg + (σ.1 (p + 4) r * y * σ.1 (p + 3) (3 * r + 2)).toInt64))) : ∃ m, l_X0_addRope_58 p h K Q m (nI r) i y 0 σ := by
  refine ⟨4, ?_⟩
  have ix := ix3 hr
  rcases hi with rfl | rfl | rfl
  · simp [c_0, c_1, c_2] at hq
    cases g0 <;> cases g1 <;> cases g2 <;> simp at f0 f1 f2 <;> simp [uc] at hq <;> simp [l_X0_addRope_58, b_X0_addRope_111, b_X0_addRope_117, vi_3, vi_9, ix, c_0, c_1, c_2, upJ_1, upJ_2, f0, f1, f2, hq]
  · simp [c_3, c_4, c_5] at hq
    cases g0 <;> cases g1 <;> cases g2 <;> simp at f0 f1 f2 <;> simp [uc] at hq <;> simp [l_X0_addRope_58, b_X0_addRope_111, b_X0_addRope_117, vi_3, vi_9, ix, c_0, c_1, c_2, c_3, c_4, c_5, upJ_1, upJ_2, f0, f1, f2, hq]
  · simp [c_6, c_7, c_8] at hq
    cases g0 <;> cases g1 <;> cases g2 <;> simp at f0 f1 f2 <;> simp [uc] at hq <;> simp [l_X0_addRope_58, b_X0_addRope_111, b_X0_addRope_117, vi_3, vi_9, ix, c_0, c_1, c_2, c_6, c_7, c_8, upJ_1, upJ_2, f0, f1, f2, hq]
def tA (p r : Nat) (g0 g1 g2 : Bool) (i y : Int32) (σ : wS) : wS := uc g2 (uc g1 (uc g0 σ 42 (3 * i).toNatClampNeg (σ.2 42 (3 * i).toNatClampNeg + (σ.1 (p + 4) r * y * σ.1 (p + 3) (3 * r)).toInt64)) 42 (3 * i + 1).toNatClampNeg (σ.2 42 (3 * i + 1).toNatClampNeg + (σ.1 (p + 4) r * y * σ.1 (p + 3) (3 * r + 1)).toInt64)) 42 (3 * i + 2).toNatClampNeg (σ.2 42 (3 * i + 2).toNatClampNeg + (σ.1 (p + 4) r * y * σ.1 (p + 3) (3 * r + 2)).toInt64)
def tO (p h r : Nat) (g0 g1 g2 gi : Bool) (i : Int32) (σ : wS) : wS := if gi then tA p r g0 g1 g2 i (σ.1 (p + 3) (3 * r + i.toNatClampNeg)) (upJ σ 43 i.toNatClampNeg (σ.2 43 i.toNatClampNeg + (σ.1 (h + 1) r * σ.1 (p + 3) (3 * r + i.toNatClampNeg)).toInt64)) else σ
theorem tO_1 (p h r : Nat) (g0 g1 g2 gi : Bool) (i : Int32) (σ : wS) : (tO p h r g0 g1 g2 gi i σ).1 = σ.1 := by
  unfold tO tA
  split
  · simp [uc_1, upJ_1]
  · rfl
theorem tO_F {S : List Nat} {p h r : Nat} {g0 g1 g2 gi : Bool} {i : Int32} {σ τ : wS} (hF : Fr S σ τ) (h2 : 42 ∈ S) (h3 : 43 ∈ S) : Fr S σ (tO p h r g0 g1 g2 gi i τ) := by
  unfold tO tA
  split
  · exact (((hF.upJ h3).uc h2).uc h2).uc h2
  · exact hF
theorem e_addO {p h r n : Nat} {Q : wS → Prop} {σ : wS} {i : Int32} {g0 g1 g2 gi : Bool} (hr : r < 8) (hi : i = 0 ∨ i = 1 ∨ i = 2) (f0 : σ.1 (p + 6) 0 = if g0 then 1 else 0) (f1 : σ.1 (p + 6) 1 = if g1 then 1 else 0) (f2 : σ.1 (p + 6) 2 = if g2 then 1 else 0) (fi : σ.1 (p + 6) i.toNatClampNeg = if gi then 1 else 0)
    (hq : l_X0_addRope_3 p h Q n (nI r) (i + 1) (tO p h r g0 g1 g2 gi i σ)) : l_X0_addRope_3 p h Q (n + 1) (nI r) i σ := by
  have ix := ix3 hr
  simp only [l_X0_addRope_3]
  refine ⟨fun h3 => ?_, fun _ => ⟨?_, fun hn => ?_, fun hz => ?_⟩⟩
  · rcases hi with rfl | rfl | rfl <;> exact absurd h3 (by decide)
  · rcases hi with rfl | rfl | rfl <;> simp [vi_3]
  · cases gi
    · simp [fi] at hn
    · have v1 : vp_in ((3 : Int32) * nI r + i) 24 ∧ ((3 : Int32) * nI r + i).toNatClampNeg = 3 * r + i.toNatClampNeg ∧ vp_in i 3 := by rcases hi with rfl | rfl | rfl <;> simp [ix, c_0, c_1, c_2, vi_3]
      refine ⟨v1.1, fun y hy => ⟨v1.2.2, ix.2.2.2.2.2.2.1, v1.2.2, fun s2 hs => e_add (g0 := g0) (g1 := g1) (g2 := g2) hr hi ?_ ?_ ?_ ?_⟩⟩
      · rw [hs]; exact f0
      · rw [hs]; exact f1
      · rw [hs]; exact f2
      · subst hs hy
        simp only [tO, if_true, tA, v1.2.1, ix.2.2.2.2.2.2.2] at hq ⊢
        exact hq
  · cases gi
    · simp only [b_X0_addRope_117, forall_eq]
      simp only [tO] at hq
      exact hq
    · simp [fi] at hz
theorem mat_s (μ : MU) (set m a b : Nat) (h : set.testBit m = true) : mat μ set (m + 1) a b = mat μ set m a b + mu_k μ m * mu_wm μ m a * mu_wm μ m b := by
  unfold mat; rw [sm, if_pos h]; omega
theorem frc_s (μ : MU) (laid wind : Nat → Int) (set m a : Nat) (h : set.testBit m = true) : frc μ laid wind set (m + 1) a = frc μ laid wind set m a + laid m * mu_wm μ m a := by
  unfold frc; rw [sm, if_pos h]; omega
theorem mat_n (μ : MU) (set m a b : Nat) (h : ¬ set.testBit m = true) : mat μ set (m + 1) a b = mat μ set m a b := by
  unfold mat; rw [sm, if_neg h]; omega
theorem frc_n (μ : MU) (laid wind : Nat → Int) (set m a : Nat) (h : ¬ set.testBit m = true) : frc μ laid wind set (m + 1) a = frc μ laid wind set m a := by
  unfold frc; rw [sm, if_neg h]; omega
theorem kw_J {μ : MU} (hμ : mu_ok μ) {r : Nat} (hr : r < μ.1) {a b : Nat} (ha : a < 3) (hb : b < 3) : (iI (mu_k μ r) * iI (mu_w μ r a) * iI (mu_w μ r b)).toInt64 = iJ (mu_k μ r * mu_w μ r a * mu_w μ r b) := by
  rw [iI_mul, iI_mul]
  refine iI_J ?_
  have hk : (mu_k μ r).natAbs ≤ 9 := by have := hμ.2.1 r hr; unfold mu_k; omega
  have h1 := ab_mul (ab_mul hk (wm_ab hμ hr a ha).1) (wm_ab hμ hr b hb).1
  have : ∀ a, a < 3 → ∀ b, b < 3 → 9 * (4 * sc a) * (4 * sc b) < 2 ^ 31 := by decide
  have := this a ha b hb
  omega
theorem lw_J {μ : MU} (hμ : mu_ok μ) {l : Int} {r : Nat} (hl : l.natAbs ≤ 999) (hr : r < μ.1) {a : Nat} (ha : a < 3) : (iI l * iI (mu_w μ r a)).toInt64 = iJ (l * mu_w μ r a) := by
  rw [iI_mul]
  refine iI_J ?_
  have h1 := ab_mul hl (wm_ab hμ hr a ha).1
  have : ∀ a, a < 3 → 999 * (4 * sc a) < 2 ^ 31 := by decide
  have := this a ha
  omega
set_option maxHeartbeats 2000000 in
theorem s_addRope {μ : MU} {p h r set : Nat} {laid wind : Nat → Int} {σ : wS} {Q : wS → Prop} (hμ : mu_ok μ) (hM : MoC μ p σ) (hL : LwC μ.1 laid wind h σ) (hb : bdd μ.1 laid wind) (hr : r < μ.1) (hs : set.testBit r = true) (hMF : MF 42 43 σ (mat μ set r) (frc μ laid wind set r))
    (hq : ∀ τ, Fr [42, 43] σ τ → τ.1 = σ.1 → MF 42 43 τ (mat μ set (r + 1)) (frc μ laid wind set (r + 1)) → Q τ) : w_X0_addRope p h (nI r) σ Q := by
  have hr8 : r < 8 := Nat.lt_of_lt_of_le hr hμ.1
  have hf := hM.2.2.2.2.2
  have f0 := hf 0 (by decide)
  have f1 := hf 1 (by decide)
  have f2 := hf 2 (by decide)
  have w0 := hM.2.2.2.1 r hr 0 (by decide)
  have w1 := hM.2.2.2.1 r hr 1 (by decide)
  have w2 := hM.2.2.2.1 r hr 2 (by decide)
  have k0 := (hM.2.2.2.2.1 r hr).1
  have l0 := hL.1 r hr
  refine ⟨4, ?_⟩
  refine e_addO (g0 := mu_f μ 0) (g1 := mu_f μ 1) (g2 := mu_f μ 2) (gi := mu_f μ 0) hr8 (Or.inl rfl) f0 f1 f2 f0 ?_
  refine e_addO (g0 := mu_f μ 0) (g1 := mu_f μ 1) (g2 := mu_f μ 2) (gi := mu_f μ 1) hr8 (Or.inr (Or.inl rfl)) (by rw [tO_1]; exact f0) (by rw [tO_1]; exact f1) (by rw [tO_1]; exact f2) (by rw [tO_1]; exact f1) ?_
  refine e_addO (g0 := mu_f μ 0) (g1 := mu_f μ 1) (g2 := mu_f μ 2) (gi := mu_f μ 2) hr8 (Or.inr (Or.inr rfl)) (by rw [tO_1, tO_1]; exact f0) (by rw [tO_1, tO_1]; exact f1) (by rw [tO_1, tO_1]; exact f2) (by rw [tO_1, tO_1]; exact f2) ?_
  simp only [l_X0_addRope_3]
  refine ⟨fun _ => hq _ (tO_F (tO_F (tO_F Fr.rf (by decide) (by decide)) (by decide) (by decide)) (by decide) (by decide)) (by rw [tO_1, tO_1, tO_1]) ?_, fun h => absurd (by decide) h⟩
  obtain ⟨⟨m0, m1, m2, m3, m4, m5, m6, m7, m8⟩, v0, v1, v2⟩ := hMF
  have q00 := kw_J hμ hr (a := 0) (b := 0) (by decide) (by decide)
  have q01 := kw_J hμ hr (a := 0) (b := 1) (by decide) (by decide)
  have q02 := kw_J hμ hr (a := 0) (b := 2) (by decide) (by decide)
  have q10 := kw_J hμ hr (a := 1) (b := 0) (by decide) (by decide)
  have q11 := kw_J hμ hr (a := 1) (b := 1) (by decide) (by decide)
  have q12 := kw_J hμ hr (a := 1) (b := 2) (by decide) (by decide)
  have q20 := kw_J hμ hr (a := 2) (b := 0) (by decide) (by decide)
  have q21 := kw_J hμ hr (a := 2) (b := 1) (by decide) (by decide)
  have q22 := kw_J hμ hr (a := 2) (b := 2) (by decide) (by decide)
  have p0 := lw_J hμ (hb.1 r hr) hr (a := 0) (by decide)
  have p1 := lw_J hμ (hb.1 r hr) hr (a := 1) (by decide)
  have p2 := lw_J hμ (hb.1 r hr) hr (a := 2) (by decide)
  simp only [Nat.add_zero] at w0
  unfold MF
  simp only [mat_s _ _ _ _ _ hs, frc_s _ _ _ _ _ _ hs, mu_wm]
  cases g0 : mu_f μ 0 <;> cases g1 : mu_f μ 1 <;> cases g2 : mu_f μ 2 <;> simp [tO, tA, uc, upJ_1, upJ_2, c_0, c_1, c_2, c_3, c_4, c_5, c_6, c_7, c_8, m0, m1, m2, m3, m4, m5, m6, m7, m8, v0, v1, v2, w0, w1, w2, k0, l0, q00, q01, q02, q10, q11, q12, q20, q21, q22, p0, p1, p2, iJ_add]
theorem bt8 {s r : Nat} (hs : s < 256) (hr : r < 8) : ((nI s >>> (nI r &&& 31)) &&& (1 : Int32)) = if s.testBit r then 1 else 0 := by
  have h : ∀ s, s < 256 → ∀ r, r < 8 → ((nI s >>> (nI r &&& 31)) &&& (1 : Int32)) = if s.testBit r then 1 else 0 := by decide +kernel
  exact h s hs r hr
theorem s_cof {M : Nat → Nat → Int} {f : Nat → Int} {σ : wS} {Q : Int64 → wS → Prop} (i j : Nat) (hi : i < 3) (hj : j < 3) (h : MF 42 43 σ M f) (hq : Q (iJ (cof M i j)) σ) : w_X0_cofactor (nI i) (nI j) σ Q := by
  obtain ⟨⟨m0, m1, m2, m3, m4, m5, m6, m7, m8⟩, -⟩ := h
  have n0 : nI 0 = 0 := rfl
  have n1 : nI 1 = 1 := rfl
  have n2 : nI 2 = 2 := rfl
  rcases (show i = 0 ∨ i = 1 ∨ i = 2 by omega) with rfl | rfl | rfl <;> rcases (show j = 0 ∨ j = 1 ∨ j = 2 by omega) with rfl | rfl | rfl <;>
    simp [cof] at hq <;> simp [n0, n1, n2, w_X0_cofactor, vi_9, c_0, c_1, c_2, c_3, c_4, c_5, c_6, c_7, c_8, m0, m1, m2, m3, m4, m5, m6, m7, m8, iJ_mul, iJ_sub, hq]
theorem MF.up {i j k q : Nat} {x : Int64} {σ : wS} {M : Nat → Nat → Int} {f : Nat → Int} (h : MF i j σ M f) (hi : i ≠ k) (hj : j ≠ k) : MF i j (upJ σ k q x) M f := by
  unfold MF at h ⊢
  simpa [upJ_2, hi, hj] using h
theorem e_117 {p h i : Nat} {M : Nat → Nat → Int} {f : Nat → Int} {K : Int32 → wS → Prop} {Q : Int32 → wS → Prop} {σ : wS} (hi : i < 3) (hM : MF 42 43 σ M f) (h0 : σ.2 44 i = 0)
    (hq : ∀ τ : wS, Fr [44] σ τ → τ.1 = σ.1 → (∀ a, a ≠ i → τ.2 44 a = σ.2 44 a) → τ.2 44 i = iJ (cof M i 0 * f 0 + cof M i 1 * f 1 + cof M i 2 * f 2) → K (nI (i + 1)) τ) : ∃ m, l_X0_solve_117 p h K Q m (nI i) 0 σ := by
  have v3 : vp_in (nI i) 3 := vp_in_nI hi (by decide)
  have ci : (nI i).toNatClampNeg = i := nI_clamp (by omega)
  obtain ⟨-, g0, g1, g2⟩ := id hM
  refine ⟨4, ?_⟩
  simp only [l_X0_solve_117]
  refine ⟨fun h => absurd h (by decide), fun _ => ⟨v3, s_cof i 0 hi (by decide) hM ⟨by simp [vi_3], v3, ?_⟩⟩⟩
  intro s4 e4 y ey
  have hM4 : MF 42 43 s4 M f := by rw [e4]; exact hM.up (by decide) (by decide)
  subst ey
  refine ⟨fun h => absurd h (by decide), fun _ => ⟨v3, s_cof i 1 hi (by decide) hM4 ⟨by simp [vi_3], v3, ?_⟩⟩⟩
  intro s5 e5 y ey
  have hM5 : MF 42 43 s5 M f := by rw [e5]; exact hM4.up (by decide) (by decide)
  subst ey
  refine ⟨fun h => absurd h (by decide), fun _ => ⟨v3, s_cof i 2 hi (by decide) hM5 ⟨by simp [vi_3], v3, ?_⟩⟩⟩
  intro s6 e6 y ey
  subst ey
  refine ⟨fun _ y ey => ?_, fun h => absurd (by decide) h⟩
  rw [ey, nI_1]
  refine hq s6 ?_ ?_ ?_ ?_
  · rw [e6, e5, e4]; exact ((Fr.rf.upJ (by decide)).upJ (by decide)).upJ (by decide)
  · rw [e6, e5, e4]; rfl
  · intro a ha
    rw [e6, e5, e4]
    simp [upJ_2, ci, ha]
  · rw [e6, e5, e4]
    simp [upJ_2, ci, h0, g0, g1, g2, c_0, c_1, c_2, iJ_add, iJ_mul]
