/-! THE CLASS' ATTEMPT -/
def HC (μ : MU) (h : HS) (i : Nat) (σ : wS) : Prop := LwC μ.1 h.1 h.2.1 i σ ∧ σ.1 i 2 = nI h.2.2.1.1 ∧ σ.1 i 3 = nI h.2.2.1.2.1 ∧ σ.1 i 4 = nI h.2.2.1.2.2 ∧ σ.1 i 5 = nI h.2.2.2.1 ∧ σ.1 i 6 = nI h.2.2.2.2
abbrev aW : List Nat := [32, 33, 34, 38, 39, 40, 41, 42, 43, 44, 45]
/-- behind an attempt -/
def CA (μ : MU) (res : AR) (σ τ : wS) : Prop := Fr aW σ τ ∧ τ.1 32 7 = σ.1 32 7 ∧ τ.1 38 5 = iI res.1 ∧ τ.1 38 3 = nI (msk res.2.2) ∧ τ.1 38 4 = nI res.2.2.length ∧ (∀ j, j < res.2.2.length → τ.1 39 j = nI (res.2.2.getD j 0)) ∧ (res.1 = -1 → HC μ res.2.1 32 τ ∧ (∀ r, r < μ.1 → τ.2 45 r = iJ (Pl μ res.2.1.1 res.2.1.2.1 res.2.1.2.2.1.1 r)) ∧ τ.2 41 4 = iJ (Lw μ res.2.1.2.2.1.1))
theorem isW {x : Int32} {l m : Int} {σ : wS} {Q : Int32 → wS → Prop} (hl : l.natAbs < 2 ^ 31) (hm : m.natAbs < 2 ^ 31) : w_X11_isWithin x (iI l) (iI m) σ Q = Q (if l ≤ x.toInt ∧ x.toInt ≤ m then 1 else 0) σ := by
  unfold w_X11_isWithin
  rw [Int32.lt_iff_toInt_lt, Int32.lt_iff_toInt_lt, iI_T hl, iI_T hm]
  by_cases h1 : x.toInt < l
  · simp [h1, show ¬ (l ≤ x.toInt ∧ x.toInt ≤ m) by omega]
  · by_cases h2 : m < x.toInt
    · simp [h1, h2, show ¬ (l ≤ x.toInt ∧ x.toInt ≤ m) by omega]
    · simp [h1, h2, show (l ≤ x.toInt ∧ x.toInt ≤ m) by omega]
theorem stv_0 : stv 200 0 = iI 99 ∧ stv 200 1 = iI 99 ∧ stv 200 2 = iI 999 ∧ stv 201 0 = iI 999 ∧ stv 201 1 = iI 999 ∧ stv 201 2 = iI 9999 := by decide
theorem isGW {x y z : Int32} {σ : wS} {Q : Int32 → wS → Prop} : w_X1_isGustWithin x y z σ Q = Q (if gst x.toInt y.toInt z.toInt then 1 else 0) σ := by
  unfold w_X1_isGustWithin
  rw [c_0, c_1, c_2, stv_0.1, stv_0.2.1, stv_0.2.2.1, iI_neg, iI_neg]
  rw [isW (by decide) (by decide)]
  by_cases h1 : -99 ≤ x.toInt ∧ x.toInt ≤ 99
  · simp only [h1, and_self, if_true]
    rw [isW (by decide) (by decide)]
    by_cases h2 : -99 ≤ y.toInt ∧ y.toInt ≤ 99
    · simp only [h2, and_self, if_true]
      rw [isW (by decide) (by decide)]
      by_cases h3 : -999 ≤ z.toInt ∧ z.toInt ≤ 999
      · simp [h1, h2, h3, gst]
      · rw [if_neg h3, if_neg (show ¬ gst x.toInt y.toInt z.toInt from fun q => h3 q.2.2)]
        simp
    · rw [if_neg h2, if_neg (show ¬ gst x.toInt y.toInt z.toInt from fun q => h2 q.2.1)]
      simp
  · rw [if_neg h1, if_neg (show ¬ gst x.toInt y.toInt z.toInt from fun q => h1 q.1)]
    simp
theorem ii (x : Int32) : iI x.toInt = x := Int32.ofInt_toInt x
theorem isFs {bk cs r i : Nat} {σ : wS} {Q : Int32 → wS → Prop} (hb : bk < 256) (hc : cs < 256) (hr : r < 8) (h3 : σ.1 i 3 = nI bk) (h4 : σ.1 i 4 = nI cs) : w_X3_isFast i (nI r) σ Q = Q (if bk.testBit r || cs.testBit r then 0 else 1) σ := by
  have eo : nI bk ||| nI cs = nI (bk ||| cs) := by
    unfold nI
    apply Int32.toBitVec_inj.mp
    simp [Int32.toBitVec_or, BitVec.ofNat_or]
  unfold w_X3_isFast
  rw [h3, h4, eo, bt8 (Nat.or_lt_two_pow (n := 8) hb hc) hr, Nat.testBit_or]
  cases (bk.testBit r || cs.testBit r) <;> simp
/-- the end of an attempt: it settles -/
theorem a_set {μ : MU} (hμ : mu_ok μ) {laid wind : Nat → Int} {p set bk cs ever : Nat} {t e : Nat} {σ0 σ : wS} {Q : Int32 → wS → Prop} (hp : p + 6 < 32) (hk : hok μ (laid, wind, (set, bk, cs), t, e)) (hM : MoC μ p σ) (hL : LwC μ.1 laid wind 32 σ) (h2 : σ.1 32 2 = nI set) (h3 : σ.1 32 3 = nI bk) (h4 : σ.1 32 4 = nI cs) (h6 : σ.1 32 6 = nI ever) (hF : Fr aW σ0 σ) (h7 : σ.1 32 7 = σ0.1 32 7)
    (hq : ∀ τ, CA μ (fin μ laid wind set bk cs ever) σ0 τ → Q (iI (fin μ laid wind set bk cs ever).1) τ) : b_X1_attempt_97 p 32 Q (-1) σ := by
  intro s1 e1
  have g5 : s1.1 38 5 = -1 := by rw [e1, upI_1]; simp
  refine ⟨fun q => absurd g5 q, fun _ => ?_⟩
  refine s_settle hμ hp hk.1 (hok_sok hμ hk) (by rw [e1]; exact hM.up (by omega)) (by rw [e1]; exact hL.up (by decide) (by decide)) (by rw [e1, upI_1]; simp; exact h2) (by rw [e1, upI_1]; simp; exact h3) (by rw [e1, upI_1]; simp; exact h4) (fun τ hE s3 e3 => ?_)
  obtain ⟨E1, E2, E3, E4, E5, E6, E7, E8⟩ := hE
  have x5 : s3.1 38 5 = iI (fin μ laid wind set bk cs ever).1 := by rw [e3, upI_1]; simp; rfl
  unfold b_X1_attempt_118
  rw [x5]
  have F1 : Fr aW σ0 s3 := by
    rw [e3]
    have : Fr aW σ0 s1 := by rw [e1]; exact hF.upI (by decide)
    exact (this.tr (E1.wk (by decide))).upI (by decide)
  refine hq s3 ⟨F1, ?_, x5, ?_, ?_, ?_, fun hr => ?_⟩
  · rw [e3, upI_1]; simp; rw [E2, e1, upI_1]; simp; exact h7
  · rw [e3, upI_1]; simp; exact E5
  · rw [e3, upI_1]; simp; exact E6
  · intro j hj; rw [e3, upI_1]; simp; rw [E7 j hj]; rfl
  · obtain ⟨a1, a2, a3, a4, a5, a6⟩ := E8 hr
    refine ⟨⟨⟨fun r hr => ?_, fun a ha => ?_⟩, ?_, ?_, ?_, ?_, ?_⟩, fun r hr => ?_, ?_⟩
    · rw [e3, upI_1]; simp; rw [(E1 33 (by decide)).1, e1]; exact hL.1 r hr
    · rw [e3, upI_1]; simp; rw [(E1 34 (by decide)).1, e1]; exact hL.2 a ha
    · rw [e3, upI_1]; simp; exact a1
    · rw [e3, upI_1]; simp; exact a2
    · rw [e3, upI_1]; simp; rw [E3, e1, upI_1]; simp; exact h4
    · rw [e3, upI_1]; simp; exact a3
    · rw [e3, upI_1]; simp; rw [a4, e1, upI_1]; simp; rw [h6, nI_add]; rfl
    · rw [e3]; exact a5 r hr
    · rw [e3]; exact a6
/-- the end of an attempt: it is refused ahead of settling -/
theorem a_ref {μ : MU} {h : HS} {p : Nat} {z : Int} {σ0 σ : wS} {Q : Int32 → wS → Prop} (hz : 0 ≤ z ∧ z ≤ 2) (hF : Fr aW σ0 σ) (h7 : σ.1 32 7 = σ0.1 32 7) (h3 : σ.1 38 3 = 0) (h4 : σ.1 38 4 = 0)
    (hq : ∀ τ, CA μ (z, h, []) σ0 τ → Q (iI z) τ) : b_X1_attempt_97 p 32 Q (iI z) σ := by
  intro s1 e1
  have g5 : s1.1 38 5 = iI z := by rw [e1, upI_1]; simp
  have hn : ¬ iI z = -1 := by rw [show (-1 : Int32) = iI (-1) by decide, iI_eq (by omega) (by decide)]; omega
  refine ⟨fun _ => ?_, fun q => absurd (g5.symm.trans q) hn⟩
  unfold b_X1_attempt_118
  rw [g5]
  refine hq s1 ⟨by rw [e1]; exact hF.upI (by decide), ?_, g5, ?_, ?_, fun j hj => absurd hj (by simp), fun q => ?_⟩
  · rw [e1, upI_1]; simp; exact h7
  · rw [e1, upI_1]; simp; exact h3
  · rw [e1, upI_1]; simp; exact h4
  · have : z = -1 := q; omega
