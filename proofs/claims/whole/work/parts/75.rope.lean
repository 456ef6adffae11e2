/-! rope: what the class answers or throws, and the model's answer -/
def w_X11_rope (p0 : Int32) (p1 : Int32) (σ : wS) (Q : Int32 → wS → Prop) (T : wS → Prop) : Prop := w_X11_isRope p0 σ (fun r2 s1 => (r2 = 0 → (T s1)) ∧ (¬ r2 = 0 → (w_X11_isWithin p1 (0 : Int32) (8 : Int32) s1 (fun r4 s3 => (¬ r4 = 0 → ((p1 = (5 : Int32) → (vp_in (((3 : Int32) * p0) + (2 : Int32)) 24 ∧ (Q (s3.1 ((mo (s3.1 0 2)) + 3) ((((3 : Int32) * p0) + (2 : Int32))).toNatClampNeg) s3))) ∧ (p1 = (6 : Int32) → (vp_in p0 8 ∧ (Q (s3.1 ((mo (s3.1 0 2)) + 5) (p0).toNatClampNeg) s3))) ∧ (p1 = (7 : Int32) → (vp_in p0 8 ∧ (Q (s3.1 30 (p0).toNatClampNeg) s3))) ∧ (p1 = (8 : Int32) → (w_X3_stateOf 29 p0 s3 (fun r6 s5 => Q r6 s5))) ∧ (¬ p1 = (5 : Int32) → ¬ p1 = (6 : Int32) → ¬ p1 = (7 : Int32) → ¬ p1 = (8 : Int32) → (w_X5_itemOf (mo (s3.1 0 2)) p0 p1 s3 (fun r8 s7 => Q r8 s7))))) ∧ (r4 = 0 → (T s3))))))
def rv (γ : GS) (j : Nat) (w : Int32) : Int32 := if w = 5 then iI (mu_w γ.2.1 j 2) else if w = 6 then iI (mu_t γ.2.1 j) else if w = 7 then iI (γ.2.2.1.1.1 j) else if w = 8 then nI (srt γ.2.2.1.1.2.2.1.2.1 γ.2.2.1.1.2.2.1.2.2 γ.2.2.1.1.2.2.1.1 j) else iI (γ.2.1.2.1 j w.toInt.toNat)
theorem x37 {j : Nat} (hj : j < 8) : vp_in ((3 : Int32) * nI j + 2) 24 ∧ ((3 : Int32) * nI j + 2).toNatClampNeg = 3 * j + 2 ∧ vp_in ((0 : Int32) + nI j) 202 ∧ ((0 : Int32) + nI j).toNatClampNeg = j ∧ vp_in (nI j) 8 ∧ (nI j).toNatClampNeg = j := by
  have h : ∀ j, j < 8 → vp_in ((3 : Int32) * nI j + 2) 24 ∧ ((3 : Int32) * nI j + 2).toNatClampNeg = 3 * j + 2 ∧ vp_in ((0 : Int32) + nI j) 202 ∧ ((0 : Int32) + nI j).toNatClampNeg = j ∧ vp_in (nI j) 8 ∧ (nI j).toNatClampNeg = j := by unfold vp_in; decide +kernel
  exact h j hj
theorem x7i {j i : Nat} (hj : j < 8) (hi : i < 7) : vp_in ((7 : Int32) * nI j + nI i) 56 ∧ ((7 : Int32) * nI j + nI i).toNatClampNeg = 7 * j + i := by
  have h : ∀ j, j < 8 → ∀ i, i < 7 → vp_in ((7 : Int32) * nI j + nI i) 56 ∧ ((7 : Int32) * nI j + nI i).toNatClampNeg = 7 * j + i := by unfold vp_in; decide +kernel
  exact h j hj i hi
theorem mr_no {γ : GS} {bd : Nat} {τ : wS} {r w : Int32} {Q : Int32 → wS → Prop} (hg : gok γ bd) (hD : D γ τ) (h : ¬ (rpe γ.2.1.1 r ∧ (0 ≤ w.toInt ∧ w.toInt ≤ 8))) (hq : ∀ s' : wS, D γ s' → Fdm τ s' → s'.1 176 0 = 1 → Q 0 s') : w_X12_rope r w τ Q := by
  intro s1 e1
  have D1 : D γ s1 := by rw [e1]; exact hD.up (by decide)
  have F1 : Fdm τ s1 := by rw [e1]; exact Fdm.rf.up (by decide)
  have hb : b_X12_rope_25 Q s1 := by
    intro s2 e2
    exact hq s2 (by rw [e2]; exact D1.up (by decide)) (by rw [e2]; exact F1.up (by decide)) (by rw [e2, upI_1, if_pos ⟨rfl, rfl⟩])
  rw [isRM hg.n8 D1.2.1.1]
  refine sw (fun hr => ?_) (fun _ => hb)
  rw [i0_8]
  exact sw' (fun hw => absurd ⟨hr, hw⟩ h) (fun _ => hb)
theorem mr_yes {γ : GS} {bd : Nat} {τ : wS} {r w : Int32} {Q : Int32 → wS → Prop} (hg : gok γ bd) (hD : D γ τ) (hr : rpe γ.2.1.1 r) (hw : 0 ≤ w.toInt ∧ w.toInt ≤ 8) (hq : ∀ s' : wS, D γ s' → Fdm τ s' → s'.1 176 0 = 0 → s'.2 = τ.2 → Q (rv γ r.toInt.toNat w) s') : w_X12_rope r w τ Q := by
  intro s1 e1
  have D1 : D γ s1 := by rw [e1]; exact hD.up (by decide)
  have F1 : Fdm τ s1 := by rw [e1]; exact Fdm.rf.up (by decide)
  replace hq := hq s1 D1 F1 (by rw [e1, upI_1, if_pos ⟨rfl, rfl⟩]) (by rw [e1]; rfl)
  rw [isRM hg.n8 D1.2.1.1]
  refine sw (fun _ => ?_) (fun q => absurd hr q)
  rw [i0_8]
  refine sw' (fun _ => ?_) (fun q => absurd hw q)
  have h0 : 0 < γ.2.1.1 := by have := hr.1; have := hr.2; omega
  obtain ⟨hμ, hk, -⟩ := hg.hk h0
  have h8 := hg.n8
  obtain ⟨j, rfl, hj, -⟩ := nn hr.1
  have hjn : j < γ.2.1.1 := by have := hr.2; omega
  rw [show (nI j).toInt.toNat = j by omega] at hq
  have v8 := v8p (show j < 8 by omega)
  have v3 := x37 (show j < 8 by omega)
  obtain ⟨i, rfl, hi, -⟩ := nn hw.1
  have hi9 : i < 9 := by have := hw.2; omega
  have e5 : ((5 : Int32) ≤ nI i) ↔ 5 ≤ i := nI_leI (a := 5) (by decide) (by omega)
  have q5 : nI i = 5 ↔ i = 5 := nI_eq (a := i) (b := 5) (by omega) (by decide)
  have q6 : nI i = 6 ↔ i = 6 := nI_eq (a := i) (b := 6) (by omega) (by decide)
  have q7 : nI i = 7 ↔ i = 7 := nI_eq (a := i) (b := 7) (by omega) (by decide)
  have q8 : nI i = 8 ↔ i = 8 := nI_eq (a := i) (b := 8) (by omega) (by decide)
  unfold rv at hq
  refine ⟨fun h5 => ⟨fun c5 => ⟨fun c6 => ⟨fun c7 => ?_, fun c7 => ?_⟩, fun c6 => ?_⟩, fun c5 => ?_⟩, fun h5 => ?_⟩
  · have c8 : nI i = 8 := by rw [q8]; rw [e5] at h5; rw [q5] at c5; rw [q6] at c6; rw [q7] at c7; omega
    rw [if_neg c5, if_neg c6, if_neg c7, if_pos c8] at hq
    rw [v8.2, D1.row.2.2.1 j hjn]
    exact ⟨v8.1, hq⟩
  · rw [if_neg c5, if_neg c6, if_pos c7] at hq
    rw [v3.2.2.2.1, D1.row.1 j hjn]
    exact ⟨v3.2.2.1, hq⟩
  · rw [if_neg c5, if_pos c6] at hq
    rw [strg hμ D1.2.1 hjn]
    exact hq
  · rw [if_pos c5] at hq
    rw [v3.2.1, D1.2.1.2.2.2 j hjn 2 (by decide)]
    exact ⟨v3.1, hq⟩
  · have hi5 : i < 5 := by rw [e5] at h5; omega
    rw [if_neg (by rw [q5]; omega), if_neg (by rw [q6]; omega), if_neg (by rw [q7]; omega), if_neg (by rw [q8]; omega), show (nI i).toInt.toNat = i by omega] at hq
    have v7 := x7i (show j < 8 by omega) (show i < 7 by omega)
    rw [v7.2, D1.2.1.2.1 j hjn i (by omega)]
    exact ⟨v7.1, hq⟩
theorem sr_yes {γ : GS} {bd : Nat} {σ : wS} {r w : Int32} {Q : Int32 → wS → Prop} {T : wS → Prop} (hg : gok γ bd) (hC : C γ σ) (hr : rpe γ.2.1.1 r) (hw : 0 ≤ w.toInt ∧ w.toInt ≤ 8) (hq : Q (rv γ r.toInt.toNat w) σ) : w_X11_rope r w σ Q T := by
  unfold w_X11_rope
  rw [s_isRope hg hC]
  refine sw (fun _ => ?_) (fun q => absurd hr q)
  rw [w0_8]
  refine sw' (fun _ => ?_) (fun q => absurd hw q)
  have h0 : 0 < γ.2.1.1 := by have := hr.1; have := hr.2; omega
  obtain ⟨hμ, hk, -⟩ := hg.hk h0
  have h8 := hg.n8
  obtain ⟨j, rfl, hj, -⟩ := nn hr.1
  have hjn : j < γ.2.1.1 := by have := hr.2; omega
  rw [show (nI j).toInt.toNat = j by omega] at hq
  have v3 := x37 (show j < 8 by omega)
  have hM := hC.2.1.2
  have hH := hC.2.2.1.1
  unfold rv at hq
  refine ⟨fun c5 => ?_, fun c6 => ?_, fun c7 => ?_, fun c8 => ?_, fun c5 c6 c7 c8 => ?_⟩
  · rw [if_pos c5] at hq
    rw [v3.2.1, hM.2.2.2.1 j hjn 2 (by decide)]
    exact ⟨v3.1, hq⟩
  · subst c6
    rw [if_neg (by decide), if_pos rfl] at hq
    rw [v3.2.2.2.2.2, (hM.2.2.2.2.1 j hjn).2]
    exact ⟨v3.2.2.2.2.1, hq⟩
  · subst c7
    rw [if_neg (by decide), if_neg (by decide), if_pos rfl] at hq
    rw [v3.2.2.2.2.2, hH.1.1 j hjn]
    exact ⟨v3.2.2.2.2.1, hq⟩
  · subst c8
    rw [if_neg (by decide), if_neg (by decide), if_neg (by decide), if_pos rfl] at hq
    rw [s_stateOf hk hH (show j < 8 by omega)]
    exact hq
  · rw [if_neg c5, if_neg c6, if_neg c7, if_neg c8] at hq
    obtain ⟨i, rfl, hi, -⟩ := nn hw.1
    have q7 : nI i = 7 ↔ i = 7 := nI_eq (a := i) (b := 7) (by omega) (by decide)
    have q8 : nI i = 8 ↔ i = 8 := nI_eq (a := i) (b := 8) (by omega) (by decide)
    rw [q7] at c7
    rw [q8] at c8
    have hi7 : i < 7 := by have := hw.2; omega
    have v7 := x7i (show j < 8 by omega) hi7
    unfold w_X5_itemOf
    rw [show (nI i).toInt.toNat = i by omega] at hq
    rw [v7.2, hM.2.1 j hjn i hi7]
    exact ⟨v7.1, hq⟩
theorem sr_no {γ : GS} {bd : Nat} {σ : wS} {r w : Int32} {Q : Int32 → wS → Prop} {T : wS → Prop} (hg : gok γ bd) (hC : C γ σ) (h : ¬ (rpe γ.2.1.1 r ∧ (0 ≤ w.toInt ∧ w.toInt ≤ 8))) (hq : T σ) : w_X11_rope r w σ Q T := by
  unfold w_X11_rope
  rw [s_isRope hg hC]
  refine sw (fun hr => ?_) (fun _ => hq)
  rw [w0_8]
  exact sw' (fun hw => absurd ⟨hr, hw⟩ h) (fun _ => hq)
theorem o_rope {bd : Nat} {σ : wS} {r w : Int32} (hI : In bd σ) : w_X11_rope r w σ (fun x s => ∀ τ : wS, τ.1 = s.1 → w_X12_rope r w τ (fun y s' => s'.1 176 0 = 0 ∧ x = y ∧ s'.2 = τ.2 ∧ In (bd + 40) s')) (fun s => w_X12_rope r w s (fun _ s' => s'.1 176 0 = 1 ∧ In (bd + 40) s')) := by
  obtain ⟨γ, hC, hD, hg⟩ := hI
  by_cases h : rpe γ.2.1.1 r ∧ (0 ≤ w.toInt ∧ w.toInt ≤ 8)
  · refine sr_yes hg hC h.1 h.2 (fun τ ht => ?_)
    have C1 : C γ τ := hC.fd hg (fun i _ => by rw [ht])
    refine mr_yes hg (hD.eq ht) h.1 h.2 (fun s' D1 F1 z e => ⟨z, rfl, e, γ, C1.fd hg F1, D1, hg.wk (by omega)⟩)
  · refine sr_no hg hC h (mr_no hg hD h (fun s' D1 F1 z => ⟨z, γ, hC.fd hg F1, D1, hg.wk (by omega)⟩))
