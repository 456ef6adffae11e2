/-! the model reads a mooring -/
def MoR (μ : MU) (σ : wS) : Prop := σ.1 176 13 = nI μ.1 ∧ (∀ r, r < μ.1 → ∀ k, k < 7 → σ.1 180 (7 * r + k) = iI (μ.2.1 r k)) ∧ ∀ k, k < 4 → σ.1 178 k = iI (μ.2.2 k)
def FM (σ τ : wS) : Prop := (∀ i, i ≠ 176 → i ≠ 178 → i ≠ 180 → τ.1 i = σ.1 i) ∧ ∀ k, k ≠ 3 → k ≠ 4 → k ≠ 13 → k ≠ 16 → τ.1 176 k = σ.1 176 k
theorem FM.rf {σ : wS} : FM σ σ := ⟨fun _ _ _ _ => rfl, fun _ _ _ _ _ => rfl⟩
theorem FM.tr {σ τ ρ : wS} (h1 : FM σ τ) (h2 : FM τ ρ) : FM σ ρ := ⟨fun i a b c => (h2.1 i a b c).trans (h1.1 i a b c), fun k a b c d => (h2.2 k a b c d).trans (h1.2 k a b c d)⟩
theorem FM.mk {σ τ ρ : wS} (h1 : FM σ τ) (h2 : MK τ ρ) : FM σ ρ := ⟨fun i a b c => (h2.1 i a).trans (h1.1 i a b c), fun k a b c d => (h2.2 k a b).trans (h1.2 k a b c d)⟩
theorem FM.mz {q fst N : Nat} {σ τ ρ : wS} (h1 : FM σ τ) (hq : q = 178 ∨ q = 180) (h2 : MZ q fst N τ ρ) : FM σ ρ := ⟨fun i a b c => (h2.1 i a (by omega)).trans (h1.1 i a b c), fun k a b c d => (h2.2.1 k a b).trans (h1.2 k a b c d)⟩
theorem FM.up {σ τ : wS} {i k : Nat} {x : Int32} (h : FM σ τ) (hi : (i = 178 ∨ i = 180) ∨ (i = 176 ∧ (k = 3 ∨ k = 4 ∨ k = 13 ∨ k = 16))) : FM σ (upI τ i k x) := by
  refine ⟨fun j a b c => ?_, fun j a b c d => ?_⟩
  · show (setI τ i _).1 j = _
    rw [(setI_ne (show j ≠ i by omega)).1]; exact h.1 j a b c
  · rw [upI_1, if_neg (by omega)]; exact h.2 j a b c d
theorem FM.tp {T : TP} {σ τ : wS} (h : FM σ τ) (hT : dT T σ) : dT T τ := by
  unfold dT at hT ⊢
  rw [h.2 2 (by decide) (by decide) (by decide) (by decide), h.1 177 (by decide) (by decide) (by decide)]
  exact hT
theorem MoR.mk {μ : MU} {σ τ : wS} (h : MoR μ σ) (h2 : MK σ τ) : MoR μ τ := by
  unfold MoR at h ⊢
  rw [h2.2 13 (by decide) (by decide), h2.1 180 (by decide), h2.1 178 (by decide)]
  exact h
theorem m_items {T : TP} {rl : Bool} {q fst a : Nat} {v : Nat → Int} {σ : wS} {Q : wS → Prop} (hT : tpk T) (hC : dT T σ) (hrow : (rl = true → q = 178 ∧ fst = 0) ∧ (rl = false → q = 180 ∧ fst + 7 ≤ 56 ∧ σ.1 176 13 = nI (fst / 7 + 1) ∧ fst = 7 * (fst / 7))) (ha : a ≤ T.1) (h3 : σ.1 176 3 = nI a) (h4 : σ.1 176 4 = -1) (hV : vls q fst (nL rl) v σ)
    (hq0 : ∀ τ : wS, (itm T rl (nL rl + 1) a 0 v).2 = none → MZ q fst (nL rl) σ τ → mfl T (itm T rl (nL rl + 1) a 0 v).1 τ → Q τ)
    (hq1 : ∀ (τ : wS) (w : Nat → Int), (itm T rl (nL rl + 1) a 0 v).2 = some w → MZ q fst (nL rl) σ τ → τ.1 176 3 = nI (itm T rl (nL rl + 1) a 0 v).1 → τ.1 176 4 = -1 → vls q fst (nL rl) w τ → Q τ) : w_X12_readItems (tI rl) σ Q := by
  have hq176 : q ≠ 176 ∧ q ≠ 177 := by cases rl; have := (hrow.2 rfl).1; omega; have := (hrow.1 rfl).1; omega
  intro y1 ey
  have hz : cnt (fun r => (0 : Nat).testBit r) (nL rl) = 0 := by cases rl <;> decide
  have go : ∀ s2 : wS, MK σ s2 → s2.1 176 3 = nI (sk T a) → s2.1 176 4 = σ.1 176 4 → b_X12_readItems_37 Q (tI rl) y1 0 (oI (fxF (ltr rl) (chr T (sk T a)) 0)) s2 := by
    intro s2 K2 e2 f2
    refine ⟨nL rl + 1 + 1, ?_⟩
    refine m_itm (row := y1) (q := q) (fst := fst) hT hC ⟨hrow.1, fun h => ?_⟩ (nL rl + 1) a 0 v s2 (by omega) (by decide) ha (MZ.rf.rk hq176.1 K2) e2 (by rw [f2]; exact h4) (fun k hk => by rw [K2.1 q hq176.1]; exact hV k hk) hq0 hq1
    obtain ⟨r1, r2, r3, r4⟩ := hrow.2 h
    refine ⟨r1, ?_, r2⟩
    rw [ey, r3, iI_n, show (1 : Int32) = iI 1 by decide, iI_sub, show (7 : Int32) = iI 7 by decide, iI_mul, iI_n]
    congr 1; omega
  cases rl
  · exact ⟨fun _ => m_look hT hC ha h3 (fun s2 K2 e2 f2 => (m_spot (rl := false) (go s2 K2 e2 f2)).2 rfl), fun n => absurd rfl n⟩
  · exact ⟨fun n => absurd n (by decide), fun _ => m_look hT hC ha h3 (fun s2 K2 e2 f2 => (m_spot (rl := true) (go s2 K2 e2 f2)).1 rfl)⟩
theorem m_clause {T : TP} {a : Nat} {hr : Bool} {μ : MU} {σ : wS} {Q : wS → Prop} (hT : tpk T) (hC : dT T σ) (hμ : muP μ) (hM : MoR μ σ) (ha : a ≤ T.1) (h3 : σ.1 176 3 = nI a) (h4 : σ.1 176 4 = -1) (h16 : σ.1 176 16 = tI hr)
    (hU0 : chr T (sk T a) = 115 ∧ hr = false → (itm T true 5 (sk T a + 1) 0 μ.2.2).2 = none → ∀ τ, FM σ τ → mfl T (itm T true 5 (sk T a + 1) 0 μ.2.2).1 τ → Q τ)
    (hU1 : chr T (sk T a) = 115 ∧ hr = false → ∀ v, (itm T true 5 (sk T a + 1) 0 μ.2.2).2 = some v → ∀ τ, FM σ τ → τ.1 176 3 = nI (itm T true 5 (sk T a + 1) 0 μ.2.2).1 → τ.1 176 4 = -1 → τ.1 176 16 = tI true → MoR (setU μ v) τ → Q τ)
    (hR0 : ¬ (chr T (sk T a) = 115 ∧ hr = false) → (chr T (sk T a) = 114 ∧ μ.1 < 8) → (itm T false 8 (sk T a + 1) 0 dfR).2 = none → ∀ τ, FM σ τ → mfl T (itm T false 8 (sk T a + 1) 0 dfR).1 τ → Q τ)
    (hR1 : ¬ (chr T (sk T a) = 115 ∧ hr = false) → (chr T (sk T a) = 114 ∧ μ.1 < 8) → ∀ v, (itm T false 8 (sk T a + 1) 0 dfR).2 = some v → ∀ τ, FM σ τ → τ.1 176 3 = nI (itm T false 8 (sk T a + 1) 0 dfR).1 → τ.1 176 4 = -1 → τ.1 176 16 = tI hr → MoR (addR μ v) τ → Q τ)
    (hN : ¬ (chr T (sk T a) = 115 ∧ hr = false) → ¬ (chr T (sk T a) = 114 ∧ μ.1 < 8) → ∀ τ, FM σ τ → τ.1 176 4 = nI (sk T a) → Q τ) : w_X12_readClause σ Q := by
  have h240 := hT.1
  have h8 := hμ.1
  have hs := (sk_ok ha).2.1
  refine m_look hT hC ha h3 (fun s1 K1 e1 f1 => ?_)
  rw [h4] at f1
  have M1 := hM.mk K1
  have F1 : FM σ s1 := FM.rf.mk K1
  have g16 : s1.1 176 16 = tI hr := by rw [K1.2 16 (by decide) (by decide)]; exact h16
  have bad : ¬ (chr T (sk T a) = 115 ∧ hr = false) → ¬ (chr T (sk T a) = 114 ∧ μ.1 < 8) → b_X12_readClause_140 Q s1 := by
    intro hn hn2
    exact m_fails e1 f1 (fun s3 K3 e3 f3 => hN hn hn2 s3 (F1.mk K3) f3)
  have rest : ¬ (chr T (sk T a) = 115 ∧ hr = false) → b_X12_readClause_41 Q (chr T (sk T a)) s1 := by
    intro hn
    unfold b_X12_readClause_41
    have e8 : ((8 : Int32) ≤ s1.1 176 13) ↔ 8 ≤ μ.1 := by rw [M1.1]; exact nI_leI (a := 8) (by decide) (by omega)
    rw [e8]
    refine ⟨fun n => bad hn (fun q => n q.1), fun y => ⟨fun n => bad hn (fun q => by omega), fun n y1 ey => ⟨8, ?_⟩⟩⟩
    have hlt : sk T a < T.1 := chr_in (by rw [y]; decide)
    have hc : chr T (sk T a) = 114 ∧ μ.1 < 8 := ⟨y, by omega⟩
    have ey : y1 = nI (7 * μ.1) := by rw [ey, M1.1, show (7 : Int32) = nI 7 from rfl, pk_mul]
    have key : ∀ (f k : Nat) (τ : wS), k + f = 8 → k ≤ 7 → FM σ τ → (∀ j, τ.1 176 j = s1.1 176 j) → τ.1 178 = s1.1 178 → (∀ j, j < 7 * μ.1 → τ.1 180 j = s1.1 180 j) → (∀ j, j < k → τ.1 180 (7 * μ.1 + j) = iI (dfR j)) → l_X12_readClause_66 Q f y1 (nI k) τ := by
      intro f
      induction f with
      | zero => intro k τ h1 h2; exfalso; omega
      | succ f ih =>
        intro k τ h1 h2 F2 g1 g2 g3 g4
        have e7 : ((7 : Int32) ≤ nI k) ↔ 7 ≤ k := nI_leI (a := 7) (by decide) (by omega)
        rw [l_X12_readClause_66, e7]
        refine ⟨fun q s2 e2 s4 e4 => ?_, fun q => ?_⟩
        · have hk : k = 7 := by omega
          subst hk
          have F4 : FM σ s4 := by rw [e4, e2]; exact (F2.up (Or.inr (by decide))).up (Or.inr (by decide))
          have x13 : s4.1 176 13 = nI (μ.1 + 1) := by rw [e4, upI_1]; simp; rw [e2, upI_1]; simp; rw [g1, M1.1]; exact nI_1 _
          have x3 : s4.1 176 3 = nI (sk T a + 1) := by rw [e4, upI_1]; simp; rw [e2, upI_1]; simp; rw [g1, e1]; exact nI_1 _
          have x4 : s4.1 176 4 = -1 := by rw [e4, upI_1]; simp; rw [e2, upI_1]; simp; rw [g1]; exact f1
          have x16 : s4.1 176 16 = tI hr := by rw [e4, upI_1]; simp; rw [e2, upI_1]; simp; rw [g1]; exact g16
          have y180 : s4.1 180 = τ.1 180 := by rw [e4, e2]; rfl
          have y178 : s4.1 178 = τ.1 178 := by rw [e4, e2]; rfl
          refine m_items (rl := false) (q := 180) (fst := 7 * μ.1) (v := dfR) hT (F4.tp hC) ⟨fun h => absurd h (by decide), fun _ => ⟨rfl, by omega, by rw [x13]; congr 1; omega, by omega⟩⟩ (by omega) x3 x4 (fun j hj => by rw [y180]; exact g4 j hj) (fun ρ hno Kρ hf => ?_) (fun ρ v hv Kρ eρ fρ Vρ => ?_)
          · exact hR0 hn hc hno ρ (F4.mz (Or.inr rfl) Kρ) hf
          · refine hR1 hn hc v hv ρ (F4.mz (Or.inr rfl) Kρ) eρ fρ (by rw [Kρ.2.1 16 (by decide) (by decide)]; exact x16) ⟨?_, fun r hr2 j hj => ?_, fun j hj => ?_⟩
            · rw [Kρ.2.1 13 (by decide) (by decide)]; exact x13
            · have hr2 : r < μ.1 + 1 := hr2
              show ρ.1 180 (7 * r + j) = iI ((if r = μ.1 then v else μ.2.1 r) j)
              by_cases qq : r = μ.1
              · rw [if_pos qq, qq]; exact Vρ j hj
              · rw [if_neg qq, Kρ.2.2 (7 * r + j) (Or.inl (by omega)), y180, g3 (7 * r + j) (by omega)]
                exact M1.2.1 r (by omega) j hj
            · rw [Kρ.1 178 (by decide) (by decide), y178, g2]; exact M1.2.2 j hj
        · have ei : y1 + nI k = nI (7 * μ.1 + k) := by rw [ey, nI_add]
          rw [ei]
          have put : ∀ z : Int32, z = iI (dfR k) → b_X12_readClause_105 (fun x2 x3 σ => l_X12_readClause_66 Q f x2 x3 σ) Q y1 (nI k) z (nI (7 * μ.1 + k)) τ := by
            intro z hz
            refine ⟨vp_in_nI (by omega) (by decide), fun s2 e2 y2 ey2 => ?_⟩
            rw [nI_clamp (by omega)] at e2
            rw [ey2, nI_1]
            refine ih (k + 1) s2 (by omega) (by omega) (by rw [e2]; exact F2.up (Or.inl (Or.inr rfl))) (fun j => by rw [e2, upI_1, if_neg (by omega)]; exact g1 j) (by rw [e2]; exact g2) (fun j hj => by rw [e2, upI_1, if_neg (by omega)]; exact g3 j hj) (fun j hj => ?_)
            rw [e2, upI_1]
            by_cases qq : j = k
            · rw [if_pos ⟨rfl, by omega⟩, qq, hz]
            · rw [if_neg (by omega)]; exact g4 j (by omega)
          have k0 : nI k = 0 ↔ k = 0 := nI_eq (b := 0) (by omega) (by decide)
          have k3 : nI k = 3 ↔ k = 3 := nI_eq (b := 3) (by omega) (by decide)
          have k6 : nI k = 6 ↔ k = 6 := nI_eq (b := 6) (by omega) (by decide)
          rw [k0, k3, k6]
          refine ⟨fun z => put 1 (by rw [z]; decide), fun n0 => ⟨fun n3 => ⟨fun n6 => put 0 ?_, fun z => put 999 (by rw [z]; decide)⟩, fun z => put 1 (by rw [z]; decide)⟩⟩
          rcases (show k = 1 ∨ k = 2 ∨ k = 4 ∨ k = 5 by omega) with rfl | rfl | rfl | rfl <;> decide
    exact key 8 0 s1 (by decide) (by decide) F1 (fun _ => rfl) rfl (fun _ _ => rfl) (fun j hj => absurd hj (Nat.not_lt_zero j))
  refine ⟨fun n => rest (fun q => n q.1), fun y => ?_⟩
  rw [g16]
  refine ⟨fun n => rest (fun q => n (by rw [q.2]; rfl)), fun z s3 e3 s4 e4 => ?_⟩
  have hh : hr = false := by cases hr; rfl; exact absurd z (by decide)
  have hlt : sk T a < T.1 := chr_in (by rw [y]; decide)
  have F4 : FM σ s4 := by rw [e4, e3]; exact (F1.up (Or.inr (by decide))).up (Or.inr (by decide))
  have x3 : s4.1 176 3 = nI (sk T a + 1) := by rw [e4, upI_1]; simp; rw [e3, upI_1]; simp; rw [e1]; exact nI_1 _
  have x4 : s4.1 176 4 = -1 := by rw [e4, upI_1]; simp; rw [e3, upI_1]; simp; exact f1
  have x16 : s4.1 176 16 = tI true := by rw [e4, upI_1]; simp; rw [e3, upI_1]; simp
  have x13 : s4.1 176 13 = nI μ.1 := by rw [e4, upI_1]; simp; rw [e3, upI_1]; simp; exact M1.1
  have y180 : s4.1 180 = s1.1 180 := by rw [e4, e3]; rfl
  have y178 : s4.1 178 = s1.1 178 := by rw [e4, e3]; rfl
  refine m_items (rl := true) (q := 178) (fst := 0) (v := μ.2.2) hT (F4.tp hC) ⟨fun _ => ⟨rfl, rfl⟩, fun h => by cases h⟩ (by omega) x3 x4 (fun j hj => by rw [y178, Nat.zero_add]; exact M1.2.2 j hj) (fun ρ hno Kρ hf => ?_) (fun ρ v hv Kρ eρ fρ Vρ => ?_)
  · exact hU0 ⟨y, hh⟩ hno ρ (F4.mz (Or.inl rfl) Kρ) hf
  · refine hU1 ⟨y, hh⟩ v hv ρ (F4.mz (Or.inl rfl) Kρ) eρ fρ (by rw [Kρ.2.1 16 (by decide) (by decide)]; exact x16) ⟨?_, fun r hr2 j hj => ?_, fun j hj => ?_⟩
    · rw [Kρ.2.1 13 (by decide) (by decide)]; exact x13
    · rw [Kρ.1 180 (by decide) (by decide), y180]; exact M1.2.1 r hr2 j hj
    · have := Vρ j hj
      rw [Nat.zero_add] at this
      exact this
theorem m_whole {μ : MU} {σ : wS} {Q : Int32 → wS → Prop} (hμ : muP μ) (hM : MoR μ σ) (hq : Q (tI (whole μ)) σ) : w_X12_isWhole σ Q := by
  have h8 := hμ.1
  have key : ∀ (f m : Nat), m + f = μ.1 + 1 → m ≤ μ.1 → (∀ r, r < m → ¬ (μ.2.1 r 3 = 0 ∧ μ.2.1 r 4 = 0)) → l_X12_isWhole_2 Q f (nI m) σ := by
    intro f
    induction f with
    | zero => intro m h1 h2; exfalso; omega
    | succ f ih =>
      intro m h1 h2 hz
      have e0 : (nI μ.1 ≤ 0) ↔ μ.1 ≤ 0 := nI_leI (b := 0) (by omega) (by decide)
      rw [l_X12_isWhole_2, hM.1, nI_leI (by omega) (by omega), e0]
      refine ⟨fun q => ⟨fun z => ?_, fun z => ?_⟩, fun q => ?_⟩
      · have : whole μ = false := by unfold whole; rw [decide_eq_false (fun q => by omega)]
        rw [this] at hq; exact hq
      · have : whole μ = true := by unfold whole; rw [decide_eq_true ⟨by omega, fun r hr => hz r (by omega)⟩]
        rw [this] at hq; exact hq
      · have hm : m < μ.1 := by omega
        have b3 := rg_b hμ hm (show 3 < 7 by decide)
        have b4 := rg_b hμ hm (show 4 < 7 by decide)
        have z3 : iI (μ.2.1 m 3) = 0 ↔ μ.2.1 m 3 = 0 := by rw [show (0 : Int32) = iI 0 by decide, iI_eq (by omega) (by decide)]
        have z4 : iI (μ.2.1 m 4) = 0 ↔ μ.2.1 m 4 = 0 := by rw [show (0 : Int32) = iI 0 by decide, iI_eq (by omega) (by decide)]
        have i3 : (7 : Int32) * nI m + 3 = nI (7 * m + 3) := by rw [show (7 : Int32) = nI 7 from rfl, pk_mul]; exact nI_add _ 3
        have i4 : (7 : Int32) * nI m + 4 = nI (7 * m + 4) := by rw [show (7 : Int32) = nI 7 from rfl, pk_mul]; exact nI_add _ 4
        have nxt : ¬ (μ.2.1 m 3 = 0 ∧ μ.2.1 m 4 = 0) → b_X12_isWhole_40 (fun x1 σ => l_X12_isWhole_2 Q f x1 σ) Q (nI m) σ := by
          intro hn y1 e1
          rw [e1, nI_1]
          refine ih (m + 1) (by omega) (by omega) (fun r hr => ?_)
          by_cases q2 : r = m
          · rw [q2]; exact hn
          · exact hz r (by omega)
        rw [i3, i4, nI_clamp (by omega), nI_clamp (by omega), hM.2.1 m hm 3 (by decide), hM.2.1 m hm 4 (by decide), z3, z4]
        refine ⟨vp_in_nI (by omega) (by decide), fun n => nxt (fun q => n q.1), fun y => ⟨vp_in_nI (by omega) (by decide), fun n => nxt (fun q => n q.2), fun y4 => ?_⟩⟩
        have : whole μ = false := by unfold whole; rw [decide_eq_false (fun q => q.2 m hm ⟨y, y4⟩)]
        rw [this] at hq; exact hq
  exact ⟨μ.1 + 1, key (μ.1 + 1) 0 (by omega) (by omega) (fun r hr => absurd hr (Nat.not_lt_zero r))⟩
theorem m_moorL {T : TP} {σ0 : wS} {Q : wS → Prop} {res : Nat × Option MU} (hT : tpk T) (hC : dT T σ0) (hq0 : res.2 = none → ∀ τ : wS, FM σ0 τ → τ.1 176 4 = nI res.1 → Q τ) (hq1 : ∀ μ, res.2 = some μ → ∀ τ : wS, FM σ0 τ → τ.1 176 4 = -1 → MoR μ τ → Q τ) : ∀ (f a : Nat) (hr : Bool) (μ : MU) (σ : wS), clN hr μ < f → a ≤ T.1 → muP μ → FM σ0 σ → MoR μ σ → σ.1 176 3 = nI a → σ.1 176 4 = -1 → σ.1 176 16 = tI hr → cls T f a hr μ = res → l_X12_readMooring_40 Q (f + 1) 1 σ := by
  have h240 := hT.1
  intro f
  induction f with
  | zero => intro a hr μ σ h2; exfalso; omega
  | succ f ih =>
    intro a hr μ σ h2 ha hμ F1 M1 e1 f1 e16 he
    have C1 := F1.tp hC
    rw [l_X12_readMooring_40, f1]
    refine ⟨fun n => absurd n (by decide), fun _ => ⟨fun n => absurd rfl n, fun _ => ?_⟩⟩
    rw [cls] at he
    have hs := (sk_ok ha).2.1
    have hok := cls_ok hT (μ' := mu0) (f + 1) a hr μ ha hμ
    -- where reading failed
    have bad : ∀ (b : Nat) (τ : wS), b ≤ T.1 → FM σ τ → mfl T b τ → res = (b, none) → (¬ (τ.1 176 4) = (-1 : Int32) → (b_X12_readMooring_77 (fun x1 σ => l_X12_readMooring_40 Q (f + 1) x1 σ) Q τ)) ∧ ((τ.1 176 4) = (-1 : Int32) → (w_X12_look τ (fun r4 s3 => (¬ r4 = (59 : Int32) → (b_X12_readMooring_77 (fun x1 σ => l_X12_readMooring_40 Q (f + 1) x1 σ) Q s3)) ∧ (r4 = (59 : Int32) → (b_X12_readMooring_78 (fun x1 σ => l_X12_readMooring_40 Q (f + 1) x1 σ) Q (1 : Int32) s3))))) := by
      intro b τ hb Fτ hf hres
      have hq0 := hq0 (by rw [hres])
      rw [hres] at hq0
      have F2 := F1.tr Fτ
      rcases hf with hf | ⟨g1, g2, g3, g4, g5⟩
      · have hne : ¬ τ.1 176 4 = -1 := by rw [hf]; exact nI_m1 (by omega)
        refine ⟨fun _ => ⟨fun _ => ?_, fun n => absurd rfl n⟩, fun n => absurd n hne⟩
        simp only [l_X12_readMooring_40]
        exact ⟨fun _ => ⟨fun _ => hq0 τ F2 hf, fun n => absurd n hne⟩, fun n => absurd trivial n⟩
      · refine ⟨fun n => absurd g1 n, fun _ => ?_⟩
        refine m_look hT (F2.tp hC) hb g2 (fun s3 K3 e3 f3 => ?_)
        rw [sk_id g5] at e3 ⊢
        refine ⟨fun _ => ⟨fun _ => ?_, fun n => absurd rfl n⟩, fun n => absurd n g4⟩
        simp only [l_X12_readMooring_40]
        refine ⟨fun _ => ?_, fun n => absurd trivial n⟩
        have f3' : s3.1 176 4 = -1 := by rw [f3]; exact g1
        refine ⟨fun n => absurd f3' n, fun _ => ?_⟩
        have F3 := F2.mk K3
        refine m_look hT (F3.tp hC) hb e3 (fun s5 K5 e5 f5 => ?_)
        rw [sk_id g5] at e5 ⊢
        refine ⟨fun _ => ?_, fun n => absurd n g3⟩
        refine m_fails e5 (by rw [f5]; exact f3') (fun s6 K6 e6 f6 => ?_)
        exact hq0 s6 ((F3.mk K5).mk K6) f6
    -- behind a clause that is whole
    have nxt : ∀ (a2 : Nat) (hr2 : Bool) (μ2 : MU) (τ : wS), a2 ≤ T.1 → (chr T a2 = -1 ∨ chr T a2 = 59) → muP μ2 → clN hr2 μ2 < f → FM σ τ → τ.1 176 3 = nI a2 → τ.1 176 4 = -1 → τ.1 176 16 = tI hr2 → MoR μ2 τ → clE T a2 μ2 (cls T f (a2 + 1) hr2 μ2) = res → (¬ (τ.1 176 4) = (-1 : Int32) → (b_X12_readMooring_77 (fun x1 σ => l_X12_readMooring_40 Q (f + 1) x1 σ) Q τ)) ∧ ((τ.1 176 4) = (-1 : Int32) → (w_X12_look τ (fun r4 s3 => (¬ r4 = (59 : Int32) → (b_X12_readMooring_77 (fun x1 σ => l_X12_readMooring_40 Q (f + 1) x1 σ) Q s3)) ∧ (r4 = (59 : Int32) → (b_X12_readMooring_78 (fun x1 σ => l_X12_readMooring_40 Q (f + 1) x1 σ) Q (1 : Int32) s3))))) := by
      intro a2 hr2 μ2 τ ha2 hch hμ2 hcl Fτ eτ fτ e16τ Mτ he2
      have F2 := F1.tr Fτ
      have n32 : ¬ chr T a2 = 32 := by rcases hch with q | q <;> rw [q] <;> decide
      refine ⟨fun n => absurd fτ n, fun _ => ?_⟩
      refine m_look hT (F2.tp hC) ha2 eτ (fun s3 K3 e3 f3 => ?_)
      rw [sk_id n32] at e3 ⊢
      have F3 := F2.mk K3
      have M3 := Mτ.mk K3
      rw [fτ] at f3
      unfold clE at he2
      refine ⟨fun n => ?_, fun y => ?_⟩
      · have y : chr T a2 = -1 := by rcases hch with q | q; exact q; exact absurd q n
        rw [if_pos y] at he2
        refine ⟨fun _ => ?_, fun n => absurd rfl n⟩
        simp only [l_X12_readMooring_40]
        refine ⟨fun _ => ⟨fun n => absurd f3 n, fun _ => ?_⟩, fun n => absurd trivial n⟩
        refine m_look hT (F3.tp hC) ha2 e3 (fun s5 K5 e5 f5 => ?_)
        rw [sk_id n32] at e5 ⊢
        rw [f3] at f5
        refine ⟨fun n => absurd y n, fun _ => ?_⟩
        refine m_whole hμ2 (M3.mk K5) ?_
        cases hw : whole μ2
        · rw [hw] at he2
          refine ⟨fun n => absurd rfl n, fun _ => ?_⟩
          refine m_fails e5 f5 (fun s6 K6 e6 f6 => ?_)
          have := hq0 (by rw [← he2]; rfl) s6 ((F3.mk K5).mk K6)
          rw [← he2] at this
          exact this f6
        · rw [hw] at he2
          refine ⟨fun _ => ?_, fun n => absurd n (by decide)⟩
          exact hq1 μ2 (by rw [← he2]; rfl) s5 (F3.mk K5) f5 (M3.mk K5)
      · have n : ¬ chr T a2 = -1 := by rw [y]; decide
        rw [if_neg n] at he2
        have hlt := chr_in n
        refine ⟨fun n => absurd n (by decide), fun _ s4 e4 => ?_⟩
        have K4 : MK s3 s4 := by rw [e4]; exact MK.rf.up (by decide)
        refine ih (a2 + 1) hr2 μ2 s4 hcl (by omega) hμ2 (F3.mk K4) (M3.mk K4) (by rw [e4, upI_1]; simp; rw [e3]; exact nI_1 _) (by rw [e4, upI_1]; simp; exact f3) ?_ he2
        rw [K4.2 16 (by decide) (by decide), K3.2 16 (by decide) (by decide)]; exact e16τ
    refine m_clause hT C1 hμ M1 ha e1 f1 e16 (fun hc hno τ Fτ hf => ?_) (fun hc v hv τ Fτ eτ fτ e3τ Mτ => ?_) (fun hn hc hno τ Fτ hf => ?_) (fun hn hc v hv τ Fτ eτ fτ e3τ Mτ => ?_) (fun hn hn2 τ Fτ fτ => ?_)
    · rw [if_pos hc, hno] at he
      have hlt : sk T a < T.1 := chr_in (by rw [hc.1]; decide)
      exact bad _ τ (itm_ok hT (rl := true) 5 (sk T a + 1) 0 μ.2.2 (by omega) hμ.2.2).1 Fτ hf he.symm
    · rw [if_pos hc, hv] at he
      have hlt : sk T a < T.1 := chr_in (by rw [hc.1]; decide)
      obtain ⟨i1, i2⟩ := itm_ok hT (rl := true) 5 (sk T a + 1) 0 μ.2.2 (by omega) hμ.2.2
      obtain ⟨j1, j2⟩ := i2 v hv
      refine nxt _ true (setU μ v) τ i1 j2 (muP_U hμ j1) ?_ Fτ eτ fτ e3τ Mτ he
      have h2 : clN hr μ < f + 1 := h2
      unfold clN at h2 ⊢
      rw [hc.2] at h2
      simp only [Bool.false_eq_true, if_false] at h2
      show 0 + (8 - μ.1) < f
      omega
    · rw [if_neg hn, if_pos hc, hno] at he
      have hlt : sk T a < T.1 := chr_in (by rw [hc.1]; decide)
      exact bad _ τ (itm_ok hT (rl := false) 8 (sk T a + 1) 0 dfR (by omega) rgo_d.1).1 Fτ hf he.symm
    · rw [if_neg hn, if_pos hc, hv] at he
      have hlt : sk T a < T.1 := chr_in (by rw [hc.1]; decide)
      obtain ⟨i1, i2⟩ := itm_ok hT (rl := false) 8 (sk T a + 1) 0 dfR (by omega) rgo_d.1
      obtain ⟨j1, j2⟩ := i2 v hv
      refine nxt _ hr (addR μ v) τ i1 j2 (muP_R hμ hc.2 j1) ?_ Fτ eτ fτ e3τ Mτ he
      have h2 : clN hr μ < f + 1 := h2
      unfold clN at h2 ⊢
      show (if hr then 0 else 1) + (8 - (μ.1 + 1)) < f
      omega
    · rw [if_neg hn, if_neg hn2] at he
      exact bad _ τ hs Fτ (Or.inl fτ) he.symm
theorem m_readMo {T : TP} {σ : wS} {Q : wS → Prop} (hT : tpk T) (hC : dT T σ) (h3 : σ.1 176 3 = 0) (h4 : σ.1 176 4 = -1) (hq0 : (rdMo T).2 = none → ∀ τ : wS, FM σ τ → τ.1 176 4 = nI (rdMo T).1 → Q τ) (hq1 : ∀ μ, (rdMo T).2 = some μ → ∀ τ : wS, FM σ τ → τ.1 176 4 = -1 → MoR μ τ → Q τ) : w_X12_readMooring σ Q := by
  intro s1 e1 s2 e2 s3 e3 s4 e4 s5 e5 s6 e6
  rw [c_0] at e1
  rw [c_1] at e2
  rw [c_2] at e3
  rw [c_3] at e4
  refine ⟨11, ?_⟩
  have F6 : FM σ s6 := by
    rw [e6, e5, e4, e3, e2, e1]
    exact (((((FM.rf.up (Or.inl (Or.inl rfl))).up (Or.inl (Or.inl rfl))).up (Or.inl (Or.inl rfl))).up (Or.inl (Or.inl rfl))).up (Or.inr (by decide))).up (Or.inr (by decide))
  have hk : ∀ k, k ≠ 13 → k ≠ 16 → s6.1 176 k = σ.1 176 k := fun k h1 h2 => by
    rw [e6, upI_1, if_neg (by omega), e5, upI_1, if_neg (by omega), e4, e3, e2, e1]; rfl
  refine m_moorL (res := rdMo T) hT hC hq0 hq1 10 0 false mu0 s6 (by decide) (Nat.zero_le _) muP_0 F6 ⟨?_, fun r hr => absurd hr (Nat.not_lt_zero r), fun k hk => ?_⟩ ?_ ?_ ?_ rfl
  · rw [e6, upI_1, if_neg (by omega), e5, upI_1]; simp; rfl
  · have : s6.1 178 = s4.1 178 := by rw [e6, e5]; rfl
    rw [this, e4, upI_1, e3, upI_1, e2, upI_1, e1, upI_1]
    rcases (show k = 0 ∨ k = 1 ∨ k = 2 ∨ k = 3 by omega) with rfl | rfl | rfl | rfl <;> simp <;> decide
  · rw [hk 3 (by decide) (by decide), h3]; rfl
  · rw [hk 4 (by decide) (by decide), h4]
  · rw [e6, upI_1]; simp
