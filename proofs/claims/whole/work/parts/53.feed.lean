/-! back -/
def f_back (γ : GS) : Int32 × GS := match γ.2.2.2.2.1 with
  | none => (-1, γ)
  | some g => (nI g.1.2.2.1.1, (γ.1, γ.2.1, (g.1, g.2.1, g.2.1.length), [], some g, γ.2.2.2.2.2))
theorem o_back {bd : Nat} {σ : wS} (h60 : 60 ≤ bd) (hI : In bd σ) : w_X11_back σ (fun r1 s => w_X12_back s (fun r' s' => r1 = r' ∧ In (bd + 40) s')) := by
  refine prI (f := f_back) (w1 := w_X11_back) (w2 := w_X12_back) (fun γ σ Q hC hg hq => ?_) (fun γ σ Q hD hg hq => ?_) (fun γ hg => ?_) hI
  · obtain ⟨T, μ, w, P, I, R⟩ := γ
    have h8 : μ.1 ≤ 8 := hg.n8
    have hl4 : R.1.length ≤ 4 := hg.2.2.1.1
    unfold w_X11_back
    have hC0 := hC
    obtain ⟨a1, a2, a3, a4, a5, a6, a7, a8⟩ := hC
    cases I with
    | none =>
      have e : σ.1 0 16 = 0 := a6
      rw [e]
      exact ⟨fun q => absurd rfl q, fun _ => hq σ hC0 Fcm.rf⟩
    | some g =>
      obtain ⟨i1, i2, i3, i4⟩ : σ.1 0 16 = 1 ∧ HC μ g.1 35 σ ∧ σ.1 35 7 = nI g.2.1.length ∧ ∀ k, k < g.2.1.length → σ.1 55 k = pk (g.2.1.getD k e0) := a6
      rw [i1]
      refine ⟨fun _ => s_copy (by omega) (fun s1 F1 g1 u1 u2 u3 => ?_), fun q => absurd q (by decide)⟩
      have h0 : 0 < μ.1 := by
        rcases Nat.eq_zero_or_pos μ.1 with q | q
        · have := (hg.2.2.2.2.2.2.1 q).2.2
          cases this
        · exact q
      obtain ⟨hμ, -, -, hgk⟩ := hg.2.2.2.2.2.2.2 h0
      have hgk := hgk g rfl
      have hL := hgk.2.2.2
      have H35 : cH μ (g.1, g.2.1, g.2.1.length) 35 σ := ⟨i2, i3⟩
      have H29 : cH μ (g.1, g.2.1, g.2.1.length) 29 s1 := H35.cp h8 u1 u2 u3
      have ef1 : ∀ i, i ≠ 29 → i ≠ 30 → i ≠ 31 → s1.1 i = σ.1 i := fun i h1 h2 h3 => (F1 i (by simp; omega)).1
      have fin : ∀ τ : wS, Fr [49] s1 τ → (∀ j, j < g.2.1.length → τ.1 49 j = pk (g.2.1.getD j e0)) → b_X11_back_59 Q τ := by
        intro τ hF hK s2 e2
        have ef : ∀ i, i ≠ 49 → i ≠ 50 → s2.1 i = s1.1 i := fun i h1 h2 => by
          have : s2.1 i = τ.1 i := by rw [e2]; exact (setI_ne h2).1
          rw [this]
          exact (hF i (by simpa using h1)).1
        have ad : ∀ i, i ≠ 29 → i ≠ 30 → i ≠ 31 → i ≠ 49 → i ≠ 50 → s2.1 i = σ.1 i := fun i h1 h2 h3 h4 h5 => by rw [ef i h4 h5, ef1 i h1 h2 h3]
        have H2 : cH μ (g.1, g.2.1, g.2.1.length) 29 s2 := H29.mv (fun j h1 h2 => ef j (by omega) (by omega))
        rw [H2.1.2.1]
        have b7 : cS R.1 s2 := a7.mv hl4 (by rw [ad 0 (by omega) (by omega) (by omega) (by omega) (by omega)]) (fun i h1 h2 => ad i (by omega) (by omega) (by omega) (by omega) (by omega))
        obtain ⟨nx, n1, n2, -⟩ := a4
        refine hq s2 ⟨a1.mv (ad 1 (by omega) (by omega) (by omega) (by omega) (by omega)) (ad 2 (by omega) (by omega) (by omega) (by omega) (by omega)), a2.mv (by rw [ad 0 (by omega) (by omega) (by omega) (by omega) (by omega)]; exact ⟨rfl, rfl⟩) (fun i h1 h2 => ad i (by omega) (by omega) (by omega) (by omega) (by omega)), H2, ⟨nx, n1, ?_, ?_, fun i g' hi => absurd hi (by show ¬ ([] : List GH)[i]? = some g'; simp)⟩, ⟨⟨?_, fun k hk => ?_⟩, fun g' hg' => absurd hg' (show ¬ g' ∈ ([] : List GH) from List.not_mem_nil)⟩, cI.mv (I := some g) hC0.2.2.2.2.2.1 (by rw [ad 0 (by omega) (by omega) (by omega) (by omega) (by omega)]) (fun i h1 h2 => ad i (by omega) (by omega) (by omega) (by omega) (by omega)) (ad 55 (by omega) (by omega) (by omega) (by omega) (by omega)), b7, a8.mv (ad 52 (by omega) (by omega) (by omega) (by omega) (by omega)) (ad 53 (by omega) (by omega) (by omega) (by omega) (by omega)) (ad 54 (by omega) (by omega) (by omega) (by omega) (by omega))⟩ (fun i hi => ad i (by omega) (by omega) (by omega) (by omega) (by omega))
        · rw [e2, upI_1, if_neg (by omega), (hF 50 (by decide)).1, ef1 50 (by decide) (by decide) (by decide)]; exact n2
        · rw [e2, upI_1]; simp; rfl
        · show g.2.1.length = min g.2.1.length 60; omega
        · have hk : k < g.2.1.length := hk
          show s2.1 49 ((g.2.1.length - g.2.1.length + k) % 716) = _
          rw [show (g.2.1.length - g.2.1.length + k) % 716 = k by omega]
          have : s2.1 49 = τ.1 49 := by rw [e2]; rfl
          rw [this]
          exact hK k hk
      have key : ∀ (k m : Nat) (τ : wS), m ≤ g.2.1.length → m + k = g.2.1.length + 1 → Fr [49] s1 τ → (∀ j, j < m → τ.1 49 j = pk (g.2.1.getD j e0)) → l_X11_back_22 Q k (nI m) τ := by
        intro k
        induction k with
        | zero => intro m τ h1 h2; omega
        | succ k ih =>
          intro m τ h1 h2 hF hK
          simp only [l_X11_back_22]
          rw [(hF 35 (by decide)).1, ef1 35 (by decide) (by decide) (by decide), i3, nI_leI (by omega) (by omega)]
          refine ⟨fun hc => ?_, fun hc => ?_⟩
          · have : m = g.2.1.length := by omega
            subst this
            exact fin τ hF hK
          · have e60 : ((60 : Int32) ≤ nI m) ↔ 60 ≤ m := nI_leI (a := 60) (by decide) (by omega)
            rw [e60]
            refine ⟨fun q => by omega, fun _ => ⟨vp_in_nI (by omega) (by decide), ?_⟩⟩
            unfold w_X4_putLine
            rw [nI_clamp (show m < 2 ^ 31 by omega), show (716 : Int32) = nI 716 from rfl, pk_rem (by omega) (by decide) (by decide), Nat.mod_eq_of_lt (show m < 716 by omega), nI_clamp (by omega), (hF 55 (by decide)).1, ef1 55 (by decide) (by decide) (by decide), i4 m (by omega)]
            refine ⟨fun q => absurd q (nI_pos (by omega)), fun _ => ⟨vp_in_nI (by omega) (by decide), fun s2 e2 y3 e3 => ?_⟩⟩
            rw [e3, nI_1]
            refine ih (m + 1) s2 (by omega) (by omega) (by rw [e2]; exact hF.upI (by decide)) (fun j hj => ?_)
            rw [e2, upI_1]
            by_cases q : j = m
            · subst q; rw [if_pos ⟨rfl, rfl⟩]
            · rw [if_neg (by omega)]; exact hK j (by omega)
      exact ⟨g.2.1.length + 1, key (g.2.1.length + 1) 0 s1 (by omega) (by omega) Fr.rf (fun j hj => absurd hj (by omega))⟩
  · obtain ⟨T, μ, w, P, I, R⟩ := γ
    have h8 : μ.1 ≤ 8 := hg.n8
    intro s1 e1
    have D1 : D (T, μ, w, P, I, R) s1 := by rw [e1]; exact hD.up (by decide)
    have F1 : Fdm σ s1 := by rw [e1]; exact Fdm.rf.up (by decide)
    have hD0 := D1
    obtain ⟨a1, a2, a3, ⟨fi, p1, p2, p3, p4⟩, a5, a6, a7⟩ := D1
    cases I with
    | none =>
      have e : s1.1 176 25 = 0 := a5
      rw [e]
      exact ⟨fun q => absurd rfl q, fun _ => hq s1 hD0 F1⟩
    | some g =>
      obtain ⟨i1, i2⟩ : s1.1 176 25 = 1 ∧ RowM μ g.1 g.2.1 (s1.1 190) := a5
      rw [i1]
      have h0 : 0 < μ.1 := by
        rcases Nat.eq_zero_or_pos μ.1 with q | q
        · have := (hg.2.2.2.2.2.2.1 q).2.2
          cases this
        · exact q
      obtain ⟨hμ, -, -, hgk⟩ := hg.2.2.2.2.2.2.2 h0
      have hgk := hgk g rfl
      refine ⟨fun _ => m_copy0 (by decide) rfl rfl (fun s2 F2 g2 c2 s4 e4 => ?_), fun q => absurd q (by decide)⟩
      have k4 : ∀ k, k ≠ 24 → s4.1 176 k = s1.1 176 k := fun k hk => by rw [e4, upI_1, if_neg (by omega), (F2 176 (by decide)).1]
      have r4 : ∀ i, i ≠ 176 → i ≠ 188 → s4.1 i = s1.1 i := fun i h1 h2 => by
        have : s4.1 i = s2.1 i := by rw [e4]; exact (setI_ne h1).1
        rw [this]
        exact (F2 i (by simpa using h2)).1
      have R4 : RowM μ g.1 g.2.1 (s4.1 188) := by
        refine i2.mv h8 (fun k hk => ?_)
        have : s4.1 188 = s2.1 188 := by rw [e4]; rfl
        rw [this, c2 k hk]
      have M4 : MoM μ s4 := a2.mv (k4 14 (by decide)) (r4 181 (by decide) (by decide)) (r4 179 (by decide) (by decide)) (r4 182 (by decide) (by decide))
      refine m_taut hμ rfl hgk.1 M4 R4 ?_
      refine hq s4 ⟨?_, M4, R4, ⟨fi, p1, by rw [k4 23 (by decide)]; exact p2, by rw [e4, upI_1]; simp; rfl, fun i g' hi => absurd hi (by show ¬ ([] : List GH)[i]? = some g'; simp)⟩, ⟨by rw [k4 25 (by decide)]; exact i1, by rw [r4 190 (by decide) (by decide)]; exact i2⟩, ?_, ?_⟩ (F1.tr (fun i hi => r4 i (by omega) (by omega)))
      · unfold dT at a1 ⊢
        rw [k4 2 (by decide), r4 177 (by decide) (by decide)]; exact a1
      · unfold dS at a6 ⊢
        rw [k4 15 (by decide), r4 184 (by decide) (by decide), r4 183 (by decide) (by decide)]; exact a6
      · unfold dR at a7 ⊢
        rw [k4 34 (by decide), r4 197 (by decide) (by decide), r4 185 (by decide) (by decide)]; exact a7
  · obtain ⟨T, μ, w, P, I, R⟩ := γ
    cases I with
    | none => exact hg.wk (by omega)
    | some g =>
      obtain ⟨b1, b2, b3, b4, b5, b6, b7, b8⟩ := hg
      have h0 : 0 < μ.1 := by
        rcases Nat.eq_zero_or_pos μ.1 with q | q
        · have := (b7 q).2.2
          cases this
        · exact q
      obtain ⟨c1, c2, c3, c4⟩ := b8 h0
      have c5 := c4 g rfl
      refine ⟨b1, by show ([] : List GH).length ≤ 40; decide, b3, b4, trivial, by show g.2.1.length ≤ bd + 40; have := c5.2.2.2; omega, fun q => ?_, fun _ => ⟨c1, ⟨c5.1, c5.2⟩, fun g' hg' => absurd hg' (show ¬ g' ∈ ([] : List GH) from List.not_mem_nil), c4⟩⟩
      have : μ.1 = 0 := q
      omega
/-! feed -/
def fb (v : Int32) (j : Nat) : Nat := v.toBitVec.toNat / 2 ^ (8 * j) % 256
def ap1 (T : TP) (b : Nat) : TP := if b = 0 then T else (T.1 + 1, fun k => if k = T.1 then bI b else T.2 k)
def nb1 (b : Nat) : Nat := if b = 0 then 0 else 1
def ap4 (T : TP) (v : Int32) : TP := ap1 (ap1 (ap1 (ap1 T (fb v 3)) (fb v 2)) (fb v 1)) (fb v 0)
def nb (v : Int32) : Nat := nb1 (fb v 3) + nb1 (fb v 2) + nb1 (fb v 1) + nb1 (fb v 0)
theorem ap1_n (T : TP) (b : Nat) : (ap1 T b).1 = T.1 + nb1 b := by unfold ap1 nb1; split <;> rfl
theorem ap4_n (T : TP) (v : Int32) : (ap4 T v).1 = T.1 + nb v := by unfold ap4 nb; rw [ap1_n, ap1_n, ap1_n, ap1_n]; omega
theorem fb_lt (v : Int32) (j : Nat) : fb v j < 256 := Nat.mod_lt _ (by decide)
theorem fbC (v : Int32) {j : Nat} (hj : j < 4) : ((v.toUInt32 >>> ((nI (8 * j)).toUInt32 &&& Int32.toUInt32 31)).toInt32 &&& (255 : Int32)) = nI (fb v j) := by
  rw [pk_and _ 8 (by decide)]
  have hs : ∀ j, j < 4 → (((nI (8 * j)).toUInt32 &&& Int32.toUInt32 31).toBitVec % 32).toNat = 8 * j := by decide
  rw [pk_ushr v _ (8 * j) (hs j hj)]
  rfl
theorem fbM (v : Int32) {j : Nat} (hj : j < 4) : ((v >>> (nI (8 * j) &&& 31)) &&& (255 : Int32)) = nI (fb v j) := by
  rw [pk_and _ 8 (by decide)]
  congr 1
  have hs : ∀ j, j < 4 → ((nI (8 * j) &&& 31).toBitVec.smod 32).toNat = 8 * j := by decide
  have h1 := pk_shr v (nI (8 * j) &&& 31) (8 * j) (hs j hj)
  generalize v >>> (nI (8 * j) &&& 31) = y at h1
  have h2 : y.toInt = y.toBitVec.toInt := rfl
  have h3 : v.toInt = v.toBitVec.toInt := rfl
  rw [BitVec.toInt_eq_toNat_cond] at h2 h3
  have h4 := y.toBitVec.isLt
  have h5 := v.toBitVec.isLt
  rw [Int.shiftRight_eq_div_pow] at h1
  unfold fb
  generalize y.toBitVec.toNat = a at h2 h4
  generalize v.toBitVec.toNat = b at h3 h5
  rcases (show j = 0 ∨ j = 1 ∨ j = 2 ∨ j = 3 by omega) with rfl | rfl | rfl | rfl <;> (split at h2 <;> split at h3 <;> omega)
theorem nar_b {b : Nat} (hb : b < 256) : vp_nar .byte (nI b).toInt8.toInt32 = bI b := by
  have : ∀ b, b < 256 → vp_nar .byte (nI b).toInt8.toInt32 = bI b := by decide +kernel
  exact this b hb
theorem s_app1 {T : TP} {j : Nat} {v : Int32} {σ : wS} {n : Nat} {Q : wS → Prop} (hj : j < 4) (hT : cT T σ) (hl : T.1 + nb1 (fb v j) ≤ 240) (hq : ∀ τ : wS, Fr [1, 2] σ τ → cT (ap1 T (fb v j)) τ → l_X10_append_3 Q n v (nI (8 * j) + (-8)) τ) : l_X10_append_3 Q (n + 1) v (nI (8 * j)) σ := by
  simp only [l_X10_append_3]
  refine ⟨fun q => absurd q (nI_pos (by omega)), fun _ y ey => ?_⟩
  rw [fbC v hj] at ey
  subst ey
  have hb := fb_lt v j
  have e0 : nI (fb v j) = 0 ↔ fb v j = 0 := nI_eq (b := 0) (by omega) (by decide)
  rw [e0]
  simp only [b_X10_append_50, forall_eq]
  unfold ap1 at hq
  unfold nb1 at hl
  refine ⟨fun h0 => ?_, fun h0 => ?_⟩
  · rw [if_pos h0] at hq; exact hq σ Fr.rf hT
  · rw [if_neg h0] at hq hl
    have e240 : ((240 : Int32) ≤ nI T.1) ↔ 240 ≤ T.1 := nI_leI (a := 240) (by decide) (by omega)
    rw [hT.1, e240, nI_clamp (by omega), nar_b hb]
    refine ⟨fun q => by omega, fun _ => ⟨vp_in_nI (by omega) (by decide), hq _ ((Fr.rf.upI (by decide)).upI (by decide)) ⟨?_, fun k hk => ?_⟩⟩⟩
    · rw [upI_1]; simp; rw [upI_1]; simp; rw [hT.1, nI_1]
    · rw [upI_1, if_neg (by omega), upI_1]
      show (if 2 = 2 ∧ k = T.1 then bI (fb v j) else σ.1 2 k) = if k = T.1 then bI (fb v j) else T.2 k
      by_cases q : k = T.1
      · rw [if_pos ⟨rfl, q⟩, if_pos q]
      · rw [if_neg (fun z => q z.2), if_neg q]
        exact hT.2 k (by have : k < T.1 + 1 := hk; omega)
theorem s_append {T : TP} {v : Int32} {σ : wS} {Q : wS → Prop} (hT : cT T σ) (hl : T.1 + nb v ≤ 240) (hq : ∀ τ : wS, Fr [1, 2] σ τ → cT (ap4 T v) τ → Q τ) : w_X10_append v σ Q := by
  unfold nb at hl
  refine ⟨5, ?_⟩
  refine s_app1 (j := 3) (by decide) hT (by omega) (fun t1 F1 T1 => ?_)
  refine s_app1 (j := 2) (by decide) T1 (by rw [ap1_n]; omega) (fun t2 F2 T2 => ?_)
  refine s_app1 (j := 1) (by decide) T2 (by rw [ap1_n, ap1_n]; omega) (fun t3 F3 T3 => ?_)
  refine s_app1 (j := 0) (by decide) T3 (by rw [ap1_n, ap1_n, ap1_n]; omega) (fun t4 F4 T4 => ?_)
  simp only [l_X10_append_3]
  exact ⟨fun _ => hq t4 (((F1.tr F2).tr F3).tr F4) T4, fun q => absurd (by decide) q⟩
theorem s_bytesIn {v : Int32} {σ : wS} {Q : Int32 → wS → Prop} (hq : Q (nI (nb v)) σ) : w_X10_bytesIn v σ Q := by
  have st : ∀ (n s j : Nat), j < 4 → l_X10_bytesIn_5 Q n v (nI (s + nb1 (fb v j))) (nI (8 * j) + (-8)) σ → l_X10_bytesIn_5 Q (n + 1) v (nI s) (nI (8 * j)) σ := by
    intro n s j hj h
    simp only [l_X10_bytesIn_5]
    refine ⟨fun q => absurd q (nI_pos (by omega)), fun _ => ?_⟩
    have hb := fb_lt v j
    have e0 : nI (fb v j) = 0 ↔ fb v j = 0 := nI_eq (b := 0) (by omega) (by decide)
    rw [fbC v hj, e0]
    simp only [b_X10_bytesIn_22, forall_eq]
    unfold nb1 at h
    refine ⟨fun h0 => ?_, fun h0 => ?_⟩
    · rw [if_pos h0] at h; exact h
    · rw [if_neg h0] at h; rw [nI_1]; exact h
  refine ⟨5, ?_⟩
  refine st 4 0 3 (by decide) ?_
  refine st 3 _ 2 (by decide) ?_
  refine st 2 _ 1 (by decide) ?_
  refine st 1 _ 0 (by decide) ?_
  simp only [l_X10_bytesIn_5]
  refine ⟨fun _ => ?_, fun q => absurd (by decide) q⟩
  unfold nb at hq
  rw [Nat.zero_add]
  exact hq
theorem m_app1 {T : TP} {j : Nat} {v : Int32} {σ : wS} {n : Nat} {Q : wS → Prop} (hj : j < 4) (hT : dT T σ) (hl : T.1 + nb1 (fb v j) ≤ 240) (hq : ∀ τ : wS, Fr [176, 177] σ τ → (∀ k, k ≠ 2 → τ.1 176 k = σ.1 176 k) → dT (ap1 T (fb v j)) τ → l_X12_brings_3 Q n v (nI (8 * j) + (-8)) τ) : l_X12_brings_3 Q (n + 1) v (nI (8 * j)) σ := by
  simp only [l_X12_brings_3]
  refine ⟨fun q => absurd q (nI_pos (by omega)), fun _ y ey => ?_⟩
  rw [fbM v hj] at ey
  subst ey
  have hb := fb_lt v j
  have e0 : nI (fb v j) = 0 ↔ fb v j = 0 := nI_eq (b := 0) (by omega) (by decide)
  rw [e0]
  simp only [b_X12_brings_43, forall_eq]
  unfold ap1 at hq
  unfold nb1 at hl
  refine ⟨fun h0 => ?_, fun h0 => ?_⟩
  · rw [if_neg h0] at hq hl
    rw [hT.1, nI_clamp (by omega), nar_b hb]
    refine ⟨vp_in_nI (by omega) (by decide), hq _ ((Fr.rf.upI (by decide)).upI (by decide)) (fun k hk => by rw [upI_1, if_neg (by omega), upI_1, if_neg (by omega)]) ⟨?_, fun k hk => ?_⟩⟩
    · rw [upI_1]; simp; rw [upI_1]; simp; rw [hT.1, nI_1]
    · rw [upI_1, if_neg (by omega), upI_1]
      show (if 177 = 177 ∧ k = T.1 then bI (fb v j) else σ.1 177 k) = if k = T.1 then bI (fb v j) else T.2 k
      by_cases q : k = T.1
      · rw [if_pos ⟨rfl, q⟩, if_pos q]
      · rw [if_neg (fun z => q z.2), if_neg q]
        exact hT.2 k (by have : k < T.1 + 1 := hk; omega)
  · rw [if_pos h0] at hq; exact hq σ Fr.rf (fun _ _ => rfl) hT
theorem m_brings {T : TP} {v : Int32} {σ : wS} {Q : wS → Prop} (hT : dT T σ) (hl : T.1 + nb v ≤ 240) (hq : ∀ τ : wS, Fr [176, 177] σ τ → (∀ k, k ≠ 2 → τ.1 176 k = σ.1 176 k) → dT (ap4 T v) τ → Q τ) : w_X12_brings v σ Q := by
  unfold nb at hl
  refine ⟨5, ?_⟩
  refine m_app1 (j := 3) (by decide) hT (by omega) (fun t1 F1 k1 T1 => ?_)
  refine m_app1 (j := 2) (by decide) T1 (by rw [ap1_n]; omega) (fun t2 F2 k2 T2 => ?_)
  refine m_app1 (j := 1) (by decide) T2 (by rw [ap1_n, ap1_n]; omega) (fun t3 F3 k3 T3 => ?_)
  refine m_app1 (j := 0) (by decide) T3 (by rw [ap1_n, ap1_n, ap1_n]; omega) (fun t4 F4 k4 T4 => ?_)
  simp only [l_X12_brings_3]
  exact ⟨fun _ => hq t4 (((F1.tr F2).tr F3).tr F4) (fun k hk => by rw [k4 k hk, k3 k hk, k2 k hk, k1 k hk]) T4, fun q => absurd (by decide) q⟩
theorem m_bytesOf {v : Int32} {σ : wS} {Q : Int32 → wS → Prop} (hq : Q (nI (nb v)) σ) : w_X12_bytesOf v σ Q := by
  have st : ∀ (n s j : Nat), j < 4 → l_X12_bytesOf_4 Q n v (nI (s + nb1 (fb v j))) (nI (j + 1)) σ → l_X12_bytesOf_4 Q (n + 1) v (nI s) (nI j) σ := by
    intro n s j hj h
    simp only [l_X12_bytesOf_4]
    have e4 : ((4 : Int32) ≤ nI j) ↔ 4 ≤ j := nI_leI (a := 4) (by decide) (by omega)
    have hb := fb_lt v j
    have e0 : nI (fb v j) = 0 ↔ fb v j = 0 := nI_eq (b := 0) (by omega) (by decide)
    rw [e4, show (8 : Int32) * nI j = nI (8 * j) by rw [show (8 : Int32) = nI 8 from rfl, pk_mul], fbM v hj, e0]
    simp only [b_X12_bytesOf_28, forall_eq]
    unfold nb1 at h
    refine ⟨fun q => by omega, fun _ => ⟨fun h0 => ?_, fun h0 => ?_⟩⟩
    · rw [if_neg h0] at h; rw [nI_1, nI_1]; exact h
    · rw [if_pos h0] at h; rw [Int32.add_zero, nI_1]; exact h
  refine ⟨5, ?_⟩
  refine st 4 0 0 (by decide) ?_
  refine st 3 _ 1 (by decide) ?_
  refine st 2 _ 2 (by decide) ?_
  refine st 1 _ 3 (by decide) ?_
  simp only [l_X12_bytesOf_4]
  refine ⟨fun _ => ?_, fun q => absurd (by decide) q⟩
  unfold nb at hq
  rw [show 0 + nb1 (fb v 0) + nb1 (fb v 1) + nb1 (fb v 2) + nb1 (fb v 3) = nb1 (fb v 3) + nb1 (fb v 2) + nb1 (fb v 1) + nb1 (fb v 0) by omega]
  exact hq
def apA (T : TP) (a b c d e : Int32) : TP := ap4 (ap4 (ap4 (ap4 (ap4 T a) b) c) d) e
def f_feed (a b c d e : Int32) (γ : GS) : Int32 × GS := if γ.1.1 + (nb a + nb b + nb c + nb d + nb e) ≤ 240 then (nI (apA γ.1 a b c d e).1, (apA γ.1 a b c d e, γ.2)) else (-1, γ)
theorem nb_le (v : Int32) : nb v ≤ 4 := by
  unfold nb nb1
  split <;> split <;> split <;> split <;> omega
def tok (T : TP) : Prop := ∀ k, k < T.1 → ∃ b, 1 ≤ b ∧ b < 256 ∧ T.2 k = bI b
theorem tok_1 {T : TP} {b : Nat} (hb : b < 256) (h : tok T) : tok (ap1 T b) := by
  unfold ap1
  split
  · exact h
  · rename_i h0
    intro k hk
    have hk : k < T.1 + 1 := hk
    show ∃ c, 1 ≤ c ∧ c < 256 ∧ (if k = T.1 then bI b else T.2 k) = bI c
    by_cases q : k = T.1
    · rw [if_pos q]; exact ⟨b, by omega, hb, rfl⟩
    · rw [if_neg q]; exact h k (by omega)
theorem tok_4 {T : TP} {v : Int32} (h : tok T) : tok (ap4 T v) := tok_1 (fb_lt _ _) (tok_1 (fb_lt _ _) (tok_1 (fb_lt _ _) (tok_1 (fb_lt _ _) h)))
theorem o_feed {bd : Nat} {σ : wS} {a b c d e : Int32} (hI : In bd σ) : w_X11_feed a b c d e σ (fun r1 s => w_X12_feed a b c d e s (fun r' s' => r1 = r' ∧ In (bd + 40) s')) := by
  have na := nb_le a
  have nb' := nb_le b
  have nc := nb_le c
  have nd := nb_le d
  have ne := nb_le e
  refine prI (f := f_feed a b c d e) (w1 := w_X11_feed a b c d e) (w2 := w_X12_feed a b c d e) (fun γ σ Q hC hg hq => ?_) (fun γ σ Q hD hg hq => ?_) (fun γ hg => ?_) hI
  · unfold f_feed at hq
    have hl := hg.1.1
    refine s_bytesIn (s_bytesIn (s_bytesIn (s_bytesIn (s_bytesIn (fun y ey => ?_)))))
    rw [nI_add, nI_add, nI_add, nI_add] at ey
    rw [ey, hC.1.1, nI_add]
    have e240 : (nI (γ.1.1 + (nb a + nb b + nb c + nb d + nb e)) ≤ (240 : Int32)) ↔ γ.1.1 + (nb a + nb b + nb c + nb d + nb e) ≤ 240 := nI_leI (b := 240) (by omega) (by decide)
    rw [e240]
    refine ⟨fun h => ?_, fun h => by rw [if_neg h] at hq; exact hq σ hC Fcm.rf⟩
    rw [if_pos h] at hq
    refine s_append hC.1 (by omega) (fun t1 F1 T1 => ?_)
    refine s_append T1 (by rw [ap4_n]; omega) (fun t2 F2 T2 => ?_)
    refine s_append T2 (by rw [ap4_n, ap4_n]; omega) (fun t3 F3 T3 => ?_)
    refine s_append T3 (by rw [ap4_n, ap4_n, ap4_n]; omega) (fun t4 F4 T4 => ?_)
    refine s_append T4 (by rw [ap4_n, ap4_n, ap4_n, ap4_n]; omega) (fun t5 F5 T5 => ?_)
    have F : Fr [1, 2] σ t5 := (((F1.tr F2).tr F3).tr F4).tr F5
    rw [T5.1]
    obtain ⟨a1, a2, a3, a4, a5, a6, a7, a8⟩ := hC
    have ef : ∀ i, i ≠ 1 → i ≠ 2 → t5.1 i = σ.1 i := fun i h1 h2 => (F i (by simp; omega)).1
    have b7 : cS γ.2.2.2.2.2.1 t5 := a7.mv hg.2.2.1.1 (by rw [ef 0 (by decide) (by decide)]) (fun i h1 h2 => ef i (by omega) (by omega))
    exact hq t5 ⟨T5, a2.mv (by rw [ef 0 (by decide) (by decide)]; exact ⟨rfl, rfl⟩) (fun i h1 h2 => ef i (by omega) (by omega)), a3.mv (fun j h1 h2 => ef j (by omega) (by omega)), a4.mv (ef 50 (by decide) (by decide)) (fun i h1 h2 => ef i (by omega) (by omega)), a5.mv (ef 49 (by decide) (by decide)), a6.mv (by rw [ef 0 (by decide) (by decide)]) (fun i h1 h2 => ef i (by omega) (by omega)) (ef 55 (by decide) (by decide)), b7, a8.mv (ef 52 (by decide) (by decide)) (ef 53 (by decide) (by decide)) (ef 54 (by decide) (by decide))⟩ (F.c (by decide))
  · intro s1 e1
    have D1 : D γ s1 := by rw [e1]; exact hD.up (by decide)
    have F1' : Fdm σ s1 := by rw [e1]; exact Fdm.rf.up (by decide)
    unfold f_feed at hq
    have hl := hg.1.1
    refine m_bytesOf (m_bytesOf (m_bytesOf (m_bytesOf (m_bytesOf ?_))))
    rw [D1.1.1, nI_add, nI_add, nI_add, nI_add, nI_add]
    have e240 : (nI (γ.1.1 + nb a + nb b + nb c + nb d + nb e) ≤ (240 : Int32)) ↔ γ.1.1 + nb a + nb b + nb c + nb d + nb e ≤ 240 := nI_leI (b := 240) (by omega) (by decide)
    rw [e240]
    refine ⟨fun h => ?_, fun h => by rw [if_neg (by omega)] at hq; exact hq s1 D1 F1'⟩
    rw [if_pos (by omega)] at hq
    refine m_brings D1.1 (by omega) (fun t1 F1 k1 T1 => ?_)
    refine m_brings T1 (by rw [ap4_n]; omega) (fun t2 F2 k2 T2 => ?_)
    refine m_brings T2 (by rw [ap4_n, ap4_n]; omega) (fun t3 F3 k3 T3 => ?_)
    refine m_brings T3 (by rw [ap4_n, ap4_n, ap4_n]; omega) (fun t4 F4 k4 T4 => ?_)
    refine m_brings T4 (by rw [ap4_n, ap4_n, ap4_n, ap4_n]; omega) (fun t5 F5 k5 T5 => ?_)
    have F : Fr [176, 177] s1 t5 := (((F1.tr F2).tr F3).tr F4).tr F5
    have ek : ∀ k, k ≠ 2 → t5.1 176 k = s1.1 176 k := fun k hk => by rw [k5 k hk, k4 k hk, k3 k hk, k2 k hk, k1 k hk]
    have ef : ∀ i, i ≠ 176 → i ≠ 177 → t5.1 i = s1.1 i := fun i h1 h2 => (F i (by simp; omega)).1
    rw [T5.1]
    obtain ⟨a1, a2, a3, a4, a5, a6, a7⟩ := D1
    refine hq t5 ⟨T5, a2.mv (ek 14 (by decide)) (ef 181 (by decide) (by decide)) (ef 179 (by decide) (by decide)) (ef 182 (by decide) (by decide)), by rw [ef 188 (by decide) (by decide)]; exact a3, a4.mv (ek 23 (by decide)) (ek 24 (by decide)) (ef 191 (by decide) (by decide)), a5.mv (ek 25 (by decide)) (ef 190 (by decide) (by decide)), ?_, ?_⟩ (F1'.tr (F.d (by decide)))
    · unfold dS at a6 ⊢; rw [ek 15 (by decide), ef 184 (by decide) (by decide), ef 183 (by decide) (by decide)]; exact a6
    · unfold dR at a7 ⊢; rw [ek 34 (by decide), ef 197 (by decide) (by decide), ef 185 (by decide) (by decide)]; exact a7
  · unfold f_feed
    split
    · rename_i h
      obtain ⟨a1, a2, a3, a4, a5, a6, a7, a8⟩ := hg
      have hn : (apA γ.1 a b c d e).1 = γ.1.1 + (nb a + nb b + nb c + nb d + nb e) := by unfold apA; rw [ap4_n, ap4_n, ap4_n, ap4_n, ap4_n]; omega
      refine ⟨⟨by show (apA γ.1 a b c d e).1 ≤ 240; omega, ?_⟩, a2, a3, a4, a5, by show γ.2.2.1.2.2 ≤ bd + 40; omega, a7, a8⟩
      exact tok_4 (tok_4 (tok_4 (tok_4 (tok_4 a1.2))))
    · exact hg.wk (by omega)
