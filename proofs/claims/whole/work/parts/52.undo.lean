/-! undo -/
def f_undo (γ : GS) : Int32 × GS := match γ.2.2.2.1 with
  | [] => (-1, γ)
  | g :: P => (nI P.length, (γ.1, γ.2.1, g, P, γ.2.2.2.2))
theorem o_undo {bd : Nat} {σ : wS} (hI : In bd σ) : w_X11_undo σ (fun r1 s => w_X12_undo s (fun r' s' => r1 = r' ∧ In (bd + 40) s')) := by
  refine prI (f := f_undo) (w1 := w_X11_undo) (w2 := w_X12_undo) (fun γ σ Q hC hg hq => ?_) (fun γ σ Q hD hg hq => ?_) (fun γ hg => ?_) hI
  · obtain ⟨T, μ, w, P, R⟩ := γ
    have h8 : μ.1 ≤ 8 := hg.n8
    have hP40 : P.length ≤ 40 := hg.2.1
    unfold w_X11_undo w_X6_pop
    have hC0 := hC
    obtain ⟨a1, a2, a3, ⟨nx, p1, p2, p3, p4⟩, a5, a6, a7, a8⟩ := hC
    cases P with
    | nil =>
      have e : σ.1 50 2 = 0 := p3
      rw [e]
      exact ⟨fun q => absurd rfl q, fun _ => ⟨fun _ => hq σ hC0 Fcm.rf, fun q => absurd rfl q⟩⟩
    | cons g P =>
      have e : σ.1 50 2 = nI (P.length + 1) := p3
      rw [e, p2]
      have hl : P.length + 1 ≤ 40 := hP40
      refine ⟨fun _ s1 e1 s2 e2 => ?_, fun q => absurd q (nI_ne0 (by omega) (by omega))⟩
      rw [show (40 : Int32) = nI 40 from rfl, nI_add, show (1 : Int32) = nI 1 from rfl, pk_sub (by omega), pk_rem (by omega) (by decide) (by decide)] at e1
      have x2 : s1.1 50 2 = nI (P.length + 1) := by rw [e1, upI_1]; simp; exact e
      rw [x2, show (1 : Int32) = nI 1 from rfl, pk_sub (by omega), Nat.add_sub_cancel] at e2
      have y1 : s2.1 50 1 = nI ((nx + 40 - 1) % 40) := by rw [e2, e1]; simp [upI_1]
      have y2 : s2.1 50 2 = nI P.length := by rw [e2]; simp [upI_1]
      have hm := Nat.mod_lt (nx + 40 - 1) (show 0 < 40 by decide)
      rw [y1, nI_clamp (by omega)]
      refine ⟨vp_in_nI hm (by decide), s_copy (by omega) (fun s4 F4 g4 u1 u2 u3 => ⟨fun q => absurd q (by decide), fun _ => ?_⟩)⟩
      have d2 : ∀ j, j ≠ 50 → s2.1 j = σ.1 j := fun j hj => by rw [e2, e1]; funext k; simp only [upI_1, hj, false_and, if_false]
      have d4 : ∀ j, j ≠ 29 → j ≠ 30 → j ≠ 31 → s4.1 j = s2.1 j := fun j h1 h2 h3 => (F4 j (by simp; omega)).1
      have ad : ∀ j, j ≠ 29 → j ≠ 30 → j ≠ 31 → j ≠ 50 → s4.1 j = σ.1 j := fun j h1 h2 h3 h4 => by rw [d4 j h1 h2 h3, d2 j h4]
      have z2 : s4.1 50 2 = nI P.length := by rw [d4 50 (by omega) (by omega) (by omega)]; exact y2
      rw [z2]
      have hl4 : R.2.1.length ≤ 4 := hg.2.2.1.1
      have b7 : cS R.2.1 s4 := a7.mv hl4 (by rw [ad 0 (by omega) (by omega) (by omega) (by omega)]) (fun i h1 h2 => ad i (by omega) (by omega) (by omega) (by omega))
      refine hq s4 ⟨a1.mv (ad 1 (by omega) (by omega) (by omega) (by omega)) (ad 2 (by omega) (by omega) (by omega) (by omega)), a2.mv (by rw [ad 0 (by omega) (by omega) (by omega) (by omega)]; exact ⟨rfl, rfl⟩) (fun i h1 h2 => ad i (by omega) (by omega) (by omega) (by omega)), ?_, ?_, ?_, a6.mv (by rw [ad 0 (by omega) (by omega) (by omega) (by omega)]) (fun i h1 h2 => ad i (by omega) (by omega) (by omega) (by omega)) (ad 55 (by omega) (by omega) (by omega) (by omega)), b7, a8.mv (ad 52 (by omega) (by omega) (by omega) (by omega)) (ad 53 (by omega) (by omega) (by omega) (by omega)) (ad 54 (by omega) (by omega) (by omega) (by omega))⟩ (fun i hi => ad i (by omega) (by omega) (by omega) (by omega))
      · have h0 := p4 0 g rfl
        rw [show (nx + 39 - 0) % 40 = (nx + 40 - 1) % 40 by omega] at h0
        have h2 : cH μ g (56 + 3 * ((nx + 40 - 1) % 40)) s2 := h0.mv (fun j h1 h2 => d2 j (by omega))
        exact h2.cp h8 u1 u2 u3
      · refine ⟨(nx + 40 - 1) % 40, hm, by rw [d4 50 (by omega) (by omega) (by omega)]; exact y1, z2, fun i g' hi => ?_⟩
        have hi : P[i]? = some g' := hi
        have hil : i < P.length := (List.getElem?_eq_some_iff.mp hi).1
        have h1 := p4 (i + 1) g' (by rw [List.getElem?_cons_succ]; exact hi)
        rw [show ((nx + 40 - 1) % 40 + 39 - i) % 40 = (nx + 39 - (i + 1)) % 40 by omega]
        exact h1.mv (fun j h1 h2 => ad j (by omega) (by omega) (by omega) (by omega))
      · have e49 : s4.1 49 = σ.1 49 := ad 49 (by omega) (by omega) (by omega) (by omega)
        exact ⟨by rw [e49]; exact a5.2 g (List.mem_cons_self), fun g' hg' => by rw [e49]; exact a5.2 g' (List.mem_cons_of_mem _ hg')⟩
  · obtain ⟨T, μ, w, P, R⟩ := γ
    have h8 : μ.1 ≤ 8 := hg.n8
    have hP40 : P.length ≤ 40 := hg.2.1
    intro s0 e0
    have D0 : D (T, μ, w, P, R) s0 := by rw [e0]; exact hD.up (by decide)
    have F0 : Fdm σ s0 := by rw [e0]; exact Fdm.rf.up (by decide)
    have hD0 := D0
    obtain ⟨a1, a2, a3, ⟨fi, p1, p2, p3, p4⟩, a5, a6, a7⟩ := D0
    cases P with
    | nil =>
      have e : s0.1 176 24 = 0 := p3
      rw [e]
      exact ⟨fun q => absurd rfl q, fun _ => hq s0 hD0 F0⟩
    | cons g P =>
      have e : s0.1 176 24 = nI (P.length + 1) := p3
      have hl : P.length + 1 ≤ 40 := hP40
      rw [e]
      refine ⟨fun _ s2 e2 => ?_, fun q => absurd q (nI_ne0 (by omega) (by omega))⟩
      rw [show (1 : Int32) = nI 1 from rfl, pk_sub (by omega), Nat.add_sub_cancel] at e2
      have y1 : s2.1 176 23 = nI fi := by rw [e2, upI_1]; simp; exact p2
      have y2 : s2.1 176 24 = nI P.length := by rw [e2]; simp [upI_1]
      have d2 : ∀ j, j ≠ 176 → s2.1 j = s0.1 j := fun j hj => by rw [e2]; exact (setI_ne hj).1
      have k2 : ∀ k, k ≠ 24 → s2.1 176 k = s0.1 176 k := fun k hk => by rw [e2, upI_1, if_neg (by omega)]
      rw [y1, y2, nI_add, show (40 : Int32) = nI 40 from rfl, pk_rem (by omega) (by decide) (by decide), show (202 : Int32) = nI 202 from rfl, pk_mul]
      have hm := Nat.mod_lt (fi + P.length) (show 0 < 40 by decide)
      have l188 : ln 188 = 202 := rfl
      have l191 : ln 191 = 8080 := rfl
      refine m_copy (p := 191) (q := 188) (t := 0) (by decide) (by omega) (by omega) (by omega) (by omega) (fun s3 F3 g3 c3 _ => ?_)
      have x176 : s3.1 176 = s2.1 176 := (F3 176 (by decide)).1
      have xx : ∀ i, i ≠ 176 → i ≠ 188 → s3.1 i = s0.1 i := fun i h1 h2 => by rw [(F3 i (by simpa using h2)).1, d2 i h1]
      rw [x176, y2]
      refine hq s3 ⟨?_, a2.mv (by rw [x176, k2 14 (by decide)]) (xx 181 (by decide) (by decide)) (xx 179 (by decide) (by decide)) (xx 182 (by decide) (by decide)), ?_, ?_, a5.mv (by rw [x176, k2 25 (by decide)]) (xx 190 (by decide) (by decide)), ?_, ?_⟩ (F0.tr (fun i hi => xx i (by omega) (by omega)))
      · unfold dT at a1 ⊢
        rw [x176, k2 2 (by decide), xx 177 (by decide) (by decide)]; exact a1
      · have h0 := p4 0 g rfl
        refine h0.mv h8 (fun k hk => ?_)
        have := c3 k hk
        rw [Nat.zero_add] at this
        rw [this, d2 191 (by decide)]
        have ee : (fi + (g :: P).length - 1 - 0) % 40 = (fi + P.length) % 40 := by rw [List.length_cons]; congr 1
        show _ = s0.1 191 (202 * ((fi + (g :: P).length - 1 - 0) % 40) + k)
        rw [ee]
      · refine ⟨fi, p1, by rw [x176]; exact y1, by rw [x176]; exact y2, fun i g' hi => ?_⟩
        have hi : P[i]? = some g' := hi
        have hil : i < P.length := (List.getElem?_eq_some_iff.mp hi).1
        have h1 := p4 (i + 1) g' (by rw [List.getElem?_cons_succ]; exact hi)
        refine h1.mv h8 (fun k hk => ?_)
        show s3.1 191 (202 * ((fi + P.length - 1 - i) % 40) + k) = s0.1 191 (202 * ((fi + (g :: P).length - 1 - (i + 1)) % 40) + k)
        rw [xx 191 (by decide) (by decide), List.length_cons, show fi + (P.length + 1) - 1 - (i + 1) = fi + P.length - 1 - i by omega]
      · unfold dS at a6 ⊢
        rw [x176, k2 15 (by decide), xx 184 (by decide) (by decide), xx 183 (by decide) (by decide)]; exact a6
      · unfold dR at a7 ⊢
        rw [x176, k2 34 (by decide), xx 197 (by decide) (by decide), xx 185 (by decide) (by decide)]; exact a7
  · obtain ⟨T, μ, w, P, R⟩ := γ
    cases P with
    | nil => exact hg.wk (by omega)
    | cons g P =>
      obtain ⟨a1, a2, a3, a4, a5, a6, a7, a8⟩ := hg
      have a2 : P.length + 1 ≤ 40 := a2
      have a5 : g.2.2 ≤ w.2.2 ∧ w.2.2 ≤ g.2.2 + 16 ∧ chn g.2.2 P := a5
      have a6 : w.2.2 ≤ bd := a6
      refine ⟨a1, show P.length ≤ 40 by omega, a3, a4, a5.2.2, show g.2.2 ≤ bd + 40 by omega, fun q => ?_, fun q => ?_⟩
      · have := (a7 q).2.1
        cases this
      · obtain ⟨b1, b2, b3, b4⟩ := a8 q
        exact ⟨b1, b3 g List.mem_cons_self, fun g' hg' => b3 g' (List.mem_cons_of_mem _ hg'), b4⟩
/-! image -/
def f_image (γ : GS) : Int32 × GS := if 0 < γ.2.1.1 then (nI γ.2.2.1.1.2.2.1.1, (γ.1, γ.2.1, γ.2.2.1, γ.2.2.2.1, some γ.2.2.1, γ.2.2.2.2.2)) else (-1, γ)
theorem o_image {bd : Nat} {σ : wS} (hb : bd < 2 ^ 30) (hI : In bd σ) : w_X11_image σ (fun r1 s => w_X12_image s (fun r' s' => r1 = r' ∧ In (bd + 40) s')) := by
  refine prI (f := f_image) (w1 := w_X11_image) (w2 := w_X12_image) (fun γ σ Q hC hg hq => ?_) (fun γ σ Q hD hg hq => ?_) (fun γ hg => ?_) hI
  · unfold f_image at hq
    unfold w_X11_image
    have h8 := hg.n8
    have hN := hg.2.2.2.2.2.1
    rw [s_hasM hg hC]
    refine sw' (fun h0 y3 e3 => ?_) (fun hf => by rw [if_neg hf] at hq; exact hq σ hC Fcm.rf)
    rw [if_pos h0] at hq
    have hJ := hC.2.2.2.2.1.1
    rw [hC.2.2.1.2, min60 (by omega), ← hJ.1] at e3
    subst e3
    have hL := hJ.1
    have key : ∀ (k m : Nat) (τ : wS), m ≤ γ.2.2.1.2.1.length → m + k = γ.2.2.1.2.1.length + 1 → Fr [55] σ τ → (∀ j, j < m → τ.1 55 j = pk (γ.2.2.1.2.1.getD j e0)) → l_X11_image_24 Q k (nI γ.2.2.1.2.1.length) (nI m) τ := by
      intro k
      induction k with
      | zero => intro m τ h1 h2; omega
      | succ k ih =>
        intro m τ h1 h2 hF hK
        simp only [l_X11_image_24]
        rw [nI_leI (by omega) (by omega)]
        have ef : ∀ i, i ≠ 55 → τ.1 i = σ.1 i := fun i hi => (hF i (by simpa using hi)).1
        refine ⟨fun hc => s_copy (by omega) (fun s1 F1 g1 u1 u2 u3 s3 e3 s4 e4 => ?_), fun hc => ?_⟩
        · have hm : m = γ.2.2.1.2.1.length := by omega
          have d4 : ∀ j, j ≠ 0 → j ≠ 35 → j ≠ 36 → j ≠ 37 → s4.1 j = τ.1 j := fun j h1 h2 h3 h4 => by
            have : s4.1 j = s1.1 j := by rw [e4, e3]; funext k; simp only [upI_1, h1, h2, false_and, if_false]
            rw [this]
            exact (F1 j (by simp; omega)).1
          have d0 : ∀ k, k ≠ 16 → s4.1 0 k = σ.1 0 k := fun k hk => by
            rw [e4, e3]
            simp only [upI_1, hk, and_false, if_false]
            rw [if_neg (by omega), (F1 0 (by decide)).1, ef 0 (by decide)]
          have ad : ∀ j, j ≠ 0 → j ≠ 35 → j ≠ 36 → j ≠ 37 → j ≠ 55 → s4.1 j = σ.1 j := fun j h1 h2 h3 h4 h5 => by rw [d4 j h1 h2 h3 h4, ef j h5]
          have hT : cH γ.2.1 γ.2.2.1 29 τ := hC.2.2.1.mv (fun j h1 h2 => ef j (by omega))
          have h35 : cH γ.2.1 γ.2.2.1 35 s1 := hT.cp h8 u1 u2 u3
          have x2 : s4.1 35 2 = nI γ.2.2.1.1.2.2.1.1 := by rw [e4, e3]; simp [upI_1]; exact h35.1.2.1
          rw [x2]
          have hl4 := hg.2.2.1.1
          obtain ⟨a1, a2, a3, a4, a5, a6, a7, a8⟩ := hC
          have b7 : cS γ.2.2.2.2.2.1 s4 := a7.mv hl4 (d0 5 (by decide)) (fun i h1 h2 => ad i (by omega) (by omega) (by omega) (by omega) (by omega))
          refine hq s4 ⟨a1.mv (ad 1 (by omega) (by omega) (by omega) (by omega) (by omega)) (ad 2 (by omega) (by omega) (by omega) (by omega) (by omega)), a2.mv ⟨d0 2 (by decide), d0 3 (by decide)⟩ (fun i h1 h2 => ad i (by omega) (by omega) (by omega) (by omega) (by omega)), a3.mv (fun i h1 h2 => ad i (by omega) (by omega) (by omega) (by omega) (by omega)), a4.mv (ad 50 (by omega) (by omega) (by omega) (by omega) (by omega)) (fun i h1 h2 => ad i (by omega) (by omega) (by omega) (by omega) (by omega)), a5.mv (ad 49 (by omega) (by omega) (by omega) (by omega) (by omega)), ⟨?_, ?_, ?_, fun k hk => ?_⟩, b7, a8.mv (ad 52 (by omega) (by omega) (by omega) (by omega) (by omega)) (ad 53 (by omega) (by omega) (by omega) (by omega) (by omega)) (ad 54 (by omega) (by omega) (by omega) (by omega) (by omega))⟩ (fun i hi => ad i (by omega) (by omega) (by omega) (by omega) (by omega))
          · rw [e4, upI_1]; simp
          · obtain ⟨⟨q1, q2⟩, q3, q4, q5, q6, q7⟩ := h35.1
            have z36 : s4.1 36 = s1.1 36 := by rw [e4, e3]; rfl
            have z37 : s4.1 37 = s1.1 37 := by rw [e4, e3]; rfl
            refine ⟨⟨fun r hr => by rw [show 35 + 1 = 36 from rfl, z36]; exact q1 r hr, fun a ha => by rw [show 35 + 2 = 37 from rfl, z37]; exact q2 a ha⟩, ?_, ?_, ?_, ?_, ?_⟩ <;> (rw [e4, e3]; simp [upI_1])
            · exact q3
            · exact q4
            · exact q5
            · exact q6
            · exact q7
          · rw [e4, e3]; simp [upI_1]
          · rw [d4 55 (by omega) (by omega) (by omega) (by omega)]
            exact hK k (by rw [hm]; exact hk)
        · have e1 : τ.1 29 7 - nI γ.2.2.1.2.1.length + nI m = nI (γ.2.2.1.2.2 - γ.2.2.1.2.1.length + m) := by rw [ef 29 (by decide), hC.2.2.1.2, pk_sub (by omega), nI_add]
          unfold w_X4_lineAt
          rw [e1, show (716 : Int32) = nI 716 from rfl, pk_rem (by omega) (by decide) (by decide), nI_clamp (show m < 2 ^ 31 by omega), nI_clamp (show (γ.2.2.1.2.2 - γ.2.2.1.2.1.length + m) % 716 < 2 ^ 31 by omega), ef 49 (by decide), hJ.2 m (by omega)]
          refine ⟨fun q => absurd q (nI_pos (by omega)), fun _ => ⟨vp_in_nI (Nat.mod_lt _ (by decide)) (by decide), vp_in_nI (by omega) (by decide), fun s7 e7 y8 e8 => ?_⟩⟩
          rw [e8, nI_1]
          refine ih (m + 1) s7 (by omega) (by omega) (by rw [e7]; exact hF.upI (by decide)) (fun j hj => ?_)
          rw [e7, upI_1]
          by_cases q : j = m
          · subst q; rw [if_pos ⟨rfl, rfl⟩]
          · rw [if_neg (by omega)]; exact hK j (by omega)
    exact ⟨γ.2.2.1.2.1.length + 1, key (γ.2.2.1.2.1.length + 1) 0 σ (by omega) (by omega) Fr.rf (fun j hj => absurd hj (by omega))⟩
  · intro s1 e1
    have D1 : D γ s1 := by rw [e1]; exact hD.up (by decide)
    have F1 : Fdm σ s1 := by rw [e1]; exact Fdm.rf.up (by decide)
    unfold f_image at hq
    have h8 := hg.n8
    rw [D1.2.1.1, n0_iff h8]
    refine ⟨fun h0 => ?_, fun h0 => by rw [if_neg h0] at hq; exact hq s1 D1 F1⟩
    have h0 : 0 < γ.2.1.1 := by omega
    rw [if_pos h0] at hq
    obtain ⟨hμ, hk, hs, -⟩ := hg.hk h0
    refine m_copy0 (by decide) rfl rfl (fun s2 F2 g2 c2 s4 e4 => ?_)
    have k4 : ∀ k, k ≠ 25 → s4.1 176 k = s1.1 176 k := fun k hk => by rw [e4, upI_1, if_neg (by omega), (F2 176 (by decide)).1]
    have r4 : ∀ i, i ≠ 176 → i ≠ 190 → s4.1 i = s1.1 i := fun i h1 h2 => by
      have : s4.1 i = s2.1 i := by rw [e4]; exact (setI_ne h1).1
      rw [this]
      exact (F2 i (by simpa using h2)).1
    obtain ⟨a1, a2, a3, a4, a5, a6, a7⟩ := D1
    have R4 : RowM γ.2.1 γ.2.2.1.1 γ.2.2.1.2.1 (s4.1 188) := by rw [r4 188 (by decide) (by decide)]; exact a3
    have M4 : MoM γ.2.1 s4 := a2.mv (k4 14 (by decide)) (r4 181 (by decide) (by decide)) (r4 179 (by decide) (by decide)) (r4 182 (by decide) (by decide))
    refine m_taut hμ rfl hk M4 R4 ?_
    refine hq s4 ⟨?_, M4, R4, a4.mv (k4 23 (by decide)) (k4 24 (by decide)) (r4 191 (by decide) (by decide)), ⟨by rw [e4, upI_1]; simp, ?_⟩, ?_, ?_⟩ (F1.tr (fun i hi => r4 i (by omega) (by omega)))
    · unfold dT at a1 ⊢
      rw [k4 2 (by decide), r4 177 (by decide) (by decide)]; exact a1
    · refine a3.mv h8 (fun k hk => ?_)
      have : s4.1 190 = s2.1 190 := by rw [e4]; rfl
      rw [this, c2 k hk]
    · unfold dS at a6 ⊢
      rw [k4 15 (by decide), r4 184 (by decide) (by decide), r4 183 (by decide) (by decide)]; exact a6
    · unfold dR at a7 ⊢
      rw [k4 34 (by decide), r4 197 (by decide) (by decide), r4 185 (by decide) (by decide)]; exact a7
  · unfold f_image
    split
    · rename_i h0
      obtain ⟨a1, a2, a3, a4, a5, a6, a7, a8⟩ := hg
      obtain ⟨b1, b2, b3, b4⟩ := a8 h0
      refine ⟨a1, a2, a3, a4, a5, by show γ.2.2.1.2.2 ≤ bd + 40; omega, fun q => ?_, fun _ => ⟨b1, b2, b3, fun g hgm => ?_⟩⟩
      · have : γ.2.1.1 = 0 := q
        omega
      · have : γ.2.2.1 = g := by simpa using hgm
        subst this
        exact b2
    · exact hg.wk (by omega)
