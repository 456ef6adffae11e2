def trA (w : Int32) (b : BT) : Int64 := if w = 0 then (bR b).toInt64 else if w = 1 then (bTn b).toInt64 else tl (bU b) (bL b) (w - 2)
def f_trim (p w : Int32) (γ : GS) : Int64 × GS := (if (0 < γ.2.1.1 ∧ (1 ≤ p.toInt ∧ p.toInt ≤ 3)) ∧ (0 ≤ w.toInt ∧ w.toInt ≤ 3) then trA w (tro γ.2.1 γ.2.2.1.1 p.toInt.toNat γ.2.1.1) else -1000000, γ)
theorem s_trim {γ : GS} {bd : Nat} {σ : wS} {p w : Int32} {Q : Int64 → wS → Prop} (hC : C γ σ) (hg : gok γ bd) (hq : ∀ τ, C (f_trim p w γ).2 τ → Fcm σ τ → Q (f_trim p w γ).1 τ) : w_X11_trim p w σ Q := by
  unfold f_trim at hq
  unfold w_X11_trim
  rw [s_hasM hg hC]
  refine sw (fun h0 => ?_) (fun h0 => by rw [if_neg (fun q => h0 q.1.1)] at hq; exact hq σ hC Fcm.rf)
  rw [w1_3]
  refine sw (fun hp => ?_) (fun hp => by rw [if_neg (fun q => hp q.1.2)] at hq; exact hq σ hC Fcm.rf)
  rw [w0_3]
  refine sw' (fun hw => ?_) (fun hw => by rw [if_neg (fun q => hw q.2)] at hq; exact hq σ hC Fcm.rf)
  rw [if_pos ⟨⟨h0, hp⟩, hw⟩] at hq
  obtain ⟨hμ, hw0⟩ := hg.hk h0
  have hk := hw0.1
  have h8 := hμ.1
  obtain ⟨n, rfl, hn, -⟩ := nn (x := p) (by omega)
  have hnt : (nI n).toInt.toNat = n := by omega
  rw [hnt] at hq
  have n3 : n ≤ 3 := by omega
  refine s_put (u := 0) (l := 1) (by decide) (by decide) (by decide) (fun s7 F7 e7 g0 g1 => ?_)
  have outer : ∀ (f r : Nat) (τ : wS), r + f = γ.2.1.1 + 1 → r ≤ γ.2.1.1 → C γ τ → Fcm σ τ → f47 (tro γ.2.1 γ.2.2.1.1 n r) τ → l_X11_trim_46 Q f (nI n) w (bR (tro γ.2.1 γ.2.2.1.1 n r)) (bTn (tro γ.2.1 γ.2.2.1.1 n r)) (nI r) τ := by
    intro f
    induction f with
    | zero => intro r τ h1 h2; exfalso; omega
    | succ f ih =>
      intro r τ h1 h2 C1 F1 B1
      have hbk := tro_ok hμ hk (n := n) r (by omega)
      rw [l_X11_trim_46, C1.2.1.2.1, nI_leI (by omega) (by omega)]
      refine ⟨fun q => ?_, fun q y3 e3 => ⟨2 * n + 2, ?_⟩⟩
      · have : r = γ.2.1.1 := by omega
        subst this
        have hq := hq τ C1 F1
        unfold trA at hq
        refine ⟨fun w0 => ⟨fun w1 => ?_, fun w1 => ?_⟩, fun w0 => ?_⟩
        · rw [if_neg w0, if_neg w1] at hq
          have gb := gcd_b (u := bU (tro γ.2.1 γ.2.2.1.1 n γ.2.1.1)) hbk.2.1 hbk.2.2.1
          refine s_told (u := bU (tro γ.2.1 γ.2.2.1.1 n γ.2.1.1)) (l := bL (tro γ.2.1 γ.2.2.1.1 n γ.2.1.1)) ?_ ?_ hq
          · rw [gd_n, iJ_div hbk.1 gb.2]; exact B1.1
          · rw [gd_n, iJ_div hbk.2.2.1 gb.2]; exact B1.2
        · rw [if_neg w0, if_pos w1] at hq; exact hq
        · rw [if_pos w0] at hq; exact hq
      · have e3 : y3 = iI (((0 : Nat) : Int) - (n : Int)) := by rw [e3, iI_n, iI_neg]; congr 1; omega
        rw [e3]
        refine s_trimI hg h0 n3 (show r < γ.2.1.1 by omega) (tro γ.2.1 γ.2.2.1.1 n r) hbk (fun ρ C2 F2 B2 => ?_) (2 * n + 2) 0 τ (by omega) (by omega) C1 F1 B1
        exact ih (r + 1) ρ (by omega) (by omega) C2 F2 B2
  refine ⟨γ.2.1.1 + 1, outer (γ.2.1.1 + 1) 0 s7 (by omega) (by omega) (hC.fr hg (F7.wk (by decide))) ((F7.wk (T := cW) (by decide)).c (by decide)) ⟨g0.trans (show iJ 0 / iJ ((gd 0 1 : Nat) : Int) = iJ ((0 / Nat.gcd 0 1 : Nat) : Int) by decide), g1.trans (show iJ 1 / iJ ((gd 0 1 : Nat) : Int) = iJ ((1 / Nat.gcd 0 1 : Nat) : Int) by decide)⟩⟩
def fB (b : BT) (σ : wS) : Prop := σ.1 176 41 = bR b ∧ σ.1 176 42 = bTn b ∧ σ.2 176 39 = iJ (bU b) ∧ σ.2 176 40 = iJ (bL b)
theorem m_turns {γ : GS} {bd r : Nat} {k : Int} {b : BT} {σ : wS} {Q : wS → Prop} (hg : gok γ bd) (h0 : 0 < γ.2.1.1) (hD : D γ σ) (hr : r < γ.2.1.1) (hk3 : k.natAbs < 2 ^ 31) (hz : k ≠ 0) (hb : bok b) (hB : fB b σ) (hq : ∀ τ : wS, D γ τ → Fdm σ τ → fB (tr1 γ.2.1 γ.2.2.1.1 r k b) τ → Q τ) : w_X12_turnsOne (nI r) (iI k) σ Q := by
  obtain ⟨hμ, hw⟩ := hg.hk h0
  have hk := hw.1
  have h8 := hμ.1
  unfold w_X12_turnsOne
  refine m_copy0 (by decide) rfl rfl (fun s1 F1 g1 c1 => ?_)
  have D1 : D γ s1 := hD.mv (fun i hi => (F1 i (by revert i; decide)).1) (fun k _ => by rw [(F1 176 (by decide)).1])
  have R1 : RowM γ.2.1 γ.2.2.1.1 γ.2.2.1.2.1 (s1.1 189) := hD.row.mv h8 c1
  have ex : (nI r).toInt = (r : Int) := nI_toInt (by omega)
  have ey : (iI k).toInt = k := iI_T hk3
  have ez : (0 : Int32).toInt = 0 := by decide
  obtain ⟨o1, o2, o3, o4⟩ := att_ok hμ hk 1 (r : Int) k 0
  refine m_att (sort := 1) hg h0 D1 hk R1 (by decide) (fun τ D2 F2 hA => ?_)
  rw [ex, ey, ez] at hA ⊢
  obtain ⟨A1, A2, A3, A4, A5, A6⟩ := hA
  have F3 : Fdm σ τ := (F1.d (by decide)).tr F2
  have B2 : fB b τ := by
    unfold fB
    rw [A2 41 (by decide) (by decide), A2 42 (by decide) (by decide), A3 39 (by decide), A3 40 (by decide), (F1 176 (by decide)).1, g1]
    exact hB
  rw [att_em hμ hk]
  have no : (¬ ((att γ.2.1 γ.2.2.1.1 1 (r : Int) k 0).1 = -1 ∧ (att γ.2.1 γ.2.2.1.1 1 (r : Int) k 0).2.2 = [])) → Q τ := by
    intro hc
    refine hq τ D2 F3 ?_
    rw [tr1, if_neg hz, trv, if_neg hc]
    exact B2
  refine ⟨fun hne => no (fun q => hne q.1), fun heq => ?_⟩
  obtain ⟨b1, b2⟩ := A5 (Or.inl heq)
  rw [b1]
  have e0 : (nI (att γ.2.1 γ.2.2.1.1 1 (r : Int) k 0).2.2.length ≤ 0) ↔ (att γ.2.1 γ.2.2.1.1 1 (r : Int) k 0).2.2 = [] := by
    rw [show (0 : Int32) = nI 0 from rfl, nI_leI (by omega) (by decide), ← List.length_eq_zero_iff]; omega
  rw [e0]
  refine ⟨fun hb0 => ?_, fun hb0 => no (fun q => hb0 q.2)⟩
  obtain ⟨p1, p2, -⟩ := o4 heq
  obtain ⟨w, w1, w2, w3, w4, w5, w6⟩ := tr_w hμ p1 p2
  have R2 := A6 heq
  refine m_asks hμ rfl p1 D2.2.1 R2 (fun s5 G1 G2 G3 G4 => ?_)
  have D3 := D2.eq G2
  refine m_taut hμ rfl p1 D3.2.1 (by rw [G2]; exact R2) ?_
  refine m_worstOf hμ p1.2.1 p1.1 G4 ?_
  have e : (fun r_1 => (att γ.2.1 γ.2.2.1.1 1 (r : Int) k 0).2.1.2.2.1.1.testBit r_1 && decide ((0 : Int32) = 0 ∨ mu_t γ.2.1 r_1 * Lw γ.2.1 (att γ.2.1 γ.2.2.1.1 1 (r : Int) k 0).2.1.2.2.1.1 < Pl γ.2.1 (att γ.2.1 γ.2.2.1.1 1 (r : Int) k 0).2.1.1 (att γ.2.1 γ.2.2.1.1 1 (r : Int) k 0).2.1.2.1 (att γ.2.1 γ.2.2.1.1 1 (r : Int) k 0).2.1.2.2.1.1 r_1)) = fun r_1 => (att γ.2.1 γ.2.2.1.1 1 (r : Int) k 0).2.1.2.2.1.1.testBit r_1 := by funext r; simp
  have w1' : sel (fun r_1 b => decide (Pl γ.2.1 (att γ.2.1 γ.2.2.1.1 1 (r : Int) k 0).2.1.1 (att γ.2.1 γ.2.2.1.1 1 (r : Int) k 0).2.1.2.1 (att γ.2.1 γ.2.2.1.1 1 (r : Int) k 0).2.1.2.2.1.1 b * mu_t γ.2.1 r_1 < Pl γ.2.1 (att γ.2.1 γ.2.2.1.1 1 (r : Int) k 0).2.1.1 (att γ.2.1 γ.2.2.1.1 1 (r : Int) k 0).2.1.2.1 (att γ.2.1 γ.2.2.1.1 1 (r : Int) k 0).2.1.2.2.1.1 r_1 * mu_t γ.2.1 b)) (fun r_1 => (att γ.2.1 γ.2.2.1.1 1 (r : Int) k 0).2.1.2.2.1.1.testBit r_1) γ.2.1.1 = some w := w1
  rw [e, w1']
  have eo : oI (some w) = nI w := rfl
  rw [eo]
  refine m_pl hμ p1.1 G4 w2 ?_
  rw [strg hμ D3.2.1 w2]
  intro y15 e15
  rw [G4.2.2.2.1, t_J hμ w2, iJ_mul, Int.mul_comm] at e15
  have el : ldv γ.2.1 (att γ.2.1 γ.2.2.1.1 1 (r : Int) k 0).2.1 = ((Pl γ.2.1 (att γ.2.1 γ.2.2.1.1 1 (r : Int) k 0).2.1.1 (att γ.2.1 γ.2.2.1.1 1 (r : Int) k 0).2.1.2.1 (att γ.2.1 γ.2.2.1.1 1 (r : Int) k 0).2.1.2.2.1.1 w).toNat, (mu_t γ.2.1 w * Lw γ.2.1 (att γ.2.1 γ.2.2.1.1 1 (r : Int) k 0).2.1.2.2.1.1).toNat) := by
    unfold ldv
    rw [w1]
  have B3 : fB b s5 := by
    unfold fB
    rw [G2, G3 39 (by decide), G3 40 (by decide)]
    exact B2
  have ht : tr1 γ.2.1 γ.2.2.1.1 r k b = if b.isNone = true ∨ (ldv γ.2.1 (att γ.2.1 γ.2.2.1.1 1 (r : Int) k 0).2.1).1 * bL b < bU b * (ldv γ.2.1 (att γ.2.1 γ.2.2.1.1 1 (r : Int) k 0).2.1).2 then some (r, k, (ldv γ.2.1 (att γ.2.1 γ.2.2.1.1 1 (r : Int) k 0).2.1).1, (ldv γ.2.1 (att γ.2.1 γ.2.2.1.1 1 (r : Int) k 0).2.1).2) else b := by
    rw [tr1, if_neg hz, trv, if_pos ⟨heq, hb0⟩]
  rw [el] at ht
  generalize hP : Pl γ.2.1 (att γ.2.1 γ.2.2.1.1 1 (r : Int) k 0).2.1.1 (att γ.2.1 γ.2.2.1.1 1 (r : Int) k 0).2.1.2.1 (att γ.2.1 γ.2.2.1.1 1 (r : Int) k 0).2.1.2.2.1.1 w = P at ht w3 w4 ⊢
  generalize hL : mu_t γ.2.1 w * Lw γ.2.1 (att γ.2.1 γ.2.2.1.1 1 (r : Int) k 0).2.1.2.2.1.1 = L at ht w5 w6 e15 ⊢
  obtain ⟨P, rfl⟩ : ∃ n : Nat, P = (n : Int) := ⟨P.toNat, by omega⟩
  obtain ⟨L, rfl⟩ : ∃ n : Nat, L = (n : Int) := ⟨L.toNat, by omega⟩
  simp only [Int.toNat_natCast] at ht
  have F5 : Fdm σ s5 := F3.eq G2
  have take : b.isNone = true ∨ P * bL b < bU b * L → b_X12_turnsOne_118 Q (nI r) (iI k) (iJ P) y15 s5 := by
    intro hc s6 e6 s7 e7 s8 e8 s9 e9
    rw [if_pos hc] at ht
    have D9 : D γ s9 := by
      rw [e9]; refine D.up ?_ (by decide)
      rw [e8]; refine D.up ?_ (by decide)
      exact D3.eq (by rw [e7, e6]; rfl)
    have F9 : Fdm σ s9 := by
      rw [e9]; refine Fdm.up ?_ (by decide)
      rw [e8]; refine Fdm.up ?_ (by decide)
      exact F5.eq (by rw [e7, e6]; rfl)
    refine hq s9 D9 F9 ?_
    rw [ht]
    refine ⟨?_, ?_, ?_, ?_⟩
    · rw [e9, upI_1, if_neg (by omega), e8, upI_1]; simp; rfl
    · rw [e9, upI_1]; simp; rfl
    · rw [e9, upI_2, e8, upI_2, e7, upJ_2, if_neg (by omega), e6, upJ_2]; simp; rfl
    · rw [e9, upI_2, e8, upI_2, e7, upJ_2]; simp; rw [e15]; rfl
  rw [B3.1, bR_n hb]
  refine ⟨fun hno => take (Or.inl hno), fun hno => ⟨L + 1, ?_⟩⟩
  rw [e15, B3.2.2.1, B3.2.2.2] at *
  have hb1 := hb.1
  have hb2 := hb.2.2.1
  refine m_les (L + 1) P L (bU b) (bL b) false (by omega) (by omega) hb1 hb2 (by omega) hb.2.1 (by omega) ?_
  unfold bwB
  rw [if_neg (by decide)]
  by_cases hc : P * bL b < bU b * L
  · rw [decide_eq_true hc]
    exact ⟨fun _ => take (Or.inr hc), fun q => absurd q (by decide)⟩
  · rw [decide_eq_false hc]
    refine ⟨fun q => absurd rfl q, fun _ => hq s5 D3 F5 ?_⟩
    rw [ht, if_neg (fun q => by rcases q with q | q; exact hno q; exact hc q)]
    exact B3
theorem m_trim {γ : GS} {bd : Nat} {σ : wS} {p w : Int32} {Q : Int64 → wS → Prop} (hD : D γ σ) (hg : gok γ bd) (hq : ∀ τ, D (f_trim p w γ).2 τ → Fdm σ τ → Q (f_trim p w γ).1 τ) : w_X12_trim p w σ Q := by
  intro s1 e1
  have D1 : D γ s1 := by rw [e1]; exact hD.up (by decide)
  have F1 : Fdm σ s1 := by rw [e1]; exact Fdm.rf.up (by decide)
  unfold f_trim at hq
  have h8 := hg.n8
  rw [D1.2.1.1, n0_iff h8]
  refine ⟨fun h0 => by rw [if_neg (fun q => h0 q.1.1)] at hq; exact hq s1 D1 F1, fun h0 => ?_⟩
  have h0 : 0 < γ.2.1.1 := Classical.byContradiction h0
  rw [i1_3]
  refine sw (fun hp => ?_) (fun hp => by rw [if_neg (fun q => hp q.1.2)] at hq; exact hq s1 D1 F1)
  rw [i0_3]
  refine sw' (fun hw => ?_) (fun hw => by rw [if_neg (fun q => hw q.2)] at hq; exact hq s1 D1 F1)
  rw [if_pos ⟨⟨h0, hp⟩, hw⟩] at hq
  obtain ⟨hμ, hw0⟩ := hg.hk h0
  have hk := hw0.1
  obtain ⟨n, rfl, hn, -⟩ := nn (x := p) (by omega)
  have hnt : (nI n).toInt.toNat = n := by omega
  rw [hnt] at hq
  have n3 : n ≤ 3 := by omega
  intro s6 e6 s7 e7 s8 e8 s9 e9
  have D9 : D γ s9 := by
    refine D.eq (σ := s7) ?_ (by rw [e9, e8]; rfl)
    rw [e7]; refine D.up ?_ (by decide)
    rw [e6]; exact D1.up (by decide)
  have F9 : Fdm σ s9 := by
    refine Fdm.eq (τ := s7) ?_ (by rw [e9, e8]; rfl)
    rw [e7]; refine Fdm.up ?_ (by decide)
    rw [e6]; exact F1.up (by decide)
  have B9 : fB none s9 := by
    refine ⟨?_, ?_, ?_, ?_⟩
    · rw [e9, upJ_1, e8, upJ_1, e7, upI_1, if_neg (by omega), e6, upI_1]; simp; rfl
    · rw [e9, upJ_1, e8, upJ_1, e7, upI_1]; simp; rfl
    · rw [e9, upJ_2, if_neg (by omega), e8, upJ_2]; simp; decide
    · rw [e9, upJ_2]; simp; decide
  have inner : ∀ (K : Int32 → Int32 → Int32 → wS → Prop) (r : Nat) (b0 : BT), r < γ.2.1.1 → bok b0 → (∀ τ : wS, D γ τ → Fdm σ τ → fB (tri γ.2.1 γ.2.2.1.1 n r (2 * n + 1) b0) τ → K (nI n) w (nI (r + 1)) τ) → ∀ (f j : Nat) (τ : wS), j + f = 2 * n + 2 → j ≤ 2 * n + 1 → D γ τ → Fdm σ τ → fB (tri γ.2.1 γ.2.2.1.1 n r j b0) τ → l_X12_trim_74 K Q f (nI n) w (nI r) (iI ((j : Int) - (n : Int))) τ := by
    intro K r b0 hr hb0 hK f
    induction f with
    | zero => intro j τ h1 h2; exfalso; omega
    | succ f ih =>
      intro j τ h1 h2 D2 F2 B2
      have hbk := tri_ok hμ hk (n := n) (show r < 8 by omega) hb0 j
      have en : nI n < iI ((j : Int) - (n : Int)) ↔ 2 * n < j := by rw [iI_n, iI_lt (by omega) (by omega)]; omega
      have e0 : iI ((j : Int) - (n : Int)) = 0 ↔ j = n := by rw [show (0 : Int32) = iI 0 by decide, iI_eq (by omega) (by decide)]; omega
      have ej : iI ((j : Int) - (n : Int)) + 1 = iI (((j + 1 : Nat) : Int) - (n : Int)) := by
        rw [show (1 : Int32) = iI 1 by decide, iI_add]; congr 1; omega
      rw [l_X12_trim_74, en, e0]
      refine ⟨fun q y1 ey => ?_, fun q => ⟨fun q2 y1 ey => ?_, fun q2 => ?_⟩⟩
      · have : j = 2 * n + 1 := by omega
        subst this
        rw [ey, nI_1]
        exact hK τ D2 F2 B2
      · rw [ey, ej]
        refine ih (j + 1) τ (by omega) (by omega) D2 F2 ?_
        rw [tri, tr1, if_pos (by omega)]
        exact B2
      · refine m_turns hg h0 D2 hr (by omega) (by omega) hbk B2 (fun ρ D3 F3 B3 y1 ey => ?_)
        rw [ey, ej]
        exact ih (j + 1) ρ (by omega) (by omega) D3 (F2.tr F3) B3
  have outer : ∀ (f r : Nat) (τ : wS), r + f = γ.2.1.1 + 1 → r ≤ γ.2.1.1 → D γ τ → Fdm σ τ → fB (tro γ.2.1 γ.2.2.1.1 n r) τ → l_X12_trim_62 Q f (nI n) w (nI r) τ := by
    intro f
    induction f with
    | zero => intro r τ h1 h2; exfalso; omega
    | succ f ih =>
      intro r τ h1 h2 D2 F2 B2
      have hbk := tro_ok hμ hk (n := n) r (by omega)
      rw [l_X12_trim_62, D2.2.1.1, nI_leI (by omega) (by omega)]
      refine ⟨fun q => ?_, fun q y3 e3 => ⟨2 * n + 2, ?_⟩⟩
      · have : r = γ.2.1.1 := by omega
        subst this
        have hq := hq τ D2 F2
        unfold trA at hq
        obtain ⟨k, rfl, hk0, -⟩ := nn hw.1
        have e2 : ((2 : Int32) ≤ nI k) ↔ 2 ≤ k := nI_leI (a := 2) (by decide) (by omega)
        have e00 : nI k = 0 ↔ k = 0 := nI_eq (b := 0) (by omega) (by decide)
        have e11 : nI k = 1 ↔ k = 1 := nI_eq (b := 1) (by omega) (by decide)
        rw [e2, e00, B2.1, B2.2.1, B2.2.2.1, B2.2.2.2]
        have hb1 := hbk.1
        have hb2 := hbk.2.1
        have hb3 := hbk.2.2.1
        refine ⟨fun k2 => ?_, fun k2 => ⟨fun k0 => ?_, fun k0 => ?_⟩⟩
        · rw [if_neg (fun q => by rw [e00] at q; omega), if_neg (fun q => by rw [e11] at q; omega)] at hq
          exact m_told (by omega) (by rw [Int.natAbs_natCast]; omega) (by rw [Int.natAbs_natCast]; omega) hq
        · rw [if_neg (fun q => k0 (e00.mp q)), if_pos (e11.mpr (by omega))] at hq; exact hq
        · rw [if_pos (e00.mpr k0)] at hq; exact hq
      · have e3 : y3 = iI (((0 : Nat) : Int) - (n : Int)) := by rw [e3, iI_n, iI_neg]; congr 1; omega
        rw [e3]
        refine inner _ r (tro γ.2.1 γ.2.2.1.1 n r) (show r < γ.2.1.1 by omega) hbk (fun ρ D3 F3 B3 => ?_) (2 * n + 2) 0 τ (by omega) (by omega) D2 F2 B2
        exact ih (r + 1) ρ (by omega) (by omega) D3 F3 B3
  exact ⟨γ.2.1.1 + 1, outer (γ.2.1.1 + 1) 0 s9 (by omega) (by omega) D9 F9 B9⟩
theorem o_trim {bd : Nat} {σ : wS} {p w : Int32} (hI : In bd σ) : w_X11_trim p w σ (fun r1 s' => w_X12_trim p w s' (fun r' s' => r1 = r' ∧ In (bd + 40) s')) :=
  prI (f := f_trim p w) (w1 := w_X11_trim p w) (w2 := w_X12_trim p w) (fun γ σ Q hC hg hq => s_trim hC hg hq) (fun γ σ Q hD hg hq => m_trim hD hg hq) (fun γ hg => hg.wk (by omega)) hI
