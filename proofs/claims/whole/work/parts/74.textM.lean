theorem m_tellM {γ : GS} {bd : Nat} {σ : wS} {Q : Int32 → wS → Prop} (hD : D γ σ) (hg : gok γ bd) (hq : ∀ τ, D (f_tellM γ).2 τ → Fdm σ τ → Q (f_tellM γ).1 τ) : w_X12_text 0 σ Q := by
  obtain ⟨k1, k2⟩ := rdMo_ok hg.tp
  have h240 := hg.tp.1
  have hn8 := hg.n8
  intro s1 e1
  have D1 : D γ s1 := by rw [e1]; exact hD.up (by decide)
  have F1 : Fdm σ s1 := by rw [e1]; exact Fdm.rf.up (by decide)
  rw [i0_1, if_pos (by decide)]
  refine ⟨fun n => absurd n (by decide), fun _ => ⟨fun _ => ?_, fun n => absurd n (by decide)⟩⟩
  unfold f_tellM at hq
  refine m_fault0 hg D1 (fun hno τ D2 F2 => ?_) (fun μ hμ s2 D2 F2 R2 => ?_)
  · rw [hno] at hq
    exact ⟨fun n => absurd n (nI_m1 (by omega)), fun _ => hq τ D2 (F1.tr F2)⟩
  · rw [hμ] at hq
    simp only at hq
    obtain ⟨hP, h0⟩ := k2 μ hμ
    have hmu := muP_ok hP
    have h8 := hP.1
    refine ⟨fun _ s3 e3 => ⟨fun _ y4 e4 => ?_, fun n => absurd n (by decide)⟩, fun n => absurd rfl n⟩
    have D3 : D (tp0 γ) s3 := by rw [e3]; exact D2.tp0
    have F3 : Fdm σ s3 := by rw [e3]; exact (F1.tr F2).up (by decide)
    have R3 : MoR μ s3 := by
      obtain ⟨r1, r2, r3⟩ := R2
      exact ⟨by rw [e3, upI_1, if_neg (by omega)]; exact r1, fun r hr k hk => by rw [e3]; exact r2 r hr k hk, fun k hk => by rw [e3]; exact r3 k hk⟩
    have e4 : y4 = nI γ.2.1.1 := by rw [e4]; exact D3.2.1.1
    refine m_copyAll (n := 56) (by decide) rfl rfl (by decide) (fun s5 F5 V5 => ?_)
    refine m_copyAll (n := 4) (by decide) rfl rfl (by decide) (fun s7 F7 V7 => ?_)
    refine m_copyAll (n := 56) (by decide) rfl rfl (by decide) (fun s9 F9 V9 => ?_)
    refine m_copyAll (n := 4) (by decide) rfl rfl (by decide) (fun s11 F11 V11 s13 e13 => ?_)
    -- as it stands behind the copies
    have G : ∀ i, i ≠ 186 → i ≠ 187 → i ≠ 181 → i ≠ 179 → s11.1 i = s3.1 i := fun i h1 h2 h3 h4 => by
      rw [(F11 i (by simp; exact h4)).1, (F9 i (by simp; exact h3)).1, (F7 i (by simp; exact h2)).1, (F5 i (by simp; exact h1)).1]
    have x13 : s11.1 176 13 = nI μ.1 := by rw [G 176 (by decide) (by decide) (by decide) (by decide)]; exact R3.1
    rw [x13] at e13
    have G13 : ∀ i, i ≠ 176 → s13.1 i = s11.1 i := fun i hi => by rw [e13]; exact (setI_ne hi).1
    have K13 : ∀ k, k ≠ 14 → s13.1 176 k = s3.1 176 k := fun k hk => by rw [e13, upI_1, if_neg (by omega), G 176 (by decide) (by decide) (by decide) (by decide)]
    have n13 : s13.1 176 14 = nI μ.1 := by rw [e13, upI_1]; simp
    have i181 : ∀ r, r < μ.1 → ∀ k, k < 7 → s13.1 181 (7 * r + k) = iI (μ.2.1 r k) := fun r hr k hk => by
      rw [G13 181 (by decide), (F11 181 (by decide)).1, V9 (7 * r + k) (by omega), (F7 180 (by decide)).1, (F5 180 (by decide)).1]
      exact R3.2.1 r hr k hk
    have i179 : ∀ k, k < 4 → s13.1 179 k = iI (μ.2.2 k) := fun k hk => by
      rw [G13 179 (by decide), V11 k hk, (F9 178 (by decide)).1, (F7 178 (by decide)).1, (F5 178 (by decide)).1]
      exact R3.2.2 k hk
    have i186 : ∀ k, k < 56 → s13.1 186 k = s3.1 181 k := fun k hk => by
      rw [G13 186 (by decide), (F11 186 (by decide)).1, (F9 186 (by decide)).1, (F7 186 (by decide)).1]
      exact V5 k hk
    have i187 : ∀ k, k < 4 → s13.1 187 k = s3.1 179 k := fun k hk => by
      rw [G13 187 (by decide), (F11 187 (by decide)).1, (F9 187 (by decide)).1, V7 k hk, (F5 179 (by decide)).1]
    refine m_lays h8 n13 i181 (fun s14 F14 V14 => ⟨203, ?_⟩)
    have M14 : MoM μ s14 := ⟨by rw [(F14 176 (by decide)).1]; exact n13, fun r hr k hk => by rw [(F14 181 (by decide)).1]; exact i181 r hr k hk, fun k hk => by rw [(F14 179 (by decide)).1]; exact i179 k hk, V14⟩
    -- what is kept
    have P14 : ∀ i, i ≠ 176 → i ≠ 186 → i ≠ 187 → i ≠ 181 → i ≠ 179 → i ≠ 182 → s14.1 i = s3.1 i := fun i a b c d e f => by
      rw [(F14 i (by simp; exact f)).1, G13 i a, G i b c d e]
    have Q14 : ∀ k, k ≠ 14 → s14.1 176 k = s3.1 176 k := fun k hk => by rw [(F14 176 (by decide)).1]; exact K13 k hk
    have hk := tf_hok hP 0 0
    obtain ⟨t1, t2, -⟩ := p2t h8
    -- the settling
    have settle : ∀ ρ : wS, Fr [189] s14 ρ → (∀ r, r < μ.1 → ρ.1 189 r = iI (ld0 μ r)) → (∀ a, a < 3 → ρ.1 189 (16 + a) = iI (wd0 μ a)) → (∀ k, 8 ≤ k → k < 202 → (k < 16 ∨ 19 ≤ k) → ρ.1 189 k = 0) → w_X12_settles 189 ρ (fun r2 s1 => (r2 = (-1 : Int32) → (w_X12_copyRow 189 188 (0 : Int32) (0 : Int32) s1 (fun s3 => ∀ s5 : wS, s5 = upI s3 176 24 (0 : Int32) → (∀ s6 : wS, s6 = upI s5 176 25 (0 : Int32) → (Q (s6.1 176 14) s6))))) ∧ (¬ r2 = (-1 : Int32) → (w_X12_copyAll 186 181 s1 (fun s7 => w_X12_copyAll 187 179 s7 (fun s9 => ∀ s11 : wS, s11 = upI s9 176 14 y4 → (w_X12_laysWays s11 (fun s12 => Q (-2 : Int32) s12))))))) := by
      intro ρ Fρ L1 L2 L3
      have Mρ : MoM μ ρ := M14.mv (by rw [(Fρ 176 (by decide)).1]) (Fρ 181 (by decide)).1 (Fρ 179 (by decide)).1 (Fρ 182 (by decide)).1
      have sz : ∀ r, r < μ.1 → srt 0 0 (2 ^ μ.1 - 1) r = 0 := fun r hr => by
        unfold srt
        rw [Nat.zero_testBit, t2 r, decide_eq_true hr]; rfl
      refine m_settles (so := srt 0 0 (2 ^ μ.1 - 1)) hmu hk.1 (hok_sok hmu hk) Mρ ⟨L1, L2⟩ (fun r hr => ?_) (srt_SL (fun r _ h => by rw [Nat.zero_testBit] at h; cases h)) (fun r hr => ?_) (fun s6 hE => ?_)
      · rw [sz r hr, L3 (8 + r) (by omega) (by omega) (by omega)]; rfl
      · rw [t2 r, sz r hr, decide_eq_true hr]; rfl
      obtain ⟨E1, E2, E3, E4, E5, E6⟩ := hE
      have em : (iI (stf0 μ (ld0 μ) (wd0 μ) 0 0 (2 ^ μ.1 - 1)).1 = -1) ↔ (tfin μ).1 = -1 := tf_em hP
      have P6 : ∀ i, i ≠ 176 → i ≠ 186 → i ≠ 187 → i ≠ 181 → i ≠ 179 → i ≠ 182 → i ≠ 189 → ¬ (192 ≤ i ∧ i ≤ 196) → s6.1 i = s3.1 i := fun i a b c d e f g h => by
        rw [(E1 i (by simp; omega)).1, (Fρ i (by simp; exact g)).1]; exact P14 i a b c d e f
      have Q6 : ∀ k, k ≠ 14 → k ≠ 32 → s6.1 176 k = s3.1 176 k := fun k h1 h2 => by rw [E2 k h2, (Fρ 176 (by decide)).1]; exact Q14 k h1
      have n6 : s6.1 176 14 = nI μ.1 := by rw [E2 14 (by decide), (Fρ 176 (by decide)).1]; exact M14.1
      rw [em]
      refine ⟨fun heq => ?_, fun hne => ?_⟩
      · rw [if_pos heq] at hq
        obtain ⟨A1, A2, A3, A4⟩ := E6 heq
        refine m_copy0 (by decide) rfl rfl (fun t3 G3 g3 c3 t5 e5 t6 e6 => ?_)
        have P7 : ∀ i, i ≠ 176 → i ≠ 188 → t6.1 i = s6.1 i := fun i a b => by
          have a1 : t6.1 i = t5.1 i := by rw [e6]; exact (setI_ne a).1
          have a2 : t5.1 i = t3.1 i := by rw [e5]; exact (setI_ne a).1
          rw [a1, a2]; exact (G3 i (by simp; exact b)).1
        have Q7 : ∀ k, k ≠ 24 → k ≠ 25 → t6.1 176 k = s6.1 176 k := fun k a b => by
          rw [e6, upI_1, if_neg (by omega), e5, upI_1, if_neg (by omega), (G3 176 (by decide)).1]
        have c188 : ∀ k, k < 202 → t6.1 188 k = s6.1 189 k := fun k hk => by
          have a1 : t6.1 188 = t3.1 188 := by rw [e6, e5]; rfl
          rw [a1]; exact c3 k hk
        have x14 : t6.1 176 14 = nI μ.1 := by rw [Q7 14 (by decide) (by decide)]; exact n6
        rw [x14]
        have hlw : ∀ k, k < 8 ∨ 16 ≤ k → k ≠ 19 → k ≠ 20 → s6.1 189 k = ρ.1 189 k := A1
        obtain ⟨a1, a2, a3, ⟨fi, b1, b2, b3, b4⟩, a5, a6, a7⟩ := D3
        refine hq t6 ⟨⟨?_, fun k hk => absurd hk (Nat.not_lt_zero k)⟩, ?_, ?_, ⟨fi, b1, ?_, ?_, fun i g hi => by have hi : ([] : List GH)[i]? = some g := hi; simp at hi⟩, ?_, ?_, ?_⟩ ?_
        · rw [Q7 2 (by decide) (by decide), Q6 2 (by decide) (by decide)]; exact a1.1
        · refine MoM.mv Mρ ?_ ?_ ?_ ?_
          · rw [x14, Mρ.1]
          · rw [P7 181 (by decide) (by decide)]; exact (E1 181 (by decide)).1
          · rw [P7 179 (by decide) (by decide)]; exact (E1 179 (by decide)).1
          · rw [P7 182 (by decide) (by decide)]; exact (E1 182 (by decide)).1
        · show RowM μ (tfin μ).2.1 [] (t6.1 188)
          refine ⟨fun r hr => ?_, fun a ha => ?_, fun r hr => ?_, ?_, ?_, ?_, Nat.zero_le _, fun j hj => absurd hj (Nat.not_lt_zero j)⟩
          · rw [c188 r (by omega), hlw r (by omega) (by omega) (by omega)]; exact L1 r hr
          · rw [c188 (16 + a) (by omega), hlw (16 + a) (by omega) (by omega) (by omega)]; exact L2 a ha
          · rw [c188 (8 + r) (by omega)]; exact A4 r hr
          · rw [c188 19 (by omega)]; exact A2
          · rw [c188 20 (by omega), A3, L3 20 (by omega) (by omega) (by omega)]
            show (0 : Int32) + nI _ = nI (0 + _)
            rw [show (0 : Int32) = nI 0 from rfl, nI_add]
          · rw [c188 21 (by omega), hlw 21 (by omega) (by omega) (by omega), L3 21 (by omega) (by omega) (by omega)]; rfl
        · rw [Q7 23 (by decide) (by decide), Q6 23 (by decide) (by decide)]; exact b2
        · rw [e6, upI_1, if_neg (by omega), e5, upI_1]; simp; rfl
        · show t6.1 176 25 = 0
          rw [e6, upI_1]; simp
        · have a6 : dS γ.2.2.2.2.2.1 s3 := a6
          show dS γ.2.2.2.2.2.1 t6
          unfold dS at a6 ⊢
          rw [Q7 15 (by decide) (by decide), Q6 15 (by decide) (by decide), P7 184 (by decide) (by decide), P6 184 (by decide) (by decide) (by decide) (by decide) (by decide) (by decide) (by decide) (by decide), P7 183 (by decide) (by decide), P6 183 (by decide) (by decide) (by decide) (by decide) (by decide) (by decide) (by decide) (by decide)]; exact a6
        · have a7 : dR γ.2.2.2.2.2.2.1 γ.2.2.2.2.2.2.2 s3 := a7
          show dR γ.2.2.2.2.2.2.1 γ.2.2.2.2.2.2.2 t6
          unfold dR at a7 ⊢
          rw [Q7 34 (by decide) (by decide), Q6 34 (by decide) (by decide), P7 197 (by decide) (by decide), P6 197 (by decide) (by decide) (by decide) (by decide) (by decide) (by decide) (by decide) (by decide), P7 185 (by decide) (by decide), P6 185 (by decide) (by decide) (by decide) (by decide) (by decide) (by decide) (by decide) (by decide)]; exact a7
        · intro i hi
          rw [P7 i (by omega) (by omega), P6 i (by omega) (by omega) (by omega) (by omega) (by omega) (by omega) (by omega) (by omega)]; exact F3 i hi
      · rw [if_neg hne] at hq
        have i6 : ∀ k, k < 56 → s6.1 186 k = s3.1 181 k := fun k hk => by
          rw [(E1 186 (by decide)).1, (Fρ 186 (by decide)).1, (F14 186 (by decide)).1]; exact i186 k hk
        have j6 : ∀ k, k < 4 → s6.1 187 k = s3.1 179 k := fun k hk => by
          rw [(E1 187 (by decide)).1, (Fρ 187 (by decide)).1, (F14 187 (by decide)).1]; exact i187 k hk
        refine m_copyAll (n := 56) (by decide) rfl rfl (by decide) (fun t7 G7 W7 => ?_)
        refine m_copyAll (n := 4) (by decide) rfl rfl (by decide) (fun t9 G9 W9 t11 e11 => ?_)
        have P9 : ∀ i, i ≠ 181 → i ≠ 179 → t9.1 i = s6.1 i := fun i a b => by rw [(G9 i (by simp; exact b)).1, (G7 i (by simp; exact a)).1]
        have P11 : ∀ i, i ≠ 176 → t11.1 i = t9.1 i := fun i a => by rw [e11]; exact (setI_ne a).1
        have n11 : t11.1 176 14 = nI γ.2.1.1 := by rw [e11, upI_1]; simp; exact e4
        have k11 : ∀ k, k ≠ 14 → t11.1 176 k = s6.1 176 k := fun k hk => by rw [e11, upI_1, if_neg (by omega), P9 176 (by decide) (by decide)]
        have r11 : ∀ k, k < 56 → t11.1 181 k = s3.1 181 k := fun k hk => by
          rw [P11 181 (by decide), (G9 181 (by decide)).1, W7 k hk]; exact i6 k hk
        have u11 : ∀ k, k < 4 → t11.1 179 k = s3.1 179 k := fun k hk => by
          rw [P11 179 (by decide), W9 k hk, (G7 187 (by decide)).1]; exact j6 k hk
        obtain ⟨a1, a2, a3, a4, a5, a6, a7⟩ := D3
        have a2 : MoM γ.2.1 s3 := a2
        refine m_lays hn8 n11 (fun r hr k hk => by rw [r11 (7 * r + k) (by omega)]; exact a2.2.1 r hr k hk) (fun t12 G12 W12 => ?_)
        have P12 : ∀ i, i ≠ 176 → i ≠ 186 → i ≠ 187 → i ≠ 181 → i ≠ 179 → i ≠ 182 → i ≠ 189 → ¬ (192 ≤ i ∧ i ≤ 196) → t12.1 i = s3.1 i := fun i a b c d e f g h => by
          rw [(G12 i (by simp; exact f)).1, P11 i a, P9 i d e]; exact P6 i a b c d e f g h
        have Q12 : ∀ k, k ≠ 14 → k ≠ 32 → t12.1 176 k = s3.1 176 k := fun k h1 h2 => by rw [(G12 176 (by decide)).1, k11 k h1]; exact Q6 k h1 h2
        refine hq t12 ⟨⟨?_, fun k hk => absurd hk (Nat.not_lt_zero k)⟩, ⟨?_, fun r hr k hk => ?_, fun k hk => ?_, W12⟩, ?_, ?_, ?_, ?_, ?_⟩ ?_
        · rw [Q12 2 (by decide) (by decide)]; exact a1.1
        · rw [(G12 176 (by decide)).1]; exact n11
        · have hr : r < γ.2.1.1 := hr
          rw [(G12 181 (by decide)).1, r11 (7 * r + k) (by omega)]; exact a2.2.1 r hr k hk
        · rw [(G12 179 (by decide)).1, u11 k hk]; exact a2.2.2.1 k hk
        · rw [P12 188 (by decide) (by decide) (by decide) (by decide) (by decide) (by decide) (by decide) (by decide)]; exact a3
        · exact a4.mv (Q12 23 (by decide) (by decide)) (Q12 24 (by decide) (by decide)) (P12 191 (by decide) (by decide) (by decide) (by decide) (by decide) (by decide) (by decide) (by decide))
        · exact a5.mv (Q12 25 (by decide) (by decide)) (P12 190 (by decide) (by decide) (by decide) (by decide) (by decide) (by decide) (by decide) (by decide))
        · have a6 : dS γ.2.2.2.2.2.1 s3 := a6
          show dS γ.2.2.2.2.2.1 t12
          unfold dS at a6 ⊢
          rw [Q12 15 (by decide) (by decide), P12 184 (by decide) (by decide) (by decide) (by decide) (by decide) (by decide) (by decide) (by decide), P12 183 (by decide) (by decide) (by decide) (by decide) (by decide) (by decide) (by decide) (by decide)]; exact a6
        · have a7 : dR γ.2.2.2.2.2.2.1 γ.2.2.2.2.2.2.2 s3 := a7
          show dR γ.2.2.2.2.2.2.1 γ.2.2.2.2.2.2.2 t12
          unfold dR at a7 ⊢
          rw [Q12 34 (by decide) (by decide), P12 197 (by decide) (by decide) (by decide) (by decide) (by decide) (by decide) (by decide) (by decide), P12 185 (by decide) (by decide) (by decide) (by decide) (by decide) (by decide) (by decide) (by decide)]; exact a7
        · intro i hi
          rw [P12 i (by omega) (by omega) (by omega) (by omega) (by omega) (by omega) (by omega) (by omega)]; exact F3 i hi
    -- the wind
    have windL : ∀ (f k : Nat) (ρ : wS), k + f = 4 → k ≤ 3 → Fr [189] s14 ρ → (∀ r, r < μ.1 → ρ.1 189 r = iI (ld0 μ r)) → (∀ a, a < k → ρ.1 189 (16 + a) = iI (wd0 μ a)) → (∀ k, 8 ≤ k → k < 202 → (k < 16 ∨ 19 ≤ k) → ρ.1 189 k = 0) → l_X12_text_239 Q f y4 (nI k) ρ := by
      intro f
      induction f with
      | zero => intro k ρ h1 h2; exfalso; omega
      | succ f ih =>
        intro k ρ h1 h2 Fρ L1 L2 L3
        have e3' : ((3 : Int32) ≤ nI k) ↔ 3 ≤ k := nI_leI (a := 3) (by decide) (by omega)
        rw [l_X12_text_239, e3']
        refine ⟨fun q => settle ρ Fρ L1 (fun a ha => L2 a (by omega)) L3, fun q => ?_⟩
        have i1 : (1 : Int32) + nI k = nI (1 + k) := nI_add 1 k
        have i16 : (16 : Int32) + nI k = nI (16 + k) := nI_add 16 k
        rw [i1, i16, nI_clamp (show 1 + k < 2 ^ 31 by omega), nI_clamp (show 16 + k < 2 ^ 31 by omega)]
        refine ⟨vp_in_nI (by omega) (by decide), vp_in_nI (by omega) (by decide), fun t1 f1 y15 f15 => ?_⟩
        rw [f15, nI_1]
        refine ih (k + 1) t1 (by omega) (by omega) (by rw [f1]; exact Fρ.upI (by decide)) (fun r hr => ?_) (fun a ha => ?_) (fun j h1 h2 h3 => ?_)
        · rw [f1, upI_1, if_neg (by omega)]; exact L1 r hr
        · rw [f1, upI_1]
          by_cases qq : a = k
          · rw [if_pos ⟨rfl, by omega⟩, qq, (Fρ 179 (by decide)).1, M14.2.2.1 (1 + k) (by omega), Nat.add_comm]; rfl
          · rw [if_neg (by omega)]; exact L2 a (by omega)
        · rw [f1, upI_1, if_neg (by omega)]; exact L3 j h1 h2 h3
    -- how ropes are laid
    have laidL : ∀ (f m : Nat) (ρ : wS), m + f = μ.1 + 1 → m ≤ μ.1 → Fr [189] s14 ρ → (∀ r, r < m → ρ.1 189 r = iI (ld0 μ r)) → (∀ k, 8 ≤ k → k < 202 → ρ.1 189 k = 0) → l_X12_text_204 Q f y4 (nI m) ρ := by
      intro f
      induction f with
      | zero => intro m ρ h1 h2; exfalso; omega
      | succ f ih =>
        intro m ρ h1 h2 Fρ L1 L3
        have x14 : ρ.1 176 14 = nI μ.1 := by rw [(Fρ 176 (by decide)).1]; exact M14.1
        rw [l_X12_text_204, x14, nI_leI (by omega) (by omega)]
        refine ⟨fun q => ⟨4, windL 4 0 ρ (by decide) (by decide) Fρ (fun r hr => L1 r (by omega)) (fun a ha => absurd ha (Nat.not_lt_zero a)) (fun k h1 h2 _ => L3 k h1 h2)⟩, fun q => ?_⟩
        have i5 : (7 : Int32) * nI m + 5 = nI (7 * m + 5) := by rw [show (7 : Int32) = nI 7 from rfl, pk_mul]; exact nI_add _ 5
        rw [i5, (z0p (show m < 8 by omega)).2, nI_clamp (show 7 * m + 5 < 2 ^ 31 by omega)]
        refine ⟨vp_in_nI (by omega) (by decide), (z0p (show m < 8 by omega)).1, fun t1 f1 y2 f2 => ?_⟩
        rw [f2, nI_1]
        refine ih (m + 1) t1 (by omega) (by omega) (by rw [f1]; exact Fρ.upI (by decide)) (fun r hr => ?_) (fun k h1 h2 => ?_)
        · rw [f1, upI_1]
          by_cases qq : r = m
          · rw [if_pos ⟨rfl, qq⟩, qq, (Fρ 181 (by decide)).1]; exact M14.2.1 m (by omega) 5 (by decide)
          · rw [if_neg (by omega)]; exact L1 r (by omega)
        · rw [f1, upI_1, if_neg (by omega)]; exact L3 k h1 h2
    have zeroL : ∀ (f k : Nat) (ρ : wS), k + f = 203 → k ≤ 202 → Fr [189] s14 ρ → (∀ j, j < k → ρ.1 189 j = 0) → l_X12_text_182 Q f y4 (nI k) ρ := by
      intro f
      induction f with
      | zero => intro k ρ h1 h2; exfalso; omega
      | succ f ih =>
        intro k ρ h1 h2 Fρ L1
        have e202 : ((202 : Int32) ≤ nI k) ↔ 202 ≤ k := nI_leI (a := 202) (by decide) (by omega)
        rw [l_X12_text_182, e202]
        refine ⟨fun q => ⟨μ.1 + 1, laidL (μ.1 + 1) 0 ρ (by omega) (by omega) Fρ (fun r hr => absurd hr (Nat.not_lt_zero r)) (fun k _ h2 => L1 k (by omega))⟩, fun q => ⟨vp_in_nI (by omega) (by decide), fun t1 f1 y2 f2 => ?_⟩⟩
        rw [nI_clamp (by omega)] at f1
        rw [f2, nI_1]
        refine ih (k + 1) t1 (by omega) (by omega) (by rw [f1]; exact Fρ.upI (by decide)) (fun j hj => ?_)
        rw [f1, upI_1]
        by_cases qq : j = k
        · rw [if_pos ⟨rfl, qq⟩]
        · rw [if_neg (by omega)]; exact L1 j (by omega)
    exact zeroL 203 0 s14 (by decide) (by decide) Fr.rf (fun j hj => absurd hj (Nat.not_lt_zero j))
def f_text (p : Int32) (γ : GS) : Int32 × GS := if p = 0 then f_tellM γ else if p = 1 then f_tellS γ else (-1, γ)
theorem o_text {bd : Nat} {σ : wS} {p : Int32} (hI : In bd σ) : w_X11_text p σ (fun r s => w_X12_text p s (fun r' s' => r = r' ∧ In (bd + 40) s')) := by
  refine prI (f := f_text p) (w1 := w_X11_text p) (w2 := w_X12_text p) (fun γ σ Q hC hg hq => ?_) (fun γ σ Q hD hg hq => ?_) (fun γ hg => ?_) hI
  · unfold f_text at hq
    refine ⟨fun n0 => ⟨fun n1 => ?_, fun y1 => ?_⟩, fun y0 => ?_⟩
    · rw [if_neg n0, if_neg n1] at hq
      exact hq σ hC Fcm.rf
    · rw [if_neg n0, if_pos y1] at hq
      exact s_tellS hC hg hq
    · rw [if_pos y0] at hq
      exact s_tellM hC hg hq
  · unfold f_text at hq
    by_cases y0 : p = 0
    · subst y0
      rw [if_pos rfl] at hq
      exact m_tellM hD hg hq
    · rw [if_neg y0] at hq
      by_cases y1 : p = 1
      · subst y1
        rw [if_pos rfl] at hq
        exact m_tellS hD hg hq
      · rw [if_neg y1] at hq
        intro s1 e1
        have D1 : D γ s1 := by rw [e1]; exact hD.up (by decide)
        have F1 : Fdm σ s1 := by rw [e1]; exact Fdm.rf.up (by decide)
        rw [i0_1, if_neg]
        · exact ⟨fun _ => hq s1 D1 F1, fun n => absurd rfl n⟩
        · intro q
          obtain ⟨k, rfl, hk, -⟩ := nn q.1
          rcases (show k = 0 ∨ k = 1 by omega) with rfl | rfl
          · exact y0 rfl
          · exact y1 rfl
  · unfold f_text f_tellM f_tellS
    split
    · cases hm : (rdMo γ.1).2 with
      | none => exact hg.wk (by omega)
      | some μ =>
        obtain ⟨h1, h2⟩ := (rdMo_ok hg.tp).2 μ hm
        simp only
        split
        · rename_i hf
          exact (gok_nw hg h1 h2 hf).wk (by omega)
        · exact (gok_tp0 hg).wk (by omega)
    · split
      · split
        · exact hg.wk (by omega)
        · rename_i h4
          cases hm : (rdSc γ.1).2 with
          | none => exact hg.wk (by omega)
          | some L =>
            have h44 := hg.2.2.1.1
            have := (scP_ok hg.tp 16 0 [] (Nat.zero_le _) (by decide) (fun t ht => by cases ht)).2 L hm
            exact (gok_adS hg (by omega) this).wk (by omega)
      · exact hg.wk (by omega)
