/-! a mooring told -/
def ld0 (μ : MU) : Nat → Int := fun r => μ.2.1 r 5
def wd0 (μ : MU) : Nat → Int := fun a => μ.2.2 (a + 1)
def tfin (μ : MU) : AR := fin μ (ld0 μ) (wd0 μ) (2 ^ μ.1 - 1) 0 0 0
def nwG (γ : GS) (μ : MU) : GS := ((0, γ.1.2), μ, ((tfin μ).2.1, [], 0), [], none, γ.2.2.2.2.2)
def f_tellM (γ : GS) : Int32 × GS := match (rdMo γ.1).2 with
  | none => (-1, γ)
  | some μ => if (tfin μ).1 = -1 then (nI μ.1, nwG γ μ) else (-2, tp0 γ)
theorem p2t {n : Nat} (hn : n ≤ 8) : 2 ^ n - 1 < 256 ∧ (∀ r, (2 ^ n - 1).testBit r = decide (r < n)) ∧ ((1 : Int32) <<< (nI n &&& 31)) - 1 = nI (2 ^ n - 1) := by
  have h := p256 hn
  refine ⟨by omega, fun r => Nat.testBit_two_pow_sub_one n r, ?_⟩
  have h : ∀ n, n ≤ 8 → ((1 : Int32) <<< (nI n &&& 31)) - 1 = nI (2 ^ n - 1) := by decide
  exact h n hn
theorem tf_hok {μ : MU} (hμ : muP μ) (t e : Nat) : hok μ (ld0 μ, wd0 μ, (2 ^ μ.1 - 1, 0, 0), t, e) := by
  obtain ⟨q1, q2, -⟩ := p2t hμ.1
  have hm := (muP_ok hμ).2
  refine ⟨⟨fun r hr => ?_, ?_, ?_, ?_⟩, q1, show (0 : Nat) < 256 by decide, show (0 : Nat) < 256 by decide, fun r hr => ⟨?_, Nat.zero_testBit r, Nat.zero_testBit r⟩, fun r hr => ⟨Nat.zero_testBit r, Nat.zero_testBit r⟩, fun r hr => Nat.zero_testBit r⟩
  · have := hm.1 r hr
    show (μ.2.1 r 5).natAbs ≤ 999
    omega
  · show (μ.2.2 1).natAbs ≤ 999; omega
  · show (μ.2.2 2).natAbs ≤ 999; omega
  · show (μ.2.2 3).natAbs ≤ 9999; omega
  · show (2 ^ μ.1 - 1).testBit r = false
    rw [q2 r, decide_eq_false (by omega)]
theorem tf_em {μ : MU} (hμ : muP μ) : (iI (tfin μ).1 = -1) ↔ (tfin μ).1 = -1 := by
  have h := (fin_ok (ever := 0) (muP_ok hμ) (tf_hok hμ 0 0)).1
  have h : (tfin μ).1 = -1 ∨ (tfin μ).1 = 3 ∨ (tfin μ).1 = 4 := h
  rw [show (-1 : Int32) = iI (-1) by decide, iI_eq (by omega) (by decide)]
theorem gok_nw {γ : GS} {bd : Nat} {μ : MU} (hg : gok γ bd) (hμ : muP μ) (h0 : 0 < μ.1) (hf : (tfin μ).1 = -1) : gok (nwG γ μ) bd := by
  obtain ⟨a1, a2, a3, a4, a5, a6, a7, a8⟩ := hg
  obtain ⟨o1, o2, o3, o4⟩ := fin_ok (ever := 0) (muP_ok hμ) (tf_hok hμ 0 0)
  obtain ⟨p1, p2, p3⟩ := o4 hf
  refine ⟨⟨Nat.zero_le _, fun k hk => absurd hk (Nat.not_lt_zero k)⟩, Nat.zero_le _, a3, a4, trivial, Nat.zero_le _, fun q => ?_, fun _ => ⟨muP_ok hμ, ⟨p1, ⟨p2, p3⟩, fun e he => (by cases he), Nat.zero_le _⟩, fun g hgm => (by cases hgm), fun g hgm => (by cases hgm)⟩⟩
  have : μ.1 = 0 := q
  omega
theorem s_begin3 {μ : MU} {p : Nat} {σ : wS} {Q : wS → Prop} (hμ : muP μ) (hp : p = 4 ∨ p = 11) (hM : MoC μ p σ) (hq : ∀ τ : wS, Fr [32, 33, 34] σ τ → HC μ (ld0 μ, wd0 μ, (2 ^ μ.1 - 1, 0, 0), 0, 0) 32 (upI τ 32 5 0) → τ.1 32 7 = 0 → Q τ) : w_X3_begin 32 p σ Q := by
  have h8 := hμ.1
  have key : ∀ (f m : Nat) (ρ : wS), m + f = μ.1 + 1 → m ≤ μ.1 → Fr [33] σ ρ → (∀ r, r < m → ρ.1 33 r = iI (μ.2.1 r 5)) → l_X3_begin_2 32 p Q f (nI m) ρ := by
    intro f
    induction f with
    | zero => intro m ρ h1 h2; exfalso; omega
    | succ f ih =>
      intro m ρ h1 h2 F1 V1
      have M1 : MoC μ p ρ := hM.mv (fun i h1 h2 => (F1 i (by simp; omega)).1)
      rw [l_X3_begin_2, M1.1, nI_leI (by omega) (by omega)]
      refine ⟨fun q => ⟨by decide, fun s1 e1 s2 e2 s3 e3 s4 e4 s5 e5 s6 e6 => ?_⟩, fun q => ?_⟩
      · rw [c_1, c_0, c_3] at e1
        have P1 : ∀ i, i ≠ 34 → s1.1 i = ρ.1 i := fun i hi => by rw [e1]; exact (setI_ne hi).1
        have x6 : s1.1 p 6 = nI μ.1 := by rw [P1 p (by omega)]; exact M1.1
        rw [x6, (p2t h8).2.2] at e2
        refine hq s6 ?_ ⟨⟨fun r hr => ?_, fun a ha => ?_⟩, ?_, ?_, ?_, ?_, ?_⟩ ?_
        · have : Fr [32, 33, 34] σ s1 := by rw [e1]; exact (F1.wk (by decide)).setI (by decide)
          rw [e6, e5, e4, e3, e2]
          exact ((((this.upI (by decide)).upI (by decide)).upI (by decide)).upI (by decide)).upI (by decide)
        · rw [upI_1, if_neg (by omega), e6, upI_1, if_neg (by omega), e5, upI_1, if_neg (by omega), e4, upI_1, if_neg (by omega), e3, upI_1, if_neg (by omega), e2, upI_1, if_neg (by omega), P1 33 (by decide)]
          exact V1 r (by omega)
        · rw [upI_1, if_neg (by omega), e6, upI_1, if_neg (by omega), e5, upI_1, if_neg (by omega), e4, upI_1, if_neg (by omega), e3, upI_1, if_neg (by omega), e2, upI_1, if_neg (by omega), e1, setI_eq.1, pk_cpy_in (by omega) (by omega), show 1 + (a - 0) = a + 1 by omega]
          exact M1.2.2.1 (a + 1) (by omega)
        · rw [upI_1, if_neg (by omega), e6, upI_1, if_neg (by omega), e5, upI_1, if_neg (by omega), e4, upI_1, if_neg (by omega), e3, upI_1, if_neg (by omega), e2, upI_1]; simp
        · rw [upI_1, if_neg (by omega), e6, upI_1, if_neg (by omega), e5, upI_1, if_neg (by omega), e4, upI_1, if_neg (by omega), e3, upI_1]; simp; rfl
        · rw [upI_1, if_neg (by omega), e6, upI_1, if_neg (by omega), e5, upI_1, if_neg (by omega), e4, upI_1]; simp; rfl
        · rw [upI_1]; simp; rfl
        · rw [upI_1, if_neg (by omega), e6, upI_1, if_neg (by omega), e5, upI_1]; simp; rfl
        · rw [e6, upI_1]; simp
      · have hm : m < μ.1 := by omega
        refine s_item (k := 5) h8 hm (by decide) ⟨M1.1, M1.2.1, M1.2.2.1⟩ ⟨vp_in_nI (by omega) (by decide), fun s9 e9 y10 e10 => ?_⟩
        rw [nI_clamp (by omega)] at e9
        rw [e10, nI_1]
        refine ih (m + 1) s9 (by omega) (by omega) (by rw [e9]; exact F1.upI (by decide)) (fun r hr => ?_)
        rw [e9, upI_1]
        by_cases qq : r = m
        · rw [if_pos ⟨rfl, qq⟩, qq]
        · rw [if_neg (by omega)]; exact V1 r (by omega)
  exact ⟨μ.1 + 1, key (μ.1 + 1) 0 σ (by omega) (by omega) Fr.rf (fun r hr => absurd hr (Nat.not_lt_zero r))⟩
theorem wh_pos {μ : MU} (h : whole μ = true) : 0 < μ.1 := by
  unfold whole at h
  rw [decide_eq_true_eq] at h
  exact h.1
theorem rdMo_ok {T : TP} (hT : tpk T) : (rdMo T).1 ≤ T.1 ∧ ∀ μ, (rdMo T).2 = some μ → muP μ ∧ 0 < μ.1 := by
  refine ⟨(cls_ok hT (μ' := mu0) 10 0 false mu0 (Nat.zero_le _) muP_0).1, fun μ hμ => ?_⟩
  obtain ⟨h1, h2⟩ := (cls_ok hT (μ' := μ) 10 0 false mu0 (Nat.zero_le _) muP_0).2 hμ
  exact ⟨h1, wh_pos h2⟩
theorem s_tellM {γ : GS} {bd : Nat} {σ : wS} {Q : Int32 → wS → Prop} (hC : C γ σ) (hg : gok γ bd) (hq : ∀ τ, C (f_tellM γ).2 τ → Fcm σ τ → Q (f_tellM γ).1 τ) : w_X11_tellMooring σ Q := by
  have hsp := spare hC
  obtain ⟨k1, k2⟩ := rdMo_ok hg.tp
  have h240 := hg.tp.1
  unfold f_tellM at hq
  refine s_readMo hg.tp hC.1 (by omega) (fun hno τ Fτ => ?_) (fun μ hμ s1 F1 M1 => ?_)
  · rw [hno] at hq
    exact ⟨fun n => absurd n (nI_m1 (by omega)), fun _ => hq τ (hC.fp hg Fτ) (Fτ.c (by omega))⟩
  · rw [hμ] at hq
    simp only at hq
    obtain ⟨hP, h0⟩ := k2 μ hμ
    have hmu := muP_ok hP
    have h8 := hP.1
    have C1 := hC.fp hg F1
    refine ⟨fun _ s3 e3 => ?_, fun n => absurd rfl n⟩
    have C3 : C (tp0 γ) s3 := by rw [e3]; exact C1.tp0 hg
    have hg3 := gok_tp0 hg
    have x0 : ∀ k, s3.1 0 k = σ.1 0 k := fun k => by
      have a1 : s3.1 0 = s1.1 0 := by rw [e3]; rfl
      rw [a1, F1 0 (by decide) (by omega)]
    rw [x0 3]
    have M3 : MoC μ (mo (σ.1 0 3)) s3 := M1.mv (fun i h1 h2 => by rw [e3]; exact (setI_ne (show i ≠ 1 by omega)).1)
    refine s_begin3 hP (by omega) M3 (fun s4 F4 H4 l4 => ?_)
    have F4' : Fr cW s3 s4 := F4.wk (by decide)
    have C4 : C (tp0 γ) s4 := C3.fr hg3 F4'
    have y0 : ∀ k, s4.1 0 k = σ.1 0 k := fun k => by rw [(F4 0 (by decide)).1]; exact x0 k
    rw [y0 3]
    have M4 : MoC μ (mo (σ.1 0 3)) s4 := M3.mv (fun i h1 h2 => (F4 i (by simp; omega)).1)
    have L4 : LwC μ.1 (ld0 μ) (wd0 μ) 32 s4 := H4.1.row rfl rfl
    have q2 : s4.1 32 2 = nI (2 ^ μ.1 - 1) := by have := H4.2.1; rw [upI_1, if_neg (by omega)] at this; exact this
    have q3 : s4.1 32 3 = nI 0 := by have := H4.2.2.1; rw [upI_1, if_neg (by omega)] at this; exact this
    have q4 : s4.1 32 4 = nI 0 := by have := H4.2.2.2.1; rw [upI_1, if_neg (by omega)] at this; exact this
    have q6 : s4.1 32 6 = nI 0 := by have := H4.2.2.2.2.2; rw [upI_1, if_neg (by omega)] at this; exact this
    have hk := tf_hok hP 0 0
    refine s_settle hmu (by omega) hk.1 (hok_sok hmu hk) M4 L4 q2 q3 q4 (fun s6 hE => ?_)
    obtain ⟨E1, E2, E3, E4, E5, E6, E7, E8⟩ := hE
    have F6 : Fr cW s3 s6 := F4'.tr (E1.wk (by decide))
    have C6 : C (tp0 γ) s6 := C3.fr hg3 F6
    have FC : Fcm σ s6 := (((F1.c (by omega)).tr (by rw [e3]; exact Fcm.rf.up (by decide)))).tr (F6.c (by decide))
    have em := tf_em hP
    have em : (iI (stf0 μ (ld0 μ) (wd0 μ) 0 0 (2 ^ μ.1 - 1)).1 = -1) ↔ (tfin μ).1 = -1 := em
    rw [em]
    refine ⟨fun heq s8 e8 s9 e9 => ?_, fun hne => ?_⟩
    · rw [if_pos heq] at hq
      obtain ⟨A1, A2, A3, A4, -, -⟩ := E8 heq
      have z0 : ∀ k, s6.1 0 k = σ.1 0 k := fun k => by rw [(E1 0 (by decide)).1]; exact y0 k
      rw [z0 3] at e8
      rw [z0 2] at e9
      have M6 : MoC μ (mo (σ.1 0 3)) s6 := M4.mv (fun i h1 h2 => (E1 i (by simp; omega)).1)
      refine s_copy (by omega) (fun s10 F10 g10 u1 u2 u3 => ?_)
      intro s12 e12 s14 e14
      have p9 : ∀ i, i ≠ 0 → s9.1 i = s6.1 i := fun i hi => by rw [e9, e8]; show (setI (setI s6 0 _) 0 _).1 i = _; rw [(setI_ne hi).1, (setI_ne hi).1]
      have p14 : ∀ i, i ≠ 0 → i ≠ 50 → i ≠ 29 → i ≠ 30 → i ≠ 31 → s14.1 i = s6.1 i := fun i h0 h1 h2 h3 h4 => by
        have a1 : s14.1 i = s12.1 i := by rw [e14]; exact (setI_ne h0).1
        have a2 : s12.1 i = s10.1 i := by rw [e12]; exact (setI_ne h1).1
        rw [a1, a2, (F10 i (by simp; omega)).1, p9 i h0]
      have r2 : s14.1 0 2 = moi (mo (σ.1 0 3)) := by
        have a2 : s12.1 0 2 = s10.1 0 2 := by rw [e12, upI_1, if_neg (by omega)]
        rw [e14, upI_1, if_neg (by omega), a2, (F10 0 (by decide)).1, e9, upI_1, if_neg (by omega), e8, upI_1]; simp
      have r3 : s14.1 0 3 = moi (mo (σ.1 0 2)) := by
        have a2 : s12.1 0 3 = s10.1 0 3 := by rw [e12, upI_1, if_neg (by omega)]
        rw [e14, upI_1, if_neg (by omega), a2, (F10 0 (by decide)).1, e9, upI_1]; simp
      have r5 : s14.1 0 5 = σ.1 0 5 := by
        have a2 : s12.1 0 5 = s10.1 0 5 := by rw [e12, upI_1, if_neg (by omega)]
        rw [e14, upI_1, if_neg (by omega), a2, (F10 0 (by decide)).1, e9, upI_1, if_neg (by omega), e8, upI_1, if_neg (by omega)]; exact z0 5
      have r16 : s14.1 0 16 = 0 := by rw [e14, upI_1]; simp
      have rm : mo (s14.1 0 2) = mo (σ.1 0 3) := by rw [r2]; rcases hsp with ⟨a, b⟩ | ⟨a, b⟩ <;> rw [b] <;> rfl
      have M14 : MoC μ (mo (σ.1 0 3)) s14 := M6.mv (fun i h1 h2 => p14 i (by omega) (by omega) (by omega) (by omega) (by omega))
      have w29 : ∀ k, s14.1 29 k = s10.1 29 k := fun k => by
        have a1 : s14.1 29 = s12.1 29 := by rw [e14]; rfl
        have a2 : s12.1 29 = s10.1 29 := by rw [e12]; rfl
        rw [a1, a2]
      have w30 : s14.1 30 = s10.1 30 := by
        have a1 : s14.1 30 = s12.1 30 := by rw [e14]; rfl
        have a2 : s12.1 30 = s10.1 30 := by rw [e12]; rfl
        rw [a1, a2]
      have w31 : s14.1 31 = s10.1 31 := by
        have a1 : s14.1 31 = s12.1 31 := by rw [e14]; rfl
        have a2 : s12.1 31 = s10.1 31 := by rw [e12]; rfl
        rw [a1, a2]
      obtain ⟨a1, a2, a3, ⟨nx, b1, b2, b3, b4⟩, a5, a6, a7, a8⟩ := C6
      rw [rm, M14.1]
      refine hq s14 ⟨⟨?_, fun k hk => absurd hk (Nat.not_lt_zero k)⟩, ⟨?_, ?_⟩, ⟨⟨⟨fun r hr => ?_, fun a ha => ?_⟩, ?_, ?_, ?_, ?_, ?_⟩, ?_⟩, ⟨nx, b1, ?_, ?_, fun i g hi => by have hi : ([] : List GH)[i]? = some g := hi; simp at hi⟩, ⟨⟨rfl, fun k hk => absurd hk (Nat.not_lt_zero k)⟩, fun g hg => by cases hg⟩, r16, ⟨?_, fun s L hs => ?_⟩, ?_⟩ ?_
      · rw [p14 1 (by decide) (by decide) (by decide) (by decide) (by decide)]; exact a1.1
      · rw [r2, r3]
        rcases hsp with ⟨a, b⟩ | ⟨a, b⟩ <;> rw [a, b]
        · exact Or.inr ⟨rfl, rfl⟩
        · exact Or.inl ⟨rfl, rfl⟩
      · rw [rm]; exact M14
      · have hr : r < μ.1 := hr
        rw [w30, u1 r (by omega), p9 33 (by decide), (E1 33 (by decide)).1]; exact L4.1 r hr
      · rw [w31, u2 a ha, p9 34 (by decide), (E1 34 (by decide)).1]; exact L4.2 a ha
      · rw [w29, u3 2 (by decide) (by decide), p9 32 (by decide)]; exact A1
      · rw [w29, u3 3 (by decide) (by decide), p9 32 (by decide)]; exact A2
      · rw [w29, u3 4 (by decide) (by decide), p9 32 (by decide), E3]; exact q4
      · rw [w29, u3 5 (by decide) (by decide), p9 32 (by decide)]; exact A3
      · rw [w29, u3 6 (by decide) (by decide), p9 32 (by decide), A4, q6, nI_add]; rfl
      · rw [w29, u3 7 (by decide) (by decide), p9 32 (by decide), E2, l4]; rfl
      · have c1 : s14.1 50 = s12.1 50 := by rw [e14]; rfl
        rw [c1, e12, upI_1, if_neg (by omega), (F10 50 (by decide)).1, p9 50 (by decide)]; exact b2
      · have c1 : s14.1 50 = s12.1 50 := by rw [e14]; rfl
        rw [c1, e12, upI_1]; simp; rfl
      · rw [r5]; exact hC.2.2.2.2.2.2.1.1
      · have h4 := hg.2.2.1.1
        have hsl : s < γ.2.2.2.2.2.1.length := (List.getElem?_eq_some_iff.mp hs).1
        exact (a7.2 s L hs).mv (p14 _ (by omega) (by omega) (by omega) (by omega) (by omega)) (p14 _ (by omega) (by omega) (by omega) (by omega) (by omega))
      · exact a8.mv (p14 52 (by decide) (by decide) (by decide) (by decide) (by decide)) (p14 53 (by decide) (by decide) (by decide) (by decide) (by decide)) (p14 54 (by decide) (by decide) (by decide) (by decide) (by decide))
      · intro i hi
        rw [p14 i (by omega) (by omega) (by omega) (by omega) (by omega)]; exact FC i hi
    · rw [if_neg hne] at hq
      exact hq s6 C6 FC
/-! the model -/
theorem m_copyAll {p q n : Nat} {σ : wS} {Q : wS → Prop} (hpq : p ≠ q) (hp : ln p = n) (hq1 : ln q = n) (hn : n < 2 ^ 31) (hq : ∀ τ : wS, Fr [q] σ τ → (∀ k, k < n → τ.1 q k = σ.1 p k) → Q τ) : w_X12_copyAll p q σ Q := by
  have key : ∀ (f k : Nat) (ρ : wS), k + f = n + 1 → k ≤ n → Fr [q] σ ρ → (∀ j, j < k → ρ.1 q j = σ.1 p j) → l_X12_copyAll_2 p q Q f (nI k) ρ := by
    intro f
    induction f with
    | zero => intro k ρ h1 h2; exfalso; omega
    | succ f ih =>
      intro k ρ h1 h2 F1 V1
      rw [l_X12_copyAll_2, hp, hq1, nI_leI (by omega) (by omega), nI_clamp (by omega)]
      refine ⟨fun z => ?_, fun z => ⟨vp_in_nI (by omega) (by omega), vp_in_nI (by omega) (by omega), fun s1 e1 y2 e2 => ?_⟩⟩
      · have : k = n := by omega
        subst this
        exact hq ρ F1 V1
      · rw [e2, nI_1]
        refine ih (k + 1) s1 (by omega) (by omega) (by rw [e1]; exact F1.upI (by simp)) (fun j hj => ?_)
        rw [e1, upI_1]
        by_cases qq : j = k
        · rw [if_pos ⟨rfl, qq⟩, qq, (F1 p (by simp; exact hpq)).1]
        · rw [if_neg (fun r => qq r.2)]; exact V1 j (by omega)
  exact ⟨n + 1, key (n + 1) 0 σ (by omega) (by omega) Fr.rf (fun j hj => absurd hj (Nat.not_lt_zero j))⟩
theorem m_lays {μ : MU} {σ : wS} {Q : wS → Prop} (h8 : μ.1 ≤ 8) (h14 : σ.1 176 14 = nI μ.1) (hR : ∀ r, r < μ.1 → ∀ k, k < 7 → σ.1 181 (7 * r + k) = iI (μ.2.1 r k)) (hq : ∀ τ : wS, Fr [182] σ τ → (∀ r, r < μ.1 → ∀ a, a < 3 → τ.1 182 (3 * r + a) = iI (mu_w μ r a)) → Q τ) : w_X12_laysWays σ Q := by
  have key : ∀ (f m : Nat) (ρ : wS), m + f = μ.1 + 1 → m ≤ μ.1 → Fr [182] σ ρ → (∀ r, r < m → ∀ a, a < 3 → ρ.1 182 (3 * r + a) = iI (mu_w μ r a)) → l_X12_laysWays_2 Q f (nI m) ρ := by
    intro f
    induction f with
    | zero => intro m ρ h1 h2; exfalso; omega
    | succ f ih =>
      intro m ρ h1 h2 F1 V1
      have x14 : ρ.1 176 14 = nI μ.1 := by rw [(F1 176 (by decide)).1]; exact h14
      rw [l_X12_laysWays_2, x14, nI_leI (by omega) (by omega)]
      refine ⟨fun z => ?_, fun z y1 e1 => ?_⟩
      · have : m = μ.1 := by omega
        subst this
        exact hq ρ F1 V1
      · have hm : m < μ.1 := by omega
        obtain ⟨x1, x2, x3, x4, x5, x6, x7, x8⟩ := ix3 (show m < 8 by omega)
        have e1 : y1 = nI (7 * m) := by rw [e1, show (7 : Int32) = nI 7 from rfl, pk_mul]
        have i1 : y1 + 1 = nI (7 * m + 1) := by rw [e1]; exact nI_1 _
        have i2 : y1 + 2 = nI (7 * m + 2) := by rw [e1]; exact nI_add _ 2
        have i3 : y1 + 3 = nI (7 * m + 3) := by rw [e1]; exact nI_add _ 3
        have i4 : y1 + 4 = nI (7 * m + 4) := by rw [e1]; exact nI_add _ 4
        rw [i1, i2, i3, i4, x1, x2, x3, nI_clamp (show 7 * m + 1 < 2 ^ 31 by omega), nI_clamp (show 7 * m + 2 < 2 ^ 31 by omega), nI_clamp (show 7 * m + 3 < 2 ^ 31 by omega), nI_clamp (show 7 * m + 4 < 2 ^ 31 by omega)]
        have w181 : ∀ (τ : wS), τ.1 181 = ρ.1 181 → ∀ k, k < 7 → τ.1 181 (7 * m + k) = iI (μ.2.1 m k) := fun τ ht k hk => by rw [ht, (F1 181 (by decide)).1]; exact hR m hm k hk
        refine ⟨vp_in_nI (by omega) (by decide), x4, fun s2 e2 => ⟨vp_in_nI (by omega) (by decide), x5, fun s3 e3 => ⟨vp_in_nI (by omega) (by decide), vp_in_nI (by omega) (by decide), vp_in_nI (by omega) (by decide), vp_in_nI (by omega) (by decide), x6, fun s4 e4 y5 e5 => ?_⟩⟩⟩
        have u2 : s2.1 181 = ρ.1 181 := by rw [e2]; rfl
        have u3 : s3.1 181 = ρ.1 181 := by rw [e3]; exact u2
        rw [w181 ρ rfl 3 (by decide)] at e2
        rw [w181 s2 u2 4 (by decide)] at e3
        rw [w181 s3 u3 1 (by decide), w181 s3 u3 4 (by decide), w181 s3 u3 2 (by decide), w181 s3 u3 3 (by decide), iI_mul, iI_mul, iI_sub] at e4
        rw [e5, nI_1]
        refine ih (m + 1) s4 (by omega) (by omega) (by rw [e4, e3, e2]; exact ((F1.upI (by decide)).upI (by decide)).upI (by decide)) (fun r hr a ha => ?_)
        rw [e4, upI_1, e3, upI_1, e2, upI_1]
        by_cases qq : r = m
        · subst qq
          rcases (show a = 0 ∨ a = 1 ∨ a = 2 by omega) with rfl | rfl | rfl
          · rw [if_neg (by omega), if_neg (by omega), if_pos ⟨rfl, by omega⟩]; rfl
          · rw [if_neg (by omega), if_pos ⟨rfl, by omega⟩]; rfl
          · rw [if_pos ⟨rfl, by omega⟩]; rfl
        · rw [if_neg (by omega), if_neg (by omega), if_neg (by omega)]
          exact V1 r (by omega) a ha
  exact ⟨μ.1 + 1, key (μ.1 + 1) 0 σ (by omega) (by omega) Fr.rf (fun r hr => absurd hr (Nat.not_lt_zero r))⟩
