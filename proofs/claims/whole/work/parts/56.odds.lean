/-! bits counted -/
theorem s_bitCount {x : Nat} {σ : wS} {Q : Int32 → wS → Prop} (hx : x < 256) (hq : Q (nI (cnt (fun r => x.testBit r) 8)) σ) : w_J6_bitCount_0f7a4 (nI x) σ Q := by
  intro y1 e1 y2 e2 y3 e3 y4 e4 y5 e5
  rw [e5, e4, e3, e2, e1]
  have key : ∀ x, x < 256 → (fun y3 : Int32 => (fun y4 : Int32 => (y4 + ((y4).toUInt32 >>> (((16 : Int32)).toUInt32 &&& Int32.toUInt32 31)).toInt32) &&& (63 : Int32)) (y3 + ((y3).toUInt32 >>> (((8 : Int32)).toUInt32 &&& Int32.toUInt32 31)).toInt32)) ((fun y2 : Int32 => ((y2 + ((y2).toUInt32 >>> (((4 : Int32)).toUInt32 &&& Int32.toUInt32 31)).toInt32) &&& (252645135 : Int32))) ((fun y1 : Int32 => ((y1 &&& (858993459 : Int32)) + (((y1).toUInt32 >>> (((2 : Int32)).toUInt32 &&& Int32.toUInt32 31)).toInt32 &&& (858993459 : Int32)))) (nI x - (((nI x).toUInt32 >>> (((1 : Int32)).toUInt32 &&& Int32.toUInt32 31)).toInt32 &&& (1431655765 : Int32))))) = nI (cnt (fun r => x.testBit r) 8) := by decide +kernel
  rw [← key x hx] at hq
  exact hq
theorem m_size {x : Nat} {σ : wS} {Q : Int32 → wS → Prop} (hx : x < 256) (hq : Q (nI (cnt (fun r => x.testBit r) 8)) σ) : w_X12_size (nI x) σ Q := by
  have key : ∀ (k m : Nat), m ≤ 8 → m + k = 9 → l_X12_size_4 Q k (nI x) (nI (cnt (fun r => x.testBit r) m)) (nI m) σ := by
    intro k
    induction k with
    | zero => intro m h1 h2; omega
    | succ k ih =>
      intro m h1 h2
      simp only [l_X12_size_4]
      have e8 : ((8 : Int32) ≤ nI m) ↔ 8 ≤ m := nI_leI (a := 8) (by decide) (by omega)
      rw [e8]
      refine ⟨fun hc => ?_, fun hc y1 e1 y2 e2 => ?_⟩
      · have : m = 8 := by omega
        subst this
        exact hq
      · have ih := ih (m + 1) (by omega) (by omega)
        rw [bt8 hx (by omega)] at e1
        rw [e1, e2, nI_1]
        have ec : cnt (fun r => x.testBit r) (m + 1) = cnt (fun r => x.testBit r) m + (if x.testBit m then 1 else 0) := rfl
        rw [ec] at ih
        cases hb : x.testBit m
        · rw [hb] at ih
          simp only [Bool.false_eq_true, if_false, Nat.add_zero, Int32.add_zero] at ih ⊢
          exact ih
        · rw [hb] at ih
          simp only [if_true] at ih ⊢
          rw [nI_1]; exact ih
  exact ⟨9, key 9 0 (by decide) (by decide)⟩
/-! odds -/
def ptN (c : Int32) (x : Nat) : Nat → Int64
  | 0 => 1000000000
  | m + 1 => if x.testBit m then (ptN c x m * c.toInt64) / 100 else ptN c x m - (ptN c x m * c.toInt64) / 100
def odS (c : Int32) (n st : Nat) : Nat → Int64
  | 0 => 0
  | m + 1 => odS c n st m + (if cnt (fun r => m.testBit r) 8 ≤ st then ptN c m n else 0)
theorem s_partsOf {c : Int32} {x n : Nat} {σ : wS} {Q : Int64 → wS → Prop} (hx : x < 256) (hn : n ≤ 6) (hq : Q (ptN c x n) σ) : w_X11_partsOf c (nI x) (nI n) σ Q := by
  have key : ∀ (k m : Nat), m ≤ n → m + k = n + 1 → l_X11_partsOf_7 Q k c (nI x) (nI n) (ptN c x m) (nI m) σ := by
    intro k
    induction k with
    | zero => intro m h1 h2; omega
    | succ k ih =>
      intro m h1 h2
      simp only [l_X11_partsOf_7]
      rw [nI_leI (by omega) (by omega)]
      refine ⟨fun hc => ?_, fun hc y1 e1 => ?_⟩
      · have : m = n := by omega
        subst this
        exact hq
      · have ih := ih (m + 1) (by omega) (by omega)
        rw [bt8 hx (by omega)]
        simp only [b_X11_partsOf_41, forall_eq]
        rw [nI_1, e1]
        rw [ptN] at ih
        cases hb : x.testBit m
        · rw [hb] at ih; exact ⟨fun _ => ih, fun q => absurd rfl q⟩
        · rw [hb] at ih; exact ⟨fun q => absurd q (by decide), fun _ => ih⟩
  exact ⟨n + 1, key (n + 1) 0 (by omega) (by omega)⟩
theorem shl_n {n : Nat} (hn : n ≤ 6) : (1 : Int32) <<< (nI n &&& 31) = nI (2 ^ n) := by
  have : ∀ n, n < 7 → (1 : Int32) <<< (nI n &&& 31) = nI (2 ^ n) := by decide
  exact this n (by omega)
theorem p64 {n : Nat} (hn : n ≤ 6) : 2 ^ n ≤ 64 := Nat.pow_le_pow_right (by decide) hn
def f_odds (c x y z p : Int32) (γ : GS) : Int32 × GS := (if gus γ.2.1.1 x y z ∧ (0 ≤ c.toInt ∧ c.toInt ≤ 100) ∧ (1 ≤ p.toInt ∧ p.toInt ≤ 6) then (odS c p.toInt.toNat (rpt γ.2.1 x.toInt y.toInt z.toInt p.toInt.toNat γ.2.2.1.1).1 (2 ^ p.toInt.toNat)).toInt32 else -1, γ)
theorem o_odds {bd : Nat} {σ : wS} {c x y z p : Int32} (hI : In bd σ) : w_X11_odds c x y z p σ (fun r1 s => w_X12_odds c x y z p s (fun r' s' => r1 = r' ∧ In (bd + 40) s')) := by
  refine prI (f := f_odds c x y z p) (w1 := w_X11_odds c x y z p) (w2 := w_X12_odds c x y z p) (fun γ σ Q hC hg hq => ?_) (fun γ σ Q hD hg hq => ?_) (fun γ hg => hg.wk (by omega)) hI
  · unfold f_odds at hq
    unfold w_X11_odds
    rw [s_isGust hg hC]
    refine sw (fun hu => ?_) (fun hu => by rw [if_neg (fun q => hu q.1)] at hq; exact hq σ hC Fcm.rf)
    rw [w0_100]
    refine sw (fun hc => ?_) (fun hw => by rw [if_neg (fun q => hw q.2.1)] at hq; exact hq σ hC Fcm.rf)
    rw [w1_6]
    refine sw' (fun hp => ?_) (fun hw => by rw [if_neg (fun q => hw q.2.2)] at hq; exact hq σ hC Fcm.rf)
    rw [if_pos ⟨hu, hc, hp⟩] at hq
    obtain ⟨hμ, hk⟩ := hg.hk hu.1
    obtain ⟨n, rfl, hn, -⟩ := nn (x := p) (by omega)
    rw [← hn, show ((n : Int)).toNat = n by omega] at hq
    have hn6 : n ≤ 6 := by omega
    have h64 := p64 hn6
    refine s_begin0 hg hC (fun s1 F1 C1 H1 => ⟨n + 1, ?_⟩)
    have hle := rpt_le γ.2.1 x.toInt y.toInt z.toInt n γ.2.2.1.1
    have := s_ts (Q := fun r8 s7 => (∃ m, l_X11_odds_52 Q m c (nI n) r8 (0 : Int64) (0 : Int32) s7)) (x := x) (y := y) (z := z) hg hu.1 n 0 γ.2.2.1.1 s1 (by omega) hk.1 C1 H1.1 (Or.inl (by omega)) (fun τ C2 F2 _ => ?_)
    · rw [Nat.zero_add] at this; exact this
    · have hq := hq τ C2 ((F1.tr F2).c (by decide))
      rw [Nat.zero_add]
      generalize (rpt γ.2.1 x.toInt y.toInt z.toInt n γ.2.2.1.1).1 = st at hq hle
      have key : ∀ (k m : Nat), m ≤ 2 ^ n → m + k = 2 ^ n + 1 → l_X11_odds_52 Q k c (nI n) (nI st) (odS c n st m) (nI m) τ := by
        intro k
        induction k with
        | zero => intro m h1 h2; omega
        | succ k ih =>
          intro m h1 h2
          simp only [l_X11_odds_52]
          rw [shl_n hn6, nI_leI (by omega) (by omega)]
          refine ⟨fun hc => ?_, fun hc => ?_⟩
          · have : m = 2 ^ n := by omega
            rw [this]
            exact hq
          · have ih := ih (m + 1) (by omega) (by omega)
            rw [← nI_1, odS] at ih
            refine s_bitCount (by omega) ?_
            have hcl := cnt_le (fun r => m.testBit r) 8
            rw [nI_ltI (by omega) (by omega)]
            simp only [b_X11_odds_84, forall_eq]
            refine ⟨fun q => ?_, fun q => ?_⟩
            · rw [if_neg (by omega), Int64.add_zero] at ih; exact ih
            · rw [if_pos (by omega)] at ih
              exact s_partsOf (by omega) hn6 ih
      exact ⟨2 ^ n + 1, key (2 ^ n + 1) 0 (Nat.zero_le _) (by omega)⟩
  · intro s1 e1
    have D1 : D γ s1 := by rw [e1]; exact hD.up (by decide)
    have F1 : Fdm σ s1 := by rw [e1]; exact Fdm.rf.up (by decide)
    unfold f_odds at hq
    rw [i0_100]
    refine sw (fun hc => ?_) (fun hw => by rw [if_neg (fun q => hw q.2.1)] at hq; exact hq s1 D1 F1)
    rw [m_isWind hg D1]
    refine sw (fun hu => ?_) (fun hu => by rw [if_neg (fun q => hu q.1)] at hq; exact hq s1 D1 F1)
    rw [i1_6]
    refine sw' (fun hp => ?_) (fun hw => by rw [if_neg (fun q => hw q.2.2)] at hq; exact hq s1 D1 F1)
    rw [if_pos ⟨hu, hc, hp⟩] at hq
    obtain ⟨hμ, hk⟩ := hg.hk hu.1
    obtain ⟨n, rfl, hn, -⟩ := nn (x := p) (by omega)
    rw [← hn, show ((n : Int)).toNat = n by omega] at hq
    have hn6 : n ≤ 6 := by omega
    have h64 := p64 hn6
    have hle := rpt_le γ.2.1 x.toInt y.toInt z.toInt n γ.2.2.1.1
    refine m_begin0 hμ.1 D1 (fun s2 D2 F2 R2 => ⟨n + 1, ?_⟩)
    have fin : ∀ τ : wS, D γ τ → Fdm s2 τ → ∃ m, l_X12_odds_61 Q m c (nI n) (nI (rpt γ.2.1 x.toInt y.toInt z.toInt n γ.2.2.1.1).1) (0 : Int32) (0 : Int32) τ := by
      intro τ D3 F3
      have hq := hq τ D3 ((F1.tr F2).tr F3)
      generalize (rpt γ.2.1 x.toInt y.toInt z.toInt n γ.2.2.1.1).1 = st at hq hle
      have inner : ∀ (K61 : Int32 → Int32 → Int32 → Int32 → Int32 → wS → Prop) (s : Int32) (m : Nat), m < 2 ^ n → K61 c (nI n) (nI st) (s + (ptN c m n).toInt32) (nI (m + 1)) τ → ∀ (k i : Nat), i ≤ n → i + k = n + 1 → l_X12_odds_91 K61 Q k c (nI n) (nI st) s (nI m) (ptN c m i) (nI i) τ := by
        intro K61 s m hm hK k
        induction k with
        | zero => intro i h1 h2; omega
        | succ k ih =>
          intro i h1 h2
          simp only [l_X12_odds_91]
          rw [nI_leI (by omega) (by omega)]
          refine ⟨fun hc y1 e1 => ?_, fun hc y2 e2 => ?_⟩
          · have : i = n := by omega
            subst this
            simp only [b_X12_odds_145, forall_eq]
            rw [e1, nI_1]
            exact hK
          · have ih := ih (i + 1) (by omega) (by omega)
            rw [m_has (by omega) (show i < 8 by omega)]
            simp only [b_X12_odds_129, forall_eq]
            rw [nI_1, e2]
            rw [ptN] at ih
            cases hb : m.testBit i
            · rw [hb] at ih; exact ⟨fun _ => ih, fun q => absurd rfl q⟩
            · rw [hb] at ih; exact ⟨fun q => absurd q (by decide), fun _ => ih⟩
      have key : ∀ (k m : Nat), m ≤ 2 ^ n → m + k = 2 ^ n + 1 → l_X12_odds_61 Q k c (nI n) (nI st) (odS c n st m).toInt32 (nI m) τ := by
        intro k
        induction k with
        | zero => intro m h1 h2; omega
        | succ k ih =>
          intro m h1 h2
          simp only [l_X12_odds_61]
          rw [shl_n hn6, nI_leI (by omega) (by omega)]
          refine ⟨fun hc => ?_, fun hc => ?_⟩
          · have : m = 2 ^ n := by omega
            rw [this]
            exact hq
          · have ih := ih (m + 1) (by omega) (by omega)
            rw [odS, Int64.toInt32_add] at ih
            refine m_size (by omega) ?_
            have hcl := cnt_le (fun r => m.testBit r) 8
            rw [nI_leI (by omega) (by omega)]
            refine ⟨fun q => ?_, fun q => ?_⟩
            · rw [if_pos q] at ih
              exact ⟨n + 1, inner (fun x1 x5 x6 x7 x8 σ => l_X12_odds_61 Q k x1 x5 x6 x7 x8 σ) _ m (by omega) ih (n + 1) 0 (by omega) (by omega)⟩
            · rw [if_neg q] at ih
              simp only [b_X12_odds_145, forall_eq]
              rw [nI_1]
              rw [show (0 : Int64).toInt32 = 0 from rfl, Int32.add_zero] at ih
              exact ih
      exact ⟨2 ^ n + 1, key (2 ^ n + 1) 0 (Nat.zero_le _) (by omega)⟩
    have key : ∀ (k t : Nat) (h : HS) (lg : List LE) (ρ : wS), t + k = n → hok γ.2.1 h → D γ ρ → RowM γ.2.1 h lg (ρ.1 189) → Fdm s2 ρ → t + (rpt γ.2.1 x.toInt y.toInt z.toInt k h).1 = (rpt γ.2.1 x.toInt y.toInt z.toInt n γ.2.2.1.1).1 → l_X12_stood_16 (fun r9 s8 => (∃ m, l_X12_odds_61 Q m c (nI n) r9 (0 : Int32) (0 : Int32) s8)) (k + 1) x y z (nI n) (nI t) ρ := by
      intro k
      induction k with
      | zero =>
        intro t h lg ρ ht hk hD hR hF he
        simp only [l_X12_stood_16]
        refine ⟨fun _ => ?_, fun q => absurd (nI_le (by omega) (by omega)) q⟩
        have : t = (rpt γ.2.1 x.toInt y.toInt z.toInt n γ.2.2.1.1).1 := he
        rw [this]
        exact fin ρ hD hF
      | succ k ih =>
        intro t h lg ρ ht hk hD hR hF he
        obtain ⟨o1, o2, o3, o4⟩ := att_ok hμ hk 0 x.toInt y.toInt z.toInt
        rw [l_X12_stood_16]
        refine ⟨fun q => absurd q (nI_ge (by omega) (by omega)), fun _ => ?_⟩
        refine m_att (sort := 0) hg hu.1 hD hk hR (by decide) (fun τ D3 F3 hA => ?_)
        obtain ⟨A1, A2, A3, A4, A5, A6⟩ := hA
        rw [att_em hμ hk]
        rw [rpt] at he
        refine ⟨fun hne => ?_, fun heq => ?_⟩
        · rw [if_neg (fun q => hne q.1)] at he
          have : t = (rpt γ.2.1 x.toInt y.toInt z.toInt n γ.2.2.1.1).1 := he
          rw [this]
          exact fin τ D3 (hF.tr F3)
        · obtain ⟨B1, B2⟩ := A5 (Or.inl heq)
          have el : (nI (att γ.2.1 h 0 x.toInt y.toInt z.toInt).2.2.length = 0) ↔ (att γ.2.1 h 0 x.toInt y.toInt z.toInt).2.2 = [] := by
            rw [show (0 : Int32) = nI 0 from rfl, nI_eq (by omega) (by decide), List.length_eq_zero_iff]
          rw [B1, el]
          refine ⟨fun hb => ?_, fun hb y3 e3 => ?_⟩
          · rw [if_neg (fun q => hb q.2)] at he
            have : t = (rpt γ.2.1 x.toInt y.toInt z.toInt n γ.2.2.1.1).1 := he
            rw [this]
            exact fin τ D3 (hF.tr F3)
          · rw [if_pos ⟨heq, hb⟩] at he
            have he : t + ((rpt γ.2.1 x.toInt y.toInt z.toInt k (att γ.2.1 h 0 x.toInt y.toInt z.toInt).2.1).1 + 1) = (rpt γ.2.1 x.toInt y.toInt z.toInt n γ.2.2.1.1).1 := he
            rw [e3, nI_1]
            exact ih (t + 1) _ _ τ (by omega) (o4 heq).1 D3 (A6 heq) (hF.tr F3) (by omega)
    exact key n 0 γ.2.2.1.1 _ s2 (by omega) hk.1 D2 R2 Fdm.rf (Nat.zero_add _)
/-! without -/
def f_without (x w : Int32) (γ : GS) : Int32 × GS := (if (fas γ.2.1 γ.2.2.1.1 x ∧ (0 ≤ w.toInt ∧ w.toInt ≤ 1)) ∧ (att γ.2.1 γ.2.2.1.1 2 x.toInt 0 0).1 = -1 then (if w = 0 then nI (att γ.2.1 γ.2.2.1.1 2 x.toInt 0 0).2.1.2.2.1.1 else nI (msk (att γ.2.1 γ.2.2.1.1 2 x.toInt 0 0).2.2)) else -1, γ)
theorem o_without {bd : Nat} {σ : wS} {x w : Int32} (hI : In bd σ) : w_X11_without x w σ (fun r1 s => w_X12_without x w s (fun r' s' => r1 = r' ∧ In (bd + 40) s')) := by
  have e0 : (0 : Int32).toInt = 0 := by decide
  refine prI (f := f_without x w) (w1 := w_X11_without x w) (w2 := w_X12_without x w) (fun γ σ Q hC hg hq => ?_) (fun γ σ Q hD hg hq => ?_) (fun γ hg => hg.wk (by omega)) hI
  · unfold f_without at hq
    unfold w_X11_without w_X11_settlesWithout
    rw [s_isFast hg hC]
    refine sw (fun hf => ?_) (fun hf => by rw [if_neg (fun q => hf q.1.1)] at hq; exact hq σ hC Fcm.rf)
    rw [w0_1]
    refine sw (fun hw => ?_) (fun hw => by rw [if_neg (fun q => hw q.1.2)] at hq; exact hq σ hC Fcm.rf)
    have h0 : 0 < γ.2.1.1 := by have := hf.1.1; have := hf.1.2; omega
    obtain ⟨hμ, hk⟩ := hg.hk h0
    refine s_begin0 hg hC (fun s1 F1 C1 H1 => ?_)
    refine s_att (sort := 2) hg h0 C1 hk.1 H1.1 (by decide) (fun τ C2 F2 hA => ?_)
    rw [e0] at hA ⊢
    obtain ⟨A1, A2, A3, A4, A5, A6, A7⟩ := hA
    rw [att_em hμ hk.1]
    refine ⟨fun hne => ⟨fun q => absurd rfl q, fun _ => by rw [if_neg (fun q => hne q.2)] at hq; exact hq τ C2 ((F1.tr F2).c (by decide))⟩, fun heq => ⟨fun _ => ?_, fun q => absurd q (by decide)⟩⟩
    rw [if_pos ⟨⟨hf, hw⟩, heq⟩] at hq
    have hq := hq τ C2 ((F1.tr F2).c (by decide))
    rw [A4, (A7 heq).1.2.1]
    exact ⟨fun hw0 => by rw [if_neg hw0] at hq; exact hq, fun hw0 => by rw [if_pos hw0] at hq; exact hq⟩
  · intro s1 e1
    have D1 : D γ s1 := by rw [e1]; exact hD.up (by decide)
    have F1 : Fdm σ s1 := by rw [e1]; exact Fdm.rf.up (by decide)
    unfold f_without at hq
    have h8 := hg.n8
    rw [isRM h8 D1.2.1.1]
    refine sw (fun hr => ?_) (fun hr => by rw [if_neg (fun q => hr q.1.1.1)] at hq; exact hq s1 D1 F1)
    have h0 : 0 < γ.2.1.1 := by have := hr.1; have := hr.2; omega
    obtain ⟨hμ, hk⟩ := hg.hk h0
    obtain ⟨j, rfl, hj, -⟩ := nn hr.1
    have hjn : j < γ.2.1.1 := by have := hr.2; omega
    have hjt : (nI j).toInt.toNat = j := by omega
    have v8 := v8p (show j < 8 by omega)
    rw [v8.2, D1.row.2.2.1 j hjn, srt_hold]
    refine ⟨v8.1, fun hf => ?_, fun hf => ?_⟩
    · rw [if_neg (fun q => by have := q.1.1.2; rw [hjt, hf] at this; cases this)] at hq
      exact hq s1 D1 F1
    rw [i0_1]
    refine sw' (fun hw => ?_) (fun hw => by rw [if_neg (fun q => hw q.1.2)] at hq; exact hq s1 D1 F1)
    refine m_begin0 hμ.1 D1 (fun s2 D2 F2 R2 => ?_)
    refine m_att (sort := 2) hg h0 D2 hk.1 R2 (by decide) (fun τ D3 F3 hA => ?_)
    rw [e0] at hA ⊢
    obtain ⟨A1, A2, A3, A4, A5, A6⟩ := hA
    obtain ⟨o1, o2, o3, o4⟩ := att_ok hμ hk.1 2 (nI j).toInt 0 0
    rw [att_em hμ hk.1]
    refine ⟨fun heq => ?_, fun hne => by rw [if_neg (fun q => hne q.2)] at hq; exact hq τ D3 ((F1.tr F2).tr F3)⟩
    rw [if_pos ⟨⟨⟨hr, by rw [hjt]; simpa using hf⟩, hw⟩, heq⟩] at hq
    have hq := hq τ D3 ((F1.tr F2).tr F3)
    obtain ⟨B1, B2⟩ := A5 (Or.inl heq)
    refine ⟨fun hw0 => ?_, fun hw0 => ?_⟩
    · rw [if_neg hw0] at hq
      exact m_brokenBits o3 o2 B1 B2 hq
    · rw [if_pos hw0] at hq
      exact m_taut hμ rfl (o4 heq).1 D3.2.1 (A6 heq) hq
/-! key -/
def kyv (μ : MU) (h : HS) (r : Nat) : Nat := if (att μ h 2 (r : Int) 0 0).1 = -1 then (att μ h 2 (r : Int) 0 0).2.2.length else 9
def ky (μ : MU) (h : HS) : Nat → Option (Nat × Nat)
  | 0 => none
  | m + 1 => if (h.2.2.1.2.1.testBit m || h.2.2.1.2.2.testBit m) = true then ky μ h m else (match ky μ h m with
    | none => some (m, kyv μ h m)
    | some q => if q.2 < kyv μ h m then some (m, kyv μ h m) else some q)
def f_key (γ : GS) : Int32 × GS := (match ky γ.2.1 γ.2.2.1.1 γ.2.1.1 with
  | none => -1
  | some q => nI q.1, γ)
def kyI (o : Option (Nat × Nat)) : Int32 := match o with
  | none => -1
  | some q => nI q.1
def kyC (o : Option (Nat × Nat)) : Int32 := match o with
  | none => -1
  | some q => nI q.2
def kyM (o : Option (Nat × Nat)) : Int32 := match o with
  | none => 0
  | some q => nI q.2
theorem ky_b {μ : MU} (hμ : mu_ok μ) {h : HS} (hk : hok μ h) : ∀ m q, ky μ h m = some q → q.1 < m ∧ q.2 ≤ 9 := by
  have hv : ∀ r, kyv μ h r ≤ 9 := by
    intro r
    unfold kyv
    split
    · have := (att_ok hμ hk 2 (r : Int) 0 0).2.2.1; omega
    · omega
  intro m
  induction m with
  | zero => intro q hq; cases hq
  | succ m ih =>
    intro q hq
    rw [ky] at hq
    split at hq
    · have := ih q hq; omega
    · cases hc : ky μ h m with
      | none =>
        rw [hc] at hq
        have : q = (m, kyv μ h m) := by simpa using hq.symm
        subst this
        exact ⟨by simp, hv m⟩
      | some p =>
        rw [hc] at hq
        have hp := ih p hc
        simp only at hq
        split at hq
        · have : q = (m, kyv μ h m) := by simpa using hq.symm
          subst this
          exact ⟨by simp, hv m⟩
        · have : q = p := by simpa using hq.symm
          subst this
          omega
theorem o_key {bd : Nat} {σ : wS} (hI : In bd σ) : w_X11_key σ (fun r1 s => w_X12_key s (fun r' s' => r1 = r' ∧ In (bd + 40) s')) := by
  have e0 : (0 : Int32).toInt = 0 := by decide
  have fk : ∀ γ : GS, f_key γ = (kyI (ky γ.2.1 γ.2.2.1.1 γ.2.1.1), γ) := fun γ => rfl
  refine prI (f := f_key) (w1 := w_X11_key) (w2 := w_X12_key) (fun γ σ Q hC hg hq => ?_) (fun γ σ Q hD hg hq => ?_) (fun γ hg => hg.wk (by omega)) hI
  · rw [fk] at hq
    have h8 := hg.n8
    rcases Nat.eq_zero_or_pos γ.2.1.1 with h0 | h0
    · refine ⟨1, ?_⟩
      simp only [l_X11_key_6]
      rw [hC.2.1.2.1, h0]
      refine ⟨fun _ => ?_, fun q => absurd (by decide) q⟩
      have := hq σ hC Fcm.rf
      rw [h0] at this
      exact this
    · obtain ⟨hμ, hk⟩ := hg.hk h0
      have key : ∀ (k m : Nat) (ρ : wS), m ≤ γ.2.1.1 → m + k = γ.2.1.1 + 1 → C γ ρ → Fcm σ ρ → l_X11_key_6 Q k (kyI (ky γ.2.1 γ.2.2.1.1 m)) (kyC (ky γ.2.1 γ.2.2.1.1 m)) (nI m) ρ := by
        intro k
        induction k with
        | zero => intro m ρ h1 h2; omega
        | succ k ih =>
          intro m ρ h1 h2 C1 F1
          simp only [l_X11_key_6]
          rw [C1.2.1.2.1, nI_leI (by omega) (by omega)]
          refine ⟨fun hc => ?_, fun hc => ?_⟩
          · have : m = γ.2.1.1 := by omega
            subst this
            exact hq ρ C1 F1
          · have hm : m < γ.2.1.1 := by omega
            have em : (nI m).toInt = (m : Int) := nI_toInt (by omega)
            have emt : (nI m).toInt.toNat = m := by omega
            have ih := fun ρ => ih (m + 1) ρ (by omega) (by omega)
            rw [s_isFast hg C1]
            refine sw' (fun hf => ?_) (fun hf => ?_)
            rotate_left
            · have hb : (γ.2.2.1.1.2.2.1.2.1.testBit m || γ.2.2.1.1.2.2.1.2.2.testBit m) = true := by
                cases hh : (γ.2.2.1.1.2.2.1.2.1.testBit m || γ.2.2.1.1.2.2.1.2.2.testBit m)
                · exact absurd ⟨⟨by omega, by omega⟩, by rw [emt]; exact hh⟩ hf
                · rfl
              have ih := ih ρ C1 F1
              rw [ky, if_pos hb] at ih
              simp only [b_X11_key_61, forall_eq]
              rw [nI_1]; exact ih
            have hb : ¬ (γ.2.2.1.1.2.2.1.2.1.testBit m || γ.2.2.1.1.2.2.1.2.2.testBit m) = true := by have := hf.2; rw [emt] at this; rw [this]; decide
            refine s_begin0 hg C1 (fun s1 F2 C2 H2 => ?_)
            refine s_att (sort := 2) hg h0 C2 hk.1 H2.1 (by decide) (fun τ C3 F3 hA => ?_)
            rw [e0, em] at hA ⊢
            obtain ⟨A1, A2, A3, A4, A5, A6, A7⟩ := hA
            obtain ⟨o1, o2, o3, o4⟩ := att_ok hμ hk.1 2 (m : Int) 0 0
            have ih := ih τ C3 (F1.tr ((F2.tr F3).c (by decide)))
            rw [ky, if_neg hb] at ih
            have hv9 : kyv γ.2.1 γ.2.2.1.1 m ≤ 9 := by unfold kyv; split <;> omega
            have fin : b_X11_key_48 (fun x1 x2 x3 σ => l_X11_key_6 Q k x1 x2 x3 σ) Q (kyI (ky γ.2.1 γ.2.2.1.1 m)) (kyC (ky γ.2.1 γ.2.2.1.1 m)) (nI m) (nI (kyv γ.2.1 γ.2.2.1.1 m)) τ := by
              unfold b_X11_key_48
              simp only [b_X11_key_61, forall_eq]
              rw [nI_1]
              cases hc : ky γ.2.1 γ.2.2.1.1 m with
              | none =>
                rw [hc] at ih
                refine ⟨fun q => ?_, fun _ => ih⟩
                exfalso
                have q : nI (kyv γ.2.1 γ.2.2.1.1 m) ≤ -1 := q
                rw [iI_n, show (-1 : Int32) = iI (-1) by decide, iI_le (by omega) (by decide)] at q
                omega
              | some p =>
                rw [hc] at ih
                have hpb := ky_b hμ hk.1 m p hc
                have e2 : (nI (kyv γ.2.1 γ.2.2.1.1 m) ≤ kyC (some p)) ↔ kyv γ.2.1 γ.2.2.1.1 m ≤ p.2 := nI_leI (by omega) (by omega)
                rw [e2]
                simp only at ih
                refine ⟨fun q => ?_, fun q => ?_⟩
                · rw [if_neg (by omega)] at ih; exact ih
                · rw [if_pos (by omega)] at ih; exact ih
            rw [att_em hμ hk.1]
            refine ⟨fun hne => ⟨fun _ => ?_, fun q => absurd rfl q⟩, fun heq => ⟨fun q => absurd q (by decide), fun _ => ?_⟩⟩
            · have : kyv γ.2.1 γ.2.2.1.1 m = 9 := by unfold kyv; rw [if_neg hne]
              rw [this] at fin; exact fin
            · have : kyv γ.2.1 γ.2.2.1.1 m = (att γ.2.1 γ.2.2.1.1 2 (m : Int) 0 0).2.2.length := by unfold kyv; rw [if_pos heq]
              rw [this] at fin
              rw [A5]; exact fin
      exact ⟨γ.2.1.1 + 1, key (γ.2.1.1 + 1) 0 σ (by omega) (by omega) hC Fcm.rf⟩
  · rw [fk] at hq
    intro s1 e1
    have D1 : D γ s1 := by rw [e1]; exact hD.up (by decide)
    have F1 : Fdm σ s1 := by rw [e1]; exact Fdm.rf.up (by decide)
    have h8 := hg.n8
    rw [D1.2.1.1, n0_iff h8]
    refine ⟨fun h0 => ?_, fun h0 => ?_⟩
    rotate_left
    · have := hq s1 D1 F1
      rw [show γ.2.1.1 = 0 by omega] at this
      exact this
    have h0 : 0 < γ.2.1.1 := by omega
    obtain ⟨hμ, hk⟩ := hg.hk h0
    have key : ∀ (k m : Nat) (ρ : wS), m ≤ γ.2.1.1 → m + k = γ.2.1.1 + 1 → D γ ρ → Fdm σ ρ → l_X12_key_20 Q k (kyI (ky γ.2.1 γ.2.2.1.1 m)) (kyM (ky γ.2.1 γ.2.2.1.1 m)) (nI m) ρ := by
      intro k
      induction k with
      | zero => intro m ρ h1 h2; omega
      | succ k ih =>
        intro m ρ h1 h2 D1 F1
        simp only [l_X12_key_20]
        rw [D1.2.1.1, nI_leI (by omega) (by omega)]
        refine ⟨fun hc => ?_, fun hc => ?_⟩
        · have : m = γ.2.1.1 := by omega
          subst this
          exact hq ρ D1 F1
        · have hm : m < γ.2.1.1 := by omega
          have em : (nI m).toInt = (m : Int) := nI_toInt (by omega)
          have ih := fun ρ => ih (m + 1) ρ (by omega) (by omega)
          have v8 := v8p (show m < 8 by omega)
          rw [v8.2, D1.row.2.2.1 m hm, srt_lt2]
          refine ⟨v8.1, fun hf => ?_, fun hf => ?_⟩
          rotate_left
          · have ih := ih ρ D1 F1
            rw [ky, if_pos (by rw [Bool.not_eq_false] at hf; exact hf)] at ih
            simp only [b_X12_key_103, forall_eq]
            rw [nI_1]; exact ih
          refine m_begin0 hμ.1 D1 (fun s2 D2 F2 R2 => ?_)
          refine m_att (sort := 2) hg h0 D2 hk.1 R2 (by decide) (fun τ D3 F3 hA => ?_)
          rw [e0, em] at hA ⊢
          obtain ⟨A1, A2, A3, A4, A5, A6⟩ := hA
          obtain ⟨o1, o2, o3, o4⟩ := att_ok hμ hk.1 2 (m : Int) 0 0
          have ih := ih τ D3 ((F1.tr F2).tr F3)
          rw [ky, if_neg (by rw [hf]; decide)] at ih
          have hv9 : kyv γ.2.1 γ.2.2.1.1 m ≤ 9 := by unfold kyv; split <;> omega
          have fin : b_X12_key_82 (fun x1 x2 x3 σ => l_X12_key_20 Q k x1 x2 x3 σ) Q (kyI (ky γ.2.1 γ.2.2.1.1 m)) (kyM (ky γ.2.1 γ.2.2.1.1 m)) (nI m) (nI (kyv γ.2.1 γ.2.2.1.1 m)) τ := by
            unfold b_X12_key_82 b_X12_key_98
            simp only [b_X12_key_103, forall_eq]
            rw [nI_1]
            cases hc : ky γ.2.1 γ.2.2.1.1 m with
            | none =>
              rw [hc] at ih
              exact ⟨fun _ => ih, fun q => absurd rfl q⟩
            | some p =>
              rw [hc] at ih
              have hpb := ky_b hμ hk.1 m p hc
              have e2 : (kyM (some p) < nI (kyv γ.2.1 γ.2.2.1.1 m)) ↔ p.2 < kyv γ.2.1 γ.2.2.1.1 m := nI_ltI (by omega) (by omega)
              rw [e2]
              simp only at ih
              refine ⟨fun q => absurd q (oI64 (c := p.1) (by omega)), fun _ => ⟨fun q => ?_, fun q => ?_⟩⟩
              · rw [if_pos q] at ih; exact ih
              · rw [if_neg q] at ih; exact ih
          rw [att_em hμ hk.1]
          refine ⟨fun heq => ?_, fun hne => ?_⟩
          · have : kyv γ.2.1 γ.2.2.1.1 m = (att γ.2.1 γ.2.2.1.1 2 (m : Int) 0 0).2.2.length := by unfold kyv; rw [if_pos heq]
            rw [this] at fin
            rw [(A5 (Or.inl heq)).1]; exact fin
          · have : kyv γ.2.1 γ.2.2.1.1 m = 9 := by unfold kyv; rw [if_neg hne]
            rw [this] at fin; exact fin
    exact ⟨γ.2.1.1 + 1, key (γ.2.1.1 + 1) 0 s1 (by omega) (by omega) D1 F1⟩
