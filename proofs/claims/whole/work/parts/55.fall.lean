/-! fall -/
def fll (μ : MU) (a b c : Int) (w : Int32) : Nat → Nat → HS → Nat → Int32
  | 0, _, _, _ => -1000000
  | k + 1, n, h, l => if (att μ h 0 a b c).1 = -1 then (if l < (att μ h 0 a b c).2.2.length then (if w = 0 then nI ((att μ h 0 a b c).2.2.getD l 0) else nI n) else fll μ a b c w k (n + 1) (att μ h 0 a b c).2.1 (l - (att μ h 0 a b c).2.2.length)) else -1000000
def f_fall (x y z i w : Int32) (γ : GS) : Int32 × GS := (if gus γ.2.1.1 x y z ∧ 0 ≤ i.toInt ∧ (0 ≤ w.toInt ∧ w.toInt ≤ 1) then fll γ.2.1 x.toInt y.toInt z.toInt w 60 1 γ.2.2.1.1 i.toInt.toNat else -1000000, γ)
theorem o_fall {bd : Nat} {σ : wS} {x y z i w : Int32} (hI : In bd σ) : w_X11_fall x y z i w σ (fun r1 s => w_X12_fall x y z i w s (fun r' s' => r1 = r' ∧ In (bd + 40) s')) := by
  refine prI (f := f_fall x y z i w) (w1 := w_X11_fall x y z i w) (w2 := w_X12_fall x y z i w) (fun γ σ Q hC hg hq => ?_) (fun γ σ Q hD hg hq => ?_) (fun γ hg => hg.wk (by omega)) hI
  · unfold f_fall at hq
    unfold w_X11_fall
    rw [s_isGust hg hC]
    refine sw (fun hu => ?_) (fun hu => by rw [if_neg (fun q => hu q.1)] at hq; exact hq σ hC Fcm.rf)
    rw [xlt0]
    refine ⟨fun hi => by rw [if_neg (by omega)] at hq; exact hq σ hC Fcm.rf, fun hi => ?_⟩
    rw [w0_1]
    refine sw' (fun hw => ?_) (fun hw => by rw [if_neg (fun q => hw q.2.2)] at hq; exact hq σ hC Fcm.rf)
    rw [if_pos ⟨hu, by omega, hw⟩] at hq
    obtain ⟨hμ, hk⟩ := hg.hk hu.1
    obtain ⟨l, rfl, hl, hlt⟩ := nn (x := i) (by omega)
    rw [← hl, show ((l : Int)).toNat = l by omega] at hq
    refine s_begin0 hg hC (fun s1 F1 C1 H1 => ⟨61, ?_⟩)
    have key : ∀ (k n : Nat) (h : HS) (l : Nat) (ρ : wS), n + k = 61 → 1 ≤ n → l < 2 ^ 31 → hok γ.2.1 h → C γ ρ → HC γ.2.1 h 32 ρ → (∀ τ : wS, C γ τ → Fr cW ρ τ → Q (fll γ.2.1 x.toInt y.toInt z.toInt w k n h l) τ) → l_X11_fall_46 Q (k + 1) x y z w (nI l) (nI n) ρ := by
      intro k
      induction k with
      | zero =>
        intro n h l ρ hn _ hl hk hC hH hq
        have hn : n = 61 := by omega
        subst hn
        simp only [l_X11_fall_46]
        exact ⟨fun _ => hq ρ hC Fr.rf, fun q => absurd (by decide) q⟩
      | succ k ih =>
        intro n h l ρ hn hn1 hl hk hC hH hq
        obtain ⟨o1, o2, o3, o4⟩ := att_ok hμ hk 0 x.toInt y.toInt z.toInt
        rw [l_X11_fall_46]
        have e60 : ((60 : Int32) < nI n) ↔ 60 < n := nI_ltI (a := 60) (by decide) (by omega)
        rw [e60]
        refine ⟨fun q => by omega, fun _ => ?_⟩
        refine s_att (sort := 0) hg hu.1 hC hk hH (by decide) (fun τ C1 F1 hA => ?_)
        obtain ⟨A1, A2, A3, A4, A5, A6, A7⟩ := hA
        rw [att_em hμ hk, A5, nI_leI (by omega) hl]
        refine ⟨fun heq => ⟨fun hb y3 e3 y4 e4 => ?_, fun hb => ?_⟩, fun hne => ?_⟩
        · have er : fll γ.2.1 x.toInt y.toInt z.toInt w (k + 1) n h l = fll γ.2.1 x.toInt y.toInt z.toInt w k (n + 1) (att γ.2.1 h 0 x.toInt y.toInt z.toInt).2.1 (l - (att γ.2.1 h 0 x.toInt y.toInt z.toInt).2.2.length) := by rw [fll, if_pos heq, if_neg (by omega)]
          rw [er] at hq
          rw [pk_sub hb] at e3
          rw [e3, e4, nI_1]
          exact ih (n + 1) _ _ τ (by omega) (by omega) (by omega) (o4 heq).1 C1 (A7 heq).1 (fun ρ' C2 F2 => hq ρ' C2 (F1.tr F2))
        · have er : fll γ.2.1 x.toInt y.toInt z.toInt w (k + 1) n h l = if w = 0 then nI ((att γ.2.1 h 0 x.toInt y.toInt z.toInt).2.2.getD l 0) else nI n := by rw [fll, if_pos heq, if_pos (by omega)]
          rw [er] at hq
          have hq := hq τ C1 F1
          refine ⟨fun hw0 => by rw [if_neg hw0] at hq; exact hq, fun hw0 => ⟨vp_in_nI (by omega) (by decide), ?_⟩⟩
          rw [if_pos hw0] at hq
          rw [nI_clamp hl, A6 l (by omega)]; exact hq
        · have er : fll γ.2.1 x.toInt y.toInt z.toInt w (k + 1) n h l = -1000000 := by rw [fll, if_neg hne]
          rw [er] at hq
          exact hq τ C1 F1
    exact key 60 1 γ.2.2.1.1 l s1 (by decide) (by decide) hlt hk.1 C1 H1.1 (fun τ C2 F2 => hq τ C2 ((F1.tr F2).c (by decide)))
  · intro s1 e1
    have D1 : D γ s1 := by rw [e1]; exact hD.up (by decide)
    have F1 : Fdm σ s1 := by rw [e1]; exact Fdm.rf.up (by decide)
    unfold f_fall at hq
    rw [m_isWind hg D1]
    refine sw (fun hu => ?_) (fun hu => by rw [if_neg (fun q => hu q.1)] at hq; exact hq s1 D1 F1)
    rw [xlt0]
    refine ⟨fun hi => by rw [if_neg (by omega)] at hq; exact hq s1 D1 F1, fun hi => ?_⟩
    rw [i0_1]
    refine sw' (fun hw => ?_) (fun hw => by rw [if_neg (fun q => hw q.2.2)] at hq; exact hq s1 D1 F1)
    rw [if_pos ⟨hu, by omega, hw⟩] at hq
    obtain ⟨hμ, hk⟩ := hg.hk hu.1
    obtain ⟨l, rfl, hl, hlt⟩ := nn (x := i) (by omega)
    rw [← hl, show ((l : Int)).toNat = l by omega] at hq
    refine m_begin0 hμ.1 D1 (fun s2 D2 F2 R2 => ⟨61, ?_⟩)
    have key : ∀ (k n : Nat) (h : HS) (lg : List LE) (m : Nat) (ρ : wS), n + k = 61 → 1 ≤ n → m ≤ l → m + 8 ≤ 8 * n → hok γ.2.1 h → D γ ρ → RowM γ.2.1 h lg (ρ.1 189) → (∀ τ : wS, D γ τ → Fdm ρ τ → Q (fll γ.2.1 x.toInt y.toInt z.toInt w k n h (l - m)) τ) → l_X12_fall_53 Q (k + 1) x y z (nI l) w (nI m) (nI n) ρ := by
      intro k
      induction k with
      | zero =>
        intro n h lg m ρ hn _ hml hm8 hk hD hR hq
        have hn : n = 61 := by omega
        subst hn
        simp only [l_X12_fall_53]
        exact ⟨fun _ => hq ρ hD Fdm.rf, fun q => absurd (by decide) q⟩
      | succ k ih =>
        intro n h lg m ρ hn hn1 hml hm8 hk hD hR hq
        obtain ⟨o1, o2, o3, o4⟩ := att_ok hμ hk 0 x.toInt y.toInt z.toInt
        rw [l_X12_fall_53]
        have e60 : ((60 : Int32) < nI n) ↔ 60 < n := nI_ltI (a := 60) (by decide) (by omega)
        rw [e60]
        refine ⟨fun q => by omega, fun _ => ?_⟩
        refine m_att (sort := 0) hg hu.1 hD hk hR (by decide) (fun τ D3 F3 hA => ?_)
        obtain ⟨A1, A2, A3, A4, A5, A6⟩ := hA
        rw [att_em hμ hk]
        refine ⟨fun heq => ?_, fun hne => ?_⟩
        · obtain ⟨B1, B2⟩ := A5 (Or.inl heq)
          rw [B1, nI_add, nI_leI (by omega) hlt]
          refine ⟨fun hb y3 e3 y4 e4 => ?_, fun hb => ?_⟩
          · have er : fll γ.2.1 x.toInt y.toInt z.toInt w (k + 1) n h (l - m) = fll γ.2.1 x.toInt y.toInt z.toInt w k (n + 1) (att γ.2.1 h 0 x.toInt y.toInt z.toInt).2.1 (l - m - (att γ.2.1 h 0 x.toInt y.toInt z.toInt).2.2.length) := by rw [fll, if_pos heq, if_neg (by omega)]
            rw [er, Nat.sub_sub] at hq
            rw [e3, e4, nI_1]
            exact ih (n + 1) _ _ _ τ (by omega) (by omega) hb (by omega) (o4 heq).1 D3 (A6 heq) (fun ρ' D4 F4 => hq ρ' D4 (F3.tr F4))
          · have er : fll γ.2.1 x.toInt y.toInt z.toInt w (k + 1) n h (l - m) = if w = 0 then nI ((att γ.2.1 h 0 x.toInt y.toInt z.toInt).2.2.getD (l - m) 0) else nI n := by rw [fll, if_pos heq, if_pos (by omega)]
            rw [er] at hq
            have hq := hq τ D3 F3
            rw [pk_sub hml, nI_clamp (by omega)]
            refine ⟨fun hw0 => by rw [if_neg hw0] at hq; exact hq, fun hw0 => ⟨vp_in_nI (by omega) (by decide), ?_⟩⟩
            rw [if_pos hw0] at hq
            rw [B2 (l - m) (by omega)]; exact hq
        · have er : fll γ.2.1 x.toInt y.toInt z.toInt w (k + 1) n h (l - m) = -1000000 := by rw [fll, if_neg hne]
          rw [er] at hq
          exact hq τ D3 F3
    exact key 60 1 γ.2.2.1.1 _ 0 s2 (by decide) (by decide) (by omega) (by decide) hk.1 D2 R2 (fun τ D3 F3 => hq τ D3 ((F1.tr F2).tr F3))
/-! ease -/
def esr (μ : MU) (r : Nat) : Nat → Nat → HS → Int32
  | 0, n, h => if srt h.2.2.1.2.1 h.2.2.1.2.2 h.2.2.1.1 r = 1 then nI n else -1
  | k + 1, n, h => if srt h.2.2.1.2.1 h.2.2.1.2.2 h.2.2.1.1 r = 1 then nI n else if (att μ h 1 r (-1) 0).1 = -1 ∧ (att μ h 1 r (-1) 0).2.2 = [] then esr μ r k (n + 1) (att μ h 1 r (-1) 0).2.1 else -1
def f_ease (x : Int32) (γ : GS) : Int32 × GS := (if fas γ.2.1 γ.2.2.1.1 x then esr γ.2.1 x.toInt.toNat 60 0 γ.2.2.1.1 else -1, γ)
theorem srt_1 (bk cs set r : Nat) : nI (srt bk cs set r) = 1 ↔ srt bk cs set r = 1 := nI_eq (b := 1) (by have := srt_lt4 bk cs set r; omega) (by decide)
theorem o_ease {bd : Nat} {σ : wS} {x : Int32} (hI : In bd σ) : w_X11_ease x σ (fun r1 s => w_X12_ease x s (fun r' s' => r1 = r' ∧ In (bd + 40) s')) := by
  refine prI (f := f_ease x) (w1 := w_X11_ease x) (w2 := w_X12_ease x) (fun γ σ Q hC hg hq => ?_) (fun γ σ Q hD hg hq => ?_) (fun γ hg => hg.wk (by omega)) hI
  · unfold f_ease at hq
    unfold w_X11_ease
    rw [s_isFast hg hC]
    refine sw' (fun hf => ?_) (fun hf => by rw [if_neg hf] at hq; exact hq σ hC Fcm.rf)
    rw [if_pos hf] at hq
    have h0 : 0 < γ.2.1.1 := by have := hf.1.1; have := hf.1.2; omega
    obtain ⟨hμ, hk⟩ := hg.hk h0
    have h8 := hμ.1
    obtain ⟨j, rfl, hj, -⟩ := nn hf.1.1
    have hjn : j < γ.2.1.1 := by have := hf.1.2; omega
    rw [← hj, show ((j : Int)).toNat = j by omega] at hq
    refine s_begin0 hg hC (fun s1 F1 C1 H1 => ⟨62, ?_⟩)
    have ej : (nI j).toInt = (j : Int) := by omega
    have e1 : (-1 : Int32).toInt = -1 := by decide
    have e0 : (0 : Int32).toInt = 0 := by decide
    have key : ∀ (k n : Nat) (h : HS) (ρ : wS), n + k = 60 → hok γ.2.1 h → C γ ρ → HC γ.2.1 h 32 ρ → (∀ τ : wS, C γ τ → Fr cW ρ τ → Q (esr γ.2.1 j k n h) τ) → l_X11_ease_23 Q (k + 2) (nI j) (nI n) ρ := by
      intro k
      induction k with
      | zero =>
        intro n h ρ hn hk hC hH hq
        have hn : n = 60 := by omega
        subst hn
        obtain ⟨o1, o2, o3, o4⟩ := att_ok hμ hk 1 j (-1) 0
        rw [l_X11_ease_23]
        refine ⟨fun q => absurd q (by decide), fun _ => ?_⟩
        rw [s_stateOf hk hH (show j < 8 by omega), srt_1]
        rw [esr] at hq
        refine ⟨fun hs => ?_, fun hs => by rw [if_pos hs] at hq; exact hq ρ hC Fr.rf⟩
        rw [if_neg hs] at hq
        refine s_att (sort := 1) hg h0 hC hk hH (by decide) (fun τ C1 F1 hA => ?_)
        refine ⟨fun _ => hq τ C1 F1, fun _ => ⟨fun _ y5 e5 => ?_, fun _ => hq τ C1 F1⟩⟩
        rw [e5, nI_1]
        simp only [l_X11_ease_23]
        exact ⟨fun _ => hq τ C1 F1, fun q => absurd (by decide) q⟩
      | succ k ih =>
        intro n h ρ hn hk hC hH hq
        obtain ⟨o1, o2, o3, o4⟩ := att_ok hμ hk 1 j (-1) 0
        rw [l_X11_ease_23]
        have e60 : ((60 : Int32) < nI n) ↔ 60 < n := nI_ltI (a := 60) (by decide) (by omega)
        rw [e60]
        refine ⟨fun q => by omega, fun _ => ?_⟩
        rw [s_stateOf hk hH (show j < 8 by omega), srt_1]
        refine ⟨fun hs => ?_, fun hs => by rw [esr, if_pos hs] at hq; exact hq ρ hC Fr.rf⟩
        refine s_att (sort := 1) hg h0 hC hk hH (by decide) (fun τ C1 F1 hA => ?_)
        rw [ej, e1, e0] at hA ⊢
        obtain ⟨A1, A2, A3, A4, A5, A6, A7⟩ := hA
        rw [att_em hμ hk, A4, msk_0 o2]
        rw [esr, if_neg hs] at hq
        refine ⟨fun hne => by rw [if_neg (fun q => hne q.1)] at hq; exact hq τ C1 F1, fun heq => ⟨fun hb y5 e5 => ?_, fun hb => by rw [if_neg (fun q => hb q.2)] at hq; exact hq τ C1 F1⟩⟩
        rw [if_pos ⟨heq, hb⟩] at hq
        rw [e5, nI_1]
        exact ih (n + 1) _ τ (by omega) (o4 heq).1 C1 (A7 heq).1 (fun ρ' C2 F2 => hq ρ' C2 (F1.tr F2))
    exact key 60 0 γ.2.2.1.1 s1 (by decide) hk.1 C1 H1.1 (fun τ C2 F2 => hq τ C2 ((F1.tr F2).c (by decide)))
  · intro s1 e1
    have D1 : D γ s1 := by rw [e1]; exact hD.up (by decide)
    have F1 : Fdm σ s1 := by rw [e1]; exact Fdm.rf.up (by decide)
    unfold f_ease at hq
    have h8 := hg.n8
    rw [isRM h8 D1.2.1.1]
    refine sw (fun hr => ?_) (fun hr => by rw [if_neg (fun q => hr q.1)] at hq; exact hq s1 D1 F1)
    have h0 : 0 < γ.2.1.1 := by have := hr.1; have := hr.2; omega
    obtain ⟨hμ, hk⟩ := hg.hk h0
    obtain ⟨j, rfl, hj, -⟩ := nn hr.1
    have hjn : j < γ.2.1.1 := by have := hr.2; omega
    have hjt : (nI j).toInt.toNat = j := by omega
    have v8 := v8p (show j < 8 by omega)
    rw [v8.2, D1.row.2.2.1 j hjn, srt_lt2]
    refine ⟨v8.1, fun hf => ?_, fun hf => ?_⟩
    rotate_left
    · rw [if_neg (fun q => hf (by have := q.2; rw [hjt] at this; exact this))] at hq
      exact hq s1 D1 F1
    rw [if_pos ⟨hr, by rw [hjt]; exact hf⟩, hjt] at hq
    refine m_begin0 hμ.1 D1 (fun s2 D2 F2 R2 => ⟨61, ?_⟩)
    have ej : (nI j).toInt = (j : Int) := by omega
    have e1 : (-1 : Int32).toInt = -1 := by decide
    have e0 : (0 : Int32).toInt = 0 := by decide
    have key : ∀ (k n : Nat) (h : HS) (lg : List LE) (ρ : wS), n + k = 60 → hok γ.2.1 h → D γ ρ → RowM γ.2.1 h lg (ρ.1 189) → (∀ τ : wS, D γ τ → Fdm ρ τ → Q (esr γ.2.1 j k n h) τ) → l_X12_ease_43 Q (k + 1) (nI j) (nI n) ρ := by
      intro k
      induction k with
      | zero =>
        intro n h lg ρ hn hk hD hR hq
        have hn : n = 60 := by omega
        subst hn
        rw [l_X12_ease_43, v8.2, hR.2.2.1 j hjn, srt_1]
        rw [esr] at hq
        refine ⟨fun q => absurd q (by decide), fun _ => ⟨v8.1, fun hs => ?_, fun hs => by rw [if_pos hs] at hq; exact hq ρ hD Fdm.rf⟩⟩
        rw [if_neg hs] at hq
        exact ⟨fun _ => hq ρ hD Fdm.rf, fun q => absurd rfl q⟩
      | succ k ih =>
        intro n h lg ρ hn hk hD hR hq
        obtain ⟨o1, o2, o3, o4⟩ := att_ok hμ hk 1 j (-1) 0
        have e60 : ((60 : Int32) < nI n) ↔ 60 < n := nI_ltI (a := 60) (by decide) (by omega)
        have e60' : (nI n = (60 : Int32)) ↔ n = 60 := nI_eq (b := 60) (by omega) (by decide)
        rw [l_X12_ease_43, v8.2, hR.2.2.1 j hjn, srt_1, e60, e60']
        refine ⟨fun q => by omega, fun _ => ⟨v8.1, fun hs => ?_, fun hs => by rw [esr, if_pos hs] at hq; exact hq ρ hD Fdm.rf⟩⟩
        rw [esr, if_neg hs] at hq
        refine ⟨fun q => by omega, fun _ => ?_⟩
        refine m_att (sort := 1) hg h0 hD hk hR (by decide) (fun τ D3 F3 hA => ?_)
        rw [ej, e1, e0] at hA ⊢
        obtain ⟨A1, A2, A3, A4, A5, A6⟩ := hA
        rw [att_em hμ hk]
        refine ⟨fun hne => by rw [if_neg (fun q => hne q.1)] at hq; exact hq τ D3 F3, fun heq => ?_⟩
        obtain ⟨B1, B2⟩ := A5 (Or.inl heq)
        have el : (nI (att γ.2.1 h 1 j (-1) 0).2.2.length ≤ 0) ↔ (att γ.2.1 h 1 j (-1) 0).2.2 = [] := by
          rw [show (0 : Int32) = nI 0 from rfl, nI_leI (by omega) (by decide), Nat.le_zero, List.length_eq_zero_iff]
        rw [B1, el]
        refine ⟨fun hb y3 e3 => ?_, fun hb => by rw [if_neg (fun q => hb q.2)] at hq; exact hq τ D3 F3⟩
        rw [if_pos ⟨heq, hb⟩] at hq
        rw [e3, nI_1]
        exact ih (n + 1) _ _ τ (by omega) (o4 heq).1 D3 (A6 heq) (fun ρ' D4 F4 => hq ρ' D4 (F3.tr F4))
    exact key 60 0 γ.2.2.1.1 _ s2 (by decide) hk.1 D2 R2 (fun τ D3 F3 => hq τ D3 ((F1.tr F2).tr F3))
/-! range -/
def rgn (μ : MU) (t : Nat) (a b c : Int) : Nat → HS → Nat
  | 0, _ => 0
  | k + 1, h => if ((att μ h 0 a b c).1 = -1 ∧ (att μ h 0 a b c).2.2 = []) ∧ (att μ h 0 a b c).2.1.2.2.1.1 = t then rgn μ t a b c k (att μ h 0 a b c).2.1 + 1 else 0
def f_range (x p : Int32) (γ : GS) : Int32 × GS := (if 0 < γ.2.1.1 ∧ (0 ≤ x.toInt ∧ x.toInt ≤ 2) then nI (rgn γ.2.1 γ.2.2.1.1.2.2.1.1 (if x = 0 then (if p = 0 then -1 else 1) else 0) (if x = 1 then (if p = 0 then -1 else 1) else 0) (if x = 2 then (if p = 0 then -1 else 1) else 0) 60 γ.2.2.1.1) else -1, γ)
theorem rgn_le (μ : MU) (t : Nat) (a b c : Int) : ∀ (k : Nat) (h : HS), rgn μ t a b c k h ≤ k := by
  intro k
  induction k with
  | zero => intro h; exact Nat.le_refl _
  | succ k ih =>
    intro h
    rw [rgn]
    split
    · have := ih (att μ h 0 a b c).2.1; omega
    · omega
theorem o_range {bd : Nat} {σ : wS} {x p : Int32} (hI : In bd σ) : w_X11_range x p σ (fun r1 s => w_X12_range x p s (fun r' s' => r1 = r' ∧ In (bd + 40) s')) := by
  have i1 : ∀ c : Prop, [Decidable c] → (if c then (if p = 0 then (-1 : Int32) else 1) else 0).toInt = if c then (if p = 0 then -1 else 1) else 0 := by
    intro c _
    split
    · split <;> decide
    · decide
  refine prI (f := f_range x p) (w1 := w_X11_range x p) (w2 := w_X12_range x p) (fun γ σ Q hC hg hq => ?_) (fun γ σ Q hD hg hq => ?_) (fun γ hg => hg.wk (by omega)) hI
  · unfold f_range at hq
    unfold w_X11_range
    rw [s_hasM hg hC]
    refine sw (fun h0 => ?_) (fun hf => by rw [if_neg (fun q => hf q.1)] at hq; exact hq σ hC Fcm.rf)
    rw [s_isAxis]
    refine sw' (fun ha => ?_) (fun hf => by rw [if_neg (fun q => hf q.2)] at hq; exact hq σ hC Fcm.rf)
    rw [if_pos ⟨h0, ha⟩, ← i1, ← i1, ← i1] at hq
    obtain ⟨hμ, hk⟩ := hg.hk h0
    have main : ∀ one : Int32, one = (if p = 0 then (-1 : Int32) else 1) → b_X11_range_25 Q x one σ := by
      intro one hone
      rw [← hone] at hq
      refine s_begin0 hg hC (fun s1 F1 C1 H1 => ⟨61, ?_⟩)
      generalize hA0 : (if x = 0 then one else 0) = a at hq
      generalize hA1 : (if x = 1 then one else 0) = b at hq
      generalize hA2 : (if x = 2 then one else 0) = c at hq
      have key : ∀ (k n : Nat) (h : HS) (ρ : wS), n + k = 60 → hok γ.2.1 h → C γ ρ → HC γ.2.1 h 32 ρ → (∀ τ : wS, C γ τ → Fr cW ρ τ → Q (nI (n + rgn γ.2.1 γ.2.2.1.1.2.2.1.1 a.toInt b.toInt c.toInt k h)) τ) → l_X11_range_40 Q (k + 1) x one (nI n) ρ := by
        intro k
        induction k with
        | zero =>
          intro n h ρ hn hk hC hH hq
          have hn : n = 60 := by omega
          subst hn
          simp only [l_X11_range_40]
          exact ⟨fun _ => hq ρ hC Fr.rf, fun q => absurd (by decide) q⟩
        | succ k ih =>
          intro n h ρ hn hk hC hH hq
          obtain ⟨o1, o2, o3, o4⟩ := att_ok hμ hk 0 a.toInt b.toInt c.toInt
          rw [l_X11_range_40]
          have e60 : ((60 : Int32) ≤ nI n) ↔ 60 ≤ n := nI_leI (a := 60) (by decide) (by omega)
          rw [e60]
          refine ⟨fun q => by omega, fun _ => ?_⟩
          have fin : b_X11_range_89 (fun x1 x3 x4 σ => l_X11_range_40 Q (k + 1) x1 x3 x4 σ) Q x one (nI n) c b a 0 (mo (ρ.1 0 2)) ρ := by
            refine s_att (sort := 0) hg h0 hC hk hH (by decide) (fun τ C2 F2 hA => ?_)
            obtain ⟨A1, A2, A3, A4, A5, A6, A7⟩ := hA
            rw [att_em hμ hk, A4, msk_0 o2]
            rw [rgn] at hq
            refine ⟨fun hne => ?_, fun heq => ⟨fun hb => ?_, fun hb => ?_⟩⟩
            · rw [if_neg (fun q => hne q.1.1)] at hq; exact hq τ C2 F2
            · rw [if_neg (fun q => hb q.1.2)] at hq; exact hq τ C2 F2
            · have A8 := (A7 heq).1
              have hk' := (o4 heq).1
              rw [A8.2.1, C2.2.2.1.1.2.1, nI_eq (by have := hk'.2.1; omega) (by have := (hg.hk h0).2.1.2.1; omega)]
              refine ⟨fun ht y3 e3 => ?_, fun ht => by rw [if_neg (fun q => ht q.2)] at hq; exact hq τ C2 F2⟩
              rw [if_pos ⟨⟨heq, hb⟩, ht⟩] at hq
              rw [e3, nI_1]
              refine ih (n + 1) _ τ (by omega) hk' C2 A8 (fun ρ' C3 F3 => ?_)
              have := hq ρ' C3 (F2.tr F3)
              rw [show n + (rgn γ.2.1 γ.2.2.1.1.2.2.1.1 a.toInt b.toInt c.toInt k (att γ.2.1 h 0 a.toInt b.toInt c.toInt).2.1 + 1) = n + 1 + rgn γ.2.1 γ.2.2.1.1.2.2.1.1 a.toInt b.toInt c.toInt k (att γ.2.1 h 0 a.toInt b.toInt c.toInt).2.1 by omega] at this
              exact this
          have d2 : ∀ (a' b' : Int32), a' = a → b' = b → b_X11_range_79 (fun x1 x3 x4 σ => l_X11_range_40 Q (k + 1) x1 x3 x4 σ) Q x one (nI n) b' a' 0 (mo (ρ.1 0 2)) ρ := by
            intro a' b' ha hb
            rw [ha, hb]
            refine ⟨fun q => ?_, fun q => ?_⟩
            · rw [if_neg q] at hA2; rw [← hA2] at fin; exact fin
            · rw [if_pos q] at hA2; rw [← hA2] at fin; exact fin
          have d1 : ∀ a' : Int32, a' = a → b_X11_range_69 (fun x1 x3 x4 σ => l_X11_range_40 Q (k + 1) x1 x3 x4 σ) Q x one (nI n) a' 0 (mo (ρ.1 0 2)) ρ := by
            intro a' ha
            refine ⟨fun q => d2 _ _ ha ?_, fun q => d2 _ _ ha ?_⟩
            · rw [if_neg q] at hA1; exact hA1
            · rw [if_pos q] at hA1; exact hA1
          refine ⟨fun q => d1 _ ?_, fun q => d1 _ ?_⟩
          · rw [if_neg q] at hA0; exact hA0
          · rw [if_pos q] at hA0; exact hA0
      refine key 60 0 γ.2.2.1.1 s1 (by decide) hk.1 C1 H1.1 (fun τ C2 F2 => ?_)
      rw [Nat.zero_add]
      exact hq τ C2 ((F1.tr F2).c (by decide))
    exact ⟨fun hp => main _ (by rw [if_pos hp]), fun hp => main _ (by rw [if_neg hp])⟩
  · intro s1 e1
    have D1 : D γ s1 := by rw [e1]; exact hD.up (by decide)
    have F1 : Fdm σ s1 := by rw [e1]; exact Fdm.rf.up (by decide)
    unfold f_range at hq
    have h8 := hg.n8
    rw [D1.2.1.1, n0_iff h8]
    refine ⟨fun h0 => by rw [if_neg (fun q => h0 q.1)] at hq; exact hq s1 D1 F1, fun h0 => ?_⟩
    have h0 : 0 < γ.2.1.1 := by omega
    rw [i0_2]
    refine sw' (fun ha => ?_) (fun hf => by rw [if_neg (fun q => hf q.2)] at hq; exact hq s1 D1 F1)
    rw [if_pos ⟨h0, ha⟩, ← i1, ← i1, ← i1] at hq
    obtain ⟨hμ, hk⟩ := hg.hk h0
    refine m_begin0 hμ.1 D1 (fun s2 D2 F2 R2 => ?_)
    refine m_taut hμ rfl hk.1 D2.2.1 D2.row ?_
    have main : ∀ one : Int32, one = (if p = 0 then (-1 : Int32) else 1) → b_X12_range_61 Q x (nI γ.2.2.1.1.2.2.1.1) one s2 := by
      intro one hone
      rw [← hone] at hq
      refine ⟨61, ?_⟩
      generalize hA0 : (if x = 0 then one else 0) = a at hq
      generalize hA1 : (if x = 1 then one else 0) = b at hq
      generalize hA2 : (if x = 2 then one else 0) = c at hq
      have key : ∀ (k n : Nat) (h : HS) (lg : List LE) (ρ : wS), n + k = 60 → hok γ.2.1 h → D γ ρ → RowM γ.2.1 h lg (ρ.1 189) → (∀ τ : wS, D γ τ → Fdm ρ τ → Q (nI (n + rgn γ.2.1 γ.2.2.1.1.2.2.1.1 a.toInt b.toInt c.toInt k h)) τ) → l_X12_range_66 Q (k + 1) x (nI γ.2.2.1.1.2.2.1.1) one (nI n) ρ := by
        intro k
        induction k with
        | zero =>
          intro n h lg ρ hn hk hD hR hq
          have hn : n = 60 := by omega
          subst hn
          simp only [l_X12_range_66]
          exact ⟨fun _ => hq ρ hD Fdm.rf, fun q => absurd (by decide) q⟩
        | succ k ih =>
          intro n h lg ρ hn hk hD hR hq
          obtain ⟨o1, o2, o3, o4⟩ := att_ok hμ hk 0 a.toInt b.toInt c.toInt
          rw [l_X12_range_66]
          have e60 : ((60 : Int32) ≤ nI n) ↔ 60 ≤ n := nI_leI (a := 60) (by decide) (by omega)
          rw [e60]
          refine ⟨fun q => by omega, fun _ => ?_⟩
          have fin : b_X12_range_111 (fun x1 x3 x4 x5 σ => l_X12_range_66 Q (k + 1) x1 x3 x4 x5 σ) Q x (nI γ.2.2.1.1.2.2.1.1) one (nI n) c b a 0 ρ := by
            refine m_att (sort := 0) hg h0 hD hk hR (by decide) (fun τ D3 F3 hA => ?_)
            obtain ⟨A1, A2, A3, A4, A5, A6⟩ := hA
            rw [att_em hμ hk]
            rw [rgn] at hq
            refine ⟨fun hne => by rw [if_neg (fun q => hne q.1.1)] at hq; exact hq τ D3 F3, fun heq => ?_⟩
            obtain ⟨B1, B2⟩ := A5 (Or.inl heq)
            have el : (0 < nI (att γ.2.1 h 0 a.toInt b.toInt c.toInt).2.2.length) ↔ ¬ (att γ.2.1 h 0 a.toInt b.toInt c.toInt).2.2 = [] := by
              rw [show (0 : Int32) = nI 0 from rfl, nI_ltI (by decide) (by omega), ← List.length_eq_zero_iff]; omega
            rw [B1, el]
            refine ⟨fun hb => by rw [if_neg (fun q => hb q.1.2)] at hq; exact hq τ D3 F3, fun hb => ?_⟩
            have hb : (att γ.2.1 h 0 a.toInt b.toInt c.toInt).2.2 = [] := Classical.not_not.mp hb
            have hk' := (o4 heq).1
            refine m_taut hμ rfl hk' D3.2.1 (A6 heq) ?_
            rw [nI_eq (by have := hk'.2.1; omega) (by have := (hg.hk h0).2.1.2.1; omega)]
            refine ⟨fun ht y5 e5 => ?_, fun ht => by rw [if_neg (fun q => ht q.2)] at hq; exact hq τ D3 F3⟩
            rw [if_pos ⟨⟨heq, hb⟩, ht⟩] at hq
            rw [e5, nI_1]
            refine ih (n + 1) _ _ τ (by omega) hk' D3 (A6 heq) (fun ρ' D4 F4 => ?_)
            have := hq ρ' D4 (F3.tr F4)
            rw [show n + (rgn γ.2.1 γ.2.2.1.1.2.2.1.1 a.toInt b.toInt c.toInt k (att γ.2.1 h 0 a.toInt b.toInt c.toInt).2.1 + 1) = n + 1 + rgn γ.2.1 γ.2.2.1.1.2.2.1.1 a.toInt b.toInt c.toInt k (att γ.2.1 h 0 a.toInt b.toInt c.toInt).2.1 by omega] at this
            exact this
          have d2 : ∀ (a' b' : Int32), a' = a → b' = b → b_X12_range_100 (fun x1 x3 x4 x5 σ => l_X12_range_66 Q (k + 1) x1 x3 x4 x5 σ) Q x (nI γ.2.2.1.1.2.2.1.1) one (nI n) b' a' 0 ρ := by
            intro a' b' ha hb
            rw [ha, hb]
            refine ⟨fun q => ?_, fun q => ?_⟩
            · rw [if_neg q] at hA2; rw [← hA2] at fin; exact fin
            · rw [if_pos q] at hA2; rw [← hA2] at fin; exact fin
          have d1 : ∀ a' : Int32, a' = a → b_X12_range_89 (fun x1 x3 x4 x5 σ => l_X12_range_66 Q (k + 1) x1 x3 x4 x5 σ) Q x (nI γ.2.2.1.1.2.2.1.1) one (nI n) a' 0 ρ := by
            intro a' ha
            refine ⟨fun q => d2 _ _ ha ?_, fun q => d2 _ _ ha ?_⟩
            · rw [if_neg q] at hA1; exact hA1
            · rw [if_pos q] at hA1; exact hA1
          refine ⟨fun q => d1 _ ?_, fun q => d1 _ ?_⟩
          · rw [if_neg q] at hA0; exact hA0
          · rw [if_pos q] at hA0; exact hA0
      refine key 60 0 γ.2.2.1.1 _ s2 (by decide) hk.1 D2 R2 (fun τ D3 F3 => ?_)
      rw [Nat.zero_add]
      exact hq τ D3 ((F1.tr F2).tr F3)
    exact ⟨fun hp => main _ (by rw [if_pos hp]), fun hp => main _ (by rw [if_neg hp])⟩
