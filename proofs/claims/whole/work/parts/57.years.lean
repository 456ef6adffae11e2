/-! years -/
def nxt (x : Int64) : Int64 := x * 6364136223846793005 + 1442695040888963407
def dN (x : Int64) (b : Nat) : Nat := x.toUInt64.toNat / 2 ^ 33 % b
theorem dv_ok (x : Int64) {b : Nat} (h0 : 0 < b) (hb : b < 2 ^ 31) : ((x.toUInt64 >>> (((33 : Int32)).toInt64.toUInt64 &&& Int64.toUInt64 63)).toInt64 - (x.toUInt64 >>> (((33 : Int32)).toInt64.toUInt64 &&& Int64.toUInt64 63)).toInt64 / (nI b).toInt64 * (nI b).toInt64).toInt32 = nI (dN x b) := by
  have hs : (((33 : Int32)).toInt64.toUInt64 &&& Int64.toUInt64 63) = 33 := by decide
  have hu := x.toUInt64.toNat_lt
  have e1 : (x.toUInt64 >>> (33 : UInt64)).toNat = x.toUInt64.toNat / 2 ^ 33 := by
    rw [UInt64.toNat_shiftRight, Nat.shiftRight_eq_div_pow]; rfl
  have e2 : (x.toUInt64 >>> (33 : UInt64)).toInt64 = iJ ((x.toUInt64.toNat / 2 ^ 33 : Nat) : Int) := by
    rw [← e1]
    generalize x.toUInt64 >>> (33 : UInt64) = u
    unfold iJ
    apply Int64.toBitVec_inj.mp
    show u.toBitVec = BitVec.ofInt 64 (u.toNat : Int)
    rw [BitVec.ofInt_natCast]
    exact (BitVec.ofNat_toNat 64 u.toBitVec).symm ▸ by simp
  have e3 : (nI b).toInt64 = iJ (b : Int) := by rw [iI_n, iI_J (by omega)]
  rw [hs, e2, e3, iJ_rem (by omega) (by omega)]
  show (iJ ((dN x b : Nat) : Int)).toInt32 = nI (dN x b)
  rw [iI_n]
  have hlt : dN x b < b := Nat.mod_lt _ h0
  apply Int32.toInt_inj.mp
  rw [Int64.toInt_toInt32, iJ_T (by omega), iI_T (by omega), Int.bmod_eq_of_le (by omega) (by omega)]
theorem dN_lt (x : Int64) {b : Nat} (h0 : 0 < b) : dN x b < b := Nat.mod_lt _ h0
theorem s_draw {b : Nat} {σ : wS} {Q : Int32 → wS → Prop} (h0 : 0 < b) (hb : b < 2 ^ 31) (hq : Q (nI (dN (nxt (σ.2 0 17)) b)) (upJ σ 0 17 (nxt (σ.2 0 17)))) : w_X11_draw (nI b) σ Q := by
  intro s1 e1
  have x1 : s1.2 0 17 = nxt (σ.2 0 17) := by rw [e1, upJ_2]; simp; rfl
  have e3 : ¬ (nI b).toInt64 = 0 := by rw [iI_n, iI_J (by omega), show (0 : Int64) = iJ 0 by decide, iJ_eq (by omega) (by decide)]; omega
  rw [x1, dv_ok _ h0 hb]
  refine ⟨fun q => absurd q (nI_nle h0 hb), fun _ => ⟨e3, ?_⟩⟩
  rw [e1]
  exact hq
theorem m_draw {b : Nat} {σ : wS} {Q : Int32 → wS → Prop} (h0 : 0 < b) (hb : b < 2 ^ 31) (hq : Q (nI (dN (nxt (σ.2 176 36)) b)) (upJ σ 176 36 (nxt (σ.2 176 36)))) : w_X12_draw (nI b) σ Q := by
  intro s1 e1
  have x1 : s1.2 176 36 = nxt (σ.2 176 36) := by rw [e1, upJ_2]; simp; rfl
  have e3 : ¬ (nI b).toInt64 = 0 := by rw [iI_n, iI_J (by omega), show (0 : Int64) = iJ 0 by decide, iJ_eq (by omega) (by decide)]; omega
  rw [x1, dv_ok _ h0 hb]
  refine ⟨e3, ?_⟩
  rw [e1]
  exact hq
def trg (γ : GS) (s : Nat) (x y z : Int32) : GS := if (att γ.2.1 γ.2.2.1.1 s x.toInt y.toInt z.toInt).1 = -1 then cmt γ (wdn γ.2.1 γ.2.2.1 s x y z) else γ
def yst (γ : GS) (x : Int64) : GS × Int64 :=
  if 4 < dN (nxt x) 8 then
    if 6 < dN (nxt x) 8 then (trg γ (if (γ.2.2.1.1.2.2.1.2.1.testBit (dN (nxt (nxt x)) γ.2.1.1) || γ.2.2.1.1.2.2.1.2.2.testBit (dN (nxt (nxt x)) γ.2.1.1)) = true then 3 else 2) (nI (dN (nxt (nxt x)) γ.2.1.1)) 0 0, nxt (nxt x))
    else (trg γ 1 (nI (dN (nxt (nxt x)) γ.2.1.1)) (nI (dN (nxt (nxt (nxt x))) 7) - 3) 0, nxt (nxt (nxt x)))
  else (trg γ 0 (nI (dN (nxt (nxt x)) 21) - 10) (nI (dN (nxt (nxt (nxt x))) 21) - 10) (nI (dN (nxt (nxt (nxt (nxt x)))) 61) - 30), nxt (nxt (nxt (nxt x))))
def ite2 (f : GS → Int64 → GS × Int64) : Nat → GS × Int64 → GS × Int64
  | 0, p => p
  | k + 1, p => ite2 f k (f p.1 p.2)
theorem ite2_0 (f : GS → Int64 → GS × Int64) (p : GS × Int64) : ite2 f 0 p = p := rfl
theorem ite2_s (f : GS → Int64 → GS × Int64) (k : Nat) (p : GS × Int64) : ite2 f (k + 1) p = ite2 f k (f p.1 p.2) := rfl
theorem gok.re {γ : GS} {a b : Nat} (h : gok γ a) (hb : γ.2.2.1.2.2 ≤ b) : gok γ b := by
  obtain ⟨h1, h2, h3, h4, h5, h6, h7⟩ := h
  exact ⟨h1, h2, h3, h4, h5, hb, h7⟩
theorem trg_mu (γ : GS) (s : Nat) (x y z : Int32) : (trg γ s x y z).2.1 = γ.2.1 := by unfold trg; split <;> rfl
theorem gok_trg {γ : GS} {bd s : Nat} {x y z : Int32} (hg : gok γ bd) (h0 : 0 < γ.2.1.1) (hs : s < 4) : gok (trg γ s x y z) (bd + 1) := by
  obtain ⟨hμ, hw⟩ := hg.hk h0
  unfold trg
  split
  · rename_i h1
    refine (gok_cmt hg h0 (wdn_ok hμ hw hs h1) (by show _ ≤ γ.2.2.1.2.2 + 1; omega) (by show γ.2.2.1.2.2 + 1 ≤ _; omega)).re ?_
    show γ.2.2.1.2.2 + 1 ≤ bd + 1
    have := hg.2.2.2.2.2.1
    omega
  · exact hg.wk (by omega)
theorem yst_ok {γ : GS} {bd : Nat} {x : Int64} (hg : gok γ bd) (h0 : 0 < γ.2.1.1) : gok (yst γ x).1 (bd + 1) ∧ (yst γ x).1.2.1 = γ.2.1 := by
  unfold yst
  split
  · split
    · refine ⟨gok_trg hg h0 ?_, trg_mu _ _ _ _ _⟩
      split <;> decide
    · exact ⟨gok_trg hg h0 (by decide), trg_mu _ _ _ _ _⟩
  · exact ⟨gok_trg hg h0 (by decide), trg_mu _ _ _ _ _⟩
theorem ysN_ok : ∀ (k bd : Nat) (p : GS × Int64), gok p.1 bd → 0 < p.1.2.1.1 → gok (ite2 yst k p).1 (bd + k) ∧ (ite2 yst k p).1.2.1 = p.1.2.1 := by
  generalize hf : yst = f
  have st : ∀ {γ : GS} {bd : Nat} {x : Int64}, gok γ bd → 0 < γ.2.1.1 → gok (f γ x).1 (bd + 1) ∧ (f γ x).1.2.1 = γ.2.1 := by rw [← hf]; exact yst_ok
  intro k
  induction k with
  | zero => intro bd p hg _; exact ⟨hg, rfl⟩
  | succ k ih =>
    intro bd p hg h0
    obtain ⟨y1, y2⟩ := st (x := p.2) hg h0
    obtain ⟨i1, i2⟩ := ih (bd + 1) (f p.1 p.2) y1 (by rw [y2]; exact h0)
    rw [ite2_s]
    exact ⟨i1.wk (by omega), i2.trans y2⟩
theorem C.j {γ : GS} {bd : Nat} {σ : wS} {i k : Nat} {x : Int64} (hg : gok γ bd) (h : C γ σ) : C γ (upJ σ i k x) := h.mv hg (fun _ _ _ => rfl)
theorem D.j {γ : GS} {σ : wS} {i k : Nat} {x : Int64} (h : D γ σ) : D γ (upJ σ i k x) := h.eq rfl
theorem s_trg {γ : GS} {bd : Nat} {σ : wS} {s : Nat} {x y z : Int32} {Q : Int32 → wS → Prop} (hb : bd < 2 ^ 30) (hg : gok γ bd) (h0 : 0 < γ.2.1.1) (hC : C γ σ) (hs : s < 4) (hq : ∀ (r : Int32) (τ : wS), C (trg γ s x y z) τ → Fcm σ τ → τ.2 0 17 = σ.2 0 17 → Q r τ) : w_X11_tryAct (nI s) x y z σ Q := by
  unfold trg at hq
  refine s_tryAct hb hg h0 hC hs (fun hne τ C1 F1 _ t2 => ?_) (fun heq τ C1 F1 _ t2 => ?_)
  · rw [if_neg hne] at hq; exact hq _ τ C1 F1 (by rw [t2])
  · rw [if_pos heq] at hq; exact hq _ τ C1 F1 (by rw [t2])
theorem m_trg {γ : GS} {bd : Nat} {σ : wS} {s : Nat} {x y z : Int32} {Q : wS → Prop} (hg : gok γ bd) (h0 : 0 < γ.2.1.1) (hD : D γ σ) (hs : s < 4) (hq : ∀ τ : wS, D (trg γ s x y z) τ → Fdm σ τ → τ.2 176 36 = σ.2 176 36 → Q τ) : w_X12_tries (nI s) x y z σ Q := by
  obtain ⟨hμ, hw⟩ := hg.hk h0
  unfold trg at hq
  refine m_try hg h0 hD hs (fun τ D1 F1 _ _ hR t2 => ?_)
  rw [att_em hμ hw.1]
  refine ⟨fun heq => ?_, fun hne => ?_⟩
  · rw [if_pos heq] at hq
    exact m_commit (w := wdn γ.2.1 γ.2.2.1 s x y z) hg D1 (hR heq) (fun ρ D3 F3 k3 r3 g3 => hq ρ D3 (F1.tr F3) (by rw [g3, t2]))
  · rw [if_neg hne] at hq
    exact hq τ D1 F1 t2
theorem s_yst {γ : GS} {bd : Nat} {σ : wS} {x : Int64} {Q : wS → Prop} (hb : bd < 2 ^ 30) (hg : gok γ bd) (h0 : 0 < γ.2.1.1) (hC : C γ σ) (hx : σ.2 0 17 = x) (hq : ∀ τ : wS, C (yst γ x).1 τ → Fcm σ τ → τ.2 0 17 = (yst γ x).2 → Q τ) : w_X11_drawAct σ Q := by
  obtain ⟨hμ, hw⟩ := hg.hk h0
  have h8 := hμ.1
  have uj : ∀ (ρ : wS) (v : Int64), (upJ ρ 0 17 v).2 0 17 = v := fun ρ v => by rw [upJ_2]; simp
  have fr : ∀ (ρ : wS) (v : Int64), Fcm ρ (upJ ρ 0 17 v) := fun ρ v => Fcm.eq rfl
  unfold yst at hq
  refine s_draw (b := 8) (by decide) (by decide) ?_
  rw [hx]
  have k8 := dN_lt (nxt x) (show 0 < 8 by decide)
  have e4 : ((4 : Int32) < nI (dN (nxt x) 8)) ↔ 4 < dN (nxt x) 8 := nI_ltI (a := 4) (by decide) (by omega)
  have e6 : ((6 : Int32) < nI (dN (nxt x) 8)) ↔ 6 < dN (nxt x) 8 := nI_ltI (a := 6) (by decide) (by omega)
  have C1 : C γ (upJ σ 0 17 (nxt x)) := hC.j hg
  rw [e4, e6]
  refine ⟨fun hs => ?_, fun hs => ?_⟩
  · rw [if_pos hs] at hq
    rw [C1.2.1.2.1]
    refine s_draw h0 (by omega) ?_
    rw [uj]
    have C2 : C γ (upJ (upJ σ 0 17 (nxt x)) 0 17 (nxt (nxt x))) := C1.j hg
    have hr := dN_lt (nxt (nxt x)) h0
    refine ⟨fun hs6 => ?_, fun hs6 => ?_⟩
    · rw [if_pos hs6] at hq
      rw [s_isFast hg C2]
      have em : (nI (dN (nxt (nxt x)) γ.2.1.1)).toInt = (dN (nxt (nxt x)) γ.2.1.1 : Int) := nI_toInt (by omega)
      have emt : (nI (dN (nxt (nxt x)) γ.2.1.1)).toInt.toNat = dN (nxt (nxt x)) γ.2.1.1 := by omega
      refine sw (fun hf => ?_) (fun hf => ?_)
      · have hf := hf.2
        rw [emt] at hf
        rw [if_neg (by rw [hf]; decide)] at hq
        refine s_trg (s := 2) hb hg h0 C2 (by decide) (fun r τ C3 F3 t => hq τ C3 (((fr _ _).tr (fr _ _)).tr F3) (by rw [t, uj]))
      · have hb' : (γ.2.2.1.1.2.2.1.2.1.testBit (dN (nxt (nxt x)) γ.2.1.1) || γ.2.2.1.1.2.2.1.2.2.testBit (dN (nxt (nxt x)) γ.2.1.1)) = true := by
          cases hh : (γ.2.2.1.1.2.2.1.2.1.testBit (dN (nxt (nxt x)) γ.2.1.1) || γ.2.2.1.1.2.2.1.2.2.testBit (dN (nxt (nxt x)) γ.2.1.1))
          · exact absurd ⟨⟨by omega, by omega⟩, by rw [emt]; exact hh⟩ hf
          · rfl
        rw [if_pos hb'] at hq
        refine s_trg (s := 3) hb hg h0 C2 (by decide) (fun r τ C3 F3 t => hq τ C3 (((fr _ _).tr (fr _ _)).tr F3) (by rw [t, uj]))
    · rw [if_neg hs6] at hq
      refine s_draw (b := 7) (by decide) (by decide) ?_
      rw [uj]
      refine s_trg (s := 1) hb hg h0 (C2.j hg) (by decide) (fun r τ C3 F3 t => hq τ C3 ((((fr _ _).tr (fr _ _)).tr (fr _ _)).tr F3) (by rw [t, uj]))
  · rw [if_neg hs] at hq
    refine s_draw (b := 21) (by decide) (by decide) ?_
    rw [uj]
    intro y1 e1
    refine s_draw (b := 21) (by decide) (by decide) ?_
    rw [uj]
    intro y2 e2
    refine s_draw (b := 61) (by decide) (by decide) ?_
    rw [uj]
    intro y3 e3
    rw [e1, e2, e3]
    refine s_trg (s := 0) hb hg h0 (((C1.j hg).j hg).j hg) (by decide) (fun r τ C3 F3 t => hq τ C3 (((((fr _ _).tr (fr _ _)).tr (fr _ _)).tr (fr _ _)).tr F3) (by rw [t, uj]))
theorem m_yst {γ : GS} {bd : Nat} {σ : wS} {x : Int64} {Q : wS → Prop} (hg : gok γ bd) (h0 : 0 < γ.2.1.1) (hD : D γ σ) (hx : σ.2 176 36 = x) (hq : ∀ τ : wS, D (yst γ x).1 τ → Fdm σ τ → τ.2 176 36 = (yst γ x).2 → Q τ) : w_X12_happens σ Q := by
  obtain ⟨hμ, hw⟩ := hg.hk h0
  have h8 := hμ.1
  have uj : ∀ (ρ : wS) (v : Int64), (upJ ρ 176 36 v).2 176 36 = v := fun ρ v => by rw [upJ_2]; simp
  have fr : ∀ (ρ : wS) (v : Int64), Fdm ρ (upJ ρ 176 36 v) := fun ρ v i hi => rfl
  unfold yst at hq
  refine m_draw (b := 8) (by decide) (by decide) ?_
  rw [hx]
  have k8 := dN_lt (nxt x) (show 0 < 8 by decide)
  have e4 : ((5 : Int32) ≤ nI (dN (nxt x) 8)) ↔ 5 ≤ dN (nxt x) 8 := nI_leI (a := 5) (by decide) (by omega)
  have e6 : ((7 : Int32) ≤ nI (dN (nxt x) 8)) ↔ 7 ≤ dN (nxt x) 8 := nI_leI (a := 7) (by decide) (by omega)
  have D1 : D γ (upJ σ 176 36 (nxt x)) := hD.j
  rw [e4, e6]
  refine ⟨fun hs => ⟨fun hs6 => ?_, fun hs6 => ?_⟩, fun hs => ?_⟩
  · rw [if_pos (by omega), if_pos (by omega)] at hq
    rw [D1.2.1.1]
    refine m_draw h0 (by omega) ?_
    rw [uj]
    have D2 : D γ (upJ (upJ σ 176 36 (nxt x)) 176 36 (nxt (nxt x))) := D1.j
    have hr := dN_lt (nxt (nxt x)) h0
    have v8 := v8p (show dN (nxt (nxt x)) γ.2.1.1 < 8 by omega)
    rw [v8.2, D2.row.2.2.1 _ hr, srt_hold]
    refine ⟨v8.1, fun hf => ?_, fun hf => ?_⟩
    · rw [if_pos hf] at hq
      exact m_trg (s := 3) hg h0 D2 (by decide) (fun τ C3 F3 t => hq τ C3 (((fr _ _).tr (fr _ _)).tr F3) (by rw [t, uj]))
    · rw [if_neg hf] at hq
      exact m_trg (s := 2) hg h0 D2 (by decide) (fun τ C3 F3 t => hq τ C3 (((fr _ _).tr (fr _ _)).tr F3) (by rw [t, uj]))
  · rw [if_pos (by omega), if_neg (by omega)] at hq
    rw [D1.2.1.1]
    refine m_draw h0 (by omega) ?_
    rw [uj]
    refine m_draw (b := 7) (by decide) (by decide) ?_
    rw [uj]
    exact m_trg (s := 1) hg h0 D1.j.j (by decide) (fun τ C3 F3 t => hq τ C3 ((((fr _ _).tr (fr _ _)).tr (fr _ _)).tr F3) (by rw [t, uj]))
  · rw [if_neg (by omega)] at hq
    refine m_draw (b := 21) (by decide) (by decide) ?_
    rw [uj]
    intro y1 e1
    refine m_draw (b := 21) (by decide) (by decide) ?_
    rw [uj]
    intro y2 e2
    refine m_draw (b := 61) (by decide) (by decide) ?_
    rw [uj]
    rw [e1, e2]
    exact m_trg (s := 0) hg h0 D1.j.j.j (by decide) (fun τ C3 F3 t => hq τ C3 (((((fr _ _).tr (fr _ _)).tr (fr _ _)).tr (fr _ _)).tr F3) (by rw [t, uj]))
def f_years (p : Int32) (x : Int64) (γ : GS) : Int32 × GS := if 0 < γ.2.1.1 ∧ (1 ≤ p.toInt ∧ p.toInt ≤ 40) then (nI (ite2 yst p.toInt.toNat (γ, x)).1.2.2.1.1.2.2.1.1, (ite2 yst p.toInt.toNat (γ, x)).1) else (-1, γ)
theorem o_years {bd : Nat} {σ : wS} {p : Int32} {x : Int64} (hb : bd + 40 < 2 ^ 30) (hI : In bd σ) : w_X11_years p x σ (fun r1 s => w_X12_years p x s (fun r' s' => r1 = r' ∧ In (bd + 40) s')) := by
  refine prI (f := f_years p x) (w1 := w_X11_years p x) (w2 := w_X12_years p x) (fun γ σ Q hC hg hq => ?_) (fun γ σ Q hD hg hq => ?_) (fun γ hg => ?_) hI
  · unfold f_years at hq
    unfold w_X11_years
    rw [s_hasM hg hC]
    refine sw (fun h0 => ?_) (fun hf => by rw [if_neg (fun q => hf q.1)] at hq; exact hq σ hC Fcm.rf)
    rw [w1_40]
    refine sw' (fun hp s5 e5 => ?_) (fun hf => by rw [if_neg (fun q => hf q.2)] at hq; exact hq σ hC Fcm.rf)
    rw [if_pos ⟨h0, hp⟩] at hq
    obtain ⟨n, rfl, hn, -⟩ := nn (x := p) (by omega)
    rw [← hn, show ((n : Int)).toNat = n by omega] at hq
    have key : ∀ (k m : Nat) (p : GS × Int64) (ρ : wS), m + k = n → gok p.1 (bd + m) → 0 < p.1.2.1.1 → C p.1 ρ → Fcm σ ρ → ρ.2 0 17 = p.2 → ite2 yst k p = ite2 yst n (γ, x) → l_X11_years_27 Q (k + 1) (nI n) (nI m) ρ := by
      intro k
      induction k with
      | zero =>
        intro m p ρ hm hg' h0' C1 F1 hx he
        simp only [l_X11_years_27]
        refine ⟨fun _ => ?_, fun q => absurd (nI_le (by omega) (by omega)) q⟩
        rw [ite2_0] at he
        rw [← he] at hq
        rw [C1.2.2.1.1.2.1]
        exact hq ρ C1 F1
      | succ k ih =>
        intro m p ρ hm hg' h0' C1 F1 hx he
        rw [l_X11_years_27]
        refine ⟨fun q => absurd q (nI_ge (by omega) (by omega)), fun _ => ?_⟩
        refine s_yst (by omega) hg' h0' C1 hx (fun τ C2 F2 t2 y3 e3 => ?_)
        obtain ⟨y1, y2⟩ := yst_ok (x := p.2) hg' h0'
        rw [e3, nI_1]
        rw [ite2_s] at he
        exact ih (m + 1) (yst p.1 p.2) τ (by omega) y1 (by rw [y2]; exact h0') C2 (F1.tr F2) t2 he
    refine ⟨n + 1, key n 0 (γ, x) s5 (by omega) hg h0 (by rw [e5]; exact hC.j hg) (by rw [e5]; exact Fcm.eq rfl) (by rw [e5, upJ_2]; simp) rfl⟩
  · intro s1 e1
    have D1 : D γ s1 := by rw [e1]; exact hD.up (by decide)
    have F1 : Fdm σ s1 := by rw [e1]; exact Fdm.rf.up (by decide)
    unfold f_years at hq
    have h8 := hg.n8
    rw [D1.2.1.1, n0_iff h8]
    refine ⟨fun h0 => by rw [if_neg (fun q => h0 q.1)] at hq; exact hq s1 D1 F1, fun h0 => ?_⟩
    have h0 : 0 < γ.2.1.1 := by omega
    rw [i1_40]
    refine sw' (fun hp s4 e4 => ?_) (fun hf => by rw [if_neg (fun q => hf q.2)] at hq; exact hq s1 D1 F1)
    rw [if_pos ⟨h0, hp⟩] at hq
    obtain ⟨n, rfl, hn, -⟩ := nn (x := p) (by omega)
    rw [← hn, show ((n : Int)).toNat = n by omega] at hq
    have key : ∀ (k m : Nat) (p : GS × Int64) (ρ : wS), m + k = n → gok p.1 (bd + m) → 0 < p.1.2.1.1 → D p.1 ρ → Fdm σ ρ → ρ.2 176 36 = p.2 → ite2 yst k p = ite2 yst n (γ, x) → l_X12_years_34 Q (k + 1) (nI n) (nI m) ρ := by
      intro k
      induction k with
      | zero =>
        intro m p ρ hm hg' h0' D2 F2 hx he
        simp only [l_X12_years_34]
        refine ⟨fun _ => ?_, fun q => absurd (nI_le (by omega) (by omega)) q⟩
        rw [ite2_0] at he
        rw [← he] at hq
        obtain ⟨hμ, hw⟩ := hg'.hk h0'
        exact m_taut hμ rfl hw.1 D2.2.1 D2.row (hq ρ D2 F2)
      | succ k ih =>
        intro m p ρ hm hg' h0' D2 F2 hx he
        rw [l_X12_years_34]
        refine ⟨fun q => absurd q (nI_ge (by omega) (by omega)), fun _ => ?_⟩
        refine m_yst hg' h0' D2 hx (fun τ D3 F3 t2 y3 e3 => ?_)
        obtain ⟨y1, y2⟩ := yst_ok (x := p.2) hg' h0'
        rw [e3, nI_1]
        rw [ite2_s] at he
        exact ih (m + 1) (yst p.1 p.2) τ (by omega) y1 (by rw [y2]; exact h0') D3 (F2.tr F3) t2 he
    refine ⟨n + 1, key n 0 (γ, x) s4 (by omega) hg h0 (by rw [e4]; exact D1.j) (by rw [e4]; exact fun i hi => F1 i hi) (by rw [e4, upJ_2]; simp) rfl⟩
  · unfold f_years
    split
    · rename_i h
      exact (ysN_ok p.toInt.toNat bd (γ, x) hg h.1).1.wk (by omega)
    · exact hg.wk (by omega)
