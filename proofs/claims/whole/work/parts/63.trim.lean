/-! trim -/
def ldv (μ : MU) (h : HS) : Nat × Nat := match sel (ldP μ h.1 h.2.1 h.2.2.1.1) (fun r => h.2.2.1.1.testBit r) μ.1 with
  | none => (0, 1)
  | some w => ((Pl μ h.1 h.2.1 h.2.2.1.1 w).toNat, (mu_t μ w * Lw μ h.2.2.1.1).toNat)
def trv (μ : MU) (h : HS) (r : Nat) (k : Int) : Option (Nat × Nat) := if (att μ h 1 (r : Int) k 0).1 = -1 ∧ (att μ h 1 (r : Int) k 0).2.2 = [] then some (ldv μ (att μ h 1 (r : Int) k 0).2.1) else none
abbrev BT : Type := Option (Nat × Int × Nat × Nat)
def bR (b : BT) : Int32 := match b with
  | none => -1
  | some q => nI q.1
def bTn (b : BT) : Int32 := match b with
  | none => 0
  | some q => iI q.2.1
def bU (b : BT) : Nat := match b with
  | none => 0
  | some q => q.2.2.1
def bL (b : BT) : Nat := match b with
  | none => 1
  | some q => q.2.2.2
def tr1 (μ : MU) (h : HS) (r : Nat) (k : Int) (b : BT) : BT := if k = 0 then b else match trv μ h r k with
  | none => b
  | some v => if b.isNone = true ∨ v.1 * bL b < bU b * v.2 then some (r, k, v.1, v.2) else b
def tri (μ : MU) (h : HS) (n : Nat) (r : Nat) : Nat → BT → BT
  | 0, b => b
  | j + 1, b => tr1 μ h r ((j : Int) - (n : Int)) (tri μ h n r j b)
def tro (μ : MU) (h : HS) (n : Nat) : Nat → BT
  | 0 => none
  | r + 1 => tri μ h n r (2 * n + 1) (tro μ h n r)
def bok (b : BT) : Prop := bU b < 2 ^ 63 ∧ 0 < bL b ∧ bL b < 2 ^ 63 ∧ ∀ q, b = some q → q.1 < 8
theorem tr_w {μ : MU} (hμ : mu_ok μ) {h : HS} (hk : hok μ h) (hs : sett μ h) : ∃ w, sel (ldP μ h.1 h.2.1 h.2.2.1.1) (fun r => h.2.2.1.1.testBit r) μ.1 = some w ∧ w < μ.1 ∧ 0 ≤ Pl μ h.1 h.2.1 h.2.2.1.1 w ∧ (Pl μ h.1 h.2.1 h.2.2.1.1 w).natAbs < 2 ^ 63 ∧ 0 < mu_t μ w * Lw μ h.2.2.1.1 ∧ (mu_t μ w * Lw μ h.2.2.1.1).natAbs < 2 ^ 63 := by
  obtain ⟨r, hr, hb⟩ := taut_ex hμ hk hs
  obtain ⟨w, hw⟩ := sel_ne (bt := ldP μ h.1 h.2.1 h.2.2.1.1) (S := fun r => h.2.2.1.1.testBit r) hr hb
  obtain ⟨h1, h2⟩ := sel_lt hw
  have hP := Pl_ab hμ h.2.2.1.1 hk.1.1 hk.1.2 h1
  have hL := tL_b hμ h1 hs.1
  exact ⟨w, hw, h1, hs.2 w h2, Nat.lt_of_le_of_lt hP PB_lt, hL.1, hL.2⟩
theorem ldv_ok {μ : MU} (hμ : mu_ok μ) {h : HS} (hk : hok μ h) (hs : sett μ h) : (ldv μ h).1 < 2 ^ 63 ∧ 0 < (ldv μ h).2 ∧ (ldv μ h).2 < 2 ^ 63 := by
  obtain ⟨w, w1, w2, w3, w4, w5, w6⟩ := tr_w hμ hk hs
  unfold ldv
  rw [w1]
  simp only
  omega
theorem bR_n {b : BT} (hb : bok b) : bR b = -1 ↔ b.isNone = true := by
  cases b with
  | none => exact ⟨fun _ => rfl, fun _ => rfl⟩
  | some q =>
    have := hb.2.2.2 q rfl
    exact ⟨fun h => absurd h (nI_m1 (by omega)), fun h => absurd h (by simp)⟩
theorem tr1_ok {μ : MU} (hμ : mu_ok μ) {h : HS} (hk : hok μ h) {r : Nat} (hr : r < 8) {k : Int} {b : BT} (hb : bok b) : bok (tr1 μ h r k b) := by
  unfold tr1
  split
  · exact hb
  · unfold trv
    by_cases hc : (att μ h 1 (r : Int) k 0).1 = -1 ∧ (att μ h 1 (r : Int) k 0).2.2 = []
    · obtain ⟨o1, o2, o3, o4⟩ := att_ok hμ hk 1 (r : Int) k 0
      obtain ⟨p1, p2, -⟩ := o4 hc.1
      have := ldv_ok hμ p1 p2
      rw [if_pos hc]
      simp only
      split
      · exact ⟨this.1, this.2.1, this.2.2, fun q hq => by rw [← Option.some.inj hq]; exact hr⟩
      · exact hb
    · rw [if_neg hc]; exact hb
theorem tri_ok {μ : MU} (hμ : mu_ok μ) {h : HS} (hk : hok μ h) {n r : Nat} (hr : r < 8) {b : BT} (hb : bok b) : ∀ j, bok (tri μ h n r j b) := by
  intro j
  induction j with
  | zero => exact hb
  | succ j ih => rw [tri]; exact tr1_ok hμ hk hr ih
theorem tro_ok {μ : MU} (hμ : mu_ok μ) {h : HS} (hk : hok μ h) {n : Nat} : ∀ r, r ≤ 8 → bok (tro μ h n r) := by
  intro r
  induction r with
  | zero => intro _; exact ⟨show (0 : Nat) < 2 ^ 63 by decide, show (0 : Nat) < 1 by decide, show (1 : Nat) < 2 ^ 63 by decide, fun q hq => by cases hq⟩
  | succ r ih => intro hr; rw [tro]; exact tri_ok hμ hk (by omega) (ih (by omega)) _
/-- what the class keeps of the best -/
def f47 (b : BT) (σ : wS) : Prop := σ.2 47 0 = iJ ((bU b / Nat.gcd (bU b) (bL b) : Nat) : Int) ∧ σ.2 47 1 = iJ ((bL b / Nat.gcd (bU b) (bL b) : Nat) : Int)
theorem gcd_b {u l : Nat} (hl : 0 < l) (hl2 : l < 2 ^ 63) : 0 < Nat.gcd u l ∧ Nat.gcd u l < 2 ^ 63 := by
  have h1 : 0 < Nat.gcd u l := Nat.gcd_pos_of_pos_right _ hl
  have h2 : Nat.gcd u l ≤ l := Nat.le_of_dvd hl (Nat.gcd_dvd_right _ _)
  omega
theorem gd_n (u l : Nat) : gd (u : Int) (l : Int) = Nat.gcd u l := rfl
theorem s_turned {γ : GS} {bd r : Nat} {k : Int} {σ : wS} {Q : Int32 → wS → Prop} (hg : gok γ bd) (h0 : 0 < γ.2.1.1) (hC : C γ σ) (hr : r < γ.2.1.1) (hk3 : k.natAbs < 2 ^ 31)
    (hq0 : trv γ.2.1 γ.2.2.1.1 r k = none → ∀ τ : wS, C γ τ → Fcm σ τ → τ.2 47 = σ.2 47 → Q 0 τ)
    (hq1 : ∀ v, trv γ.2.1 γ.2.2.1.1 r k = some v → ∀ τ : wS, C γ τ → Fcm σ τ → τ.2 47 = σ.2 47 → τ.2 46 0 = iJ ((v.1 / Nat.gcd v.1 v.2 : Nat) : Int) → τ.2 46 1 = iJ ((v.2 / Nat.gcd v.1 v.2 : Nat) : Int) → v.1 < 2 ^ 63 → 0 < v.2 → v.2 < 2 ^ 63 → Q 1 τ) : w_X11_putTurned (nI r) (iI k) σ Q := by
  obtain ⟨hμ, hw⟩ := hg.hk h0
  have hk := hw.1
  have h8 := hμ.1
  unfold w_X11_putTurned
  refine s_copy (by omega) (fun s1 F g u1 u2 u3 => ?_)
  have F1 : Fr cW σ s1 := F.wk (by decide)
  have C1 : C γ s1 := hC.fr hg F1
  have H1 := hC.2.2.1.cp hg.n8 u1 u2 u3
  have ex : (nI r).toInt = (r : Int) := nI_toInt (by omega)
  have ey : (iI k).toInt = k := iI_T hk3
  have ez : (0 : Int32).toInt = 0 := by decide
  obtain ⟨o1, o2, o3, o4⟩ := att_ok hμ hk 1 (r : Int) k 0
  refine s_att (sort := 1) hg h0 C1 hk H1.1 (by decide) (fun τ C2 F2 hA => ?_)
  rw [ex, ey, ez] at hA ⊢
  obtain ⟨A1, A2, A3, A4, A5, A6, A7⟩ := hA
  have t47 : τ.2 47 = σ.2 47 := (A1 47 (by decide)).2.trans (by rw [g])
  have F3 : Fcm σ τ := (F1.c (by decide)).tr (F2.c (by decide))
  unfold trv at hq0 hq1
  rw [att_em hμ hk, A4, msk_0 o2]
  refine ⟨fun hne => hq0 (by rw [if_neg (fun q => hne q.1)]) τ C2 F3 t47, fun heq => ⟨fun hb => ?_, fun hb => hq0 (by rw [if_neg (fun q => hb q.2)]) τ C2 F3 t47⟩⟩
  obtain ⟨p1, p2, -⟩ := o4 heq
  obtain ⟨w, w1, w2, w3, w4, w5, w6⟩ := tr_w hμ p1 p2
  obtain ⟨A8, A9, A10⟩ := A7 heq
  have hq1 := hq1 _ (if_pos ⟨heq, hb⟩)
  rw [A8.2.1]
  refine s_mostLoaded p1.2.1 h8 (fun r hr => (p1.2.2.2.2.1 r hr).1) A9 (T := mu_t γ.2.1) (fun r hr => (C2.2.1.2.2.2.2.2.1 r hr).2) (fun r b hr hb => sgL hμ p1.1 _ hr hb) ?_
  rw [w1]
  refine ⟨fun _ => ?_, fun q => absurd q (oI_s (by omega)).1⟩
  refine s_putLoad (bd := bd) hμ C2 w2 p2.1 w4 (A9 w w2) A10 (fun ρ F4 e4 f0 f1 => ?_)
  have F5 : Fr cW τ ρ := F4.wk (by decide)
  have el : ldv γ.2.1 (att γ.2.1 γ.2.2.1.1 1 (r : Int) k 0).2.1 = ((Pl γ.2.1 (att γ.2.1 γ.2.2.1.1 1 (r : Int) k 0).2.1.1 (att γ.2.1 γ.2.2.1.1 1 (r : Int) k 0).2.1.2.1 (att γ.2.1 γ.2.2.1.1 1 (r : Int) k 0).2.1.2.2.1.1 w).toNat, (mu_t γ.2.1 w * Lw γ.2.1 (att γ.2.1 γ.2.2.1.1 1 (r : Int) k 0).2.1.2.2.1.1).toNat) := by
    unfold ldv
    rw [w1]
  generalize hP : Pl γ.2.1 (att γ.2.1 γ.2.2.1.1 1 (r : Int) k 0).2.1.1 (att γ.2.1 γ.2.2.1.1 1 (r : Int) k 0).2.1.2.1 (att γ.2.1 γ.2.2.1.1 1 (r : Int) k 0).2.1.2.2.1.1 w = P at el w3 w4 f0 f1
  generalize hL : mu_t γ.2.1 w * Lw γ.2.1 (att γ.2.1 γ.2.2.1.1 1 (r : Int) k 0).2.1.2.2.1.1 = L at el w5 w6 f0 f1
  rw [el] at hq1
  obtain ⟨P, rfl⟩ : ∃ n : Nat, P = (n : Int) := ⟨P.toNat, by omega⟩
  obtain ⟨L, rfl⟩ : ∃ n : Nat, L = (n : Int) := ⟨L.toNat, by omega⟩
  rw [gd_n] at f0 f1
  have gb := gcd_b (u := P) (l := L) (by omega) (by omega)
  rw [iJ_div (by omega) gb.2] at f0 f1
  simp only [Int.toNat_natCast] at hq1
  exact hq1 ρ (C2.fr hg F5) (F3.tr (F5.c (by decide))) ((F4 47 (by decide)).2.trans t47) f0 f1 (by omega) (by omega) (by omega)
theorem att1_nf {μ : MU} {h : HS} {r : Nat} {k : Int} (hr : r < μ.1) (hf : (h.2.2.1.2.1.testBit r || h.2.2.1.2.2.testBit r) = true) : (att μ h 1 (r : Int) k 0).1 ≠ -1 := by
  unfold att
  rw [if_neg (by decide), if_neg (fun q => q ⟨by omega, by omega⟩), if_pos rfl, Int.toNat_natCast]
  split
  · show (1 : Int) ≠ -1; decide
  · split
    · show (1 : Int) ≠ -1; decide
    · rw [if_pos (Or.inr hf)]; show (2 : Int) ≠ -1; decide
theorem s_trimI {γ : GS} {bd n r : Nat} {w : Int32} {σ0 : wS} {K : Int32 → Int32 → Int32 → Int32 → Int32 → wS → Prop} {Q : Int64 → wS → Prop} (hg : gok γ bd) (h0 : 0 < γ.2.1.1) (hn : n ≤ 3) (hr : r < γ.2.1.1) (b0 : BT) (hb0 : bok b0)
    (hK : ∀ τ : wS, C γ τ → Fcm σ0 τ → f47 (tri γ.2.1 γ.2.2.1.1 n r (2 * n + 1) b0) τ → K (nI n) w (bR (tri γ.2.1 γ.2.2.1.1 n r (2 * n + 1) b0)) (bTn (tri γ.2.1 γ.2.2.1.1 n r (2 * n + 1) b0)) (nI (r + 1)) τ) : ∀ (f j : Nat) (σ : wS), j + f = 2 * n + 2 → j ≤ 2 * n + 1 → C γ σ → Fcm σ0 σ → f47 (tri γ.2.1 γ.2.2.1.1 n r j b0) σ → l_X11_trim_62 K Q f (nI n) w (bR (tri γ.2.1 γ.2.2.1.1 n r j b0)) (bTn (tri γ.2.1 γ.2.2.1.1 n r j b0)) (nI r) (iI ((j : Int) - (n : Int))) σ := by
  obtain ⟨hμ, hw⟩ := hg.hk h0
  have hk := hw.1
  have h8 := hμ.1
  intro f
  induction f with
  | zero => intro j σ h1 h2; exfalso; omega
  | succ f ih =>
    intro j σ h1 h2 C1 F1 B1
    have hbk := tri_ok hμ hk (n := n) (show r < 8 by omega) hb0 j
    have en : nI n < iI ((j : Int) - (n : Int)) ↔ 2 * n < j := by rw [iI_n, iI_lt (by omega) (by omega)]; omega
    have e0 : iI ((j : Int) - (n : Int)) = 0 ↔ j = n := by rw [show (0 : Int32) = iI 0 by decide, iI_eq (by omega) (by decide)]; omega
    rw [l_X11_trim_62, en, e0]
    refine ⟨fun q y1 ey => ?_, fun q => ?_⟩
    · have : j = 2 * n + 1 := by omega
      subst this
      rw [ey, nI_1]
      exact hK σ C1 F1 B1
    · have ej : iI ((j : Int) - (n : Int)) + 1 = iI (((j + 1 : Nat) : Int) - (n : Int)) := by
        rw [show (1 : Int32) = iI 1 by decide, iI_add]; congr 1; omega
      have step : ∀ τ : wS, C γ τ → Fcm σ0 τ → tri γ.2.1 γ.2.2.1.1 n r (j + 1) b0 = tri γ.2.1 γ.2.2.1.1 n r j b0 → τ.2 47 = σ.2 47 → b_X11_trim_140 K (fun x1 x2 x3 x4 x5 x6 σ => l_X11_trim_62 K Q f x1 x2 x3 x4 x5 x6 σ) Q (nI n) w (bR (tri γ.2.1 γ.2.2.1.1 n r j b0)) (bTn (tri γ.2.1 γ.2.2.1.1 n r j b0)) (nI r) (iI ((j : Int) - (n : Int))) τ := by
        intro τ C2 F2 he h47 y1 ey
        rw [ey, ej, ← he]
        refine ih (j + 1) τ (by omega) (by omega) C2 F2 ?_
        rw [he]
        unfold f47
        rw [h47]
        exact B1
      refine ⟨fun q2 => step σ C1 F1 (by rw [tri, tr1, if_pos (by omega)]) rfl, fun q2 => ?_⟩
      have hz : ¬ ((j : Int) - (n : Int)) = 0 := by omega
      rw [s_isFast hg C1]
      refine sw (fun hf => ?_) (fun hf => ?_)
      · refine s_turned hg h0 C1 hr (by omega) (fun hv τ C2 F2 h47 => ⟨fun _ => step τ C2 (F1.tr F2) (by rw [tri, tr1, if_neg hz, hv]) h47, fun q3 => absurd rfl q3⟩) (fun v hv τ C2 F2 h47 v0 v1 v2 v3 v4 => ⟨fun q3 => absurd q3 (by decide), fun _ => ?_⟩)
        have F3 := F1.tr F2
        have gv := gcd_b (u := v.1) v3 v4
        have take : (tri γ.2.1 γ.2.2.1.1 n r j b0).isNone = true ∨ v.1 * bL (tri γ.2.1 γ.2.2.1.1 n r j b0) < bU (tri γ.2.1 γ.2.2.1.1 n r j b0) * v.2 → b_X11_trim_112 K (fun x1 x2 x3 x4 x5 x6 σ => l_X11_trim_62 K Q f x1 x2 x3 x4 x5 x6 σ) Q (nI n) w (nI r) (iI ((j : Int) - (n : Int))) τ := by
          intro hc
          have he : tri γ.2.1 γ.2.2.1.1 n r (j + 1) b0 = some (r, (j : Int) - (n : Int), v.1, v.2) := by
            rw [tri, tr1, if_neg hz, hv]
            simp only
            rw [if_pos hc]
          unfold b_X11_trim_112
          rw [v0, v1]
          have d1 : v.1 / Nat.gcd v.1 v.2 ≤ v.1 := Nat.div_le_self _ _
          have d2 : v.2 / Nat.gcd v.1 v.2 ≤ v.2 := Nat.div_le_self _ _
          have d3 : 0 < v.2 / Nat.gcd v.1 v.2 := Nat.div_pos (Nat.le_of_dvd v3 (Nat.gcd_dvd_right _ _)) gv.1
          refine s_put (by omega) (by rw [Int.natAbs_natCast]; omega) (by rw [Int.natAbs_natCast]; omega) (fun ρ G1 G2 G3 G4 y1 ey => ?_)
          have g1 : Nat.gcd (v.1 / Nat.gcd v.1 v.2) (v.2 / Nat.gcd v.1 v.2) = 1 := Nat.gcd_div_gcd_div_gcd_of_pos_right v3
          rw [gd_n, g1, iJ_div (by omega) (by decide), Nat.div_one] at G3 G4
          have := ih (j + 1) ρ (by omega) (by omega) (C2.fr hg (G1.wk (by decide))) (F3.tr ((G1.wk (T := cW) (by decide)).c (by decide))) (by rw [he]; exact ⟨G3, G4⟩)
          rw [he] at this
          rw [ey, ej]
          exact this
        rw [bR_n hbk]
        refine ⟨fun hno => take (Or.inl hno), fun hno => ?_⟩
        intro y1 e1 y2 e2 y3 e3 y4 e4
        rw [e1, e2, e3, e4, v0, v1, h47, B1.1, B1.2]
        have gb := gcd_b (u := bU (tri γ.2.1 γ.2.2.1.1 n r j b0)) hbk.2.1 hbk.2.2.1
        have a1 : v.1 / Nat.gcd v.1 v.2 ≤ v.1 := Nat.div_le_self _ _
        have a2 : v.2 / Nat.gcd v.1 v.2 ≤ v.2 := Nat.div_le_self _ _
        have a3 : 0 < v.2 / Nat.gcd v.1 v.2 := Nat.div_pos (Nat.le_of_dvd v3 (Nat.gcd_dvd_right _ _)) gv.1
        have a4 : bU (tri γ.2.1 γ.2.2.1.1 n r j b0) / Nat.gcd (bU (tri γ.2.1 γ.2.2.1.1 n r j b0)) (bL (tri γ.2.1 γ.2.2.1.1 n r j b0)) ≤ bU (tri γ.2.1 γ.2.2.1.1 n r j b0) := Nat.div_le_self _ _
        have a5 : bL (tri γ.2.1 γ.2.2.1.1 n r j b0) / Nat.gcd (bU (tri γ.2.1 γ.2.2.1.1 n r j b0)) (bL (tri γ.2.1 γ.2.2.1.1 n r j b0)) ≤ bL (tri γ.2.1 γ.2.2.1.1 n r j b0) := Nat.div_le_self _ _
        have a6 : 0 < bL (tri γ.2.1 γ.2.2.1.1 n r j b0) / Nat.gcd (bU (tri γ.2.1 γ.2.2.1.1 n r j b0)) (bL (tri γ.2.1 γ.2.2.1.1 n r j b0)) := Nat.div_pos (Nat.le_of_dvd hbk.2.1 (Nat.gcd_dvd_right _ _)) gb.1
        have a7 := hbk.1
        have a8 := hbk.2.2.1
        refine ⟨200, s_bel 63 _ _ _ _ 0 200 false (by omega) (by omega) (by omega) (by omega) a3 a6 (by omega) (by decide) (by decide) ?_⟩
        rw [bw_red gv.1 gb.1 (Nat.gcd_dvd_left _ _) (Nat.gcd_dvd_right _ _) (Nat.gcd_dvd_left _ _) (Nat.gcd_dvd_right _ _)]
        unfold bwB
        rw [if_neg (by decide)]
        by_cases hc : v.1 * bL (tri γ.2.1 γ.2.2.1.1 n r j b0) < bU (tri γ.2.1 γ.2.2.1.1 n r j b0) * v.2
        · rw [decide_eq_true hc]
          exact ⟨fun q3 => absurd q3 (by decide), fun _ => take (Or.inr hc)⟩
        · rw [decide_eq_false hc]
          refine ⟨fun _ => step τ C2 F3 ?_ h47, fun q3 => absurd rfl q3⟩
          rw [tri, tr1, if_neg hz, hv]
          simp only
          rw [if_neg (fun q => by rcases q with q | q; exact hno q; exact hc q)]
      · refine step σ C1 F1 ?_ rfl
        rw [tri, tr1, if_neg hz]
        have hv : trv γ.2.1 γ.2.2.1.1 r ((j : Int) - (n : Int)) = none := by
          unfold trv
          refine if_neg (fun q => ?_)
          have hfb : (γ.2.2.1.1.2.2.1.2.1.testBit r || γ.2.2.1.1.2.2.1.2.2.testBit r) = true := by
            cases hb : (γ.2.2.1.1.2.2.1.2.1.testBit r || γ.2.2.1.1.2.2.1.2.2.testBit r)
            · refine absurd ⟨⟨?_, ?_⟩, ?_⟩ hf
              · rw [nI_toInt (by omega)]; omega
              · rw [nI_toInt (by omega)]; omega
              · rw [nI_toInt (by omega), Int.toNat_natCast]; exact hb
            · rfl
          exact att1_nf hr hfb q.1
        rw [hv]
