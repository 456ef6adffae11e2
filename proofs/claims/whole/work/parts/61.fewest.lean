/-! fewest -/
theorem nI_or (a b : Nat) : nI a ||| nI b = nI (a ||| b) := by
  unfold nI
  apply Int32.toBitVec_inj.mp
  simp [Int32.toBitVec_or, BitVec.ofNat_or]
theorem nI_and (a b : Nat) : nI a &&& nI b = nI (a &&& b) := by
  unfold nI
  apply Int32.toBitVec_inj.mp
  simp [Int32.toBitVec_and, BitVec.ofNat_and]
theorem t255 {r : Nat} (h : r < 8) : (255 : Nat).testBit r = true ∧ (4294967295 : Nat).testBit r = true := by
  have h2 : ∀ r, r < 8 → (255 : Nat).testBit r = true ∧ (4294967295 : Nat).testBit r = true := by decide
  exact h2 r h
theorem andn_bit {a b : Nat} (ha : a < 256) (r : Nat) : (a &&& (255 ^^^ b)).testBit r = (a.testBit r && !b.testBit r) := by
  rw [Nat.testBit_and, Nat.testBit_xor]
  rcases Nat.lt_or_ge r 8 with q | q
  · rw [(t255 q).1]; cases b.testBit r <;> simp
  · rw [tb_big ha q]; simp
theorem andn {a b : Nat} (ha : a < 256) (hb : b < 256) : nI a &&& (nI b ^^^ (-1 : Int32)) = nI (a &&& (255 ^^^ b)) := by
  have h1 : ∀ b, b < 256 → nI b ^^^ (-1 : Int32) = nI (4294967295 ^^^ b) := by decide +kernel
  rw [h1 b hb, nI_and]
  congr 1
  apply Nat.eq_of_testBit_eq
  intro r
  rw [andn_bit ha, Nat.testBit_and, Nat.testBit_xor]
  rcases Nat.lt_or_ge r 8 with q | q
  · rw [(t255 q).2]; cases b.testBit r <;> simp
  · rw [tb_big ha q]; simp
theorem andn_lt {a b : Nat} (ha : a < 256) : a &&& (255 ^^^ b) < 256 := Nat.lt_of_le_of_lt Nat.and_le_left ha
def fsN (μ : MU) (h : HS) : Nat := h.2.2.1.1 ||| slkN μ h
def wcs (μ : MU) (h : HS) (s : Nat) : Nat := h.2.2.1.2.2 ||| (fsN μ h &&& (255 ^^^ s))
def enS (μ : MU) (h : HS) (s : Nat) : SR := stf0 μ h.1 h.2.1 (wcs μ h s) h.2.2.1.2.1 s
def enf (μ : MU) (h : HS) (s : Nat) : Bool := decide ((enS μ h s).1 = -1 ∧ (enS μ h s).2.2.2.1 = [])
def Gf (μ : MU) (h : HS) (s : Nat) : Bool := decide (s &&& (255 ^^^ fsN μ h) = 0) && enf μ h s
def c8 (s : Nat) : Nat := cnt (fun r => s.testBit r) 8
def mb (G : Nat → Bool) : Nat → Nat
  | 0 => 0
  | s + 1 => if s ≠ 0 ∧ G s = true ∧ (mb G s = 0 ∨ c8 s < c8 (mb G s)) then s else mb G s
theorem mb_sp (G : Nat → Bool) : ∀ m, (mb G m = 0 → ∀ s, 1 ≤ s → s < m → G s = false) ∧ (mb G m ≠ 0 → mb G m < m ∧ G (mb G m) = true ∧ ∀ s, 1 ≤ s → s < m → G s = true → c8 (mb G m) < c8 s ∨ (c8 (mb G m) = c8 s ∧ mb G m ≤ s)) := by
  intro m
  induction m with
  | zero => exact ⟨fun _ s h1 h2 => absurd h2 (Nat.not_lt_zero s), fun h => absurd rfl h⟩
  | succ m ih =>
    obtain ⟨i1, i2⟩ := ih
    rw [mb]
    by_cases hc : m ≠ 0 ∧ G m = true ∧ (mb G m = 0 ∨ c8 m < c8 (mb G m))
    · rw [if_pos hc]
      refine ⟨fun q => absurd q hc.1, fun _ => ⟨Nat.lt_succ_self m, hc.2.1, fun s h1 h2 h3 => ?_⟩⟩
      rcases Nat.lt_or_ge s m with q | q
      · rcases hc.2.2 with z | z
        · rw [i1 z s h1 q] at h3; exact absurd h3 (by decide)
        · by_cases e : mb G m = 0
          · rw [i1 e s h1 q] at h3; exact absurd h3 (by decide)
          · have := (i2 e).2.2 s h1 q h3
            left
            omega
      · have : s = m := by omega
        subst this
        exact Or.inr ⟨rfl, Nat.le_refl _⟩
    · rw [if_neg hc]
      have hm : m ≠ 0 → G m = true → mb G m ≠ 0 ∧ c8 (mb G m) ≤ c8 m := by
        intro h1 h2
        refine ⟨fun z => hc ⟨h1, h2, Or.inl z⟩, ?_⟩
        rcases Nat.lt_or_ge (c8 m) (c8 (mb G m)) with q | q
        · exact absurd ⟨h1, h2, Or.inr q⟩ hc
        · exact q
      refine ⟨fun z s h1 h2 => ?_, fun z => ?_⟩
      · rcases Nat.lt_or_ge s m with q | q
        · exact i1 z s h1 q
        · have : s = m := by omega
          subst this
          cases hG : G s
          · rfl
          · exact absurd z (hm (by omega) hG).1
      · obtain ⟨j1, j2, j3⟩ := i2 z
        refine ⟨by omega, j2, fun s h1 h2 h3 => ?_⟩
        rcases Nat.lt_or_ge s m with q | q
        · exact j3 s h1 q h3
        · have : s = m := by omega
          subst this
          have := (hm (by omega) h3).2
          omega
theorem cnt_hi {p : Nat → Bool} {n : Nat} (h : ∀ r, n ≤ r → p r = false) : ∀ m, cnt p m ≤ n := by
  intro m
  induction m with
  | zero => exact Nat.zero_le _
  | succ m ih =>
    rcases Nat.lt_or_ge m n with q | q
    · have := cnt_le p (m + 1); omega
    · have : cnt p (m + 1) = cnt p m + (if p m then 1 else 0) := rfl
      rw [this, h m q]
      simpa using ih
theorem c8_pos {s : Nat} (h1 : 1 ≤ s) (h : s < 256) : 1 ≤ c8 s := by
  have k : ∀ s, s < 256 → 1 ≤ s → 1 ≤ c8 s := by decide +kernel
  exact k s h h1
theorem c8_le (s : Nat) : c8 s ≤ 8 := cnt_le _ 8
theorem fs_ok {μ : MU} (hμ : mu_ok μ) {h : HS} (hk : hok μ h) : fsN μ h < 256 ∧ ∀ r, (fsN μ h).testBit r = (decide (r < μ.1) && !(h.2.2.1.2.1.testBit r || h.2.2.1.2.2.testBit r)) := by
  obtain ⟨k1, k2⟩ := mkm_ok (f := fun r => decide (srt h.2.2.1.2.1 h.2.2.1.2.2 h.2.2.1.1 r = 1)) hμ.1
  refine ⟨Nat.or_lt_two_pow (n := 8) hk.2.1 k1, fun r => ?_⟩
  have e : (fsN μ h).testBit r = (h.2.2.1.1.testBit r || (mkm (fun r => decide (srt h.2.2.1.2.1 h.2.2.1.2.2 h.2.2.1.1 r = 1)) μ.1).testBit r) := Nat.testBit_or _ _ _
  rw [e, k2 r, (srt_bits hk r).2.2.2]
  rcases Nat.lt_or_ge r μ.1 with q | q
  · rw [decide_eq_true q]
    cases ht : h.2.2.1.1.testBit r
    · simp
    · have := hk.2.2.2.2.2.1 r ht
      rw [this.1, this.2]; simp
  · rw [decide_eq_false (by omega), (hk.2.2.2.2.1 r q).1]; simp
theorem sub_bit {s F : Nat} (hs : s < 256) (h : s &&& (255 ^^^ F) = 0) {r : Nat} (hr : s.testBit r = true) : F.testBit r = true := by
  have := andn_bit (b := F) hs r
  rw [h, hr] at this
  simp at this
  exact this
theorem sub_le {s F : Nat} (hs : s < 256) (h : s &&& (255 ^^^ F) = 0) : s ≤ F := by
  have e : s = s &&& F := by
    apply Nat.eq_of_testBit_eq
    intro r
    rw [Nat.testBit_and]
    cases hr : s.testBit r
    · rfl
    · rw [sub_bit hs h hr]; rfl
  rw [e]
  exact Nat.and_le_right
theorem wcs_ok {μ : MU} (hμ : mu_ok μ) {h : HS} (hk : hok μ h) (s : Nat) : wcs μ h s < 256 ∧ ∀ r, (wcs μ h s).testBit r = (h.2.2.1.2.2.testBit r || ((fsN μ h).testBit r && !s.testBit r)) := by
  obtain ⟨f1, f2⟩ := fs_ok hμ hk
  refine ⟨Nat.or_lt_two_pow (n := 8) hk.2.2.2.1 (andn_lt f1), fun r => ?_⟩
  have e : (wcs μ h s).testBit r = (h.2.2.1.2.2.testBit r || (fsN μ h &&& (255 ^^^ s)).testBit r) := Nat.testBit_or _ _ _
  rw [e, andn_bit f1]
theorem en_hok {μ : MU} (hμ : mu_ok μ) {h : HS} (hk : hok μ h) {s : Nat} (hs : s < 256) (hsub : s &&& (255 ^^^ fsN μ h) = 0) (t e : Nat) : hok μ (h.1, h.2.1, (s, h.2.2.1.2.1, wcs μ h s), t, e) := by
  obtain ⟨f1, f2⟩ := fs_ok hμ hk
  obtain ⟨w1, w2⟩ := wcs_ok hμ hk s
  have sb : ∀ r, s.testBit r = true → r < μ.1 ∧ h.2.2.1.2.1.testBit r = false ∧ h.2.2.1.2.2.testBit r = false := by
    intro r hr
    have := sub_bit hs hsub hr
    rw [f2 r] at this
    simp at this
    exact ⟨this.1, this.2.1, this.2.2⟩
  refine ⟨hk.1, hs, hk.2.2.1, w1, fun r hr => ⟨?_, (hk.2.2.2.2.1 r hr).2.1, ?_⟩, fun r hr => ⟨(sb r hr).2.1, ?_⟩, fun r hr => ?_⟩
  · cases q : s.testBit r
    · rfl
    · have := (sb r q).1; omega
  · show (wcs μ h s).testBit r = false
    rw [w2 r, (hk.2.2.2.2.1 r hr).2.2, f2 r, decide_eq_false (by omega)]; rfl
  · show (wcs μ h s).testBit r = false
    have hr : s.testBit r = true := hr
    rw [w2 r, (sb r hr).2.2, hr]; simp
  · show (wcs μ h s).testBit r = false
    have hr : h.2.2.1.2.1.testBit r = true := hr
    rw [w2 r, hk.2.2.2.2.2.2 r hr, f2 r, hr]; simp
theorem en_em {μ : MU} (hμ : mu_ok μ) {h : HS} (hk : hok μ h) {s : Nat} (hs : s < 256) (hsub : s &&& (255 ^^^ fsN μ h) = 0) : ((iI (enS μ h s).1 = -1) ↔ (enS μ h s).1 = -1) ∧ (∀ r ∈ (enS μ h s).2.2.2.1, r < 8) ∧ (enS μ h s).2.2.2.1.length ≤ 8 := by
  obtain ⟨o1, o2, o3, -⟩ := fin_ok (ever := 0) hμ (en_hok hμ hk hs hsub 0 0)
  have e1 : (fin μ h.1 h.2.1 s h.2.2.1.2.1 (wcs μ h s) 0).1 = (enS μ h s).1 := rfl
  rw [e1] at o1
  refine ⟨?_, o2, o3⟩
  rw [show (-1 : Int32) = iI (-1) by decide, iI_eq (by omega) (by decide)]
theorem s_enough {γ : GS} {bd s : Nat} {σ : wS} {Q : Int32 → wS → Prop} (hg : gok γ bd) (h0 : 0 < γ.2.1.1) (hC : C γ σ) (hs : s < 256) (hsub : s &&& (255 ^^^ fsN γ.2.1 γ.2.2.1.1) = 0) (hq : ∀ τ : wS, C γ τ → Fr cW σ τ → Q (if enf γ.2.1 γ.2.2.1.1 s = true then 1 else 0) τ) : w_X11_isEnough (nI s) (nI (fsN γ.2.1 γ.2.2.1.1)) σ Q := by
  obtain ⟨hμ, hw⟩ := hg.hk h0
  have hk := hw.1
  obtain ⟨f1, f2⟩ := fs_ok hμ hk
  have hk2 := en_hok hμ hk hs hsub 0 0
  obtain ⟨e1, e2, e3⟩ := en_em hμ hk hs hsub
  unfold w_X11_isEnough
  refine s_begin0 hg hC (fun s1 F1 C1 H1 s3 e3' s4 e4 => ?_)
  have C3 : C γ s3 := by rw [e3']; exact C1.up hg (by decide)
  have C4 : C γ s4 := by rw [e4]; exact C3.up hg (by decide)
  have F4 : Fr cW σ s4 := by rw [e4]; refine Fr.upI ?_ (by decide); rw [e3']; exact F1.upI (by decide)
  have H1 := H1.1
  have x2 : s4.1 32 2 = nI s := by rw [e4, upI_1, if_neg (by omega), e3', upI_1]; simp
  have x3 : s4.1 32 3 = nI γ.2.2.1.1.2.2.1.2.1 := by rw [e4, upI_1, if_neg (by omega), e3', upI_1, if_neg (by omega)]; exact H1.2.2.1
  have x4 : s4.1 32 4 = nI (wcs γ.2.1 γ.2.2.1.1 s) := by
    have : s3.1 32 4 = nI γ.2.2.1.1.2.2.1.2.2 := by rw [e3', upI_1, if_neg (by omega)]; exact H1.2.2.2.1
    rw [e4, upI_1, if_pos ⟨rfl, rfl⟩, this, andn f1 hs, nI_or]; rfl
  have xL : LwC γ.2.1.1 γ.2.2.1.1.1 γ.2.2.1.1.2.1 32 s4 := by
    rw [e4, e3']; exact (H1.1.up (by decide) (by decide)).up (by decide) (by decide)
  refine s_settle hμ (mo_6 _) hk.1 (hok_sok hμ hk2) C4.2.1.2 xL x2 x3 x4 (fun τ hE => ?_)
  obtain ⟨E1, E2, E3, E4, E5, E6, E7, E8⟩ := hE
  have F5 : Fr cW σ τ := F4.tr (E1.wk (by decide))
  have C5 : C γ τ := hC.fr hg F5
  have hq := hq τ C5 F5
  unfold enf at hq
  have e1 : (iI (stf0 γ.2.1 γ.2.2.1.1.1 γ.2.2.1.1.2.1 (wcs γ.2.1 γ.2.2.1.1 s) γ.2.2.1.1.2.2.1.2.1 s).1 = -1) ↔ (enS γ.2.1 γ.2.2.1.1 s).1 = -1 := e1
  have E5 : τ.1 38 3 = nI (msk (enS γ.2.1 γ.2.2.1.1 s).2.2.2.1) := E5
  rw [e1, E5, msk_0 e2]
  refine ⟨fun n => ?_, fun y => ⟨fun n => ?_, fun y2 => ?_⟩⟩
  · rw [if_neg (by simp [n])] at hq; exact hq
  · rw [if_neg (by simp [n])] at hq; exact hq
  · rw [if_pos (by simp [y, y2])] at hq; exact hq
theorem m_would {γ : GS} {bd s : Nat} {σ : wS} {Q : Int32 → wS → Prop} (hg : gok γ bd) (h0 : 0 < γ.2.1.1) (hD : D γ σ) (hs : s < 256) (hsub : s &&& (255 ^^^ fsN γ.2.1 γ.2.2.1.1) = 0) (hq : ∀ τ : wS, D γ τ → Fdm σ τ → Q (if enf γ.2.1 γ.2.2.1.1 s = true then 1 else 0) τ) : w_X12_would (nI s) σ Q := by
  obtain ⟨hμ, hw⟩ := hg.hk h0
  have hk := hw.1
  have h8 := hμ.1
  obtain ⟨f1, f2⟩ := fs_ok hμ hk
  obtain ⟨w1, w2⟩ := wcs_ok hμ hk s
  have hk2 := en_hok hμ hk hs hsub 0 0
  obtain ⟨e1, e2, e3⟩ := en_em hμ hk hs hsub
  unfold w_X12_would
  refine m_begin0 h8 hD (fun s1 D1 F1 R1 => ⟨γ.2.1.1 + 1, ?_⟩)
  have key : ∀ (k m : Nat) (ρ : wS), m + k = γ.2.1.1 → Fr [189] s1 ρ → (∀ j, j < 8 ∨ 16 ≤ j → ρ.1 189 j = s1.1 189 j) → (∀ r, r < m → ρ.1 189 (8 + r) = nI (srt γ.2.2.1.1.2.2.1.2.1 (wcs γ.2.1 γ.2.2.1.1 s) s r)) → (∀ r, m ≤ r → ρ.1 189 (8 + r) = s1.1 189 (8 + r)) → l_X12_would_15 Q (k + 1) (nI s) (nI m) ρ := by
    intro k
    induction k with
    | zero =>
      intro m ρ hm G1 G2 G3 G4
      have : m = γ.2.1.1 := by omega
      subst this
      have D2 : D γ ρ := D1.mv (fun i hi => (G1 i (by revert i; decide)).1) (fun k _ => by rw [(G1 176 (by decide)).1])
      simp only [l_X12_would_15]
      rw [D2.2.1.1]
      refine ⟨fun _ => ?_, fun q => absurd (nI_le (Nat.le_refl _) (by omega)) q⟩
      have hz : ∀ r, r < γ.2.1.1 → s.testBit r = decide (srt γ.2.2.1.1.2.2.1.2.1 (wcs γ.2.1 γ.2.2.1.1 s) s r = 0) := by
        intro r hr
        have h5 := hk2.2.2.2.2.2.1 r
        unfold srt
        cases hs : s.testBit r
        · cases γ.2.2.1.1.2.2.1.2.1.testBit r <;> cases (wcs γ.2.1 γ.2.2.1.1 s).testBit r <;> simp
        · have := h5 hs
          simp only at this
          rw [this.1, this.2]; simp
      refine m_settles (so := srt γ.2.2.1.1.2.2.1.2.1 (wcs γ.2.1 γ.2.2.1.1 s) s) hμ hk.1 (hok_sok hμ hk2) D2.2.1 ⟨fun r hr => ?_, fun a ha => ?_⟩ G3 (srt_SL (fun r _ => hk2.2.2.2.2.2.2 r)) hz (fun τ hE => ?_)
      · rw [G2 r (by omega)]; exact R1.1 r hr
      · rw [G2 (16 + a) (by omega)]; exact R1.2.1 a ha
      · obtain ⟨E1, E2, E3, E4, E5, E6⟩ := hE
        have D3 : D γ τ := D2.mv (fun i hi => (E1 i (by revert i; decide)).1) (fun k hk => E2 k (by revert k; decide))
        have F3 : Fdm σ τ := F1.tr ((G1.d (by decide)).tr (E1.d (by decide)))
        have hq := hq τ D3 F3
        unfold enf at hq
        have e1 : (iI (stf0 γ.2.1 γ.2.2.1.1.1 γ.2.2.1.1.2.1 (wcs γ.2.1 γ.2.2.1.1 s) γ.2.2.1.1.2.2.1.2.1 s).1 = -1) ↔ (enS γ.2.1 γ.2.2.1.1 s).1 = -1 := e1
        have E4 : τ.1 176 32 = nI (enS γ.2.1 γ.2.2.1.1 s).2.2.2.1.length := E4
        have e4 : nI (enS γ.2.1 γ.2.2.1.1 s).2.2.2.1.length = 0 ↔ (enS γ.2.1 γ.2.2.1.1 s).2.2.2.1 = [] := by
          rw [← List.length_eq_zero_iff]
          exact nI_eq (b := 0) (by omega) (by decide)
        rw [e1, E4, e4]
        refine ⟨fun n => ?_, fun y => ⟨fun n => ?_, fun y2 => ?_⟩⟩
        · rw [if_neg (by simp [n])] at hq; exact hq
        · rw [if_neg (by simp [n])] at hq; exact hq
        · rw [if_pos (by simp [y, y2])] at hq; exact hq
    | succ k ih =>
      intro m ρ hm G1 G2 G3 G4
      have D2 : D γ ρ := D1.mv (fun i hi => (G1 i (by revert i; decide)).1) (fun k _ => by rw [(G1 176 (by decide)).1])
      rw [l_X12_would_15, D2.2.1.1, (v8p (show m < 8 by omega)).2, G4 m (Nat.le_refl _), R1.2.2.1 m (by omega), srt_hold]
      have nxt0 : ∀ z : Int32, z = nI (srt γ.2.2.1.1.2.2.1.2.1 (wcs γ.2.1 γ.2.2.1.1 s) s m) → b_X12_would_57 (fun x1 x2 σ => l_X12_would_15 Q (k + 1) x1 x2 σ) Q (nI s) (nI m) z ((8 : Int32) + nI m) ρ := by
        intro z hz
        refine ⟨(v8p (show m < 8 by omega)).1, fun s1' e1' y1 ey => ?_⟩
        rw [(v8p (show m < 8 by omega)).2] at e1'
        rw [ey, nI_1]
        refine ih (m + 1) s1' (by omega) (by rw [e1']; exact G1.upI (by decide)) (fun j hj => ?_) (fun r hr => ?_) (fun r hr => ?_)
        · rw [e1', upI_1, if_neg (by omega)]; exact G2 j hj
        · by_cases q : r = m
          · subst q
            rw [e1', upI_1, if_pos ⟨rfl, rfl⟩, hz]
          · rw [e1', upI_1, if_neg (by omega)]; exact G3 r (by omega)
        · rw [e1', upI_1, if_neg (by omega)]; exact G4 r (by omega)
      refine ⟨fun q => absurd q (nI_ge (by omega) (by omega)), fun _ => ⟨(v8p (show m < 8 by omega)).1, fun hb => ?_, fun hb => ?_⟩⟩
      · intro y1 ey
        rw [ey, nI_1]
        refine ih (m + 1) ρ (by omega) G1 G2 (fun r hr => ?_) (fun r hr => G4 r (by omega))
        by_cases q : r = m
        · subst q
          rw [G4 r (Nat.le_refl _), R1.2.2.1 r (by omega)]
          congr 1
          unfold srt
          rw [w2 r, f2 r]
          simp only [Bool.or_eq_true] at hb
          cases b1 : γ.2.2.1.1.2.2.1.2.1.testBit r
          · rw [b1] at hb
            have : γ.2.2.1.1.2.2.1.2.2.testBit r = true := by simpa using hb
            rw [this]; simp
          · simp
        · exact G3 r (by omega)
      · have hb : (γ.2.2.1.1.2.2.1.2.1.testBit m || γ.2.2.1.1.2.2.1.2.2.testBit m) = false := by simpa using hb
        have hb1 := hb
        rw [Bool.or_eq_false_iff] at hb
        rw [m_has hs (by omega)]
        have fm : (fsN γ.2.1 γ.2.2.1.1).testBit m = true := by rw [f2 m, decide_eq_true (by omega), hb1]; rfl
        cases sm : s.testBit m
        · refine ⟨fun _ => nxt0 3 ?_, fun q => absurd rfl q⟩
          unfold srt
          rw [w2 m, fm, hb.1, hb.2, sm]; rfl
        · refine ⟨fun q => absurd q (by decide), fun _ => nxt0 0 ?_⟩
          unfold srt
          rw [w2 m, fm, hb.1, hb.2, sm]; rfl
  exact key γ.2.1.1 0 s1 (by omega) Fr.rf (fun _ _ => rfl) (fun r hr => absurd hr (Nat.not_lt_zero r)) (fun _ _ => rfl)
def f_fewest (w : Int32) (γ : GS) : Int32 × GS := (if 0 < γ.2.1.1 ∧ (0 ≤ w.toInt ∧ w.toInt ≤ 1) then (if mb (Gf γ.2.1 γ.2.2.1.1) (2 ^ γ.2.1.1) = 0 then -1 else if w = 0 then nI (c8 (mb (Gf γ.2.1 γ.2.2.1.1) (2 ^ γ.2.1.1))) else nI (mb (Gf γ.2.1 γ.2.2.1.1) (2 ^ γ.2.1.1))) else -1, γ)
theorem p256 {n : Nat} (hn : n ≤ 8) : 2 ^ n ≤ 256 := Nat.pow_le_pow_right (n := 2) (by decide) hn
theorem Gf_in {μ : MU} (hμ : mu_ok μ) {h : HS} (hk : hok μ h) {s : Nat} (hs : s < 256) (hG : Gf μ h s = true) : s ≤ fsN μ h ∧ s < 2 ^ μ.1 ∧ c8 s ≤ μ.1 := by
  obtain ⟨f1, f2⟩ := fs_ok hμ hk
  unfold Gf at hG
  rw [Bool.and_eq_true, decide_eq_true_eq] at hG
  have hz : ∀ r, μ.1 ≤ r → s.testBit r = false := by
    intro r hr
    cases q : s.testBit r
    · rfl
    · have := sub_bit hs hG.1 q
      rw [f2 r, decide_eq_false (by omega)] at this
      simp at this
  exact ⟨sub_le hs hG.1, Nat.lt_pow_two_of_testBit s hz, cnt_hi hz 8⟩
theorem sh8 {n : Nat} (hn : n ≤ 8) : (1 : Int32) <<< (nI n &&& 31) = nI (2 ^ n) := by
  have h : ∀ n, n ≤ 8 → (1 : Int32) <<< (nI n &&& 31) = nI (2 ^ n) := by decide
  exact h n hn
theorem s_fewest {γ : GS} {bd : Nat} {σ : wS} {w : Int32} {Q : Int32 → wS → Prop} (hC : C γ σ) (hg : gok γ bd) (hq : ∀ τ, C (f_fewest w γ).2 τ → Fcm σ τ → Q (f_fewest w γ).1 τ) : w_X11_fewest w σ Q := by
  unfold f_fewest at hq
  unfold w_X11_fewest
  rw [s_hasM hg hC]
  refine sw (fun h0 => ?_) (fun h0 => by rw [if_neg (fun q => h0 q.1)] at hq; exact hq σ hC Fcm.rf)
  rw [w0_1]
  refine sw' (fun hw => ?_) (fun hw => by rw [if_neg (fun q => hw q.2)] at hq; exact hq σ hC Fcm.rf)
  rw [if_pos ⟨h0, hw⟩] at hq
  obtain ⟨hμ, hw0⟩ := hg.hk h0
  have hk := hw0.1
  have h8 := hμ.1
  obtain ⟨f1, f2⟩ := fs_ok hμ hk
  have hp := p256 h8
  unfold w_X3_slackOf
  rw [hC.2.1.2.1, hC.2.2.1.1.2.1, hC.2.2.1.1.2.2.1, hC.2.2.1.1.2.2.2.1, slk_eq hμ hk]
  intro y7 e7
  have e7 : y7 = nI (fsN γ.2.1 γ.2.2.1.1) := by rw [e7, nI_or]; rfl
  rw [e7]
  obtain ⟨m1, m2⟩ := mb_sp (Gf γ.2.1 γ.2.2.1.1) (2 ^ γ.2.1.1)
  have outer : ∀ (k z : Nat) (ρ : wS), 1 ≤ z → z ≤ γ.2.1.1 + 1 → z + k = γ.2.1.1 + 2 → C γ ρ → Fcm σ ρ → (∀ s, 1 ≤ s → s < 2 ^ γ.2.1.1 → c8 s < z → Gf γ.2.1 γ.2.2.1.1 s = false) → l_X11_fewest_40 Q k w (nI (fsN γ.2.1 γ.2.2.1.1)) (nI z) ρ := by
    intro k
    induction k with
    | zero => intro z ρ h1 h1b h2 C1 F1 hz; exfalso; omega
    | succ k ih =>
      intro z ρ h1 h1b h2 C1 F1 hz
      rw [l_X11_fewest_40, C1.2.1.2.1, nI_ltI (by omega) (by omega)]
      refine ⟨fun q => ?_, fun q => ⟨fsN γ.2.1 γ.2.2.1.1 + 2, ?_⟩⟩
      · have hmb : mb (Gf γ.2.1 γ.2.2.1.1) (2 ^ γ.2.1.1) = 0 := by
          refine Classical.byContradiction fun hne => ?_
          obtain ⟨j1, j2, -⟩ := m2 hne
          have := (Gf_in hμ hk (by omega) j2).2.2
          have := hz _ (Nat.one_le_iff_ne_zero.mpr hne) j1 (by omega)
          rw [j2] at this
          exact absurd this (by decide)
        rw [if_pos hmb] at hq
        exact hq ρ C1 F1
      · have inner : ∀ (j x : Nat) (ρ : wS), 1 ≤ x → x + j = fsN γ.2.1 γ.2.2.1.1 + 3 → x ≤ fsN γ.2.1 γ.2.2.1.1 + 1 → C γ ρ → Fcm σ ρ → (∀ s, 1 ≤ s → s < x → c8 s = z → Gf γ.2.1 γ.2.2.1.1 s = false) → l_X11_fewest_54 (fun x1 x2 x3 σ => l_X11_fewest_40 Q k x1 x2 x3 σ) Q j w (nI (fsN γ.2.1 γ.2.2.1.1)) (nI z) (nI x) ρ := by
          intro j
          induction j with
          | zero => intro x ρ x1 x2 x3; exfalso; omega
          | succ j ihj =>
            intro x ρ x1 x2 x3 C2 F2 hx
            rw [l_X11_fewest_54, nI_ltI (by omega) (by omega)]
            refine ⟨fun q2 y1 ey => ?_, fun q2 => ?_⟩
            · rw [ey, nI_1]
              refine ih (z + 1) ρ (by omega) (by omega) (by omega) C2 F2 (fun s s1 s2 s3 => ?_)
              rcases Nat.lt_or_ge (c8 s) z with q3 | q3
              · exact hz s s1 s2 q3
              · cases hG : Gf γ.2.1 γ.2.2.1.1 s
                · rfl
                · have := (Gf_in hμ hk (by omega) hG).1
                  have := hx s s1 (by omega) (by omega)
                  rw [hG] at this
                  exact absurd this (by decide)
            · have hx256 : x < 256 := by omega
              have step : ∀ ρ' : wS, C γ ρ' → Fcm σ ρ' → (c8 x = z → Gf γ.2.1 γ.2.2.1.1 x = false) → b_X11_fewest_99 (fun x1 x2 x3 σ => l_X11_fewest_40 Q k x1 x2 x3 σ) (fun x1 x2 x3 x4 σ => l_X11_fewest_54 (fun x1 x2 x3 σ => l_X11_fewest_40 Q k x1 x2 x3 σ) Q j x1 x2 x3 x4 σ) Q w (nI (fsN γ.2.1 γ.2.2.1.1)) (nI z) (nI x) ρ' := by
                intro ρ' C3 F3 hxx y1 ey
                rw [ey, nI_1]
                refine ihj (x + 1) ρ' (by omega) (by omega) (by omega) C3 F3 (fun s s1 s2 s3 => ?_)
                rcases Nat.lt_or_ge s x with q3 | q3
                · exact hx s s1 q3 s3
                · have : s = x := by omega
                  subst this
                  exact hxx s3
              refine s_bitCount hx256 ?_
              have c9 : cnt (fun r => x.testBit r) 8 = c8 x := rfl
              have := c8_le x
              rw [c9, nI_eq (by omega) (by omega)]
              refine ⟨fun n => step ρ C2 F2 (fun q => absurd q n), fun hcz => ?_⟩
              rw [andn hx256 f1]
              have ez : nI (x &&& (255 ^^^ fsN γ.2.1 γ.2.2.1.1)) = 0 ↔ x &&& (255 ^^^ fsN γ.2.1 γ.2.2.1.1) = 0 := nI_eq (b := 0) (by have := andn_lt (a := x) (b := fsN γ.2.1 γ.2.2.1.1) hx256; omega) (by decide)
              rw [ez]
              refine ⟨fun n => step ρ C2 F2 (fun _ => by unfold Gf; rw [decide_eq_false n]; rfl), fun hsub => ?_⟩
              refine s_enough hg h0 C2 hx256 hsub (fun τ C3 F3 => ?_)
              have F4 : Fcm σ τ := F2.tr (F3.c (by decide))
              cases hen : enf γ.2.1 γ.2.2.1.1 x
              · refine ⟨fun _ => step τ C3 F4 (fun _ => by unfold Gf; rw [hen, Bool.and_false]), fun n => absurd rfl n⟩
              · have hG : Gf γ.2.1 γ.2.2.1.1 x = true := by unfold Gf; rw [hen, decide_eq_true hsub]; rfl
                obtain ⟨g1, g2, g3⟩ := Gf_in hμ hk hx256 hG
                have hne : mb (Gf γ.2.1 γ.2.2.1.1) (2 ^ γ.2.1.1) ≠ 0 := by
                  intro hz0
                  rw [m1 hz0 x x1 g2] at hG
                  exact absurd hG (by decide)
                obtain ⟨j1, j2, j3⟩ := m2 hne
                have hmx : mb (Gf γ.2.1 γ.2.2.1.1) (2 ^ γ.2.1.1) = x := by
                  have hlt : ¬ c8 (mb (Gf γ.2.1 γ.2.2.1.1) (2 ^ γ.2.1.1)) < z := by
                    intro hl
                    rw [hz _ (Nat.one_le_iff_ne_zero.mpr hne) j1 hl] at j2
                    exact absurd j2 (by decide)
                  have hge : ¬ (mb (Gf γ.2.1 γ.2.2.1.1) (2 ^ γ.2.1.1) < x ∧ c8 (mb (Gf γ.2.1 γ.2.2.1.1) (2 ^ γ.2.1.1)) = z) := by
                    intro hl
                    rw [hx _ (Nat.one_le_iff_ne_zero.mpr hne) hl.1 hl.2] at j2
                    exact absurd j2 (by decide)
                  have := j3 x x1 g2 hG
                  omega
                rw [if_neg hne, hmx, hcz] at hq
                have hq := hq τ C3 F4
                refine ⟨fun q => absurd q (by decide), fun _ => ⟨fun q => ?_, fun q => ?_⟩⟩
                · rw [if_neg q] at hq; exact hq
                · rw [if_pos q] at hq; exact hq
        exact inner (fsN γ.2.1 γ.2.2.1.1 + 2) 1 ρ (by omega) (by omega) (by omega) C1 F1 (fun s s1 s2 => by omega)
  exact ⟨γ.2.1.1 + 1, outer (γ.2.1.1 + 1) 1 σ (by omega) (by omega) (by omega) hC Fcm.rf (fun s s1 s2 s3 => by have := c8_pos s1 (by omega); omega)⟩
theorem m_fewest {γ : GS} {bd : Nat} {σ : wS} {w : Int32} {Q : Int32 → wS → Prop} (hD : D γ σ) (hg : gok γ bd) (hq : ∀ τ, D (f_fewest w γ).2 τ → Fdm σ τ → Q (f_fewest w γ).1 τ) : w_X12_fewest w σ Q := by
  intro s1 e1
  have D1 : D γ s1 := by rw [e1]; exact hD.up (by decide)
  have F1 : Fdm σ s1 := by rw [e1]; exact Fdm.rf.up (by decide)
  unfold f_fewest at hq
  have h8 := hg.n8
  rw [D1.2.1.1, n0_iff h8]
  refine ⟨fun h0 => by rw [if_neg (fun q => h0 q.1)] at hq; exact hq s1 D1 F1, fun h0 => ?_⟩
  have h0 : 0 < γ.2.1.1 := Classical.byContradiction h0
  rw [i0_1]
  refine sw' (fun hw => ?_) (fun hw => by rw [if_neg (fun q => hw q.2)] at hq; exact hq s1 D1 F1)
  rw [if_pos ⟨h0, hw⟩] at hq
  obtain ⟨hμ, hw0⟩ := hg.hk h0
  have hk := hw0.1
  obtain ⟨f1, f2⟩ := fs_ok hμ hk
  have hp := p256 h8
  refine m_taut hμ rfl hk D1.2.1 D1.row ?_
  rw [D1.2.1.1]
  refine m_those (c := 1) rfl h8 (by decide) (fun r hr => ⟨D1.row.2.2.1 r hr, srt_lt4 _ _ _ _⟩) ?_
  intro y8 e8
  have e8 : y8 = nI (fsN γ.2.1 γ.2.2.1.1) := by rw [e8, nI_or]; rfl
  rw [e8]
  refine ⟨2 ^ γ.2.1.1 + 1, ?_⟩
  have h1p : 1 ≤ 2 ^ γ.2.1.1 := Nat.one_le_two_pow
  have key : ∀ (k x : Nat) (ρ : wS), 1 ≤ x → x ≤ 2 ^ γ.2.1.1 → x + k = 2 ^ γ.2.1.1 + 1 → D γ ρ → Fdm σ ρ → l_X12_fewest_55 Q (k + 1) w (nI (fsN γ.2.1 γ.2.2.1.1)) (nI (mb (Gf γ.2.1 γ.2.2.1.1) x)) (nI x) ρ := by
    intro k
    induction k with
    | zero => intro x ρ x1 x1b x2 D2 F2; exfalso; omega
    | succ k ih =>
      intro x ρ x1 x1b x2 D2 F2
      have mlt : mb (Gf γ.2.1 γ.2.2.1.1) x < 256 := by
        by_cases z : mb (Gf γ.2.1 γ.2.2.1.1) x = 0
        · omega
        · have := ((mb_sp (Gf γ.2.1 γ.2.2.1.1) x).2 z).1; omega
      have em : nI (mb (Gf γ.2.1 γ.2.2.1.1) x) = 0 ↔ mb (Gf γ.2.1 γ.2.2.1.1) x = 0 := nI_eq (b := 0) (by omega) (by decide)
      rw [l_X12_fewest_55, D2.2.1.1, sh8 h8, nI_leI (by omega) (by omega), em]
      refine ⟨fun q => ?_, fun q => ?_⟩
      · have hx : x = 2 ^ γ.2.1.1 := by omega
        rw [hx] at em mlt ⊢
        have hq := hq ρ D2 F2
        refine ⟨fun n => ⟨fun q2 => ?_, fun q2 => m_size mlt ?_⟩, fun z => ?_⟩
        · rw [if_neg n, if_neg q2] at hq; exact hq
        · rw [if_neg n, if_pos q2] at hq; exact hq
        · rw [if_pos z] at hq; exact hq
      · have hx256 : x < 256 := by omega
        have skip : ∀ ρ' : wS, D γ ρ' → Fdm σ ρ' → mb (Gf γ.2.1 γ.2.2.1.1) (x + 1) = mb (Gf γ.2.1 γ.2.2.1.1) x → b_X12_fewest_106 (fun x1 x2 x3 x4 σ => l_X12_fewest_55 Q (k + 1) x1 x2 x3 x4 σ) Q w (nI (fsN γ.2.1 γ.2.2.1.1)) (nI (mb (Gf γ.2.1 γ.2.2.1.1) x)) (nI x) ρ' := by
          intro ρ' D3 F3 hm y1 ey
          rw [ey, nI_1, ← hm]
          exact ih (x + 1) ρ' (by omega) (by omega) (by omega) D3 F3
        have take : ∀ ρ' : wS, D γ ρ' → Fdm σ ρ' → x &&& (255 ^^^ fsN γ.2.1 γ.2.2.1.1) = 0 → (mb (Gf γ.2.1 γ.2.2.1.1) x = 0 ∨ c8 x < c8 (mb (Gf γ.2.1 γ.2.2.1.1) x)) → b_X12_fewest_94 (fun x1 x2 x3 x4 σ => l_X12_fewest_55 Q (k + 1) x1 x2 x3 x4 σ) Q w (nI (fsN γ.2.1 γ.2.2.1.1)) (nI (mb (Gf γ.2.1 γ.2.2.1.1) x)) (nI x) ρ' := by
          intro ρ' D3 F3 hsub hc
          refine m_would hg h0 D3 hx256 hsub (fun τ D4 F4 => ?_)
          have F5 := F3.tr F4
          cases hen : enf γ.2.1 γ.2.2.1.1 x
          · refine ⟨fun _ => skip τ D4 F5 ?_, fun n => absurd rfl n⟩
            have hG : Gf γ.2.1 γ.2.2.1.1 x = false := by unfold Gf; rw [hen, Bool.and_false]
            rw [mb, if_neg (fun q => by rw [hG] at q; exact absurd q.2.1 (by decide))]
          · refine ⟨fun n => absurd n (by decide), fun _ y1 ey => ?_⟩
            have hG : Gf γ.2.1 γ.2.2.1.1 x = true := by unfold Gf; rw [hen, decide_eq_true hsub]; rfl
            have hm : mb (Gf γ.2.1 γ.2.2.1.1) (x + 1) = x := by rw [mb, if_pos ⟨by omega, hG, hc⟩]
            have := ih (x + 1) τ (by omega) (by omega) (by omega) D4 F5
            rw [hm] at this
            rw [ey, nI_1]
            exact this
        rw [andn hx256 f1]
        have ez : nI (x &&& (255 ^^^ fsN γ.2.1 γ.2.2.1.1)) = 0 ↔ x &&& (255 ^^^ fsN γ.2.1 γ.2.2.1.1) = 0 := nI_eq (b := 0) (by have := andn_lt (a := x) (b := fsN γ.2.1 γ.2.2.1.1) hx256; omega) (by decide)
        rw [ez]
        refine ⟨fun n => skip ρ D2 F2 ?_, fun hsub => ⟨fun z => take ρ D2 F2 hsub (Or.inl z), fun n => ?_⟩⟩
        · have hG : Gf γ.2.1 γ.2.2.1.1 x = false := by unfold Gf; rw [decide_eq_false n]; rfl
          rw [mb, if_neg (fun q => by rw [hG] at q; exact absurd q.2.1 (by decide))]
        · refine m_size hx256 (m_size mlt ?_)
          have c9 : ∀ y : Nat, cnt (fun r => y.testBit r) 8 = c8 y := fun _ => rfl
          have l1 := c8_le x
          have l2 := c8_le (mb (Gf γ.2.1 γ.2.2.1.1) x)
          rw [c9, c9, nI_ltI (by omega) (by omega)]
          refine ⟨fun q3 => take ρ D2 F2 hsub (Or.inr q3), fun q3 => skip ρ D2 F2 ?_⟩
          rw [mb, if_neg (fun q => by rcases q.2.2 with z | z; exact n z; exact q3 z)]
  have m1 : mb (Gf γ.2.1 γ.2.2.1.1) 1 = 0 := by rw [mb, if_neg (fun q => q.1 rfl)]; rfl
  have := key (2 ^ γ.2.1.1) 1 s1 (by omega) (by omega) (by omega) D1 F1
  rw [m1] at this
  exact this
theorem o_fewest {bd : Nat} {σ : wS} {w : Int32} (hI : In bd σ) : w_X11_fewest w σ (fun r1 s' => w_X12_fewest w s' (fun r' s' => r1 = r' ∧ In (bd + 40) s')) :=
  prI (f := f_fewest w) (w1 := w_X11_fewest w) (w2 := w_X12_fewest w) (fun γ σ Q hC hg hq => s_fewest hC hg hq) (fun γ σ Q hD hg hq => m_fewest hD hg hq) (fun γ hg => hg.wk (by omega)) hI
