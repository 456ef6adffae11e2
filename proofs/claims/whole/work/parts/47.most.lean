/-! most -/
theorem m_pulled {μ : MU} (hμ : mu_ok μ) {h : HS} {lg : List LE} {σ : wS} {up : Bool} {Q : Int32 → wS → Prop} (hk : hok μ h) (hM : MoM μ σ) (hR : RowM μ h lg (σ.1 188))
    (hq : ∀ τ : wS, τ.1 = σ.1 → Q (oI (sel (if up then gtP μ h.1 h.2.1 h.2.2.1.1 else ltP μ h.1 h.2.1 h.2.2.1.1) (fun r => h.2.2.1.1.testBit r) μ.1)) τ) : w_X12_pulled (if up then 1 else 0) σ Q := by
  have h8 := hμ.1
  refine m_asks hμ rfl hk hM hR (fun τ G1 G2 G3 hp => ?_)
  have hq := hq τ G2
  have hR : RowM μ h lg (τ.1 188) := by rw [G2]; exact hR
  have hP : ∀ r, r < μ.1 → (Pl μ h.1 h.2.1 h.2.2.1.1 r).natAbs < 2 ^ 63 := fun r hr => by
    have := Pl_ab hμ h.2.2.1.1 hk.1.1 hk.1.2 hr
    have := PB_lt
    omega
  generalize hbt : (if up then gtP μ h.1 h.2.1 h.2.2.1.1 else ltP μ h.1 h.2.1 h.2.2.1.1) = bt at hq
  have key : ∀ (k m : Nat), m ≤ μ.1 → m + k = μ.1 + 1 → l_X12_pulled_12 Q k (if up then 1 else 0) (oI (sel bt (fun r => h.2.2.1.1.testBit r) m)) (nI m) τ := by
    intro k
    induction k with
    | zero => intro m h1 h2; omega
    | succ k ih =>
      intro m h1 h2
      simp only [l_X12_pulled_12]
      rw [hp.2.1.1, nI_leI (by omega) (by omega)]
      refine ⟨fun hc => ?_, fun hc => ?_⟩
      · have : m = μ.1 := by omega
        subst this
        exact hq
      · have hm : m < μ.1 := by omega
        have ih := ih (m + 1) (by omega) (by omega)
        rw [← nI_1] at ih
        have v8 := v8p (show m < 8 by omega)
        rw [v8.2, hR.2.2.1 m hm, srt_0 hk]
        refine ⟨v8.1, fun hS => ?_, fun hS => ?_⟩
        · cases hsel : sel bt (fun r => h.2.2.1.1.testBit r) m with
          | none =>
            rw [sel_s1 hS hsel] at ih
            refine ⟨fun _ => ?_, fun q => absurd rfl q⟩
            simp only [b_X12_pulled_91, b_X12_pulled_93, forall_eq]
            exact ih
          | some b =>
            have hbl := (sel_lt hsel).1
            have hbn : b < μ.1 := by omega
            have ob := oI_s (show b < 8 by omega)
            refine ⟨fun q => absurd q ob.1, fun _ => ?_⟩
            simp only [b_X12_pulled_91, b_X12_pulled_93, forall_eq]
            cases up
            · refine ⟨fun _ => m_pl hμ hk.1 hp hm (m_pl (r := b) hμ hk.1 hp hbn ?_), fun q => absurd rfl q⟩
              have ebt : bt m b = decide (Pl μ h.1 h.2.1 h.2.2.1.1 m < Pl μ h.1 h.2.1 h.2.2.1.1 b) := by rw [← hbt]; rfl
              rw [cmp_ge, iJ_le (hP b hbn) (hP m hm)]
              refine ⟨fun h9 => ?_, fun h9 => ?_⟩
              · rw [sel_s2 hsel (by rw [ebt]; exact decide_eq_false (by omega))] at ih
                exact ih
              · rw [sel_s3 hS hsel (by rw [ebt]; exact decide_eq_true (by omega))] at ih
                exact ih
            · refine ⟨fun q => absurd q (by decide), fun _ => m_pl hμ hk.1 hp hm (m_pl (r := b) hμ hk.1 hp hbn ?_)⟩
              have ebt : bt m b = decide (Pl μ h.1 h.2.1 h.2.2.1.1 b < Pl μ h.1 h.2.1 h.2.2.1.1 m) := by rw [← hbt]; rfl
              rw [cmp_le, iJ_le (hP m hm) (hP b hbn)]
              refine ⟨fun h9 => ?_, fun h9 => ?_⟩
              · rw [sel_s2 hsel (by rw [ebt]; exact decide_eq_false (by omega))] at ih
                exact ih
              · rw [sel_s3 hS hsel (by rw [ebt]; exact decide_eq_true (by omega))] at ih
                exact ih
        · simp only [b_X12_pulled_93, forall_eq]
          have hS : h.2.2.1.1.testBit m = false := by simpa using hS
          rw [sel_s0 (S := fun r => h.2.2.1.1.testBit r) hS] at ih
          exact ih
  exact ⟨μ.1 + 1, key (μ.1 + 1) 0 (by omega) (by omega)⟩
/-- two that are taut, and pull against each other most -/
def ls (μ : MU) (t : Nat) (b : Option Nat) (i j : Nat) : Option Nat := if (t.testBit i && t.testBit j) = true then (match b with
  | none => some (8 * i + j)
  | some c => if acc μ i j < acc μ (c / 8) (c % 8) then some (8 * i + j) else some c) else b
def lr (μ : MU) (t : Nat) (b : Option Nat) (i : Nat) : Nat → Option Nat
  | 0 => b
  | m + 1 => if i < m then ls μ t (lr μ t b i m) i m else lr μ t b i m
def lt2 (μ : MU) (t : Nat) : Nat → Option Nat
  | 0 => none
  | m + 1 => lr μ t (lt2 μ t m) m μ.1
theorem lr_0 (μ : MU) (t : Nat) (b : Option Nat) (i : Nat) : ∀ m, m ≤ i + 1 → lr μ t b i m = b := by
  intro m
  induction m with
  | zero => intro _; rfl
  | succ m ih => intro h; rw [lr, if_neg (by omega)]; exact ih (by omega)
theorem lr_s (μ : MU) (t : Nat) (b : Option Nat) {i m : Nat} (h : i < m) : lr μ t b i (m + 1) = ls μ t (lr μ t b i m) i m := by rw [lr, if_pos h]
def vld (n : Nat) (b : Option Nat) : Prop := ∀ c, b = some c → c / 8 < n ∧ c % 8 < n
theorem ls_v {μ : MU} {t : Nat} {b : Option Nat} {i j : Nat} (h8 : μ.1 ≤ 8) (hi : i < μ.1) (hj : j < μ.1) (hb : vld μ.1 b) : vld μ.1 (ls μ t b i j) := by
  have e : vld μ.1 (some (8 * i + j)) := fun c hc => by
    have : c = 8 * i + j := by simpa using hc.symm
    subst this
    omega
  unfold ls
  split
  · cases b with
    | none => exact e
    | some c =>
      simp only
      split
      · exact e
      · exact hb
  · exact hb
theorem lr_v {μ : MU} {t : Nat} {b : Option Nat} {i : Nat} (h8 : μ.1 ≤ 8) (hi : i < μ.1) (hb : vld μ.1 b) : ∀ m, m ≤ μ.1 → vld μ.1 (lr μ t b i m) := by
  intro m
  induction m with
  | zero => intro _; exact hb
  | succ m ih =>
    intro hm
    rw [lr]
    split
    · exact ls_v h8 hi (by omega) (ih (by omega))
    · exact ih (by omega)
theorem lt2_v {μ : MU} {t : Nat} (h8 : μ.1 ≤ 8) : ∀ m, m ≤ μ.1 → vld μ.1 (lt2 μ t m) := by
  intro m
  induction m with
  | zero => intro _ c hc; cases hc
  | succ m ih => intro hm; rw [lt2]; exact lr_v h8 (by omega) (ih (by omega)) _ (Nat.le_refl _)
/-- how much the class keeps of it -/
def la (μ : MU) (b : Option Nat) : Int := match b with
  | none => 0
  | some c => acc μ (c / 8) (c % 8)
theorem oI64 {c : Nat} (hc : c < 64) : ¬ oI (some c) = -1 := by
  show ¬ nI c = -1
  rw [show (-1 : Int32) = iI (-1) by decide, iI_n, iI_eq (by omega) (by decide)]; omega
theorem s_isTautN {γ : GS} {bd : Nat} {σ : wS} {j : Nat} {Q : Int32 → wS → Prop} (hg : gok γ bd) (hC : C γ σ) (hj : j < γ.2.1.1) : w_X11_isTaut (nI j) σ Q = Q (if γ.2.2.1.1.2.2.1.1.testBit j = true then 1 else 0) σ := by
  have h8 := hg.n8
  have e : (nI j).toInt = j := nI_toInt (by omega)
  have et : (nI j).toInt.toNat = j := by omega
  rw [s_isTaut hg hC]
  congr 1
  have : tau γ.2.1 γ.2.2.1.1 (nI j) ↔ γ.2.2.1.1.2.2.1.1.testBit j = true := by
    unfold tau
    rw [et]
    exact ⟨fun q => q.2, fun q => ⟨⟨by omega, by omega⟩, q⟩⟩
  by_cases q : γ.2.2.1.1.2.2.1.1.testBit j = true
  · rw [if_pos (this.mpr q), if_pos q]
  · rw [if_neg (fun z => q (this.mp z)), if_neg q]
theorem s_leastA {γ : GS} {bd : Nat} {σ : wS} {Q : Int32 → wS → Prop} (hg : gok γ bd) (h0 : 0 < γ.2.1.1) (hC : C γ σ) (hq : Q (oI (lt2 γ.2.1 γ.2.2.1.1.2.2.1.1 γ.2.1.1)) σ) : w_X11_leastAccord σ Q := by
  obtain ⟨hμ, hk, -⟩ := hg.hk h0
  have h8 := hμ.1
  generalize ht : γ.2.2.1.1.2.2.1.1 = t at hq
  have inner : ∀ (K6 : Int32 → Int32 → Int32 → wS → Prop) (b : Option Nat) (i : Nat), i < γ.2.1.1 → vld γ.2.1.1 b → (K6 (oI (lr γ.2.1 t b i γ.2.1.1)) (iI (la γ.2.1 (lr γ.2.1 t b i γ.2.1.1))) (nI (i + 1)) σ) → ∀ (k m : Nat), i < m → m ≤ γ.2.1.1 → m + k = γ.2.1.1 + 1 → l_X11_leastAccord_22 K6 Q k (oI (lr γ.2.1 t b i m)) (iI (la γ.2.1 (lr γ.2.1 t b i m))) (nI i) (nI m) σ := by
    intro K6 b i hi hb hK k
    induction k with
    | zero => intro m h1 h2 h3; omega
    | succ k ih =>
      intro m h1 h2 h3
      simp only [l_X11_leastAccord_22]
      rw [hC.2.1.2.1, nI_leI (by omega) (by omega)]
      refine ⟨fun hc y ey => ?_, fun hc => ?_⟩
      · have : m = γ.2.1.1 := by omega
        subst this
        rw [ey, nI_1]
        exact hK
      · have hm : m < γ.2.1.1 := by omega
        have ih := ih (m + 1) (by omega) (by omega) (by omega)
        rw [← nI_1, lr_s _ _ _ h1] at ih
        have hv := lr_v (t := t) h8 hi hb m (by omega)
        simp only [b_X11_leastAccord_77, b_X11_leastAccord_88, forall_eq]
        rw [s_isTautN hg hC hi, ht]
        refine sw (fun hti => ?_) (fun hti => ?_)
        rotate_left
        · unfold ls at ih
          rw [if_neg (by rw [Bool.not_eq_true] at hti; rw [hti, Bool.false_and]; decide)] at ih
          exact ih
        rw [s_isTautN hg hC hm, ht]
        refine sw' (fun htm => ?_) (fun htm => ?_)
        rotate_left
        · unfold ls at ih
          rw [if_neg (by rw [Bool.not_eq_true] at htm; rw [htm, Bool.and_false]; decide)] at ih
          exact ih
        refine s_accordOf hμ hC.2.1.2 hi hm ?_
        unfold ls at ih
        rw [if_pos (by rw [hti, htm]; rfl)] at ih
        have e8 : (8 : Int32) * nI i + nI m = nI (8 * i + m) := by rw [show (8 : Int32) = nI 8 from rfl, pk_mul, nI_add]
        rw [e8]
        have eN : (8 * i + m) / 8 = i ∧ (8 * i + m) % 8 = m := by omega
        have laN : la γ.2.1 (some (8 * i + m)) = acc γ.2.1 i m := by simp only [la, eN]
        cases hl : lr γ.2.1 t b i m with
        | none =>
          rw [hl] at ih
          simp only at ih
          rw [laN] at ih
          exact ⟨fun _ => ih, fun q => absurd rfl q⟩
        | some c =>
          rw [hl] at ih
          simp only at ih
          have hvc := hv c hl
          have b1 := acc_b hμ hi hm
          have b2 := acc_b hμ hvc.1 hvc.2
          refine ⟨fun q => absurd q (oI64 (by omega)), fun _ => ?_⟩
          have lac : la γ.2.1 (some c) = acc γ.2.1 (c / 8) (c % 8) := rfl
          rw [lac, iI_le (by omega) (by omega)]
          refine ⟨fun q => ?_, fun q => ?_⟩
          · rw [if_neg (by omega), lac] at ih; exact ih
          · rw [if_pos (by omega), laN] at ih; exact ih
  have outer : ∀ (k m : Nat), m ≤ γ.2.1.1 → m + k = γ.2.1.1 + 1 → l_X11_leastAccord_6 Q k (oI (lt2 γ.2.1 t m)) (iI (la γ.2.1 (lt2 γ.2.1 t m))) (nI m) σ := by
    intro k
    induction k with
    | zero => intro m h1 h2; omega
    | succ k ih =>
      intro m h1 h2
      simp only [l_X11_leastAccord_6]
      rw [hC.2.1.2.1, nI_leI (by omega) (by omega)]
      refine ⟨fun hc => ?_, fun hc y ey => ?_⟩
      · have : m = γ.2.1.1 := by omega
        subst this
        exact hq
      · have ih := ih (m + 1) (by omega) (by omega)
        rw [lt2] at ih
        rw [ey, nI_1]
        refine ⟨γ.2.1.1 + 1 - (m + 1), ?_⟩
        have := inner (fun x1 x2 x3 σ => l_X11_leastAccord_6 Q k x1 x2 x3 σ) (lt2 γ.2.1 t m) m (by omega) (lt2_v h8 m h1) ih (γ.2.1.1 + 1 - (m + 1)) (m + 1) (by omega) (by omega) (by omega)
        rw [lr_0 _ _ _ _ _ (Nat.le_refl _)] at this
        exact this
  exact ⟨γ.2.1.1 + 1, outer (γ.2.1.1 + 1) 0 (by omega) (by omega)⟩
theorem m_unlike {μ : MU} (hμ : mu_ok μ) {h : HS} {lg : List LE} {σ : wS} {Q : Int32 → wS → Prop} (hk : hok μ h) (hM : MoM μ σ) (hR : RowM μ h lg (σ.1 188)) (hq : Q (oI (lt2 μ h.2.2.1.1 μ.1)) σ) : w_X12_unlike σ Q := by
  have h8 := hμ.1
  generalize ht : h.2.2.1.1 = t at hq
  have inner : ∀ (K4 : Int32 → Int32 → wS → Prop) (b : Option Nat) (i : Nat), i < μ.1 → vld μ.1 b → (K4 (oI (lr μ t b i μ.1)) (nI (i + 1)) σ) → ∀ (k m : Nat), i < m → m ≤ μ.1 → m + k = μ.1 + 1 → l_X12_unlike_16 K4 Q k (oI (lr μ t b i m)) (nI i) (nI m) σ := by
    intro K4 b i hi hb hK k
    induction k with
    | zero => intro m h1 h2 h3; omega
    | succ k ih =>
      intro m h1 h2 h3
      simp only [l_X12_unlike_16]
      rw [hM.1, nI_leI (by omega) (by omega)]
      refine ⟨fun hc y ey => ?_, fun hc => ?_⟩
      · have : m = μ.1 := by omega
        subst this
        rw [ey, nI_1]
        exact hK
      · have hm : m < μ.1 := by omega
        have ih := ih (m + 1) (by omega) (by omega) (by omega)
        rw [← nI_1, lr_s _ _ _ h1] at ih
        have hv := lr_v (t := t) h8 hi hb m (by omega)
        simp only [b_X12_unlike_77, b_X12_unlike_84, forall_eq]
        have v8 := v8p (show i < 8 by omega)
        have w8 := v8p (show m < 8 by omega)
        rw [v8.2, w8.2, hR.2.2.1 i hi, hR.2.2.1 m hm, srt_0 hk, srt_0 hk, ht]
        refine ⟨v8.1, fun hti => ?_, fun hti => ⟨w8.1, fun htm => ?_, fun htm => ?_⟩⟩
        · unfold ls at ih
          rw [if_neg (by rw [Bool.not_eq_true] at hti; rw [hti, Bool.false_and]; decide)] at ih
          exact ih
        rotate_left
        · unfold ls at ih
          rw [if_neg (by rw [Bool.not_eq_true] at htm; rw [htm, Bool.and_false]; decide)] at ih
          exact ih
        unfold ls at ih
        rw [if_pos (by rw [hti, htm]; rfl)] at ih
        have e8 : (8 : Int32) * nI i + nI m = nI (8 * i + m) := by rw [show (8 : Int32) = nI 8 from rfl, pk_mul, nI_add]
        rw [e8]
        cases hl : lr μ t b i m with
        | none =>
          rw [hl] at ih
          exact ⟨fun _ => ih, fun q => absurd rfl q⟩
        | some c =>
          rw [hl] at ih
          simp only at ih
          have hvc := hv c hl
          have b1 := acc_b hμ hi hm
          have b2 := acc_b hμ hvc.1 hvc.2
          refine ⟨fun q => absurd q (oI64 (by omega)), fun _ => m_accordOf hμ hM hi hm ?_⟩
          show w_X12_accordOf (nI c / 8) (nI c - nI c / 8 * 8) σ _
          rw [show (8 : Int32) = nI 8 from rfl, pk_rem (by omega) (by decide) (by decide), pk_div (by omega) (by decide) (by decide)]
          refine m_accordOf hμ hM hvc.1 hvc.2 ?_
          rw [iI_le (by omega) (by omega)]
          refine ⟨fun q => ?_, fun q => ?_⟩
          · rw [if_neg (by omega)] at ih; exact ih
          · rw [if_pos (by omega)] at ih; exact ih
  have outer : ∀ (k m : Nat), m ≤ μ.1 → m + k = μ.1 + 1 → l_X12_unlike_4 Q k (oI (lt2 μ t m)) (nI m) σ := by
    intro k
    induction k with
    | zero => intro m h1 h2; omega
    | succ k ih =>
      intro m h1 h2
      simp only [l_X12_unlike_4]
      rw [hM.1, nI_leI (by omega) (by omega)]
      refine ⟨fun hc => ?_, fun hc y ey => ?_⟩
      · have : m = μ.1 := by omega
        subst this
        exact hq
      · have ih := ih (m + 1) (by omega) (by omega)
        rw [lt2] at ih
        rw [ey, nI_1]
        refine ⟨μ.1 + 1 - (m + 1), ?_⟩
        have := inner (fun x1 x2 σ => l_X12_unlike_4 Q k x1 x2 σ) (lt2 μ t m) m (by omega) (lt2_v h8 m h1) ih (μ.1 + 1 - (m + 1)) (m + 1) (by omega) (by omega) (by omega)
        rw [lr_0 _ _ _ _ _ (Nat.le_refl _)] at this
        exact this
  exact ⟨μ.1 + 1, outer (μ.1 + 1) 0 (by omega) (by omega)⟩
def slkN (μ : MU) (h : HS) : Nat := mkm (fun r => decide (srt h.2.2.1.2.1 h.2.2.1.2.2 h.2.2.1.1 r = 1)) μ.1
theorem slk_eq {μ : MU} (hμ : mu_ok μ) {h : HS} (hk : hok μ h) : ((((1 : Int32) <<< ((nI μ.1) &&& 31)) - (1 : Int32)) &&& (((nI h.2.2.1.1 ||| nI h.2.2.1.2.1) ||| nI h.2.2.1.2.2) ^^^ (-1 : Int32))) = nI (slkN μ h) := by
  obtain ⟨k, k1, k2, k3⟩ := slk hμ.1 hk.2.1 hk.2.2.1 hk.2.2.2.1
  rw [k2]
  congr 1
  refine (those_eq hμ.1 k1 (fun r hr => ?_) (fun r hr => ?_)).symm
  · rw [(srt_bits hk r).2.2.2, k3, decide_eq_true hr, Bool.true_and]
  · rw [k3, decide_eq_false (by omega), Bool.false_and]
def f_most (p : Int32) (γ : GS) : Int32 × GS := (if 0 < γ.2.1.1 then (if p = 0 then nI γ.2.2.1.1.2.2.1.1 else if p = 1 then nI (slkN γ.2.1 γ.2.2.1.1) else if p = 2 then nI γ.2.2.1.1.2.2.1.2.1 else if p = 3 then nI γ.2.2.1.1.2.2.1.2.2 else if p = 4 then oI (sel (gtP γ.2.1 γ.2.2.1.1.1 γ.2.2.1.1.2.1 γ.2.2.1.1.2.2.1.1) (fun r => γ.2.2.1.1.2.2.1.1.testBit r) γ.2.1.1) else if p = 5 then oI (sel (ltP γ.2.1 γ.2.2.1.1.1 γ.2.2.1.1.2.1 γ.2.2.1.1.2.2.1.1) (fun r => γ.2.2.1.1.2.2.1.1.testBit r) γ.2.1.1) else if p = 6 then iI (stS γ.2.1 γ.2.2.1.1.2.2.1.1 γ.2.1.1) else if p = 7 then nI γ.2.2.1.1.2.2.2.2 else if p = 8 then oI (lt2 γ.2.1 γ.2.2.1.1.2.2.1.1 γ.2.1.1) else -1000000) else -1000000, γ)
theorem o_most {bd : Nat} {σ : wS} {p : Int32} (hI : In bd σ) : w_X11_most p σ (fun r1 s => w_X12_most p s (fun r' s' => r1 = r' ∧ In (bd + 40) s')) := by
  refine prI (f := f_most p) (w1 := w_X11_most p) (w2 := w_X12_most p) (fun γ σ Q hC hg hq => ?_) (fun γ σ Q hD hg hq => ?_) (fun γ hg => hg.wk (by omega)) hI
  · unfold f_most at hq
    unfold w_X11_most
    rw [s_hasM hg hC]
    refine sw' (fun h0 => ?_) (fun hf => by rw [if_neg hf] at hq; exact hq σ hC Fcm.rf)
    rw [if_pos h0] at hq
    obtain ⟨hμ, hk, hs, -⟩ := hg.hk h0
    obtain ⟨-, a2, a3, a4, a5, a6⟩ := hC.2.2.1.1
    have hq0 := hq σ hC Fcm.rf
    refine ⟨fun h => ?_, fun h => ?_, fun h => ?_, fun h => ?_, fun h => ?_, fun h => ?_, fun h => ?_, fun h => ?_, fun h => ?_, fun n0 n1 n2 n3 n4 n5 n6 n7 n8 => ?_⟩
    · subst h; rw [a2]; exact hq0
    · subst h
      unfold w_X3_slackOf
      rw [hC.2.1.2.1, a2, a3, a4, slk_eq hμ hk]; exact hq0
    · subst h; rw [a3]; exact hq0
    · subst h; rw [a4]; exact hq0
    · subst h
      refine s_solved hg h0 hC (fun τ F e1 C1 l1 l2 l3 => ?_)
      rw [C1.2.2.1.1.2.1]
      exact s_mostPulled hk.2.1 hμ.1 (fun r hr => (hk.2.2.2.2.1 r hr).1) l3 (fun r b hr hb => (sg1 hμ hk.1 _ hr hb).1) (hq τ C1 (Fcm.eq e1))
    · subst h
      refine s_solved hg h0 hC (fun τ F e1 C1 l1 l2 l3 => ?_)
      rw [C1.2.2.1.1.2.1]
      exact s_mostPulled hk.2.1 hμ.1 (fun r hr => (hk.2.2.2.2.1 r hr).1) l3 (fun r b hr hb => (sg1 hμ hk.1 _ hr hb).2) (hq τ C1 (Fcm.eq e1))
    · subst h
      rw [a2]
      exact s_stiffOf (n := 0) hμ.1 hk.2.1 hC.2.1.2 hq0
    · subst h; rw [a6]; exact hq0
    · subst h
      exact s_leastA hg h0 hC hq0
    · simp only [n0, n1, n2, n3, n4, n5, n6, n7, n8, if_false] at hq0; exact hq0
  · intro s1 e1
    have D1 : D γ s1 := by rw [e1]; exact hD.up (by decide)
    have F1 : Fdm σ s1 := by rw [e1]; exact Fdm.rf.up (by decide)
    unfold f_most at hq
    have h8 := hg.n8
    have hM1 := D1.2.1.1
    rw [hM1, n0_iff h8]
    refine ⟨fun h0 => ?_, fun h0 => by rw [if_neg h0] at hq; exact hq s1 D1 F1⟩
    have h0 : 0 < γ.2.1.1 := by omega
    rw [if_pos h0] at hq
    obtain ⟨hμ, hk, hs, -⟩ := hg.hk h0
    have hR := D1.row
    have hq0 := hq s1 D1 F1
    have th : ∀ c, c < 4 → Q (nI (mkm (fun r => decide (srt γ.2.2.1.1.2.2.1.2.1 γ.2.2.1.1.2.2.1.2.2 γ.2.2.1.1.2.2.1.1 r = c)) γ.2.1.1)) s1 → w_X12_those 188 (nI γ.2.1.1) (nI c) s1 Q := fun c hc hq => m_those rfl h8 hc (fun r hr => ⟨hR.2.2.1 r hr, srt_lt4 _ _ _ _⟩) hq
    obtain ⟨t0, t2, t3⟩ := those_t hμ hk
    refine ⟨fun h => ?_, fun h => ?_, fun h => ?_, fun h => ?_, fun h => ?_, fun h => ?_, fun h => ?_, fun h => ?_, fun h => ?_, fun n0 n1 n2 n3 n4 n5 n6 n7 n8 => ?_⟩
    · subst h; refine th 0 (by decide) ?_; rw [t0]; exact hq0
    · subst h; exact th 1 (by decide) hq0
    · subst h; refine th 2 (by decide) ?_; rw [t2]; exact hq0
    · subst h; refine th 3 (by decide) ?_; rw [t3]; exact hq0
    · subst h
      exact m_pulled (up := true) hμ hk D1.2.1 hR (fun τ G => hq τ (D1.eq G) (F1.eq G))
    · subst h
      exact m_pulled (up := false) hμ hk D1.2.1 hR (fun τ G => hq τ (D1.eq G) (F1.eq G))
    · subst h
      exact m_stiffs hμ hk D1.2.1 hR hq0
    · subst h; rw [c21.2.2.1, hR.2.2.2.2.1]; exact hq0
    · subst h
      exact m_unlike hμ hk D1.2.1 hR hq0
    · simp only [n0, n1, n2, n3, n4, n5, n6, n7, n8, if_false] at hq0; exact hq0
