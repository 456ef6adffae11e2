/-! TO SETTLE, as mathematics -/
def clr (s b : Nat) : Nat := s &&& (255 ^^^ 2 ^ b)
def adb (s b : Nat) : Nat := s ||| 2 ^ b
theorem clr_ok {s b : Nat} (hs : s < 256) (hb : b < 8) : nI s &&& (((1 : Int32) <<< (nI b &&& 31)) ^^^ (-1 : Int32)) = nI (clr s b) ∧ clr s b < 256 ∧ (∀ r, r < 8 → (clr s b).testBit r = (s.testBit r && decide (r ≠ b))) := by
  have h : ∀ b, b < 8 → ∀ s, s < 256 → nI s &&& (((1 : Int32) <<< (nI b &&& 31)) ^^^ (-1 : Int32)) = nI (clr s b) ∧ clr s b < 256 ∧ (∀ r, r < 8 → (clr s b).testBit r = (s.testBit r && decide (r ≠ b))) := by decide +kernel
  exact h b hb s hs
theorem adb_ok {s b : Nat} (hs : s < 256) (hb : b < 8) : nI s ||| ((1 : Int32) <<< (nI b &&& 31)) = nI (adb s b) ∧ adb s b < 256 ∧ (∀ r, r < 8 → (adb s b).testBit r = (s.testBit r || decide (r = b))) := by
  have h : ∀ b, b < 8 → ∀ s, s < 256 → nI s ||| ((1 : Int32) <<< (nI b &&& 31)) = nI (adb s b) ∧ adb s b < 256 ∧ (∀ r, r < 8 → (adb s b).testBit r = (s.testBit r || decide (r = b))) := by decide +kernel
  exact h b hb s hs
theorem tb_big {s r : Nat} (hs : s < 256) (hr : 8 ≤ r) : s.testBit r = false := Nat.testBit_lt_two_pow (Nat.lt_of_lt_of_le hs (Nat.pow_le_pow_right (n := 2) (by decide) hr))
theorem tb_ext {s t : Nat} (hs : s < 256) (ht : t < 256) (h : ∀ r, r < 8 → s.testBit r = t.testBit r) : s = t := by
  apply Nat.eq_of_testBit_eq
  intro r
  rcases Nat.lt_or_ge r 8 with q | q
  · exact h r q
  · rw [tb_big hs q, tb_big ht q]
def ltP (μ : MU) (laid wind : Nat → Int) (set : Nat) : Nat → Nat → Bool := fun r b => decide (Pl μ laid wind set r < Pl μ laid wind set b)
def gtP (μ : MU) (laid wind : Nat → Int) (set : Nat) : Nat → Nat → Bool := fun r b => decide (Pl μ laid wind set b < Pl μ laid wind set r)
def ldP (μ : MU) (laid wind : Nat → Int) (set : Nat) : Nat → Nat → Bool := fun r b => decide (Pl μ laid wind set b * mu_t μ r < Pl μ laid wind set r * mu_t μ b)
theorem lt_wo (μ : MU) (laid wind : Nat → Int) (set : Nat) (S : Nat → Bool) (N : Nat) : wo (ltP μ laid wind set) S N := by
  refine ⟨fun a b _ _ _ _ h => ?_, fun a b c _ _ _ _ _ _ h1 h2 => ?_⟩
  · simp [ltP] at h ⊢; omega
  · simp [ltP] at h1 h2 ⊢; omega
theorem gt_wo (μ : MU) (laid wind : Nat → Int) (set : Nat) (S : Nat → Bool) (N : Nat) : wo (gtP μ laid wind set) S N := by
  refine ⟨fun a b _ _ _ _ h => ?_, fun a b c _ _ _ _ _ _ h1 h2 => ?_⟩
  · simp [gtP] at h ⊢; omega
  · simp [gtP] at h1 h2 ⊢; omega
theorem ld_tr {x y z a b c : Int} (ha : 0 < a) (hb : 0 < b) (hc : 0 < c) (h1 : x * b ≤ y * a) (h2 : y * c ≤ z * b) : x * c ≤ z * a := by
  have e1 : x * b * c ≤ y * a * c := Int.mul_le_mul_of_nonneg_right h1 (Int.le_of_lt hc)
  have e2 : y * c * a ≤ z * b * a := Int.mul_le_mul_of_nonneg_right h2 (Int.le_of_lt ha)
  have e3 : (x * c) * b ≤ (z * a) * b := by
    calc (x * c) * b = x * b * c := by grind
      _ ≤ y * a * c := e1
      _ = y * c * a := by grind
      _ ≤ z * b * a := e2
      _ = (z * a) * b := by grind
  exact Int.le_of_mul_le_mul_right e3 hb
theorem ld_wo {μ : MU} (hμ : mu_ok μ) (laid wind : Nat → Int) (set : Nat) (S : Nat → Bool) : wo (ldP μ laid wind set) S μ.1 := by
  refine ⟨fun a b _ _ _ _ h => ?_, fun a b c ha hb hc _ _ _ h1 h2 => ?_⟩
  · simp [ldP] at h ⊢; omega
  · simp only [ldP, decide_eq_false_iff_not, Int.not_lt] at h1 h2 ⊢
    exact ld_tr (by have := t_b hμ ha; omega) (by have := t_b hμ hb; omega) (by have := t_b hμ hc; omega) h1 h2
/-- the set that it goes on by; cs: cast off, bk: broken -/
def jnS (μ : MU) (laid wind : Nat → Int) (cs bk set : Nat) : Nat := match sel (gtP μ laid wind set) (fun r => !set.testBit r && !(bk.testBit r || cs.testBit r)) μ.1 with
  | none => set
  | some b => if 0 < Pl μ laid wind set b then adb set b else set
def nxS (μ : MU) (laid wind : Nat → Int) (cs bk set : Nat) : Nat := match sel (ltP μ laid wind set) (fun r => set.testBit r) μ.1 with
  | none => jnS μ laid wind cs bk set
  | some b => if Pl μ laid wind set b < 0 then clr set b else jnS μ laid wind cs bk set
def wrS (μ : MU) (laid wind : Nat → Int) (set : Nat) : Option Nat := match sel (ldP μ laid wind set) (fun r => set.testBit r) μ.1 with
  | none => none
  | some b => if mu_t μ b * Lw μ set < Pl μ laid wind set b then some b else none
/-- reason (-1: settled, 3, 4), the set, who is broken, in which order, how many shifts were solved -/
abbrev SR : Type := Int × Nat × Nat × List Nat × Nat
def stl (μ : MU) (laid wind : Nat → Int) (cs : Nat) : Nat → Nat → Nat → List Nat → (Nat → Bool) → Nat → Option SR
  | 0, _, _, _, _, _ => none
  | f + 1, set, bk, ord, vis, tr =>
    if Lw μ set = 0 then some (3, set, bk, ord, tr + 1) else
    if nxS μ laid wind cs bk set ≠ set then
      if vis (nxS μ laid wind cs bk set) then some (4, set, bk, ord, tr + 1) else stl μ laid wind cs f (nxS μ laid wind cs bk set) bk ord (fun s => vis s || decide (s = set)) (tr + 1)
    else match wrS μ laid wind set with
      | none => some (-1, set, bk, ord, tr + 1)
      | some w => stl μ laid wind cs f (clr set w) (adb bk w) (ord ++ [w]) (fun _ => false) (tr + 1)
/-! how many -/
def cnt (p : Nat → Bool) : Nat → Nat
  | 0 => 0
  | n + 1 => cnt p n + if p n then 1 else 0
theorem cnt_le (p : Nat → Bool) : ∀ n, cnt p n ≤ n := by
  intro n
  induction n with
  | zero => exact Nat.le_refl 0
  | succ n ih => rw [cnt]; split <;> omega
theorem cnt_ext {p q : Nat → Bool} : ∀ {n : Nat}, (∀ r, r < n → p r = q r) → cnt p n = cnt q n := by
  intro n
  induction n with
  | zero => intro _; rfl
  | succ n ih => intro h; rw [cnt, cnt, ih (fun r hr => h r (by omega)), h n (by omega)]
theorem cnt_one {p q : Nat → Bool} {k : Nat} : ∀ {n : Nat}, k < n → p k = true → q k = false → (∀ r, r < n → r ≠ k → q r = p r) → cnt q n + 1 = cnt p n := by
  intro n
  induction n with
  | zero => intro h; omega
  | succ n ih =>
    intro hk h1 h2 h3
    rw [cnt, cnt]
    by_cases e : k = n
    · subst e
      rw [cnt_ext (p := q) (q := p) (fun r hr => h3 r (by omega) (by omega)), h1, h2]
      simp
    · have := ih (by omega) h1 h2 (fun r hr hne => h3 r (by omega) hne)
      rw [h3 n (by omega) (Ne.symm e)]
      omega
def alive (μ : MU) (cs bk : Nat) : Nat := cnt (fun r => !(bk.testBit r || cs.testBit r)) μ.1
def unv (vis : Nat → Bool) : Nat := cnt (fun s => !vis s) 256
/-- what holds of a state while it settles -/
def sok (μ : MU) (cs bk set : Nat) (ord : List Nat) (vis : Nat → Bool) : Prop := set < 256 ∧ bk < 256 ∧ cs < 256 ∧ (∀ r, μ.1 ≤ r → set.testBit r = false) ∧ (∀ r, set.testBit r = true → bk.testBit r = false ∧ cs.testBit r = false) ∧ vis set = false ∧ ord.length + alive μ cs bk ≤ 8 ∧ ∀ r ∈ ord, r < 8
theorem nx_ok {μ : MU} (hμ : mu_ok μ) {laid wind : Nat → Int} {cs bk set : Nat} {ord : List Nat} {vis : Nat → Bool} (h : sok μ cs bk set ord vis) : nxS μ laid wind cs bk set < 256 ∧ (∀ r, μ.1 ≤ r → (nxS μ laid wind cs bk set).testBit r = false) ∧ ∀ r, (nxS μ laid wind cs bk set).testBit r = true → bk.testBit r = false ∧ cs.testBit r = false := by
  obtain ⟨h1, h2, h3, h4, h5, -⟩ := h
  have h8 := hμ.1
  have hj : jnS μ laid wind cs bk set < 256 ∧ (∀ r, μ.1 ≤ r → (jnS μ laid wind cs bk set).testBit r = false) ∧ ∀ r, (jnS μ laid wind cs bk set).testBit r = true → bk.testBit r = false ∧ cs.testBit r = false := by
    unfold jnS
    cases hs : sel (gtP μ laid wind set) (fun r => !set.testBit r && !(bk.testBit r || cs.testBit r)) μ.1 with
    | none => exact ⟨h1, h4, h5⟩
    | some b =>
      simp only
      split
      · obtain ⟨hb, hb2⟩ := sel_lt hs
        obtain ⟨-, a2, a3⟩ := adb_ok h1 (show b < 8 by omega)
        simp at hb2
        refine ⟨a2, fun r hr => ?_, fun r hr => ?_⟩
        · rcases Nat.lt_or_ge r 8 with q | q
          · rw [a3 r q, h4 r hr, decide_eq_false (by omega)]; rfl
          · exact tb_big a2 q
        · rcases Nat.lt_or_ge r 8 with q | q
          · rw [a3 r q] at hr
            by_cases e : r = b
            · subst e; exact hb2.2
            · rw [decide_eq_false e, Bool.or_false] at hr
              exact h5 r hr
          · rw [tb_big a2 q] at hr; cases hr
      · exact ⟨h1, h4, h5⟩
  unfold nxS
  cases hs : sel (ltP μ laid wind set) (fun r => set.testBit r) μ.1 with
  | none => exact hj
  | some b =>
    simp only
    split
    · obtain ⟨hb, -⟩ := sel_lt hs
      obtain ⟨-, a2, a3⟩ := clr_ok h1 (show b < 8 by omega)
      refine ⟨a2, fun r hr => ?_, fun r hr => ?_⟩
      · rcases Nat.lt_or_ge r 8 with q | q
        · rw [a3 r q, h4 r hr]; rfl
        · exact tb_big a2 q
      · rcases Nat.lt_or_ge r 8 with q | q
        · rw [a3 r q] at hr
          simp at hr
          exact h5 r hr.1
        · rw [tb_big a2 q] at hr; cases hr
    · exact hj
theorem ws_in {μ : MU} {laid wind : Nat → Int} {set w : Nat} (h : wrS μ laid wind set = some w) : w < μ.1 ∧ set.testBit w = true := by
  unfold wrS at h
  cases hs : sel (ldP μ laid wind set) (fun r => set.testBit r) μ.1 with
  | none => rw [hs] at h; cases h
  | some b =>
    rw [hs] at h
    simp only at h
    split at h
    · cases h; exact sel_lt hs
    · cases h
theorem sok_nx {μ : MU} (hμ : mu_ok μ) {laid wind : Nat → Int} {cs bk set : Nat} {ord : List Nat} {vis : Nat → Bool} (h : sok μ cs bk set ord vis) (hne : nxS μ laid wind cs bk set ≠ set) (hv : vis (nxS μ laid wind cs bk set) = false) : sok μ cs bk (nxS μ laid wind cs bk set) ord (fun s => vis s || decide (s = set)) ∧ unv (fun s => vis s || decide (s = set)) + 1 = unv vis := by
  obtain ⟨n1, n2, n3⟩ := nx_ok hμ h (laid := laid) (wind := wind)
  refine ⟨⟨n1, h.2.1, h.2.2.1, n2, n3, ?_, h.2.2.2.2.2.2⟩, ?_⟩
  · simp only [hv, Bool.false_or]
    exact decide_eq_false hne
  · unfold unv
    refine cnt_one (k := set) h.1 ?_ ?_ ?_
    · simp [h.2.2.2.2.2.1]
    · simp
    · intro r _ hr
      simp [hr]
theorem sok_ws {μ : MU} (hμ : mu_ok μ) {laid wind : Nat → Int} {cs bk set w : Nat} {ord : List Nat} {vis : Nat → Bool} (h : sok μ cs bk set ord vis) (hw : wrS μ laid wind set = some w) : sok μ cs (adb bk w) (clr set w) (ord ++ [w]) (fun _ => false) ∧ alive μ cs (adb bk w) + 1 = alive μ cs bk := by
  obtain ⟨h1, h2, h3, h4, h5, h6, h7, h9⟩ := h
  obtain ⟨w1, w2⟩ := ws_in hw
  have h8 := hμ.1
  obtain ⟨-, c2, c3⟩ := clr_ok h1 (show w < 8 by omega)
  obtain ⟨-, a2, a3⟩ := adb_ok h2 (show w < 8 by omega)
  have hal : alive μ cs (adb bk w) + 1 = alive μ cs bk := by
    unfold alive
    have h5 := h5 w w2
    refine cnt_one (k := w) w1 ?_ ?_ ?_
    · simp [h5]
    · simp [a3 w (by omega)]
    · intro r hr hne
      rw [a3 r (by omega)]
      simp [hne]
  refine ⟨⟨c2, a2, h3, fun r hr => ?_, fun r hr => ?_, rfl, ?_, ?_⟩, hal⟩
  · rcases Nat.lt_or_ge r 8 with q | q
    · rw [c3 r q, h4 r hr]; rfl
    · exact tb_big c2 q
  · rcases Nat.lt_or_ge r 8 with q | q
    · rw [c3 r q] at hr
      simp at hr
      rw [a3 r q]
      simp [hr.2]
      exact h5 r hr.1
    · rw [tb_big c2 q] at hr; cases hr
  · rw [List.length_append, List.length_singleton]
    omega
  · intro r hr
    rcases List.mem_append.mp hr with q | q
    · exact h9 r q
    · rw [List.mem_singleton.mp q]; omega
theorem ar1 {a b u v f : Nat} (h1 : a + 1 = b) (h2 : u ≤ 256) (h3 : b * 257 + v < f + 1) : a * 257 + u < f := by
  subst h1
  rw [Nat.succ_mul] at h3
  generalize a * 257 = A at h3 ⊢
  omega
/-- it ends -/
theorem stl_some {μ : MU} (hμ : mu_ok μ) {laid wind : Nat → Int} {cs : Nat} : ∀ (f set bk : Nat) (ord : List Nat) (vis : Nat → Bool) (tr : Nat), sok μ cs bk set ord vis → alive μ cs bk * 257 + unv vis < f → ∃ R, stl μ laid wind cs f set bk ord vis tr = some R := by
  intro f
  induction f with
  | zero => intro set bk ord vis tr _ h; omega
  | succ f ih =>
    intro set bk ord vis tr hs hf
    rw [stl]
    by_cases h0 : Lw μ set = 0
    · rw [if_pos h0]; exact ⟨_, rfl⟩
    · rw [if_neg h0]
      by_cases h1 : nxS μ laid wind cs bk set ≠ set
      · rw [if_pos h1]
        cases hv : vis (nxS μ laid wind cs bk set)
        · obtain ⟨s1, s2⟩ := sok_nx hμ hs h1 hv
          simp only [Bool.false_eq_true, if_false]
          exact ih _ _ _ _ _ s1 (by omega)
        · exact ⟨_, rfl⟩
      · rw [if_neg h1]
        cases hw : wrS μ laid wind set with
        | none => exact ⟨_, rfl⟩
        | some w =>
          obtain ⟨s1, s2⟩ := sok_ws hμ hs hw
          have hu : unv (fun _ => false) ≤ 256 := cnt_le _ _
          refine ih _ _ _ _ _ s1 ?_
          exact ar1 s2 hu hf
/-- how it settles: with as much fuel as it can need -/
def stf0 (μ : MU) (laid wind : Nat → Int) (cs bk set : Nat) : SR := (stl μ laid wind cs 2400 set bk [] (fun _ => false) 0).getD (4, 0, 0, [], 0)
