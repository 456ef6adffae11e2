/-! THE MATHEMATICS: moorings, forces, shifts and pulls in whole numbers -/
/-- a symmetric matrix of three rows as its six numbers; its determinant; what its adjugate makes of a vector -/
def dt (a b c d e f : Int) : Int := a * (b * c - f * f) - d * (d * c - f * e) + e * (d * f - b * e)
def qf (a b c d e f x y z : Int) : Int := a * x * x + b * y * y + c * z * z + 2 * (d * x * y + e * x * z + f * y * z)
def qa (a b c d e f x y z : Int) : Int := qf (b * c - f * f) (a * c - e * e) (a * b - d * d) (e * f - d * c) (d * f - b * e) (d * e - a * f) x y z
def psd (a b c d e f : Int) : Prop := (∀ x y z, 0 ≤ qf a b c d e f x y z) ∧ (∀ x y z, 0 ≤ qa a b c d e f x y z) ∧ 0 ≤ dt a b c d e f
theorem sq_nn (x : Int) : 0 ≤ x * x := by
  rcases Int.le_total 0 x with h | h
  · exact Int.mul_nonneg h h
  · have := Int.mul_nonneg (Int.neg_nonneg_of_nonpos h) (Int.neg_nonneg_of_nonpos h)
    rwa [Int.neg_mul_neg] at this
theorem psd_add {a b c d e f k u v w : Int} (hk : 0 ≤ k) (h : psd a b c d e f) : psd (a + k * u * u) (b + k * v * v) (c + k * w * w) (d + k * u * v) (e + k * u * w) (f + k * v * w) := by
  refine ⟨fun x y z => ?_, fun x y z => ?_, ?_⟩
  · have e1 : qf (a + k * u * u) (b + k * v * v) (c + k * w * w) (d + k * u * v) (e + k * u * w) (f + k * v * w) x y z = qf a b c d e f x y z + k * ((u * x + v * y + w * z) * (u * x + v * y + w * z)) := by
      unfold qf; grind
    rw [e1]
    exact Int.add_nonneg (h.1 x y z) (Int.mul_nonneg hk (sq_nn _))
  · have e1 : qa (a + k * u * u) (b + k * v * v) (c + k * w * w) (d + k * u * v) (e + k * u * w) (f + k * v * w) x y z = qa a b c d e f x y z + k * qf a b c d e f (v * z - w * y) (w * x - u * z) (u * y - v * x) := by
      unfold qa qf; grind
    rw [e1]
    exact Int.add_nonneg (h.2.1 x y z) (Int.mul_nonneg hk (h.1 _ _ _))
  · have e1 : dt (a + k * u * u) (b + k * v * v) (c + k * w * w) (d + k * u * v) (e + k * u * w) (f + k * v * w) = dt a b c d e f + k * qa a b c d e f u v w := by
      unfold qa qf dt; grind
    rw [e1]
    exact Int.add_nonneg h.2.2 (Int.mul_nonneg hk (h.2.1 _ _ _))
theorem psd_diag {a b c : Int} (ha : 0 ≤ a) (hb : 0 ≤ b) (hc : 0 ≤ c) : psd a b c 0 0 0 := by
  have t : ∀ a x : Int, 0 ≤ a → 0 ≤ a * x * x := fun a x h => by rw [Int.mul_assoc]; exact Int.mul_nonneg h (sq_nn x)
  refine ⟨fun x y z => ?_, fun x y z => ?_, ?_⟩
  · have e1 : qf a b c 0 0 0 x y z = a * x * x + b * y * y + c * z * z := by unfold qf; grind
    rw [e1]
    exact Int.add_nonneg (Int.add_nonneg (t a x ha) (t b y hb)) (t c z hc)
  · have e1 : qa a b c 0 0 0 x y z = (b * c) * x * x + (a * c) * y * y + (a * b) * z * z := by unfold qa qf; grind
    rw [e1]
    exact Int.add_nonneg (Int.add_nonneg (t _ x (Int.mul_nonneg hb hc)) (t _ y (Int.mul_nonneg ha hc))) (t _ z (Int.mul_nonneg ha hb))
  · have e1 : dt a b c 0 0 0 = a * (b * c) := by unfold dt; grind
    rw [e1]
    exact Int.mul_nonneg ha (Int.mul_nonneg hb hc)
/-- a mooring: how many ropes, the items of each (k x y a b p t), the rules (f u v w) -/
abbrev MU : Type := Nat × (Nat → Nat → Int) × (Nat → Int)
def mu_k (μ : MU) (r : Nat) : Int := μ.2.1 r 0
def mu_w (μ : MU) (r a : Nat) : Int := if a = 0 then μ.2.1 r 3 else if a = 1 then μ.2.1 r 4 else μ.2.1 r 1 * μ.2.1 r 4 - μ.2.1 r 2 * μ.2.1 r 3
def mu_t (μ : MU) (r : Nat) : Int := μ.2.1 r 6
def mu_f (μ : MU) (a : Nat) : Bool := (μ.2.2 0).toNat.testBit a
/-- its numbers are as a text can tell them -/
def mu_ok (μ : MU) : Prop := μ.1 ≤ 8 ∧ (∀ r, r < μ.1 → 1 ≤ μ.2.1 r 0 ∧ μ.2.1 r 0 ≤ 9 ∧ (∀ k, 1 ≤ k → k ≤ 4 → -4 ≤ μ.2.1 r k ∧ μ.2.1 r k ≤ 4) ∧ -50 ≤ μ.2.1 r 5 ∧ μ.2.1 r 5 ≤ 50 ∧ 1 ≤ μ.2.1 r 6 ∧ μ.2.1 r 6 ≤ 999) ∧ 1 ≤ μ.2.2 0 ∧ μ.2.2 0 ≤ 7 ∧ -99 ≤ μ.2.2 1 ∧ μ.2.2 1 ≤ 99 ∧ -99 ≤ μ.2.2 2 ∧ μ.2.2 2 ≤ 99 ∧ -999 ≤ μ.2.2 3 ∧ μ.2.2 3 ≤ 999
def sm : Nat → (Nat → Int) → Int
  | 0, _ => 0
  | n + 1, f => sm n f + f n
def mu_wm (μ : MU) (r a : Nat) : Int := if mu_f μ a then mu_w μ r a else 0
def dg (μ : MU) (a b : Nat) : Int := if a = b ∧ mu_f μ a = false then 1 else 0
def mat (μ : MU) (set m : Nat) (a b : Nat) : Int := dg μ a b + sm m (fun r => if set.testBit r then mu_k μ r * mu_wm μ r a * mu_wm μ r b else 0)
def frc (μ : MU) (laid wind : Nat → Int) (set m : Nat) (a : Nat) : Int := (if mu_f μ a then wind a else 0) + sm m (fun r => if set.testBit r then laid r * mu_wm μ r a else 0)
def cof (M : Nat → Nat → Int) (i j : Nat) : Int := M ((i + 1) % 3) ((j + 1) % 3) * M ((i + 2) % 3) ((j + 2) % 3) - M ((i + 1) % 3) ((j + 2) % 3) * M ((i + 2) % 3) ((j + 1) % 3)
def Lw (μ : MU) (set : Nat) : Int := mat μ set μ.1 0 0 * cof (mat μ set μ.1) 0 0 + mat μ set μ.1 0 1 * cof (mat μ set μ.1) 0 1 + mat μ set μ.1 0 2 * cof (mat μ set μ.1) 0 2
def Sh (μ : MU) (laid wind : Nat → Int) (set : Nat) (i : Nat) : Int := cof (mat μ set μ.1) i 0 * frc μ laid wind set μ.1 0 + cof (mat μ set μ.1) i 1 * frc μ laid wind set μ.1 1 + cof (mat μ set μ.1) i 2 * frc μ laid wind set μ.1 2
def Pl (μ : MU) (laid wind : Nat → Int) (set : Nat) (r : Nat) : Int := laid r * Lw μ set - mu_k μ r * (mu_w μ r 0 * Sh μ laid wind set 0 + mu_w μ r 1 * Sh μ laid wind set 1 + mu_w μ r 2 * Sh μ laid wind set 2)
theorem mat_sym (μ : MU) (set m a b : Nat) : mat μ set m a b = mat μ set m b a := by
  unfold mat
  have h1 : dg μ a b = dg μ b a := by
    unfold dg
    by_cases h : a = b
    · subst h; rfl
    · simp [h, Ne.symm h]
  rw [h1]
  congr 2
  funext r
  split
  · grind
  · rfl
theorem mat_psd (μ : MU) (hμ : mu_ok μ) (set : Nat) : ∀ m, m ≤ μ.1 → psd (mat μ set m 0 0) (mat μ set m 1 1) (mat μ set m 2 2) (mat μ set m 0 1) (mat μ set m 0 2) (mat μ set m 1 2) := by
  intro m
  induction m with
  | zero =>
    intro _
    have d0 : ∀ a, 0 ≤ dg μ a a := fun a => by unfold dg; split <;> decide
    have e : ∀ a b, mat μ set 0 a b = dg μ a b := fun a b => by simp [mat, sm]
    simp only [e]
    have z1 : dg μ 0 1 = 0 := by simp [dg]
    have z2 : dg μ 0 2 = 0 := by simp [dg]
    have z3 : dg μ 1 2 = 0 := by simp [dg]
    rw [z1, z2, z3]
    exact psd_diag (d0 0) (d0 1) (d0 2)
  | succ m ih =>
    intro hm
    have h := ih (by omega)
    by_cases hs : set.testBit m = true
    · have e : ∀ a b, mat μ set (m + 1) a b = mat μ set m a b + mu_k μ m * mu_wm μ m a * mu_wm μ m b := fun a b => by
        unfold mat
        rw [sm, if_pos hs]
        omega
      simp only [e]
      exact psd_add (by have := (hμ.2.1 m (by omega)).1; unfold mu_k; omega) h
    · have e : ∀ a b, mat μ set (m + 1) a b = mat μ set m a b := fun a b => by
        unfold mat
        rw [sm, if_neg hs]
        omega
      simp only [e]
      exact h
theorem Lw_nn {μ : MU} (hμ : mu_ok μ) (set : Nat) : 0 ≤ Lw μ set := by
  have h := (mat_psd μ hμ set μ.1 (Nat.le_refl _)).2.2
  have e : Lw μ set = dt (mat μ set μ.1 0 0) (mat μ set μ.1 1 1) (mat μ set μ.1 2 2) (mat μ set μ.1 0 1) (mat μ set μ.1 0 2) (mat μ set μ.1 1 2) := by
    unfold Lw cof dt
    simp only [Nat.reduceAdd, Nat.reduceMod]
    rw [mat_sym μ set μ.1 1 0, mat_sym μ set μ.1 2 0, mat_sym μ set μ.1 2 1]
    grind
  rw [e]
  exact h
/-! bounds -/
theorem ab_mul {x y : Int} {a b : Nat} (hx : x.natAbs ≤ a) (hy : y.natAbs ≤ b) : (x * y).natAbs ≤ a * b := by
  rw [Int.natAbs_mul]; exact Nat.mul_le_mul hx hy
theorem sm_ab {f : Nat → Int} {B : Nat} : ∀ {n : Nat}, (∀ r, r < n → (f r).natAbs ≤ B) → (sm n f).natAbs ≤ n * B := by
  intro n
  induction n with
  | zero => intro _; simp [sm]
  | succ n ih =>
    intro h
    have h1 := ih (fun r hr => h r (by omega))
    have h2 := h n (by omega)
    rw [sm, Nat.succ_mul]
    omega
def sc (a : Nat) : Nat := if a = 2 then 8 else 1
theorem wm_ab {μ : MU} (hμ : mu_ok μ) {r : Nat} (hr : r < μ.1) (a : Nat) (ha : a < 3) : (mu_w μ r a).natAbs ≤ 4 * sc a ∧ (mu_wm μ r a).natAbs ≤ 4 * sc a := by
  obtain ⟨-, -, h, -⟩ := hμ.2.1 r hr
  have h1 := h 1 (by decide) (by decide)
  have h2 := h 2 (by decide) (by decide)
  have h3 := h 3 (by decide) (by decide)
  have h4 := h 4 (by decide) (by decide)
  have m1 := ab_mul (x := μ.2.1 r 1) (y := μ.2.1 r 4) (a := 4) (b := 4) (by omega) (by omega)
  have m2 := ab_mul (x := μ.2.1 r 2) (y := μ.2.1 r 3) (a := 4) (b := 4) (by omega) (by omega)
  have w : (mu_w μ r a).natAbs ≤ 4 * sc a := by
    unfold mu_w sc
    rcases (show a = 0 ∨ a = 1 ∨ a = 2 by omega) with rfl | rfl | rfl
    · simp; omega
    · simp; omega
    · simp; omega
  refine ⟨w, ?_⟩
  unfold mu_wm
  split
  · exact w
  · simp
theorem mat_ab {μ : MU} (hμ : mu_ok μ) (set : Nat) {a b : Nat} (ha : a < 3) (hb : b < 3) : (mat μ set μ.1 a b).natAbs ≤ 1153 * (sc a * sc b) := by
  have h : (sm μ.1 (fun r => if set.testBit r then mu_k μ r * mu_wm μ r a * mu_wm μ r b else 0)).natAbs ≤ μ.1 * (144 * (sc a * sc b)) := by
    refine sm_ab (fun r hr => ?_)
    split
    · have hk : (mu_k μ r).natAbs ≤ 9 := by have := hμ.2.1 r hr; unfold mu_k; omega
      have := ab_mul (ab_mul hk (wm_ab hμ hr a ha).2) (wm_ab hμ hr b hb).2
      refine Nat.le_trans this ?_
      have : 9 * (4 * sc a) * (4 * sc b) = 144 * (sc a * sc b) := by grind
      omega
    · simp
  have h8 : μ.1 * (144 * (sc a * sc b)) ≤ 8 * (144 * (sc a * sc b)) := Nat.mul_le_mul_right _ hμ.1
  have hd : (dg μ a b).natAbs ≤ 1 := by unfold dg; split <;> decide
  have h1 : 1 ≤ sc a * sc b := by
    unfold sc
    split <;> split <;> decide
  unfold mat
  omega
theorem frc_ab {μ : MU} (hμ : mu_ok μ) {laid wind : Nat → Int} (set : Nat) (hl : ∀ r, r < μ.1 → (laid r).natAbs ≤ 999) (hw : (wind 0).natAbs ≤ 999 ∧ (wind 1).natAbs ≤ 999 ∧ (wind 2).natAbs ≤ 9999) {a : Nat} (ha : a < 3) : (frc μ laid wind set μ.1 a).natAbs ≤ 33250 * sc a := by
  have h : (sm μ.1 (fun r => if set.testBit r then laid r * mu_wm μ r a else 0)).natAbs ≤ μ.1 * (3996 * sc a) := by
    refine sm_ab (fun r hr => ?_)
    split
    · have := ab_mul (hl r hr) (wm_ab hμ hr a ha).2
      omega
    · simp
  have h8 : μ.1 * (3996 * sc a) ≤ 8 * (3996 * sc a) := Nat.mul_le_mul_right _ hμ.1
  have hwa : (if mu_f μ a = true then wind a else 0).natAbs ≤ 1250 * sc a := by
    unfold sc
    rcases (show a = 0 ∨ a = 1 ∨ a = 2 by omega) with rfl | rfl | rfl <;> split <;> simp <;> omega
  unfold frc
  omega
theorem cof_ab {μ : MU} (hμ : mu_ok μ) (set : Nat) {i j : Nat} (hi : i < 3) (hj : j < 3) : (cof (mat μ set μ.1) i j).natAbs * (sc i * sc j) ≤ 2658818 * 64 := by
  have m := fun a b (ha : a < 3) (hb : b < 3) => mat_ab hμ set ha hb
  have key : ∀ i, i < 3 → ∀ j, j < 3 → (1153 * (sc ((i + 1) % 3) * sc ((j + 1) % 3)) * (1153 * (sc ((i + 2) % 3) * sc ((j + 2) % 3))) + 1153 * (sc ((i + 1) % 3) * sc ((j + 2) % 3)) * (1153 * (sc ((i + 2) % 3) * sc ((j + 1) % 3)))) * (sc i * sc j) ≤ 2658818 * 64 := by decide +kernel
  refine Nat.le_trans (Nat.mul_le_mul_right _ ?_) (key i hi j hj)
  unfold cof
  have h1 := ab_mul (m ((i + 1) % 3) ((j + 1) % 3) (Nat.mod_lt _ (by decide)) (Nat.mod_lt _ (by decide))) (m ((i + 2) % 3) ((j + 2) % 3) (Nat.mod_lt _ (by decide)) (Nat.mod_lt _ (by decide)))
  have h2 := ab_mul (m ((i + 1) % 3) ((j + 2) % 3) (Nat.mod_lt _ (by decide)) (Nat.mod_lt _ (by decide))) (m ((i + 2) % 3) ((j + 1) % 3) (Nat.mod_lt _ (by decide)) (Nat.mod_lt _ (by decide)))
  omega
def PB : Nat := 2500000000000000
theorem Lw_ab {μ : MU} (hμ : mu_ok μ) (set : Nat) : (Lw μ set).natAbs ≤ 590000000000 := by
  have t : ∀ j, j < 3 → (mat μ set μ.1 0 j * cof (mat μ set μ.1) 0 j).natAbs ≤ 1153 * (2658818 * 64) := by
    intro j hj
    have h1 := mat_ab hμ set (show 0 < 3 by decide) hj
    have h2 := cof_ab hμ set (show 0 < 3 by decide) hj
    rw [Int.natAbs_mul]
    have e0 : sc 0 = 1 := rfl
    rw [e0, Nat.one_mul] at h1 h2
    calc (mat μ set μ.1 0 j).natAbs * (cof (mat μ set μ.1) 0 j).natAbs ≤ (1153 * sc j) * (cof (mat μ set μ.1) 0 j).natAbs := Nat.mul_le_mul_right _ h1
      _ = 1153 * ((cof (mat μ set μ.1) 0 j).natAbs * sc j) := by grind
      _ ≤ 1153 * (2658818 * 64) := Nat.mul_le_mul_left _ h2
  have := t 0 (by decide)
  have := t 1 (by decide)
  have := t 2 (by decide)
  unfold Lw
  omega
theorem Sh_ab {μ : MU} (hμ : mu_ok μ) {laid wind : Nat → Int} (set : Nat) (hl : ∀ r, r < μ.1 → (laid r).natAbs ≤ 999) (hw : (wind 0).natAbs ≤ 999 ∧ (wind 1).natAbs ≤ 999 ∧ (wind 2).natAbs ≤ 9999) {i : Nat} (hi : i < 3) : (Sh μ laid wind set i).natAbs * sc i ≤ 17000000000000 := by
  have t : ∀ j, j < 3 → (cof (mat μ set μ.1) i j * frc μ laid wind set μ.1 j).natAbs * sc i ≤ 33250 * (2658818 * 64) := by
    intro j hj
    have h1 := frc_ab hμ set hl hw hj
    have h2 := cof_ab hμ set hi hj
    rw [Int.natAbs_mul]
    calc (cof (mat μ set μ.1) i j).natAbs * (frc μ laid wind set μ.1 j).natAbs * sc i ≤ (cof (mat μ set μ.1) i j).natAbs * (33250 * sc j) * sc i := Nat.mul_le_mul_right _ (Nat.mul_le_mul_left _ h1)
      _ = 33250 * ((cof (mat μ set μ.1) i j).natAbs * (sc i * sc j)) := by grind
      _ ≤ 33250 * (2658818 * 64) := Nat.mul_le_mul_left _ h2
  have t0 := t 0 (by decide)
  have t1 := t 1 (by decide)
  have t2 := t 2 (by decide)
  unfold Sh
  refine Nat.le_trans (Nat.mul_le_mul_right (sc i) (Nat.le_trans (Int.natAbs_add_le _ _) (Nat.add_le_add_right (Int.natAbs_add_le _ _) _))) ?_
  rw [Nat.add_mul, Nat.add_mul]
  omega
theorem Pl_ab {μ : MU} (hμ : mu_ok μ) {laid wind : Nat → Int} (set : Nat) (hl : ∀ r, r < μ.1 → (laid r).natAbs ≤ 999) (hw : (wind 0).natAbs ≤ 999 ∧ (wind 1).natAbs ≤ 999 ∧ (wind 2).natAbs ≤ 9999) {r : Nat} (hr : r < μ.1) : (Pl μ laid wind set r).natAbs ≤ PB := by
  have h1 := ab_mul (hl r hr) (Lw_ab hμ set)
  have t : ∀ a, a < 3 → (mu_w μ r a * Sh μ laid wind set a).natAbs ≤ 4 * 17000000000000 := by
    intro a ha
    have h1 := (wm_ab hμ hr a ha).1
    have h2 := Sh_ab hμ set hl hw ha
    rw [Int.natAbs_mul]
    calc (mu_w μ r a).natAbs * (Sh μ laid wind set a).natAbs ≤ (4 * sc a) * (Sh μ laid wind set a).natAbs := Nat.mul_le_mul_right _ h1
      _ = 4 * ((Sh μ laid wind set a).natAbs * sc a) := by grind
      _ ≤ 4 * 17000000000000 := Nat.mul_le_mul_left _ h2
  have t0 := t 0 (by decide)
  have t1 := t 1 (by decide)
  have t2 := t 2 (by decide)
  have hk : (mu_k μ r).natAbs ≤ 9 := by have := hμ.2.1 r hr; unfold mu_k; omega
  have h3 := ab_mul (y := mu_w μ r 0 * Sh μ laid wind set 0 + mu_w μ r 1 * Sh μ laid wind set 1 + mu_w μ r 2 * Sh μ laid wind set 2) (b := 3 * (4 * 17000000000000)) hk (by omega)
  unfold Pl PB
  omega
/-! numbers of the machine -/
def iI (z : Int) : Int32 := Int32.ofInt z
def iJ (z : Int) : Int64 := Int64.ofInt z
theorem iI_add (a b : Int) : iI a + iI b = iI (a + b) := (Int32.ofInt_add a b).symm
theorem iI_mul (a b : Int) : iI a * iI b = iI (a * b) := (Int32.ofInt_mul a b).symm
theorem iI_sub (a b : Int) : iI a - iI b = iI (a - b) := (Int32.ofInt_sub a b).symm
theorem iI_neg (a : Int) : -iI a = iI (-a) := (Int32.ofInt_neg a).symm
theorem iJ_add (a b : Int) : iJ a + iJ b = iJ (a + b) := (Int64.ofInt_add a b).symm
theorem iJ_mul (a b : Int) : iJ a * iJ b = iJ (a * b) := (Int64.ofInt_mul a b).symm
theorem iJ_sub (a b : Int) : iJ a - iJ b = iJ (a - b) := (Int64.ofInt_sub a b).symm
theorem iJ_neg (a : Int) : -iJ a = iJ (-a) := (Int64.ofInt_neg a).symm
theorem iI_T {z : Int} (h : z.natAbs < 2 ^ 31) : (iI z).toInt = z := Int32.toInt_ofInt_of_le (by omega) (by omega)
theorem iJ_T {z : Int} (h : z.natAbs < 2 ^ 63) : (iJ z).toInt = z := Int64.toInt_ofInt_of_le (by omega) (by omega)
theorem iI_J {z : Int} (h : z.natAbs < 2 ^ 31) : (iI z).toInt64 = iJ z := by
  apply Int64.toInt_inj.mp
  rw [Int32.toInt_toInt64, iI_T h, iJ_T (by omega)]
theorem iI_n (n : Nat) : nI n = iI n := by
  unfold nI iI
  rfl
theorem iI_le {a b : Int} (ha : a.natAbs < 2 ^ 31) (hb : b.natAbs < 2 ^ 31) : iI a ≤ iI b ↔ a ≤ b := by rw [Int32.le_iff_toInt_le, iI_T ha, iI_T hb]
theorem iI_lt {a b : Int} (ha : a.natAbs < 2 ^ 31) (hb : b.natAbs < 2 ^ 31) : iI a < iI b ↔ a < b := by rw [Int32.lt_iff_toInt_lt, iI_T ha, iI_T hb]
theorem iI_eq {a b : Int} (ha : a.natAbs < 2 ^ 31) (hb : b.natAbs < 2 ^ 31) : iI a = iI b ↔ a = b := by rw [← Int32.toInt_inj, iI_T ha, iI_T hb]
theorem iJ_le {a b : Int} (ha : a.natAbs < 2 ^ 63) (hb : b.natAbs < 2 ^ 63) : iJ a ≤ iJ b ↔ a ≤ b := by rw [Int64.le_iff_toInt_le, iJ_T ha, iJ_T hb]
theorem iJ_lt {a b : Int} (ha : a.natAbs < 2 ^ 63) (hb : b.natAbs < 2 ^ 63) : iJ a < iJ b ↔ a < b := by rw [Int64.lt_iff_toInt_lt, iJ_T ha, iJ_T hb]
theorem iJ_eq {a b : Int} (ha : a.natAbs < 2 ^ 63) (hb : b.natAbs < 2 ^ 63) : iJ a = iJ b ↔ a = b := by rw [← Int64.toInt_inj, iJ_T ha, iJ_T hb]
theorem cmp_le (x y : Int64) : lg_cmp x y ≤ 0 ↔ x ≤ y := by
  unfold lg_cmp
  by_cases h1 : y < x
  · simp only [h1, if_true]
    have : ¬ x ≤ y := Int64.not_le.mpr h1
    simp [this]
    try decide
  · have : x ≤ y := Int64.not_lt.mp h1
    simp only [h1, if_false, this, iff_true]
    split <;> decide
