/-! spotOf over a String constant: where a sign stands in it -/
def spF : List Int32 → Int32 → Nat → Int32
  | [], _, _ => -1
  | b :: l, c, k => if b = c then nI k else spF l c (k + 1)
def spot (i : Nat) (c : Int32) : Int32 := spF (stB.getD (i - 210) []) c 0
abbrev wvX12_spotOf : List Cond := Cond.code yX12_spotOf cX12_spotOf 3 (some .int) :: wsL_law
theorem cd_X12_spotOf : okN yX12_spotOf RX12 2 := by unfold okN; decide +kernel
def w_X12_spotOf (p0 : Nat) (p1 : Int32) (σ : wS) (Q : Int32 → wS → Prop) : Prop := Q (spot p0 p1) σ
theorem c_X12_spotOf (l : Launch) (g : wG) (A : Nat → Prop) (hA : adO g A) {p0 : Nat} (k_p0 : kd p0 = 26) {p1 : Int32} {σ : wS} {Q : Int32 → wS → Prop} (h : w_X12_spotOf p0 p1 σ Q) : Mi l yX12_spotOf wvX12_spotOf 5 106 g A [.ref (g.2.2 p0), .int p1] σ Q := sorry
