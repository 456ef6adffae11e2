theorem RowM.sh {μ : MU} {h : HS} {lg : List LE} {f g : Nat → Int32} (h8 : μ.1 ≤ 8) (hR : RowM μ h lg f) (hg : ∀ k, k < 202 → g k = f k) : RowM μ h lg g := hR.mv h8 hg
/-- the model keeps what is done -/
theorem m_commit {γ : GS} {bd : Nat} {w : GH} {σ : wS} {Q : wS → Prop} (hg : gok γ bd) (hD : D γ σ) (hw : RowM γ.2.1 w.1 w.2.1 (σ.1 189)) (hq : ∀ τ : wS, D (cmt γ w) τ → Fdm σ τ → (∀ k, k ≠ 23 → k ≠ 24 → τ.1 176 k = σ.1 176 k) → (∀ i, i ≠ 176 → i ≠ 188 → i ≠ 191 → τ.1 i = σ.1 i) → τ.2 = σ.2 → Q τ) : w_X12_remember σ (fun s => w_X12_copyRow 189 188 (0 : Int32) (0 : Int32) s Q) := by
  have h8 := hg.n8
  have hP40 := hg.2.1
  obtain ⟨a1, a2, a3, ⟨fi, p1, p2, p3, p4⟩, a5, a6, a7⟩ := hD
  have e40 : (nI γ.2.2.2.1.length = 40) ↔ γ.2.2.2.1.length = 40 := nI_eq (b := 40) (by omega) (by decide)
  have fin : ∀ (f' : Nat) (s1 : wS), f' < 40 → s1.1 176 23 = nI f' → s1.1 176 24 = nI (min (γ.2.2.2.1.length + 1) 40) → (∀ k, k ≠ 23 → k ≠ 24 → s1.1 176 k = σ.1 176 k) → (∀ i, i ≠ 176 → s1.1 i = σ.1 i) → s1.2 = σ.2 → (∀ i, i + 1 < 40 → i < γ.2.2.2.1.length → (f' + min (γ.2.2.2.1.length + 1) 40 - 1 - (i + 1)) % 40 = (fi + γ.2.2.2.1.length - 1 - i) % 40) → b_X12_remember_35 (fun s => w_X12_copyRow 189 188 (0 : Int32) (0 : Int32) s Q) s1 := by
    intro f' s1 hf h23 h24 k1 r1 g1 hix
    unfold b_X12_remember_35
    rw [h23, h24, nI_add, show (1 : Int32) = nI 1 from rfl, pk_sub (by omega), show (40 : Int32) = nI 40 from rfl, pk_rem (by omega) (by decide) (by decide), show (202 : Int32) = nI 202 from rfl, pk_mul]
    generalize hsl : (f' + min (γ.2.2.2.1.length + 1) 40 - 1) % 40 = sl
    have hsl40 : sl < 40 := by rw [← hsl]; exact Nat.mod_lt _ (by decide)
    have l188 : ln 188 = 202 := rfl
    have l189 : ln 189 = 202 := rfl
    have l191 : ln 191 = 8080 := rfl
    refine m_copy (p := 188) (q := 191) (f := 0) (t := 202 * sl) (by decide) (by omega) (by omega) (by omega) (by omega) (fun s2 F2 g2 c2 d2 => ?_)
    refine m_copy0 (by decide) l189 l188 (fun s3 F3 g3 c3 => ?_)
    have x176 : s3.1 176 = s1.1 176 := by rw [(F3 176 (by decide)).1, (F2 176 (by decide)).1]
    have x191 : s3.1 191 = s2.1 191 := (F3 191 (by decide)).1
    have xx : ∀ i, i ≠ 176 → i ≠ 188 → i ≠ 191 → s3.1 i = σ.1 i := fun i h1 h2 h3 => by rw [(F3 i (by simpa using h2)).1, (F2 i (by simpa using h3)).1, r1 i h1]
    refine hq s3 ⟨?_, a2.mv (by rw [x176, k1 14 (by decide) (by decide)]) (xx 181 (by decide) (by decide) (by decide)) (xx 179 (by decide) (by decide) (by decide)) (xx 182 (by decide) (by decide) (by decide)), ?_, ?_, a5.mv (by rw [x176, k1 25 (by decide) (by decide)]) (xx 190 (by decide) (by decide) (by decide)), ?_, ?_⟩ (fun i hi => xx i (by omega) (by omega) (by omega)) (fun k h1 h2 => by rw [x176]; exact k1 k h1 h2) xx (by rw [g3, g2, g1])
    · unfold dT at a1 ⊢
      rw [x176, k1 2 (by decide) (by decide), xx 177 (by decide) (by decide) (by decide)]; exact a1
    · refine hw.mv h8 (fun k hk => ?_)
      rw [c3 k hk, (F2 189 (by decide)).1, r1 189 (by decide)]
    · refine ⟨f', hf, by rw [x176]; exact h23, ?_, fun i g hi => ?_⟩
      · rw [x176, h24]
        show _ = nI ((γ.2.2.1 :: γ.2.2.2.1).take 40).length
        rw [List.length_take, List.length_cons, Nat.min_comm]
      · have hi : ((γ.2.2.1 :: γ.2.2.2.1).take 40)[i]? = some g := hi
        have hlt : i < 40 := by
          have := (List.getElem?_eq_some_iff.mp hi).1
          rw [List.length_take] at this
          omega
        rw [List.getElem?_take_of_lt hlt] at hi
        have hlen : ((γ.2.2.1 :: γ.2.2.2.1).take 40).length = min (γ.2.2.2.1.length + 1) 40 := by rw [List.length_take, List.length_cons, Nat.min_comm]
        show RowM γ.2.1 g.1 g.2.1 (fun k => s3.1 191 (202 * ((f' + ((γ.2.2.1 :: γ.2.2.2.1).take 40).length - 1 - i) % 40) + k))
        rw [hlen]
        cases i with
        | zero =>
          simp at hi
          subst hi
          rw [Nat.sub_zero, hsl]
          refine a3.mv h8 (fun k hk => ?_)
          show s3.1 191 (202 * sl + k) = _
          rw [x191, c2 k hk, Nat.zero_add, r1 188 (by decide)]
        | succ i =>
          rw [List.getElem?_cons_succ] at hi
          have hil : i < γ.2.2.2.1.length := (List.getElem?_eq_some_iff.mp hi).1
          have hi2 := hix i hlt hil
          refine (p4 i g hi).mv h8 (fun k hk => ?_)
          show s3.1 191 (202 * ((f' + min (γ.2.2.2.1.length + 1) 40 - 1 - (i + 1)) % 40) + k) = σ.1 191 (202 * ((fi + γ.2.2.2.1.length - 1 - i) % 40) + k)
          rw [← hi2, x191]
          have hne : (f' + min (γ.2.2.2.1.length + 1) 40 - 1 - (i + 1)) % 40 ≠ sl := by rw [← hsl]; omega
          have hlt2 := Nat.mod_lt (f' + min (γ.2.2.2.1.length + 1) 40 - 1 - (i + 1)) (show 0 < 40 by decide)
          generalize (f' + min (γ.2.2.2.1.length + 1) 40 - 1 - (i + 1)) % 40 = u at hne hlt2
          rw [d2 (202 * u + k) (by omega), r1 191 (by decide)]
    · unfold dS at a6 ⊢
      rw [x176, k1 15 (by decide) (by decide), xx 184 (by decide) (by decide) (by decide), xx 183 (by decide) (by decide) (by decide)]; exact a6
    · unfold dR at a7 ⊢
      rw [x176, k1 34 (by decide) (by decide), xx 197 (by decide) (by decide) (by decide), xx 185 (by decide) (by decide) (by decide)]; exact a7
  unfold w_X12_remember
  rw [p3, e40]
  refine ⟨fun hne s1 e1 => ?_, fun heq s1 e1 => ?_⟩
  · rw [nI_1] at e1
    refine fin fi s1 p1 (by rw [e1, upI_1]; simp; exact p2) (by rw [e1, upI_1]; simp; congr 1; omega) (fun k _ h2 => by rw [e1, upI_1, if_neg (by omega)]) (fun i hi => by rw [e1]; exact (setI_ne hi).1) (by rw [e1]; rfl) (fun i h1 h2 => by omega)
  · rw [p2, nI_1, show (40 : Int32) = nI 40 from rfl, pk_rem (by omega) (by decide) (by decide)] at e1
    refine fin ((fi + 1) % 40) s1 (Nat.mod_lt _ (by decide)) (by rw [e1, upI_1]; simp) (by rw [e1, upI_1]; simp; rw [p3]; congr 1; omega) (fun k h1 _ => by rw [e1, upI_1, if_neg (by omega)]) (fun i hi => by rw [e1]; exact (setI_ne hi).1) (by rw [e1]; rfl) (fun i h1 h2 => by omega)
/-- what an attempt can come to -/
theorem att_ok {μ : MU} (hμ : mu_ok μ) {h : HS} (hk : hok μ h) (sort : Nat) (a b c : Int) : (((att μ h sort a b c).1 = 0 ∨ (att μ h sort a b c).1 = 1 ∨ (att μ h sort a b c).1 = 2) ∧ (att μ h sort a b c).2.2 = [] ∨ ((att μ h sort a b c).1 = -1 ∨ (att μ h sort a b c).1 = 3 ∨ (att μ h sort a b c).1 = 4)) ∧ (∀ r ∈ (att μ h sort a b c).2.2, r < 8) ∧ (att μ h sort a b c).2.2.length ≤ 8 ∧ ((att μ h sort a b c).1 = -1 → hok μ (att μ h sort a b c).2.1 ∧ sett μ (att μ h sort a b c).2.1 ∧ (sort = 0 ∨ (0 ≤ a ∧ a < (μ.1 : Int)))) := by
  have h8 := hμ.1
  generalize hP : (fun (res : AR) => (((res.1 = 0 ∨ res.1 = 1 ∨ res.1 = 2) ∧ res.2.2 = [] ∨ (res.1 = -1 ∨ res.1 = 3 ∨ res.1 = 4)) ∧ (∀ r ∈ res.2.2, r < 8) ∧ res.2.2.length ≤ 8 ∧ (res.1 = -1 → hok μ res.2.1 ∧ sett μ res.2.1 ∧ (sort = 0 ∨ (0 ≤ a ∧ a < (μ.1 : Int)))))) = P
  suffices hh : P (att μ h sort a b c) by
    rw [← hP] at hh; exact hh
  have ref : ∀ z : Int, (z = 0 ∨ z = 1 ∨ z = 2) → P (z, h, []) := by
    intro z hz
    rw [← hP]
    refine ⟨Or.inl ⟨hz, rfl⟩, fun r hr => absurd hr List.not_mem_nil, by simp, fun q => ?_⟩
    have : z = -1 := q
    omega
  have fn : ∀ (laid wind : Nat → Int) (set bk cs t e ever : Nat), hok μ (laid, wind, (set, bk, cs), t, e) → (sort = 0 ∨ (0 ≤ a ∧ a < (μ.1 : Int))) → P (fin μ laid wind set bk cs ever) := by
    intro laid wind set bk cs t e ever hk' hs
    rw [← hP]
    obtain ⟨f1, f2, f3, f4⟩ := fin_ok (ever := ever) hμ hk'
    exact ⟨Or.inr f1, f2, f3, fun q => ⟨(f4 q).1, (f4 q).2, hs⟩⟩
  unfold att
  by_cases s0 : sort = 0
  · rw [if_pos s0]
    split
    · exact ref 0 (by decide)
    split
    · exact ref 1 (by decide)
    split
    · exact ref 1 (by decide)
    split
    · exact ref 2 (by decide)
    · rename_i hw _
      exact fn _ _ _ _ _ 0 0 _ (hok_wind hk (Decidable.of_not_not hw)) (Or.inl s0)
  · rw [if_neg s0]
    split
    · exact ref 0 (by decide)
    · rename_i hin
      have hin : 0 ≤ a ∧ a < (μ.1 : Int) := Decidable.of_not_not hin
      have hr : a.toNat < μ.1 := by omega
      split
      · split
        · exact ref 1 (by decide)
        split
        · exact ref 1 (by decide)
        split
        · exact ref 2 (by decide)
        · rename_i hl _
          exact fn _ _ _ _ _ 0 0 _ (hok_laid hk (Decidable.of_not_not hl)) (Or.inr hin)
      split
      · split
        · exact ref 2 (by decide)
        · rename_i hf
          exact fn _ _ _ _ _ 0 0 _ (hok_cast hμ hk hr (by simpa using hf)) (Or.inr hin)
      · split
        · exact fn _ _ _ _ _ 0 0 _ (hok_renew hμ hk hr) (Or.inr hin)
        · exact ref 2 (by decide)
abbrev arp (sort : Nat) (x : Int32) : Option Nat := if sort = 0 then none else some x.toInt.toNat
/-- the state's hold, log and lines behind an act that is done -/
def wdn (μ : MU) (w : GH) (sort : Nat) (x y z : Int32) : GH := ((att μ w.1 sort x.toInt y.toInt z.toInt).2.1, addL w.2.1 (sort, arp sort x, msk (att μ w.1 sort x.toInt y.toInt z.toInt).2.2), w.2.2 + 1)
theorem wdn_ok {μ : MU} (hμ : mu_ok μ) {w : GH} (hw : ghok μ w) {sort : Nat} {x y z : Int32} (hs : sort < 4) (h1 : (att μ w.1 sort x.toInt y.toInt z.toInt).1 = -1) : ghok μ (wdn μ w sort x y z) := by
  obtain ⟨-, m1, -, m2⟩ := att_ok hμ hw.1 sort x.toInt y.toInt z.toInt
  obtain ⟨n1, n2, n3⟩ := m2 h1
  have h8 := hμ.1
  refine ⟨n1, n2, fun e he => ?_, by show (addL _ _).length ≤ 60; rw [addL_len _ _ hw.2.2.2]; omega⟩
  have he : e ∈ addL w.2.1 (sort, arp sort x, msk (att μ w.1 sort x.toInt y.toInt z.toInt).2.2) := he
  unfold addL at he
  rcases List.mem_append.mp he with q | q
  · have : e ∈ w.2.1 := by
      split at q
      · exact List.mem_of_mem_tail q
      · exact q
    exact hw.2.2.1 e this
  · have : e = (sort, arp sort x, msk (att μ w.1 sort x.toInt y.toInt z.toInt).2.2) := by simpa using q
    rw [this]
    refine ⟨hs, ?_, msk_lt m1⟩
    show orp (arp sort x) ≤ 8
    unfold arp
    split
    · decide
    · show x.toInt.toNat + 1 ≤ 8
      rcases n3 with q | q
      · omega
      · omega
theorem gok_cmt {γ : GS} {bd : Nat} {w : GH} (hg : gok γ bd) (h0 : 0 < γ.2.1.1) (hw : ghok γ.2.1 w) (h1 : γ.2.2.1.2.2 ≤ w.2.2) (h2 : w.2.2 ≤ γ.2.2.1.2.2 + 16) : gok (cmt γ w) (bd + 16) := by
  obtain ⟨a1, a2, a3, a4, a5, a6, a7, a8⟩ := hg
  obtain ⟨b1, b2, b3, b4⟩ := a8 h0
  have tk : ∀ (P : List GH) (N n : Nat), chn N P → chn N (P.take n) := by
    intro P
    induction P with
    | nil => intro N n _; simp [chn]
    | cons g P ih =>
      intro N n h
      cases n with
      | zero => simp [chn]
      | succ n =>
        rw [List.take_succ_cons]
        exact ⟨h.1, h.2.1, ih _ _ h.2.2⟩
  refine ⟨a1, by show ((γ.2.2.1 :: γ.2.2.2.1).take 40).length ≤ 40; rw [List.length_take]; omega, a3, a4, tk _ _ _ ⟨h1, h2, a5⟩, by show w.2.2 ≤ bd + 16; omega, fun q => ?_, fun _ => ⟨b1, hw, fun g hgm => ?_, b4⟩⟩
  · have : γ.2.1.1 = 0 := q
    omega
  · have : g ∈ γ.2.2.1 :: γ.2.2.2.1 := List.mem_of_mem_take hgm
    rcases List.mem_cons.mp this with q | q
    · rw [q]; exact b2
    · exact b3 g q
