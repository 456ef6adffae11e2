theorem upI_r (σ : wS) (i k : Nat) (x : Int32) : (upI σ i k x).1 i = upd (σ.1 i) k x := setI_eq.1
theorem JO.put {lg : List LE} {M x : Nat} {J : Nat → Int32} {v : Int32} (h : JO lg M J) (h1 : M ≤ x) (h2 : x + lg.length < M + 716) : JO lg M (upd J (x % 716) v) := by
  refine ⟨h.1, fun k hk => ?_⟩
  have hl := h.1
  rw [pk_un (by omega)]
  exact h.2 k hk
theorem addL_len (lg : List LE) (e : LE) (h : lg.length ≤ 60) : (addL lg e).length = min (lg.length + 1) 60 := by
  unfold addL
  split
  · rename_i q; rw [List.length_append, List.length_tail, q]; rfl
  · rw [List.length_append, List.length_singleton, Nat.min_eq_left (by omega)]
theorem JO.add {lg : List LE} {M : Nat} {J : Nat → Int32} {e : LE} (h : JO lg M J) : JO (addL lg e) (M + 1) (upd J (M % 716) (pk e)) := by
  obtain ⟨hl, hk⟩ := h
  refine ⟨by rw [addL_len lg e (by omega)]; omega, fun k hk2 => ?_⟩
  have hL := addL_len lg e (by omega)
  rw [hL] at hk2 ⊢
  unfold addL
  by_cases q : lg.length = 60
  · rw [if_pos q]
    rw [q] at hk2 ⊢
    by_cases q2 : k = 59
    · subst q2
      rw [show M + 1 - min (60 + 1) 60 + 59 = M by omega, pk_us]
      rw [List.getD_eq_getElem?_getD, List.getElem?_append_right (by rw [List.length_tail]; omega), List.length_tail, q]
      rfl
    · rw [pk_un (by omega), show M + 1 - min (60 + 1) 60 + k = M - lg.length + (k + 1) by omega, hk (k + 1) (by omega)]
      rw [List.getD_eq_getElem?_getD, List.getD_eq_getElem?_getD, List.getElem?_append_left (by rw [List.length_tail]; omega), List.getElem?_tail]
  · rw [if_neg q]
    by_cases q2 : k = lg.length
    · subst q2
      rw [show M + 1 - min (lg.length + 1) 60 + lg.length = M by omega, pk_us]
      rw [List.getD_eq_getElem?_getD, List.getElem?_append_right (Nat.le_refl _), Nat.sub_self]
      rfl
    · rw [pk_un (by omega), show M + 1 - min (lg.length + 1) 60 + k = M - lg.length + k by omega, hk k (by omega)]
      rw [List.getD_eq_getElem?_getD, List.getD_eq_getElem?_getD, List.getElem?_append_left (by omega)]
theorem chn_b : ∀ {P : List GH} {N : Nat}, chn N P → ∀ g ∈ P, g.2.2 ≤ N ∧ N ≤ g.2.2 + 16 * P.length := by
  intro P
  induction P with
  | nil => intro N _ g hg; cases hg
  | cons a P ih =>
    intro N h g hg
    obtain ⟨h1, h2, h3⟩ := h
    rw [List.length_cons]
    rcases List.mem_cons.mp hg with q | q
    · subst q; omega
    · have := ih h3 g q; omega
theorem cJ.put {w : GH} {P : List GH} {σ : wS} {x : Nat} {v : Int32} (h : cJ w P σ) (hc : chn w.2.2 P) (hl : P.length ≤ 40) (h1 : w.2.2 ≤ x) (h2 : x ≤ w.2.2 + 15) : cJ w P (upI σ 49 (x % 716) v) := by
  refine ⟨?_, fun g hg => ?_⟩
  · rw [upI_r]; exact h.1.put h1 (by have := h.1.1; omega)
  · rw [upI_r]
    have := chn_b hc g hg
    have h3 := (h.2 g hg).1
    exact (h.2 g hg).put (by omega) (by omega)
/-- a line, packed -/
theorem pk_en {s b : Nat} {o : Option Nat} (hs : s < 4) (ho : orp o ≤ 8) (hb : b < 256) : (nI s ||| ((oI o + 1) <<< ((2 : Int32) &&& 31))) ||| (nI b <<< ((6 : Int32) &&& 31)) = pk (s, o, b) := by
  have e1 : oI o + 1 = nI (orp o) := by cases o with
    | none => rfl
    | some r => exact nI_1 r
  have s2 : (((2 : Int32) &&& 31).toBitVec.smod 32).toNat = 2 := by decide
  have s6 : (((6 : Int32) &&& 31).toBitVec.smod 32).toNat = 6 := by decide
  have eo : ∀ a b : Nat, nI a ||| nI b = nI (a ||| b) := fun a b => by
    unfold nI
    apply Int32.toBitVec_inj.mp
    simp [Int32.toBitVec_or, BitVec.ofNat_or]
  rw [e1, pk_shlN _ 2 s2 (by omega), pk_shlN _ 6 s6 (by omega), eo, eo]
  unfold pk
  congr 1
  have h1 := Nat.two_pow_add_eq_or_of_lt (i := 2) (show s < 2 ^ 2 by omega) (orp o)
  have h2 := Nat.two_pow_add_eq_or_of_lt (i := 6) (show 2 ^ 2 * orp o + s < 2 ^ 6 by omega) b
  rw [Nat.or_comm s, Nat.mul_comm (orp o), ← h1, Nat.or_comm, Nat.mul_comm b, ← h2]
  show 2 ^ 6 * b + (2 ^ 2 * orp o + s) = s + 4 * orp o + 64 * b
  omega
theorem s_writeLine {s b M : Nat} {o : Option Nat} {x : Int32} {σ : wS} {Q : wS → Prop} (hs : s < 4) (ho : orp o ≤ 8) (hb : b < 256) (hM : M < 2 ^ 31 - 1) (hx : oI o = if s = 0 then -1 else x) (h7 : σ.1 32 7 = nI M) (h3 : σ.1 38 3 = nI b) (hq : Q (upI (upI σ 49 (M % 716) (pk (s, o, b))) 32 7 (nI (M + 1)))) : w_X11_writeLine (nI s) x σ Q := by
  have es : nI s = 0 ↔ s = 0 := nI_eq (b := 0) (by omega) (by decide)
  have fin : b_X11_writeLine_21 Q (oI o) (nI s) (σ.1 32 7) σ := by
    unfold b_X11_writeLine_21 w_X4_write w_X4_putLine
    rw [h7, h3, pk_en hs ho hb, show (716 : Int32) = nI 716 from rfl, pk_rem (by omega) (by decide) (by decide), nI_clamp (by omega)]
    refine ⟨fun q => absurd q (nI_pos (by omega)), fun _ => ⟨vp_in_nI (Nat.mod_lt _ (by decide)) (by decide), fun s1 e1 s3 e3 => ?_⟩⟩
    have : s1.1 32 7 = nI M := by rw [e1, upI_1]; simp; exact h7
    rw [e3, this, nI_1, e1]
    exact hq
  unfold w_X11_writeLine
  rw [es]
  refine ⟨fun q => ?_, fun q => ?_⟩
  · rw [hx, if_neg q] at fin; exact fin
  · rw [hx, if_pos q] at fin; exact fin
/-! refusals -/
def rfl4 (c : List Int32) (s z b : Nat) : List Int32 := c ++ (nI (100 + s) :: (if z = 3 ∨ z = 4 then [nI (200 + b), nI z] else [nI z]))
def up1 (n : Nat → Int32) (z : Nat) : Nat → Int32 := fun k => if k = z then n k + 1 else n k
theorem getD_app {c : List Int32} {x : Int32} {k : Nat} (h : k < c.length) : (c ++ [x]).getD k 0 = c.getD k 0 := by rw [List.getD_eq_getElem?_getD, List.getD_eq_getElem?_getD, List.getElem?_append_left h]
theorem getD_last {c : List Int32} {x : Int32} : (c ++ [x]).getD c.length 0 = x := by rw [List.getD_eq_getElem?_getD, List.getElem?_append_right (Nat.le_refl _), Nat.sub_self]; rfl
theorem s_add {c : List Int32} {n : Nat → Int32} {x : Int32} {σ : wS} {Q : wS → Prop} (hl : c.length < 4) (hR : cR c n σ) (hq : ∀ τ : wS, Fr [52, 54] σ τ → τ.2 = σ.2 → cR (c ++ [x]) n τ → Q τ) : w_X8_add x σ Q := by
  obtain ⟨r1, r2, r3⟩ := hR
  unfold w_X8_add
  have e4 : ((4 : Int32) ≤ nI c.length) ↔ 4 ≤ c.length := nI_leI (a := 4) (by decide) (by omega)
  rw [r1, e4, nI_clamp (by omega)]
  refine ⟨fun q => by omega, fun _ => ⟨vp_in_nI hl (by decide), fun s1 e1 s2 e2 => ?_⟩⟩
  have x1 : s1.1 52 2 = nI c.length := by rw [e1, upI_1]; simp; exact r1
  rw [x1, nI_1] at e2
  refine hq s2 (by rw [e2, e1]; exact (Fr.rf.upI (by decide)).upI (by decide)) (by rw [e2, e1]; rfl) ⟨?_, fun k hk => ?_, fun k hk => ?_⟩
  · rw [e2, upI_1]; simp
  · rw [List.length_append, List.length_singleton] at hk
    rw [e2, e1, upI_1, if_neg (by omega), upI_1]
    by_cases q : k = c.length
    · subst q; rw [if_pos ⟨rfl, rfl⟩, getD_last]
    · rw [if_neg (by omega), getD_app (by omega)]; exact r2 k (by omega)
  · rw [e2, e1, upI_1, if_neg (by omega), upI_1, if_neg (by omega)]; exact r3 k hk
theorem s_close {c : List Int32} {n : Nat → Int32} {z : Nat} {σ : wS} {Q : wS → Prop} (hl : c.length < 4) (hz : z ≤ 4) (hR : cR c n σ) (hq : ∀ τ : wS, Fr [52, 53, 54] σ τ → τ.2 = σ.2 → cR (c ++ [nI z]) (up1 n z) τ → Q τ) : w_X8_close (nI z) σ Q := by
  unfold w_X8_close
  refine s_add hl hR (fun s1 F1 g1 R1 => ?_)
  rw [nI_leI (by omega) (by omega), nI_clamp (by omega)]
  refine ⟨fun q => absurd q (nI_pos (by omega)), fun _ => ⟨fun q => by omega, fun _ => ⟨vp_in_nI (by omega) (by decide), vp_in_nI (by omega) (by decide), fun s3 e3 => ?_⟩⟩⟩
  refine hq s3 (by rw [e3]; exact (F1.wk (by decide)).upI (by decide)) (by rw [e3]; exact g1) ⟨?_, fun k hk => ?_, fun k hk => ?_⟩
  · rw [e3, upI_1, if_neg (by omega)]; exact R1.1
  · rw [e3, upI_1, if_neg (by omega)]; exact R1.2.1 k hk
  · rw [e3, upI_1]
    unfold up1
    by_cases q : k = z
    · rw [if_pos ⟨rfl, q⟩, if_pos q, R1.2.2 z (by omega), q]
    · rw [if_neg (by omega), if_neg q]; exact R1.2.2 k hk
theorem s_refuse {c : List Int32} {n : Nat → Int32} {s z b : Nat} {σ : wS} {Q : wS → Prop} (hl : c.length ≤ 1) (hz : z ≤ 4) (hR : cR c n σ) (h38 : σ.1 38 4 = nI b) (hq : ∀ τ : wS, Fr [52, 53, 54] σ τ → τ.2 = σ.2 → cR (rfl4 c s z b) (up1 n z) τ → Q τ) : w_X11_refuse (nI s) (nI z) σ Q := by
  have e3 : (nI z = 3) ↔ z = 3 := nI_eq (b := 3) (by omega) (by decide)
  have e4 : (nI z = 4) ↔ z = 4 := nI_eq (b := 4) (by omega) (by decide)
  unfold w_X11_refuse b_X11_refuse_21 b_X11_refuse_39
  rw [e3, e4, show (100 : Int32) = nI 100 from rfl, nI_add]
  refine s_add (by omega) hR (fun s1 F1 g1 R1 => ?_)
  have x38 : s1.1 38 4 = nI b := by rw [(F1 38 (by decide)).1]; exact h38
  rw [x38, show (200 : Int32) = nI 200 from rfl, nI_add]
  have set' : (z = 3 ∨ z = 4) → w_X8_add (nI (200 + b)) s1 (fun s1 => w_X8_close (nI z) s1 (fun s1 => Q s1)) := by
    intro q
    refine s_add (by rw [List.length_append, List.length_singleton]; omega) R1 (fun s2 F2 g2 R2 => ?_)
    refine s_close (by rw [List.length_append, List.length_append, List.length_singleton, List.length_singleton]; omega) hz R2 (fun s3 F3 g3 R3 => ?_)
    refine hq s3 (((F1.wk (by decide)).tr (F2.wk (by decide))).tr F3) (by rw [g3, g2, g1]) ?_
    unfold rfl4
    rw [if_pos q]
    simpa using R3
  refine ⟨fun q => set' (Or.inl q), fun q => ⟨fun q2 => ?_, fun q2 => set' (Or.inr q2)⟩⟩
  refine s_close (by rw [List.length_append, List.length_singleton]; omega) hz R1 (fun s3 F3 g3 R3 => ?_)
  refine hq s3 ((F1.wk (by decide)).tr F3) (by rw [g3, g1]) ?_
  unfold rfl4
  rw [if_neg (by omega)]
  simpa using R3
theorem m_causes {c : List Int32} {n : Nat → Int32} {x : Int32} {σ : wS} {Q : wS → Prop} (hl : c.length < 4) (hR : dR c n σ) (hq : ∀ τ : wS, Fr [176, 197] σ τ → (∀ k, k ≠ 34 → τ.1 176 k = σ.1 176 k) → τ.2 = σ.2 → dR (c ++ [x]) n τ → Q τ) : w_X12_causes x σ Q := by
  obtain ⟨r1, r2, r3⟩ := hR
  unfold w_X12_causes
  rw [r1, nI_clamp (by omega)]
  refine ⟨vp_in_nI hl (by decide), fun s1 e1 s2 e2 => ?_⟩
  have x1 : s1.1 176 34 = nI c.length := by rw [e1, upI_1]; simp; exact r1
  rw [x1, nI_1] at e2
  refine hq s2 (by rw [e2, e1]; exact (Fr.rf.upI (by decide)).upI (by decide)) (fun k hk => by rw [e2, e1, upI_1, if_neg (by omega), upI_1, if_neg (by omega)]) (by rw [e2, e1]; rfl) ⟨?_, fun k hk => ?_, fun k hk => ?_⟩
  · rw [e2, upI_1]; simp
  · rw [List.length_append, List.length_singleton] at hk
    rw [e2, e1, upI_1, if_neg (by omega), upI_1]
    by_cases q : k = c.length
    · subst q; rw [if_pos ⟨rfl, rfl⟩, getD_last]
    · rw [if_neg (by omega), getD_app (by omega)]; exact r2 k (by omega)
  · rw [e2, e1, upI_1, if_neg (by omega), upI_1, if_neg (by omega)]; exact r3 k hk
theorem m_blames {c : List Int32} {n : Nat → Int32} {s z b : Nat} {σ : wS} {Q : wS → Prop} (hl : c.length ≤ 1) (hz : z ≤ 4) (hR : dR c n σ) (h35 : σ.1 176 35 = if z = 3 ∨ z = 4 then 1 else 0) (h32 : z = 3 ∨ z = 4 → σ.1 176 32 = nI b) (hq : ∀ τ : wS, Fr [176, 185, 197] σ τ → (∀ k, k ≠ 34 → τ.1 176 k = σ.1 176 k) → τ.2 = σ.2 → dR (rfl4 c s z b) (up1 n z) τ → Q τ) : w_X12_blames (nI z) (nI s) σ Q := by
  unfold w_X12_blames b_X12_blames_27
  rw [show (100 : Int32) = nI 100 from rfl, nI_add]
  refine m_causes (by omega) hR (fun s1 F1 k1 g1 R1 => ?_)
  rw [k1 35 (by decide), h35]
  have fin : ∀ (c' : List Int32) (s2 : wS), c'.length < 4 → Fr [176, 185, 197] σ s2 → (∀ k, k ≠ 34 → s2.1 176 k = σ.1 176 k) → s2.2 = σ.2 → dR c' n s2 → c' ++ [nI z] = rfl4 c s z b → w_X12_causes (nI z) s2 (fun s1 => vp_in (nI z) 5 ∧ (vp_in (nI z) 5 ∧ (∀ s3 : wS, s3 = upI s1 185 (nI z).toNatClampNeg ((s1.1 185 (nI z).toNatClampNeg) + (1 : Int32)) → (Q s3)))) := by
    intro c' s2 hl2 F2 k2 g2 R2 he
    refine m_causes hl2 R2 (fun s4 F4 k4 g4 R4 => ⟨vp_in_nI (by omega) (by decide), vp_in_nI (by omega) (by decide), fun s5 e5 => ?_⟩)
    rw [nI_clamp (by omega)] at e5
    rw [he] at R4
    refine hq s5 (by rw [e5]; exact (F2.tr (F4.wk (by decide))).upI (by decide)) (fun k hk => by rw [e5, upI_1, if_neg (by omega), k4 k hk, k2 k hk]) (by rw [e5]; exact g4.trans g2) ⟨?_, fun k hk => ?_, fun k hk => ?_⟩
    · rw [e5, upI_1, if_neg (by omega)]; exact R4.1
    · rw [e5, upI_1, if_neg (by omega)]; exact R4.2.1 k hk
    · rw [e5, upI_1]
      unfold up1
      by_cases q : k = z
      · rw [if_pos ⟨rfl, q⟩, if_pos q, R4.2.2 z (by omega), q]
      · rw [if_neg (by omega), if_neg q]; exact R4.2.2 k hk
  by_cases q : z = 3 ∨ z = 4
  · rw [if_pos q]
    refine ⟨fun q => absurd q (by decide), fun _ => ?_⟩
    rw [k1 32 (by decide), h32 q, show (200 : Int32) = nI 200 from rfl, nI_add]
    refine m_causes (by rw [List.length_append, List.length_singleton]; omega) R1 (fun s2 F2 k2 g2 R2 => ?_)
    refine fin _ s2 (by rw [List.length_append, List.length_append, List.length_singleton, List.length_singleton]; omega) ((F1.wk (by decide)).tr (F2.wk (by decide))) (fun k hk => by rw [k2 k hk, k1 k hk]) (g2.trans g1) R2 ?_
    unfold rfl4
    rw [if_pos q]
    simp
  · rw [if_neg q]
    refine ⟨fun _ => ?_, fun q => absurd rfl q⟩
    refine fin _ s1 (by rw [List.length_append, List.length_singleton]; omega) (F1.wk (by decide)) k1 g1 R1 ?_
    unfold rfl4
    rw [if_neg q]
    simp
