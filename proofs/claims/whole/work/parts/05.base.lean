/-! THE WORLD: every cell behind the constructors, by a number; what a cell holds, by (number, place) -/
abbrev wS : Type := (Nat → Nat → Int32) × (Nat → Nat → Int64)
abbrev wG : Type := va_G × (Nat → ClassId) × (Nat → Nat)
def wN : Nat := 200
def kdT : List Nat := [11, 10, 13, 7, 5, 14, 14, 14, 14, 14, 16, 5, 14, 14, 14, 14, 14, 16, 18, 9, 14, 9, 14, 9, 14, 9, 14, 9, 14, 3, 14, 14, 3, 14, 14, 3, 14, 14, 1, 14, 15, 0, 15, 15, 15, 15, 2, 2, 4, 14, 6, 17, 8, 14, 14, 14, 3, 14, 14, 3, 14, 14, 3, 14, 14, 3, 14, 14, 3, 14, 14, 3, 14, 14, 3, 14, 14, 3, 14, 14, 3, 14, 14, 3, 14, 14, 3, 14, 14, 3, 14, 14, 3, 14, 14, 3, 14, 14, 3, 14, 14, 3, 14, 14, 3, 14, 14, 3, 14, 14, 3, 14, 14, 3, 14, 14, 3, 14, 14, 3, 14, 14, 3, 14, 14, 3, 14, 14, 3, 14, 14, 3, 14, 14, 3, 14, 14, 3, 14, 14, 3, 14, 14, 3, 14, 14, 3, 14, 14, 3, 14, 14, 3, 14, 14, 3, 14, 14, 3, 14, 14, 3, 14, 14, 3, 14, 14, 3, 14, 14, 3, 14, 14, 3, 14, 14, 12, 13, 14, 14, 14, 14, 14, 14, 14, 14, 14, 14, 14, 14, 14, 14, 15, 15, 15, 16, 14, 14, 14, 15, 24, 24, 25, 24, 24, 24, 25, 24, 24, 24, 26, 26, 26]
def lnT : List Nat := [0, 0, 240, 0, 0, 4, 56, 24, 8, 8, 3, 0, 4, 56, 24, 8, 8, 3, 5, 0, 64, 0, 64, 0, 64, 0, 64, 0, 64, 0, 8, 3, 0, 8, 3, 0, 8, 3, 0, 8, 4, 0, 9, 3, 3, 8, 0, 0, 0, 716, 0, 40, 0, 5, 4, 60, 0, 8, 3, 0, 8, 3, 0, 8, 3, 0, 8, 3, 0, 8, 3, 0, 8, 3, 0, 8, 3, 0, 8, 3, 0, 8, 3, 0, 8, 3, 0, 8, 3, 0, 8, 3, 0, 8, 3, 0, 8, 3, 0, 8, 3, 0, 8, 3, 0, 8, 3, 0, 8, 3, 0, 8, 3, 0, 8, 3, 0, 8, 3, 0, 8, 3, 0, 8, 3, 0, 8, 3, 0, 8, 3, 0, 8, 3, 0, 8, 3, 0, 8, 3, 0, 8, 3, 0, 8, 3, 0, 8, 3, 0, 8, 3, 0, 8, 3, 0, 8, 3, 0, 8, 3, 0, 8, 3, 0, 8, 3, 0, 8, 3, 0, 8, 3, 0, 8, 3, 0, 240, 4, 4, 56, 56, 24, 320, 5, 5, 56, 4, 202, 202, 202, 8080, 9, 3, 3, 256, 8, 4, 202, 1, 3, 3, 7, 7, 7, 7, 4, 4, 4, 4, 4, 7, 4]
def stT : List (List Int32) := [[99, 99, 999], [999, 999, 9999], [107, 120, 121, 97, 98, 112, 116], [1, (-4), (-4), (-4), (-4), (-50), 1], [9, 4, 4, 4, 4, 50, 999], [1, 0, 0, 1, 0, 0, 999], [102, 117, 118, 119], [1, (-99), (-99), (-999)], [7, 99, 99, 999], [3, 0, 0, 0]]
def kd (i : Nat) : Nat := kdT.getD i 99
def ln (i : Nat) : Nat := lnT.getD i 0
def stv (i j : Nat) : Int32 := (stT.getD (i - 200) []).getD j 0
/-- which of the two moorings -/
def mo (v : Int32) : Nat := if v = 0 then 4 else 11
def moi (i : Nat) : Int32 := if i = 4 then 0 else 1
def setI (σ : wS) (i : Nat) (f : Nat → Int32) : wS := (fun a => if a = i then f else σ.1 a, σ.2)
def setJ (σ : wS) (i : Nat) (f : Nat → Int64) : wS := (σ.1, fun a => if a = i then f else σ.2 a)
def upI (σ : wS) (i k : Nat) (x : Int32) : wS := setI σ i (upd (σ.1 i) k x)
def upJ (σ : wS) (i k : Nat) (x : Int64) : wS := setJ σ i (vp_updL (σ.2 i) k x)
def fl0 (ad : Nat → Nat) (i : Nat) (r : Nat → Int32) (q : Nat → Int64) : List Value := [.ref (ad (i + 1)), .ref (ad (i + 2)), .ref (ad (i + 3)), .ref (ad (i + 4)), .long (q 4)]
def fl1 (ad : Nat → Nat) (i : Nat) (r : Nat → Int32) (q : Nat → Int64) : List Value := [.ref (ad (i + 3)), .ref (ad (i + 1)), .ref (ad (i + 2)), .int (r 3), .int (r 4), .int (r 5)]
def fl2 (ad : Nat → Nat) (i : Nat) (r : Nat → Int32) (q : Nat → Int64) : List Value := [.long (q 0), .long (q 1)]
def fl3 (ad : Nat → Nat) (i : Nat) (r : Nat → Int32) (q : Nat → Int64) : List Value := [.ref (ad (i + 1)), .ref (ad (i + 2)), .int (r 2), .int (r 3), .int (r 4), .int (r 5), .int (r 6), .int (r 7)]
def fl4 (ad : Nat → Nat) (i : Nat) (r : Nat → Int32) (q : Nat → Int64) : List Value := [.ref (ad (i + 1))]
def fl5 (ad : Nat → Nat) (i : Nat) (r : Nat → Int32) (q : Nat → Int64) : List Value := [.ref (ad (i + 1)), .ref (ad (i + 2)), .ref (ad (i + 3)), .ref (ad (i + 4)), .ref (ad (i + 5)), .ref (ad (i + 6)), .int (r 6)]
def fl6 (ad : Nat → Nat) (i : Nat) (r : Nat → Int32) (q : Nat → Int64) : List Value := [.ref (ad (i + 1)), .int (r 1), .int (r 2)]
def fl7 (ad : Nat → Nat) (i : Nat) (r : Nat → Int32) (q : Nat → Int64) : List Value := [.ref (ad 1), .int (r 1), .int (r 2), .int (r 3)]
def fl8 (ad : Nat → Nat) (i : Nat) (r : Nat → Int32) (q : Nat → Int64) : List Value := [.ref (ad (i + 1)), .ref (ad (i + 2)), .int (r 2)]
def fl9 (ad : Nat → Nat) (i : Nat) (r : Nat → Int32) (q : Nat → Int64) : List Value := [.ref (ad (i + 1)), .int (r 1)]
def fl10 (ad : Nat → Nat) (i : Nat) (r : Nat → Int32) (q : Nat → Int64) : List Value := [.ref (ad (i + 1)), .int (r 1)]
def fl11 (ad : Nat → Nat) (i : Nat) (r : Nat → Int32) (q : Nat → Int64) : List Value := [.ref (ad 1), .ref (ad 3), .ref (ad (mo (r 2))), .ref (ad (mo (r 3))), .ref (ad 18), .int (r 5), .ref (ad 29), .ref (ad 32), .ref (ad 38), .ref (ad 46), .ref (ad 47), .ref (ad 48), .ref (ad 50), .ref (ad 52), .ref (ad 35), .ref (ad 55), .int (r 16), .long (q 17)]
def fl12 (ad : Nat → Nat) (i : Nat) (r : Nat → Int32) (q : Nat → Int64) : List Value := [.int (r 0), .ref (ad 177), .int (r 2), .int (r 3), .int (r 4), .ref (ad 178), .ref (ad 179), .ref (ad 180), .ref (ad 181), .ref (ad 182), .ref (ad 183), .ref (ad 184), .ref (ad 185), .int (r 13), .int (r 14), .int (r 15), .int (r 16), .ref (ad 186), .ref (ad 187), .ref (ad 188), .ref (ad 189), .ref (ad 190), .ref (ad 191), .int (r 23), .int (r 24), .int (r 25), .ref (ad 192), .ref (ad 193), .ref (ad 194), .long (q 29), .ref (ad 195), .ref (ad 196), .int (r 32), .ref (ad 197), .int (r 34), .int (r 35), .long (q 36), .ref (ad 198), .int (r 38), .long (q 39), .long (q 40), .int (r 41), .int (r 42)]
def cl0 (g : wG) (i : Nat) (r : Nat → Int32) (q : Nat → Int64) : va_E :=
  match kd i with
  | 0 => .inr (0, fl0 g.2.2 i r q)
  | 1 => .inr (1, fl1 g.2.2 i r q)
  | 2 => .inr (2, fl2 g.2.2 i r q)
  | 3 => .inr (3, fl3 g.2.2 i r q)
  | 4 => .inr (4, fl4 g.2.2 i r q)
  | 5 => .inr (5, fl5 g.2.2 i r q)
  | 6 => .inr (6, fl6 g.2.2 i r q)
  | 7 => .inr (7, fl7 g.2.2 i r q)
  | 8 => .inr (8, fl8 g.2.2 i r q)
  | 9 => .inr (9, fl9 g.2.2 i r q)
  | 10 => .inr (10, fl10 g.2.2 i r q)
  | 11 => .inr (11, fl11 g.2.2 i r q)
  | 12 => .inr (12, fl12 g.2.2 i r q)
  | 13 => .inl (g.2.1 13, ln i, .inl r)
  | 14 => .inl (g.2.1 14, ln i, .inl r)
  | 15 => .inl (g.2.1 15, ln i, .inr (.inl q))
  | 16 => .inl (g.2.1 16, ln i, .inl r)
  | 17 => .inl (g.2.1 17, ln i, .inr (.inr (.inr (.inr (fun k => some (g.2.2 (56 + 3 * k)))))))
  | 18 => .inl (g.2.1 18, ln i, .inr (.inr (.inr (.inr (fun k => some (g.2.2 (19 + 2 * k)))))))
  | _ => .inl (g.2.1 14, 0, .inl r)
def wld (g : wG) (σ : wS) : va_W := (List.range wN).map (fun i => (g.2.2 i, cl0 g i (σ.1 i) (σ.2 i)))
def tyl (g : wG) : List (ClassId × FieldType) := [(g.2.1 13, .byte), (g.2.1 14, .int), (g.2.1 15, .long), (g.2.1 16, .boolean), (g.2.1 17, .object "MooringDesk$Hold"), (g.2.1 18, .object "MooringDesk$Script")]
def stn (k : Nat) : String × String := ([("GUST_MOST", "[I"), ("WIND_MOST", "[I"), ("ROPE_LETTERS", "[C"), ("ROPE_LEAST", "[I"), ("ROPE_MOST", "[I"), ("ROPE_UNTOLD", "[I"), ("RULE_LETTERS", "[C"), ("RULE_LEAST", "[I"), ("RULE_MOST", "[I"), ("RULE_UNTOLD", "[I")] : List (String × String)).getD k ("", "")
def nsF : List (String × Nat × String × String) := [("MooringDesk$Crew", 36, "GUST_MOST", "[I"), ("MooringDesk$Crew", 76, "WIND_MOST", "[I"), ("MooringDesk$Mooring", 35, "RULE_UNTOLD", "[I"), ("MooringDesk$Mooring", 44, "ROPE_UNTOLD", "[I"), ("MooringDesk$Reader", 129, "GUST_MOST", "[I"), ("MooringDesk$Reader", 62, "RULE_LETTERS", "[C"), ("MooringDesk$Reader", 66, "RULE_LEAST", "[I"), ("MooringDesk$Reader", 70, "RULE_MOST", "[I"), ("MooringDesk$Reader", 86, "ROPE_LETTERS", "[C"), ("MooringDesk$Reader", 89, "ROPE_LEAST", "[I"), ("MooringDesk$Reader", 92, "ROPE_MOST", "[I")]
def stL : List Nat := [4, 7, 4]
def stB : List (List Int32) := [[102, 117, 118, 119], [107, 120, 121, 97, 98, 112, 116], [119, 104, 99, 110]]
def stX : List (Nat × String) := [(129, "fuvw"), (135, "kxyabpt"), (171, "whcn")]
/-- what holds of the tables, of statics and of String constants in a state U with heap H -/
def Cg (g : wG) (A : Nat → Prop) (U : State) (H : Heap) : Prop :=
  va_K g.1 vwCl (tyl g) U ∧ (∀ w ∈ nsF, va_Nw (.fieldLinkNest w.1 w.2.1 "MooringDesk" w.2.2.1 w.2.2.2 "MooringDesk") U) ∧ va_Nw (.methodLinkNest RX1 39 yX11_isWithin "MooringDesk") U ∧
  (∀ k, k < 10 → va_Z "MooringDesk" (stn k).1 (stn k).2 (.ref (g.2.2 (200 + k))) A U H) ∧ (∀ k, k < 10 → va_T (if kd (200 + k) = 25 then .char else .int) (g.2.2 (200 + k)) (ln (200 + k)) (fun j => .int (stv (200 + k) j)) A U H) ∧
  vk_S 3 stL stB (fun k => g.2.2 (210 + k)) (fun k => g.2.2 (213 + k)) A U H ∧ (∀ k, k < 3 → ∀ q, stX[k]? = some q → vk_R RX12 q.1 q.2 (g.2.2 (210 + k)) U) ∧ va_Z "java/lang/String" "COMPACT_STRINGS" "Z" (.int 1) A U H ∧ va_Zq "jdk/internal/util/Preconditions" "SIOOBE_FORMATTER" "Ljava/util/function/BiFunction;" A U H
def adO (g : wG) (A : Nat → Prop) : Prop := (∀ i j, i < wN → j < wN → g.2.2 i = g.2.2 j → i = j) ∧ (∀ i, i < wN → A (g.2.2 i)) ∧ ∀ k, k < 10 → ¬ A (g.2.2 (200 + k))
theorem kd_lt {i : Nat} (h : kd i ≠ 99) : i < 213 := by
  rcases Nat.lt_or_ge i 213 with q | q
  · exact q
  · have e : kdT[i]? = none := List.getElem?_eq_none (show kdT.length ≤ i from q)
    exact absurd (by simp [kd, List.getD_eq_getElem?_getD, e]) h
theorem kall {c : Nat} {P : Nat → Prop} (hc : c ≠ 99) (h : ∀ i, i < 213 → kd i = c → P i) {i : Nat} (hk : kd i = c) : P i := h i (kd_lt (by rw [hk]; exact hc)) hk
theorem kd_w {c i : Nat} (hc : c ≤ 18) (hk : kd i = c) : i < wN := by
  have h : ∀ i, i < 213 → kd i ≤ 18 → i < wN := by decide +kernel
  exact h i (kd_lt (by rw [hk]; omega)) (by omega)
theorem cl_0 {g : wG} {i : Nat} {r : Nat → Int32} {q : Nat → Int64} (h : kd i = 0) : cl0 g i r q = .inr (0, fl0 g.2.2 i r q) := by simp only [cl0, h]
theorem cl_1 {g : wG} {i : Nat} {r : Nat → Int32} {q : Nat → Int64} (h : kd i = 1) : cl0 g i r q = .inr (1, fl1 g.2.2 i r q) := by simp only [cl0, h]
theorem cl_2 {g : wG} {i : Nat} {r : Nat → Int32} {q : Nat → Int64} (h : kd i = 2) : cl0 g i r q = .inr (2, fl2 g.2.2 i r q) := by simp only [cl0, h]
theorem cl_3 {g : wG} {i : Nat} {r : Nat → Int32} {q : Nat → Int64} (h : kd i = 3) : cl0 g i r q = .inr (3, fl3 g.2.2 i r q) := by simp only [cl0, h]
theorem cl_4 {g : wG} {i : Nat} {r : Nat → Int32} {q : Nat → Int64} (h : kd i = 4) : cl0 g i r q = .inr (4, fl4 g.2.2 i r q) := by simp only [cl0, h]
theorem cl_5 {g : wG} {i : Nat} {r : Nat → Int32} {q : Nat → Int64} (h : kd i = 5) : cl0 g i r q = .inr (5, fl5 g.2.2 i r q) := by simp only [cl0, h]
theorem cl_6 {g : wG} {i : Nat} {r : Nat → Int32} {q : Nat → Int64} (h : kd i = 6) : cl0 g i r q = .inr (6, fl6 g.2.2 i r q) := by simp only [cl0, h]
theorem cl_7 {g : wG} {i : Nat} {r : Nat → Int32} {q : Nat → Int64} (h : kd i = 7) : cl0 g i r q = .inr (7, fl7 g.2.2 i r q) := by simp only [cl0, h]
theorem cl_8 {g : wG} {i : Nat} {r : Nat → Int32} {q : Nat → Int64} (h : kd i = 8) : cl0 g i r q = .inr (8, fl8 g.2.2 i r q) := by simp only [cl0, h]
theorem cl_9 {g : wG} {i : Nat} {r : Nat → Int32} {q : Nat → Int64} (h : kd i = 9) : cl0 g i r q = .inr (9, fl9 g.2.2 i r q) := by simp only [cl0, h]
theorem cl_10 {g : wG} {i : Nat} {r : Nat → Int32} {q : Nat → Int64} (h : kd i = 10) : cl0 g i r q = .inr (10, fl10 g.2.2 i r q) := by simp only [cl0, h]
theorem cl_11 {g : wG} {i : Nat} {r : Nat → Int32} {q : Nat → Int64} (h : kd i = 11) : cl0 g i r q = .inr (11, fl11 g.2.2 i r q) := by simp only [cl0, h]
theorem cl_12 {g : wG} {i : Nat} {r : Nat → Int32} {q : Nat → Int64} (h : kd i = 12) : cl0 g i r q = .inr (12, fl12 g.2.2 i r q) := by simp only [cl0, h]
theorem cl_13 {g : wG} {i : Nat} {r : Nat → Int32} {q : Nat → Int64} (h : kd i = 13) : cl0 g i r q = .inl (g.2.1 13, ln i, .inl r) := by simp only [cl0, h]
theorem cl_14 {g : wG} {i : Nat} {r : Nat → Int32} {q : Nat → Int64} (h : kd i = 14) : cl0 g i r q = .inl (g.2.1 14, ln i, .inl r) := by simp only [cl0, h]
theorem cl_16 {g : wG} {i : Nat} {r : Nat → Int32} {q : Nat → Int64} (h : kd i = 16) : cl0 g i r q = .inl (g.2.1 16, ln i, .inl r) := by simp only [cl0, h]
theorem cl_15 {g : wG} {i : Nat} {r : Nat → Int32} {q : Nat → Int64} (h : kd i = 15) : cl0 g i r q = .inl (g.2.1 15, ln i, .inr (.inl q)) := by simp only [cl0, h]
theorem cl_17 {g : wG} {i : Nat} {r : Nat → Int32} {q : Nat → Int64} (h : kd i = 17) : cl0 g i r q = .inl (g.2.1 17, ln i, .inr (.inr (.inr (.inr (fun k => some (g.2.2 (56 + 3 * k))))))) := by simp only [cl0, h]
theorem cl_18 {g : wG} {i : Nat} {r : Nat → Int32} {q : Nat → Int64} (h : kd i = 18) : cl0 g i r q = .inl (g.2.1 18, ln i, .inr (.inr (.inr (.inr (fun k => some (g.2.2 (19 + 2 * k))))))) := by simp only [cl0, h]
theorem wld_at {g : wG} {σ : wS} {i : Nat} (h : i < wN) : (wld g σ)[i]? = some (g.2.2 i, cl0 g i (σ.1 i) (σ.2 i)) := by
  simp [wld, h]
theorem wld_in {g : wG} {σ : wS} {k : Nat} {q : Nat × va_E} (h : (wld g σ)[k]? = some q) : k < wN ∧ q = (g.2.2 k, cl0 g k (σ.1 k) (σ.2 k)) := by
  simp only [wld, List.getElem?_map, List.getElem?_range] at h
  by_cases hk : k < wN
  · simp [hk] at h
    exact ⟨hk, h.symm⟩
  · simp [hk] at h
theorem wld_D {g : wG} {A : Nat → Prop} (h : adO g A) (σ : wS) : va_D A (wld g σ) := by
  refine ⟨fun i j p q hi hj hpq => ?_, fun k q hk => ?_⟩
  · obtain ⟨h1, rfl⟩ := wld_in hi
    obtain ⟨h2, rfl⟩ := wld_in hj
    exact h.1 i j h1 h2 hpq
  · obtain ⟨h1, rfl⟩ := wld_in hk
    exact h.2.1 k h1
theorem wld_set {g : wG} {σ τ : wS} {i : Nat} (e : va_E) (hi : i < wN) (h1 : ∀ j, j ≠ i → τ.1 j = σ.1 j ∧ τ.2 j = σ.2 j) (he : cl0 g i (τ.1 i) (τ.2 i) = e) : (wld g σ).set i (g.2.2 i, e) = wld g τ := by
  apply List.ext_getElem?
  intro k
  by_cases hk : k = i
  · subst hk
    rw [wld_at hi, List.getElem?_set_self (by simp [wld]; exact hi), he]
  · rw [List.getElem?_set_ne (Ne.symm hk)]
    by_cases hw : k < wN
    · rw [wld_at hw, wld_at hw, (h1 k hk).1, (h1 k hk).2]
    · simp [wld, hw]
theorem setI_ne {σ : wS} {i j : Nat} {f : Nat → Int32} (h : j ≠ i) : (setI σ i f).1 j = σ.1 j ∧ (setI σ i f).2 j = σ.2 j := by simp [setI, h]
theorem setJ_ne {σ : wS} {i j : Nat} {f : Nat → Int64} (h : j ≠ i) : (setJ σ i f).1 j = σ.1 j ∧ (setJ σ i f).2 j = σ.2 j := by simp [setJ, h]
theorem setI_eq {σ : wS} {i : Nat} {f : Nat → Int32} : (setI σ i f).1 i = f ∧ (setI σ i f).2 i = σ.2 i := by simp [setI]
theorem setJ_eq {σ : wS} {i : Nat} {f : Nat → Int64} : (setJ σ i f).1 i = σ.1 i ∧ (setJ σ i f).2 i = f := by simp [setJ]
abbrev XT : Type := (Program × Launch × Env × Room × State) × (MethodId × Array Value × List Frame × Method × Code) × (Nat × Nat × (State → Prop)) × (wG × (Nat → Prop))
abbrev xp (X : XT) : Program := X.1.1
abbrev xl (X : XT) : Launch := X.1.2.1
abbrev xe (X : XT) : Env := X.1.2.2.1
abbrev xR (X : XT) : Room := X.1.2.2.2.1
abbrev xs (X : XT) : State := X.1.2.2.2.2
abbrev xm (X : XT) : MethodId := X.2.1.1
abbrev xa (X : XT) : Array Value := X.2.1.2.1
abbrev xb (X : XT) : List Frame := X.2.1.2.2.1
abbrev xh (X : XT) : Method := X.2.1.2.2.2.1
abbrev xc (X : XT) : Code := X.2.1.2.2.2.2
abbrev xk (X : XT) : Nat := X.2.2.1.1
abbrev xw (X : XT) : Nat := X.2.2.1.2.1
abbrev xQ (X : XT) : State → Prop := X.2.2.1.2.2
abbrev xg (X : XT) : wG := X.2.2.2.1
abbrev xA (X : XT) : Nat → Prop := X.2.2.2.2
abbrev ad (X : XT) : Nat → Nat := (xg X).2.2
/-- the machine comes to its end from here, whatever heap holds the world σ, whatever locals hold lv -/
def Wx (X : XT) (nL : Nat) (σ : wS) (pc : Nat) (lv : List (Nat × Value)) (st : List Value) : Prop :=
  ∀ (H : Heap) (locs : List Loc) (ls : Array Slot), va_P (xg X).1 vwCl (wld (xg X) σ) H → va_S (xA X) (xs X).heap H locs → lv_has ls nL lv → W (xp X) (xl X) (xe X) (xR X) (xs X) (xm X) (xa X) (xb X) (xh X) (xc X) H locs (xk X) (xw X) (xQ X) (F0 (xm X) pc ls st)
def Fx (X : XT) (cc : ByteArray) (nL : Nat) (own : String) (Ts : List Cond) (fr lo : Nat) : Prop :=
  CallFix (xp X) (xm X) (xc X) cc nL (xs X) (xa X) Ts own ∧ Cg (xg X) (xA X) (xs X) (xs X).heap ∧ adO (xg X) (xA X) ∧ fr ≤ (xR X).frames ∧ lo ≤ (xR X).locals ∧ xk X ≤ (xR X).cells ∧ xw X ≤ (xR X).slots
section XB
variable {X : XT} {cc : ByteArray} {nL : Nat} {own : String} {Ts : List Cond} {fr lo : Nat} {σ : wS} {pc : Nat} {lv : List (Nat × Value)} {st : List Value}
theorem x_iadd {x y : Int32} (F : Fx X cc nL own Ts fr lo) (hd : decode cc pc = .ok (.iadd, 1)) (k : Wx X nL σ (pc + 1) lv (.int (x + y) :: st)) : Wx X nL σ pc lv (.int y :: .int x :: st) := fun H locs ls hP hS hl => lv_iadd F.1.1 F.1.2.1 hd (k H locs ls hP hS hl)
theorem x_isub {x y : Int32} (F : Fx X cc nL own Ts fr lo) (hd : decode cc pc = .ok (.isub, 1)) (k : Wx X nL σ (pc + 1) lv (.int (x - y) :: st)) : Wx X nL σ pc lv (.int y :: .int x :: st) := fun H locs ls hP hS hl => lv_isub F.1.1 F.1.2.1 hd (k H locs ls hP hS hl)
theorem x_imul {x y : Int32} (F : Fx X cc nL own Ts fr lo) (hd : decode cc pc = .ok (.imul, 1)) (k : Wx X nL σ (pc + 1) lv (.int (x * y) :: st)) : Wx X nL σ pc lv (.int y :: .int x :: st) := fun H locs ls hP hS hl => lv_imul F.1.1 F.1.2.1 hd (k H locs ls hP hS hl)
theorem x_iand {x y : Int32} (F : Fx X cc nL own Ts fr lo) (hd : decode cc pc = .ok (.iand, 1)) (k : Wx X nL σ (pc + 1) lv (.int (x &&& y) :: st)) : Wx X nL σ pc lv (.int y :: .int x :: st) := fun H locs ls hP hS hl => lv_iand F.1.1 F.1.2.1 hd (k H locs ls hP hS hl)
theorem x_ior {x y : Int32} (F : Fx X cc nL own Ts fr lo) (hd : decode cc pc = .ok (.ior, 1)) (k : Wx X nL σ (pc + 1) lv (.int (x ||| y) :: st)) : Wx X nL σ pc lv (.int y :: .int x :: st) := fun H locs ls hP hS hl => lv_ior F.1.1 F.1.2.1 hd (k H locs ls hP hS hl)
theorem x_ixor {x y : Int32} (F : Fx X cc nL own Ts fr lo) (hd : decode cc pc = .ok (.ixor, 1)) (k : Wx X nL σ (pc + 1) lv (.int (x ^^^ y) :: st)) : Wx X nL σ pc lv (.int y :: .int x :: st) := fun H locs ls hP hS hl => lv_ixor F.1.1 F.1.2.1 hd (k H locs ls hP hS hl)
theorem x_ishl {x y : Int32} (F : Fx X cc nL own Ts fr lo) (hd : decode cc pc = .ok (.ishl, 1)) (k : Wx X nL σ (pc + 1) lv (.int (x <<< (y &&& 31)) :: st)) : Wx X nL σ pc lv (.int y :: .int x :: st) := fun H locs ls hP hS hl => lv_ishl F.1.1 F.1.2.1 hd (k H locs ls hP hS hl)
theorem x_ishr {x y : Int32} (F : Fx X cc nL own Ts fr lo) (hd : decode cc pc = .ok (.ishr, 1)) (k : Wx X nL σ (pc + 1) lv (.int (x >>> (y &&& 31)) :: st)) : Wx X nL σ pc lv (.int y :: .int x :: st) := fun H locs ls hP hS hl => lv_ishr F.1.1 F.1.2.1 hd (k H locs ls hP hS hl)
theorem x_ladd {x y : Int64} (F : Fx X cc nL own Ts fr lo) (hd : decode cc pc = .ok (.ladd, 1)) (k : Wx X nL σ (pc + 1) lv (.long (x + y) :: st)) : Wx X nL σ pc lv (.long y :: .long x :: st) := fun H locs ls hP hS hl => lv_ladd F.1.1 F.1.2.1 hd (k H locs ls hP hS hl)
theorem x_lsub {x y : Int64} (F : Fx X cc nL own Ts fr lo) (hd : decode cc pc = .ok (.lsub, 1)) (k : Wx X nL σ (pc + 1) lv (.long (x - y) :: st)) : Wx X nL σ pc lv (.long y :: .long x :: st) := fun H locs ls hP hS hl => lv_lsub F.1.1 F.1.2.1 hd (k H locs ls hP hS hl)
theorem x_lmul {x y : Int64} (F : Fx X cc nL own Ts fr lo) (hd : decode cc pc = .ok (.lmul, 1)) (k : Wx X nL σ (pc + 1) lv (.long (x * y) :: st)) : Wx X nL σ pc lv (.long y :: .long x :: st) := fun H locs ls hP hS hl => lv_lmul F.1.1 F.1.2.1 hd (k H locs ls hP hS hl)
theorem x_land {x y : Int64} (F : Fx X cc nL own Ts fr lo) (hd : decode cc pc = .ok (.land, 1)) (k : Wx X nL σ (pc + 1) lv (.long (x &&& y) :: st)) : Wx X nL σ pc lv (.long y :: .long x :: st) := fun H locs ls hP hS hl => lv_land F.1.1 F.1.2.1 hd (k H locs ls hP hS hl)
theorem x_lor {x y : Int64} (F : Fx X cc nL own Ts fr lo) (hd : decode cc pc = .ok (.lor, 1)) (k : Wx X nL σ (pc + 1) lv (.long (x ||| y) :: st)) : Wx X nL σ pc lv (.long y :: .long x :: st) := fun H locs ls hP hS hl => lv_lor F.1.1 F.1.2.1 hd (k H locs ls hP hS hl)
theorem x_lxor {x y : Int64} (F : Fx X cc nL own Ts fr lo) (hd : decode cc pc = .ok (.lxor, 1)) (k : Wx X nL σ (pc + 1) lv (.long (x ^^^ y) :: st)) : Wx X nL σ pc lv (.long y :: .long x :: st) := fun H locs ls hP hS hl => lv_lxor F.1.1 F.1.2.1 hd (k H locs ls hP hS hl)
theorem x_idiv {x y : Int32} (F : Fx X cc nL own Ts fr lo) (hd : decode cc pc = .ok (.idiv, 1)) (h0 : ¬ y = 0) (k : Wx X nL σ (pc + 1) lv (.int (x / y) :: st)) : Wx X nL σ pc lv (.int y :: .int x :: st) := fun H locs ls hP hS hl => lv_idiv F.1.1 F.1.2.1 hd h0 (k H locs ls hP hS hl)
theorem x_irem {x y : Int32} (F : Fx X cc nL own Ts fr lo) (hd : decode cc pc = .ok (.irem, 1)) (h0 : ¬ y = 0) (k : Wx X nL σ (pc + 1) lv (.int (x - x / y * y) :: st)) : Wx X nL σ pc lv (.int y :: .int x :: st) := fun H locs ls hP hS hl => lv_irem F.1.1 F.1.2.1 hd h0 (k H locs ls hP hS hl)
theorem x_ldiv {x y : Int64} (F : Fx X cc nL own Ts fr lo) (hd : decode cc pc = .ok (.ldiv, 1)) (h0 : ¬ y = 0) (k : Wx X nL σ (pc + 1) lv (.long (x / y) :: st)) : Wx X nL σ pc lv (.long y :: .long x :: st) := fun H locs ls hP hS hl => lv_ldiv F.1.1 F.1.2.1 hd h0 (k H locs ls hP hS hl)
theorem x_lrem {x y : Int64} (F : Fx X cc nL own Ts fr lo) (hd : decode cc pc = .ok (.lrem, 1)) (h0 : ¬ y = 0) (k : Wx X nL σ (pc + 1) lv (.long (x - x / y * y) :: st)) : Wx X nL σ pc lv (.long y :: .long x :: st) := fun H locs ls hP hS hl => lv_lrem F.1.1 F.1.2.1 hd h0 (k H locs ls hP hS hl)
theorem x_ineg {x : Int32} (F : Fx X cc nL own Ts fr lo) (hd : decode cc pc = .ok (.ineg, 1)) (k : Wx X nL σ (pc + 1) lv (.int (-x) :: st)) : Wx X nL σ pc lv (.int x :: st) := fun H locs ls hP hS hl => lv_ineg F.1.1 F.1.2.1 hd (k H locs ls hP hS hl)
theorem x_lneg {x : Int64} (F : Fx X cc nL own Ts fr lo) (hd : decode cc pc = .ok (.lneg, 1)) (k : Wx X nL σ (pc + 1) lv (.long (-x) :: st)) : Wx X nL σ pc lv (.long x :: st) := fun H locs ls hP hS hl => lv_lneg F.1.1 F.1.2.1 hd (k H locs ls hP hS hl)
theorem x_i2l {x : Int32} (F : Fx X cc nL own Ts fr lo) (hd : decode cc pc = .ok (.i2l, 1)) (k : Wx X nL σ (pc + 1) lv (.long (x.toInt64) :: st)) : Wx X nL σ pc lv (.int x :: st) := fun H locs ls hP hS hl => lv_i2l F.1.1 F.1.2.1 hd rfl (k H locs ls hP hS hl)
theorem x_l2i {x : Int64} (F : Fx X cc nL own Ts fr lo) (hd : decode cc pc = .ok (.l2i, 1)) (k : Wx X nL σ (pc + 1) lv (.int (x.toInt32) :: st)) : Wx X nL σ pc lv (.long x :: st) := fun H locs ls hP hS hl => lv_l2i F.1.1 F.1.2.1 hd rfl (k H locs ls hP hS hl)
theorem x_i2b {x : Int32} (F : Fx X cc nL own Ts fr lo) (hd : decode cc pc = .ok (.i2b, 1)) (k : Wx X nL σ (pc + 1) lv (.int (x.toInt8.toInt32) :: st)) : Wx X nL σ pc lv (.int x :: st) := fun H locs ls hP hS hl => lv_i2b F.1.1 F.1.2.1 hd rfl (k H locs ls hP hS hl)
theorem x_iushr {x y : Int32} (F : Fx X cc nL own Ts fr lo) (hd : decode cc pc = .ok (.iushr, 1)) (k : Wx X nL σ (pc + 1) lv (.int ((x.toUInt32 >>> (y.toUInt32 &&& Int32.toUInt32 31)).toInt32) :: st)) : Wx X nL σ pc lv (.int y :: .int x :: st) := fun H locs ls hP hS hl => lv_iushr F.1.1 F.1.2.1 hd rfl (k H locs ls hP hS hl)
theorem x_lushr {x : Int64} {y : Int32} (F : Fx X cc nL own Ts fr lo) (hd : decode cc pc = .ok (.lushr, 1)) (k : Wx X nL σ (pc + 1) lv (.long ((x.toUInt64 >>> (y.toInt64.toUInt64 &&& Int64.toUInt64 63)).toInt64) :: st)) : Wx X nL σ pc lv (.int y :: .long x :: st) := fun H locs ls hP hS hl => lv_lushr F.1.1 F.1.2.1 hd rfl (k H locs ls hP hS hl)
theorem x_lshl {x : Int64} {y : Int32} (F : Fx X cc nL own Ts fr lo) (hd : decode cc pc = .ok (.lshl, 1)) (k : Wx X nL σ (pc + 1) lv (.long (x <<< (y.toInt64 &&& 63)) :: st)) : Wx X nL σ pc lv (.int y :: .long x :: st) := fun H locs ls hP hS hl => lv_lshl F.1.1 F.1.2.1 hd rfl (k H locs ls hP hS hl)
theorem x_lcmp {x y : Int64} (F : Fx X cc nL own Ts fr lo) (hd : decode cc pc = .ok (.lcmp, 1)) (k : Wx X nL σ (pc + 1) lv (.int (lg_cmp x y) :: st)) : Wx X nL σ pc lv (.long y :: .long x :: st) := fun H locs ls hP hS hl => W.lcmp F.1.1 F.1.2.1 hd (k H locs ls hP hS hl)
theorem x_iconst {n : Int} (v : Int32) (F : Fx X cc nL own Ts fr lo) (hd : decode cc pc = .ok (.iconst n, 1)) (hv : Int32.ofInt n = v) (k : Wx X nL σ (pc + 1) lv (.int v :: st)) : Wx X nL σ pc lv st := fun H locs ls hP hS hl => lv_iconst F.1.1 F.1.2.1 hd hv (k H locs ls hP hS hl)
theorem x_bipush {n : Int} (v : Int32) (F : Fx X cc nL own Ts fr lo) (hd : decode cc pc = .ok (.bipush n, 2)) (hv : (Int8.ofInt n).toInt32 = v) (k : Wx X nL σ (pc + 2) lv (.int v :: st)) : Wx X nL σ pc lv st := fun H locs ls hP hS hl => lv_bipush F.1.1 F.1.2.1 hd hv (k H locs ls hP hS hl)
theorem x_sipush {n : Int} (v : Int32) (F : Fx X cc nL own Ts fr lo) (hd : decode cc pc = .ok (.sipush n, 3)) (hv : (Int16.ofInt n).toInt32 = v) (k : Wx X nL σ (pc + 3) lv (.int v :: st)) : Wx X nL σ pc lv st := fun H locs ls hP hS hl => lv_sipush F.1.1 F.1.2.1 hd hv (k H locs ls hP hS hl)
theorem x_lconst {n : Fin 2} (v : Int64) (F : Fx X cc nL own Ts fr lo) (hd : decode cc pc = .ok (.lconst n, 1)) (hv : Int64.ofNat (n : Nat) = v) (k : Wx X nL σ (pc + 1) lv (.long v :: st)) : Wx X nL σ pc lv st := fun H locs ls hP hS hl => lv_lconst F.1.1 F.1.2.1 hd hv (k H locs ls hP hS hl)
theorem x_ldc {index : Nat} {v : Int32} (F : Fx X cc nL own Ts fr lo) (hd : decode cc pc = .ok (.ldc index, 2)) (hw : Cond.constant own index v ∈ Ts) (k : Wx X nL σ (pc + 2) lv (.int v :: st)) : Wx X nL σ pc lv st := fun H locs ls hP hS hl => lv_ldc F.1.1 F.1.2.1 F.1.2.2.2.1 (F.1.2.2.2.2 _ hw) hd (k H locs ls hP hS hl)
theorem x_ldc2 {index : Nat} {v : Int64} (F : Fx X cc nL own Ts fr lo) (hd : decode cc pc = .ok (.ldc2_w index, 3)) (hw : Cond.constantLong own index v ∈ Ts) (k : Wx X nL σ (pc + 3) lv (.long v :: st)) : Wx X nL σ pc lv st := fun H locs ls hP hS hl => lv_ldc2 F.1.1 F.1.2.1 F.1.2.2.2.1 (F.1.2.2.2.2 _ hw) hd (k H locs ls hP hS hl)
theorem x_iload_n {kk : Fin 4} {i : Nat} {x : Int32} (F : Fx X cc nL own Ts fr lo) (hd : decode cc pc = .ok (.iload_n kk, 1)) (hi : (kk : Nat) = i) (q : Nat) (hq : lv[q]? = some (i, .int x)) (k : Wx X nL σ (pc + 1) lv (.int x :: st)) : Wx X nL σ pc lv st := fun H locs ls hP hS hl => lv_iload_n F.1.1 F.1.2.1 hd hi (lv_at hl q hq) (k H locs ls hP hS hl)
theorem x_iload {i : Nat} {x : Int32} (F : Fx X cc nL own Ts fr lo) (hd : decode cc pc = .ok (.iload i, 2)) (q : Nat) (hq : lv[q]? = some (i, .int x)) (k : Wx X nL σ (pc + 2) lv (.int x :: st)) : Wx X nL σ pc lv st := fun H locs ls hP hS hl => lv_iload F.1.1 F.1.2.1 hd (lv_at hl q hq) (k H locs ls hP hS hl)
theorem x_lload_n {kk : Fin 4} {i : Nat} {x : Int64} (F : Fx X cc nL own Ts fr lo) (hd : decode cc pc = .ok (.lload_n kk, 1)) (hi : (kk : Nat) = i) (q : Nat) (hq : lv[q]? = some (i, .long x)) (k : Wx X nL σ (pc + 1) lv (.long x :: st)) : Wx X nL σ pc lv st := fun H locs ls hP hS hl => lv_lload_n F.1.1 F.1.2.1 hd hi (lv_at hl q hq) (k H locs ls hP hS hl)
theorem x_lload {i : Nat} {x : Int64} (F : Fx X cc nL own Ts fr lo) (hd : decode cc pc = .ok (.lload i, 2)) (q : Nat) (hq : lv[q]? = some (i, .long x)) (k : Wx X nL σ (pc + 2) lv (.long x :: st)) : Wx X nL σ pc lv st := fun H locs ls hP hS hl => lv_lload F.1.1 F.1.2.1 hd (lv_at hl q hq) (k H locs ls hP hS hl)
theorem x_aload_n {kk : Fin 4} {i : Nat} {x : Nat} (F : Fx X cc nL own Ts fr lo) (hd : decode cc pc = .ok (.aload_n kk, 1)) (hi : (kk : Nat) = i) (q : Nat) (hq : lv[q]? = some (i, .ref x)) (k : Wx X nL σ (pc + 1) lv (.ref x :: st)) : Wx X nL σ pc lv st := fun H locs ls hP hS hl => lv_aload_n F.1.1 F.1.2.1 hd hi (lv_at hl q hq) (k H locs ls hP hS hl)
theorem x_aload {i : Nat} {x : Nat} (F : Fx X cc nL own Ts fr lo) (hd : decode cc pc = .ok (.aload i, 2)) (q : Nat) (hq : lv[q]? = some (i, .ref x)) (k : Wx X nL σ (pc + 2) lv (.ref x :: st)) : Wx X nL σ pc lv st := fun H locs ls hP hS hl => lv_aload F.1.1 F.1.2.1 hd (lv_at hl q hq) (k H locs ls hP hS hl)
theorem x_istore_n {kk : Fin 4} {i : Nat} {x : Int32} {lv' : List (Nat × Value)} (F : Fx X cc nL own Ts fr lo) (hd : decode cc pc = .ok (.istore_n kk, 1)) (hi : (kk : Nat) = i) (hn : i < nL) (hq : (i, Value.int x) :: lv.filter (fun q => !(q.1 == i) && !(q.1 + 1 == i && q.2.category == 2)) = lv') (k : Wx X nL σ (pc + 1) lv' st) : Wx X nL σ pc lv (.int x :: st) := fun H locs ls hP hS hl => lv_istore_n F.1.1 F.1.2.1 hd hi hl hn hq (fun ls2 hl2 => k H locs ls2 hP hS hl2)
theorem x_istore {i : Nat} {x : Int32} {lv' : List (Nat × Value)} (F : Fx X cc nL own Ts fr lo) (hd : decode cc pc = .ok (.istore i, 2)) (hn : i < nL) (hq : (i, Value.int x) :: lv.filter (fun q => !(q.1 == i) && !(q.1 + 1 == i && q.2.category == 2)) = lv') (k : Wx X nL σ (pc + 2) lv' st) : Wx X nL σ pc lv (.int x :: st) := fun H locs ls hP hS hl => lv_istore F.1.1 F.1.2.1 hd hl hn hq (fun ls2 hl2 => k H locs ls2 hP hS hl2)
theorem x_lstore_n {kk : Fin 4} {i : Nat} {x : Int64} {lv' : List (Nat × Value)} (F : Fx X cc nL own Ts fr lo) (hd : decode cc pc = .ok (.lstore_n kk, 1)) (hi : (kk : Nat) = i) (hn : i + 1 < nL) (hq : (i, Value.long x) :: lv.filter (fun q => !(q.1 == i) && (!(q.1 == i + 1) && !(q.1 + 1 == i && q.2.category == 2))) = lv') (k : Wx X nL σ (pc + 1) lv' st) : Wx X nL σ pc lv (.long x :: st) := fun H locs ls hP hS hl => lv_lstore_n F.1.1 F.1.2.1 hd hi hl hn hq (fun ls2 hl2 => k H locs ls2 hP hS hl2)
theorem x_lstore {i : Nat} {x : Int64} {lv' : List (Nat × Value)} (F : Fx X cc nL own Ts fr lo) (hd : decode cc pc = .ok (.lstore i, 2)) (hn : i + 1 < nL) (hq : (i, Value.long x) :: lv.filter (fun q => !(q.1 == i) && (!(q.1 == i + 1) && !(q.1 + 1 == i && q.2.category == 2))) = lv') (k : Wx X nL σ (pc + 2) lv' st) : Wx X nL σ pc lv (.long x :: st) := fun H locs ls hP hS hl => lv_lstore F.1.1 F.1.2.1 hd hl hn hq (fun ls2 hl2 => k H locs ls2 hP hS hl2)
theorem x_astore_n {kk : Fin 4} {i : Nat} {x : Nat} {lv' : List (Nat × Value)} (F : Fx X cc nL own Ts fr lo) (hd : decode cc pc = .ok (.astore_n kk, 1)) (hi : (kk : Nat) = i) (hn : i < nL) (hq : (i, Value.ref x) :: lv.filter (fun q => !(q.1 == i) && !(q.1 + 1 == i && q.2.category == 2)) = lv') (k : Wx X nL σ (pc + 1) lv' st) : Wx X nL σ pc lv (.ref x :: st) := fun H locs ls hP hS hl => lv_astore_n F.1.1 F.1.2.1 hd hi hl hn hq (fun ls2 hl2 => k H locs ls2 hP hS hl2)
theorem x_astore {i : Nat} {x : Nat} {lv' : List (Nat × Value)} (F : Fx X cc nL own Ts fr lo) (hd : decode cc pc = .ok (.astore i, 2)) (hn : i < nL) (hq : (i, Value.ref x) :: lv.filter (fun q => !(q.1 == i) && !(q.1 + 1 == i && q.2.category == 2)) = lv') (k : Wx X nL σ (pc + 2) lv' st) : Wx X nL σ pc lv (.ref x :: st) := fun H locs ls hP hS hl => lv_astore F.1.1 F.1.2.1 hd hl hn hq (fun ls2 hl2 => k H locs ls2 hP hS hl2)
theorem x_iinc {i q : Nat} {n : Int} {x v : Int32} {lv' : List (Nat × Value)} (F : Fx X cc nL own Ts fr lo) (hd : decode cc pc = .ok (.iinc i n, 3)) (hq : lv[q]? = some (i, .int x)) (hv : x + Int32.ofInt n = v) (hn : i < nL) (hr : (i, Value.int v) :: lv.filter (fun q => !(q.1 == i) && !(q.1 + 1 == i && q.2.category == 2)) = lv') (k : Wx X nL σ (pc + 3) lv' st) : Wx X nL σ pc lv st := fun H locs ls hP hS hl => lv_iinc F.1.1 F.1.2.1 hd hl hq hv hn hr (fun ls2 hl2 => k H locs ls2 hP hS hl2)
theorem x_dup {v : Value} (F : Fx X cc nL own Ts fr lo) (hd : decode cc pc = .ok (.dup, 1)) (hv : v.category = 1) (k : Wx X nL σ (pc + 1) lv (v :: v :: st)) : Wx X nL σ pc lv (v :: st) := fun H locs ls hP hS hl => lv_dup F.1.1 F.1.2.1 hd hv (k H locs ls hP hS hl)
theorem x_pop {v : Value} (F : Fx X cc nL own Ts fr lo) (hd : decode cc pc = .ok (.pop, 1)) (hv : v.category = 1) (k : Wx X nL σ (pc + 1) lv st) : Wx X nL σ pc lv (v :: st) := fun H locs ls hP hS hl => lv_pop F.1.1 F.1.2.1 hd hv (k H locs ls hP hS hl)
theorem x_dup2_11 {v u : Value} (F : Fx X cc nL own Ts fr lo) (hd : decode cc pc = .ok (.dup2, 1)) (hv : v.category = 1) (hu : u.category = 1) (k : Wx X nL σ (pc + 1) lv (v :: u :: v :: u :: st)) : Wx X nL σ pc lv (v :: u :: st) := fun H locs ls hP hS hl => lv_dup2_11 F.1.1 F.1.2.1 hd hv hu (k H locs ls hP hS hl)
theorem x_dup_x1 {v u : Value} (F : Fx X cc nL own Ts fr lo) (hd : decode cc pc = .ok (.dup_x1, 1)) (hv : v.category = 1) (hu : u.category = 1) (k : Wx X nL σ (pc + 1) lv (v :: u :: v :: st)) : Wx X nL σ pc lv (v :: u :: st) := fun H locs ls hP hS hl => lv_dup_x1 F.1.1 F.1.2.1 hd hv hu (k H locs ls hP hS hl)
theorem x_goto {off : Int} {tgt : Nat} (F : Fx X cc nL own Ts fr lo) (hd : decode cc pc = .ok (.goto off, 3)) (ht : (pc : Int) + off = (tgt : Int)) (k : Wx X nL σ tgt lv st) : Wx X nL σ pc lv st := fun H locs ls hP hS hl => lv_goto F.1.1 F.1.2.1 hd ht (k H locs ls hP hS hl)
theorem x_if_eq {x : Int32} {off : Int} {tgt : Nat} (F : Fx X cc nL own Ts fr lo) (hd : decode cc pc = .ok (.ifCond .eq off, 3)) (ht : (pc : Int) + off = (tgt : Int)) (kt : x = 0 → Wx X nL σ tgt lv st) (kf : ¬ x = 0 → Wx X nL σ (pc + 3) lv st) : Wx X nL σ pc lv (.int x :: st) := fun H locs ls hP hS hl => lv_if_eq F.1.1 F.1.2.1 hd ht (fun c => kt c H locs ls hP hS hl) (fun c => kf c H locs ls hP hS hl)
theorem x_icmp_eq {x y : Int32} {off : Int} {tgt : Nat} (F : Fx X cc nL own Ts fr lo) (hd : decode cc pc = .ok (.if_icmp .eq off, 3)) (ht : (pc : Int) + off = (tgt : Int)) (kt : x = y → Wx X nL σ tgt lv st) (kf : ¬ x = y → Wx X nL σ (pc + 3) lv st) : Wx X nL σ pc lv (.int y :: .int x :: st) := fun H locs ls hP hS hl => lv_icmp_eq F.1.1 F.1.2.1 hd ht (fun c => kt c H locs ls hP hS hl) (fun c => kf c H locs ls hP hS hl)
theorem x_if_ne {x : Int32} {off : Int} {tgt : Nat} (F : Fx X cc nL own Ts fr lo) (hd : decode cc pc = .ok (.ifCond .ne off, 3)) (ht : (pc : Int) + off = (tgt : Int)) (kt : ¬ x = 0 → Wx X nL σ tgt lv st) (kf : x = 0 → Wx X nL σ (pc + 3) lv st) : Wx X nL σ pc lv (.int x :: st) := fun H locs ls hP hS hl => lv_if_ne F.1.1 F.1.2.1 hd ht (fun c => kt c H locs ls hP hS hl) (fun c => kf c H locs ls hP hS hl)
theorem x_icmp_ne {x y : Int32} {off : Int} {tgt : Nat} (F : Fx X cc nL own Ts fr lo) (hd : decode cc pc = .ok (.if_icmp .ne off, 3)) (ht : (pc : Int) + off = (tgt : Int)) (kt : ¬ x = y → Wx X nL σ tgt lv st) (kf : x = y → Wx X nL σ (pc + 3) lv st) : Wx X nL σ pc lv (.int y :: .int x :: st) := fun H locs ls hP hS hl => lv_icmp_ne F.1.1 F.1.2.1 hd ht (fun c => kt c H locs ls hP hS hl) (fun c => kf c H locs ls hP hS hl)
theorem x_if_lt {x : Int32} {off : Int} {tgt : Nat} (F : Fx X cc nL own Ts fr lo) (hd : decode cc pc = .ok (.ifCond .lt off, 3)) (ht : (pc : Int) + off = (tgt : Int)) (kt : x < 0 → Wx X nL σ tgt lv st) (kf : ¬ x < 0 → Wx X nL σ (pc + 3) lv st) : Wx X nL σ pc lv (.int x :: st) := fun H locs ls hP hS hl => lv_if_lt F.1.1 F.1.2.1 hd ht (fun c => kt c H locs ls hP hS hl) (fun c => kf c H locs ls hP hS hl)
theorem x_icmp_lt {x y : Int32} {off : Int} {tgt : Nat} (F : Fx X cc nL own Ts fr lo) (hd : decode cc pc = .ok (.if_icmp .lt off, 3)) (ht : (pc : Int) + off = (tgt : Int)) (kt : x < y → Wx X nL σ tgt lv st) (kf : ¬ x < y → Wx X nL σ (pc + 3) lv st) : Wx X nL σ pc lv (.int y :: .int x :: st) := fun H locs ls hP hS hl => lv_icmp_lt F.1.1 F.1.2.1 hd ht (fun c => kt c H locs ls hP hS hl) (fun c => kf c H locs ls hP hS hl)
theorem x_if_ge {x : Int32} {off : Int} {tgt : Nat} (F : Fx X cc nL own Ts fr lo) (hd : decode cc pc = .ok (.ifCond .ge off, 3)) (ht : (pc : Int) + off = (tgt : Int)) (kt : 0 ≤ x → Wx X nL σ tgt lv st) (kf : ¬ 0 ≤ x → Wx X nL σ (pc + 3) lv st) : Wx X nL σ pc lv (.int x :: st) := fun H locs ls hP hS hl => lv_if_ge F.1.1 F.1.2.1 hd ht (fun c => kt c H locs ls hP hS hl) (fun c => kf c H locs ls hP hS hl)
theorem x_icmp_ge {x y : Int32} {off : Int} {tgt : Nat} (F : Fx X cc nL own Ts fr lo) (hd : decode cc pc = .ok (.if_icmp .ge off, 3)) (ht : (pc : Int) + off = (tgt : Int)) (kt : y ≤ x → Wx X nL σ tgt lv st) (kf : ¬ y ≤ x → Wx X nL σ (pc + 3) lv st) : Wx X nL σ pc lv (.int y :: .int x :: st) := fun H locs ls hP hS hl => lv_icmp_ge F.1.1 F.1.2.1 hd ht (fun c => kt c H locs ls hP hS hl) (fun c => kf c H locs ls hP hS hl)
theorem x_if_gt {x : Int32} {off : Int} {tgt : Nat} (F : Fx X cc nL own Ts fr lo) (hd : decode cc pc = .ok (.ifCond .gt off, 3)) (ht : (pc : Int) + off = (tgt : Int)) (kt : 0 < x → Wx X nL σ tgt lv st) (kf : ¬ 0 < x → Wx X nL σ (pc + 3) lv st) : Wx X nL σ pc lv (.int x :: st) := fun H locs ls hP hS hl => lv_if_gt F.1.1 F.1.2.1 hd ht (fun c => kt c H locs ls hP hS hl) (fun c => kf c H locs ls hP hS hl)
theorem x_icmp_gt {x y : Int32} {off : Int} {tgt : Nat} (F : Fx X cc nL own Ts fr lo) (hd : decode cc pc = .ok (.if_icmp .gt off, 3)) (ht : (pc : Int) + off = (tgt : Int)) (kt : y < x → Wx X nL σ tgt lv st) (kf : ¬ y < x → Wx X nL σ (pc + 3) lv st) : Wx X nL σ pc lv (.int y :: .int x :: st) := fun H locs ls hP hS hl => lv_icmp_gt F.1.1 F.1.2.1 hd ht (fun c => kt c H locs ls hP hS hl) (fun c => kf c H locs ls hP hS hl)
theorem x_if_le {x : Int32} {off : Int} {tgt : Nat} (F : Fx X cc nL own Ts fr lo) (hd : decode cc pc = .ok (.ifCond .le off, 3)) (ht : (pc : Int) + off = (tgt : Int)) (kt : x ≤ 0 → Wx X nL σ tgt lv st) (kf : ¬ x ≤ 0 → Wx X nL σ (pc + 3) lv st) : Wx X nL σ pc lv (.int x :: st) := fun H locs ls hP hS hl => lv_if_le F.1.1 F.1.2.1 hd ht (fun c => kt c H locs ls hP hS hl) (fun c => kf c H locs ls hP hS hl)
theorem x_icmp_le {x y : Int32} {off : Int} {tgt : Nat} (F : Fx X cc nL own Ts fr lo) (hd : decode cc pc = .ok (.if_icmp .le off, 3)) (ht : (pc : Int) + off = (tgt : Int)) (kt : x ≤ y → Wx X nL σ tgt lv st) (kf : ¬ x ≤ y → Wx X nL σ (pc + 3) lv st) : Wx X nL σ pc lv (.int y :: .int x :: st) := fun H locs ls hP hS hl => lv_icmp_le F.1.1 F.1.2.1 hd ht (fun c => kt c H locs ls hP hS hl) (fun c => kf c H locs ls hP hS hl)
theorem x_sub {lv' : List (Nat × Value)} (ks : List Nat) (h : lv_pick lv ks = lv') (k : Wx X nL σ pc lv' st) : Wx X nL σ pc lv st := fun H locs ls hP hS hl => k H locs ls hP hS (lv_sub hl ks h)
theorem x_topi {x : Int32} (k : ∀ y : Int32, y = x → Wx X nL σ pc lv (.int y :: st)) : Wx X nL σ pc lv (.int x :: st) := k x rfl
theorem x_topl {x : Int64} (k : ∀ y : Int64, y = x → Wx X nL σ pc lv (.long y :: st)) : Wx X nL σ pc lv (.long x :: st) := k x rfl
theorem x_get {i ci index k0 : Nat} {C ref : String} {T : u_T} {n : Nat} {fs : List Value} {v : Value} (F : Fx X cc nL own Ts fr lo) (hi : i < wN) (hc : vwCl[ci]? = some (C, T, n)) (he : cl0 (xg X) i (σ.1 i) (σ.2 i) = .inr (ci, fs)) (hin : ∀ w ∈ u_ws C T n, w ∈ Ts) (hk : k0 < n) (href : (T k0).1 = ref) (hl : Cond.fieldLink own index ref (T k0).2.1 (T k0).2.2.1 ∈ Ts) (hv : fs[k0]? = some v) (hd : decode cc pc = .ok (.getfield index, 3)) (k : Wx X nL σ (pc + 3) lv (v :: st)) : Wx X nL σ pc lv (.ref (ad X i) :: st) := fun H locs ls hP hS hls => va_get F.1.1 F.1.2.1 F.1.2.2.2.2 hin F.1.2.2.2.1 F.2.1.1 hP i (by rw [wld_at hi, he]) hc k0 hk (F.1.2.2.2.2 _ hl) (fun _ h9 => by rw [← href]; exact h9) hv hd (k H locs ls hP hS hls)
theorem x_put {i ci index k0 : Nat} {C ref : String} {T : u_T} {n : Nat} {fs : List Value} {v : Value} {τ : wS} {ty0 : Nat → FieldType} {ty : FieldType} (F : Fx X cc nL own Ts fr lo) (hi : i < wN) (hc : vwCl[ci]? = some (C, T, n)) (he : cl0 (xg X) i (σ.1 i) (σ.2 i) = .inr (ci, fs)) (hin : ∀ w ∈ u_ws C T n, w ∈ Ts) (hty : ∀ k, k < n → parseFieldDescriptor (T k).2.2.1 = some (ty0 k)) (hnm : ∀ a, a < n → ∀ b, b < n → a ≠ b → (T a).2.1 ≠ (T b).2.1) (hk : k0 < n) (href : (T k0).1 = ref) (hl : Cond.fieldLink own index ref (T k0).2.1 (T k0).2.2.1 ∈ Ts) (hfin : (T k0).2.2.2 = false) (hd0 : parseFieldDescriptor (T k0).2.2.1 = some ty) (hnar : narrow ty v = v) (hfit : fits ty v = true) (hlen : k0 < fs.length) (h1 : ∀ j, j ≠ i → τ.1 j = σ.1 j ∧ τ.2 j = σ.2 j) (he2 : cl0 (xg X) i (τ.1 i) (τ.2 i) = .inr (ci, fs.set k0 v)) (hd : decode cc pc = .ok (.putfield index, 3)) (k : Wx X nL τ (pc + 3) lv st) : Wx X nL σ pc lv (v :: .ref (ad X i) :: st) := fun H locs ls hP hS hls => va_put F.1.1 F.1.2.1 F.1.2.2.2.2 hin ty0 hty hnm F.1.2.2.2.1 F.2.1.1 hP (wld_D F.2.2.1 σ) hS i (by rw [wld_at hi, he]) hc k0 hk (F.1.2.2.2.2 _ hl) (fun _ h9 => by rw [← href]; exact h9) hfin hd0 hnar hfit hlen hd (fun H1 locs1 hP1 _ hS1 => k H1 locs1 ls (by rw [wld_set _ hi h1 he2] at hP1; exact hP1) hS1 hls)
theorem x_iald {i n : Nat} {j : Int32} (F : Fx X cc nL own Ts fr lo) (hk : kd i = 14) (hn : ln i = n) (hj : vp_in j n) (hd : decode cc pc = .ok (.iaload, 1)) (k : Wx X nL σ (pc + 1) lv (.int (σ.1 i j.toNatClampNeg) :: st)) : Wx X nL σ pc lv (.int j :: .ref (ad X i) :: st) := fun H locs ls hP hS hls => va_iald F.1.1 F.1.2.1 F.2.1.1 hP i 1 (by rw [wld_at (kd_w (by decide) hk), cl_14 hk]) rfl (by rw [hn]; exact hj) hd (k H locs ls hP hS hls)
theorem x_bald {i n : Nat} {j : Int32} (F : Fx X cc nL own Ts fr lo) (hk : kd i = 13) (hn : ln i = n) (hj : vp_in j n) (hd : decode cc pc = .ok (.baload, 1)) (k : Wx X nL σ (pc + 1) lv (.int (σ.1 i j.toNatClampNeg) :: st)) : Wx X nL σ pc lv (.int j :: .ref (ad X i) :: st) := fun H locs ls hP hS hls => va_bald F.1.1 F.1.2.1 F.2.1.1 hP i 0 (by rw [wld_at (kd_w (by decide) hk), cl_13 hk]) rfl (by rw [hn]; exact hj) hd (k H locs ls hP hS hls)
theorem x_zald {i n : Nat} {j : Int32} (F : Fx X cc nL own Ts fr lo) (hk : kd i = 16) (hn : ln i = n) (hj : vp_in j n) (hd : decode cc pc = .ok (.baload, 1)) (k : Wx X nL σ (pc + 1) lv (.int (σ.1 i j.toNatClampNeg) :: st)) : Wx X nL σ pc lv (.int j :: .ref (ad X i) :: st) := fun H locs ls hP hS hls => va_zald F.1.1 F.1.2.1 F.2.1.1 hP i 3 (by rw [wld_at (kd_w (by decide) hk), cl_16 hk]) rfl (by rw [hn]; exact hj) hd (k H locs ls hP hS hls)
theorem x_lald {i n : Nat} {j : Int32} (F : Fx X cc nL own Ts fr lo) (hk : kd i = 15) (hn : ln i = n) (hj : vp_in j n) (hd : decode cc pc = .ok (.laload, 1)) (k : Wx X nL σ (pc + 1) lv (.long (σ.2 i j.toNatClampNeg) :: st)) : Wx X nL σ pc lv (.int j :: .ref (ad X i) :: st) := fun H locs ls hP hS hls => va_lald F.1.1 F.1.2.1 F.2.1.1 hP i 2 (by rw [wld_at (kd_w (by decide) hk), cl_15 hk]) rfl (by rw [hn]; exact hj) hd (k H locs ls hP hS hls)
theorem x_iast {i n : Nat} {j : Int32} {x : Int32} (F : Fx X cc nL own Ts fr lo) (hk : kd i = 14) (hn : ln i = n) (hj : vp_in j n) (hd : decode cc pc = .ok (.iastore, 1)) (k : Wx X nL (upI σ i j.toNatClampNeg x) (pc + 1) lv st) : Wx X nL σ pc lv (.int x :: .int j :: .ref (ad X i) :: st) := fun H locs ls hP hS hls => va_iast F.1.1 F.1.2.1 F.2.1.1 hP (wld_D F.2.2.1 σ) hS i 1 (by rw [wld_at (kd_w (by decide) hk), cl_14 hk]) rfl (by rw [hn]; exact hj) hd (fun H1 locs1 hP1 _ hS1 => k H1 locs1 ls (by rw [wld_set (τ := upI σ i j.toNatClampNeg x) _ (kd_w (by decide) hk) (fun _ hj => setI_ne hj) (by rw [cl_14 hk]; simp [upI, setI])] at hP1; exact hP1) hS1 hls)
theorem x_bast {i n : Nat} {j : Int32} {x : Int32} (F : Fx X cc nL own Ts fr lo) (hk : kd i = 13) (hn : ln i = n) (hj : vp_in j n) (hd : decode cc pc = .ok (.bastore, 1)) (k : Wx X nL (upI σ i j.toNatClampNeg (vp_nar .byte x)) (pc + 1) lv st) : Wx X nL σ pc lv (.int x :: .int j :: .ref (ad X i) :: st) := fun H locs ls hP hS hls => va_bast F.1.1 F.1.2.1 F.2.1.1 hP (wld_D F.2.2.1 σ) hS i 0 (by rw [wld_at (kd_w (by decide) hk), cl_13 hk]) rfl (by rw [hn]; exact hj) hd (fun H1 locs1 hP1 _ hS1 => k H1 locs1 ls (by rw [wld_set (τ := upI σ i j.toNatClampNeg (vp_nar .byte x)) _ (kd_w (by decide) hk) (fun _ hj => setI_ne hj) (by rw [cl_13 hk]; simp [upI, setI])] at hP1; exact hP1) hS1 hls)
theorem x_zast {i n : Nat} {j : Int32} {x : Int32} (F : Fx X cc nL own Ts fr lo) (hk : kd i = 16) (hn : ln i = n) (hj : vp_in j n) (hd : decode cc pc = .ok (.bastore, 1)) (k : Wx X nL (upI σ i j.toNatClampNeg (vp_nar .boolean x)) (pc + 1) lv st) : Wx X nL σ pc lv (.int x :: .int j :: .ref (ad X i) :: st) := fun H locs ls hP hS hls => va_zast F.1.1 F.1.2.1 F.2.1.1 hP (wld_D F.2.2.1 σ) hS i 3 (by rw [wld_at (kd_w (by decide) hk), cl_16 hk]) rfl (by rw [hn]; exact hj) hd (fun H1 locs1 hP1 _ hS1 => k H1 locs1 ls (by rw [wld_set (τ := upI σ i j.toNatClampNeg (vp_nar .boolean x)) _ (kd_w (by decide) hk) (fun _ hj => setI_ne hj) (by rw [cl_16 hk]; simp [upI, setI])] at hP1; exact hP1) hS1 hls)
theorem x_last {i n : Nat} {j : Int32} {x : Int64} (F : Fx X cc nL own Ts fr lo) (hk : kd i = 15) (hn : ln i = n) (hj : vp_in j n) (hd : decode cc pc = .ok (.lastore, 1)) (k : Wx X nL (upJ σ i j.toNatClampNeg x) (pc + 1) lv st) : Wx X nL σ pc lv (.long x :: .int j :: .ref (ad X i) :: st) := fun H locs ls hP hS hls => va_last F.1.1 F.1.2.1 F.2.1.1 hP (wld_D F.2.2.1 σ) hS i 2 (by rw [wld_at (kd_w (by decide) hk), cl_15 hk]) rfl (by rw [hn]; exact hj) hd (fun H1 locs1 hP1 _ hS1 => k H1 locs1 ls (by rw [wld_set (τ := upJ σ i j.toNatClampNeg x) _ (kd_w (by decide) hk) (fun _ hj => setJ_ne hj) (by rw [cl_15 hk]; simp [upJ, setJ])] at hP1; exact hP1) hS1 hls)
theorem x_stat {k : Nat} (F : Fx X cc nL own Ts fr lo) (hk : k < 10) : va_T (if kd (200 + k) = 25 then .char else .int) (ad X (200 + k)) (ln (200 + k)) (fun j => .int (stv (200 + k) j)) (xA X) (xs X) (xs X).heap := F.2.1.2.2.2.2.1 k hk
theorem kd_s {c i : Nat} (hc : c = 24 ∨ c = 25) (hk : kd i = c) : ∃ k, k < 10 ∧ i = 200 + k := by
  have h : ∀ i, i < 213 → (kd i = 24 ∨ kd i = 25) → 200 ≤ i ∧ i < 210 := by decide +kernel
  have h2 := h i (kd_lt (by rw [hk]; omega)) (by omega)
  exact ⟨i - 200, by omega, by omega⟩
theorem x_ialdS {i n : Nat} {j : Int32} (F : Fx X cc nL own Ts fr lo) (hk : kd i = 24) (hn : ln i = n) (hj : vp_in j n) (hd : decode cc pc = .ok (.iaload, 1)) (k : Wx X nL σ (pc + 1) lv (.int (stv i j.toNatClampNeg) :: st)) : Wx X nL σ pc lv (.int j :: .ref (ad X i) :: st) := fun H locs ls hP hS hls => by
  obtain ⟨q, hq, rfl⟩ := kd_s (Or.inl rfl) hk
  have hT := x_stat F hq
  rw [if_neg (by rw [hk]; decide), hn] at hT
  exact va_ti F.1.1 F.1.2.1 hT hS hj rfl hd (k H locs ls hP hS hls)
theorem x_caldS {i n : Nat} {j : Int32} (F : Fx X cc nL own Ts fr lo) (hk : kd i = 25) (hn : ln i = n) (hj : vp_in j n) (hd : decode cc pc = .ok (.caload, 1)) (k : Wx X nL σ (pc + 1) lv (.int (stv i j.toNatClampNeg) :: st)) : Wx X nL σ pc lv (.int j :: .ref (ad X i) :: st) := fun H locs ls hP hS hls => by
  obtain ⟨q, hq, rfl⟩ := kd_s (Or.inr rfl) hk
  have hT := x_stat F hq
  rw [if_pos hk, hn] at hT
  exact va_tc F.1.1 F.1.2.1 hT hS hj rfl hd (k H locs ls hP hS hls)
theorem x_alen {i n : Nat} (F : Fx X cc nL own Ts fr lo) (hk : kd i = 14) (hn : ln i = n) (hd : decode cc pc = .ok (.arraylength, 1)) (k : Wx X nL σ (pc + 1) lv (.int (nI n) :: st)) : Wx X nL σ pc lv (.ref (ad X i) :: st) := fun H locs ls hP hS hls => va_alen F.1.1 F.1.2.1 F.2.1.1 hP i 1 (by rw [wld_at (kd_w (by decide) hk), cl_14 hk]) rfl (by show Int32.ofNat (ln i) = nI n; rw [hn]; rfl) hd (k H locs ls hP hS hls)
theorem x_alenL {i n : Nat} (F : Fx X cc nL own Ts fr lo) (hk : kd i = 15) (hn : ln i = n) (hd : decode cc pc = .ok (.arraylength, 1)) (k : Wx X nL σ (pc + 1) lv (.int (nI n) :: st)) : Wx X nL σ pc lv (.ref (ad X i) :: st) := fun H locs ls hP hS hls => va_alen F.1.1 F.1.2.1 F.2.1.1 hP i 2 (by rw [wld_at (kd_w (by decide) hk), cl_15 hk]) rfl (by show Int32.ofNat (ln i) = nI n; rw [hn]; rfl) hd (k H locs ls hP hS hls)
theorem x_alenC {i n : Nat} (F : Fx X cc nL own Ts fr lo) (hk : kd i = 25) (hn : ln i = n) (hd : decode cc pc = .ok (.arraylength, 1)) (k : Wx X nL σ (pc + 1) lv (.int (nI n) :: st)) : Wx X nL σ pc lv (.ref (ad X i) :: st) := fun H locs ls hP hS hls => by
  obtain ⟨q, hq, rfl⟩ := kd_s (Or.inr rfl) hk
  have hT := x_stat F hq
  rw [hn] at hT
  exact va_tlen F.1.1 F.1.2.1 hT hS rfl hd (k H locs ls hP hS hls)
theorem x_aald17 {i n : Nat} {j : Int32} (F : Fx X cc nL own Ts fr lo) (hk : kd i = 17) (hn : ln i = n) (hj : vp_in j n) (hd : decode cc pc = .ok (.aaload, 1)) (k : Wx X nL σ (pc + 1) lv (.ref (ad X (56 + 3 * j.toNatClampNeg)) :: st)) : Wx X nL σ pc lv (.int j :: .ref (ad X i) :: st) := fun H locs ls hP hS hls => va_aldq (f := fun k => some ((xg X).2.2 (56 + 3 * k))) F.1.1 F.1.2.1 F.2.1.1 hP i 4 (by rw [wld_at (kd_w (by decide) hk), cl_17 hk]) rfl (by rw [hn]; exact hj) hd (k H locs ls hP hS hls)
theorem x_aald18 {i n : Nat} {j : Int32} (F : Fx X cc nL own Ts fr lo) (hk : kd i = 18) (hn : ln i = n) (hj : vp_in j n) (hd : decode cc pc = .ok (.aaload, 1)) (k : Wx X nL σ (pc + 1) lv (.ref (ad X (19 + 2 * j.toNatClampNeg)) :: st)) : Wx X nL σ pc lv (.int j :: .ref (ad X i) :: st) := fun H locs ls hP hS hls => va_aldq (f := fun k => some ((xg X).2.2 (19 + 2 * k))) F.1.1 F.1.2.1 F.2.1.1 hP i 5 (by rw [wld_at (kd_w (by decide) hk), cl_18 hk]) rfl (by rw [hn]; exact hj) hd (k H locs ls hP hS hls)
theorem x_gets {index q : Nat} (F : Fx X cc nL own Ts fr lo) (hq : q < 10) (hl : Cond.fieldLink own index "MooringDesk" (stn q).1 (stn q).2 ∈ Ts) (hd : decode cc pc = .ok (.getstatic index, 3)) (k : Wx X nL σ (pc + 3) lv (.ref (ad X (200 + q)) :: st)) : Wx X nL σ pc lv st := fun H locs ls hP hS hls => va_gets F.1.1 F.1.2.1 (F.2.1.2.2.2.1 q hq) hS F.1.2.2.2.1 (F.1.2.2.2.2 _ hl) (fun _ h => h) hd (k H locs ls hP hS hls)
theorem x_getsN {index q : Nat} (F : Fx X cc nL own Ts fr lo) (hq : q < 10) (hl : (own, index, (stn q).1, (stn q).2) ∈ nsF) (hd : decode cc pc = .ok (.getstatic index, 3)) (k : Wx X nL σ (pc + 3) lv (.ref (ad X (200 + q)) :: st)) : Wx X nL σ pc lv st := fun H locs ls hP hS hls => va_getsN F.1.1 F.1.2.1 (F.2.1.2.2.2.1 q hq) hS F.1.2.2.2.1 (va_Nw.use rfl (F.2.1.2.1 _ hl)) (fun _ h => h) hd (k H locs ls hP hS hls)
end XB
