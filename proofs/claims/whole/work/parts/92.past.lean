/-! the past made -/
theorem bw_2_7 : Cond.instantiable RX3 8 ∈ wsL_law := bc_2 (List.Mem.tail _ (List.Mem.tail _ (List.Mem.tail _ (List.Mem.tail _ (List.Mem.tail _ (List.Mem.tail _ (List.Mem.tail _ (List.Mem.head _))))))))
theorem bw_4_16 : Cond.instanceMethod yX3_init ∈ wsL_law := bc_4 (List.Mem.tail _ (List.Mem.tail _ (List.Mem.tail _ (List.Mem.tail _ (List.Mem.tail _ (List.Mem.tail _ (List.Mem.tail _ (List.Mem.tail _ (List.Mem.tail _ (List.Mem.tail _ (List.Mem.tail _ (List.Mem.tail _ (List.Mem.tail _ (List.Mem.tail _ (List.Mem.tail _ (List.Mem.tail _ (List.Mem.head _)))))))))))))))))
theorem bw_4_17 : Cond.code yX3_init cX3_init 1 none ∈ wsL_law := bc_4 (List.Mem.tail _ (List.Mem.tail _ (List.Mem.tail _ (List.Mem.tail _ (List.Mem.tail _ (List.Mem.tail _ (List.Mem.tail _ (List.Mem.tail _ (List.Mem.tail _ (List.Mem.tail _ (List.Mem.tail _ (List.Mem.tail _ (List.Mem.tail _ (List.Mem.tail _ (List.Mem.tail _ (List.Mem.tail _ (List.Mem.tail _ (List.Mem.head _))))))))))))))))))
theorem bw_6_11 : Cond.methodLink RX6 3 objectInit ∈ wsL_law := bc_6 (List.Mem.tail _ (List.Mem.tail _ (List.Mem.tail _ (List.Mem.tail _ (List.Mem.tail _ (List.Mem.tail _ (List.Mem.tail _ (List.Mem.tail _ (List.Mem.tail _ (List.Mem.tail _ (List.Mem.tail _ (List.Mem.head _))))))))))))
theorem bw_6_12 : Cond.classLink RX6 9 RX3 ∈ wsL_law := bc_6 (List.Mem.tail _ (List.Mem.tail _ (List.Mem.tail _ (List.Mem.tail _ (List.Mem.tail _ (List.Mem.tail _ (List.Mem.tail _ (List.Mem.tail _ (List.Mem.tail _ (List.Mem.tail _ (List.Mem.tail _ (List.Mem.tail _ (List.Mem.head _)))))))))))))
def hL : Nat → List Nat
  | 0 => []
  | j + 1 => (56 + 3 * j) :: (56 + 3 * j + 2) :: (56 + 3 * j + 1) :: hL j
def sL : Nat → List Nat
  | 0 => []
  | j + 1 => (19 + 2 * j) :: (19 + 2 * j + 1) :: sL j
def fA (g : wG) (j : Nat) : Nat → Option Nat := fun k => if k < j then some (g.2.2 (56 + 3 * k)) else none
def fS (g : wG) (j : Nat) : Nat → Option Nat := fun k => if k < j then some (g.2.2 (19 + 2 * k)) else none
theorem fA_0 (g : wG) : fA g 0 = fun _ => none := by funext k; simp [fA]
theorem fA_up (g : wG) (j : Nat) : va_up (fA g j) j (some (g.2.2 (56 + 3 * j))) = fA g (j + 1) := by
  funext k
  unfold va_up fA
  by_cases h : k = j
  · subst h; rw [if_pos rfl, if_pos (by omega)]
  · rw [if_neg h]
    by_cases h2 : k < j
    · rw [if_pos h2, if_pos (by omega)]
    · rw [if_neg h2, if_neg (by omega)]
theorem fS_0 (g : wG) : fS g 0 = fun _ => none := by funext k; simp [fS]
theorem fS_up (g : wG) (j : Nat) : va_up (fS g j) j (some (g.2.2 (19 + 2 * j))) = fS g (j + 1) := by
  funext k
  unfold va_up fS
  by_cases h : k = j
  · subst h; rw [if_pos rfl, if_pos (by omega)]
  · rw [if_neg h]
    by_cases h2 : k < j
    · rw [if_pos h2, if_pos (by omega)]
    · rw [if_neg h2, if_neg (by omega)]
theorem kd_hL {j : Nat} (h : j < 40) : kd (56 + 3 * j) = 3 := by
  have : ∀ j, j < 40 → kd (56 + 3 * j) = 3 := by decide +kernel
  exact this j h
theorem kd_sL {j : Nat} (h : j < 5) : kd (19 + 2 * j) = 9 := by
  have : ∀ j, j < 5 → kd (19 + 2 * j) = 9 := by decide +kernel
  exact this j h
theorem off_h : ∀ j, j < 40 → offT.getD (56 + 3 * j) 0 = 39 + 3 * j ∧ offT.getD (56 + 3 * j + 1) 0 = 40 + 3 * j ∧ offT.getD (56 + 3 * j + 2) 0 = 41 + 3 * j := by decide +kernel
theorem off_s : ∀ j, j < 5 → offT.getD (19 + 2 * j) 0 = 166 + 2 * j ∧ offT.getD (19 + 2 * j + 1) 0 = 167 + 2 * j := by decide +kernel
theorem cA {g : wG} {E : va_W} {L eids : List Nat} (h : E.map Prod.fst = eids.map g.2.2) : (wl g L ++ E).map Prod.fst = (L ++ eids).map g.2.2 := by rw [List.map_append, List.map_append, wl_fst, h]
theorem arr_same {cA : ClassId} {n : Nat} {f f2 : Nat → Option Nat} (h : ∀ j, j < n → f j = f2 j) : vp_cell cA (n, .inr (.inr (.inr (.inr f)))) = vp_cell cA (n, .inr (.inr (.inr (.inr f2)))) := by
  rw [vp_cell_q, vp_cell_q]
  unfold arrV
  congr 2
  funext j
  show va_rf (f j.val) = va_rf (f2 j.val)
  rw [h j.val j.isLt]
theorem pc_eq {D : va_G} {cl : List vw_C} {x : Nat × va_E} {a : Nat} {cA : ClassId} {n : Nat} {f f2 : Nat → Option Nat} {E : va_W} {H : Heap} (hf : ∀ j, j < n → f j = f2 j) (h : va_P D cl (x :: (a, .inl (cA, n, .inr (.inr (.inr (.inr f))))) :: E) H) : va_P D cl (x :: (a, .inl (cA, n, .inr (.inr (.inr (.inr f2))))) :: E) H := by
  intro k q hk
  match k, hk with
  | 0, hk => exact h 0 q hk
  | 1, hk =>
    cases hk
    have h1 : H[a]? = some (vp_cell cA (n, .inr (.inr (.inr (.inr f))))) := h 1 _ rfl
    show H[a]? = some (vp_cell cA (n, .inr (.inr (.inr (.inr f2)))))
    rw [h1, arr_same hf]
  | k + 2, hk => exact h (k + 2) q hk
abbrev wvX6_init : List Cond := Cond.code yX6_init cX6_init 2 none :: wsL_law
theorem cd_X6_init : okN yX6_init RX6 0 := by unfold okN; decide +kernel
set_option maxRecDepth 100000 in
set_option maxHeartbeats 4000000 in
theorem past_loop {X : XT} {E : va_W} {eids : List Nat} {base : Nat} (F : Fx X cX6_init 2 RX6 wvX6_init 2 45) (hK : Kg (xs X)) (hn : (xs X).heap.size = base + 38) (hofj : ∀ j, j < 40 → (xg X).2.2 (56 + 3 * j) = base + 39 + 3 * j ∧ (xg X).2.2 (56 + 3 * j + 1) = base + 40 + 3 * j ∧ (xg X).2.2 (56 + 3 * j + 2) = base + 41 + 3 * j) (hof : ∀ j m, j < 200 → offT.getD j 0 = m → (xg X).2.2 j = base + m) (hc : (xR X).cells = 121) (hs : (xR X).slots = 800) (hupb : ∀ q, base ≤ q → xA X q) (hE : E.map Prod.fst = eids.map (xg X).2.2) (hok : ∀ j, j ≤ 40 → okI (50 :: 51 :: (hL j ++ eids))) (hl0 : ∃ (p : Nat) (q : Nat × va_E), (((xg X).2.2 50, .inr (6, [.ref ((xg X).2.2 51), .int 0, .int 0])) :: ((xg X).2.2 51, .inl ((xg X).2.1 17, 40, .inr (.inr (.inr (.inr (fA (xg X) 0)))))) :: (wl (xg X) (hL 0) ++ E))[p]? = some q ∧ q.1 + 1 = (xg X).2.2 56) (hret : ∀ lv, Gx X 2 (((xg X).2.2 50, .inr (6, [.ref ((xg X).2.2 51), .int 0, .int 0])) :: ((xg X).2.2 51, .inl ((xg X).2.1 17, 40, .inr (.inr (.inr (.inr (fA (xg X) 40)))))) :: (wl (xg X) (hL 40) ++ E)) 121 800 53 lv []) : ∀ d j, j + d = 40 → Gx X 2 (((xg X).2.2 50, .inr (6, [.ref ((xg X).2.2 51), .int 0, .int 0])) :: ((xg X).2.2 51, .inl ((xg X).2.1 17, 40, .inr (.inr (.inr (.inr (fA (xg X) j)))))) :: (wl (xg X) (hL j) ++ E)) (1 + 3 * j) (40 + 19 * j) 25 [(1, .int (nI j)), (0, .ref ((xg X).2.2 50))] [] := by
  intro d
  induction d with
  | zero =>
    intro j hj
    obtain rfl : j = 40 := by omega
    refine y_iload_n F dX6_init_25 rfl 0 rfl ?_
    refine y_aload_n F dX6_init_26 rfl 1 rfl ?_
    refine y_get (q0 := 0) (ci := 6) (C := RX6) (T := TX6) (n := 3) (k0 := 0) F rfl rfl in_6 (by decide) rfl (mc bw_6_13) rfl dX6_init_27 ?_
    refine y_alen (q0 := 1) (t0 := 4) (v := nI 40) F rfl rfl rfl dX6_init_30 ?_
    exact y_icmp_ge (tgt := 53) F dX6_init_31 (by decide) (fun _ => hret _) (fun c => absurd (by decide) c)
  | succ d ih =>
    intro j hj
    have hj2 : j < 40 := by omega
    have aj := hofj j hj2
    have ajl := hofj 0 (by decide)
    refine y_iload_n F dX6_init_25 rfl 0 rfl ?_
    refine y_aload_n F dX6_init_26 rfl 1 rfl ?_
    refine y_get (q0 := 0) (ci := 6) (C := RX6) (T := TX6) (n := 3) (k0 := 0) F rfl rfl in_6 (by decide) rfl (mc bw_6_13) rfl dX6_init_27 ?_
    refine y_alen (q0 := 1) (t0 := 4) (v := nI 40) F rfl rfl rfl dX6_init_30 ?_
    refine y_icmp_ge (tgt := 53) F dX6_init_31 (by decide) (fun c => absurd c (nI_ge hj2 (by decide))) (fun _ => ?_)
    refine y_aload_n F dX6_init_34 rfl 1 rfl ?_
    refine y_get (q0 := 0) (ci := 6) (C := RX6) (T := TX6) (n := 3) (k0 := 0) F rfl rfl in_6 (by decide) rfl (mc bw_6_13) rfl dX6_init_35 ?_
    refine y_iload_n F dX6_init_38 rfl 0 rfl ?_
    have hlast : 1 + 3 * j = 0 ∨ ∃ (p : Nat) (q : Nat × va_E), (((xg X).2.2 50, .inr (6, [.ref ((xg X).2.2 51), .int 0, .int 0])) :: ((xg X).2.2 51, .inl ((xg X).2.1 17, 40, .inr (.inr (.inr (.inr (fA (xg X) j)))))) :: (wl (xg X) (hL j) ++ E))[p]? = some q ∧ q.1 + 1 = (xg X).2.2 (56 + 3 * j) := by
      cases j with
      | zero => exact Or.inr hl0
      | succ j' => exact Or.inr ⟨3, _, rfl, by show (xg X).2.2 (56 + 3 * j' + 2) + 1 = (xg X).2.2 (56 + 3 * (j' + 1)); have ap := hofj j' (by omega); omega⟩
    refine y_new (N := 8) (a := (xg X).2.2 (56 + 3 * j)) (ci := 3) (C := RX3) (T := TX3) (fs := bl3) (ty := tyX3) F in_3 tyX3_ok (mc bw_6_12) (mc bw_2_7) (mc bw_2_8) rfl bf3 (by omega) hlast (by rw [hc]; omega) (by rw [hs]; omega) dX6_init_39 ?_
    refine y_dup F dX6_init_42 rfl ?_
    refine y_callN (n := (xg X).2.2 (56 + 3 * j) + 1) (As := []) (ws2 := ((xg X).2.2 50, .inr (6, [.ref ((xg X).2.2 51), .int 0, .int 0])) :: ((xg X).2.2 51, .inl ((xg X).2.1 17, 40, .inr (.inr (.inr (.inr (fA (xg X) j)))))) :: fz (xg X) (56 + 3 * j) :: fz (xg X) (56 + 3 * j + 2) :: fz (xg X) (56 + 3 * j + 1) :: (wl (xg X) (hL j) ++ E)) F hK (c_X3_init (xl X) (xg X) (xA X) F.2.2.1 (kd_hL hj2) (cE (cE (cA hE))) ((hok (j + 1) (by omega)).perm (List.Perm.append_right (hL j ++ eids) (List.perm_append_comm (l₁ := [50, 51]) (l₂ := [(56 + 3 * j), (56 + 3 * j + 2), (56 + 3 * j + 1)])))) rfl (by omega) (by omega) (fun q hq => hupb q (by omega))) (bw_own bw_4_17) rfl (List.Mem.tail _ (List.Mem.tail _ (List.Mem.tail _ (List.Mem.tail _ (List.Mem.tail _ (List.Mem.tail _ (List.Mem.tail _ (List.Mem.tail _ (List.Mem.tail _ (List.Mem.head _)))))))))) (mc bw_2_8) (mc bw_4_16) rfl cd_X3_init (Nat.le_of_ble_eq_true rfl) (Nat.le_of_ble_eq_true rfl) rfl (by omega) (Or.inr ⟨0, _, rfl, rfl⟩) (by rw [hc]; omega) (by rw [hs]; omega) rfl (Nat.le_of_ble_eq_true rfl) dX6_init_43 (p_mid2 [fz (xg X) (56 + 3 * j), fz (xg X) (56 + 3 * j + 2), fz (xg X) (56 + 3 * j + 1)]) ?_
    refine y_aast (q0 := 1) (t0 := 4) (qk := 2) (ci := 3) (r := (RX3, TX3, 8)) (ws2 := ((xg X).2.2 50, .inr (6, [.ref ((xg X).2.2 51), .int 0, .int 0])) :: ((xg X).2.2 51, .inl ((xg X).2.1 17, 40, .inr (.inr (.inr (.inr (fA (xg X) (j + 1))))))) :: (wl (xg X) (hL (j + 1)) ++ E)) F (dWo F.2.2.1 (cE (cE (cA (L := hL (j + 1)) hE))) (hok (j + 1) (by omega))) rfl rfl (congrArg some (fz_3 (kd_hL hj2))) rfl (vp_in_nI hj2 (by decide)) (by rw [nI_clamp (by omega), fA_up]; rfl) dX6_init_46 ?_
    refine y_iinc (q := 0) (v := nI (j + 1)) (lv' := [(1, .int (nI (j + 1))), (0, .ref ((xg X).2.2 50))]) F dX6_init_47 rfl (nI_succ j).symm (by decide) rfl ?_
    refine y_goto (tgt := 25) F dX6_init_50 (by decide) ?_
    rw [show 1 + 3 * j + 1 + 2 = 1 + 3 * (j + 1) by omega, show 40 + 19 * j + 8 + 11 = 40 + 19 * (j + 1) by omega]
    exact ih (j + 1) (by omega)
set_option maxRecDepth 100000 in
set_option maxHeartbeats 4000000 in
theorem c_X6_init (l : Launch) (g : wG) (A : Nat → Prop) (hA : adO g A) {E : va_W} {eids : List Nat} {n base : Nat} (hE : E.map Prod.fst = eids.map g.2.2) (hok : ∀ j, j ≤ 40 → okI (50 :: 51 :: (hL j ++ eids))) (h9 : n = base + 38) (hof : ∀ j m, j < 200 → offT.getD j 0 = m → g.2.2 j = base + m) (hupb : ∀ q, base ≤ q → A q) : Mk l yX6_init wvX6_init 2 45 121 800 g A [.ref (g.2.2 50)] ((g.2.2 50, .inr (6, bl6)) :: E) n (fz g 50 :: fz g 51 :: (wl g (hL 40) ++ E)) := by
  refine mt_k (own := RX6) (lv := [(0, .ref (g.2.2 50))]) (by decide) rfl rfl rfl hA (Nat.le_of_ble_eq_true rfl) rfl ?_
  intro X hl hg hAA F hK hn hc hs hnm hret
  subst hl hg hAA
  refine y_aload_n F dX6_init_0 rfl 0 rfl ?_
  refine y_objInit F (mc bw_6_11) (mc bw_1_12) (mc bw_1_13) (Nat.le_of_ble_eq_true rfl) (Nat.le_of_ble_eq_true rfl) dX6_init_1 ?_
  refine y_aload_n F dX6_init_4 rfl 0 rfl ?_
  refine y_bipush (40 : Int32) F dX6_init_5 (by decide) ?_
  refine y_anew (ws2 := ((xg X).2.2 50, .inr (6, bl6)) :: ((xg X).2.2 51, .inl ((xg X).2.1 17, 40, .inr (.inr (.inr (.inr (fun _ => none)))))) :: E) (C := "MooringDesk$Hold") (t0 := 4) (N := 40) (a := (xg X).2.2 51) F (mc bw_6_12) hK.2.1 rfl (by decide) (by decide) (by decide) (by have h_51 := (hof 51 38 (by decide) (by decide)); omega) (Or.inl rfl) (by rw [hc]; decide) (by rw [hs]; decide) p_ins dX6_init_7 ?_
  refine y_putF hnm (q0 := 0) (ci := 6) (C := RX6) (T := TX6) (n := 3) (k0 := 0) (ty0 := tyX6) (ty := (.array (.object "MooringDesk$Hold"))) (ws2 := ((xg X).2.2 50, .inr (6, [.ref ((xg X).2.2 51), .int 0, .int 0])) :: ((xg X).2.2 51, .inl ((xg X).2.1 17, 40, .inr (.inr (.inr (.inr (fun _ => none)))))) :: E) F (dWo F.2.2.1 (cE (cE hE)) (hok 0 (by decide))) rfl rfl in_6 tyX6_ok nmX6 (by decide) rfl (mc bw_6_13) rfl rfl (by decide +kernel) rfl rfl (Nat.le_of_ble_eq_true rfl) rfl dX6_init_10 ?_
  refine y_aload_n F dX6_init_13 rfl 0 rfl ?_
  refine y_iconst (0 : Int32) F dX6_init_14 (by decide) ?_
  refine y_put (q0 := 0) (ci := 6) (C := RX6) (T := TX6) (n := 3) (k0 := 1) (ty0 := tyX6) (ty := .int) (ws2 := ((xg X).2.2 50, .inr (6, [.ref ((xg X).2.2 51), .int 0, .int 0])) :: ((xg X).2.2 51, .inl ((xg X).2.1 17, 40, .inr (.inr (.inr (.inr (fun _ => none)))))) :: E) F (dWo F.2.2.1 (cE (cE hE)) (hok 0 (by decide))) rfl rfl in_6 tyX6_ok nmX6 (by decide) rfl (mc bw_6_14) rfl (by decide +kernel) rfl rfl (Nat.le_of_ble_eq_true rfl) rfl dX6_init_15 ?_
  refine y_aload_n F dX6_init_18 rfl 0 rfl ?_
  refine y_iconst (0 : Int32) F dX6_init_19 (by decide) ?_
  refine y_put (q0 := 0) (ci := 6) (C := RX6) (T := TX6) (n := 3) (k0 := 2) (ty0 := tyX6) (ty := .int) (ws2 := ((xg X).2.2 50, .inr (6, [.ref ((xg X).2.2 51), .int 0, .int 0])) :: ((xg X).2.2 51, .inl ((xg X).2.1 17, 40, .inr (.inr (.inr (.inr (fun _ => none)))))) :: E) F (dWo F.2.2.1 (cE (cE hE)) (hok 0 (by decide))) rfl rfl in_6 tyX6_ok nmX6 (by decide) rfl (mc bw_6_15) rfl (by decide +kernel) rfl rfl (Nat.le_of_ble_eq_true rfl) rfl dX6_init_20 ?_
  refine y_iconst (0 : Int32) F dX6_init_23 (by decide) ?_
  refine y_istore_n (lv' := [(1, .int (nI 0)), (0, .ref ((xg X).2.2 50))]) F dX6_init_24 rfl (by decide) rfl ?_
  rw [← fA_0 (xg X)]
  exact past_loop (E := E) (eids := eids) (base := base) F hK (by omega) (fun j hj => ⟨(hof _ _ (by omega) (off_h j hj).1).trans (by omega), (hof _ _ (by omega) (off_h j hj).2.1).trans (by omega), (hof _ _ (by omega) (off_h j hj).2.2).trans (by omega)⟩) hof hc hs hupb hE hok ⟨1, _, rfl, by show (xg X).2.2 51 + 1 = (xg X).2.2 56; have h_51 := (hof 51 38 (by decide) (by decide)); have h_56 := (hof 56 39 (by decide) (by decide)); omega⟩ (fun lv => y_to (fun H h => pc_eq (fun j hj => by unfold fA; rw [if_pos hj]) h) (hret _ _ dX6_init_53)) 40 0 rfl
