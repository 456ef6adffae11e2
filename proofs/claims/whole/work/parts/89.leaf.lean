/-! the constructors that make arrays alone -/
theorem bw_1_6 : Cond.arrayClass .long ∈ wsL_law := bc_1 (List.Mem.tail _ (List.Mem.tail _ (List.Mem.tail _ (List.Mem.tail _ (List.Mem.tail _ (List.Mem.tail _ (List.Mem.head _)))))))
theorem bw_1_12 : Cond.instanceMethod objectInit ∈ wsL_law := bc_1 (List.Mem.tail _ (List.Mem.tail _ (List.Mem.tail _ (List.Mem.tail _ (List.Mem.tail _ (List.Mem.tail _ (List.Mem.tail _ (List.Mem.tail _ (List.Mem.tail _ (List.Mem.tail _ (List.Mem.tail _ (List.Mem.tail _ (List.Mem.head _)))))))))))))
theorem bw_1_13 : Cond.code objectInit ⟨#[0xb1]⟩ 1 none ∈ wsL_law := bc_1 (List.Mem.tail _ (List.Mem.tail _ (List.Mem.tail _ (List.Mem.tail _ (List.Mem.tail _ (List.Mem.tail _ (List.Mem.tail _ (List.Mem.tail _ (List.Mem.tail _ (List.Mem.tail _ (List.Mem.tail _ (List.Mem.tail _ (List.Mem.tail _ (List.Mem.head _))))))))))))))
theorem bw_3_9 : Cond.arrayClass .int ∈ wsL_law := bc_3 (List.Mem.tail _ (List.Mem.tail _ (List.Mem.tail _ (List.Mem.tail _ (List.Mem.tail _ (List.Mem.tail _ (List.Mem.tail _ (List.Mem.tail _ (List.Mem.tail _ (List.Mem.head _))))))))))
theorem bw_3_17 : Cond.methodLink RX10 3 objectInit ∈ wsL_law := bc_3 (List.Mem.tail _ (List.Mem.tail _ (List.Mem.tail _ (List.Mem.tail _ (List.Mem.tail _ (List.Mem.tail _ (List.Mem.tail _ (List.Mem.tail _ (List.Mem.tail _ (List.Mem.tail _ (List.Mem.tail _ (List.Mem.tail _ (List.Mem.tail _ (List.Mem.tail _ (List.Mem.tail _ (List.Mem.tail _ (List.Mem.tail _ (List.Mem.head _))))))))))))))))))
theorem bw_3_18 : Cond.arrayClass .byte ∈ wsL_law := bc_3 (List.Mem.tail _ (List.Mem.tail _ (List.Mem.tail _ (List.Mem.tail _ (List.Mem.tail _ (List.Mem.tail _ (List.Mem.tail _ (List.Mem.tail _ (List.Mem.tail _ (List.Mem.tail _ (List.Mem.tail _ (List.Mem.tail _ (List.Mem.tail _ (List.Mem.tail _ (List.Mem.tail _ (List.Mem.tail _ (List.Mem.tail _ (List.Mem.tail _ (List.Mem.head _)))))))))))))))))))
theorem bw_4_0 : Cond.methodLink RX7 3 objectInit ∈ wsL_law := bc_4 (List.Mem.head _)
theorem bw_4_7 : Cond.methodLink RX5 3 objectInit ∈ wsL_law := bc_4 (List.Mem.tail _ (List.Mem.tail _ (List.Mem.tail _ (List.Mem.tail _ (List.Mem.tail _ (List.Mem.tail _ (List.Mem.tail _ (List.Mem.head _))))))))
theorem bw_4_13 : Cond.arrayClass .boolean ∈ wsL_law := bc_4 (List.Mem.tail _ (List.Mem.tail _ (List.Mem.tail _ (List.Mem.tail _ (List.Mem.tail _ (List.Mem.tail _ (List.Mem.tail _ (List.Mem.tail _ (List.Mem.tail _ (List.Mem.tail _ (List.Mem.tail _ (List.Mem.tail _ (List.Mem.tail _ (List.Mem.head _))))))))))))))
theorem bw_4_18 : Cond.methodLink RX3 3 objectInit ∈ wsL_law := bc_4 (List.Mem.tail _ (List.Mem.tail _ (List.Mem.tail _ (List.Mem.tail _ (List.Mem.tail _ (List.Mem.tail _ (List.Mem.tail _ (List.Mem.tail _ (List.Mem.tail _ (List.Mem.tail _ (List.Mem.tail _ (List.Mem.tail _ (List.Mem.tail _ (List.Mem.tail _ (List.Mem.tail _ (List.Mem.tail _ (List.Mem.tail _ (List.Mem.tail _ (List.Mem.head _)))))))))))))))))))
theorem bw_5_17 : Cond.methodLink RX0 3 objectInit ∈ wsL_law := bc_5 (List.Mem.tail _ (List.Mem.tail _ (List.Mem.tail _ (List.Mem.tail _ (List.Mem.tail _ (List.Mem.tail _ (List.Mem.tail _ (List.Mem.tail _ (List.Mem.tail _ (List.Mem.tail _ (List.Mem.tail _ (List.Mem.tail _ (List.Mem.tail _ (List.Mem.tail _ (List.Mem.tail _ (List.Mem.tail _ (List.Mem.tail _ (List.Mem.head _))))))))))))))))))
theorem bw_6_1 : Cond.methodLink RX2 1 objectInit ∈ wsL_law := bc_6 (List.Mem.tail _ (List.Mem.head _))
theorem bw_6_6 : Cond.methodLink RX4 3 objectInit ∈ wsL_law := bc_6 (List.Mem.tail _ (List.Mem.tail _ (List.Mem.tail _ (List.Mem.tail _ (List.Mem.tail _ (List.Mem.tail _ (List.Mem.head _)))))))
theorem bw_6_18 : Cond.methodLink RX8 3 objectInit ∈ wsL_law := bc_6 (List.Mem.tail _ (List.Mem.tail _ (List.Mem.tail _ (List.Mem.tail _ (List.Mem.tail _ (List.Mem.tail _ (List.Mem.tail _ (List.Mem.tail _ (List.Mem.tail _ (List.Mem.tail _ (List.Mem.tail _ (List.Mem.tail _ (List.Mem.tail _ (List.Mem.tail _ (List.Mem.tail _ (List.Mem.tail _ (List.Mem.tail _ (List.Mem.tail _ (List.Mem.head _)))))))))))))))))))
theorem bw_7_0 : Cond.methodLink RX9 3 objectInit ∈ wsL_law := bc_7 (List.Mem.head _)
theorem bw_7_2 : Cond.fieldLink RX9 15 "MooringDesk$Script" "steps" "I" ∈ wsL_law := bc_7 (List.Mem.tail _ (List.Mem.tail _ (List.Mem.head _)))
abbrev bl10 : List Value := [.null, .int 0]
theorem fz_10 {g : wG} : fz g 1 = (g.2.2 1, .inr (10, [.ref (g.2.2 2), .int 0])) := rfl
abbrev wvX10_init : List Cond := Cond.code yX10_init cX10_init 1 none :: wsL_law
theorem cd_X10_init : okN yX10_init RX10 0 := by unfold okN; decide +kernel
set_option maxRecDepth 100000 in
set_option maxHeartbeats 4000000 in
theorem c_X10_init (l : Launch) (g : wG) (A : Nat → Prop) (hA : adO g A) {E : va_W} {eids : List Nat} {n : Nat} (hE : E.map Prod.fst = eids.map g.2.2) (ok1 : okI (1 :: 2 :: eids)) (h9 : g.2.2 1 + 1 = n) (h0 : g.2.2 2 = n + 0) (hup : ∀ q, n ≤ q → A q) : Mk l yX10_init wvX10_init 1 20 1 240 g A [.ref (g.2.2 1)] ((g.2.2 1, .inr (10, bl10)) :: E) n (fz g 1 :: fz g 2 :: E) := by
  refine mt_k (own := RX10) (lv := [(0, .ref (g.2.2 1))]) (by decide) rfl rfl rfl hA (Nat.le_of_ble_eq_true rfl) rfl ?_
  intro X hl hg hAA F hK hn hc hs hnm hret
  subst hl hg hAA
  have ok0 := ok1.d1
  have hup2 : ∀ q, (xs X).heap.size ≤ q → xA X q := fun q hq => hup q (by omega)
  rw [fz_10, fz_13 kz_2 nz_2] at hret
  refine y_aload_n F dX10_init_0 rfl 0 rfl ?_
  refine y_objInit F (mc bw_3_17) (mc bw_1_12) (mc bw_1_13) (Nat.le_of_ble_eq_true rfl) (Nat.le_of_ble_eq_true rfl) dX10_init_1 ?_
  refine y_aload_n F dX10_init_4 rfl 0 rfl ?_
  refine y_sipush (240 : Int32) F dX10_init_5 (by decide) ?_
  refine y_newa (atype := .byte) (ws2 := ((xg X).2.2 1, .inr (10, [.null, .int 0])) :: aB (xg X) 2 240 :: E) (ty := .byte) (t0 := 0) (N := 240) (a0 := (240, .inl (fun _ => 0))) (a := (xg X).2.2 2) F (mc bw_3_18) rfl rfl (fun _ h => h) rfl (by decide) (by decide) (by decide) (by omega) (Or.inl rfl) (by omega) (by omega) hup2 p_ins dX10_init_8 ?_
  refine y_putF hnm (q0 := 0) (ci := 10) (C := RX10) (T := TX10) (n := 2) (k0 := 0) (ty0 := tyX10) (ty := (.array .byte)) (ws2 := ((xg X).2.2 1, .inr (10, [.ref ((xg X).2.2 2), .int 0])) :: aB (xg X) 2 240 :: E) F (dWo F.2.2.1 (cE (cE hE)) ok1) rfl rfl in_10 tyX10_ok nmX10 (by decide) rfl (mc bw_3_19) rfl rfl (by decide +kernel) rfl rfl (Nat.le_of_ble_eq_true rfl) rfl dX10_init_10 ?_
  refine y_aload_n F dX10_init_13 rfl 0 rfl ?_
  refine y_iconst (0 : Int32) F dX10_init_14 (by decide) ?_
  refine y_put (q0 := 0) (ci := 10) (C := RX10) (T := TX10) (n := 2) (k0 := 1) (ty0 := tyX10) (ty := .int) (ws2 := ((xg X).2.2 1, .inr (10, [.ref ((xg X).2.2 2), .int 0])) :: aB (xg X) 2 240 :: E) F (dWo F.2.2.1 (cE (cE hE)) ok1) rfl rfl in_10 tyX10_ok nmX10 (by decide) rfl (mc bw_3_20) rfl (by decide +kernel) rfl rfl (Nat.le_of_ble_eq_true rfl) rfl dX10_init_15 ?_
  exact hret _ _ dX10_init_18
abbrev bl7 : List Value := [.null, .int 0, .int 0, .int 0]
theorem fz_7 {g : wG} : fz g 3 = (g.2.2 3, .inr (7, [.ref (g.2.2 1), .int 0, .int 0, .int 0])) := rfl
abbrev wvX7_init : List Cond := Cond.code yX7_init cX7_init 2 none :: wsL_law
theorem cd_X7_init : okN yX7_init RX7 1 := by unfold okN; decide +kernel
set_option maxRecDepth 100000 in
set_option maxHeartbeats 4000000 in
theorem c_X7_init (l : Launch) (g : wG) (A : Nat → Prop) (hA : adO g A) {E : va_W} {eids : List Nat} {n : Nat} (hE : E.map Prod.fst = eids.map g.2.2) (ok0 : okI (3 :: eids)) (h9 : g.2.2 3 + 1 = n) (hup : ∀ q, n ≤ q → A q) : Mk l yX7_init wvX7_init 1 20 0 0 g A [.ref (g.2.2 3), .ref (g.2.2 1)] ((g.2.2 3, .inr (7, bl7)) :: E) n (fz g 3 :: E) := by
  refine mt_k (own := RX7) (lv := [(0, .ref (g.2.2 3)), (1, .ref (g.2.2 1))]) (by decide) rfl rfl rfl hA (Nat.le_of_ble_eq_true rfl) rfl ?_
  intro X hl hg hAA F hK hn hc hs hnm hret
  subst hl hg hAA
  have hup2 : ∀ q, (xs X).heap.size ≤ q → xA X q := fun q hq => hup q (by omega)
  rw [fz_7] at hret
  refine y_aload_n F dX7_init_0 rfl 0 rfl ?_
  refine y_objInit F (mc bw_4_0) (mc bw_1_12) (mc bw_1_13) (Nat.le_of_ble_eq_true rfl) (Nat.le_of_ble_eq_true rfl) dX7_init_1 ?_
  refine y_aload_n F dX7_init_4 rfl 0 rfl ?_
  refine y_iconst (0 : Int32) F dX7_init_5 (by decide) ?_
  refine y_put (q0 := 0) (ci := 7) (C := RX7) (T := TX7) (n := 4) (k0 := 1) (ty0 := tyX7) (ty := .int) (ws2 := ((xg X).2.2 3, .inr (7, [.null, .int 0, .int 0, .int 0])) :: E) F (dWo F.2.2.1 (cE hE) ok0) rfl rfl in_7 tyX7_ok nmX7 (by decide) rfl (mc bw_4_1) rfl (by decide +kernel) rfl rfl (Nat.le_of_ble_eq_true rfl) rfl dX7_init_6 ?_
  refine y_aload_n F dX7_init_9 rfl 0 rfl ?_
  refine y_iconst (0 : Int32) F dX7_init_10 (by decide) ?_
  refine y_put (q0 := 0) (ci := 7) (C := RX7) (T := TX7) (n := 4) (k0 := 2) (ty0 := tyX7) (ty := .int) (ws2 := ((xg X).2.2 3, .inr (7, [.null, .int 0, .int 0, .int 0])) :: E) F (dWo F.2.2.1 (cE hE) ok0) rfl rfl in_7 tyX7_ok nmX7 (by decide) rfl (mc bw_4_2) rfl (by decide +kernel) rfl rfl (Nat.le_of_ble_eq_true rfl) rfl dX7_init_11 ?_
  refine y_aload_n F dX7_init_14 rfl 0 rfl ?_
  refine y_iconst (0 : Int32) F dX7_init_15 (by decide) ?_
  refine y_put (q0 := 0) (ci := 7) (C := RX7) (T := TX7) (n := 4) (k0 := 3) (ty0 := tyX7) (ty := .boolean) (ws2 := ((xg X).2.2 3, .inr (7, [.null, .int 0, .int 0, .int 0])) :: E) F (dWo F.2.2.1 (cE hE) ok0) rfl rfl in_7 tyX7_ok nmX7 (by decide) rfl (mc bw_4_3) rfl (by decide +kernel) rfl rfl (Nat.le_of_ble_eq_true rfl) rfl dX7_init_16 ?_
  refine y_aload_n F dX7_init_19 rfl 0 rfl ?_
  refine y_aload_n F dX7_init_20 rfl 1 rfl ?_
  refine y_putF hnm (q0 := 0) (ci := 7) (C := RX7) (T := TX7) (n := 4) (k0 := 0) (ty0 := tyX7) (ty := (.object "MooringDesk$Tape")) (ws2 := ((xg X).2.2 3, .inr (7, [.ref ((xg X).2.2 1), .int 0, .int 0, .int 0])) :: E) F (dWo F.2.2.1 (cE hE) ok0) rfl rfl in_7 tyX7_ok nmX7 (by decide) rfl (mc bw_4_4) rfl rfl (by decide +kernel) rfl rfl (Nat.le_of_ble_eq_true rfl) rfl dX7_init_21 ?_
  exact hret _ _ dX7_init_24
abbrev bl5 : List Value := [.null, .null, .null, .null, .null, .null, .int 0]
theorem fz_5 {g : wG} {i0 : Nat} (k_i0 : kd i0 = 5) : fz g i0 = (g.2.2 i0, .inr (5, [.ref (g.2.2 (i0 + 1)), .ref (g.2.2 (i0 + 2)), .ref (g.2.2 (i0 + 3)), .ref (g.2.2 (i0 + 4)), .ref (g.2.2 (i0 + 5)), .ref (g.2.2 (i0 + 6)), .int 0])) := by
  unfold fz; rw [cl_5 k_i0]; simp [fl5, s0, k_i0]
abbrev wvX5_init : List Cond := Cond.code yX5_init cX5_init 1 none :: wsL_law
theorem cd_X5_init : okN yX5_init RX5 0 := by unfold okN; decide +kernel
set_option maxRecDepth 100000 in
set_option maxHeartbeats 4000000 in
theorem c_X5_init (l : Launch) (g : wG) (A : Nat → Prop) (hA : adO g A) {i0 : Nat} (k_i0 : kd i0 = 5) {E : va_W} {eids : List Nat} {n : Nat} (hE : E.map Prod.fst = eids.map g.2.2) (ok6 : okI (i0 :: (i0 + 6) :: (i0 + 5) :: (i0 + 4) :: (i0 + 3) :: (i0 + 2) :: (i0 + 1) :: eids)) (h9 : g.2.2 i0 + 1 = n) (h0 : g.2.2 (i0 + 1) = n + 0) (h1 : g.2.2 (i0 + 2) = n + 1) (h2 : g.2.2 (i0 + 3) = n + 2) (h3 : g.2.2 (i0 + 4) = n + 3) (h4 : g.2.2 (i0 + 5) = n + 4) (h5 : g.2.2 (i0 + 6) = n + 5) (hup : ∀ q, n ≤ q → A q) : Mk l yX5_init wvX5_init 1 20 6 103 g A [.ref (g.2.2 i0)] ((g.2.2 i0, .inr (5, bl5)) :: E) n (fz g i0 :: fz g (i0 + 6) :: fz g (i0 + 5) :: fz g (i0 + 4) :: fz g (i0 + 3) :: fz g (i0 + 2) :: fz g (i0 + 1) :: E) := by
  refine mt_k (own := RX5) (lv := [(0, .ref (g.2.2 i0))]) (by decide) rfl rfl rfl hA (Nat.le_of_ble_eq_true rfl) rfl ?_
  intro X hl hg hAA F hK hn hc hs hnm hret
  subst hl hg hAA
  have ok5 := ok6.d1
  have ok4 := ok5.d1
  have ok3 := ok4.d1
  have ok2 := ok3.d1
  have ok1 := ok2.d1
  have ok0 := ok1.d1
  have hup2 : ∀ q, (xs X).heap.size ≤ q → xA X q := fun q hq => hup q (by omega)
  rw [fz_5 k_i0, fz_16 (ky_5_5 k_i0) (kn_5_5 k_i0), fz_14 (ky_5_4 k_i0) (kn_5_4 k_i0), fz_14 (ky_5_3 k_i0) (kn_5_3 k_i0), fz_14 (ky_5_2 k_i0) (kn_5_2 k_i0), fz_14 (ky_5_1 k_i0) (kn_5_1 k_i0), fz_14 (ky_5_0 k_i0) (kn_5_0 k_i0)] at hret
  refine y_aload_n F dX5_init_0 rfl 0 rfl ?_
  refine y_objInit F (mc bw_4_7) (mc bw_1_12) (mc bw_1_13) (Nat.le_of_ble_eq_true rfl) (Nat.le_of_ble_eq_true rfl) dX5_init_1 ?_
  refine y_aload_n F dX5_init_4 rfl 0 rfl ?_
  refine y_iconst (4 : Int32) F dX5_init_5 (by decide) ?_
  refine y_newa (atype := .int) (ws2 := ((xg X).2.2 i0, .inr (5, [.null, .null, .null, .null, .null, .null, .int 0])) :: aI (xg X) (i0 + 1) 4 :: E) (ty := .int) (t0 := 1) (N := 4) (a0 := (4, .inl (fun _ => 0))) (a := (xg X).2.2 (i0 + 1)) F (mc bw_3_9) rfl rfl (fun _ h => h) rfl (by decide) (by decide) (by decide) (by omega) (Or.inl rfl) (by omega) (by omega) hup2 p_ins dX5_init_6 ?_
  refine y_putF hnm (q0 := 0) (ci := 5) (C := RX5) (T := TX5) (n := 7) (k0 := 0) (ty0 := tyX5) (ty := (.array .int)) (ws2 := ((xg X).2.2 i0, .inr (5, [.ref ((xg X).2.2 (i0 + 1)), .null, .null, .null, .null, .null, .int 0])) :: aI (xg X) (i0 + 1) 4 :: E) F (dWo F.2.2.1 (cE (cE hE)) ok1) rfl rfl in_5 tyX5_ok nmX5 (by decide) rfl (mc bw_4_8) rfl rfl (by decide +kernel) rfl rfl (Nat.le_of_ble_eq_true rfl) rfl dX5_init_8 ?_
  refine y_aload_n F dX5_init_11 rfl 0 rfl ?_
  refine y_bipush (56 : Int32) F dX5_init_12 (by decide) ?_
  refine y_newa (atype := .int) (ws2 := ((xg X).2.2 i0, .inr (5, [.ref ((xg X).2.2 (i0 + 1)), .null, .null, .null, .null, .null, .int 0])) :: aI (xg X) (i0 + 2) 56 :: aI (xg X) (i0 + 1) 4 :: E) (ty := .int) (t0 := 1) (N := 56) (a0 := (56, .inl (fun _ => 0))) (a := (xg X).2.2 (i0 + 2)) F (mc bw_3_9) rfl rfl (fun _ h => h) rfl (by decide) (by decide) (by decide) (by omega) (Or.inr ⟨1, _, rfl, by show (xg X).2.2 (i0 + 1) + 1 = (xg X).2.2 (i0 + 2); omega⟩) (by omega) (by omega) hup2 p_ins dX5_init_14 ?_
  refine y_putF hnm (q0 := 0) (ci := 5) (C := RX5) (T := TX5) (n := 7) (k0 := 1) (ty0 := tyX5) (ty := (.array .int)) (ws2 := ((xg X).2.2 i0, .inr (5, [.ref ((xg X).2.2 (i0 + 1)), .ref ((xg X).2.2 (i0 + 2)), .null, .null, .null, .null, .int 0])) :: aI (xg X) (i0 + 2) 56 :: aI (xg X) (i0 + 1) 4 :: E) F (dWo F.2.2.1 (cE (cE (cE hE))) ok2) rfl rfl in_5 tyX5_ok nmX5 (by decide) rfl (mc bw_4_9) rfl rfl (by decide +kernel) rfl rfl (Nat.le_of_ble_eq_true rfl) rfl dX5_init_16 ?_
  refine y_aload_n F dX5_init_19 rfl 0 rfl ?_
  refine y_bipush (24 : Int32) F dX5_init_20 (by decide) ?_
  refine y_newa (atype := .int) (ws2 := ((xg X).2.2 i0, .inr (5, [.ref ((xg X).2.2 (i0 + 1)), .ref ((xg X).2.2 (i0 + 2)), .null, .null, .null, .null, .int 0])) :: aI (xg X) (i0 + 3) 24 :: aI (xg X) (i0 + 2) 56 :: aI (xg X) (i0 + 1) 4 :: E) (ty := .int) (t0 := 1) (N := 24) (a0 := (24, .inl (fun _ => 0))) (a := (xg X).2.2 (i0 + 3)) F (mc bw_3_9) rfl rfl (fun _ h => h) rfl (by decide) (by decide) (by decide) (by omega) (Or.inr ⟨1, _, rfl, by show (xg X).2.2 (i0 + 2) + 1 = (xg X).2.2 (i0 + 3); omega⟩) (by omega) (by omega) hup2 p_ins dX5_init_22 ?_
  refine y_putF hnm (q0 := 0) (ci := 5) (C := RX5) (T := TX5) (n := 7) (k0 := 2) (ty0 := tyX5) (ty := (.array .int)) (ws2 := ((xg X).2.2 i0, .inr (5, [.ref ((xg X).2.2 (i0 + 1)), .ref ((xg X).2.2 (i0 + 2)), .ref ((xg X).2.2 (i0 + 3)), .null, .null, .null, .int 0])) :: aI (xg X) (i0 + 3) 24 :: aI (xg X) (i0 + 2) 56 :: aI (xg X) (i0 + 1) 4 :: E) F (dWo F.2.2.1 (cE (cE (cE (cE hE)))) ok3) rfl rfl in_5 tyX5_ok nmX5 (by decide) rfl (mc bw_4_10) rfl rfl (by decide +kernel) rfl rfl (Nat.le_of_ble_eq_true rfl) rfl dX5_init_24 ?_
  refine y_aload_n F dX5_init_27 rfl 0 rfl ?_
  refine y_bipush (8 : Int32) F dX5_init_28 (by decide) ?_
  refine y_newa (atype := .int) (ws2 := ((xg X).2.2 i0, .inr (5, [.ref ((xg X).2.2 (i0 + 1)), .ref ((xg X).2.2 (i0 + 2)), .ref ((xg X).2.2 (i0 + 3)), .null, .null, .null, .int 0])) :: aI (xg X) (i0 + 4) 8 :: aI (xg X) (i0 + 3) 24 :: aI (xg X) (i0 + 2) 56 :: aI (xg X) (i0 + 1) 4 :: E) (ty := .int) (t0 := 1) (N := 8) (a0 := (8, .inl (fun _ => 0))) (a := (xg X).2.2 (i0 + 4)) F (mc bw_3_9) rfl rfl (fun _ h => h) rfl (by decide) (by decide) (by decide) (by omega) (Or.inr ⟨1, _, rfl, by show (xg X).2.2 (i0 + 3) + 1 = (xg X).2.2 (i0 + 4); omega⟩) (by omega) (by omega) hup2 p_ins dX5_init_30 ?_
  refine y_putF hnm (q0 := 0) (ci := 5) (C := RX5) (T := TX5) (n := 7) (k0 := 3) (ty0 := tyX5) (ty := (.array .int)) (ws2 := ((xg X).2.2 i0, .inr (5, [.ref ((xg X).2.2 (i0 + 1)), .ref ((xg X).2.2 (i0 + 2)), .ref ((xg X).2.2 (i0 + 3)), .ref ((xg X).2.2 (i0 + 4)), .null, .null, .int 0])) :: aI (xg X) (i0 + 4) 8 :: aI (xg X) (i0 + 3) 24 :: aI (xg X) (i0 + 2) 56 :: aI (xg X) (i0 + 1) 4 :: E) F (dWo F.2.2.1 (cE (cE (cE (cE (cE hE))))) ok4) rfl rfl in_5 tyX5_ok nmX5 (by decide) rfl (mc bw_4_11) rfl rfl (by decide +kernel) rfl rfl (Nat.le_of_ble_eq_true rfl) rfl dX5_init_32 ?_
  refine y_aload_n F dX5_init_35 rfl 0 rfl ?_
  refine y_bipush (8 : Int32) F dX5_init_36 (by decide) ?_
  refine y_newa (atype := .int) (ws2 := ((xg X).2.2 i0, .inr (5, [.ref ((xg X).2.2 (i0 + 1)), .ref ((xg X).2.2 (i0 + 2)), .ref ((xg X).2.2 (i0 + 3)), .ref ((xg X).2.2 (i0 + 4)), .null, .null, .int 0])) :: aI (xg X) (i0 + 5) 8 :: aI (xg X) (i0 + 4) 8 :: aI (xg X) (i0 + 3) 24 :: aI (xg X) (i0 + 2) 56 :: aI (xg X) (i0 + 1) 4 :: E) (ty := .int) (t0 := 1) (N := 8) (a0 := (8, .inl (fun _ => 0))) (a := (xg X).2.2 (i0 + 5)) F (mc bw_3_9) rfl rfl (fun _ h => h) rfl (by decide) (by decide) (by decide) (by omega) (Or.inr ⟨1, _, rfl, by show (xg X).2.2 (i0 + 4) + 1 = (xg X).2.2 (i0 + 5); omega⟩) (by omega) (by omega) hup2 p_ins dX5_init_38 ?_
  refine y_putF hnm (q0 := 0) (ci := 5) (C := RX5) (T := TX5) (n := 7) (k0 := 4) (ty0 := tyX5) (ty := (.array .int)) (ws2 := ((xg X).2.2 i0, .inr (5, [.ref ((xg X).2.2 (i0 + 1)), .ref ((xg X).2.2 (i0 + 2)), .ref ((xg X).2.2 (i0 + 3)), .ref ((xg X).2.2 (i0 + 4)), .ref ((xg X).2.2 (i0 + 5)), .null, .int 0])) :: aI (xg X) (i0 + 5) 8 :: aI (xg X) (i0 + 4) 8 :: aI (xg X) (i0 + 3) 24 :: aI (xg X) (i0 + 2) 56 :: aI (xg X) (i0 + 1) 4 :: E) F (dWo F.2.2.1 (cE (cE (cE (cE (cE (cE hE)))))) ok5) rfl rfl in_5 tyX5_ok nmX5 (by decide) rfl (mc bw_4_12) rfl rfl (by decide +kernel) rfl rfl (Nat.le_of_ble_eq_true rfl) rfl dX5_init_40 ?_
  refine y_aload_n F dX5_init_43 rfl 0 rfl ?_
  refine y_iconst (3 : Int32) F dX5_init_44 (by decide) ?_
  refine y_newa (atype := .boolean) (ws2 := ((xg X).2.2 i0, .inr (5, [.ref ((xg X).2.2 (i0 + 1)), .ref ((xg X).2.2 (i0 + 2)), .ref ((xg X).2.2 (i0 + 3)), .ref ((xg X).2.2 (i0 + 4)), .ref ((xg X).2.2 (i0 + 5)), .null, .int 0])) :: aZ (xg X) (i0 + 6) 3 :: aI (xg X) (i0 + 5) 8 :: aI (xg X) (i0 + 4) 8 :: aI (xg X) (i0 + 3) 24 :: aI (xg X) (i0 + 2) 56 :: aI (xg X) (i0 + 1) 4 :: E) (ty := .boolean) (t0 := 3) (N := 3) (a0 := (3, .inl (fun _ => 0))) (a := (xg X).2.2 (i0 + 6)) F (mc bw_4_13) rfl rfl (fun _ h => h) rfl (by decide) (by decide) (by decide) (by omega) (Or.inr ⟨1, _, rfl, by show (xg X).2.2 (i0 + 5) + 1 = (xg X).2.2 (i0 + 6); omega⟩) (by omega) (by omega) hup2 p_ins dX5_init_45 ?_
  refine y_putF hnm (q0 := 0) (ci := 5) (C := RX5) (T := TX5) (n := 7) (k0 := 5) (ty0 := tyX5) (ty := (.array .boolean)) (ws2 := ((xg X).2.2 i0, .inr (5, [.ref ((xg X).2.2 (i0 + 1)), .ref ((xg X).2.2 (i0 + 2)), .ref ((xg X).2.2 (i0 + 3)), .ref ((xg X).2.2 (i0 + 4)), .ref ((xg X).2.2 (i0 + 5)), .ref ((xg X).2.2 (i0 + 6)), .int 0])) :: aZ (xg X) (i0 + 6) 3 :: aI (xg X) (i0 + 5) 8 :: aI (xg X) (i0 + 4) 8 :: aI (xg X) (i0 + 3) 24 :: aI (xg X) (i0 + 2) 56 :: aI (xg X) (i0 + 1) 4 :: E) F (dWo F.2.2.1 (cE (cE (cE (cE (cE (cE (cE hE))))))) ok6) rfl rfl in_5 tyX5_ok nmX5 (by decide) rfl (mc bw_4_14) rfl rfl (by decide +kernel) rfl rfl (Nat.le_of_ble_eq_true rfl) rfl dX5_init_47 ?_
  refine y_aload_n F dX5_init_50 rfl 0 rfl ?_
  refine y_iconst (0 : Int32) F dX5_init_51 (by decide) ?_
  refine y_put (q0 := 0) (ci := 5) (C := RX5) (T := TX5) (n := 7) (k0 := 6) (ty0 := tyX5) (ty := .int) (ws2 := ((xg X).2.2 i0, .inr (5, [.ref ((xg X).2.2 (i0 + 1)), .ref ((xg X).2.2 (i0 + 2)), .ref ((xg X).2.2 (i0 + 3)), .ref ((xg X).2.2 (i0 + 4)), .ref ((xg X).2.2 (i0 + 5)), .ref ((xg X).2.2 (i0 + 6)), .int 0])) :: aZ (xg X) (i0 + 6) 3 :: aI (xg X) (i0 + 5) 8 :: aI (xg X) (i0 + 4) 8 :: aI (xg X) (i0 + 3) 24 :: aI (xg X) (i0 + 2) 56 :: aI (xg X) (i0 + 1) 4 :: E) F (dWo F.2.2.1 (cE (cE (cE (cE (cE (cE (cE hE))))))) ok6) rfl rfl in_5 tyX5_ok nmX5 (by decide) rfl (mc bw_4_15) rfl (by decide +kernel) rfl rfl (Nat.le_of_ble_eq_true rfl) rfl dX5_init_52 ?_
  exact hret _ _ dX5_init_55
abbrev bl3 : List Value := [.null, .null, .int 0, .int 0, .int 0, .int 0, .int 0, .int 0]
theorem fz_3 {g : wG} {i0 : Nat} (k_i0 : kd i0 = 3) : fz g i0 = (g.2.2 i0, .inr (3, [.ref (g.2.2 (i0 + 1)), .ref (g.2.2 (i0 + 2)), .int 0, .int 0, .int 0, .int 0, .int 0, .int 0])) := by
  unfold fz; rw [cl_3 k_i0]; simp [fl3, s0, k_i0]
abbrev wvX3_init : List Cond := Cond.code yX3_init cX3_init 1 none :: wsL_law
theorem cd_X3_init : okN yX3_init RX3 0 := by unfold okN; decide +kernel
set_option maxRecDepth 100000 in
set_option maxHeartbeats 4000000 in
theorem c_X3_init (l : Launch) (g : wG) (A : Nat → Prop) (hA : adO g A) {i0 : Nat} (k_i0 : kd i0 = 3) {E : va_W} {eids : List Nat} {n : Nat} (hE : E.map Prod.fst = eids.map g.2.2) (ok2 : okI (i0 :: (i0 + 2) :: (i0 + 1) :: eids)) (h9 : g.2.2 i0 + 1 = n) (h0 : g.2.2 (i0 + 1) = n + 0) (h1 : g.2.2 (i0 + 2) = n + 1) (hup : ∀ q, n ≤ q → A q) : Mk l yX3_init wvX3_init 1 20 2 11 g A [.ref (g.2.2 i0)] ((g.2.2 i0, .inr (3, bl3)) :: E) n (fz g i0 :: fz g (i0 + 2) :: fz g (i0 + 1) :: E) := by
  refine mt_k (own := RX3) (lv := [(0, .ref (g.2.2 i0))]) (by decide) rfl rfl rfl hA (Nat.le_of_ble_eq_true rfl) rfl ?_
  intro X hl hg hAA F hK hn hc hs hnm hret
  subst hl hg hAA
  have ok1 := ok2.d1
  have ok0 := ok1.d1
  have hup2 : ∀ q, (xs X).heap.size ≤ q → xA X q := fun q hq => hup q (by omega)
  rw [fz_3 k_i0, fz_14 (ky_3_1 k_i0) (kn_3_1 k_i0), fz_14 (ky_3_0 k_i0) (kn_3_0 k_i0)] at hret
  refine y_aload_n F dX3_init_0 rfl 0 rfl ?_
  refine y_objInit F (mc bw_4_18) (mc bw_1_12) (mc bw_1_13) (Nat.le_of_ble_eq_true rfl) (Nat.le_of_ble_eq_true rfl) dX3_init_1 ?_
  refine y_aload_n F dX3_init_4 rfl 0 rfl ?_
  refine y_bipush (8 : Int32) F dX3_init_5 (by decide) ?_
  refine y_newa (atype := .int) (ws2 := ((xg X).2.2 i0, .inr (3, [.null, .null, .int 0, .int 0, .int 0, .int 0, .int 0, .int 0])) :: aI (xg X) (i0 + 1) 8 :: E) (ty := .int) (t0 := 1) (N := 8) (a0 := (8, .inl (fun _ => 0))) (a := (xg X).2.2 (i0 + 1)) F (mc bw_3_9) rfl rfl (fun _ h => h) rfl (by decide) (by decide) (by decide) (by omega) (Or.inl rfl) (by omega) (by omega) hup2 p_ins dX3_init_7 ?_
  refine y_putF hnm (q0 := 0) (ci := 3) (C := RX3) (T := TX3) (n := 8) (k0 := 0) (ty0 := tyX3) (ty := (.array .int)) (ws2 := ((xg X).2.2 i0, .inr (3, [.ref ((xg X).2.2 (i0 + 1)), .null, .int 0, .int 0, .int 0, .int 0, .int 0, .int 0])) :: aI (xg X) (i0 + 1) 8 :: E) F (dWo F.2.2.1 (cE (cE hE)) ok1) rfl rfl in_3 tyX3_ok nmX3 (by decide) rfl (mc bw_4_19) rfl rfl (by decide +kernel) rfl rfl (Nat.le_of_ble_eq_true rfl) rfl dX3_init_9 ?_
  refine y_aload_n F dX3_init_12 rfl 0 rfl ?_
  refine y_iconst (3 : Int32) F dX3_init_13 (by decide) ?_
  refine y_newa (atype := .int) (ws2 := ((xg X).2.2 i0, .inr (3, [.ref ((xg X).2.2 (i0 + 1)), .null, .int 0, .int 0, .int 0, .int 0, .int 0, .int 0])) :: aI (xg X) (i0 + 2) 3 :: aI (xg X) (i0 + 1) 8 :: E) (ty := .int) (t0 := 1) (N := 3) (a0 := (3, .inl (fun _ => 0))) (a := (xg X).2.2 (i0 + 2)) F (mc bw_3_9) rfl rfl (fun _ h => h) rfl (by decide) (by decide) (by decide) (by omega) (Or.inr ⟨1, _, rfl, by show (xg X).2.2 (i0 + 1) + 1 = (xg X).2.2 (i0 + 2); omega⟩) (by omega) (by omega) hup2 p_ins dX3_init_14 ?_
  refine y_putF hnm (q0 := 0) (ci := 3) (C := RX3) (T := TX3) (n := 8) (k0 := 1) (ty0 := tyX3) (ty := (.array .int)) (ws2 := ((xg X).2.2 i0, .inr (3, [.ref ((xg X).2.2 (i0 + 1)), .ref ((xg X).2.2 (i0 + 2)), .int 0, .int 0, .int 0, .int 0, .int 0, .int 0])) :: aI (xg X) (i0 + 2) 3 :: aI (xg X) (i0 + 1) 8 :: E) F (dWo F.2.2.1 (cE (cE (cE hE))) ok2) rfl rfl in_3 tyX3_ok nmX3 (by decide) rfl (mc bw_4_20) rfl rfl (by decide +kernel) rfl rfl (Nat.le_of_ble_eq_true rfl) rfl dX3_init_16 ?_
  refine y_aload_n F dX3_init_19 rfl 0 rfl ?_
  refine y_iconst (0 : Int32) F dX3_init_20 (by decide) ?_
  refine y_put (q0 := 0) (ci := 3) (C := RX3) (T := TX3) (n := 8) (k0 := 2) (ty0 := tyX3) (ty := .int) (ws2 := ((xg X).2.2 i0, .inr (3, [.ref ((xg X).2.2 (i0 + 1)), .ref ((xg X).2.2 (i0 + 2)), .int 0, .int 0, .int 0, .int 0, .int 0, .int 0])) :: aI (xg X) (i0 + 2) 3 :: aI (xg X) (i0 + 1) 8 :: E) F (dWo F.2.2.1 (cE (cE (cE hE))) ok2) rfl rfl in_3 tyX3_ok nmX3 (by decide) rfl (mc bw_4_21) rfl (by decide +kernel) rfl rfl (Nat.le_of_ble_eq_true rfl) rfl dX3_init_21 ?_
  refine y_aload_n F dX3_init_24 rfl 0 rfl ?_
  refine y_iconst (0 : Int32) F dX3_init_25 (by decide) ?_
  refine y_put (q0 := 0) (ci := 3) (C := RX3) (T := TX3) (n := 8) (k0 := 3) (ty0 := tyX3) (ty := .int) (ws2 := ((xg X).2.2 i0, .inr (3, [.ref ((xg X).2.2 (i0 + 1)), .ref ((xg X).2.2 (i0 + 2)), .int 0, .int 0, .int 0, .int 0, .int 0, .int 0])) :: aI (xg X) (i0 + 2) 3 :: aI (xg X) (i0 + 1) 8 :: E) F (dWo F.2.2.1 (cE (cE (cE hE))) ok2) rfl rfl in_3 tyX3_ok nmX3 (by decide) rfl (mc bw_4_22) rfl (by decide +kernel) rfl rfl (Nat.le_of_ble_eq_true rfl) rfl dX3_init_26 ?_
  refine y_aload_n F dX3_init_29 rfl 0 rfl ?_
  refine y_iconst (0 : Int32) F dX3_init_30 (by decide) ?_
  refine y_put (q0 := 0) (ci := 3) (C := RX3) (T := TX3) (n := 8) (k0 := 4) (ty0 := tyX3) (ty := .int) (ws2 := ((xg X).2.2 i0, .inr (3, [.ref ((xg X).2.2 (i0 + 1)), .ref ((xg X).2.2 (i0 + 2)), .int 0, .int 0, .int 0, .int 0, .int 0, .int 0])) :: aI (xg X) (i0 + 2) 3 :: aI (xg X) (i0 + 1) 8 :: E) F (dWo F.2.2.1 (cE (cE (cE hE))) ok2) rfl rfl in_3 tyX3_ok nmX3 (by decide) rfl (mc bw_4_23) rfl (by decide +kernel) rfl rfl (Nat.le_of_ble_eq_true rfl) rfl dX3_init_31 ?_
  refine y_aload_n F dX3_init_34 rfl 0 rfl ?_
  refine y_iconst (0 : Int32) F dX3_init_35 (by decide) ?_
  refine y_put (q0 := 0) (ci := 3) (C := RX3) (T := TX3) (n := 8) (k0 := 5) (ty0 := tyX3) (ty := .int) (ws2 := ((xg X).2.2 i0, .inr (3, [.ref ((xg X).2.2 (i0 + 1)), .ref ((xg X).2.2 (i0 + 2)), .int 0, .int 0, .int 0, .int 0, .int 0, .int 0])) :: aI (xg X) (i0 + 2) 3 :: aI (xg X) (i0 + 1) 8 :: E) F (dWo F.2.2.1 (cE (cE (cE hE))) ok2) rfl rfl in_3 tyX3_ok nmX3 (by decide) rfl (mc bw_5_0) rfl (by decide +kernel) rfl rfl (Nat.le_of_ble_eq_true rfl) rfl dX3_init_36 ?_
  refine y_aload_n F dX3_init_39 rfl 0 rfl ?_
  refine y_iconst (0 : Int32) F dX3_init_40 (by decide) ?_
  refine y_put (q0 := 0) (ci := 3) (C := RX3) (T := TX3) (n := 8) (k0 := 6) (ty0 := tyX3) (ty := .int) (ws2 := ((xg X).2.2 i0, .inr (3, [.ref ((xg X).2.2 (i0 + 1)), .ref ((xg X).2.2 (i0 + 2)), .int 0, .int 0, .int 0, .int 0, .int 0, .int 0])) :: aI (xg X) (i0 + 2) 3 :: aI (xg X) (i0 + 1) 8 :: E) F (dWo F.2.2.1 (cE (cE (cE hE))) ok2) rfl rfl in_3 tyX3_ok nmX3 (by decide) rfl (mc bw_5_1) rfl (by decide +kernel) rfl rfl (Nat.le_of_ble_eq_true rfl) rfl dX3_init_41 ?_
  refine y_aload_n F dX3_init_44 rfl 0 rfl ?_
  refine y_iconst (0 : Int32) F dX3_init_45 (by decide) ?_
  refine y_put (q0 := 0) (ci := 3) (C := RX3) (T := TX3) (n := 8) (k0 := 7) (ty0 := tyX3) (ty := .int) (ws2 := ((xg X).2.2 i0, .inr (3, [.ref ((xg X).2.2 (i0 + 1)), .ref ((xg X).2.2 (i0 + 2)), .int 0, .int 0, .int 0, .int 0, .int 0, .int 0])) :: aI (xg X) (i0 + 2) 3 :: aI (xg X) (i0 + 1) 8 :: E) F (dWo F.2.2.1 (cE (cE (cE hE))) ok2) rfl rfl in_3 tyX3_ok nmX3 (by decide) rfl (mc bw_5_2) rfl (by decide +kernel) rfl rfl (Nat.le_of_ble_eq_true rfl) rfl dX3_init_46 ?_
  exact hret _ _ dX3_init_49
abbrev bl0 : List Value := [.null, .null, .null, .null, .long 0]
theorem fz_0 {g : wG} : fz g 41 = (g.2.2 41, .inr (0, [.ref (g.2.2 42), .ref (g.2.2 43), .ref (g.2.2 44), .ref (g.2.2 45), .long 0])) := rfl
abbrev wvX0_init : List Cond := Cond.code yX0_init cX0_init 1 none :: wsL_law
theorem cd_X0_init : okN yX0_init RX0 0 := by unfold okN; decide +kernel
set_option maxRecDepth 100000 in
set_option maxHeartbeats 4000000 in
theorem c_X0_init (l : Launch) (g : wG) (A : Nat → Prop) (hA : adO g A) {E : va_W} {eids : List Nat} {n : Nat} (hE : E.map Prod.fst = eids.map g.2.2) (ok4 : okI (41 :: 45 :: 44 :: 43 :: 42 :: eids)) (h9 : g.2.2 41 + 1 = n) (h0 : g.2.2 42 = n + 0) (h1 : g.2.2 43 = n + 1) (h2 : g.2.2 44 = n + 2) (h3 : g.2.2 45 = n + 3) (hup : ∀ q, n ≤ q → A q) : Mk l yX0_init wvX0_init 1 20 4 23 g A [.ref (g.2.2 41)] ((g.2.2 41, .inr (0, bl0)) :: E) n (fz g 41 :: fz g 45 :: fz g 44 :: fz g 43 :: fz g 42 :: E) := by
  refine mt_k (own := RX0) (lv := [(0, .ref (g.2.2 41))]) (by decide) rfl rfl rfl hA (Nat.le_of_ble_eq_true rfl) rfl ?_
  intro X hl hg hAA F hK hn hc hs hnm hret
  subst hl hg hAA
  have ok3 := ok4.d1
  have ok2 := ok3.d1
  have ok1 := ok2.d1
  have ok0 := ok1.d1
  have hup2 : ∀ q, (xs X).heap.size ≤ q → xA X q := fun q hq => hup q (by omega)
  rw [fz_0, fz_15 kz_45 nz_45, fz_15 kz_44 nz_44, fz_15 kz_43 nz_43, fz_15 kz_42 nz_42] at hret
  refine y_aload_n F dX0_init_0 rfl 0 rfl ?_
  refine y_objInit F (mc bw_5_17) (mc bw_1_12) (mc bw_1_13) (Nat.le_of_ble_eq_true rfl) (Nat.le_of_ble_eq_true rfl) dX0_init_1 ?_
  refine y_aload_n F dX0_init_4 rfl 0 rfl ?_
  refine y_bipush (9 : Int32) F dX0_init_5 (by decide) ?_
  refine y_newa (atype := .long) (ws2 := ((xg X).2.2 41, .inr (0, [.null, .null, .null, .null, .long 0])) :: aL (xg X) 42 9 :: E) (ty := .long) (t0 := 2) (N := 9) (a0 := (9, .inr (.inl (fun _ => 0)))) (a := (xg X).2.2 42) F (mc bw_1_6) rfl rfl (fun _ h => h) rfl (by decide) (by decide) (by decide) (by omega) (Or.inl rfl) (by omega) (by omega) hup2 p_ins dX0_init_7 ?_
  refine y_putF hnm (q0 := 0) (ci := 0) (C := RX0) (T := TX0) (n := 5) (k0 := 0) (ty0 := tyX0) (ty := (.array .long)) (ws2 := ((xg X).2.2 41, .inr (0, [.ref ((xg X).2.2 42), .null, .null, .null, .long 0])) :: aL (xg X) 42 9 :: E) F (dWo F.2.2.1 (cE (cE hE)) ok1) rfl rfl in_0 tyX0_ok nmX0 (by decide) rfl (mc bw_5_18) rfl rfl (by decide +kernel) rfl rfl (Nat.le_of_ble_eq_true rfl) rfl dX0_init_9 ?_
  refine y_aload_n F dX0_init_12 rfl 0 rfl ?_
  refine y_iconst (3 : Int32) F dX0_init_13 (by decide) ?_
  refine y_newa (atype := .long) (ws2 := ((xg X).2.2 41, .inr (0, [.ref ((xg X).2.2 42), .null, .null, .null, .long 0])) :: aL (xg X) 43 3 :: aL (xg X) 42 9 :: E) (ty := .long) (t0 := 2) (N := 3) (a0 := (3, .inr (.inl (fun _ => 0)))) (a := (xg X).2.2 43) F (mc bw_1_6) rfl rfl (fun _ h => h) rfl (by decide) (by decide) (by decide) (by omega) (Or.inr ⟨1, _, rfl, by show (xg X).2.2 42 + 1 = (xg X).2.2 43; omega⟩) (by omega) (by omega) hup2 p_ins dX0_init_14 ?_
  refine y_putF hnm (q0 := 0) (ci := 0) (C := RX0) (T := TX0) (n := 5) (k0 := 1) (ty0 := tyX0) (ty := (.array .long)) (ws2 := ((xg X).2.2 41, .inr (0, [.ref ((xg X).2.2 42), .ref ((xg X).2.2 43), .null, .null, .long 0])) :: aL (xg X) 43 3 :: aL (xg X) 42 9 :: E) F (dWo F.2.2.1 (cE (cE (cE hE))) ok2) rfl rfl in_0 tyX0_ok nmX0 (by decide) rfl (mc bw_5_19) rfl rfl (by decide +kernel) rfl rfl (Nat.le_of_ble_eq_true rfl) rfl dX0_init_16 ?_
  refine y_aload_n F dX0_init_19 rfl 0 rfl ?_
  refine y_iconst (3 : Int32) F dX0_init_20 (by decide) ?_
  refine y_newa (atype := .long) (ws2 := ((xg X).2.2 41, .inr (0, [.ref ((xg X).2.2 42), .ref ((xg X).2.2 43), .null, .null, .long 0])) :: aL (xg X) 44 3 :: aL (xg X) 43 3 :: aL (xg X) 42 9 :: E) (ty := .long) (t0 := 2) (N := 3) (a0 := (3, .inr (.inl (fun _ => 0)))) (a := (xg X).2.2 44) F (mc bw_1_6) rfl rfl (fun _ h => h) rfl (by decide) (by decide) (by decide) (by omega) (Or.inr ⟨1, _, rfl, by show (xg X).2.2 43 + 1 = (xg X).2.2 44; omega⟩) (by omega) (by omega) hup2 p_ins dX0_init_21 ?_
  refine y_putF hnm (q0 := 0) (ci := 0) (C := RX0) (T := TX0) (n := 5) (k0 := 2) (ty0 := tyX0) (ty := (.array .long)) (ws2 := ((xg X).2.2 41, .inr (0, [.ref ((xg X).2.2 42), .ref ((xg X).2.2 43), .ref ((xg X).2.2 44), .null, .long 0])) :: aL (xg X) 44 3 :: aL (xg X) 43 3 :: aL (xg X) 42 9 :: E) F (dWo F.2.2.1 (cE (cE (cE (cE hE)))) ok3) rfl rfl in_0 tyX0_ok nmX0 (by decide) rfl (mc bw_5_20) rfl rfl (by decide +kernel) rfl rfl (Nat.le_of_ble_eq_true rfl) rfl dX0_init_23 ?_
  refine y_aload_n F dX0_init_26 rfl 0 rfl ?_
  refine y_bipush (8 : Int32) F dX0_init_27 (by decide) ?_
  refine y_newa (atype := .long) (ws2 := ((xg X).2.2 41, .inr (0, [.ref ((xg X).2.2 42), .ref ((xg X).2.2 43), .ref ((xg X).2.2 44), .null, .long 0])) :: aL (xg X) 45 8 :: aL (xg X) 44 3 :: aL (xg X) 43 3 :: aL (xg X) 42 9 :: E) (ty := .long) (t0 := 2) (N := 8) (a0 := (8, .inr (.inl (fun _ => 0)))) (a := (xg X).2.2 45) F (mc bw_1_6) rfl rfl (fun _ h => h) rfl (by decide) (by decide) (by decide) (by omega) (Or.inr ⟨1, _, rfl, by show (xg X).2.2 44 + 1 = (xg X).2.2 45; omega⟩) (by omega) (by omega) hup2 p_ins dX0_init_29 ?_
  refine y_putF hnm (q0 := 0) (ci := 0) (C := RX0) (T := TX0) (n := 5) (k0 := 3) (ty0 := tyX0) (ty := (.array .long)) (ws2 := ((xg X).2.2 41, .inr (0, [.ref ((xg X).2.2 42), .ref ((xg X).2.2 43), .ref ((xg X).2.2 44), .ref ((xg X).2.2 45), .long 0])) :: aL (xg X) 45 8 :: aL (xg X) 44 3 :: aL (xg X) 43 3 :: aL (xg X) 42 9 :: E) F (dWo F.2.2.1 (cE (cE (cE (cE (cE hE))))) ok4) rfl rfl in_0 tyX0_ok nmX0 (by decide) rfl (mc bw_5_21) rfl rfl (by decide +kernel) rfl rfl (Nat.le_of_ble_eq_true rfl) rfl dX0_init_31 ?_
  refine y_aload_n F dX0_init_34 rfl 0 rfl ?_
  refine y_lconst (0 : Int64) F dX0_init_35 (by decide) ?_
  refine y_put (q0 := 0) (ci := 0) (C := RX0) (T := TX0) (n := 5) (k0 := 4) (ty0 := tyX0) (ty := .long) (ws2 := ((xg X).2.2 41, .inr (0, [.ref ((xg X).2.2 42), .ref ((xg X).2.2 43), .ref ((xg X).2.2 44), .ref ((xg X).2.2 45), .long 0])) :: aL (xg X) 45 8 :: aL (xg X) 44 3 :: aL (xg X) 43 3 :: aL (xg X) 42 9 :: E) F (dWo F.2.2.1 (cE (cE (cE (cE (cE hE))))) ok4) rfl rfl in_0 tyX0_ok nmX0 (by decide) rfl (mc bw_5_22) rfl (by decide +kernel) rfl rfl (Nat.le_of_ble_eq_true rfl) rfl dX0_init_36 ?_
  exact hret _ _ dX0_init_39
abbrev bl2 : List Value := [.long 0, .long 0]
theorem fz_2 {g : wG} {i0 : Nat} (k_i0 : kd i0 = 2) : fz g i0 = (g.2.2 i0, .inr (2, [.long 0, .long 1])) := by
  unfold fz; rw [cl_2 k_i0]; simp [fl2, s0, k_i0]
abbrev wvX2_init : List Cond := Cond.code yX2_init cX2_init 1 none :: wsL_law
theorem cd_X2_init : okN yX2_init RX2 0 := by unfold okN; decide +kernel
set_option maxRecDepth 100000 in
set_option maxHeartbeats 4000000 in
theorem c_X2_init (l : Launch) (g : wG) (A : Nat → Prop) (hA : adO g A) {i0 : Nat} (k_i0 : kd i0 = 2) {E : va_W} {eids : List Nat} {n : Nat} (hE : E.map Prod.fst = eids.map g.2.2) (ok0 : okI (i0 :: eids)) (h9 : g.2.2 i0 + 1 = n) (hup : ∀ q, n ≤ q → A q) : Mk l yX2_init wvX2_init 1 20 0 0 g A [.ref (g.2.2 i0)] ((g.2.2 i0, .inr (2, bl2)) :: E) n (fz g i0 :: E) := by
  refine mt_k (own := RX2) (lv := [(0, .ref (g.2.2 i0))]) (by decide) rfl rfl rfl hA (Nat.le_of_ble_eq_true rfl) rfl ?_
  intro X hl hg hAA F hK hn hc hs hnm hret
  subst hl hg hAA
  have hup2 : ∀ q, (xs X).heap.size ≤ q → xA X q := fun q hq => hup q (by omega)
  rw [fz_2 k_i0] at hret
  refine y_aload_n F dX2_init_0 rfl 0 rfl ?_
  refine y_objInit F (mc bw_6_1) (mc bw_1_12) (mc bw_1_13) (Nat.le_of_ble_eq_true rfl) (Nat.le_of_ble_eq_true rfl) dX2_init_1 ?_
  refine y_aload_n F dX2_init_4 rfl 0 rfl ?_
  refine y_lconst (0 : Int64) F dX2_init_5 (by decide) ?_
  refine y_put (q0 := 0) (ci := 2) (C := RX2) (T := TX2) (n := 2) (k0 := 0) (ty0 := tyX2) (ty := .long) (ws2 := ((xg X).2.2 i0, .inr (2, [.long 0, .long 0])) :: E) F (dWo F.2.2.1 (cE hE) ok0) rfl rfl in_2 tyX2_ok nmX2 (by decide) rfl (mc bw_6_2) rfl (by decide +kernel) rfl rfl (Nat.le_of_ble_eq_true rfl) rfl dX2_init_6 ?_
  refine y_aload_n F dX2_init_9 rfl 0 rfl ?_
  refine y_lconst (1 : Int64) F dX2_init_10 (by decide) ?_
  refine y_put (q0 := 0) (ci := 2) (C := RX2) (T := TX2) (n := 2) (k0 := 1) (ty0 := tyX2) (ty := .long) (ws2 := ((xg X).2.2 i0, .inr (2, [.long 0, .long 1])) :: E) F (dWo F.2.2.1 (cE hE) ok0) rfl rfl in_2 tyX2_ok nmX2 (by decide) rfl (mc bw_6_3) rfl (by decide +kernel) rfl rfl (Nat.le_of_ble_eq_true rfl) rfl dX2_init_11 ?_
  exact hret _ _ dX2_init_14
abbrev bl4 : List Value := [.null]
theorem fz_4 {g : wG} : fz g 48 = (g.2.2 48, .inr (4, [.ref (g.2.2 49)])) := rfl
abbrev wvX4_init : List Cond := Cond.code yX4_init cX4_init 1 none :: wsL_law
theorem cd_X4_init : okN yX4_init RX4 0 := by unfold okN; decide +kernel
set_option maxRecDepth 100000 in
set_option maxHeartbeats 4000000 in
theorem c_X4_init (l : Launch) (g : wG) (A : Nat → Prop) (hA : adO g A) {E : va_W} {eids : List Nat} {n : Nat} (hE : E.map Prod.fst = eids.map g.2.2) (ok1 : okI (48 :: 49 :: eids)) (h9 : g.2.2 48 + 1 = n) (h0 : g.2.2 49 = n + 0) (hup : ∀ q, n ≤ q → A q) : Mk l yX4_init wvX4_init 1 20 1 716 g A [.ref (g.2.2 48)] ((g.2.2 48, .inr (4, bl4)) :: E) n (fz g 48 :: fz g 49 :: E) := by
  refine mt_k (own := RX4) (lv := [(0, .ref (g.2.2 48))]) (by decide) rfl rfl rfl hA (Nat.le_of_ble_eq_true rfl) rfl ?_
  intro X hl hg hAA F hK hn hc hs hnm hret
  subst hl hg hAA
  have ok0 := ok1.d1
  have hup2 : ∀ q, (xs X).heap.size ≤ q → xA X q := fun q hq => hup q (by omega)
  rw [fz_4, fz_14 kz_49 nz_49] at hret
  refine y_aload_n F dX4_init_0 rfl 0 rfl ?_
  refine y_objInit F (mc bw_6_6) (mc bw_1_12) (mc bw_1_13) (Nat.le_of_ble_eq_true rfl) (Nat.le_of_ble_eq_true rfl) dX4_init_1 ?_
  refine y_aload_n F dX4_init_4 rfl 0 rfl ?_
  refine y_sipush (716 : Int32) F dX4_init_5 (by decide) ?_
  refine y_newa (atype := .int) (ws2 := ((xg X).2.2 48, .inr (4, [.null])) :: aI (xg X) 49 716 :: E) (ty := .int) (t0 := 1) (N := 716) (a0 := (716, .inl (fun _ => 0))) (a := (xg X).2.2 49) F (mc bw_3_9) rfl rfl (fun _ h => h) rfl (by decide) (by decide) (by decide) (by omega) (Or.inl rfl) (by omega) (by omega) hup2 p_ins dX4_init_8 ?_
  refine y_putF hnm (q0 := 0) (ci := 4) (C := RX4) (T := TX4) (n := 1) (k0 := 0) (ty0 := tyX4) (ty := (.array .int)) (ws2 := ((xg X).2.2 48, .inr (4, [.ref ((xg X).2.2 49)])) :: aI (xg X) 49 716 :: E) F (dWo F.2.2.1 (cE (cE hE)) ok1) rfl rfl in_4 tyX4_ok nmX4 (by decide) rfl (mc bw_6_7) rfl rfl (by decide +kernel) rfl rfl (Nat.le_of_ble_eq_true rfl) rfl dX4_init_10 ?_
  exact hret _ _ dX4_init_13
abbrev bl8 : List Value := [.null, .null, .int 0]
theorem fz_8 {g : wG} : fz g 52 = (g.2.2 52, .inr (8, [.ref (g.2.2 53), .ref (g.2.2 54), .int 0])) := rfl
abbrev wvX8_init : List Cond := Cond.code yX8_init cX8_init 1 none :: wsL_law
theorem cd_X8_init : okN yX8_init RX8 0 := by unfold okN; decide +kernel
set_option maxRecDepth 100000 in
set_option maxHeartbeats 4000000 in
theorem c_X8_init (l : Launch) (g : wG) (A : Nat → Prop) (hA : adO g A) {E : va_W} {eids : List Nat} {n : Nat} (hE : E.map Prod.fst = eids.map g.2.2) (ok2 : okI (52 :: 54 :: 53 :: eids)) (h9 : g.2.2 52 + 1 = n) (h0 : g.2.2 53 = n + 0) (h1 : g.2.2 54 = n + 1) (hup : ∀ q, n ≤ q → A q) : Mk l yX8_init wvX8_init 1 20 2 9 g A [.ref (g.2.2 52)] ((g.2.2 52, .inr (8, bl8)) :: E) n (fz g 52 :: fz g 54 :: fz g 53 :: E) := by
  refine mt_k (own := RX8) (lv := [(0, .ref (g.2.2 52))]) (by decide) rfl rfl rfl hA (Nat.le_of_ble_eq_true rfl) rfl ?_
  intro X hl hg hAA F hK hn hc hs hnm hret
  subst hl hg hAA
  have ok1 := ok2.d1
  have ok0 := ok1.d1
  have hup2 : ∀ q, (xs X).heap.size ≤ q → xA X q := fun q hq => hup q (by omega)
  rw [fz_8, fz_14 kz_54 nz_54, fz_14 kz_53 nz_53] at hret
  refine y_aload_n F dX8_init_0 rfl 0 rfl ?_
  refine y_objInit F (mc bw_6_18) (mc bw_1_12) (mc bw_1_13) (Nat.le_of_ble_eq_true rfl) (Nat.le_of_ble_eq_true rfl) dX8_init_1 ?_
  refine y_aload_n F dX8_init_4 rfl 0 rfl ?_
  refine y_iconst (5 : Int32) F dX8_init_5 (by decide) ?_
  refine y_newa (atype := .int) (ws2 := ((xg X).2.2 52, .inr (8, [.null, .null, .int 0])) :: aI (xg X) 53 5 :: E) (ty := .int) (t0 := 1) (N := 5) (a0 := (5, .inl (fun _ => 0))) (a := (xg X).2.2 53) F (mc bw_3_9) rfl rfl (fun _ h => h) rfl (by decide) (by decide) (by decide) (by omega) (Or.inl rfl) (by omega) (by omega) hup2 p_ins dX8_init_6 ?_
  refine y_putF hnm (q0 := 0) (ci := 8) (C := RX8) (T := TX8) (n := 3) (k0 := 0) (ty0 := tyX8) (ty := (.array .int)) (ws2 := ((xg X).2.2 52, .inr (8, [.ref ((xg X).2.2 53), .null, .int 0])) :: aI (xg X) 53 5 :: E) F (dWo F.2.2.1 (cE (cE hE)) ok1) rfl rfl in_8 tyX8_ok nmX8 (by decide) rfl (mc bw_6_19) rfl rfl (by decide +kernel) rfl rfl (Nat.le_of_ble_eq_true rfl) rfl dX8_init_8 ?_
  refine y_aload_n F dX8_init_11 rfl 0 rfl ?_
  refine y_iconst (4 : Int32) F dX8_init_12 (by decide) ?_
  refine y_newa (atype := .int) (ws2 := ((xg X).2.2 52, .inr (8, [.ref ((xg X).2.2 53), .null, .int 0])) :: aI (xg X) 54 4 :: aI (xg X) 53 5 :: E) (ty := .int) (t0 := 1) (N := 4) (a0 := (4, .inl (fun _ => 0))) (a := (xg X).2.2 54) F (mc bw_3_9) rfl rfl (fun _ h => h) rfl (by decide) (by decide) (by decide) (by omega) (Or.inr ⟨1, _, rfl, by show (xg X).2.2 53 + 1 = (xg X).2.2 54; omega⟩) (by omega) (by omega) hup2 p_ins dX8_init_13 ?_
  refine y_putF hnm (q0 := 0) (ci := 8) (C := RX8) (T := TX8) (n := 3) (k0 := 1) (ty0 := tyX8) (ty := (.array .int)) (ws2 := ((xg X).2.2 52, .inr (8, [.ref ((xg X).2.2 53), .ref ((xg X).2.2 54), .int 0])) :: aI (xg X) 54 4 :: aI (xg X) 53 5 :: E) F (dWo F.2.2.1 (cE (cE (cE hE))) ok2) rfl rfl in_8 tyX8_ok nmX8 (by decide) rfl (mc bw_6_20) rfl rfl (by decide +kernel) rfl rfl (Nat.le_of_ble_eq_true rfl) rfl dX8_init_15 ?_
  refine y_aload_n F dX8_init_18 rfl 0 rfl ?_
  refine y_iconst (0 : Int32) F dX8_init_19 (by decide) ?_
  refine y_put (q0 := 0) (ci := 8) (C := RX8) (T := TX8) (n := 3) (k0 := 2) (ty0 := tyX8) (ty := .int) (ws2 := ((xg X).2.2 52, .inr (8, [.ref ((xg X).2.2 53), .ref ((xg X).2.2 54), .int 0])) :: aI (xg X) 54 4 :: aI (xg X) 53 5 :: E) F (dWo F.2.2.1 (cE (cE (cE hE))) ok2) rfl rfl in_8 tyX8_ok nmX8 (by decide) rfl (mc bw_6_21) rfl (by decide +kernel) rfl rfl (Nat.le_of_ble_eq_true rfl) rfl dX8_init_20 ?_
  exact hret _ _ dX8_init_23
abbrev bl9 : List Value := [.null, .int 0]
theorem fz_9 {g : wG} {i0 : Nat} (k_i0 : kd i0 = 9) : fz g i0 = (g.2.2 i0, .inr (9, [.ref (g.2.2 (i0 + 1)), .int 0])) := by
  unfold fz; rw [cl_9 k_i0]; simp [fl9, s0, k_i0]
abbrev wvX9_init : List Cond := Cond.code yX9_init cX9_init 1 none :: wsL_law
theorem cd_X9_init : okN yX9_init RX9 0 := by unfold okN; decide +kernel
set_option maxRecDepth 100000 in
set_option maxHeartbeats 4000000 in
theorem c_X9_init (l : Launch) (g : wG) (A : Nat → Prop) (hA : adO g A) {i0 : Nat} (k_i0 : kd i0 = 9) {E : va_W} {eids : List Nat} {n : Nat} (hE : E.map Prod.fst = eids.map g.2.2) (ok1 : okI (i0 :: (i0 + 1) :: eids)) (h9 : g.2.2 i0 + 1 = n) (h0 : g.2.2 (i0 + 1) = n + 0) (hup : ∀ q, n ≤ q → A q) : Mk l yX9_init wvX9_init 1 20 1 64 g A [.ref (g.2.2 i0)] ((g.2.2 i0, .inr (9, bl9)) :: E) n (fz g i0 :: fz g (i0 + 1) :: E) := by
  refine mt_k (own := RX9) (lv := [(0, .ref (g.2.2 i0))]) (by decide) rfl rfl rfl hA (Nat.le_of_ble_eq_true rfl) rfl ?_
  intro X hl hg hAA F hK hn hc hs hnm hret
  subst hl hg hAA
  have ok0 := ok1.d1
  have hup2 : ∀ q, (xs X).heap.size ≤ q → xA X q := fun q hq => hup q (by omega)
  rw [fz_9 k_i0, fz_14 (ky_9_0 k_i0) (kn_9_0 k_i0)] at hret
  refine y_aload_n F dX9_init_0 rfl 0 rfl ?_
  refine y_objInit F (mc bw_7_0) (mc bw_1_12) (mc bw_1_13) (Nat.le_of_ble_eq_true rfl) (Nat.le_of_ble_eq_true rfl) dX9_init_1 ?_
  refine y_aload_n F dX9_init_4 rfl 0 rfl ?_
  refine y_bipush (64 : Int32) F dX9_init_5 (by decide) ?_
  refine y_newa (atype := .int) (ws2 := ((xg X).2.2 i0, .inr (9, [.null, .int 0])) :: aI (xg X) (i0 + 1) 64 :: E) (ty := .int) (t0 := 1) (N := 64) (a0 := (64, .inl (fun _ => 0))) (a := (xg X).2.2 (i0 + 1)) F (mc bw_3_9) rfl rfl (fun _ h => h) rfl (by decide) (by decide) (by decide) (by omega) (Or.inl rfl) (by omega) (by omega) hup2 p_ins dX9_init_7 ?_
  refine y_putF hnm (q0 := 0) (ci := 9) (C := RX9) (T := TX9) (n := 2) (k0 := 0) (ty0 := tyX9) (ty := (.array .int)) (ws2 := ((xg X).2.2 i0, .inr (9, [.ref ((xg X).2.2 (i0 + 1)), .int 0])) :: aI (xg X) (i0 + 1) 64 :: E) F (dWo F.2.2.1 (cE (cE hE)) ok1) rfl rfl in_9 tyX9_ok nmX9 (by decide) rfl (mc bw_7_1) rfl rfl (by decide +kernel) rfl rfl (Nat.le_of_ble_eq_true rfl) rfl dX9_init_9 ?_
  refine y_aload_n F dX9_init_12 rfl 0 rfl ?_
  refine y_iconst (0 : Int32) F dX9_init_13 (by decide) ?_
  refine y_put (q0 := 0) (ci := 9) (C := RX9) (T := TX9) (n := 2) (k0 := 1) (ty0 := tyX9) (ty := .int) (ws2 := ((xg X).2.2 i0, .inr (9, [.ref ((xg X).2.2 (i0 + 1)), .int 0])) :: aI (xg X) (i0 + 1) 64 :: E) F (dWo F.2.2.1 (cE (cE hE)) ok1) rfl rfl in_9 tyX9_ok nmX9 (by decide) rfl (mc bw_7_2) rfl (by decide +kernel) rfl rfl (Nat.le_of_ble_eq_true rfl) rfl dX9_init_14 ?_
  exact hret _ _ dX9_init_17
