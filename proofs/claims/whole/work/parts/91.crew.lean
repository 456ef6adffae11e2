/-! the crew made -/
theorem bw_5_5 : Cond.methodLink RX1 3 objectInit ∈ wsL_law := bc_5 (List.Mem.tail _ (List.Mem.tail _ (List.Mem.tail _ (List.Mem.tail _ (List.Mem.tail _ (List.Mem.head _))))))
theorem bw_5_6 : Cond.classLink RX1 9 RX0 ∈ wsL_law := bc_5 (List.Mem.tail _ (List.Mem.tail _ (List.Mem.tail _ (List.Mem.tail _ (List.Mem.tail _ (List.Mem.tail _ (List.Mem.head _)))))))
theorem bw_5_7 : Cond.instantiable RX0 5 ∈ wsL_law := bc_5 (List.Mem.tail _ (List.Mem.tail _ (List.Mem.tail _ (List.Mem.tail _ (List.Mem.tail _ (List.Mem.tail _ (List.Mem.tail _ (List.Mem.head _))))))))
theorem bw_5_15 : Cond.instanceMethod yX0_init ∈ wsL_law := bc_5 (List.Mem.tail _ (List.Mem.tail _ (List.Mem.tail _ (List.Mem.tail _ (List.Mem.tail _ (List.Mem.tail _ (List.Mem.tail _ (List.Mem.tail _ (List.Mem.tail _ (List.Mem.tail _ (List.Mem.tail _ (List.Mem.tail _ (List.Mem.tail _ (List.Mem.tail _ (List.Mem.tail _ (List.Mem.head _))))))))))))))))
theorem bw_5_16 : Cond.code yX0_init cX0_init 1 none ∈ wsL_law := bc_5 (List.Mem.tail _ (List.Mem.tail _ (List.Mem.tail _ (List.Mem.tail _ (List.Mem.tail _ (List.Mem.tail _ (List.Mem.tail _ (List.Mem.tail _ (List.Mem.tail _ (List.Mem.tail _ (List.Mem.tail _ (List.Mem.tail _ (List.Mem.tail _ (List.Mem.tail _ (List.Mem.tail _ (List.Mem.tail _ (List.Mem.head _)))))))))))))))))
def offT : List Nat := [0, 1, 2, 3, 4, 5, 6, 7, 8, 9, 10, 11, 12, 13, 14, 15, 16, 17, 18, 166, 167, 168, 169, 170, 171, 172, 173, 174, 175, 19, 20, 21, 22, 23, 24, 162, 163, 164, 25, 31, 32, 26, 27, 28, 29, 30, 33, 34, 35, 36, 37, 38, 159, 160, 161, 165, 39, 40, 41, 42, 43, 44, 45, 46, 47, 48, 49, 50, 51, 52, 53, 54, 55, 56, 57, 58, 59, 60, 61, 62, 63, 64, 65, 66, 67, 68, 69, 70, 71, 72, 73, 74, 75, 76, 77, 78, 79, 80, 81, 82, 83, 84, 85, 86, 87, 88, 89, 90, 91, 92, 93, 94, 95, 96, 97, 98, 99, 100, 101, 102, 103, 104, 105, 106, 107, 108, 109, 110, 111, 112, 113, 114, 115, 116, 117, 118, 119, 120, 121, 122, 123, 124, 125, 126, 127, 128, 129, 130, 131, 132, 133, 134, 135, 136, 137, 138, 139, 140, 141, 142, 143, 144, 145, 146, 147, 148, 149, 150, 151, 152, 153, 154, 155, 156, 157, 158, 176, 177, 178, 179, 180, 181, 182, 183, 184, 185, 186, 187, 188, 189, 190, 191, 192, 193, 194, 195, 196, 197, 198, 199]
def okIb (L : List Nat) : Bool := decide L.Nodup && L.all (fun i => decide (i < 200))
theorem okI_of {L : List Nat} (h : okIb L = true) : okI L := by
  unfold okIb at h
  simp only [Bool.and_eq_true, decide_eq_true_eq, List.all_eq_true] at h
  exact h
theorem p_sw {x y z : Nat × va_E} {E : va_W} : ∀ q ∈ x :: y :: z :: E, q ∈ x :: z :: y :: E := by
  intro q hq
  simp only [List.mem_cons] at hq ⊢
  rcases hq with h | h | h | h
  · exact Or.inl h
  · exact Or.inr (Or.inr (Or.inl h))
  · exact Or.inr (Or.inl h)
  · exact Or.inr (Or.inr (Or.inr h))
abbrev bl1 : List Value := [.null, .null, .null, .int 0, .int 0, .int 0]
abbrev bl6 : List Value := [.null, .int 0, .int 0]
abbrev bl11 : List Value := [.null, .null, .null, .null, .null, .int 0, .null, .null, .null, .null, .null, .null, .null, .null, .null, .null, .int 0, .long 0]
theorem bf0 : ∀ j, j < 5 → defaultValue (tyX0 j) = vp_V bl0 j := by decide +kernel
theorem bf1 : ∀ j, j < 6 → defaultValue (tyX1 j) = vp_V bl1 j := by decide +kernel
theorem bf2 : ∀ j, j < 2 → defaultValue (tyX2 j) = vp_V bl2 j := by decide +kernel
theorem bf3 : ∀ j, j < 8 → defaultValue (tyX3 j) = vp_V bl3 j := by decide +kernel
theorem bf4 : ∀ j, j < 1 → defaultValue (tyX4 j) = vp_V bl4 j := by decide +kernel
theorem bf5 : ∀ j, j < 7 → defaultValue (tyX5 j) = vp_V bl5 j := by decide +kernel
theorem bf6 : ∀ j, j < 3 → defaultValue (tyX6 j) = vp_V bl6 j := by decide +kernel
theorem bf7 : ∀ j, j < 4 → defaultValue (tyX7 j) = vp_V bl7 j := by decide +kernel
theorem bf8 : ∀ j, j < 3 → defaultValue (tyX8 j) = vp_V bl8 j := by decide +kernel
theorem bf9 : ∀ j, j < 2 → defaultValue (tyX9 j) = vp_V bl9 j := by decide +kernel
theorem bf10 : ∀ j, j < 2 → defaultValue (tyX10 j) = vp_V bl10 j := by decide +kernel
theorem bf11 : ∀ j, j < 18 → defaultValue (tyX11 j) = vp_V bl11 j := by decide +kernel
theorem bf12 : ∀ j, j < 43 → defaultValue (tyX12 j) = vp_V bl12 j := by decide +kernel
theorem fz_1 {g : wG} : fz g 38 = (g.2.2 38, .inr (1, [.ref (g.2.2 41), .ref (g.2.2 39), .ref (g.2.2 40), .int 0, .int 0, .int (-1)])) := rfl
abbrev wvX1_init : List Cond := Cond.code yX1_init cX1_init 1 none :: wsL_law
theorem cd_X1_init : okN yX1_init RX1 0 := by unfold okN; decide +kernel
set_option maxRecDepth 100000 in
set_option maxHeartbeats 4000000 in
theorem c_X1_init (l : Launch) (g : wG) (A : Nat → Prop) (hA : adO g A) {E : va_W} {eids : List Nat} {n base : Nat} (hE : E.map Prod.fst = eids.map g.2.2) (ok0 : okI (41 :: 45 :: 44 :: 43 :: 42 :: 38 :: eids)) (ok1 : okI (38 :: 41 :: 45 :: 44 :: 43 :: 42 :: eids)) (ok2 : okI (38 :: 39 :: 41 :: 45 :: 44 :: 43 :: 42 :: eids)) (ok3 : okI (38 :: 40 :: 39 :: 41 :: 45 :: 44 :: 43 :: 42 :: eids)) (h9 : n = base + 26) (hof : ∀ j m, j < 200 → offT.getD j 0 = m → g.2.2 j = base + m) (hupb : ∀ q, base ≤ q → A q) : Mk l yX1_init wvX1_init 2 45 7 40 g A [.ref (g.2.2 38)] ((g.2.2 38, .inr (1, bl1)) :: E) n (fz g 38 :: fz g 40 :: fz g 39 :: fz g 41 :: fz g 45 :: fz g 44 :: fz g 43 :: fz g 42 :: E) := by
  refine mt_k (own := RX1) (lv := [(0, .ref (g.2.2 38))]) (by decide) rfl rfl rfl hA (Nat.le_of_ble_eq_true rfl) rfl ?_
  intro X hl hg hAA F hK hn hc hs hnm hret
  subst hl hg hAA
  have hup2 : ∀ q, (xs X).heap.size ≤ q → xA X q := fun q hq => hupb q (by omega)
  refine y_aload_n F dX1_init_0 rfl 0 rfl ?_
  refine y_objInit F (mc bw_5_5) (mc bw_1_12) (mc bw_1_13) (Nat.le_of_ble_eq_true rfl) (Nat.le_of_ble_eq_true rfl) dX1_init_1 ?_
  refine y_aload_n F dX1_init_4 rfl 0 rfl ?_
  refine y_new (N := 5) (a := (xg X).2.2 41) (ci := 0) (C := RX0) (T := TX0) (fs := bl0) (ty := tyX0) F in_0 tyX0_ok (mc bw_5_6) (mc bw_5_7) (mc bw_5_8) rfl bf0 (by have h_41 := (hof 41 26 (by decide) (by decide)); omega) (Or.inl rfl) (by rw [hc]; decide) (by rw [hs]; decide) dX1_init_5 ?_
  refine y_dup F dX1_init_8 rfl ?_
  refine y_callN (n := (xg X).2.2 41 + 1) (As := []) (ws2 := ((xg X).2.2 38, .inr (1, [.null, .null, .null, .int 0, .int 0, .int 0])) :: fz (xg X) 41 :: fz (xg X) 45 :: fz (xg X) 44 :: fz (xg X) 43 :: fz (xg X) 42 :: E) F hK (c_X0_init (xl X) (xg X) (xA X) F.2.2.1 (cE hE) ok0 rfl (by have h_42 := (hof 42 27 (by decide) (by decide)); have h_41 := (hof 41 26 (by decide) (by decide)); omega) (by have h_43 := (hof 43 28 (by decide) (by decide)); have h_41 := (hof 41 26 (by decide) (by decide)); omega) (by have h_44 := (hof 44 29 (by decide) (by decide)); have h_41 := (hof 41 26 (by decide) (by decide)); omega) (by have h_45 := (hof 45 30 (by decide) (by decide)); have h_41 := (hof 41 26 (by decide) (by decide)); omega) (fun q hq => hupb q (by have h_41 := (hof 41 26 (by decide) (by decide)); omega))) (bw_own bw_5_16) rfl (List.Mem.tail _ (List.Mem.tail _ (List.Mem.tail _ (List.Mem.tail _ (List.Mem.tail _ (List.Mem.tail _ (List.Mem.tail _ (List.Mem.tail _ (List.Mem.head _))))))))) (mc bw_5_8) (mc bw_5_15) rfl cd_X0_init (Nat.le_of_ble_eq_true rfl) (Nat.le_of_ble_eq_true rfl) rfl (by have h_41 := (hof 41 26 (by decide) (by decide)); omega) (Or.inr ⟨0, _, rfl, rfl⟩) (by rw [hc]; decide) (by rw [hs]; decide) rfl (Nat.le_of_ble_eq_true rfl) dX1_init_9 (p_mid [fz (xg X) 41, fz (xg X) 45, fz (xg X) 44, fz (xg X) 43, fz (xg X) 42]) ?_
  obtain ⟨E1, eE1⟩ : ∃ Enw, Enw = fz (xg X) 41 :: fz (xg X) 45 :: fz (xg X) 44 :: fz (xg X) 43 :: fz (xg X) 42 :: E := ⟨_, rfl⟩
  rw [← eE1]
  have hE1 : E1.map Prod.fst = (41 :: 45 :: 44 :: 43 :: 42 :: eids).map (xg X).2.2 := by rw [eE1]; exact cE (cE (cE (cE (cE hE))))
  refine y_putF hnm (q0 := 0) (ci := 1) (C := RX1) (T := TX1) (n := 6) (k0 := 0) (ty0 := tyX1) (ty := (.object "MooringDesk$Balance")) (ws2 := ((xg X).2.2 38, .inr (1, [.ref ((xg X).2.2 41), .null, .null, .int 0, .int 0, .int 0])) :: E1) F (dWo F.2.2.1 (cE hE1) ok1) rfl rfl in_1 tyX1_ok nmX1 (by decide) rfl (mc bw_5_9) rfl rfl (by decide +kernel) rfl rfl (Nat.le_of_ble_eq_true rfl) rfl dX1_init_12 ?_
  refine y_aload_n F dX1_init_15 rfl 0 rfl ?_
  refine y_bipush (8 : Int32) F dX1_init_16 (by decide) ?_
  refine y_newa (atype := .int) (ws2 := ((xg X).2.2 38, .inr (1, [.ref ((xg X).2.2 41), .null, .null, .int 0, .int 0, .int 0])) :: aI (xg X) 39 8 :: E1) (ty := .int) (t0 := 1) (N := 8) (a0 := (8, .inl (fun _ => 0))) (a := (xg X).2.2 39) F (mc bw_3_9) rfl rfl (fun _ h => h) rfl (by decide) (by decide) (by decide) (by have h_39 := (hof 39 31 (by decide) (by decide)); omega) (Or.inr ⟨2, _, by rw [eE1]; rfl, by show (xg X).2.2 45 + 1 = (xg X).2.2 39; have h_45 := (hof 45 30 (by decide) (by decide)); have h_39 := (hof 39 31 (by decide) (by decide)); omega⟩) (by rw [hc]; decide) (by rw [hs]; decide) hup2 p_ins dX1_init_18 ?_
  obtain ⟨E2, eE2⟩ : ∃ Enw, Enw = aI (xg X) 39 8 :: E1 := ⟨_, rfl⟩
  rw [← eE2]
  have hE2 : E2.map Prod.fst = (39 :: 41 :: 45 :: 44 :: 43 :: 42 :: eids).map (xg X).2.2 := by rw [eE2]; exact cE hE1
  refine y_putF hnm (q0 := 0) (ci := 1) (C := RX1) (T := TX1) (n := 6) (k0 := 1) (ty0 := tyX1) (ty := (.array .int)) (ws2 := ((xg X).2.2 38, .inr (1, [.ref ((xg X).2.2 41), .ref ((xg X).2.2 39), .null, .int 0, .int 0, .int 0])) :: E2) F (dWo F.2.2.1 (cE hE2) ok2) rfl rfl in_1 tyX1_ok nmX1 (by decide) rfl (mc bw_5_10) rfl rfl (by decide +kernel) rfl rfl (Nat.le_of_ble_eq_true rfl) rfl dX1_init_20 ?_
  refine y_aload_n F dX1_init_23 rfl 0 rfl ?_
  refine y_iconst (4 : Int32) F dX1_init_24 (by decide) ?_
  refine y_newa (atype := .long) (ws2 := ((xg X).2.2 38, .inr (1, [.ref ((xg X).2.2 41), .ref ((xg X).2.2 39), .null, .int 0, .int 0, .int 0])) :: aL (xg X) 40 4 :: E2) (ty := .long) (t0 := 2) (N := 4) (a0 := (4, .inr (.inl (fun _ => 0)))) (a := (xg X).2.2 40) F (mc bw_1_6) rfl rfl (fun _ h => h) rfl (by decide) (by decide) (by decide) (by have h_40 := (hof 40 32 (by decide) (by decide)); omega) (Or.inr ⟨1, _, by rw [eE2]; rfl, by show (xg X).2.2 39 + 1 = (xg X).2.2 40; have h_39 := (hof 39 31 (by decide) (by decide)); have h_40 := (hof 40 32 (by decide) (by decide)); omega⟩) (by rw [hc]; decide) (by rw [hs]; decide) hup2 p_ins dX1_init_25 ?_
  obtain ⟨E3, eE3⟩ : ∃ Enw, Enw = aL (xg X) 40 4 :: E2 := ⟨_, rfl⟩
  rw [← eE3]
  have hE3 : E3.map Prod.fst = (40 :: 39 :: 41 :: 45 :: 44 :: 43 :: 42 :: eids).map (xg X).2.2 := by rw [eE3]; exact cE hE2
  refine y_putF hnm (q0 := 0) (ci := 1) (C := RX1) (T := TX1) (n := 6) (k0 := 2) (ty0 := tyX1) (ty := (.array .long)) (ws2 := ((xg X).2.2 38, .inr (1, [.ref ((xg X).2.2 41), .ref ((xg X).2.2 39), .ref ((xg X).2.2 40), .int 0, .int 0, .int 0])) :: E3) F (dWo F.2.2.1 (cE hE3) ok3) rfl rfl in_1 tyX1_ok nmX1 (by decide) rfl (mc bw_5_11) rfl rfl (by decide +kernel) rfl rfl (Nat.le_of_ble_eq_true rfl) rfl dX1_init_27 ?_
  refine y_aload_n F dX1_init_30 rfl 0 rfl ?_
  refine y_iconst (0 : Int32) F dX1_init_31 (by decide) ?_
  refine y_put (q0 := 0) (ci := 1) (C := RX1) (T := TX1) (n := 6) (k0 := 3) (ty0 := tyX1) (ty := .int) (ws2 := ((xg X).2.2 38, .inr (1, [.ref ((xg X).2.2 41), .ref ((xg X).2.2 39), .ref ((xg X).2.2 40), .int 0, .int 0, .int 0])) :: E3) F (dWo F.2.2.1 (cE hE3) ok3) rfl rfl in_1 tyX1_ok nmX1 (by decide) rfl (mc bw_5_12) rfl (by decide +kernel) rfl rfl (Nat.le_of_ble_eq_true rfl) rfl dX1_init_32 ?_
  refine y_aload_n F dX1_init_35 rfl 0 rfl ?_
  refine y_iconst (0 : Int32) F dX1_init_36 (by decide) ?_
  refine y_put (q0 := 0) (ci := 1) (C := RX1) (T := TX1) (n := 6) (k0 := 4) (ty0 := tyX1) (ty := .int) (ws2 := ((xg X).2.2 38, .inr (1, [.ref ((xg X).2.2 41), .ref ((xg X).2.2 39), .ref ((xg X).2.2 40), .int 0, .int 0, .int 0])) :: E3) F (dWo F.2.2.1 (cE hE3) ok3) rfl rfl in_1 tyX1_ok nmX1 (by decide) rfl (mc bw_5_13) rfl (by decide +kernel) rfl rfl (Nat.le_of_ble_eq_true rfl) rfl dX1_init_37 ?_
  refine y_aload_n F dX1_init_40 rfl 0 rfl ?_
  refine y_iconst (-1 : Int32) F dX1_init_41 (by decide) ?_
  refine y_put (q0 := 0) (ci := 1) (C := RX1) (T := TX1) (n := 6) (k0 := 5) (ty0 := tyX1) (ty := .int) (ws2 := ((xg X).2.2 38, .inr (1, [.ref ((xg X).2.2 41), .ref ((xg X).2.2 39), .ref ((xg X).2.2 40), .int 0, .int 0, .int (-1)])) :: E3) F (dWo F.2.2.1 (cE hE3) ok3) rfl rfl in_1 tyX1_ok nmX1 (by decide) rfl (mc bw_5_14) rfl (by decide +kernel) rfl rfl (Nat.le_of_ble_eq_true rfl) rfl dX1_init_42 ?_
  have fE1 : E1 = fz (xg X) 41 :: fz (xg X) 45 :: fz (xg X) 44 :: fz (xg X) 43 :: fz (xg X) 42 :: E := eE1
  have fE2 : E2 = fz (xg X) 39 :: E1 := by rw [eE2]; exact congrArg (· :: E1) (fz_14 (g := xg X) kz_39 nz_39).symm
  have fE3 : E3 = fz (xg X) 40 :: E2 := by rw [eE3]; exact congrArg (· :: E2) (fz_15 (g := xg X) kz_40 nz_40).symm
  rw [fE3, fE2, fE1]
  rw [fz_1] at hret
  exact hret _ _ dX1_init_45
