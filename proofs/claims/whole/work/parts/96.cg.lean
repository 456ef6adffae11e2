/-! the world at the entry -/
theorem arr_prim {s : State} {args : Array Value} {ty : FieldType} (h : (Cond.arrayClass ty).before args s = true) (hRA : ∀ cA, s.vm.findClass ("[" ++ ty.toString) = some cA → va_RA s cA ty) : ∃ cA : ClassId, ArrOfT s cA ty ∧ va_RA s cA ty := by
  obtain ⟨c, k, comp, h1, h2, h3⟩ := Cond.arrayClass_spec (show (Cond.arrayClass ty).holds args s none s [] = true from h)
  exact ⟨c, fun n z => ⟨fun k h => (by cases h), k, h2, comp, h3⟩, hRA c h1⟩
theorem arr_obj {s : State} {args : Array Value} {C : String} (h : (Cond.arrayOver (.object C)).before args s = true) : ∃ cA : ClassId, ArrOfT s cA (.object C) ∧ va_RA s cA (.object C) := by
  obtain ⟨comp, c, k, h1, -, h2, h3, h4⟩ := Cond.arrayOver_spec (show (Cond.arrayOver (.object C)).holds args s none s [] = true from h)
  exact ⟨c, fun n z => ⟨fun k h => (by cases h), k, h2, comp, h3⟩, k, comp, h2, h3, h1, h4⟩
def gAd (base : Nat) (t adK adV : Nat → Nat) (i : Nat) : Nat := if i < 200 then base + offT.getD i 0 else if i < 210 then t (i - 200) else if i < 213 then adK (i - 210) else adV (i - 213)
def gCl (cB cI cJ cZ cH cS : ClassId) (k : Nat) : ClassId := if k = 13 then cB else if k = 14 then cI else if k = 15 then cJ else if k = 16 then cZ else if k = 17 then cH else cS
theorem cls_all {s : State} {args : Array Value} (hts : ∀ w ∈ wsL_law, w.before args s = true) : ∃ D : va_G, ∀ (c : Nat) (q : vw_C), vwCl[c]? = some q → u_Kn s q.1 q.2.1 q.2.2 (D.1 c) (D.2 c) := by
  have one : ∀ (C : String) (T : u_T) (N : Nat), (∀ w ∈ u_ws C T N, w ∈ wsL_law) → Cond.instantiable C N ∈ wsL_law → ∃ p : ClassId × (Nat → Nat), u_Kn s C T N p.1 p.2 := by
    intro C T N h1 h2
    obtain ⟨cC, iS, h⟩ := u_known hts h1 (hts _ h2)
    exact ⟨(cC, iS), h⟩
  obtain ⟨p0, h0⟩ := one RX0 TX0 5 inlX0 bw_5_7
  obtain ⟨p1, h1⟩ := one RX1 TX1 6 inlX1 bw_2_12
  obtain ⟨p2, h2⟩ := one RX2 TX2 2 inlX2 bw_2_16
  obtain ⟨p3, h3⟩ := one RX3 TX3 8 inlX3 bw_2_7
  obtain ⟨p4, h4⟩ := one RX4 TX4 1 inlX4 bw_2_21
  obtain ⟨p5, h5⟩ := one RX5 TX5 7 inlX5 bw_1_23
  obtain ⟨p6, h6⟩ := one RX6 TX6 3 inlX6 bw_3_1
  obtain ⟨p7, h7⟩ := one RX7 TX7 4 inlX7 bw_1_19
  obtain ⟨p8, h8⟩ := one RX8 TX8 3 inlX8 bw_3_5
  obtain ⟨p9, h9⟩ := one RX9 TX9 2 inlX9 bw_3_13
  obtain ⟨p10, h10⟩ := one RX10 TX10 2 inlX10 bw_1_15
  obtain ⟨p11, h11⟩ := one RX11 TX11 18 inlX11 bw_1_1
  obtain ⟨p12, h12⟩ := one RX12 TX12 43 inlX12 bw_1_4
  refine ⟨(fun c => ([p0, p1, p2, p3, p4, p5, p6, p7, p8, p9, p10, p11, p12].getD c p0).1, fun c => ([p0, p1, p2, p3, p4, p5, p6, p7, p8, p9, p10, p11, p12].getD c p0).2), fun c q hq => ?_⟩
  match c, hq with
  | 0, hq => cases hq; exact h0
  | 1, hq => cases hq; exact h1
  | 2, hq => cases hq; exact h2
  | 3, hq => cases hq; exact h3
  | 4, hq => cases hq; exact h4
  | 5, hq => cases hq; exact h5
  | 6, hq => cases hq; exact h6
  | 7, hq => cases hq; exact h7
  | 8, hq => cases hq; exact h8
  | 9, hq => cases hq; exact h9
  | 10, hq => cases hq; exact h10
  | 11, hq => cases hq; exact h11
  | 12, hq => cases hq; exact h12
  | n + 13, hq => cases hq
theorem ln_small : ∀ k, k < 10 → ln (200 + k) < 2 ^ 31 := by decide +kernel
theorem start_of {s : State} {args : Array Value} (hts : ∀ w ∈ lw_tbl, w.before args s = true) (hgv : (Jvm.Cond.and given_1 narrow_1).before args s = true) : ∃ g : wG, Cg g (fun q => s.heap.size ≤ q) s s.heap ∧ adO g (fun q => s.heap.size ≤ q) ∧ Kg s ∧ Zt (fun q => s.heap.size ≤ q) s s.heap ∧ ∀ j m, j < 200 → offT.getD j 0 = m → g.2.2 j = s.heap.size + m := by
  have hF : ∀ w ∈ FW, w.before args s = true := flat_of_before _ hgv
  have htl : ∀ w ∈ wsL_law, w.before args s = true := fun w hw => hts w (tb_law w hw)
  have hnA : ∀ a : Nat, a < s.heap.size → ¬ (fun q => s.heap.size ≤ q) a := fun a h => Nat.not_le.mpr h
  obtain ⟨D, hD⟩ := cls_all htl
  obtain ⟨cB, b1, b2⟩ := arr_prim (htl _ bw_3_18) (fun _ h => h)
  obtain ⟨cI, i1, i2⟩ := arr_prim (htl _ bw_3_9) (fun _ h => h)
  obtain ⟨cJ, j1, j2⟩ := arr_prim (htl _ bw_1_6) (fun _ h => h)
  obtain ⟨cZ, z1, z2⟩ := arr_prim (htl _ bw_4_13) (fun _ h => h)
  obtain ⟨cH, h1, h2⟩ := arr_obj (hts _ (tw_ao "MooringDesk$Hold" (by decide)))
  obtain ⟨cS, c1, c2⟩ := arr_obj (hts _ (tw_ao "MooringDesk$Script" (by decide)))
  have hst : ∀ k : Nat, ∃ t : Nat, k < 10 → (stTm k).eval args s none [] s = some (.ref t) ∧ va_T (stTy k) t (ln (200 + k)) (fun j => .int (stv (200 + k) j)) (fun q => s.heap.size ≤ q) s s.heap := by
    intro k
    by_cases hk : k < 10
    · obtain ⟨t, t1, t2⟩ := va_Tof (A := fun q => s.heap.size ≤ q) (N := ln (200 + k)) (f := fun j => .int (stv (200 + k) j)) (ln_small k hk) (hF _ (fs_arr k hk)) (va_eqt (hF _ (fs_len k hk))) (fun j hj => va_eqt (hF _ (fs_el k hk j hj))) hnA
      exact ⟨t, fun _ => ⟨t1, t2⟩⟩
    · exact ⟨0, fun h => absurd h hk⟩
  obtain ⟨t, ht⟩ := Classical.skolem.mp hst
  obtain ⟨adK, adV, hS, hSe⟩ := vk_Sof (A := fun q => s.heap.size ≤ q) (tm := sTm) (len := stL) (byt := stB) (N := 3) (args := args) (s := s) (by decide) (fun i hi => hF _ (fk_ex i hi)) (fun i hi => hF _ (fk_co i hi)) (fun i hi => hF _ (fk_ar i hi)) (fun i hi => hF _ (fk_le i hi)) (fun i hi j hj => hF _ (fk_el i hi j hj)) (fun i j hi hj hij => (fk_ne i hi j hj hij).elim (fun h => Or.inl (hF _ h)) (fun h => Or.inr (hF _ h))) hnA
  have e0 : ∀ j m, j < 200 → offT.getD j 0 = m → gAd s.heap.size t adK adV j = s.heap.size + m := fun j m hj hm => by unfold gAd; rw [if_pos hj, hm]
  have e1 : ∀ k, k < 10 → gAd s.heap.size t adK adV (200 + k) = t k := fun k hk => by unfold gAd; rw [if_neg (by omega), if_pos (by omega), show 200 + k - 200 = k by omega]
  have e2 : ∀ k, k < 3 → gAd s.heap.size t adK adV (210 + k) = adK k := fun k hk => by unfold gAd; rw [if_neg (by omega), if_neg (by omega), if_pos (by omega), show 210 + k - 210 = k by omega]
  have e3 : ∀ k, gAd s.heap.size t adK adV (213 + k) = adV k := fun k => by unfold gAd; rw [if_neg (by omega), if_neg (by omega), if_neg (by omega), show 213 + k - 213 = k by omega]
  refine ⟨(D, gCl cB cI cJ cZ cH cS, gAd s.heap.size t adK adV), ?_, ?_, ?_, ?_, e0⟩
  · refine ⟨⟨hD, fun k q hk => ?_⟩, fun w hw => va_Nw.of rfl (hts _ (tw_nf w hw)), va_Nw.of rfl (hts _ tw_nm), fun k hk => ?_, fun k hk => ?_, ?_, fun k hk q hq => ?_, va_Zof (hts _ tw_cs) (hts _ (tw_i "java/lang/String" (by decide))) (va_eqi (hF _ fs_cs)) hnA, va_Zqof (hts _ tw_r3) (hts _ (tw_i "jdk/internal/util/Preconditions" (by decide))) (hF _ fs_r3) hnA⟩
    · match k, hk with
      | 0, hk => cases hk; exact ⟨b1, b2⟩
      | 1, hk => cases hk; exact ⟨i1, i2⟩
      | 2, hk => cases hk; exact ⟨j1, j2⟩
      | 3, hk => cases hk; exact ⟨z1, z2⟩
      | 4, hk => cases hk; exact ⟨h1, h2⟩
      | 5, hk => cases hk; exact ⟨c1, c2⟩
      | n + 6, hk => cases hk
    · show va_Z _ _ _ (.ref (gAd s.heap.size t adK adV (200 + k))) _ _ _
      rw [e1 k hk]
      exact va_Zof (hts _ (tw_st k hk)) (hts _ (tw_i "MooringDesk" (by decide))) (ht k hk).1 hnA
    · show va_T _ (gAd s.heap.size t adK adV (200 + k)) _ _ _ _ _
      rw [e1 k hk]
      exact (ht k hk).2
    · refine ⟨fun i hi => ?_, fun i j hi hj => ?_⟩
      · show va_O _ (gAd s.heap.size t adK adV (210 + i)) _ _ _ ∧ va_OF _ _ _ _ (gAd s.heap.size t adK adV (210 + i)) _ _ _ ∧ va_OF _ _ _ (.ref (gAd s.heap.size t adK adV (213 + i))) (gAd s.heap.size t adK adV (210 + i)) _ _ _ ∧ va_T _ (gAd s.heap.size t adK adV (213 + i)) _ _ _ _ _
        rw [e2 i hi, e3 i]
        exact hS.1 i hi
      · show gAd s.heap.size t adK adV (210 + i) = gAd s.heap.size t adK adV (210 + j) → i = j
        rw [e2 i hi, e2 j hj]
        exact hS.2 i j hi hj
    · have h3 := hSe k hk
      refine vk_R.of (A := args) (hts _ (tw_sr k hk q hq)) ?_
      show _ = some (Value.ref (gAd s.heap.size t adK adV (210 + k)))
      rw [e2 k hk]
      match k, hk, hq with
      | 0, _, hq => cases hq; exact h3
      | 1, _, hq => cases hq; exact h3
      | 2, _, hq => cases hq; exact h3
      | n + 3, hk, _ => omega
  · refine ⟨fun i j hi hj h => ?_, fun i hi => ?_, fun k hk => ?_⟩
    · have h4 : gAd s.heap.size t adK adV i = gAd s.heap.size t adK adV j := h
      rw [e0 i _ hi rfl, e0 j _ hj rfl] at h4
      exact off_inj i hi j hj (by omega)
    · show s.heap.size ≤ gAd s.heap.size t adK adV i
      rw [e0 i _ hi rfl]
      omega
    · show ¬ s.heap.size ≤ gAd s.heap.size t adK adV (200 + k)
      rw [e1 k hk]
      obtain ⟨cell, k1, -⟩ := (ht k hk).2
      have := (Array.getElem?_eq_some_iff.mp k1).1
      omega
  · exact ⟨fun w hw => va_Nw.of rfl (hts _ (tw_nk w hw)), va_AO.of (hts _ (tw_ao "MooringDesk$Hold" (by decide))), va_AO.of (hts _ (tw_ao "MooringDesk$Script" (by decide)))⟩
  · exact ⟨vx_Zqof (hts _ tw_r1) (hts _ (tw_i Bundle.tN (by decide))) (hF _ fs_r1) hnA, vx_Zqof (hts _ tw_r2) (hts _ (tw_i Bundle.tN (by decide))) (hF _ fs_r2) hnA, va_Nw.of rfl (hts _ (tw_nb _ (by decide))), va_Nw.of rfl (hts _ (tw_nb _ (by decide))), va_Nw.of rfl (hts _ (tw_nb _ (by decide))), va_Nw.of rfl (hts _ (tw_nb _ (by decide)))⟩
