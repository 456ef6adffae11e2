/-! what the Statement gives of the start: the tables, the statics, the String constants -/
abbrev FW : List Cond := flatC (Jvm.Cond.and given_1 narrow_1)
def stTy (k : Nat) : FieldType := if kd (200 + k) = 25 then .char else .int
def stTm (k : Nat) : Term := .static "MooringDesk" (stn k).1 (stn k).2
def sIx (i : Nat) : Nat := [129, 135, 171].getD i 0
def sTm (i : Nat) : Term := .string "MooringDeskModel" (sIx i)
theorem fs_arr : ∀ k, k < 10 → Cond.arrayOf (stTm k) (stTy k) ∈ FW := by decide +kernel
theorem fs_len : ∀ k, k < 10 → Cond.eq (.length (stTm k)) (.int (Int32.ofNat (ln (200 + k)))) ∈ FW := by decide +kernel
theorem fs_el : ∀ k, k < 10 → ∀ j, j < ln (200 + k) → Cond.eq (.elem (stTm k) (.int (Int32.ofNat j))) (.int (stv (200 + k) j)) ∈ FW := by decide +kernel
theorem fs_cs : Cond.eq (.static "java/lang/String" "COMPACT_STRINGS" "Z") (.int 1) ∈ FW := by decide +kernel
theorem fs_r1 : Cond.isRef (.static Bundle.tN "UNASSIGNED_STACK" Bundle.steD) ∈ FW := by decide +kernel
theorem fs_r2 : Cond.isRef (.static Bundle.tN "SUPPRESSED_SENTINEL" Bundle.listD) ∈ FW := by decide +kernel
theorem fs_r3 : Cond.isRef (.static "jdk/internal/util/Preconditions" "SIOOBE_FORMATTER" "Ljava/util/function/BiFunction;") ∈ FW := by decide +kernel
theorem fk_ex : ∀ i, i < 3 → Cond.exactly (sTm i) "java/lang/String" ∈ FW := by decide +kernel
theorem fk_co : ∀ i, i < 3 → Cond.eq (.field (sTm i) "java/lang/String" "coder" "B") (.int 0) ∈ FW := by decide +kernel
theorem fk_ar : ∀ i, i < 3 → Cond.arrayOf (.field (sTm i) "java/lang/String" "value" "[B") .byte ∈ FW := by decide +kernel
theorem fk_le : ∀ i, i < 3 → Cond.eq (.length (.field (sTm i) "java/lang/String" "value" "[B")) (.int (Int32.ofNat (stL.getD i 0))) ∈ FW := by decide +kernel
theorem fk_el : ∀ i, i < 3 → ∀ j, j < stL.getD i 0 → Cond.eq (.elem (.field (sTm i) "java/lang/String" "value" "[B") (.int (Int32.ofNat j))) (.int ((stB.getD i []).getD j 0)) ∈ FW := by decide +kernel
theorem fk_ne : ∀ i, i < 3 → ∀ j, j < 3 → i ≠ j → Cond.not (Cond.eq (sTm i) (sTm j)) ∈ FW ∨ Cond.not (Cond.eq (sTm j) (sTm i)) ∈ FW := by decide +kernel
theorem tw_st : ∀ k, k < 10 → Cond.laysStatic "MooringDesk" (stn k).1 (stn k).2 ∈ lw_tbl := by decide +kernel
theorem tw_cs : Cond.laysStatic "java/lang/String" "COMPACT_STRINGS" "Z" ∈ lw_tbl := by decide +kernel
theorem tw_r1 : Cond.laysStatic Bundle.tN "UNASSIGNED_STACK" Bundle.steD ∈ lw_tbl := by decide +kernel
theorem tw_r2 : Cond.laysStatic Bundle.tN "SUPPRESSED_SENTINEL" Bundle.listD ∈ lw_tbl := by decide +kernel
theorem tw_r3 : Cond.laysStatic "jdk/internal/util/Preconditions" "SIOOBE_FORMATTER" "Ljava/util/function/BiFunction;" ∈ lw_tbl := by decide +kernel
theorem tw_i : ∀ c ∈ ["MooringDesk", "java/lang/String", Bundle.tN, "jdk/internal/util/Preconditions"], Cond.initialized c ∈ lw_tbl := by decide +kernel
theorem tw_nf : ∀ w ∈ nsF, Cond.fieldLinkNest w.1 w.2.1 "MooringDesk" w.2.2.1 w.2.2.2 "MooringDesk" ∈ lw_tbl := by decide +kernel
theorem tw_nm : Cond.methodLinkNest RX1 39 yX11_isWithin "MooringDesk" ∈ lw_tbl := by decide +kernel
theorem tw_nk : ∀ w ∈ nsK, Cond.methodLinkNest w.1 w.2.1 w.2.2 "MooringDesk" ∈ lw_tbl := by decide +kernel
theorem tw_ao : ∀ c ∈ ["MooringDesk$Hold", "MooringDesk$Script"], Cond.arrayOver (.object c) ∈ lw_tbl := by decide +kernel
theorem tw_sr : ∀ k, k < 3 → ∀ q ∈ stX[k]?, Cond.stringRef RX12 q.1 q.2 ∈ lw_tbl := by decide +kernel
theorem tw_nb : ∀ w ∈ nsb, w ∈ lw_tbl := by decide +kernel
theorem off_inj : ∀ i, i < 200 → ∀ j, j < 200 → offT.getD i 0 = offT.getD j 0 → i = j := by decide +kernel
