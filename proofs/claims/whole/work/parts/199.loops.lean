/-! the loops of the program, each by a name (printed) -/
def lb_Exporter_init_46 := fun (a0 : Nat) => fun (k46 : Int32 → fs_T Unit) (v4 : Int32) =>
    if 3 ≤ v4 then (
      fs_ret ()) else
    fs_bind (fs_gr a0 1 3) fun r5 =>
    fs_bind (fs_nw 3 fs_d3) fun r6 =>
    fs_bind (f_Slot_init r6 v4) fun _ =>
    fs_bind (fs_sr r5 v4 r6) fun _ =>
    fs_nm ((v4 + 1) : Int32) fun v7 =>
    k46 v7
def lb_Exporter_placeInCache_3 := fun (a0 : Nat) (x1 : Int32) (x2 : Int32) (x3 : Int32) => fun (k3 : Int32 → fs_T Int32) (v1 : Int32) =>
    fs_bind (fs_gr a0 1 1) fun r2 =>
    fs_bind (fs_cv r2 2 (f_ArrayList_size r2)) fun v3 =>
    if v3 ≤ v1 then (
      fs_ret (-1)) else
    fs_bind (fs_gr a0 1 1) fun r4 =>
    fs_bind (fs_cv r4 2 (f_ArrayList_get r4 v1)) fun r5 =>
    fs_bind (fs_ck r5 8) fun _ =>
    fs_bind (fs_cv r5 8 (f_Flow_hasKey r5 x1 x2 x3)) fun v6 =>
    if v6 = 0 then (
      fs_nm ((v1 + 1) : Int32) fun v7 =>
      k3 v7) else
    fs_ret v1
def lb_Exporter_leastRecent_4 := fun (a0 : Nat) => fun (k4 : Int32 → Int32 → fs_T Int32) (v1 : Int32) (v2 : Int32) =>
    fs_bind (fs_gr a0 1 1) fun r3 =>
    fs_bind (fs_cv r3 2 (f_ArrayList_size r3)) fun v4 =>
    if v4 ≤ v2 then (
      fs_ret v1) else
    fs_bind (fs_gr a0 1 1) fun r5 =>
    fs_bind (fs_cv r5 2 (f_ArrayList_get r5 v2)) fun r6 =>
    fs_bind (fs_ck r6 8) fun _ =>
    fs_bind (fs_gi r6 8 6) fun v7 =>
    fs_bind (fs_gr a0 1 1) fun r8 =>
    fs_bind (fs_cv r8 2 (f_ArrayList_get r8 v1)) fun r9 =>
    fs_bind (fs_ck r9 8) fun _ =>
    fs_bind (fs_gi r9 8 6) fun v10 =>
    fs_let (fun (v11 : Int32) =>
      fs_nm ((v2 + 1) : Int32) fun v12 =>
      k4 v11 v12) fun j48 =>
    if v10 ≤ v7 then (
      j48 v1) else
    j48 v2
def lb_Exporter_passTick_22 := fun (a0 : Nat) v3 => fun (k22 : Int32 → Int32 → fs_T Int32) (v4 : Int32) (v5 : Int32) =>
    if v3 ≤ v5 then (
      fs_bind (fs_gr a0 1 1) fun r6 =>
      fs_bind (fs_cv r6 2 (f_ArrayList_size r6)) fun v7 =>
      fs_ret (v3 - v7)) else
    fs_bind (fs_gr a0 1 1) fun r8 =>
    fs_bind (fs_cv r8 2 (f_ArrayList_get r8 v4)) fun r9 =>
    fs_bind (fs_ck r9 8) fun _ =>
    fs_bind (fs_gi a0 1 4) fun v10 =>
    fs_bind (fs_cv r9 8 (f_Flow_reasonToEnd r9 v10)) fun v11 =>
    fs_let (fun (v13 : Int32) =>
      fs_nm ((v5 + 1) : Int32) fun v14 =>
      k22 v13 v14) fun j65 =>
    if v11 = 0 then (
      fs_nm ((v4 + 1) : Int32) fun v12 =>
      j65 v12) else
    fs_bind (fs_cv a0 1 (f_Exporter_end a0 v4 v11)) fun _ =>
    j65 v4
def lb_Fs_tick_33 := fun (x2 : Int32) (r1 : Nat) => fun (k33 : Int32 → Int32 → fs_T (Int32 ⊕ String)) (v2 : Int32) (v3 : Int32) =>
      if x2 ≤ v3 then (
        fs_ret (.inl v2)) else
      fs_bind (fs_cv r1 1 (f_Exporter_passTick r1)) fun v4 =>
      fs_nm ((v2 + v4) : Int32) fun v5 =>
      fs_nm ((v3 + 1) : Int32) fun v6 =>
      k33 v5 v6
def lb_Exporter_flushCache_10 := fun (a0 : Nat) v2 => fun (k10 : Int32 → fs_T Int32) (v3 : Int32) =>
    if v2 ≤ v3 then (
      fs_ret v2) else
    fs_bind (fs_cv a0 1 (f_Exporter_end a0 0 5)) fun _ =>
    fs_nm ((v3 + 1) : Int32) fun v4 =>
    k10 v4
def lb_Layout_has_2 := fun (a0 : Nat) (x1 : Int32) => fun (k2 : Int32 → fs_T Int32) (v1 : Int32) =>
    fs_bind (fs_gi a0 4 2) fun v2 =>
    if v2 ≤ v1 then (
      fs_rz 0) else
    fs_bind (fs_gr a0 4 0) fun r3 =>
    fs_bind (fs_ai r3 v1) fun v4 =>
    if v4 = x1 then (
      fs_rz 1) else
    fs_nm ((v1 + 1) : Int32) fun v5 =>
    k2 v5
def lb_ArrayList_clear_27 := fun v3 (r2 : Nat) => fun (k27 : Int32 → fs_T Unit) (v4 : Int32) =>
    if v3 ≤ v4 then (
      fs_ret ()) else
    fs_bind (fs_s0 r2 v4) fun _ =>
    fs_nm ((v4 + 1) : Int32) fun v5 =>
    k27 v5
def lb_Exporter_beginNextEpoch_26 := fun (a0 : Nat) => fun (k26 : Int32 → fs_T Unit) (v4 : Int32) =>
    if 3 ≤ v4 then (
      fs_bind (fs_cv a0 1 (f_Exporter_sampleEvery a0 1)) fun _ =>
      fs_bind (fs_pi a0 1 9 0) fun _ =>
      fs_bind (fs_pi a0 1 10 0) fun _ =>
      fs_ret ()) else
    fs_bind (fs_gr a0 1 3) fun r5 =>
    fs_bind (fs_ar r5 v4) fun r6 =>
    fs_bind (fs_cv r6 3 (f_Slot_forget r6)) fun _ =>
    fs_nm ((v4 + 1) : Int32) fun v7 =>
    k26 v7
def lb_Exporter_writeTemplate_46 := fun (a1 : Nat) (r1 : Nat) => fun (k46 : Int32 → fs_T Nat) (v8 : Int32) =>
    fs_bind (fs_gr a1 3 2) fun r9 =>
    fs_bind (fs_gi r9 4 2) fun v10 =>
    if v10 ≤ v8 then (
      fs_ret r1) else
    fs_bind (fs_gr a1 3 2) fun r11 =>
    fs_bind (fs_gr r11 4 0) fun r12 =>
    fs_bind (fs_ai r12 v8) fun v13 =>
    fs_bind (fs_cv r1 9 (f_Report_append r1 v13)) fun _ =>
    fs_bind (fs_gr a1 3 2) fun r14 =>
    fs_bind (fs_gr r14 4 1) fun r15 =>
    fs_bind (fs_ai r15 v8) fun v16 =>
    fs_bind (fs_cv r1 9 (f_Report_append r1 v16)) fun _ =>
    fs_nm ((v8 + 1) : Int32) fun v17 =>
    k46 v17
def lb_Exporter_numberSealedLast_4 := fun (a0 : Nat) => fun (k4 : Int32 → Int32 → fs_T Int32) (v1 : Int32) (v2 : Int32) =>
    if 3 ≤ v2 then (
      fs_ret v1) else
    fs_bind (fs_gr a0 1 3) fun r3 =>
    fs_bind (fs_ar r3 v2) fun r4 =>
    fs_bind (fs_gi r4 3 3) fun v5 =>
    fs_let (fun (v12 : Int32) =>
      fs_nm ((v2 + 1) : Int32) fun v13 =>
      k4 v12 v13) fun j49 =>
    if v5 = 0 then (
      j49 v1) else
    fs_let (fun (_ : Unit) =>
      j49 v2) fun j47 =>
    if v1 = (-1) then (
      j47 ()) else
    fs_bind (fs_gr a0 1 3) fun r6 =>
    fs_bind (fs_ar r6 v2) fun r7 =>
    fs_bind (fs_gi r7 3 5) fun v8 =>
    fs_bind (fs_gr a0 1 3) fun r9 =>
    fs_bind (fs_ar r9 v1) fun r10 =>
    fs_bind (fs_gi r10 3 5) fun v11 =>
    if v8 ≤ v11 then (
      j49 v1) else
    j47 ()
def lb_Layout_fewestBytes_7 := fun (k7 : Int32 → Int32 → fs_T Int32) (v2 : Int32) (v3 : Int32) =>
    fs_let (fun (_ : Unit) =>
      fs_ret v2) fun j27 =>
    if v3 = 0 then (
      j27 ()) else
    if 4 ≤ v2 then (
      j27 ()) else
    fs_nm ((v2 + 1) : Int32) fun v4 =>
    fs_nm ((fs_ushr v3 8) : Int32) fun v5 =>
    k7 v4 v5
def lb_Layout_bytesFor_4 := fun (a0 : Nat) (a1 : Nat) => fun (k4 : Int32 → Int32 → fs_T Int32) (v1 : Int32) (v2 : Int32) =>
    fs_bind (fs_gi a0 4 2) fun v3 =>
    if v3 ≤ v2 then (
      fs_ret v1) else
    fs_bind (fs_gr a0 4 1) fun r4 =>
    fs_bind (fs_ai r4 v2) fun v5 =>
    fs_let (fun (v12 : Int32) =>
      fs_nm ((v1 + v12) : Int32) fun v13 =>
      fs_nm ((v2 + 1) : Int32) fun v14 =>
      k4 v13 v14) fun j46 =>
    if v5 = 0 then (
      fs_bind (fs_gr a0 4 0) fun r8 =>
      fs_bind (fs_ai r8 v2) fun v9 =>
      fs_bind (fs_cv a1 8 (f_Flow_valueOf a1 v9)) fun v10 =>
      fs_bind (f_Layout_fewestBytes v10) fun v11 =>
      j46 (1 + v11)) else
    fs_bind (fs_gr a0 4 1) fun r6 =>
    fs_bind (fs_ai r6 v2) fun v7 =>
    j46 v7
def lb_Exporter_recordsThatFit_24 := fun (a0 : Nat) (a1 : Nat) (v4 : Int32) => fun (k24 : Int32 → Int32 → fs_T Int32) (v5 : Int32) (v6 : Int32) =>
    if v4 ≤ v6 then (
      fs_ret v4) else
    fs_bind (fs_gr a0 1 2) fun r7 =>
    fs_bind (fs_cv r7 2 (f_ArrayList_get r7 v6)) fun r8 =>
    fs_bind (fs_ck r8 8) fun _ =>
    fs_bind (fs_cv a1 4 (f_Layout_bytesFor a1 r8)) fun v9 =>
    fs_nm ((v5 + v9) : Int32) fun v10 =>
    if v10 ≤ 64 then (
      fs_nm ((v6 + 1) : Int32) fun v11 =>
      k24 v10 v11) else
    fs_ret v6
def lb_Report_appendNumber_4 := fun (a0 : Nat) (x1 : Int32) => fun (k4 : Int32 → fs_T Unit) (v2 : Int32) =>
    if v2 < 0 then (
      fs_ret ()) else
    fs_bind (fs_cv a0 9 (f_Report_append a0 (fs_ushr x1 (8 * v2)))) fun _ =>
    fs_nm ((v2 + (-1)) : Int32) fun v3 =>
    k4 v3
def lb_Layout_write_2 := fun (a0 : Nat) (a1 : Nat) (a2 : Nat) => fun (k2 : Int32 → fs_T Unit) (v1 : Int32) =>
    fs_bind (fs_gi a0 4 2) fun v2 =>
    if v2 ≤ v1 then (
      fs_ret ()) else
    fs_bind (fs_gr a0 4 0) fun r3 =>
    fs_bind (fs_ai r3 v1) fun v4 =>
    fs_bind (fs_cv a1 8 (f_Flow_valueOf a1 v4)) fun v5 =>
    fs_bind (fs_gr a0 4 1) fun r6 =>
    fs_bind (fs_ai r6 v1) fun v7 =>
    fs_let (fun (v9 : Int32) =>
      fs_bind (fs_cv a2 9 (f_Report_appendNumber a2 v5 v9)) fun _ =>
      fs_nm ((v1 + 1) : Int32) fun v10 =>
      k2 v10) fun j48 =>
    if v7 = 0 then (
      fs_bind (f_Layout_fewestBytes v5) fun v8 =>
      fs_bind (fs_cv a2 9 (f_Report_append a2 v8)) fun _ =>
      j48 v8) else
    j48 v7
def lb_Exporter_writeRecords_58 := fun (a0 : Nat) (a1 : Nat) v2 (r3 : Nat) => fun (k58 : Int32 → fs_T Nat) (v9 : Int32) =>
    fs_let (fun (_ : Unit) =>
      fs_bind (fs_gi a0 1 9) fun v16 =>
      fs_bind (fs_pi a0 1 9 (v16 + v2)) fun _ =>
      fs_ret r3) fun j99 =>
    if v2 ≤ v9 then (
      j99 ()) else
    fs_bind (fs_gr a0 1 2) fun r10 =>
    fs_bind (fs_cv r10 2 (f_ArrayList_isEmpty r10)) fun v11 =>
    if v11 = 0 then (
      fs_bind (fs_gr a1 3 2) fun r12 =>
      fs_bind (fs_gr a0 1 2) fun r13 =>
      fs_bind (fs_cv r13 2 (f_ArrayList_remove r13 0)) fun r14 =>
      fs_bind (fs_ck r14 8) fun _ =>
      fs_bind (fs_cv r12 4 (f_Layout_write r12 r14 r3)) fun _ =>
      fs_nm ((v9 + 1) : Int32) fun v15 =>
      k58 v15) else
    j99 ()
def lb_Report_isBadTemplate_35 := fun (a0 : Nat) v1 => fun (k35 : Int32 → Int32 → fs_T Int32) (v3 : Int32) (v4 : Int32) =>
      if v1 ≤ v4 then (
        fs_rz 0) else
      fs_bind (fs_cv a0 9 (f_Report_templateField a0 v4)) fun v5 =>
      if 8 ≤ v5 then (
        fs_rz 1) else
      if (v3 &&& (1 <<< (v5 &&& 31))) = 0 then (
        fs_bind (fs_cv a0 9 (f_Report_templateLength a0 v4)) fun v6 =>
        if v6 ≤ 4 then (
          fs_nm ((v3 ||| (1 <<< (v5 &&& 31))) : Int32) fun v7 =>
          fs_nm ((v4 + 1) : Int32) fun v8 =>
          k35 v7 v8) else
        fs_rz 1) else
      fs_rz 1
def lb_Collector_knownTemplate_2 := fun (a0 : Nat) (a1 : Nat) => fun (k2 : Int32 → fs_T Int32) (v1 : Int32) =>
    fs_bind (fs_gr a0 5 0) fun r2 =>
    fs_bind (fs_cv r2 2 (f_ArrayList_size r2)) fun v3 =>
    if v3 ≤ v1 then (
      fs_ret (-1)) else
    fs_bind (fs_gr a0 5 0) fun r4 =>
    fs_bind (fs_cv r4 2 (f_ArrayList_get r4 v1)) fun r5 =>
    fs_bind (fs_ck r5 9) fun _ =>
    fs_bind (fs_cv r5 9 (f_Report_namesSameTemplate r5 a1)) fun v6 =>
    if v6 = 0 then (
      fs_nm ((v1 + 1) : Int32) fun v7 =>
      k2 v7) else
    fs_ret v1
def lb_Collector_recordsWaitingFor_4 := fun (a0 : Nat) (a1 : Nat) => fun (k4 : Int32 → Int32 → fs_T Int32) (v1 : Int32) (v2 : Int32) =>
    fs_bind (fs_gr a0 5 1) fun r3 =>
    fs_bind (fs_cv r3 2 (f_ArrayList_size r3)) fun v4 =>
    if v4 ≤ v2 then (
      fs_ret v1) else
    fs_bind (fs_gr a0 5 1) fun r5 =>
    fs_bind (fs_cv r5 2 (f_ArrayList_get r5 v2)) fun r6 =>
    fs_bind (fs_ck r6 9) fun _ =>
    fs_bind (fs_cv r6 9 (f_Report_namesSameTemplate r6 a1)) fun v7 =>
    fs_let (fun (v12 : Int32) =>
      fs_nm ((v2 + 1) : Int32) fun v13 =>
      k4 v12 v13) fun j50 =>
    if v7 = 0 then (
      j50 v1) else
    fs_bind (fs_gr a0 5 1) fun r8 =>
    fs_bind (fs_cv r8 2 (f_ArrayList_get r8 v2)) fun r9 =>
    fs_bind (fs_ck r9 9) fun _ =>
    fs_bind (fs_cv r9 9 (f_Report_records r9)) fun v10 =>
    fs_nm ((v1 + v10) : Int32) fun v11 =>
    j50 v11
def lb_Cursor_takeField_33 := fun (a0 : Nat) (v2 : Int32) => fun (k33 : Int64 → Int32 → fs_T Int64) (v3 : Int64) (v4 : Int32) =>
      if v2 ≤ v4 then (
        fs_ret v3) else
      fs_bind (fs_cv a0 10 (f_Cursor_takeByte a0)) fun v5 =>
      fs_nm (((fs_lshl v3 8) ||| (Int32.toInt64 v5)) : Int64) fun v6 =>
      fs_nm ((v4 + 1) : Int32) fun v7 =>
      k33 v6 v7
def lb_Collector_canRead_24 := fun (a2 : Nat) (v2 : Int32) (k12 : Int32 → fs_T Int32) (r1 : Nat) => fun (k24 : Int32 → fs_T Int32) (v6 : Int32) =>
      fs_bind (fs_cv a2 9 (f_Report_templateFields a2)) fun v7 =>
      if v7 ≤ v6 then (
        fs_nm ((v2 + 1) : Int32) fun v8 =>
        k12 v8) else
      fs_bind (fs_cv a2 9 (f_Report_templateLength a2 v6)) fun v9 =>
      fs_bind (fs_cv r1 10 (f_Cursor_takeField r1 v9)) fun v10 =>
      fs_nm ((v6 + 1) : Int32) fun v11 =>
      k24 v11
def lb_Collector_canRead_12 := fun (a1 : Nat) (a2 : Nat) (r1 : Nat) => fun (k12 : Int32 → fs_T Int32) (v2 : Int32) =>
    fs_bind (fs_cv a1 9 (f_Report_records a1)) fun v3 =>
    if v3 ≤ v2 then (
      fs_bind (fs_gi r1 10 2) fun v4 =>
      if v4 = 0 then (
        fs_bind (fs_cv r1 10 (f_Cursor_isAtEnd r1)) fun v5 =>
        if v5 = 0 then (
          fs_rz 0) else
        fs_rz 1) else
      fs_rz 0) else
    fs_lp1 4096 (fun k24 (v6 : Int32) =>
      fs_bind (fs_cv a2 9 (f_Report_templateFields a2)) fun v7 =>
      if v7 ≤ v6 then (
        fs_nm ((v2 + 1) : Int32) fun v8 =>
        k12 v8) else
      fs_bind (fs_cv a2 9 (f_Report_templateLength a2 v6)) fun v9 =>
      fs_bind (fs_cv r1 10 (f_Cursor_takeField r1 v9)) fun v10 =>
      fs_nm ((v6 + 1) : Int32) fun v11 =>
      k24 v11) 0
def lb_Arrays_fill_0_6 := fun (a0 : Nat) (x1 : Int64) v1 => fun (k6 : Int32 → fs_T Unit) (v2 : Int32) =>
    if v1 ≤ v2 then (
      fs_ret ()) else
    fs_bind (fs_sj a0 v2 x1) fun _ =>
    fs_nm ((v2 + 1) : Int32) fun v3 =>
    k6 v3
def lb_Collector_makeRows_37 := fun (a0 : Nat) (a2 : Nat) (r4 : Nat) (v2 : Int32) (k12 : Int32 → fs_T Unit) (r1 : Nat) => fun (k37 : Int32 → fs_T Unit) (v6 : Int32) =>
      fs_bind (fs_cv a2 9 (f_Report_templateFields a2)) fun v7 =>
      if v7 ≤ v6 then (
        fs_bind (fs_gr a0 5 2) fun r8 =>
        fs_bind (fs_cv r8 6 (f_Table_addRow r8 r4)) fun _ =>
        fs_nm ((v2 + 1) : Int32) fun v9 =>
        k12 v9) else
      fs_bind (fs_gr r4 11 1) fun r10 =>
      fs_bind (fs_cv a2 9 (f_Report_templateField a2 v6)) fun v11 =>
      fs_bind (fs_cv a2 9 (f_Report_templateLength a2 v6)) fun v12 =>
      fs_bind (fs_cv r1 10 (f_Cursor_takeField r1 v12)) fun v13 =>
      fs_bind (fs_sj r10 v11 v13) fun _ =>
      fs_nm ((v6 + 1) : Int32) fun v14 =>
      k37 v14
def lb_Collector_makeRows_12 := fun (a0 : Nat) (a1 : Nat) (a2 : Nat) (r1 : Nat) => fun (k12 : Int32 → fs_T Unit) (v2 : Int32) =>
    fs_bind (fs_cv a1 9 (f_Report_records a1)) fun v3 =>
    if v3 ≤ v2 then (
      fs_ret ()) else
    fs_bind (fs_nw 11 fs_d11) fun r4 =>
    fs_bind (fs_cv a1 9 (f_Report_exporter a1)) fun v5 =>
    fs_bind (f_Row_init r4 v5) fun _ =>
    fs_lp1 4096 (fun k37 (v6 : Int32) =>
      fs_bind (fs_cv a2 9 (f_Report_templateFields a2)) fun v7 =>
      if v7 ≤ v6 then (
        fs_bind (fs_gr a0 5 2) fun r8 =>
        fs_bind (fs_cv r8 6 (f_Table_addRow r8 r4)) fun _ =>
        fs_nm ((v2 + 1) : Int32) fun v9 =>
        k12 v9) else
      fs_bind (fs_gr r4 11 1) fun r10 =>
      fs_bind (fs_cv a2 9 (f_Report_templateField a2 v6)) fun v11 =>
      fs_bind (fs_cv a2 9 (f_Report_templateLength a2 v6)) fun v12 =>
      fs_bind (fs_cv r1 10 (f_Cursor_takeField r1 v12)) fun v13 =>
      fs_bind (fs_sj r10 v11 v13) fun _ =>
      fs_nm ((v6 + 1) : Int32) fun v14 =>
      k37 v14) 0
def lb_Collector_readShelf_25 := fun (a0 : Nat) (a1 : Nat) v5 v3 => fun (k25 : Int32 → Int32 → fs_T Int32) (v6 : Int32) (v7 : Int32) =>
    if v5 ≤ v7 then (
      fs_bind (fs_gr a0 5 2) fun r8 =>
      fs_bind (fs_gr r8 6 0) fun r9 =>
      fs_bind (fs_cv r9 2 (f_ArrayList_size r9)) fun v10 =>
      fs_ret (v10 - v3)) else
    fs_bind (fs_gr a0 5 1) fun r11 =>
    fs_bind (fs_cv r11 2 (f_ArrayList_get r11 v6)) fun r12 =>
    fs_bind (fs_ck r12 9) fun _ =>
    fs_bind (fs_cv r12 9 (f_Report_namesSameTemplate r12 a1)) fun v13 =>
    fs_let (fun (v17 : Int32) =>
      fs_nm ((v7 + 1) : Int32) fun v18 =>
      k25 v17 v18) fun j73 =>
    if v13 = 0 then (
      fs_nm ((v6 + 1) : Int32) fun v14 =>
      j73 v14) else
    fs_bind (fs_gr a0 5 1) fun r15 =>
    fs_bind (fs_cv r15 2 (f_ArrayList_remove r15 v6)) fun r16 =>
    fs_bind (fs_ck r16 9) fun _ =>
    fs_bind (fs_cv a0 5 (f_Collector_readOrSpoil a0 r16 a1)) fun _ =>
    j73 v6
def lb_Ledger_heardOneOf_15 := fun (a0 : Nat) (a1 : Nat) (v3 : Int32) => fun (k15 : Int32 → fs_T Int32) (v4 : Int32) =>
    fs_bind (fs_cv a1 9 (f_Report_records a1)) fun v5 =>
    if v5 ≤ v4 then (
      fs_rz 0) else
    fs_bind (fs_gr a0 7 0) fun r6 =>
    fs_bind (fs_az r6 (v3 + v4)) fun v7 =>
    if v7 = 0 then (
      fs_nm ((v4 + 1) : Int32) fun v8 =>
      k15 v8) else
    fs_rz 1
def lb_Ledger_markHeard_15 := fun (a0 : Nat) (a1 : Nat) (v3 : Int32) => fun (k15 : Int32 → fs_T Unit) (v4 : Int32) =>
    fs_bind (fs_cv a1 9 (f_Report_records a1)) fun v5 =>
    if v5 ≤ v4 then (
      fs_ret ()) else
    fs_bind (fs_gr a0 7 0) fun r6 =>
    fs_bind (fs_sz r6 (v3 + v4) 1) fun _ =>
    fs_nm ((v4 + 1) : Int32) fun v7 =>
    k15 v7
def lb_Table_sumOf_6 := fun (a0 : Nat) (x1 : Int32) (x2 : Int32) (x3 : Int64) (x4 : Int32) => fun (k6 : Int64 → Int32 → fs_T Int64) (v1 : Int64) (v2 : Int32) =>
    fs_bind (fs_gr a0 6 0) fun r3 =>
    fs_bind (fs_cv r3 2 (f_ArrayList_size r3)) fun v4 =>
    if v4 ≤ v2 then (
      fs_ret v1) else
    fs_bind (fs_gr a0 6 0) fun r5 =>
    fs_bind (fs_cv r5 2 (f_ArrayList_get r5 v2)) fun r6 =>
    fs_bind (fs_ck r6 11) fun _ =>
    fs_bind (fs_gi r6 11 0) fun v7 =>
    fs_let (fun (v15 : Int64) =>
      fs_nm ((v2 + 1) : Int32) fun v16 =>
      k6 v15 v16) fun j85 =>
    if v7 = x1 then (
      fs_bind (fs_cv r6 11 (f_Row_has r6 x2)) fun v8 =>
      if v8 = 0 then (
        j85 v1) else
      fs_bind (fs_gr r6 11 1) fun r9 =>
      fs_bind (fs_aj r9 x2) fun v10 =>
      if (lg_cmp v10 x3) = 0 then (
        fs_bind (fs_cv r6 11 (f_Row_has r6 x4)) fun v11 =>
        if v11 = 0 then (
          j85 v1) else
        fs_bind (fs_gr r6 11 1) fun r12 =>
        fs_bind (fs_aj r12 x4) fun v13 =>
        fs_nm ((v1 + v13) : Int64) fun v14 =>
        j85 v14) else
      j85 v1) else
    j85 v1
def lb_Arrays_fill_1_5 := fun (a0 : Nat) (x1 : Int32) v1 => fun (k5 : Int32 → fs_T Unit) (v2 : Int32) =>
    if v1 ≤ v2 then (
      fs_ret ()) else
    fs_bind (fs_si a0 v2 x1) fun _ =>
    fs_nm ((v2 + 1) : Int32) fun v3 =>
    k5 v3
def lb_Table_insertInOrder_5 := fun (a0 : Nat) (x1 : Int32) => fun (k5 : Int32 → fs_T Unit) (v2 : Int32) =>
    fs_let (fun (_ : Unit) =>
      fs_bind (fs_gr a0 6 2) fun r17 =>
      fs_bind (fs_si r17 v2 x1) fun _ =>
      fs_bind (fs_gi a0 6 3) fun v18 =>
      fs_bind (fs_pi a0 6 3 (v18 + 1)) fun _ =>
      fs_ret ()) fun j72 =>
    if v2 ≤ 0 then (
      j72 ()) else
    fs_bind (fs_gr a0 6 0) fun r3 =>
    fs_bind (fs_gr a0 6 2) fun r4 =>
    fs_bind (fs_ai r4 (v2 - 1)) fun v5 =>
    fs_bind (fs_cv r3 2 (f_ArrayList_get r3 v5)) fun r6 =>
    fs_bind (fs_ck r6 11) fun _ =>
    fs_bind (fs_gr r6 11 1) fun r7 =>
    fs_bind (fs_aj r7 5) fun v8 =>
    fs_bind (fs_gr a0 6 0) fun r9 =>
    fs_bind (fs_cv r9 2 (f_ArrayList_get r9 x1)) fun r10 =>
    fs_bind (fs_ck r10 11) fun _ =>
    fs_bind (fs_gr r10 11 1) fun r11 =>
    fs_bind (fs_aj r11 5) fun v12 =>
    if (lg_cmp v8 v12) ≤ 0 then (
      j72 ()) else
    fs_bind (fs_gr a0 6 2) fun r13 =>
    fs_bind (fs_gr a0 6 2) fun r14 =>
    fs_bind (fs_ai r14 (v2 - 1)) fun v15 =>
    fs_bind (fs_si r13 v2 v15) fun _ =>
    fs_nm ((v2 + (-1)) : Int32) fun v16 =>
    k5 v16
def lb_Table_putInOrder_7 := fun (a0 : Nat) => fun (k7 : Int32 → fs_T Unit) (v1 : Int32) =>
    fs_bind (fs_gr a0 6 0) fun r2 =>
    fs_bind (fs_cv r2 2 (f_ArrayList_size r2)) fun v3 =>
    if v3 ≤ v1 then (
      fs_ret ()) else
    fs_bind (fs_gr a0 6 0) fun r4 =>
    fs_bind (fs_cv r4 2 (f_ArrayList_get r4 v1)) fun r5 =>
    fs_bind (fs_ck r5 11) fun _ =>
    fs_bind (fs_cv r5 11 (f_Row_canBePaired r5)) fun v6 =>
    fs_let (fun (_ : Unit) =>
      fs_nm ((v1 + 1) : Int32) fun v7 =>
      k7 v7) fun j40 =>
    if v6 = 0 then (
      j40 ()) else
    fs_bind (fs_cv a0 6 (f_Table_insertInOrder a0 v1)) fun _ =>
    j40 ()
def lb_Table_nearestReverse_17 := fun (a0 : Nat) (x1 : Int32) (r2 : Nat) => fun (k17 : Int32 → Int32 → fs_T Int32) (v3 : Int32) (v4 : Int32) =>
    fs_bind (fs_gr a0 6 0) fun r5 =>
    fs_bind (fs_cv r5 2 (f_ArrayList_size r5)) fun v6 =>
    if v6 ≤ v4 then (
      fs_ret v3) else
    fs_bind (fs_gr a0 6 0) fun r7 =>
    fs_bind (fs_cv r7 2 (f_ArrayList_get r7 v4)) fun r8 =>
    fs_bind (fs_ck r8 11) fun _ =>
    fs_let (fun (v17 : Int32) =>
      fs_nm ((v4 + 1) : Int32) fun v18 =>
      k17 v17 v18) fun j113 =>
    if v4 = x1 then (
      j113 v3) else
    fs_bind (fs_gr a0 6 1) fun r9 =>
    fs_bind (fs_ai r9 v4) fun v10 =>
    if v10 = (-1) then (
      fs_bind (fs_cv r8 11 (f_Row_canBePaired r8)) fun v11 =>
      if v11 = 0 then (
        j113 v3) else
      fs_bind (fs_cv r8 11 (f_Row_isReverseOf r8 r2)) fun v12 =>
      if v12 = 0 then (
        j113 v3) else
      fs_let (fun (_ : Unit) =>
        j113 v4) fun j110 =>
      if v3 = (-1) then (
        j110 ()) else
      fs_bind (fs_cv r8 11 (f_Row_ticksBetween r8 r2)) fun v13 =>
      fs_bind (fs_gr a0 6 0) fun r14 =>
      fs_bind (fs_cv r14 2 (f_ArrayList_get r14 v3)) fun r15 =>
      fs_bind (fs_ck r15 11) fun _ =>
      fs_bind (fs_cv r15 11 (f_Row_ticksBetween r15 r2)) fun v16 =>
      if 0 ≤ (lg_cmp v13 v16) then (
        j113 v3) else
      j110 ()) else
    j113 v3
def lb_Table_pairAll_14 := fun (a0 : Nat) => fun (k14 : Int32 → fs_T Unit) (v2 : Int32) =>
    fs_bind (fs_gi a0 6 3) fun v3 =>
    if v3 ≤ v2 then (
      fs_bind (fs_gr a0 6 0) fun r4 =>
      fs_bind (fs_cv r4 2 (f_ArrayList_size r4)) fun v5 =>
      fs_bind (fs_pi a0 6 4 v5) fun _ =>
      fs_ret ()) else
    fs_bind (fs_gr a0 6 2) fun r6 =>
    fs_bind (fs_ai r6 v2) fun v7 =>
    fs_bind (fs_gr a0 6 1) fun r8 =>
    fs_bind (fs_ai r8 v7) fun v9 =>
    fs_let (fun (_ : Unit) =>
      fs_nm ((v2 + 1) : Int32) fun v13 =>
      k14 v13) fun j64 =>
    if v9 = (-1) then (
      fs_bind (fs_cv a0 6 (f_Table_nearestReverse a0 v7)) fun v10 =>
      if v10 = (-1) then (
        j64 ()) else
      fs_bind (fs_gr a0 6 1) fun r11 =>
      fs_bind (fs_si r11 v7 v10) fun _ =>
      fs_bind (fs_gr a0 6 1) fun r12 =>
      fs_bind (fs_si r12 v10 v7) fun _ =>
      j64 ()) else
    j64 ()
def lb_Ledger_lostInEpoch_10 := fun (a0 : Nat) (x1 : Int32) => fun (k10 : Int32 → Int32 → Int32 → Int32 → fs_T Int32) (v1 : Int32) (v2 : Int32) (v3 : Int32) (v4 : Int32) =>
    if 100 ≤ v4 then (
      fs_ret v1) else
    fs_bind (fs_gr a0 7 0) fun r5 =>
    fs_bind (fs_az r5 ((x1 * 100) + v4)) fun v6 =>
    fs_let (fun (v9 : Int32) (v10 : Int32) (v11 : Int32) =>
      fs_nm ((v4 + 1) : Int32) fun v12 =>
      k10 v9 v10 v11 v12) fun j52 =>
    if v6 = 0 then (
      if v3 = 0 then (
        j52 v1 v2 v3) else
      fs_nm ((v2 + 1) : Int32) fun v7 =>
      j52 v1 v7 v3) else
    fs_nm ((v1 + v2) : Int32) fun v8 =>
    j52 v8 0 1
def lb_Ledger_lostRecords_4 := fun (a0 : Nat) => fun (k4 : Int32 → Int32 → fs_T Int32) (v1 : Int32) (v2 : Int32) =>
    if 5 < v2 then (
      fs_ret v1) else
    fs_bind (fs_cv a0 7 (f_Ledger_lostInEpoch a0 v2)) fun v3 =>
    fs_nm ((v1 + v3) : Int32) fun v4 =>
    fs_nm ((v2 + 1) : Int32) fun v5 =>
    k4 v4 v5
def lb_Collector_waitingOf_4 := fun (a0 : Nat) (x1 : Int32) => fun (k4 : Int32 → Int32 → fs_T Int32) (v1 : Int32) (v2 : Int32) =>
    fs_bind (fs_gr a0 5 1) fun r3 =>
    fs_bind (fs_cv r3 2 (f_ArrayList_size r3)) fun v4 =>
    if v4 ≤ v2 then (
      fs_ret v1) else
    fs_bind (fs_gr a0 5 1) fun r5 =>
    fs_bind (fs_cv r5 2 (f_ArrayList_get r5 v2)) fun r6 =>
    fs_bind (fs_ck r6 9) fun _ =>
    fs_bind (fs_cv r6 9 (f_Report_exporter r6)) fun v7 =>
    fs_let (fun (v9 : Int32) =>
      fs_nm ((v2 + 1) : Int32) fun v10 =>
      k4 v9 v10) fun j36 =>
    if v7 = x1 then (
      fs_nm ((v1 + 1) : Int32) fun v8 =>
      j36 v8) else
    j36 v1
def lb_Rf_end_183 := fun (a0 : Nat) (x1 : Int32) => fun (k183 : Int32 → fs_T Unit) (v31 : Int32) =>
    fs_bind (fs_gr a0 12 7) fun r32 =>
    fs_bind (fs_ai r32 x1) fun v33 =>
    if ((6 * x1) + v33) ≤ v31 then (
      fs_ret ()) else
    fs_bind (fs_gr a0 12 8) fun r34 =>
    fs_bind (fs_gr a0 12 8) fun r35 =>
    fs_bind (fs_ai r35 (v31 + 1)) fun v36 =>
    fs_bind (fs_si r34 v31 v36) fun _ =>
    fs_bind (fs_gr a0 12 9) fun r37 =>
    fs_bind (fs_gr a0 12 9) fun r38 =>
    fs_bind (fs_ai r38 (v31 + 1)) fun v39 =>
    fs_bind (fs_si r37 v31 v39) fun _ =>
    fs_bind (fs_gr a0 12 10) fun r40 =>
    fs_bind (fs_gr a0 12 10) fun r41 =>
    fs_bind (fs_ai r41 (v31 + 1)) fun v42 =>
    fs_bind (fs_si r40 v31 v42) fun _ =>
    fs_bind (fs_gr a0 12 11) fun r43 =>
    fs_bind (fs_gr a0 12 11) fun r44 =>
    fs_bind (fs_ai r44 (v31 + 1)) fun v45 =>
    fs_bind (fs_si r43 v31 v45) fun _ =>
    fs_bind (fs_gr a0 12 12) fun r46 =>
    fs_bind (fs_gr a0 12 12) fun r47 =>
    fs_bind (fs_ai r47 (v31 + 1)) fun v48 =>
    fs_bind (fs_si r46 v31 v48) fun _ =>
    fs_nm ((v31 + 1) : Int32) fun v49 =>
    k183 v49
def lb_Rf_flowOf_51 := fun (a0 : Nat) (x1 : Int32) (j104 : Unit → fs_T Int32) => fun (k51 : Int32 → Int32 → fs_T Int32) (v6 : Int32) (v7 : Int32) =>
          if 6 ≤ v7 then (
            fs_bind (fs_cv a0 12 (f_Rf_end a0 x1 v6 4)) fun _ =>
            j104 ()) else
          fs_bind (fs_gr a0 12 12) fun r8 =>
          fs_bind (fs_ai r8 ((6 * x1) + v7)) fun v9 =>
          fs_bind (fs_gr a0 12 12) fun r10 =>
          fs_bind (fs_ai r10 ((6 * x1) + v6)) fun v11 =>
          fs_let (fun (v12 : Int32) =>
            fs_nm ((v7 + 1) : Int32) fun v13 =>
            k51 v12 v13) fun j90 =>
          if v11 ≤ v9 then (
            j90 v6) else
          j90 v7
def lb_Rf_flowOf_2 := fun (a0 : Nat) (x1 : Int32) (x2 : Int32) => fun (k2 : Int32 → fs_T Int32) (v1 : Int32) =>
    fs_bind (fs_gr a0 12 7) fun r2 =>
    fs_bind (fs_ai r2 x1) fun v3 =>
    if v3 ≤ v1 then (
      fs_bind (fs_gr a0 12 7) fun r4 =>
      fs_bind (fs_ai r4 x1) fun v5 =>
      fs_let (fun (_ : Unit) =>
        fs_bind (fs_gr a0 12 7) fun r14 =>
        fs_bind (fs_ai r14 x1) fun v15 =>
        fs_nm (((6 * x1) + v15) : Int32) fun v16 =>
        fs_bind (fs_gr a0 12 8) fun r17 =>
        fs_bind (fs_si r17 v16 x2) fun _ =>
        fs_bind (fs_gr a0 12 9) fun r18 =>
        fs_bind (fs_si r18 v16 0) fun _ =>
        fs_bind (fs_gr a0 12 10) fun r19 =>
        fs_bind (fs_si r19 v16 0) fun _ =>
        fs_bind (fs_gr a0 12 11) fun r20 =>
        fs_bind (fs_gr a0 12 1) fun r21 =>
        fs_bind (fs_ai r21 x1) fun v22 =>
        fs_bind (fs_si r20 v16 v22) fun _ =>
        fs_bind (fs_gr a0 12 7) fun r23 =>
        fs_bind (fs_ai r23 x1) fun v24 =>
        fs_bind (fs_si r23 x1 (v24 + 1)) fun _ =>
        fs_bind (fs_gr a0 12 7) fun r25 =>
        fs_bind (fs_ai r25 x1) fun v26 =>
        fs_ret (v26 - 1)) fun j104 =>
      if v5 = 6 then (
        fs_lp2 4096 (fun k51 (v6 : Int32) (v7 : Int32) =>
          if 6 ≤ v7 then (
            fs_bind (fs_cv a0 12 (f_Rf_end a0 x1 v6 4)) fun _ =>
            j104 ()) else
          fs_bind (fs_gr a0 12 12) fun r8 =>
          fs_bind (fs_ai r8 ((6 * x1) + v7)) fun v9 =>
          fs_bind (fs_gr a0 12 12) fun r10 =>
          fs_bind (fs_ai r10 ((6 * x1) + v6)) fun v11 =>
          fs_let (fun (v12 : Int32) =>
            fs_nm ((v7 + 1) : Int32) fun v13 =>
            k51 v12 v13) fun j90 =>
          if v11 ≤ v9 then (
            j90 v6) else
          j90 v7) 0 1) else
      j104 ()) else
    fs_bind (fs_gr a0 12 8) fun r27 =>
    fs_bind (fs_ai r27 ((6 * x1) + v1)) fun v28 =>
    if v28 = x2 then (
      fs_ret v1) else
    fs_nm ((v1 + 1) : Int32) fun v29 =>
    k2 v29
def lb_Rf_tick_66 := fun (a0 : Nat) (x1 : Int32) (v6 : Int32) (k47 : Int32 → fs_T Int32) => fun (k66 : Int32 → fs_T Int32) (v11 : Int32) =>
          fs_bind (fs_gr a0 12 7) fun r12 =>
          fs_bind (fs_ai r12 x1) fun v13 =>
          if v13 ≤ v11 then (
            fs_nm ((v6 + 1) : Int32) fun v14 =>
            k47 v14) else
          fs_bind (fs_gr a0 12 1) fun r15 =>
          fs_bind (fs_ai r15 x1) fun v16 =>
          fs_bind (fs_gr a0 12 12) fun r17 =>
          fs_bind (fs_ai r17 ((6 * x1) + v11)) fun v18 =>
          fs_let (fun (v19 : Int32) =>
            fs_let (fun (v26 : Int32) =>
              k66 v26) fun j160 =>
            fs_let (fun (_ : Unit) =>
              fs_let (fun (v25 : Int32) =>
                fs_bind (fs_cv a0 12 (f_Rf_end a0 x1 v11 v25)) fun _ =>
                j160 v11) fun j151 =>
              if v19 = 0 then (
                j151 2) else
              j151 1) fun j137 =>
            if v19 = 0 then (
              fs_bind (fs_gr a0 12 1) fun r20 =>
              fs_bind (fs_ai r20 x1) fun v21 =>
              fs_bind (fs_gr a0 12 11) fun r22 =>
              fs_bind (fs_ai r22 ((6 * x1) + v11)) fun v23 =>
              if (v21 - v23) < 60 then (
                fs_nm ((v11 + 1) : Int32) fun v24 =>
                j160 v24) else
              j137 ()) else
            j137 ()) fun j106 =>
          if (v16 - v18) < 15 then (
            j106 0) else
          j106 1
def lb_Rf_tick_47 := fun (a0 : Nat) (x1 : Int32) (x2 : Int32) v5 => fun (k47 : Int32 → fs_T Int32) (v6 : Int32) =>
        if x2 ≤ v6 then (
          fs_bind (fs_gr a0 12 13) fun r7 =>
          fs_bind (fs_ai r7 x1) fun v8 =>
          fs_ret (v8 - v5)) else
        fs_bind (fs_gr a0 12 1) fun r9 =>
        fs_bind (fs_ai r9 x1) fun v10 =>
        fs_bind (fs_si r9 x1 (v10 + 1)) fun _ =>
        fs_lp1 4096 (fun k66 (v11 : Int32) =>
          fs_bind (fs_gr a0 12 7) fun r12 =>
          fs_bind (fs_ai r12 x1) fun v13 =>
          if v13 ≤ v11 then (
            fs_nm ((v6 + 1) : Int32) fun v14 =>
            k47 v14) else
          fs_bind (fs_gr a0 12 1) fun r15 =>
          fs_bind (fs_ai r15 x1) fun v16 =>
          fs_bind (fs_gr a0 12 12) fun r17 =>
          fs_bind (fs_ai r17 ((6 * x1) + v11)) fun v18 =>
          fs_let (fun (v19 : Int32) =>
            fs_let (fun (v26 : Int32) =>
              k66 v26) fun j160 =>
            fs_let (fun (_ : Unit) =>
              fs_let (fun (v25 : Int32) =>
                fs_bind (fs_cv a0 12 (f_Rf_end a0 x1 v11 v25)) fun _ =>
                j160 v11) fun j151 =>
              if v19 = 0 then (
                j151 2) else
              j151 1) fun j137 =>
            if v19 = 0 then (
              fs_bind (fs_gr a0 12 1) fun r20 =>
              fs_bind (fs_ai r20 x1) fun v21 =>
              fs_bind (fs_gr a0 12 11) fun r22 =>
              fs_bind (fs_ai r22 ((6 * x1) + v11)) fun v23 =>
              if (v21 - v23) < 60 then (
                fs_nm ((v11 + 1) : Int32) fun v24 =>
                j160 v24) else
              j137 ()) else
            j137 ()) fun j106 =>
          if (v16 - v18) < 15 then (
            j106 0) else
          j106 1) 0
def lb_Rf_flush_35 := fun (a0 : Nat) (x1 : Int32) v5 => fun (k35 : Int32 → fs_T Int32) (v6 : Int32) =>
        if v5 ≤ v6 then (
          fs_ret v5) else
        fs_bind (fs_cv a0 12 (f_Rf_end a0 x1 0 5)) fun _ =>
        fs_nm ((v6 + 1) : Int32) fun v7 =>
        k35 v7
def lb_Rf_field_83 := fun (a0 : Nat) (x3 : Int32) (x4 : Int32) (v5 : Int32) => fun (k83 : Int32 → fs_T Int32) (v6 : Int32) =>
          fs_bind (fs_gr a0 12 15) fun r7 =>
          fs_bind (fs_ai r7 v5) fun v8 =>
          if v8 ≤ v6 then (
            fs_bind (fs_gi a0 12 0) fun v9 =>
            if v9 = 0 then (
              fs_bind (fs_gr a0 12 16) fun r10 =>
              fs_bind (fs_gr a0 12 15) fun r11 =>
              fs_bind (fs_ai r11 v5) fun v12 =>
              fs_bind (fs_si r10 ((8 * v5) + v12) x3) fun _ =>
              fs_bind (fs_gr a0 12 17) fun r13 =>
              fs_bind (fs_gr a0 12 15) fun r14 =>
              fs_bind (fs_ai r14 v5) fun v15 =>
              fs_bind (fs_si r13 ((8 * v5) + v15) x4) fun _ =>
              fs_bind (fs_gr a0 12 15) fun r16 =>
              fs_bind (fs_ai r16 v5) fun v17 =>
              fs_bind (fs_si r16 v5 (v17 + 1)) fun _ =>
              fs_bind (fs_gr a0 12 15) fun r18 =>
              fs_bind (fs_ai r18 v5) fun v19 =>
              fs_ret v19) else
            fs_ret 0) else
          fs_bind (fs_gr a0 12 16) fun r20 =>
          fs_bind (fs_ai r20 ((8 * v5) + v6)) fun v21 =>
          fs_let (fun (v23 : Int32) =>
            fs_bind (fs_pi a0 12 0 v23) fun _ =>
            fs_nm ((v6 + 1) : Int32) fun v24 =>
            k83 v24) fun j121 =>
          if v21 = x3 then (
            j121 2) else
          fs_bind (fs_gi a0 12 0) fun v22 =>
          j121 v22
def lb_Rf_seal_95 := fun (a0 : Nat) (v1 : Int32) => fun (k95 : Int32 → fs_T Int32) (v18 : Int32) =>
        fs_bind (fs_gr a0 12 15) fun r19 =>
        fs_bind (fs_ai r19 v1) fun v20 =>
        if ((8 * v1) + v20) ≤ v18 then (
          fs_bind (fs_gr a0 12 15) fun r21 =>
          fs_bind (fs_si r21 v1 0) fun _ =>
          fs_bind (fs_gi a0 12 24) fun v22 =>
          fs_bind (fs_pi a0 12 24 (v22 + 1)) fun _ =>
          fs_bind (fs_gr a0 12 23) fun r23 =>
          fs_bind (fs_gi a0 12 24) fun v24 =>
          fs_bind (fs_si r23 v1 v24) fun _ =>
          fs_bind (fs_gr a0 12 18) fun r25 =>
          fs_bind (fs_ai r25 v1) fun v26 =>
          fs_ret v26) else
        fs_bind (fs_gr a0 12 21) fun r27 =>
        fs_bind (fs_gr a0 12 16) fun r28 =>
        fs_bind (fs_ai r28 v18) fun v29 =>
        fs_bind (fs_si r27 v18 v29) fun _ =>
        fs_bind (fs_gr a0 12 22) fun r30 =>
        fs_bind (fs_gr a0 12 17) fun r31 =>
        fs_bind (fs_ai r31 v18) fun v32 =>
        fs_bind (fs_si r30 v18 v32) fun _ =>
        fs_nm ((v18 + 1) : Int32) fun v33 =>
        k95 v33
def lb_Rf_restart_96 := fun (a0 : Nat) (x1 : Int32) => fun (k96 : Int32 → fs_T Int32) (v15 : Int32) =>
        if ((3 * x1) + 3) ≤ v15 then (
          fs_bind (fs_gr a0 12 2) fun r16 =>
          fs_bind (fs_ai r16 x1) fun v17 =>
          fs_ret v17) else
        fs_bind (fs_gr a0 12 15) fun r18 =>
        fs_bind (fs_si r18 v15 0) fun _ =>
        fs_bind (fs_gr a0 12 18) fun r19 =>
        fs_bind (fs_si r19 v15 0) fun _ =>
        fs_bind (fs_gr a0 12 19) fun r20 =>
        fs_bind (fs_si r20 v15 0) fun _ =>
        fs_nm ((v15 + 1) : Int32) fun v21 =>
        k96 v21
def lb_Rf_announce_92 := fun (a0 : Nat) (v1 : Int32) => fun (k92 : Int32 → fs_T Int32) (v13 : Int32) =>
        fs_bind (fs_gr a0 12 20) fun r14 =>
        fs_bind (fs_ai r14 v1) fun v15 =>
        if ((8 * v1) + v15) ≤ v13 then (
          fs_bind (fs_gi a0 12 25) fun v16 =>
          fs_bind (fs_pi a0 12 25 (v16 + 1)) fun _ =>
          fs_bind (fs_gi a0 12 25) fun v17 =>
          fs_ret (v17 - 1)) else
        fs_bind (fs_gr a0 12 21) fun r18 =>
        fs_bind (fs_ai r18 v13) fun v19 =>
        fs_bind (fs_cv a0 12 (f_Rf_write a0 v19)) fun _ =>
        fs_bind (fs_gr a0 12 22) fun r20 =>
        fs_bind (fs_ai r20 v13) fun v21 =>
        fs_bind (fs_cv a0 12 (f_Rf_write a0 v21)) fun _ =>
        fs_nm ((v13 + 1) : Int32) fun v22 =>
        k92 v22
def lb_Rf_last_6 := fun (a0 : Nat) (x1 : Int32) => fun (k6 : Int32 → Int32 → fs_T Int32) (v2 : Int32) (v3 : Int32) =>
    if ((3 * x1) + 3) ≤ v3 then (
      fs_ret v2) else
    fs_bind (fs_gr a0 12 19) fun r4 =>
    fs_bind (fs_ai r4 v3) fun v5 =>
    fs_let (fun (v10 : Int32) =>
      fs_nm ((v3 + 1) : Int32) fun v11 =>
      k6 v10 v11) fun j48 =>
    fs_let (fun (_ : Unit) =>
      j48 v2) fun j47 =>
    if v5 ≤ 0 then (
      j47 ()) else
    fs_let (fun (_ : Unit) =>
      j48 v3) fun j43 =>
    if v2 < 0 then (
      j43 ()) else
    fs_bind (fs_gr a0 12 23) fun r6 =>
    fs_bind (fs_ai r6 v3) fun v7 =>
    fs_bind (fs_gr a0 12 23) fun r8 =>
    fs_bind (fs_ai r8 v2) fun v9 =>
    if v7 ≤ v9 then (
      j47 ()) else
    j43 ()
def lb_Rf_recordOf_9 := fun (a0 : Nat) (x1 : Int32) (x2 : Int32) (x3 : Int32) => fun (k9 : Int32 → Int32 → fs_T Int32) (v2 : Int32) (v3 : Int32) =>
    fs_bind (fs_gr a0 12 20) fun r4 =>
    fs_bind (fs_ai r4 x2) fun v5 =>
    if ((8 * x2) + v5) ≤ v3 then (
      fs_ret v2) else
    fs_bind (fs_gr a0 12 14) fun r6 =>
    fs_bind (fs_gr a0 12 21) fun r7 =>
    fs_bind (fs_ai r7 v3) fun v8 =>
    fs_bind (fs_ai r6 ((8 * ((21 * x1) + x3)) + v8)) fun v9 =>
    fs_bind (fs_gr a0 12 22) fun r10 =>
    fs_bind (fs_ai r10 v3) fun v11 =>
    fs_let (fun (v15 : Int32) =>
      fs_nm ((v2 + v15) : Int32) fun v16 =>
      fs_nm ((v3 + 1) : Int32) fun v17 =>
      k9 v16 v17) fun j79 =>
    if v11 = 0 then (
      fs_bind (fs_cv a0 12 (f_Rf_widthOf a0 v9)) fun v14 =>
      j79 (1 + v14)) else
    fs_bind (fs_gr a0 12 22) fun r12 =>
    fs_bind (fs_ai r12 v3) fun v13 =>
    j79 v13
def lb_Rf_writeRecord_80 := fun (a0 : Nat) (v2 : Int32) (k6 : Int32 → fs_T Unit) v8 => fun (k80 : Int32 → fs_T Unit) (v14 : Int32) =>
        if v14 < 0 then (
          fs_nm ((v2 + 1) : Int32) fun v15 =>
          k6 v15) else
        fs_bind (fs_cv a0 12 (f_Rf_write a0 ((v8 >>> ((8 * v14) &&& 31)) &&& 255))) fun _ =>
        fs_nm ((v14 + (-1)) : Int32) fun v16 =>
        k80 v16
def lb_Rf_writeRecord_6 := fun (a0 : Nat) (x1 : Int32) (x2 : Int32) (x3 : Int32) => fun (k6 : Int32 → fs_T Unit) (v2 : Int32) =>
    fs_bind (fs_gr a0 12 20) fun r3 =>
    fs_bind (fs_ai r3 x2) fun v4 =>
    if ((8 * x2) + v4) ≤ v2 then (
      fs_ret ()) else
    fs_bind (fs_gr a0 12 14) fun r5 =>
    fs_bind (fs_gr a0 12 21) fun r6 =>
    fs_bind (fs_ai r6 v2) fun v7 =>
    fs_bind (fs_ai r5 ((8 * ((21 * x1) + x3)) + v7)) fun v8 =>
    fs_bind (fs_gr a0 12 22) fun r9 =>
    fs_bind (fs_ai r9 v2) fun v10 =>
    fs_let (fun (v12 : Int32) =>
      fs_nm ((v12 - 1) : Int32) fun v13 =>
      fs_lp1 4096 (fun k80 (v14 : Int32) =>
        if v14 < 0 then (
          fs_nm ((v2 + 1) : Int32) fun v15 =>
          k6 v15) else
        fs_bind (fs_cv a0 12 (f_Rf_write a0 ((v8 >>> ((8 * v14) &&& 31)) &&& 255))) fun _ =>
        fs_nm ((v14 + (-1)) : Int32) fun v16 =>
        k80 v16) v13) fun j74 =>
    if v10 = 0 then (
      fs_bind (fs_cv a0 12 (f_Rf_widthOf a0 v8)) fun v11 =>
      fs_bind (fs_cv a0 12 (f_Rf_write a0 v11)) fun _ =>
      j74 v11) else
    j74 v10
def lb_Rf_report_212 := fun (a0 : Nat) (x1 : Int32) (v13 : Int32) => fun (k212 : Int32 → fs_T Int32) (v29 : Int32) =>
                fs_bind (fs_gr a0 12 13) fun r30 =>
                fs_bind (fs_ai r30 x1) fun v31 =>
                if ((168 * x1) + (8 * v31)) ≤ v29 then (
                  fs_bind (fs_gr a0 12 5) fun r32 =>
                  fs_bind (fs_ai r32 x1) fun v33 =>
                  fs_bind (fs_si r32 x1 (v33 + v13)) fun _ =>
                  fs_bind (fs_gi a0 12 25) fun v34 =>
                  fs_bind (fs_pi a0 12 25 (v34 + 1)) fun _ =>
                  fs_bind (fs_gi a0 12 25) fun v35 =>
                  fs_ret (v35 - 1)) else
                fs_bind (fs_gr a0 12 14) fun r36 =>
                fs_bind (fs_gr a0 12 14) fun r37 =>
                fs_bind (fs_ai r37 (v29 + (8 * v13))) fun v38 =>
                fs_bind (fs_si r36 v29 v38) fun _ =>
                fs_nm ((v29 + 1) : Int32) fun v39 =>
                k212 v39
def lb_Rf_report_175 := fun (a0 : Nat) (x1 : Int32) (v13 : Int32) v10 => fun (k175 : Int32 → fs_T Int32) (v25 : Int32) =>
            if v13 ≤ v25 then (
              fs_bind (fs_gr a0 12 13) fun r26 =>
              fs_bind (fs_ai r26 x1) fun v27 =>
              fs_bind (fs_si r26 x1 (v27 - v13)) fun _ =>
              fs_nm ((168 * x1) : Int32) fun v28 =>
              fs_lp1 4096 (fun k212 (v29 : Int32) =>
                fs_bind (fs_gr a0 12 13) fun r30 =>
                fs_bind (fs_ai r30 x1) fun v31 =>
                if ((168 * x1) + (8 * v31)) ≤ v29 then (
                  fs_bind (fs_gr a0 12 5) fun r32 =>
                  fs_bind (fs_ai r32 x1) fun v33 =>
                  fs_bind (fs_si r32 x1 (v33 + v13)) fun _ =>
                  fs_bind (fs_gi a0 12 25) fun v34 =>
                  fs_bind (fs_pi a0 12 25 (v34 + 1)) fun _ =>
                  fs_bind (fs_gi a0 12 25) fun v35 =>
                  fs_ret (v35 - 1)) else
                fs_bind (fs_gr a0 12 14) fun r36 =>
                fs_bind (fs_gr a0 12 14) fun r37 =>
                fs_bind (fs_ai r37 (v29 + (8 * v13))) fun v38 =>
                fs_bind (fs_si r36 v29 v38) fun _ =>
                fs_nm ((v29 + 1) : Int32) fun v39 =>
                k212 v39) v28) else
            fs_bind (fs_cv a0 12 (f_Rf_writeRecord a0 x1 v10 v25)) fun _ =>
            fs_nm ((v25 + 1) : Int32) fun v40 =>
            k175 v40
def lb_Rf_report_104 := fun (a0 : Nat) (x1 : Int32) v10 => fun (k104 : Int32 → Int32 → fs_T Int32) (v13 : Int32) (v14 : Int32) =>
        fs_bind (fs_gr a0 12 13) fun r15 =>
        fs_bind (fs_ai r15 x1) fun v16 =>
        fs_let (fun (_ : Unit) =>
          fs_bind (fs_cv a0 12 (f_Rf_write a0 v13)) fun _ =>
          fs_bind (fs_gr a0 12 5) fun r23 =>
          fs_bind (fs_ai r23 x1) fun v24 =>
          fs_bind (fs_cv a0 12 (f_Rf_write a0 v24)) fun _ =>
          fs_lp1 4096 (fun k175 (v25 : Int32) =>
            if v13 ≤ v25 then (
              fs_bind (fs_gr a0 12 13) fun r26 =>
              fs_bind (fs_ai r26 x1) fun v27 =>
              fs_bind (fs_si r26 x1 (v27 - v13)) fun _ =>
              fs_nm ((168 * x1) : Int32) fun v28 =>
              fs_lp1 4096 (fun k212 (v29 : Int32) =>
                fs_bind (fs_gr a0 12 13) fun r30 =>
                fs_bind (fs_ai r30 x1) fun v31 =>
                if ((168 * x1) + (8 * v31)) ≤ v29 then (
                  fs_bind (fs_gr a0 12 5) fun r32 =>
                  fs_bind (fs_ai r32 x1) fun v33 =>
                  fs_bind (fs_si r32 x1 (v33 + v13)) fun _ =>
                  fs_bind (fs_gi a0 12 25) fun v34 =>
                  fs_bind (fs_pi a0 12 25 (v34 + 1)) fun _ =>
                  fs_bind (fs_gi a0 12 25) fun v35 =>
                  fs_ret (v35 - 1)) else
                fs_bind (fs_gr a0 12 14) fun r36 =>
                fs_bind (fs_gr a0 12 14) fun r37 =>
                fs_bind (fs_ai r37 (v29 + (8 * v13))) fun v38 =>
                fs_bind (fs_si r36 v29 v38) fun _ =>
                fs_nm ((v29 + 1) : Int32) fun v39 =>
                k212 v39) v28) else
            fs_bind (fs_cv a0 12 (f_Rf_writeRecord a0 x1 v10 v25)) fun _ =>
            fs_nm ((v25 + 1) : Int32) fun v40 =>
            k175 v40) 0) fun j157 =>
        if v16 ≤ v13 then (
          j157 ()) else
        fs_bind (fs_gr a0 12 5) fun r17 =>
        fs_bind (fs_ai r17 x1) fun v18 =>
        if 100 ≤ (v18 + v13) then (
          j157 ()) else
        fs_bind (fs_cv a0 12 (f_Rf_recordOf a0 x1 v10 v13)) fun v19 =>
        if v14 < v19 then (
          j157 ()) else
        fs_bind (fs_cv a0 12 (f_Rf_recordOf a0 x1 v10 v13)) fun v20 =>
        fs_nm ((v14 - v20) : Int32) fun v21 =>
        fs_nm ((v13 + 1) : Int32) fun v22 =>
        k104 v22 v21
def lb_Rf_badFields_6 := fun (a0 : Nat) => fun (k6 : Int32 → Int32 → Int32 → fs_T Int32) (v1 : Int32) (v2 : Int32) (v3 : Int32) =>
    fs_bind (fs_gr a0 12 46) fun r4 =>
    fs_bind (fs_ai r4 5) fun v5 =>
    if v5 ≤ v3 then (
      fs_rz v2) else
    fs_bind (fs_gr a0 12 46) fun r6 =>
    fs_bind (fs_ai r6 (6 + (2 * v3))) fun v7 =>
    fs_let (fun (v10 : Int32) =>
      fs_let (fun (v11 : Int32) =>
        fs_nm ((v3 + 1) : Int32) fun v12 =>
        k6 v11 v10 v12) fun j85 =>
      if v10 = 0 then (
        j85 (v1 ||| (1 <<< (v7 &&& 31)))) else
      j85 v1) fun j70 =>
    fs_let (fun (_ : Unit) =>
      j70 1) fun j65 =>
    if v2 = 0 then (
      if 7 < v7 then (
        j65 ()) else
      if ((v1 >>> (v7 &&& 31)) &&& 1) = 1 then (
        j65 ()) else
      fs_bind (fs_gr a0 12 46) fun r8 =>
      fs_bind (fs_ai r8 (7 + (2 * v3))) fun v9 =>
      if v9 ≤ 4 then (
        j70 0) else
      j65 ()) else
    j65 ()
def lb_Rf_find_2 := fun (a0 : Nat) (x1 : Int32) => fun (k2 : Int32 → fs_T Int32) (v1 : Int32) =>
    fs_bind (fs_gi a0 12 28) fun v2 =>
    if v2 ≤ v1 then (
      fs_ret (-1)) else
    fs_bind (fs_gr a0 12 29) fun r3 =>
    fs_bind (fs_ai r3 v1) fun v4 =>
    if v4 = x1 then (
      fs_ret v1) else
    fs_nm ((v1 + 1) : Int32) fun v5 =>
    k2 v5
def lb_Rf_waiting_4 := fun (a0 : Nat) (x1 : Int32) => fun (k4 : Int32 → Int32 → fs_T Int32) (v1 : Int32) (v2 : Int32) =>
    fs_bind (fs_gi a0 12 33) fun v3 =>
    if v3 ≤ v2 then (
      fs_ret v1) else
    fs_bind (fs_gr a0 12 35) fun r4 =>
    fs_bind (fs_ai r4 (64 * v2)) fun v5 =>
    fs_bind (fs_gr a0 12 35) fun r6 =>
    fs_bind (fs_ai r6 ((64 * v2) + 1)) fun v7 =>
    fs_bind (fs_gr a0 12 35) fun r8 =>
    fs_bind (fs_ai r8 ((64 * v2) + 3)) fun v9 =>
    fs_bind (fs_gr a0 12 35) fun r10 =>
    fs_bind (fs_ai r10 ((64 * v2) + 4)) fun v11 =>
    fs_nm (((((v5 <<< (24 &&& 31)) ||| (v7 <<< (16 &&& 31))) ||| (v9 <<< (8 &&& 31))) ||| v11) : Int32) fun v12 =>
    fs_let (fun (v15 : Int32) =>
      fs_nm ((v1 + v15) : Int32) fun v16 =>
      fs_nm ((v2 + 1) : Int32) fun v17 =>
      k4 v16 v17) fun j90 =>
    if v12 = x1 then (
      fs_bind (fs_gr a0 12 35) fun r13 =>
      fs_bind (fs_ai r13 ((64 * v2) + 5)) fun v14 =>
      j90 v14) else
    j90 0
def lb_Rf_fetch_12 := fun (a0 : Nat) (x1 : Int32) => fun (k12 : Int32 → fs_T Unit) (v3 : Int32) =>
    fs_bind (fs_gi a0 12 45) fun v4 =>
    if v4 ≤ v3 then (
      fs_ret ()) else
    fs_bind (fs_gr a0 12 46) fun r5 =>
    fs_bind (fs_gr a0 12 35) fun r6 =>
    fs_bind (fs_ai r6 ((64 * x1) + v3)) fun v7 =>
    fs_bind (fs_si r5 v3 v7) fun _ =>
    fs_nm ((v3 + 1) : Int32) fun v8 =>
    k12 v8
def lb_Rf_take_73 := fun (a0 : Nat) (v7 : Int32) => fun (k73 : Int64 → Int32 → fs_T Int64) (v10 : Int64) (v11 : Int32) =>
        if v7 ≤ v11 then (
          fs_ret v10) else
        fs_bind (fs_gr a0 12 46) fun r12 =>
        fs_bind (fs_gi a0 12 47) fun v13 =>
        fs_bind (fs_ai r12 v13) fun v14 =>
        fs_nm (((256 * v10) + (Int32.toInt64 v14)) : Int64) fun v15 =>
        fs_bind (fs_gi a0 12 47) fun v16 =>
        fs_bind (fs_pi a0 12 47 (v16 + 1)) fun _ =>
        fs_nm ((v11 + 1) : Int32) fun v17 =>
        k73 v15 v17
def lb_Rf_read_42 := fun (a0 : Nat) (j75 : Unit → fs_T Int32) (v1 : Int32) => fun (k42 : Int32 → fs_T Int32) (v10 : Int32) =>
      if 8 ≤ v10 then (
        j75 ()) else
      fs_bind (fs_gr a0 12 39) fun r11 =>
      fs_bind (fs_gi a0 12 37) fun v12 =>
      fs_bind (fs_sj r11 ((8 * (v12 + v1)) + v10) (-1)) fun _ =>
      fs_nm ((v10 + 1) : Int32) fun v13 =>
      k42 v13
def lb_Rf_read_81 := fun (a0 : Nat) (x1 : Int32) (x2 : Int32) (v1 : Int32) (k8 : Int32 → fs_T Int32) => fun (k81 : Int32 → fs_T Int32) (v15 : Int32) =>
        fs_bind (fs_gr a0 12 30) fun r16 =>
        fs_bind (fs_ai r16 x1) fun v17 =>
        if ((8 * x1) + v17) ≤ v15 then (
          fs_nm ((v1 + 1) : Int32) fun v18 =>
          k8 v18) else
        fs_bind (fs_gr a0 12 32) fun r19 =>
        fs_bind (fs_ai r19 v15) fun v20 =>
        fs_bind (fs_cv a0 12 (f_Rf_take a0 v20)) fun v21 =>
        if 0 ≤ (lg_cmp v21 0) then (
          fs_let (fun (_ : Unit) =>
            fs_nm ((v15 + 1) : Int32) fun v26 =>
            k81 v26) fun j147 =>
          if x2 = 0 then (
            j147 ()) else
          fs_bind (fs_gr a0 12 39) fun r22 =>
          fs_bind (fs_gi a0 12 37) fun v23 =>
          fs_bind (fs_gr a0 12 31) fun r24 =>
          fs_bind (fs_ai r24 v15) fun v25 =>
          fs_bind (fs_sj r22 ((8 * (v23 + v1)) + v25) v21) fun _ =>
          j147 ()) else
        fs_rz 0
def lb_Rf_read_8 := fun (a0 : Nat) (x1 : Int32) (x2 : Int32) => fun (k8 : Int32 → fs_T Int32) (v1 : Int32) =>
    fs_bind (fs_gr a0 12 46) fun r2 =>
    fs_bind (fs_ai r2 5) fun v3 =>
    if v3 ≤ v1 then (
      fs_bind (fs_gi a0 12 47) fun v4 =>
      fs_bind (fs_gi a0 12 45) fun v5 =>
      if v4 = v5 then (
        fs_rz 1) else
      fs_rz 0) else
    fs_let (fun (_ : Unit) =>
      fs_nm ((8 * x1) : Int32) fun v14 =>
      fs_lp1 4096 (fun k81 (v15 : Int32) =>
        fs_bind (fs_gr a0 12 30) fun r16 =>
        fs_bind (fs_ai r16 x1) fun v17 =>
        if ((8 * x1) + v17) ≤ v15 then (
          fs_nm ((v1 + 1) : Int32) fun v18 =>
          k8 v18) else
        fs_bind (fs_gr a0 12 32) fun r19 =>
        fs_bind (fs_ai r19 v15) fun v20 =>
        fs_bind (fs_cv a0 12 (f_Rf_take a0 v20)) fun v21 =>
        if 0 ≤ (lg_cmp v21 0) then (
          fs_let (fun (_ : Unit) =>
            fs_nm ((v15 + 1) : Int32) fun v26 =>
            k81 v26) fun j147 =>
          if x2 = 0 then (
            j147 ()) else
          fs_bind (fs_gr a0 12 39) fun r22 =>
          fs_bind (fs_gi a0 12 37) fun v23 =>
          fs_bind (fs_gr a0 12 31) fun r24 =>
          fs_bind (fs_ai r24 v15) fun v25 =>
          fs_bind (fs_sj r22 ((8 * (v23 + v1)) + v25) v21) fun _ =>
          j147 ()) else
        fs_rz 0) v14) fun j75 =>
    if x2 = 0 then (
      j75 ()) else
    fs_bind (fs_gr a0 12 38) fun r6 =>
    fs_bind (fs_gi a0 12 37) fun v7 =>
    fs_bind (fs_gr a0 12 46) fun r8 =>
    fs_bind (fs_ai r8 0) fun v9 =>
    fs_bind (fs_si r6 (v7 + v1) v9) fun _ =>
    fs_lp1 4096 (fun k42 (v10 : Int32) =>
      if 8 ≤ v10 then (
        j75 ()) else
      fs_bind (fs_gr a0 12 39) fun r11 =>
      fs_bind (fs_gi a0 12 37) fun v12 =>
      fs_bind (fs_sj r11 ((8 * (v12 + v1)) + v10) (-1)) fun _ =>
      fs_nm ((v10 + 1) : Int32) fun v13 =>
      k42 v13) 0
def lb_Rf_unshelve_36 := fun (a0 : Nat) (v2 : Int32) (k12 : Int32 → fs_T Unit) => fun (k36 : Int32 → fs_T Unit) (v7 : Int32) =>
      if 64 ≤ v7 then (
        fs_nm ((v2 + 1) : Int32) fun v8 =>
        k12 v8) else
      fs_bind (fs_gr a0 12 35) fun r9 =>
      fs_bind (fs_gr a0 12 35) fun r10 =>
      fs_bind (fs_ai r10 (((64 * v2) + 64) + v7)) fun v11 =>
      fs_bind (fs_si r9 ((64 * v2) + v7) v11) fun _ =>
      fs_nm ((v7 + 1) : Int32) fun v12 =>
      k36 v12
def lb_Rf_unshelve_12 := fun (a0 : Nat) => fun (k12 : Int32 → fs_T Unit) (v2 : Int32) =>
    fs_bind (fs_gi a0 12 33) fun v3 =>
    if v3 ≤ v2 then (
      fs_ret ()) else
    fs_bind (fs_gr a0 12 34) fun r4 =>
    fs_bind (fs_gr a0 12 34) fun r5 =>
    fs_bind (fs_ai r5 (v2 + 1)) fun v6 =>
    fs_bind (fs_si r4 v2 v6) fun _ =>
    fs_lp1 4096 (fun k36 (v7 : Int32) =>
      if 64 ≤ v7 then (
        fs_nm ((v2 + 1) : Int32) fun v8 =>
        k12 v8) else
      fs_bind (fs_gr a0 12 35) fun r9 =>
      fs_bind (fs_gr a0 12 35) fun r10 =>
      fs_bind (fs_ai r10 (((64 * v2) + 64) + v7)) fun v11 =>
      fs_bind (fs_si r9 ((64 * v2) + v7) v11) fun _ =>
      fs_nm ((v7 + 1) : Int32) fun v12 =>
      k36 v12) 0
def lb_Rf_hearTemplate_161 := fun (a0 : Nat) v17 v1 v8 => fun (k161 : Int32 → fs_T Int32) (v18 : Int32) =>
              fs_bind (fs_gi a0 12 33) fun v19 =>
              if v19 ≤ v18 then (
                fs_bind (fs_gi a0 12 37) fun v20 =>
                fs_ret (v20 - v17)) else
              fs_bind (fs_cv a0 12 (f_Rf_fetch a0 v18)) fun _ =>
              fs_bind (fs_cv a0 12 (f_Rf_nameOf a0)) fun v21 =>
              if v21 = v1 then (
                fs_bind (fs_gr a0 12 41) fun r23 =>
                fs_bind (fs_gr a0 12 46) fun r24 =>
                fs_bind (fs_ai r24 0) fun v25 =>
                fs_bind (fs_ai r23 v25) fun v26 =>
                fs_bind (fs_cv a0 12 (f_Rf_makeRows a0 v8)) fun v27 =>
                fs_let (fun (v28 : Int32) =>
                  fs_bind (fs_si r23 v25 (v26 + v28)) fun _ =>
                  fs_bind (fs_cv a0 12 (f_Rf_unshelve a0 v18)) fun _ =>
                  k161 v18) fun j209 =>
                if 0 ≤ v27 then (
                  j209 0) else
                j209 1) else
              fs_nm ((v18 + 1) : Int32) fun v22 =>
              k161 v22
def lb_Rf_hearTemplate_83 := fun (a0 : Nat) v1 v8 => fun (k83 : Int32 → fs_T Int32) (v13 : Int32) =>
          fs_bind (fs_gr a0 12 46) fun r14 =>
          fs_bind (fs_ai r14 5) fun v15 =>
          if v15 ≤ v13 then (
            fs_bind (fs_gi a0 12 28) fun v16 =>
            fs_bind (fs_pi a0 12 28 (v16 + 1)) fun _ =>
            fs_bind (fs_gi a0 12 37) fun v17 =>
            fs_lp1 4096 (fun k161 (v18 : Int32) =>
              fs_bind (fs_gi a0 12 33) fun v19 =>
              if v19 ≤ v18 then (
                fs_bind (fs_gi a0 12 37) fun v20 =>
                fs_ret (v20 - v17)) else
              fs_bind (fs_cv a0 12 (f_Rf_fetch a0 v18)) fun _ =>
              fs_bind (fs_cv a0 12 (f_Rf_nameOf a0)) fun v21 =>
              if v21 = v1 then (
                fs_bind (fs_gr a0 12 41) fun r23 =>
                fs_bind (fs_gr a0 12 46) fun r24 =>
                fs_bind (fs_ai r24 0) fun v25 =>
                fs_bind (fs_ai r23 v25) fun v26 =>
                fs_bind (fs_cv a0 12 (f_Rf_makeRows a0 v8)) fun v27 =>
                fs_let (fun (v28 : Int32) =>
                  fs_bind (fs_si r23 v25 (v26 + v28)) fun _ =>
                  fs_bind (fs_cv a0 12 (f_Rf_unshelve a0 v18)) fun _ =>
                  k161 v18) fun j209 =>
                if 0 ≤ v27 then (
                  j209 0) else
                j209 1) else
              fs_nm ((v18 + 1) : Int32) fun v22 =>
              k161 v22) 0) else
          fs_bind (fs_gr a0 12 31) fun r29 =>
          fs_bind (fs_gr a0 12 46) fun r30 =>
          fs_bind (fs_ai r30 (6 + (2 * v13))) fun v31 =>
          fs_bind (fs_si r29 ((8 * v8) + v13) v31) fun _ =>
          fs_bind (fs_gr a0 12 32) fun r32 =>
          fs_bind (fs_gr a0 12 46) fun r33 =>
          fs_bind (fs_ai r33 (7 + (2 * v13))) fun v34 =>
          fs_bind (fs_si r32 ((8 * v8) + v13) v34) fun _ =>
          fs_nm ((v13 + 1) : Int32) fun v35 =>
          k83 v35
def lb_Rf_hearRecords_197 := fun (a0 : Nat) (j244 : Int32 → fs_T Int32) => fun (k197 : Int32 → fs_T Int32) (v24 : Int32) =>
              fs_bind (fs_gi a0 12 45) fun v25 =>
              if v25 ≤ v24 then (
                fs_bind (fs_gi a0 12 33) fun v26 =>
                fs_bind (fs_pi a0 12 33 (v26 + 1)) fun _ =>
                j244 0) else
              fs_bind (fs_gr a0 12 35) fun r27 =>
              fs_bind (fs_gi a0 12 33) fun v28 =>
              fs_bind (fs_gr a0 12 46) fun r29 =>
              fs_bind (fs_ai r29 v24) fun v30 =>
              fs_bind (fs_si r27 ((64 * v28) + v24) v30) fun _ =>
              fs_nm ((v24 + 1) : Int32) fun v31 =>
              k197 v31
def lb_Rf_hearRecords_247 := fun (a0 : Nat) (v7 : Int32) v15 (v37 : Int32) => fun (k247 : Int32 → fs_T Int32) (v38 : Int32) =>
            if (v7 + v15) ≤ v38 then (
              fs_ret v37) else
            fs_bind (fs_gr a0 12 36) fun r39 =>
            fs_bind (fs_sz r39 v38 1) fun _ =>
            fs_nm ((v38 + 1) : Int32) fun v40 =>
            k247 v40
def lb_Rf_hearRecords_33 := fun (a0 : Nat) (v7 : Int32) => fun (k33 : Int32 → Int32 → fs_T Int32) (v8 : Int32) (v9 : Int32) =>
    fs_bind (fs_gr a0 12 46) fun r10 =>
    fs_bind (fs_ai r10 5) fun v11 =>
    if (v7 + v11) ≤ v9 then (
      if v8 = 0 then (
        fs_bind (fs_cv a0 12 (f_Rf_nameOf a0)) fun v12 =>
        fs_bind (fs_cv a0 12 (f_Rf_find a0 v12)) fun v13 =>
        fs_bind (fs_gr a0 12 46) fun r14 =>
        fs_bind (fs_ai r14 5) fun v15 =>
        fs_let (fun (v37 : Int32) =>
          fs_lp1 4096 (fun k247 (v38 : Int32) =>
            if (v7 + v15) ≤ v38 then (
              fs_ret v37) else
            fs_bind (fs_gr a0 12 36) fun r39 =>
            fs_bind (fs_sz r39 v38 1) fun _ =>
            fs_nm ((v38 + 1) : Int32) fun v40 =>
            k247 v40) v7) fun j244 =>
        if v13 < 0 then (
          fs_bind (fs_gi a0 12 33) fun v16 =>
          fs_let (fun (_ : Unit) =>
            fs_bind (fs_gr a0 12 34) fun r21 =>
            fs_bind (fs_gi a0 12 33) fun v22 =>
            fs_bind (fs_gi a0 12 45) fun v23 =>
            fs_bind (fs_si r21 v22 v23) fun _ =>
            fs_lp1 4096 (fun k197 (v24 : Int32) =>
              fs_bind (fs_gi a0 12 45) fun v25 =>
              if v25 ≤ v24 then (
                fs_bind (fs_gi a0 12 33) fun v26 =>
                fs_bind (fs_pi a0 12 33 (v26 + 1)) fun _ =>
                j244 0) else
              fs_bind (fs_gr a0 12 35) fun r27 =>
              fs_bind (fs_gi a0 12 33) fun v28 =>
              fs_bind (fs_gr a0 12 46) fun r29 =>
              fs_bind (fs_ai r29 v24) fun v30 =>
              fs_bind (fs_si r27 ((64 * v28) + v24) v30) fun _ =>
              fs_nm ((v24 + 1) : Int32) fun v31 =>
              k197 v31) 0) fun j181 =>
          if v16 = 5 then (
            fs_bind (fs_gr a0 12 40) fun r17 =>
            fs_bind (fs_gr a0 12 35) fun r18 =>
            fs_bind (fs_ai r18 0) fun v19 =>
            fs_bind (fs_ai r17 v19) fun v20 =>
            fs_bind (fs_si r17 v19 (v20 + 1)) fun _ =>
            fs_bind (fs_cv a0 12 (f_Rf_unshelve a0 0)) fun _ =>
            j181 ()) else
          j181 ()) else
        fs_bind (fs_cv a0 12 (f_Rf_read a0 v13 0)) fun v32 =>
        fs_let (fun (v34 : Int32) =>
          fs_bind (fs_pi a0 12 0 v34) fun _ =>
          fs_bind (fs_gi a0 12 0) fun v35 =>
          if v35 = 0 then (
            fs_bind (fs_cv a0 12 (f_Rf_makeRows a0 v13)) fun v36 =>
            j244 v36) else
          fs_ret 0) fun j131 =>
        if v32 = 0 then (
          j131 2) else
        fs_bind (fs_gi a0 12 37) fun v33 =>
        if (v33 + v15) ≤ 80 then (
          j131 0) else
        j131 3) else
      fs_ret 0) else
    fs_let (fun (v43 : Int32) =>
      fs_nm ((v9 + 1) : Int32) fun v44 =>
      k33 v43 v44) fun j63 =>
    fs_let (fun (_ : Unit) =>
      j63 1) fun j58 =>
    if v8 = 0 then (
      fs_bind (fs_gr a0 12 36) fun r41 =>
      fs_bind (fs_az r41 v9) fun v42 =>
      if v42 = 0 then (
        j63 0) else
      j58 ()) else
    j58 ()
def lb_Rf_hear_38 := fun (a0 : Nat) (x1 : Int32) => fun (k38 : Int32 → fs_T Int32) (v6 : Int32) =>
        fs_bind (fs_gi a0 12 45) fun v7 =>
        if v7 ≤ v6 then (
          fs_bind (fs_cv a0 12 (f_Rf_isBad a0)) fun v8 =>
          if v8 = 0 then (
            fs_bind (fs_gr a0 12 46) fun r9 =>
            fs_bind (fs_ai r9 2) fun v10 =>
            if v10 = 0 then (
              fs_bind (fs_cv a0 12 (f_Rf_hearTemplate a0)) fun v40 =>
              fs_ret v40) else
            fs_bind (fs_gr a0 12 46) fun r11 =>
            fs_bind (fs_ai r11 2) fun v12 =>
            if v12 = 1 then (
              fs_bind (fs_cv a0 12 (f_Rf_hearRecords a0)) fun v39 =>
              fs_ret v39) else
            fs_bind (fs_gr a0 12 46) fun r13 =>
            fs_bind (fs_ai r13 0) fun v14 =>
            fs_bind (fs_gr a0 12 42) fun r15 =>
            fs_bind (fs_ai r15 v14) fun v16 =>
            fs_let (fun (v29 : Int32) =>
              if v29 = 0 then (
                fs_ret 0) else
              fs_bind (fs_gr a0 12 42) fun r30 =>
              fs_bind (fs_gr a0 12 46) fun r31 =>
              fs_bind (fs_ai r31 4) fun v32 =>
              fs_bind (fs_si r30 v14 v32) fun _ =>
              fs_bind (fs_gr a0 12 43) fun r33 =>
              fs_bind (fs_gr a0 12 46) fun r34 =>
              fs_bind (fs_ai r34 1) fun v35 =>
              fs_bind (fs_si r33 v14 v35) fun _ =>
              fs_bind (fs_gr a0 12 44) fun r36 =>
              fs_bind (fs_gr a0 12 46) fun r37 =>
              fs_bind (fs_ai r37 3) fun v38 =>
              fs_bind (fs_si r36 v14 v38) fun _ =>
              fs_ret 0) fun j178 =>
            fs_let (fun (_ : Unit) =>
              j178 1) fun j173 =>
            if v16 = 0 then (
              j173 ()) else
            fs_bind (fs_gr a0 12 46) fun r17 =>
            fs_bind (fs_ai r17 1) fun v18 =>
            fs_bind (fs_gr a0 12 43) fun r19 =>
            fs_bind (fs_ai r19 v14) fun v20 =>
            if v20 < v18 then (
              j173 ()) else
            fs_bind (fs_gr a0 12 46) fun r21 =>
            fs_bind (fs_ai r21 1) fun v22 =>
            fs_bind (fs_gr a0 12 43) fun r23 =>
            fs_bind (fs_ai r23 v14) fun v24 =>
            fs_let (fun (_ : Unit) =>
              j178 0) fun j177 =>
            if v22 = v24 then (
              fs_bind (fs_gr a0 12 46) fun r25 =>
              fs_bind (fs_ai r25 3) fun v26 =>
              fs_bind (fs_gr a0 12 44) fun r27 =>
              fs_bind (fs_ai r27 v14) fun v28 =>
              if v26 ≤ v28 then (
                j177 ()) else
              j173 ()) else
            j177 ()) else
          fs_bind (fs_pi a0 12 0 2) fun _ =>
          fs_ret 0) else
        fs_bind (fs_gr a0 12 46) fun r41 =>
        fs_bind (fs_gr a0 12 27) fun r42 =>
        fs_bind (fs_ai r42 ((64 * x1) + v6)) fun v43 =>
        fs_bind (fs_si r41 v6 v43) fun _ =>
        fs_nm ((v6 + 1) : Int32) fun v44 =>
        k38 v44
def lb_Rf_total_45 := fun (a0 : Nat) (x1 : Int32) (x2 : Int32) (x3 : Int64) (x4 : Int32) => fun (k45 : Int64 → Int32 → fs_T Int64) (v3 : Int64) (v4 : Int32) =>
      fs_bind (fs_gi a0 12 37) fun v5 =>
      fs_let (fun (_ : Unit) =>
        fs_ret v3) fun j164 =>
      if v5 ≤ v4 then (
        j164 ()) else
      fs_bind (fs_gi a0 12 0) fun v6 =>
      if v6 = 0 then (
        fs_bind (fs_gr a0 12 38) fun r7 =>
        fs_bind (fs_ai r7 v4) fun v8 =>
        fs_let (fun (v15 : Int32) =>
          fs_let (fun (v18 : Int64) =>
            fs_nm ((v3 + v18) : Int64) fun v19 =>
            fs_nm ((v4 + 1) : Int32) fun v20 =>
            k45 v19 v20) fun j155 =>
          if v15 = 0 then (
            j155 0) else
          fs_bind (fs_gr a0 12 39) fun r16 =>
          fs_bind (fs_aj r16 ((8 * v4) + x4)) fun v17 =>
          j155 v17) fun j129 =>
        fs_let (fun (_ : Unit) =>
          j129 0) fun j128 =>
        if v8 = x1 then (
          fs_bind (fs_gr a0 12 39) fun r9 =>
          fs_bind (fs_aj r9 ((8 * v4) + x2)) fun v10 =>
          if (lg_cmp v10 0) < 0 then (
            j128 ()) else
          fs_bind (fs_gr a0 12 39) fun r11 =>
          fs_bind (fs_aj r11 ((8 * v4) + x2)) fun v12 =>
          if (lg_cmp v12 x3) = 0 then (
            fs_bind (fs_gr a0 12 39) fun r13 =>
            fs_bind (fs_aj r13 ((8 * v4) + x4)) fun v14 =>
            if (lg_cmp v14 0) < 0 then (
              j128 ()) else
            j129 1) else
          j128 ()) else
        j128 ()) else
      j164 ()
def lb_Rf_firstLeft_4 := fun (a0 : Nat) => fun (k4 : Int32 → Int32 → fs_T Int32) (v1 : Int32) (v2 : Int32) =>
    fs_bind (fs_gi a0 12 37) fun v3 =>
    if v3 ≤ v2 then (
      fs_ret v1) else
    fs_bind (fs_gr a0 12 49) fun r4 =>
    fs_bind (fs_az r4 v2) fun v5 =>
    fs_let (fun (v11 : Int32) =>
      fs_let (fun (v12 : Int32) =>
        fs_nm ((v2 + 1) : Int32) fun v13 =>
        k4 v12 v13) fun j74 =>
      if v11 = 0 then (
        j74 v1) else
      j74 v2) fun j64 =>
    fs_let (fun (_ : Unit) =>
      j64 0) fun j63 =>
    if v5 = 0 then (
      fs_bind (fs_cv a0 12 (f_Rf_isWhole a0 v2)) fun v6 =>
      if v6 = 0 then (
        j63 ()) else
      fs_let (fun (_ : Unit) =>
        j64 1) fun j59 =>
      if v1 < 0 then (
        j59 ()) else
      fs_bind (fs_gr a0 12 39) fun r7 =>
      fs_bind (fs_aj r7 ((8 * v2) + 5)) fun v8 =>
      fs_bind (fs_gr a0 12 39) fun r9 =>
      fs_bind (fs_aj r9 ((8 * v1) + 5)) fun v10 =>
      if 0 ≤ (lg_cmp v8 v10) then (
        j63 ()) else
      j59 ()) else
    j63 ()
def lb_Rf_pairOne_4 := fun (a0 : Nat) (x1 : Int32) => fun (k4 : Int32 → Int32 → fs_T Unit) (v1 : Int32) (v2 : Int32) =>
    fs_bind (fs_gi a0 12 37) fun v3 =>
    if v3 ≤ v2 then (
      if v1 < 0 then (
        fs_ret ()) else
      fs_bind (fs_gr a0 12 48) fun r4 =>
      fs_bind (fs_si r4 x1 v1) fun _ =>
      fs_bind (fs_gr a0 12 48) fun r5 =>
      fs_bind (fs_si r5 v1 x1) fun _ =>
      fs_ret ()) else
    fs_let (fun (v10 : Int32) =>
      fs_let (fun (v13 : Int32) =>
        fs_nm ((v2 + 1) : Int32) fun v14 =>
        k4 v13 v14) fun j80 =>
      fs_let (fun (_ : Unit) =>
        j80 v1) fun j79 =>
      if v10 = 0 then (
        j79 ()) else
      fs_let (fun (_ : Unit) =>
        j80 v2) fun j75 =>
      if v1 < 0 then (
        j75 ()) else
      fs_bind (fs_cv a0 12 (f_Rf_farness a0 x1 v2)) fun v11 =>
      fs_bind (fs_cv a0 12 (f_Rf_farness a0 x1 v1)) fun v12 =>
      if 0 ≤ (lg_cmp v11 v12) then (
        j79 ()) else
      j75 ()) fun j48 =>
    fs_let (fun (_ : Unit) =>
      j48 0) fun j47 =>
    if v2 = x1 then (
      j47 ()) else
    fs_bind (fs_gr a0 12 48) fun r6 =>
    fs_bind (fs_ai r6 v2) fun v7 =>
    if 0 ≤ v7 then (
      j47 ()) else
    fs_bind (fs_cv a0 12 (f_Rf_isWhole a0 v2)) fun v8 =>
    if v8 = 0 then (
      j47 ()) else
    fs_bind (fs_cv a0 12 (f_Rf_isBack a0 x1 v2)) fun v9 =>
    if v9 = 0 then (
      j47 ()) else
    j48 1
def lb_Rf_other_63 := fun (a0 : Nat) (x1 : Int32) => fun (k63 : Int32 → fs_T Int32) (v6 : Int32) =>
            if v6 < 0 then (
              fs_bind (fs_gr a0 12 48) fun r7 =>
              fs_bind (fs_ai r7 x1) fun v8 =>
              fs_ret v8) else
            fs_bind (fs_gr a0 12 49) fun r9 =>
            fs_bind (fs_sz r9 v6 1) fun _ =>
            fs_bind (fs_gr a0 12 48) fun r10 =>
            fs_bind (fs_ai r10 v6) fun v11 =>
            fs_let (fun (_ : Unit) =>
              fs_bind (fs_cv a0 12 (f_Rf_firstLeft a0)) fun v12 =>
              k63 v12) fun j88 =>
            if 0 ≤ v11 then (
              j88 ()) else
            fs_bind (fs_cv a0 12 (f_Rf_pairOne a0 v6)) fun _ =>
            j88 ()
def lb_Rf_other_32 := fun (a0 : Nat) (x1 : Int32) => fun (k32 : Int32 → fs_T Int32) (v4 : Int32) =>
        if 80 ≤ v4 then (
          fs_bind (fs_cv a0 12 (f_Rf_firstLeft a0)) fun v5 =>
          fs_lp1 4096 (fun k63 (v6 : Int32) =>
            if v6 < 0 then (
              fs_bind (fs_gr a0 12 48) fun r7 =>
              fs_bind (fs_ai r7 x1) fun v8 =>
              fs_ret v8) else
            fs_bind (fs_gr a0 12 49) fun r9 =>
            fs_bind (fs_sz r9 v6 1) fun _ =>
            fs_bind (fs_gr a0 12 48) fun r10 =>
            fs_bind (fs_ai r10 v6) fun v11 =>
            fs_let (fun (_ : Unit) =>
              fs_bind (fs_cv a0 12 (f_Rf_firstLeft a0)) fun v12 =>
              k63 v12) fun j88 =>
            if 0 ≤ v11 then (
              j88 ()) else
            fs_bind (fs_cv a0 12 (f_Rf_pairOne a0 v6)) fun _ =>
            j88 ()) v5) else
        fs_bind (fs_gr a0 12 48) fun r13 =>
        fs_bind (fs_si r13 v4 (-1)) fun _ =>
        fs_bind (fs_gr a0 12 49) fun r14 =>
        fs_bind (fs_sz r14 v4 0) fun _ =>
        fs_nm ((v4 + 1) : Int32) fun v15 =>
        k32 v15
def lb_Rf_lostOf_22 := fun (a0 : Nat) (x1 : Int32) (v1 : Int32) (v2 : Int32) (k4 : Int32 → Int32 → fs_T Int32) => fun (k22 : Int32 → Int32 → Int32 → Int32 → fs_T Int32) (v3 : Int32) (v4 : Int32) (v5 : Int32) (v6 : Int32) =>
      if 100 ≤ v6 then (
        fs_let (fun (v7 : Int32) =>
          fs_nm ((v1 + v7) : Int32) fun v8 =>
          fs_nm ((v2 + 1) : Int32) fun v9 =>
          k4 v8 v9) fun j97 =>
        if v5 = 0 then (
          j97 0) else
        j97 (((v4 - v3) + 1) - v5)) else
      fs_bind (fs_gr a0 12 36) fun r10 =>
      fs_bind (fs_az r10 (((600 * x1) + (100 * v2)) + v6)) fun v11 =>
      fs_let (fun (v14 : Int32) (v15 : Int32) (v16 : Int32) =>
        fs_nm ((v6 + 1) : Int32) fun v17 =>
        k22 v14 v15 v16 v17) fun j71 =>
      if v11 = 0 then (
        j71 v3 v4 v5) else
      fs_let (fun (v12 : Int32) =>
        fs_nm ((v5 + 1) : Int32) fun v13 =>
        j71 v12 v6 v13) fun j62 =>
      if 0 ≤ v3 then (
        j62 v3) else
      j62 v6
def lb_Rf_lostOf_4 := fun (a0 : Nat) (x1 : Int32) => fun (k4 : Int32 → Int32 → fs_T Int32) (v1 : Int32) (v2 : Int32) =>
    if 6 ≤ v2 then (
      fs_ret v1) else
    fs_lp4 4096 (fun k22 (v3 : Int32) (v4 : Int32) (v5 : Int32) (v6 : Int32) =>
      if 100 ≤ v6 then (
        fs_let (fun (v7 : Int32) =>
          fs_nm ((v1 + v7) : Int32) fun v8 =>
          fs_nm ((v2 + 1) : Int32) fun v9 =>
          k4 v8 v9) fun j97 =>
        if v5 = 0 then (
          j97 0) else
        j97 (((v4 - v3) + 1) - v5)) else
      fs_bind (fs_gr a0 12 36) fun r10 =>
      fs_bind (fs_az r10 (((600 * x1) + (100 * v2)) + v6)) fun v11 =>
      fs_let (fun (v14 : Int32) (v15 : Int32) (v16 : Int32) =>
        fs_nm ((v6 + 1) : Int32) fun v17 =>
        k22 v14 v15 v16 v17) fun j71 =>
      if v11 = 0 then (
        j71 v3 v4 v5) else
      fs_let (fun (v12 : Int32) =>
        fs_nm ((v5 + 1) : Int32) fun v13 =>
        j71 v12 v6 v13) fun j62 =>
      if 0 ≤ v3 then (
        j62 v3) else
      j62 v6) (-1) (-1) 0 0
def lb_Rf_count_41 := fun (a0 : Nat) (x1 : Int32) (x2 : Int32) => fun (k41 : Int32 → Int32 → fs_T Int32) (v4 : Int32) (v5 : Int32) =>
        fs_bind (fs_gi a0 12 33) fun v6 =>
        if v6 ≤ v5 then (
          if x2 = 0 then (
            fs_bind (fs_gr a0 12 1) fun r7 =>
            fs_bind (fs_ai r7 x1) fun v8 =>
            fs_ret v8) else
          if x2 = 1 then (
            fs_bind (fs_gr a0 12 2) fun r9 =>
            fs_bind (fs_ai r9 x1) fun v10 =>
            fs_ret v10) else
          if x2 = 2 then (
            fs_bind (fs_gr a0 12 7) fun r11 =>
            fs_bind (fs_ai r11 x1) fun v12 =>
            fs_ret v12) else
          if x2 = 3 then (
            fs_bind (fs_gr a0 12 13) fun r13 =>
            fs_bind (fs_ai r13 x1) fun v14 =>
            fs_ret v14) else
          if x2 = 4 then (
            fs_bind (fs_gr a0 12 5) fun r15 =>
            fs_bind (fs_ai r15 x1) fun v16 =>
            fs_ret v16) else
          if x2 = 5 then (
            fs_bind (fs_cv a0 12 (f_Rf_lostOf a0 x1)) fun v17 =>
            fs_ret v17) else
          if x2 = 6 then (
            fs_ret v4) else
          if x2 = 7 then (
            fs_bind (fs_gr a0 12 40) fun r18 =>
            fs_bind (fs_ai r18 x1) fun v19 =>
            fs_ret v19) else
          if x2 = 8 then (
            fs_bind (fs_gr a0 12 41) fun r20 =>
            fs_bind (fs_ai r20 x1) fun v21 =>
            fs_ret v21) else
          fs_bind (fs_gr a0 12 42) fun r22 =>
          fs_bind (fs_ai r22 x1) fun v23 =>
          fs_ret v23) else
        fs_bind (fs_gr a0 12 35) fun r24 =>
        fs_bind (fs_ai r24 (64 * v5)) fun v25 =>
        fs_let (fun (v26 : Int32) =>
          fs_nm ((v4 + v26) : Int32) fun v27 =>
          fs_nm ((v5 + 1) : Int32) fun v28 =>
          k41 v27 v28) fun j70 =>
        if v25 = x1 then (
          j70 1) else
        j70 0
def lb_Lw_law_23 := fun (a0 : Nat) (r1 : Nat) (r3 : Nat) (r2 : Nat) => fun (k23 : Int32 → fs_T Int32) (v4 : Int32) =>
    fs_bind (fs_al a0) fun v5 =>
    if (v5 - 7) < v4 then (
      fs_rz 1) else
    fs_bind (fs_ai a0 v4) fun v6 =>
    fs_let (fun (_ : Unit) =>
      fs_nm ((v4 + 7) : Int32) fun v172 =>
      k23 v172) fun j1513 =>
    if (v6 &&& 31) = 0 then (
      fs_bind (fs_ai a0 (v4 + 1)) fun v7 =>
      fs_bind (fs_ai a0 (v4 + 2)) fun v8 =>
      fs_bind (fs_ai a0 (v4 + 3)) fun v9 =>
      fs_bind (fs_ai a0 (v4 + 4)) fun v10 =>
      fs_bind (fs_ai a0 (v4 + 5)) fun v11 =>
      fs_bind (fs_ai a0 (v4 + 6)) fun v12 =>
      fs_let (fun (v13 : Int32) =>
        fs_bind (f_Lw_packet r1 v7 v8 v9 v10 v11 v13 r3) fun v14 =>
        fs_bind (fs_ai a0 (v4 + 1)) fun v15 =>
        fs_bind (fs_ai a0 (v4 + 2)) fun v16 =>
        fs_bind (fs_ai a0 (v4 + 3)) fun v17 =>
        fs_bind (fs_ai a0 (v4 + 4)) fun v18 =>
        fs_bind (fs_ai a0 (v4 + 5)) fun v19 =>
        fs_bind (fs_ai a0 (v4 + 6)) fun v20 =>
        fs_let (fun (v21 : Int32) =>
          fs_bind (fs_cv r2 12 (f_Rf_packet r2 v15 v16 v17 v18 v19 v21)) fun v22 =>
          fs_bind (fs_cv r2 12 (f_Rf_thrown r2)) fun v23 =>
          if v23 = v14 then (
            fs_let (fun (_ : Unit) =>
              j1513 ()) fun j278 =>
            if v14 = 0 then (
              fs_bind (fs_aj r3 0) fun v24 =>
              fs_let (fun (v25 : Int64) =>
                if (lg_cmp v24 v25) = 0 then (
                  j278 ()) else
                fs_rz 0) fun j272 =>
              if v22 = 0 then (
                j272 0) else
              j272 1) else
            j278 ()) else
          fs_rz 0) fun j238 =>
        if v20 = 0 then (
          j238 0) else
        j238 1) fun j186 =>
      if v12 = 0 then (
        j186 0) else
      j186 1) else
    if (v6 &&& 31) = 1 then (
      fs_bind (fs_ai a0 (v4 + 1)) fun v26 =>
      fs_bind (fs_ai a0 (v4 + 2)) fun v27 =>
      fs_bind (f_Lw_tick r1 v26 v27 r3) fun v28 =>
      fs_bind (fs_ai a0 (v4 + 1)) fun v29 =>
      fs_bind (fs_ai a0 (v4 + 2)) fun v30 =>
      fs_bind (fs_cv r2 12 (f_Rf_tick r2 v29 v30)) fun v31 =>
      fs_bind (fs_cv r2 12 (f_Rf_thrown r2)) fun v32 =>
      if v32 = v28 then (
        fs_let (fun (_ : Unit) =>
          j1513 ()) fun j346 =>
        if v28 = 0 then (
          fs_bind (fs_aj r3 0) fun v33 =>
          if (lg_cmp v33 (Int32.toInt64 v31)) = 0 then (
            j346 ()) else
          fs_rz 0) else
        j346 ()) else
      fs_rz 0) else
    if (v6 &&& 31) = 2 then (
      fs_bind (fs_ai a0 (v4 + 1)) fun v34 =>
      fs_bind (f_Lw_flush r1 v34 r3) fun v35 =>
      fs_bind (fs_ai a0 (v4 + 1)) fun v36 =>
      fs_bind (fs_cv r2 12 (f_Rf_flush r2 v36)) fun v37 =>
      fs_bind (fs_cv r2 12 (f_Rf_thrown r2)) fun v38 =>
      if v38 = v35 then (
        fs_let (fun (_ : Unit) =>
          j1513 ()) fun j402 =>
        if v35 = 0 then (
          fs_bind (fs_aj r3 0) fun v39 =>
          if (lg_cmp v39 (Int32.toInt64 v37)) = 0 then (
            j402 ()) else
          fs_rz 0) else
        j402 ()) else
      fs_rz 0) else
    if (v6 &&& 31) = 3 then (
      fs_bind (fs_ai a0 (v4 + 1)) fun v40 =>
      fs_bind (fs_ai a0 (v4 + 2)) fun v41 =>
      fs_bind (f_Lw_sampler r1 v40 v41) fun v42 =>
      fs_bind (fs_ai a0 (v4 + 1)) fun v43 =>
      fs_bind (fs_ai a0 (v4 + 2)) fun v44 =>
      fs_bind (fs_cv r2 12 (f_Rf_sampler r2 v43 v44)) fun _ =>
      fs_bind (fs_cv r2 12 (f_Rf_thrown r2)) fun v45 =>
      if v45 = v42 then (
        j1513 ()) else
      fs_rz 0) else
    if (v6 &&& 31) = 4 then (
      fs_bind (fs_ai a0 (v4 + 1)) fun v46 =>
      fs_bind (fs_ai a0 (v4 + 2)) fun v47 =>
      fs_bind (fs_ai a0 (v4 + 3)) fun v48 =>
      fs_bind (f_Lw_ended r1 v46 v47 v48 r3) fun v49 =>
      fs_bind (fs_ai a0 (v4 + 1)) fun v50 =>
      fs_bind (fs_ai a0 (v4 + 2)) fun v51 =>
      fs_bind (fs_ai a0 (v4 + 3)) fun v52 =>
      fs_bind (fs_cv r2 12 (f_Rf_ended r2 v50 v51 v52)) fun v53 =>
      fs_bind (fs_cv r2 12 (f_Rf_thrown r2)) fun v54 =>
      if v54 = v49 then (
        fs_let (fun (_ : Unit) =>
          j1513 ()) fun j530 =>
        if v49 = 0 then (
          fs_bind (fs_aj r3 0) fun v55 =>
          if (lg_cmp v55 (Int32.toInt64 v53)) = 0 then (
            j530 ()) else
          fs_rz 0) else
        j530 ()) else
      fs_rz 0) else
    if (v6 &&& 31) = 5 then (
      fs_bind (fs_ai a0 (v4 + 1)) fun v56 =>
      fs_bind (fs_ai a0 (v4 + 2)) fun v57 =>
      fs_bind (fs_ai a0 (v4 + 3)) fun v58 =>
      fs_bind (fs_ai a0 (v4 + 4)) fun v59 =>
      fs_bind (f_Lw_field r1 v56 v57 v58 v59 r3) fun v60 =>
      fs_bind (fs_ai a0 (v4 + 1)) fun v61 =>
      fs_bind (fs_ai a0 (v4 + 2)) fun v62 =>
      fs_bind (fs_ai a0 (v4 + 3)) fun v63 =>
      fs_bind (fs_ai a0 (v4 + 4)) fun v64 =>
      fs_bind (fs_cv r2 12 (f_Rf_field r2 v61 v62 v63 v64)) fun v65 =>
      fs_bind (fs_cv r2 12 (f_Rf_thrown r2)) fun v66 =>
      if v66 = v60 then (
        fs_let (fun (_ : Unit) =>
          j1513 ()) fun j622 =>
        if v60 = 0 then (
          fs_bind (fs_aj r3 0) fun v67 =>
          if (lg_cmp v67 (Int32.toInt64 v65)) = 0 then (
            j622 ()) else
          fs_rz 0) else
        j622 ()) else
      fs_rz 0) else
    if (v6 &&& 31) = 6 then (
      fs_bind (fs_ai a0 (v4 + 1)) fun v68 =>
      fs_bind (fs_ai a0 (v4 + 2)) fun v69 =>
      fs_bind (f_Lw_seal r1 v68 v69 r3) fun v70 =>
      fs_bind (fs_ai a0 (v4 + 1)) fun v71 =>
      fs_bind (fs_ai a0 (v4 + 2)) fun v72 =>
      fs_bind (fs_cv r2 12 (f_Rf_seal r2 v71 v72)) fun v73 =>
      fs_bind (fs_cv r2 12 (f_Rf_thrown r2)) fun v74 =>
      if v74 = v70 then (
        fs_let (fun (_ : Unit) =>
          j1513 ()) fun j690 =>
        if v70 = 0 then (
          fs_bind (fs_aj r3 0) fun v75 =>
          if (lg_cmp v75 (Int32.toInt64 v73)) = 0 then (
            j690 ()) else
          fs_rz 0) else
        j690 ()) else
      fs_rz 0) else
    if (v6 &&& 31) = 7 then (
      fs_bind (fs_ai a0 (v4 + 1)) fun v76 =>
      fs_bind (fs_ai a0 (v4 + 2)) fun v77 =>
      fs_bind (f_Lw_withdraw r1 v76 v77) fun v78 =>
      fs_bind (fs_ai a0 (v4 + 1)) fun v79 =>
      fs_bind (fs_ai a0 (v4 + 2)) fun v80 =>
      fs_bind (fs_cv r2 12 (f_Rf_withdraw r2 v79 v80)) fun _ =>
      fs_bind (fs_cv r2 12 (f_Rf_thrown r2)) fun v81 =>
      if v81 = v78 then (
        j1513 ()) else
      fs_rz 0) else
    if (v6 &&& 31) = 8 then (
      fs_bind (fs_ai a0 (v4 + 1)) fun v82 =>
      fs_bind (f_Lw_restart r1 v82 r3) fun v83 =>
      fs_bind (fs_ai a0 (v4 + 1)) fun v84 =>
      fs_bind (fs_cv r2 12 (f_Rf_restart r2 v84)) fun v85 =>
      fs_bind (fs_cv r2 12 (f_Rf_thrown r2)) fun v86 =>
      if v86 = v83 then (
        fs_let (fun (_ : Unit) =>
          j1513 ()) fun j794 =>
        if v83 = 0 then (
          fs_bind (fs_aj r3 0) fun v87 =>
          if (lg_cmp v87 (Int32.toInt64 v85)) = 0 then (
            j794 ()) else
          fs_rz 0) else
        j794 ()) else
      fs_rz 0) else
    if (v6 &&& 31) = 9 then (
      fs_bind (fs_ai a0 (v4 + 1)) fun v88 =>
      fs_bind (fs_ai a0 (v4 + 2)) fun v89 =>
      fs_bind (f_Lw_announce r1 v88 v89 r3) fun v90 =>
      fs_bind (fs_ai a0 (v4 + 1)) fun v91 =>
      fs_bind (fs_ai a0 (v4 + 2)) fun v92 =>
      fs_bind (fs_cv r2 12 (f_Rf_announce r2 v91 v92)) fun v93 =>
      fs_bind (fs_cv r2 12 (f_Rf_thrown r2)) fun v94 =>
      if v94 = v90 then (
        fs_let (fun (_ : Unit) =>
          j1513 ()) fun j862 =>
        if v90 = 0 then (
          fs_bind (fs_aj r3 0) fun v95 =>
          if (lg_cmp v95 (Int32.toInt64 v93)) = 0 then (
            j862 ()) else
          fs_rz 0) else
        j862 ()) else
      fs_rz 0) else
    if (v6 &&& 31) = 10 then (
      fs_bind (fs_ai a0 (v4 + 1)) fun v96 =>
      fs_bind (f_Lw_report r1 v96 r3) fun v97 =>
      fs_bind (fs_ai a0 (v4 + 1)) fun v98 =>
      fs_bind (fs_cv r2 12 (f_Rf_report r2 v98)) fun v99 =>
      fs_bind (fs_cv r2 12 (f_Rf_thrown r2)) fun v100 =>
      if v100 = v97 then (
        fs_let (fun (_ : Unit) =>
          j1513 ()) fun j918 =>
        if v97 = 0 then (
          fs_bind (fs_aj r3 0) fun v101 =>
          if (lg_cmp v101 (Int32.toInt64 v99)) = 0 then (
            j918 ()) else
          fs_rz 0) else
        j918 ()) else
      fs_rz 0) else
    if (v6 &&& 31) = 11 then (
      fs_bind (fs_ai a0 (v4 + 1)) fun v102 =>
      fs_bind (f_Lw_tell r1 v102 r3) fun v103 =>
      fs_bind (fs_ai a0 (v4 + 1)) fun v104 =>
      fs_bind (fs_cv r2 12 (f_Rf_tell r2 v104)) fun v105 =>
      fs_bind (fs_cv r2 12 (f_Rf_thrown r2)) fun v106 =>
      if v106 = v103 then (
        fs_let (fun (_ : Unit) =>
          j1513 ()) fun j974 =>
        if v103 = 0 then (
          fs_bind (fs_aj r3 0) fun v107 =>
          if (lg_cmp v107 (Int32.toInt64 v105)) = 0 then (
            j974 ()) else
          fs_rz 0) else
        j974 ()) else
      fs_rz 0) else
    if (v6 &&& 31) = 12 then (
      fs_bind (fs_ai a0 (v4 + 1)) fun v108 =>
      fs_bind (fs_cv r1 0 (f_Fs_size r1 v108)) fun v109 =>
      fs_bind (fs_ai a0 (v4 + 1)) fun v110 =>
      fs_bind (fs_cv r2 12 (f_Rf_size r2 v110)) fun v111 =>
      if v109 = v111 then (
        j1513 ()) else
      fs_rz 0) else
    if (v6 &&& 31) = 13 then (
      fs_bind (fs_ai a0 (v4 + 1)) fun v112 =>
      fs_bind (fs_ai a0 (v4 + 2)) fun v113 =>
      fs_bind (f_Lw_byteOf r1 v112 v113 r3) fun v114 =>
      fs_bind (fs_ai a0 (v4 + 1)) fun v115 =>
      fs_bind (fs_ai a0 (v4 + 2)) fun v116 =>
      fs_bind (fs_cv r2 12 (f_Rf_byteOf r2 v115 v116)) fun v117 =>
      fs_bind (fs_cv r2 12 (f_Rf_thrown r2)) fun v118 =>
      if v118 = v114 then (
        fs_let (fun (_ : Unit) =>
          j1513 ()) fun j1067 =>
        if v114 = 0 then (
          fs_bind (fs_aj r3 0) fun v119 =>
          if (lg_cmp v119 (Int32.toInt64 v117)) = 0 then (
            j1067 ()) else
          fs_rz 0) else
        j1067 ()) else
      fs_rz 0) else
    if (v6 &&& 31) = 14 then (
      fs_bind (fs_ai a0 (v4 + 1)) fun v120 =>
      fs_bind (fs_ai a0 (v4 + 2)) fun v121 =>
      fs_bind (fs_ai a0 (v4 + 3)) fun v122 =>
      fs_bind (f_Lw_poke r1 v120 v121 v122) fun v123 =>
      fs_bind (fs_ai a0 (v4 + 1)) fun v124 =>
      fs_bind (fs_ai a0 (v4 + 2)) fun v125 =>
      fs_bind (fs_ai a0 (v4 + 3)) fun v126 =>
      fs_bind (fs_cv r2 12 (f_Rf_poke r2 v124 v125 v126)) fun _ =>
      fs_bind (fs_cv r2 12 (f_Rf_thrown r2)) fun v127 =>
      if v127 = v123 then (
        j1513 ()) else
      fs_rz 0) else
    if (v6 &&& 31) = 15 then (
      fs_bind (fs_ai a0 (v4 + 1)) fun v128 =>
      fs_bind (f_Lw_hear r1 v128 r3) fun v129 =>
      fs_bind (fs_ai a0 (v4 + 1)) fun v130 =>
      fs_bind (fs_cv r2 12 (f_Rf_hear r2 v130)) fun v131 =>
      fs_bind (fs_cv r2 12 (f_Rf_thrown r2)) fun v132 =>
      if v132 = v129 then (
        fs_let (fun (_ : Unit) =>
          j1513 ()) fun j1183 =>
        if v129 = 0 then (
          fs_bind (fs_aj r3 0) fun v133 =>
          if (lg_cmp v133 (Int32.toInt64 v131)) = 0 then (
            j1183 ()) else
          fs_rz 0) else
        j1183 ()) else
      fs_rz 0) else
    if (v6 &&& 31) = 16 then (
      fs_bind (fs_cv r1 0 (f_Fs_rows r1)) fun v134 =>
      fs_bind (fs_cv r2 12 (f_Rf_rows r2)) fun v135 =>
      if v134 = v135 then (
        j1513 ()) else
      fs_rz 0) else
    if (v6 &&& 31) = 17 then (
      fs_bind (fs_ai a0 (v4 + 1)) fun v136 =>
      fs_bind (fs_ai a0 (v4 + 2)) fun v137 =>
      fs_bind (f_Lw_row r1 v136 v137 r3) fun v138 =>
      fs_bind (fs_ai a0 (v4 + 1)) fun v139 =>
      fs_bind (fs_ai a0 (v4 + 2)) fun v140 =>
      fs_bind (fs_cv r2 12 (f_Rf_row r2 v139 v140)) fun v141 =>
      fs_bind (fs_cv r2 12 (f_Rf_thrown r2)) fun v142 =>
      if v142 = v138 then (
        fs_let (fun (_ : Unit) =>
          j1513 ()) fun j1263 =>
        if v138 = 0 then (
          fs_bind (fs_aj r3 0) fun v143 =>
          if (lg_cmp v143 v141) = 0 then (
            j1263 ()) else
          fs_rz 0) else
        j1263 ()) else
      fs_rz 0) else
    if (v6 &&& 31) = 18 then (
      fs_bind (fs_ai a0 (v4 + 1)) fun v144 =>
      fs_bind (fs_ai a0 (v4 + 2)) fun v145 =>
      fs_bind (fs_ai a0 (v4 + 3)) fun v146 =>
      fs_bind (fs_ai a0 (v4 + 4)) fun v147 =>
      fs_bind (fs_ai a0 (v4 + 5)) fun v148 =>
      fs_bind (f_Lw_total r1 v144 v145 ((fs_lshl (Int32.toInt64 v146) 32) ||| ((Int32.toInt64 v147) &&& 4294967295)) v148 r3) fun v149 =>
      fs_bind (fs_ai a0 (v4 + 1)) fun v150 =>
      fs_bind (fs_ai a0 (v4 + 2)) fun v151 =>
      fs_bind (fs_ai a0 (v4 + 3)) fun v152 =>
      fs_bind (fs_ai a0 (v4 + 4)) fun v153 =>
      fs_bind (fs_ai a0 (v4 + 5)) fun v154 =>
      fs_bind (fs_cv r2 12 (f_Rf_total r2 v150 v151 ((fs_lshl (Int32.toInt64 v152) 32) ||| ((Int32.toInt64 v153) &&& 4294967295)) v154)) fun v155 =>
      fs_bind (fs_cv r2 12 (f_Rf_thrown r2)) fun v156 =>
      if v156 = v149 then (
        fs_let (fun (_ : Unit) =>
          j1513 ()) fun j1386 =>
        if v149 = 0 then (
          fs_bind (fs_aj r3 0) fun v157 =>
          if (lg_cmp v157 v155) = 0 then (
            j1386 ()) else
          fs_rz 0) else
        j1386 ()) else
      fs_rz 0) else
    if (v6 &&& 31) = 19 then (
      fs_bind (fs_ai a0 (v4 + 1)) fun v158 =>
      fs_bind (f_Lw_other r1 v158 r3) fun v159 =>
      fs_bind (fs_ai a0 (v4 + 1)) fun v160 =>
      fs_bind (fs_cv r2 12 (f_Rf_other r2 v160)) fun v161 =>
      fs_bind (fs_cv r2 12 (f_Rf_thrown r2)) fun v162 =>
      if v162 = v159 then (
        fs_let (fun (_ : Unit) =>
          j1513 ()) fun j1442 =>
        if v159 = 0 then (
          fs_bind (fs_aj r3 0) fun v163 =>
          if (lg_cmp v163 (Int32.toInt64 v161)) = 0 then (
            j1442 ()) else
          fs_rz 0) else
        j1442 ()) else
      fs_rz 0) else
    if (v6 &&& 31) = 20 then (
      fs_bind (fs_ai a0 (v4 + 1)) fun v164 =>
      fs_bind (fs_ai a0 (v4 + 2)) fun v165 =>
      fs_bind (f_Lw_count r1 v164 v165 r3) fun v166 =>
      fs_bind (fs_ai a0 (v4 + 1)) fun v167 =>
      fs_bind (fs_ai a0 (v4 + 2)) fun v168 =>
      fs_bind (fs_cv r2 12 (f_Rf_count r2 v167 v168)) fun v169 =>
      fs_bind (fs_cv r2 12 (f_Rf_thrown r2)) fun v170 =>
      if v170 = v166 then (
        fs_let (fun (_ : Unit) =>
          j1513 ()) fun j1510 =>
        if v166 = 0 then (
          fs_bind (fs_aj r3 0) fun v171 =>
          if (lg_cmp v171 (Int32.toInt64 v169)) = 0 then (
            j1510 ()) else
          fs_rz 0) else
        j1510 ()) else
      fs_rz 0) else
    j1513 ()
