theorem lk_Prog_3 : gin (.methodLink R_Prog 3 Lib.objectInit) := gin_of 79 (by decide +kernel) (by decide +kernel)
theorem im_obj : gin (.instanceMethod Lib.objectInit) := gin_of 63 (by decide +kernel) (by decide +kernel)
set_option maxRecDepth 40000 in
theorem co_obj : gin (.code Lib.objectInit ⟨#[0xb1]⟩ 1 none) := ⟨List.mem_of_getElem? (i := 64) rfl, by decide +kernel⟩
theorem ac_int : gin (.arrayClass .int) := gin_of 103 (by decide +kernel) (by decide +kernel)
theorem fc_Prog_9 {y : MethodName} (hy : y.cls = R_Prog) (hi : y.name = "<init>") : FP y 9 2 0 (.array .int) := ⟨R_Prog, T_Prog, 7, ty_Prog, rfl, uw_Prog, by decide, tk_Prog, nm_Prog, rfl, Or.inl ⟨by rw [hy]; exact gf_Prog_9, Or.inr ⟨rfl, hi, hy.symm⟩⟩⟩
theorem fc_Prog_15 {y : MethodName} (hy : y.cls = R_Prog) (hi : y.name = "<init>") : FP y 15 2 1 (.array .int) := ⟨R_Prog, T_Prog, 7, ty_Prog, rfl, uw_Prog, by decide, tk_Prog, nm_Prog, rfl, Or.inl ⟨by rw [hy]; exact gf_Prog_15, Or.inr ⟨rfl, hi, hy.symm⟩⟩⟩
theorem fc_Prog_18 {y : MethodName} (hy : y.cls = R_Prog) (hi : y.name = "<init>") : FP y 18 2 2 (.array .int) := ⟨R_Prog, T_Prog, 7, ty_Prog, rfl, uw_Prog, by decide, tk_Prog, nm_Prog, rfl, Or.inl ⟨by rw [hy]; exact gf_Prog_18, Or.inr ⟨rfl, hi, hy.symm⟩⟩⟩
theorem fc_Prog_21 {y : MethodName} (hy : y.cls = R_Prog) (hi : y.name = "<init>") : FP y 21 2 3 (.array .int) := ⟨R_Prog, T_Prog, 7, ty_Prog, rfl, uw_Prog, by decide, tk_Prog, nm_Prog, rfl, Or.inl ⟨by rw [hy]; exact gf_Prog_21, Or.inr ⟨rfl, hi, hy.symm⟩⟩⟩
theorem fc_Prog_24 {y : MethodName} (hy : y.cls = R_Prog) (hi : y.name = "<init>") : FP y 24 2 4 .int := ⟨R_Prog, T_Prog, 7, ty_Prog, rfl, uw_Prog, by decide, tk_Prog, nm_Prog, rfl, Or.inl ⟨by rw [hy]; exact gf_Prog_24, Or.inl rfl⟩⟩
theorem fc_Prog_28 {y : MethodName} (hy : y.cls = R_Prog) (hi : y.name = "<init>") : FP y 28 2 5 .int := ⟨R_Prog, T_Prog, 7, ty_Prog, rfl, uw_Prog, by decide, tk_Prog, nm_Prog, rfl, Or.inl ⟨by rw [hy]; exact gf_Prog_28, Or.inl rfl⟩⟩
theorem fc_Prog_31 {y : MethodName} (hy : y.cls = R_Prog) (hi : y.name = "<init>") : FP y 31 2 6 .boolean := ⟨R_Prog, T_Prog, 7, ty_Prog, rfl, uw_Prog, by decide, tk_Prog, nm_Prog, rfl, Or.inl ⟨by rw [hy]; exact gf_Prog_31, Or.inl rfl⟩⟩
theorem lk_Stk_3 : gin (.methodLink R_Stk 3 Lib.objectInit) := gin_of 149 (by decide +kernel) (by decide +kernel)
theorem fc_Stk_9 {y : MethodName} (hy : y.cls = R_Stk) (hi : y.name = "<init>") : FP y 9 3 0 (.array .int) := ⟨R_Stk, T_Stk, 3, ty_Stk, rfl, uw_Stk, by decide, tk_Stk, nm_Stk, rfl, Or.inl ⟨by rw [hy]; exact gf_Stk_9, Or.inr ⟨rfl, hi, hy.symm⟩⟩⟩
theorem ac_boolean : gin (.arrayClass .boolean) := gin_of 160 (by decide +kernel) (by decide +kernel)
theorem fc_Stk_15 {y : MethodName} (hy : y.cls = R_Stk) (hi : y.name = "<init>") : FP y 15 3 1 (.array .boolean) := ⟨R_Stk, T_Stk, 3, ty_Stk, rfl, uw_Stk, by decide, tk_Stk, nm_Stk, rfl, Or.inl ⟨by rw [hy]; exact gf_Stk_15, Or.inr ⟨rfl, hi, hy.symm⟩⟩⟩
theorem fc_Stk_19 {y : MethodName} (hy : y.cls = R_Stk) (hi : y.name = "<init>") : FP y 19 3 2 .int := ⟨R_Stk, T_Stk, 3, ty_Stk, rfl, uw_Stk, by decide, tk_Stk, nm_Stk, rfl, Or.inl ⟨by rw [hy]; exact gf_Stk_19, Or.inl rfl⟩⟩
theorem lk_Line_1 : gin (.methodLink R_Line 1 Lib.objectInit) := gin_of 166 (by decide +kernel) (by decide +kernel)
theorem fc_Line_7 {y : MethodName} (hy : y.cls = R_Line) (hi : y.name = "<init>") : FP y 7 1 1 .int := ⟨R_Line, T_Line, 2, ty_Line, rfl, uw_Line, by decide, tk_Line, nm_Line, rfl, Or.inl ⟨by rw [hy]; exact gf_Line_7, Or.inl rfl⟩⟩
theorem fc_Line_13 {y : MethodName} (hy : y.cls = R_Line) (hi : y.name = "<init>") : FP y 13 1 0 (.array .int) := ⟨R_Line, T_Line, 2, ty_Line, rfl, uw_Line, by decide, tk_Line, nm_Line, rfl, Or.inl ⟨by rw [hy]; exact gf_Line_13, Or.inr ⟨rfl, hi, hy.symm⟩⟩⟩
theorem lk_Heap_3 : gin (.methodLink R_Heap 3 Lib.objectInit) := gin_of 114 (by decide +kernel) (by decide +kernel)
theorem fc_Heap_9 {y : MethodName} (hy : y.cls = R_Heap) (hi : y.name = "<init>") : FP y 9 0 0 (.array .int) := ⟨R_Heap, T_Heap, 7, ty_Heap, rfl, uw_Heap, by decide, tk_Heap, nm_Heap, rfl, Or.inl ⟨by rw [hy]; exact gf_Heap_9, Or.inr ⟨rfl, hi, hy.symm⟩⟩⟩
theorem fc_Heap_15 {y : MethodName} (hy : y.cls = R_Heap) (hi : y.name = "<init>") : FP y 15 0 1 (.array .int) := ⟨R_Heap, T_Heap, 7, ty_Heap, rfl, uw_Heap, by decide, tk_Heap, nm_Heap, rfl, Or.inl ⟨by rw [hy]; exact gf_Heap_15, Or.inr ⟨rfl, hi, hy.symm⟩⟩⟩
theorem fc_Heap_18 {y : MethodName} (hy : y.cls = R_Heap) (hi : y.name = "<init>") : FP y 18 0 2 (.array .int) := ⟨R_Heap, T_Heap, 7, ty_Heap, rfl, uw_Heap, by decide, tk_Heap, nm_Heap, rfl, Or.inl ⟨by rw [hy]; exact gf_Heap_18, Or.inr ⟨rfl, hi, hy.symm⟩⟩⟩
theorem fc_Heap_21 {y : MethodName} (hy : y.cls = R_Heap) (hi : y.name = "<init>") : FP y 21 0 3 (.array .int) := ⟨R_Heap, T_Heap, 7, ty_Heap, rfl, uw_Heap, by decide, tk_Heap, nm_Heap, rfl, Or.inl ⟨by rw [hy]; exact gf_Heap_21, Or.inr ⟨rfl, hi, hy.symm⟩⟩⟩
theorem fc_Heap_24 {y : MethodName} (hy : y.cls = R_Heap) (hi : y.name = "<init>") : FP y 24 0 4 .long := ⟨R_Heap, T_Heap, 7, ty_Heap, rfl, uw_Heap, by decide, tk_Heap, nm_Heap, rfl, Or.inl ⟨by rw [hy]; exact gf_Heap_24, Or.inl rfl⟩⟩
theorem fc_Heap_28 {y : MethodName} (hy : y.cls = R_Heap) (hi : y.name = "<init>") : FP y 28 0 5 .int := ⟨R_Heap, T_Heap, 7, ty_Heap, rfl, uw_Heap, by decide, tk_Heap, nm_Heap, rfl, Or.inl ⟨by rw [hy]; exact gf_Heap_28, Or.inl rfl⟩⟩
theorem fc_Heap_32 {y : MethodName} (hy : y.cls = R_Heap) (hi : y.name = "<init>") : FP y 32 0 6 .int := ⟨R_Heap, T_Heap, 7, ty_Heap, rfl, uw_Heap, by decide, tk_Heap, nm_Heap, rfl, Or.inl ⟨by rw [hy]; exact gf_Heap_32, Or.inl rfl⟩⟩
theorem lk_Ten_3 : gin (.methodLink R_Ten 3 Lib.objectInit) := gin_of 108 (by decide +kernel) (by decide +kernel)
theorem cl_Ten_9 : gin (.classLink R_Ten 9 R_Heap) := gin_of 109 (by decide +kernel) (by decide +kernel)
theorem it_Heap : gin (.instantiable R_Heap 7) := gin_of 110 (by decide +kernel) (by decide +kernel)
theorem nw_Ten_9 : gin (.classLink R_Ten 9 R_Heap) ∧ gin (.instantiable R_Heap 7) ∧ gin (.initialized R_Heap) := ⟨cl_Ten_9, it_Heap, ini_Heap⟩
theorem lk_Ten_11 : gin (.methodLink R_Ten 11 y_Heap_init) := gin_of 111 (by decide +kernel) (by decide +kernel)
set_option maxRecDepth 40000 in
theorem cz_Heap_init : CZ mt_Heap_init 0 := ⟨⟨List.mem_of_getElem? (i := 113) rfl, by decide +kernel⟩, ini_Heap, ⟨by decide, by decide⟩, by decide +kernel⟩
theorem im_Heap_init : gin (.instanceMethod y_Heap_init) := gin_of 112 (by decide +kernel) (by decide +kernel)
theorem fc_Ten_12 {y : MethodName} (hy : y.cls = R_Ten) (hi : y.name = "<init>") : FP y 12 4 0 (.object "TenantHost$Heap") := ⟨R_Ten, T_Ten, 13, ty_Ten, rfl, uw_Ten, by decide, tk_Ten, nm_Ten, rfl, Or.inl ⟨by rw [hy]; exact gf_Ten_12, Or.inr ⟨rfl, hi, hy.symm⟩⟩⟩
theorem cl_Ten_18 : gin (.classLink R_Ten 18 R_Stk) := gin_of 144 (by decide +kernel) (by decide +kernel)
theorem it_Stk : gin (.instantiable R_Stk 3) := gin_of 145 (by decide +kernel) (by decide +kernel)
theorem nw_Ten_18 : gin (.classLink R_Ten 18 R_Stk) ∧ gin (.instantiable R_Stk 3) ∧ gin (.initialized R_Stk) := ⟨cl_Ten_18, it_Stk, ini_Stk⟩
theorem ln_Ten_20 : nin (.methodLinkNest R_Ten 20 y_Stk_init "TenantHost") := ⟨List.mem_of_getElem? (i := 146) (by decide +kernel), rfl⟩
set_option maxRecDepth 40000 in
theorem cz_Stk_init : CZ mt_Stk_init 0 := ⟨⟨List.mem_of_getElem? (i := 148) rfl, by decide +kernel⟩, ini_Stk, ⟨by decide, by decide⟩, by decide +kernel⟩
theorem im_Stk_init : gin (.instanceMethod y_Stk_init) := gin_of 147 (by decide +kernel) (by decide +kernel)
theorem fc_Ten_21 {y : MethodName} (hy : y.cls = R_Ten) (hi : y.name = "<init>") : FP y 21 4 1 (.object "TenantHost$Stack") := ⟨R_Ten, T_Ten, 13, ty_Ten, rfl, uw_Ten, by decide, tk_Ten, nm_Ten, rfl, Or.inl ⟨by rw [hy]; exact gf_Ten_21, Or.inr ⟨rfl, hi, hy.symm⟩⟩⟩
theorem fc_Ten_25 {y : MethodName} (hy : y.cls = R_Ten) (hi : y.name = "<init>") : FP y 25 4 2 (.array .int) := ⟨R_Ten, T_Ten, 13, ty_Ten, rfl, uw_Ten, by decide, tk_Ten, nm_Ten, rfl, Or.inl ⟨by rw [hy]; exact gf_Ten_25, Or.inr ⟨rfl, hi, hy.symm⟩⟩⟩
theorem cl_Ten_29 : gin (.classLink R_Ten 29 R_Line) := gin_of 161 (by decide +kernel) (by decide +kernel)
theorem it_Line : gin (.instantiable R_Line 2) := gin_of 162 (by decide +kernel) (by decide +kernel)
theorem nw_Ten_29 : gin (.classLink R_Ten 29 R_Line) ∧ gin (.instantiable R_Line 2) ∧ gin (.initialized R_Line) := ⟨cl_Ten_29, it_Line, ini_Line⟩
theorem lk_Ten_31 : gin (.methodLink R_Ten 31 y_Line_init) := gin_of 163 (by decide +kernel) (by decide +kernel)
set_option maxRecDepth 40000 in
theorem cz_Line_init : CZ mt_Line_init 1 := ⟨⟨List.mem_of_getElem? (i := 165) rfl, by decide +kernel⟩, ini_Line, ⟨by decide, by decide⟩, by decide +kernel⟩
theorem im_Line_init : gin (.instanceMethod y_Line_init) := gin_of 164 (by decide +kernel) (by decide +kernel)
theorem fc_Ten_34 {y : MethodName} (hy : y.cls = R_Ten) (hi : y.name = "<init>") : FP y 34 4 3 (.object "TenantHost$Line") := ⟨R_Ten, T_Ten, 13, ty_Ten, rfl, uw_Ten, by decide, tk_Ten, nm_Ten, rfl, Or.inl ⟨by rw [hy]; exact gf_Ten_34, Or.inr ⟨rfl, hi, hy.symm⟩⟩⟩
theorem gf_Ten_38 : gin (.fieldLink R_Ten 38 R_Ten "inputs" "LTenantHost$Line;") := gin_of 184 (by decide +kernel) (by decide +kernel)
theorem fc_Ten_38 {y : MethodName} (hy : y.cls = R_Ten) (hi : y.name = "<init>") : FP y 38 4 4 (.object "TenantHost$Line") := ⟨R_Ten, T_Ten, 13, ty_Ten, rfl, uw_Ten, by decide, tk_Ten, nm_Ten, rfl, Or.inl ⟨by rw [hy]; exact gf_Ten_38, Or.inr ⟨rfl, hi, hy.symm⟩⟩⟩
theorem gf_Ten_41 : gin (.fieldLink R_Ten 41 R_Ten "outputs" "LTenantHost$Line;") := gin_of 186 (by decide +kernel) (by decide +kernel)
theorem fc_Ten_41 {y : MethodName} (hy : y.cls = R_Ten) (hi : y.name = "<init>") : FP y 41 4 5 (.object "TenantHost$Line") := ⟨R_Ten, T_Ten, 13, ty_Ten, rfl, uw_Ten, by decide, tk_Ten, nm_Ten, rfl, Or.inl ⟨by rw [hy]; exact gf_Ten_41, Or.inr ⟨rfl, hi, hy.symm⟩⟩⟩
theorem fc_Ten_44 {y : MethodName} (hy : y.cls = R_Ten) (hi : y.name = "<init>") : FP y 44 4 6 (.array .int) := ⟨R_Ten, T_Ten, 13, ty_Ten, rfl, uw_Ten, by decide, tk_Ten, nm_Ten, rfl, Or.inl ⟨by rw [hy]; exact gf_Ten_44, Or.inr ⟨rfl, hi, hy.symm⟩⟩⟩
theorem fc_Ten_47 {y : MethodName} (hy : y.cls = R_Ten) (hi : y.name = "<init>") : FP y 47 4 7 .int := ⟨R_Ten, T_Ten, 13, ty_Ten, rfl, uw_Ten, by decide, tk_Ten, nm_Ten, rfl, Or.inl ⟨by rw [hy]; exact gf_Ten_47, Or.inl rfl⟩⟩
theorem gf_Ten_51 : gin (.fieldLink R_Ten 51 R_Ten "program" "I") := gin_of 192 (by decide +kernel) (by decide +kernel)
theorem fc_Ten_51 {y : MethodName} (hy : y.cls = R_Ten) (hi : y.name = "<init>") : FP y 51 4 8 .int := ⟨R_Ten, T_Ten, 13, ty_Ten, rfl, uw_Ten, by decide, tk_Ten, nm_Ten, rfl, Or.inl ⟨by rw [hy]; exact gf_Ten_51, Or.inl rfl⟩⟩
theorem gf_Ten_54 : gin (.fieldLink R_Ten 54 R_Ten "position" "I") := gin_of 194 (by decide +kernel) (by decide +kernel)
theorem fc_Ten_54 {y : MethodName} (hy : y.cls = R_Ten) (hi : y.name = "<init>") : FP y 54 4 9 .int := ⟨R_Ten, T_Ten, 13, ty_Ten, rfl, uw_Ten, by decide, tk_Ten, nm_Ten, rfl, Or.inl ⟨by rw [hy]; exact gf_Ten_54, Or.inl rfl⟩⟩
theorem fc_Ten_57 {y : MethodName} (hy : y.cls = R_Ten) (hi : y.name = "<init>") : FP y 57 4 10 .int := ⟨R_Ten, T_Ten, 13, ty_Ten, rfl, uw_Ten, by decide, tk_Ten, nm_Ten, rfl, Or.inl ⟨by rw [hy]; exact gf_Ten_57, Or.inl rfl⟩⟩
theorem gf_Ten_60 : gin (.fieldLink R_Ten 60 R_Ten "stepsDone" "I") := gin_of 198 (by decide +kernel) (by decide +kernel)
theorem fc_Ten_60 {y : MethodName} (hy : y.cls = R_Ten) (hi : y.name = "<init>") : FP y 60 4 11 .int := ⟨R_Ten, T_Ten, 13, ty_Ten, rfl, uw_Ten, by decide, tk_Ten, nm_Ten, rfl, Or.inl ⟨by rw [hy]; exact gf_Ten_60, Or.inl rfl⟩⟩
theorem gf_Ten_63 : gin (.fieldLink R_Ten 63 R_Ten "endSlice" "I") := gin_of 200 (by decide +kernel) (by decide +kernel)
theorem fc_Ten_63 {y : MethodName} (hy : y.cls = R_Ten) (hi : y.name = "<init>") : FP y 63 4 12 .int := ⟨R_Ten, T_Ten, 13, ty_Ten, rfl, uw_Ten, by decide, tk_Ten, nm_Ten, rfl, Or.inl ⟨by rw [hy]; exact gf_Ten_63, Or.inl rfl⟩⟩
theorem lk_Host_3 : gin (.methodLink R_Host 3 Lib.objectInit) := gin_of 62 (by decide +kernel) (by decide +kernel)
theorem cl_Host_9 : gin (.classLink R_Host 9 R_Prog) := gin_of 65 (by decide +kernel) (by decide +kernel)
theorem ao_Prog : nin (.arrayOver (.object R_Prog)) := ⟨List.mem_of_getElem? (i := 66) (by decide +kernel), rfl⟩
theorem fc_Host_11 {y : MethodName} (hy : y.cls = R_Host) (hi : y.name = "<init>") : FP y 11 5 1 (.array (.object "TenantHost$Program")) := ⟨R_Host, T_Host, 5, ty_Host, rfl, uw_Host, by decide, tk_Host, nm_Host, rfl, Or.inl ⟨by rw [hy]; exact gf_Host_11, Or.inr ⟨rfl, hi, hy.symm⟩⟩⟩
theorem cl_Host_15 : gin (.classLink R_Host 15 R_Ten) := gin_of 67 (by decide +kernel) (by decide +kernel)
theorem ao_Ten : nin (.arrayOver (.object R_Ten)) := ⟨List.mem_of_getElem? (i := 68) (by decide +kernel), rfl⟩
theorem fc_Host_17 {y : MethodName} (hy : y.cls = R_Host) (hi : y.name = "<init>") : FP y 17 5 2 (.array (.object "TenantHost$Tenant")) := ⟨R_Host, T_Host, 5, ty_Host, rfl, uw_Host, by decide, tk_Host, nm_Host, rfl, Or.inl ⟨by rw [hy]; exact gf_Host_17, Or.inr ⟨rfl, hi, hy.symm⟩⟩⟩
theorem fc_Host_21 {y : MethodName} (hy : y.cls = R_Host) (hi : y.name = "<init>") : FP y 21 5 3 .int := ⟨R_Host, T_Host, 5, ty_Host, rfl, uw_Host, by decide, tk_Host, nm_Host, rfl, Or.inl ⟨by rw [hy]; exact gf_Host_21, Or.inl rfl⟩⟩
theorem fc_Host_25 {y : MethodName} (hy : y.cls = R_Host) (hi : y.name = "<init>") : FP y 25 5 4 .int := ⟨R_Host, T_Host, 5, ty_Host, rfl, uw_Host, by decide, tk_Host, nm_Host, rfl, Or.inl ⟨by rw [hy]; exact gf_Host_25, Or.inl rfl⟩⟩
theorem lk_Host_28 : gin (.methodLink R_Host 28 Lib.Math.min.name) := gin_of 69 (by decide +kernel) (by decide +kernel)
theorem sm_Mmin : gin (.static Lib.Math.min.name) := gin_of 70 (by decide +kernel) (by decide +kernel)
set_option maxRecDepth 40000 in
theorem co_Mmin : gin (.code Lib.Math.min.name Lib.Math.min.code 2 (some .int)) := ⟨List.mem_of_getElem? (i := 71) rfl, by decide +kernel⟩
theorem mw_Host_28 : gin (.methodLink R_Host 28 Lib.Math.min.name) ∧ gin (.static Lib.Math.min.name) ∧ gin (.initialized "java/lang/Math") ∧ gin (.code Lib.Math.min.name Lib.Math.min.code 2 (some .int)) := ⟨lk_Host_28, sm_Mmin, ini_JMs, co_Mmin⟩
theorem lk_Host_34 : gin (.methodLink R_Host 34 Lib.Math.max.name) := gin_of 72 (by decide +kernel) (by decide +kernel)
theorem mw_Host_34 : gin (.methodLink R_Host 34 Lib.Math.max.name) ∧ gin (.static Lib.Math.max.name) ∧ gin (.initialized "java/lang/Math") ∧ gin (.code Lib.Math.max.name Lib.Math.max.code 2 (some .int)) := ⟨lk_Host_34, sm_Mmax, ini_JMs, co_Mmax⟩
theorem fc_Host_37 {y : MethodName} (hy : y.cls = R_Host) (hi : y.name = "<init>") : FP y 37 5 0 .int := ⟨R_Host, T_Host, 5, ty_Host, rfl, uw_Host, by decide, tk_Host, nm_Host, rfl, Or.inl ⟨by rw [hy]; exact gf_Host_37, Or.inr ⟨rfl, hi, hy.symm⟩⟩⟩
theorem it_Prog : gin (.instantiable R_Prog 7) := gin_of 75 (by decide +kernel) (by decide +kernel)
theorem nw_Host_9 : gin (.classLink R_Host 9 R_Prog) ∧ gin (.instantiable R_Prog 7) ∧ gin (.initialized R_Prog) := ⟨cl_Host_9, it_Prog, ini_Prog⟩
theorem ln_Host_40 : nin (.methodLinkNest R_Host 40 y_Prog_init "TenantHost") := ⟨List.mem_of_getElem? (i := 76) (by decide +kernel), rfl⟩
set_option maxRecDepth 40000 in
theorem cz_Prog_init : CZ mt_Prog_init 0 := ⟨⟨List.mem_of_getElem? (i := 78) rfl, by decide +kernel⟩, ini_Prog, ⟨by decide, by decide⟩, by decide +kernel⟩
theorem im_Prog_init : gin (.instanceMethod y_Prog_init) := gin_of 77 (by decide +kernel) (by decide +kernel)
theorem it_Ten : gin (.instantiable R_Ten 13) := gin_of 104 (by decide +kernel) (by decide +kernel)
theorem nw_Host_15 : gin (.classLink R_Host 15 R_Ten) ∧ gin (.instantiable R_Ten 13) ∧ gin (.initialized R_Ten) := ⟨cl_Host_15, it_Ten, ini_Ten⟩
theorem ln_Host_41 : nin (.methodLinkNest R_Host 41 y_Ten_init "TenantHost") := ⟨List.mem_of_getElem? (i := 105) (by decide +kernel), rfl⟩
set_option maxRecDepth 40000 in
theorem cz_Ten_init : CZ mt_Ten_init 0 := ⟨⟨List.mem_of_getElem? (i := 107) rfl, by decide +kernel⟩, ini_Ten, ⟨by decide, by decide⟩, by decide +kernel⟩
theorem im_Ten_init : gin (.instanceMethod y_Ten_init) := gin_of 106 (by decide +kernel) (by decide +kernel)
theorem lk_Mod_1 : gin (.methodLink R_Mod 1 Lib.objectInit) := gin_of 617 (by decide +kernel) (by decide +kernel)
theorem fc_Mod_7 {y : MethodName} (hy : y.cls = R_Mod) (hi : y.name = "<init>") : FP y 7 6 1 (.array .int) := ⟨R_Mod, T_Mod, 33, ty_Mod, rfl, uw_Mod, by decide, tk_Mod, nm_Mod, rfl, Or.inl ⟨by rw [hy]; exact gf_Mod_7, Or.inl rfl⟩⟩
theorem fc_Mod_13 {y : MethodName} (hy : y.cls = R_Mod) (hi : y.name = "<init>") : FP y 13 6 2 (.array .int) := ⟨R_Mod, T_Mod, 33, ty_Mod, rfl, uw_Mod, by decide, tk_Mod, nm_Mod, rfl, Or.inl ⟨by rw [hy]; exact gf_Mod_13, Or.inl rfl⟩⟩
theorem fc_Mod_16 {y : MethodName} (hy : y.cls = R_Mod) (hi : y.name = "<init>") : FP y 16 6 3 (.array .int) := ⟨R_Mod, T_Mod, 33, ty_Mod, rfl, uw_Mod, by decide, tk_Mod, nm_Mod, rfl, Or.inl ⟨by rw [hy]; exact gf_Mod_16, Or.inl rfl⟩⟩
theorem fc_Mod_19 {y : MethodName} (hy : y.cls = R_Mod) (hi : y.name = "<init>") : FP y 19 6 4 (.array .int) := ⟨R_Mod, T_Mod, 33, ty_Mod, rfl, uw_Mod, by decide, tk_Mod, nm_Mod, rfl, Or.inl ⟨by rw [hy]; exact gf_Mod_19, Or.inl rfl⟩⟩
theorem fc_Mod_22 {y : MethodName} (hy : y.cls = R_Mod) (hi : y.name = "<init>") : FP y 22 6 5 (.array .boolean) := ⟨R_Mod, T_Mod, 33, ty_Mod, rfl, uw_Mod, by decide, tk_Mod, nm_Mod, rfl, Or.inl ⟨by rw [hy]; exact gf_Mod_22, Or.inl rfl⟩⟩
theorem fc_Mod_26 {y : MethodName} (hy : y.cls = R_Mod) (hi : y.name = "<init>") : FP y 26 6 6 (.array .boolean) := ⟨R_Mod, T_Mod, 33, ty_Mod, rfl, uw_Mod, by decide, tk_Mod, nm_Mod, rfl, Or.inl ⟨by rw [hy]; exact gf_Mod_26, Or.inl rfl⟩⟩
theorem fc_Mod_29 {y : MethodName} (hy : y.cls = R_Mod) (hi : y.name = "<init>") : FP y 29 6 7 (.array .int) := ⟨R_Mod, T_Mod, 33, ty_Mod, rfl, uw_Mod, by decide, tk_Mod, nm_Mod, rfl, Or.inl ⟨by rw [hy]; exact gf_Mod_29, Or.inl rfl⟩⟩
theorem fc_Mod_32 {y : MethodName} (hy : y.cls = R_Mod) (hi : y.name = "<init>") : FP y 32 6 8 (.array .int) := ⟨R_Mod, T_Mod, 33, ty_Mod, rfl, uw_Mod, by decide, tk_Mod, nm_Mod, rfl, Or.inl ⟨by rw [hy]; exact gf_Mod_32, Or.inl rfl⟩⟩
theorem fc_Mod_35 {y : MethodName} (hy : y.cls = R_Mod) (hi : y.name = "<init>") : FP y 35 6 9 (.array .int) := ⟨R_Mod, T_Mod, 33, ty_Mod, rfl, uw_Mod, by decide, tk_Mod, nm_Mod, rfl, Or.inl ⟨by rw [hy]; exact gf_Mod_35, Or.inl rfl⟩⟩
theorem fc_Mod_38 {y : MethodName} (hy : y.cls = R_Mod) (hi : y.name = "<init>") : FP y 38 6 11 (.array .boolean) := ⟨R_Mod, T_Mod, 33, ty_Mod, rfl, uw_Mod, by decide, tk_Mod, nm_Mod, rfl, Or.inl ⟨by rw [hy]; exact gf_Mod_38, Or.inl rfl⟩⟩
theorem fc_Mod_41 {y : MethodName} (hy : y.cls = R_Mod) (hi : y.name = "<init>") : FP y 41 6 12 (.array .boolean) := ⟨R_Mod, T_Mod, 33, ty_Mod, rfl, uw_Mod, by decide, tk_Mod, nm_Mod, rfl, Or.inl ⟨by rw [hy]; exact gf_Mod_41, Or.inl rfl⟩⟩
theorem fc_Mod_44 {y : MethodName} (hy : y.cls = R_Mod) (hi : y.name = "<init>") : FP y 44 6 13 (.array .int) := ⟨R_Mod, T_Mod, 33, ty_Mod, rfl, uw_Mod, by decide, tk_Mod, nm_Mod, rfl, Or.inl ⟨by rw [hy]; exact gf_Mod_44, Or.inl rfl⟩⟩
theorem fc_Mod_47 {y : MethodName} (hy : y.cls = R_Mod) (hi : y.name = "<init>") : FP y 47 6 14 (.array .int) := ⟨R_Mod, T_Mod, 33, ty_Mod, rfl, uw_Mod, by decide, tk_Mod, nm_Mod, rfl, Or.inl ⟨by rw [hy]; exact gf_Mod_47, Or.inl rfl⟩⟩
theorem fc_Mod_50 {y : MethodName} (hy : y.cls = R_Mod) (hi : y.name = "<init>") : FP y 50 6 15 (.array .int) := ⟨R_Mod, T_Mod, 33, ty_Mod, rfl, uw_Mod, by decide, tk_Mod, nm_Mod, rfl, Or.inl ⟨by rw [hy]; exact gf_Mod_50, Or.inl rfl⟩⟩
theorem fc_Mod_53 {y : MethodName} (hy : y.cls = R_Mod) (hi : y.name = "<init>") : FP y 53 6 16 (.array .int) := ⟨R_Mod, T_Mod, 33, ty_Mod, rfl, uw_Mod, by decide, tk_Mod, nm_Mod, rfl, Or.inl ⟨by rw [hy]; exact gf_Mod_53, Or.inl rfl⟩⟩
theorem fc_Mod_56 {y : MethodName} (hy : y.cls = R_Mod) (hi : y.name = "<init>") : FP y 56 6 17 (.array .int) := ⟨R_Mod, T_Mod, 33, ty_Mod, rfl, uw_Mod, by decide, tk_Mod, nm_Mod, rfl, Or.inl ⟨by rw [hy]; exact gf_Mod_56, Or.inl rfl⟩⟩
theorem fc_Mod_59 {y : MethodName} (hy : y.cls = R_Mod) (hi : y.name = "<init>") : FP y 59 6 18 (.array .int) := ⟨R_Mod, T_Mod, 33, ty_Mod, rfl, uw_Mod, by decide, tk_Mod, nm_Mod, rfl, Or.inl ⟨by rw [hy]; exact gf_Mod_59, Or.inl rfl⟩⟩
theorem fc_Mod_62 {y : MethodName} (hy : y.cls = R_Mod) (hi : y.name = "<init>") : FP y 62 6 19 (.array .int) := ⟨R_Mod, T_Mod, 33, ty_Mod, rfl, uw_Mod, by decide, tk_Mod, nm_Mod, rfl, Or.inl ⟨by rw [hy]; exact gf_Mod_62, Or.inl rfl⟩⟩
theorem fc_Mod_65 {y : MethodName} (hy : y.cls = R_Mod) (hi : y.name = "<init>") : FP y 65 6 20 (.array .int) := ⟨R_Mod, T_Mod, 33, ty_Mod, rfl, uw_Mod, by decide, tk_Mod, nm_Mod, rfl, Or.inl ⟨by rw [hy]; exact gf_Mod_65, Or.inl rfl⟩⟩
theorem fc_Mod_68 {y : MethodName} (hy : y.cls = R_Mod) (hi : y.name = "<init>") : FP y 68 6 21 (.array .int) := ⟨R_Mod, T_Mod, 33, ty_Mod, rfl, uw_Mod, by decide, tk_Mod, nm_Mod, rfl, Or.inl ⟨by rw [hy]; exact gf_Mod_68, Or.inl rfl⟩⟩
theorem fc_Mod_71 {y : MethodName} (hy : y.cls = R_Mod) (hi : y.name = "<init>") : FP y 71 6 22 (.array .int) := ⟨R_Mod, T_Mod, 33, ty_Mod, rfl, uw_Mod, by decide, tk_Mod, nm_Mod, rfl, Or.inl ⟨by rw [hy]; exact gf_Mod_71, Or.inl rfl⟩⟩
theorem fc_Mod_74 {y : MethodName} (hy : y.cls = R_Mod) (hi : y.name = "<init>") : FP y 74 6 23 (.array .int) := ⟨R_Mod, T_Mod, 33, ty_Mod, rfl, uw_Mod, by decide, tk_Mod, nm_Mod, rfl, Or.inl ⟨by rw [hy]; exact gf_Mod_74, Or.inl rfl⟩⟩
theorem fc_Mod_77 {y : MethodName} (hy : y.cls = R_Mod) (hi : y.name = "<init>") : FP y 77 6 24 (.array .int) := ⟨R_Mod, T_Mod, 33, ty_Mod, rfl, uw_Mod, by decide, tk_Mod, nm_Mod, rfl, Or.inl ⟨by rw [hy]; exact gf_Mod_77, Or.inl rfl⟩⟩
theorem fc_Mod_80 {y : MethodName} (hy : y.cls = R_Mod) (hi : y.name = "<init>") : FP y 80 6 25 (.array .int) := ⟨R_Mod, T_Mod, 33, ty_Mod, rfl, uw_Mod, by decide, tk_Mod, nm_Mod, rfl, Or.inl ⟨by rw [hy]; exact gf_Mod_80, Or.inl rfl⟩⟩
theorem fc_Mod_83 {y : MethodName} (hy : y.cls = R_Mod) (hi : y.name = "<init>") : FP y 83 6 26 (.array .int) := ⟨R_Mod, T_Mod, 33, ty_Mod, rfl, uw_Mod, by decide, tk_Mod, nm_Mod, rfl, Or.inl ⟨by rw [hy]; exact gf_Mod_83, Or.inl rfl⟩⟩
theorem fc_Mod_86 {y : MethodName} (hy : y.cls = R_Mod) (hi : y.name = "<init>") : FP y 86 6 27 (.array .int) := ⟨R_Mod, T_Mod, 33, ty_Mod, rfl, uw_Mod, by decide, tk_Mod, nm_Mod, rfl, Or.inl ⟨by rw [hy]; exact gf_Mod_86, Or.inl rfl⟩⟩
theorem fc_Mod_89 {y : MethodName} (hy : y.cls = R_Mod) (hi : y.name = "<init>") : FP y 89 6 28 (.array .int) := ⟨R_Mod, T_Mod, 33, ty_Mod, rfl, uw_Mod, by decide, tk_Mod, nm_Mod, rfl, Or.inl ⟨by rw [hy]; exact gf_Mod_89, Or.inl rfl⟩⟩
theorem fc_Mod_92 {y : MethodName} (hy : y.cls = R_Mod) (hi : y.name = "<init>") : FP y 92 6 29 (.array .int) := ⟨R_Mod, T_Mod, 33, ty_Mod, rfl, uw_Mod, by decide, tk_Mod, nm_Mod, rfl, Or.inl ⟨by rw [hy]; exact gf_Mod_92, Or.inl rfl⟩⟩
theorem fc_Mod_95 {y : MethodName} (hy : y.cls = R_Mod) (hi : y.name = "<init>") : FP y 95 6 30 (.array .int) := ⟨R_Mod, T_Mod, 33, ty_Mod, rfl, uw_Mod, by decide, tk_Mod, nm_Mod, rfl, Or.inl ⟨by rw [hy]; exact gf_Mod_95, Or.inl rfl⟩⟩
theorem fc_Mod_98 {y : MethodName} (hy : y.cls = R_Mod) (hi : y.name = "<init>") : FP y 98 6 31 (.array .int) := ⟨R_Mod, T_Mod, 33, ty_Mod, rfl, uw_Mod, by decide, tk_Mod, nm_Mod, rfl, Or.inl ⟨by rw [hy]; exact gf_Mod_98, Or.inl rfl⟩⟩
theorem fc_Mod_101 {y : MethodName} (hy : y.cls = R_Mod) (hi : y.name = "<init>") : FP y 101 6 0 .int := ⟨R_Mod, T_Mod, 33, ty_Mod, rfl, uw_Mod, by decide, tk_Mod, nm_Mod, rfl, Or.inl ⟨by rw [hy]; exact gf_Mod_101, Or.inr ⟨rfl, hi, hy.symm⟩⟩⟩
theorem d_Prog_init_0 : decode prog_5_method_1_code 0 = .ok (.aload_n 0, 1) := by decide +kernel
theorem d_Prog_init_1 : decode prog_5_method_1_code 1 = .ok (.invokespecial 3, 3) := by decide +kernel
theorem d_Prog_init_4 : decode prog_5_method_1_code 4 = .ok (.aload_n 0, 1) := by decide +kernel
theorem d_Prog_init_5 : decode prog_5_method_1_code 5 = .ok (.bipush 24, 2) := by decide +kernel
theorem d_Prog_init_7 : decode prog_5_method_1_code 7 = .ok (.newarray .int, 2) := by decide +kernel
theorem d_Prog_init_9 : decode prog_5_method_1_code 9 = .ok (.putfield 9, 3) := by decide +kernel
theorem d_Prog_init_12 : decode prog_5_method_1_code 12 = .ok (.aload_n 0, 1) := by decide +kernel
theorem d_Prog_init_13 : decode prog_5_method_1_code 13 = .ok (.bipush 24, 2) := by decide +kernel
theorem d_Prog_init_15 : decode prog_5_method_1_code 15 = .ok (.newarray .int, 2) := by decide +kernel
theorem d_Prog_init_17 : decode prog_5_method_1_code 17 = .ok (.putfield 15, 3) := by decide +kernel
theorem d_Prog_init_20 : decode prog_5_method_1_code 20 = .ok (.aload_n 0, 1) := by decide +kernel
theorem d_Prog_init_21 : decode prog_5_method_1_code 21 = .ok (.bipush 24, 2) := by decide +kernel
theorem d_Prog_init_23 : decode prog_5_method_1_code 23 = .ok (.newarray .int, 2) := by decide +kernel
theorem d_Prog_init_25 : decode prog_5_method_1_code 25 = .ok (.putfield 18, 3) := by decide +kernel
theorem d_Prog_init_28 : decode prog_5_method_1_code 28 = .ok (.aload_n 0, 1) := by decide +kernel
theorem d_Prog_init_29 : decode prog_5_method_1_code 29 = .ok (.bipush 24, 2) := by decide +kernel
theorem d_Prog_init_31 : decode prog_5_method_1_code 31 = .ok (.newarray .int, 2) := by decide +kernel
theorem d_Prog_init_33 : decode prog_5_method_1_code 33 = .ok (.putfield 21, 3) := by decide +kernel
theorem d_Prog_init_36 : decode prog_5_method_1_code 36 = .ok (.aload_n 0, 1) := by decide +kernel
theorem d_Prog_init_37 : decode prog_5_method_1_code 37 = .ok (.iconst 0, 1) := by decide +kernel
theorem d_Prog_init_38 : decode prog_5_method_1_code 38 = .ok (.putfield 24, 3) := by decide +kernel
theorem d_Prog_init_41 : decode prog_5_method_1_code 41 = .ok (.aload_n 0, 1) := by decide +kernel
theorem d_Prog_init_42 : decode prog_5_method_1_code 42 = .ok (.iconst 0, 1) := by decide +kernel
theorem d_Prog_init_43 : decode prog_5_method_1_code 43 = .ok (.putfield 28, 3) := by decide +kernel
theorem d_Prog_init_46 : decode prog_5_method_1_code 46 = .ok (.aload_n 0, 1) := by decide +kernel
theorem d_Prog_init_47 : decode prog_5_method_1_code 47 = .ok (.iconst 0, 1) := by decide +kernel
theorem d_Prog_init_48 : decode prog_5_method_1_code 48 = .ok (.putfield 31, 3) := by decide +kernel
theorem d_Prog_init_51 : decode prog_5_method_1_code 51 = .ok (.return_, 1) := by decide +kernel
theorem d_Stk_init_0 : decode prog_6_method_1_code 0 = .ok (.aload_n 0, 1) := by decide +kernel
theorem d_Stk_init_1 : decode prog_6_method_1_code 1 = .ok (.invokespecial 3, 3) := by decide +kernel
theorem d_Stk_init_4 : decode prog_6_method_1_code 4 = .ok (.aload_n 0, 1) := by decide +kernel
theorem d_Stk_init_5 : decode prog_6_method_1_code 5 = .ok (.bipush 6, 2) := by decide +kernel
theorem d_Stk_init_7 : decode prog_6_method_1_code 7 = .ok (.newarray .int, 2) := by decide +kernel
theorem d_Stk_init_9 : decode prog_6_method_1_code 9 = .ok (.putfield 9, 3) := by decide +kernel
theorem d_Stk_init_12 : decode prog_6_method_1_code 12 = .ok (.aload_n 0, 1) := by decide +kernel
theorem d_Stk_init_13 : decode prog_6_method_1_code 13 = .ok (.bipush 6, 2) := by decide +kernel
theorem d_Stk_init_15 : decode prog_6_method_1_code 15 = .ok (.newarray .boolean, 2) := by decide +kernel
theorem d_Stk_init_17 : decode prog_6_method_1_code 17 = .ok (.putfield 15, 3) := by decide +kernel
theorem d_Stk_init_20 : decode prog_6_method_1_code 20 = .ok (.aload_n 0, 1) := by decide +kernel
theorem d_Stk_init_21 : decode prog_6_method_1_code 21 = .ok (.iconst 0, 1) := by decide +kernel
theorem d_Stk_init_22 : decode prog_6_method_1_code 22 = .ok (.putfield 19, 3) := by decide +kernel
theorem d_Stk_init_25 : decode prog_6_method_1_code 25 = .ok (.return_, 1) := by decide +kernel
theorem d_Line_init_0 : decode prog_4_method_1_code 0 = .ok (.aload_n 0, 1) := by decide +kernel
theorem d_Line_init_1 : decode prog_4_method_1_code 1 = .ok (.invokespecial 1, 3) := by decide +kernel
theorem d_Line_init_4 : decode prog_4_method_1_code 4 = .ok (.aload_n 0, 1) := by decide +kernel
theorem d_Line_init_5 : decode prog_4_method_1_code 5 = .ok (.iconst 0, 1) := by decide +kernel
theorem d_Line_init_6 : decode prog_4_method_1_code 6 = .ok (.putfield 7, 3) := by decide +kernel
theorem d_Line_init_9 : decode prog_4_method_1_code 9 = .ok (.aload_n 0, 1) := by decide +kernel
theorem d_Line_init_10 : decode prog_4_method_1_code 10 = .ok (.iload_n 1, 1) := by decide +kernel
theorem d_Line_init_11 : decode prog_4_method_1_code 11 = .ok (.newarray .int, 2) := by decide +kernel
theorem d_Line_init_13 : decode prog_4_method_1_code 13 = .ok (.putfield 13, 3) := by decide +kernel
theorem d_Line_init_16 : decode prog_4_method_1_code 16 = .ok (.return_, 1) := by decide +kernel
theorem d_Heap_init_0 : decode prog_2_method_1_code 0 = .ok (.aload_n 0, 1) := by decide +kernel
theorem d_Heap_init_1 : decode prog_2_method_1_code 1 = .ok (.invokespecial 3, 3) := by decide +kernel
theorem d_Heap_init_4 : decode prog_2_method_1_code 4 = .ok (.aload_n 0, 1) := by decide +kernel
theorem d_Heap_init_5 : decode prog_2_method_1_code 5 = .ok (.bipush 33, 2) := by decide +kernel
theorem d_Heap_init_7 : decode prog_2_method_1_code 7 = .ok (.newarray .int, 2) := by decide +kernel
theorem d_Heap_init_9 : decode prog_2_method_1_code 9 = .ok (.putfield 9, 3) := by decide +kernel
theorem d_Heap_init_12 : decode prog_2_method_1_code 12 = .ok (.aload_n 0, 1) := by decide +kernel
theorem d_Heap_init_13 : decode prog_2_method_1_code 13 = .ok (.bipush 33, 2) := by decide +kernel
theorem d_Heap_init_15 : decode prog_2_method_1_code 15 = .ok (.newarray .int, 2) := by decide +kernel
theorem d_Heap_init_17 : decode prog_2_method_1_code 17 = .ok (.putfield 15, 3) := by decide +kernel
theorem d_Heap_init_20 : decode prog_2_method_1_code 20 = .ok (.aload_n 0, 1) := by decide +kernel
theorem d_Heap_init_21 : decode prog_2_method_1_code 21 = .ok (.bipush 33, 2) := by decide +kernel
theorem d_Heap_init_23 : decode prog_2_method_1_code 23 = .ok (.newarray .int, 2) := by decide +kernel
theorem d_Heap_init_25 : decode prog_2_method_1_code 25 = .ok (.putfield 18, 3) := by decide +kernel
theorem d_Heap_init_28 : decode prog_2_method_1_code 28 = .ok (.aload_n 0, 1) := by decide +kernel
theorem d_Heap_init_29 : decode prog_2_method_1_code 29 = .ok (.bipush 33, 2) := by decide +kernel
theorem d_Heap_init_31 : decode prog_2_method_1_code 31 = .ok (.newarray .int, 2) := by decide +kernel
theorem d_Heap_init_33 : decode prog_2_method_1_code 33 = .ok (.putfield 21, 3) := by decide +kernel
theorem d_Heap_init_36 : decode prog_2_method_1_code 36 = .ok (.aload_n 0, 1) := by decide +kernel
theorem d_Heap_init_37 : decode prog_2_method_1_code 37 = .ok (.lconst 0, 1) := by decide +kernel
theorem d_Heap_init_38 : decode prog_2_method_1_code 38 = .ok (.putfield 24, 3) := by decide +kernel
theorem d_Heap_init_41 : decode prog_2_method_1_code 41 = .ok (.aload_n 0, 1) := by decide +kernel
theorem d_Heap_init_42 : decode prog_2_method_1_code 42 = .ok (.iconst 0, 1) := by decide +kernel
theorem d_Heap_init_43 : decode prog_2_method_1_code 43 = .ok (.putfield 28, 3) := by decide +kernel
theorem d_Heap_init_46 : decode prog_2_method_1_code 46 = .ok (.aload_n 0, 1) := by decide +kernel
theorem d_Heap_init_47 : decode prog_2_method_1_code 47 = .ok (.iconst 0, 1) := by decide +kernel
theorem d_Heap_init_48 : decode prog_2_method_1_code 48 = .ok (.putfield 32, 3) := by decide +kernel
theorem d_Heap_init_51 : decode prog_2_method_1_code 51 = .ok (.iconst 0, 1) := by decide +kernel
theorem d_Heap_init_52 : decode prog_2_method_1_code 52 = .ok (.istore_n 1, 1) := by decide +kernel
theorem d_Heap_init_53 : decode prog_2_method_1_code 53 = .ok (.iload_n 1, 1) := by decide +kernel
theorem d_Heap_init_54 : decode prog_2_method_1_code 54 = .ok (.bipush 9, 2) := by decide +kernel
theorem d_Heap_init_56 : decode prog_2_method_1_code 56 = .ok (.if_icmp .ge 16, 3) := by decide +kernel
theorem d_Heap_init_59 : decode prog_2_method_1_code 59 = .ok (.aload_n 0, 1) := by decide +kernel
theorem d_Heap_init_60 : decode prog_2_method_1_code 60 = .ok (.getfield 21, 3) := by decide +kernel
theorem d_Heap_init_63 : decode prog_2_method_1_code 63 = .ok (.iload_n 1, 1) := by decide +kernel
theorem d_Heap_init_64 : decode prog_2_method_1_code 64 = .ok (.iload_n 1, 1) := by decide +kernel
theorem d_Heap_init_65 : decode prog_2_method_1_code 65 = .ok (.iastore, 1) := by decide +kernel
theorem d_Heap_init_66 : decode prog_2_method_1_code 66 = .ok (.iinc 1 1, 3) := by decide +kernel
theorem d_Heap_init_69 : decode prog_2_method_1_code 69 = .ok (.goto (-16), 3) := by decide +kernel
theorem d_Heap_init_72 : decode prog_2_method_1_code 72 = .ok (.return_, 1) := by decide +kernel
theorem d_Ten_init_0 : decode prog_7_method_1_code 0 = .ok (.aload_n 0, 1) := by decide +kernel
theorem d_Ten_init_1 : decode prog_7_method_1_code 1 = .ok (.invokespecial 3, 3) := by decide +kernel
theorem d_Ten_init_4 : decode prog_7_method_1_code 4 = .ok (.aload_n 0, 1) := by decide +kernel
theorem d_Ten_init_5 : decode prog_7_method_1_code 5 = .ok (.new 9, 3) := by decide +kernel
theorem d_Ten_init_8 : decode prog_7_method_1_code 8 = .ok (.dup, 1) := by decide +kernel
theorem d_Ten_init_9 : decode prog_7_method_1_code 9 = .ok (.invokespecial 11, 3) := by decide +kernel
theorem d_Ten_init_12 : decode prog_7_method_1_code 12 = .ok (.putfield 12, 3) := by decide +kernel
theorem d_Ten_init_15 : decode prog_7_method_1_code 15 = .ok (.aload_n 0, 1) := by decide +kernel
theorem d_Ten_init_16 : decode prog_7_method_1_code 16 = .ok (.new 18, 3) := by decide +kernel
theorem d_Ten_init_19 : decode prog_7_method_1_code 19 = .ok (.dup, 1) := by decide +kernel
theorem d_Ten_init_20 : decode prog_7_method_1_code 20 = .ok (.invokespecial 20, 3) := by decide +kernel
theorem d_Ten_init_23 : decode prog_7_method_1_code 23 = .ok (.putfield 21, 3) := by decide +kernel
theorem d_Ten_init_26 : decode prog_7_method_1_code 26 = .ok (.aload_n 0, 1) := by decide +kernel
theorem d_Ten_init_27 : decode prog_7_method_1_code 27 = .ok (.iconst 4, 1) := by decide +kernel
theorem d_Ten_init_28 : decode prog_7_method_1_code 28 = .ok (.newarray .int, 2) := by decide +kernel
theorem d_Ten_init_30 : decode prog_7_method_1_code 30 = .ok (.putfield 25, 3) := by decide +kernel
theorem d_Ten_init_33 : decode prog_7_method_1_code 33 = .ok (.aload_n 0, 1) := by decide +kernel
theorem d_Ten_init_34 : decode prog_7_method_1_code 34 = .ok (.new 29, 3) := by decide +kernel
theorem d_Ten_init_37 : decode prog_7_method_1_code 37 = .ok (.dup, 1) := by decide +kernel
theorem d_Ten_init_38 : decode prog_7_method_1_code 38 = .ok (.iconst 4, 1) := by decide +kernel
theorem d_Ten_init_39 : decode prog_7_method_1_code 39 = .ok (.invokespecial 31, 3) := by decide +kernel
theorem d_Ten_init_42 : decode prog_7_method_1_code 42 = .ok (.putfield 34, 3) := by decide +kernel
theorem d_Ten_init_45 : decode prog_7_method_1_code 45 = .ok (.aload_n 0, 1) := by decide +kernel
theorem d_Ten_init_46 : decode prog_7_method_1_code 46 = .ok (.new 29, 3) := by decide +kernel
theorem d_Ten_init_49 : decode prog_7_method_1_code 49 = .ok (.dup, 1) := by decide +kernel
theorem d_Ten_init_50 : decode prog_7_method_1_code 50 = .ok (.bipush 8, 2) := by decide +kernel
theorem d_Ten_init_52 : decode prog_7_method_1_code 52 = .ok (.invokespecial 31, 3) := by decide +kernel
theorem d_Ten_init_55 : decode prog_7_method_1_code 55 = .ok (.putfield 38, 3) := by decide +kernel
theorem d_Ten_init_58 : decode prog_7_method_1_code 58 = .ok (.aload_n 0, 1) := by decide +kernel
theorem d_Ten_init_59 : decode prog_7_method_1_code 59 = .ok (.new 29, 3) := by decide +kernel
theorem d_Ten_init_62 : decode prog_7_method_1_code 62 = .ok (.dup, 1) := by decide +kernel
theorem d_Ten_init_63 : decode prog_7_method_1_code 63 = .ok (.bipush 16, 2) := by decide +kernel
theorem d_Ten_init_65 : decode prog_7_method_1_code 65 = .ok (.invokespecial 31, 3) := by decide +kernel
theorem d_Ten_init_68 : decode prog_7_method_1_code 68 = .ok (.putfield 41, 3) := by decide +kernel
theorem d_Ten_init_71 : decode prog_7_method_1_code 71 = .ok (.aload_n 0, 1) := by decide +kernel
theorem d_Ten_init_72 : decode prog_7_method_1_code 72 = .ok (.iconst 4, 1) := by decide +kernel
theorem d_Ten_init_73 : decode prog_7_method_1_code 73 = .ok (.newarray .int, 2) := by decide +kernel
theorem d_Ten_init_75 : decode prog_7_method_1_code 75 = .ok (.putfield 44, 3) := by decide +kernel
theorem d_Ten_init_78 : decode prog_7_method_1_code 78 = .ok (.aload_n 0, 1) := by decide +kernel
theorem d_Ten_init_79 : decode prog_7_method_1_code 79 = .ok (.iconst 0, 1) := by decide +kernel
theorem d_Ten_init_80 : decode prog_7_method_1_code 80 = .ok (.putfield 47, 3) := by decide +kernel
theorem d_Ten_init_83 : decode prog_7_method_1_code 83 = .ok (.aload_n 0, 1) := by decide +kernel
theorem d_Ten_init_84 : decode prog_7_method_1_code 84 = .ok (.iconst 0, 1) := by decide +kernel
theorem d_Ten_init_85 : decode prog_7_method_1_code 85 = .ok (.putfield 51, 3) := by decide +kernel
theorem d_Ten_init_88 : decode prog_7_method_1_code 88 = .ok (.aload_n 0, 1) := by decide +kernel
theorem d_Ten_init_89 : decode prog_7_method_1_code 89 = .ok (.iconst 0, 1) := by decide +kernel
theorem d_Ten_init_90 : decode prog_7_method_1_code 90 = .ok (.putfield 54, 3) := by decide +kernel
theorem d_Ten_init_93 : decode prog_7_method_1_code 93 = .ok (.aload_n 0, 1) := by decide +kernel
theorem d_Ten_init_94 : decode prog_7_method_1_code 94 = .ok (.iconst 0, 1) := by decide +kernel
theorem d_Ten_init_95 : decode prog_7_method_1_code 95 = .ok (.putfield 57, 3) := by decide +kernel
theorem d_Ten_init_98 : decode prog_7_method_1_code 98 = .ok (.aload_n 0, 1) := by decide +kernel
theorem d_Ten_init_99 : decode prog_7_method_1_code 99 = .ok (.iconst 0, 1) := by decide +kernel
theorem d_Ten_init_100 : decode prog_7_method_1_code 100 = .ok (.putfield 60, 3) := by decide +kernel
theorem d_Ten_init_103 : decode prog_7_method_1_code 103 = .ok (.aload_n 0, 1) := by decide +kernel
theorem d_Ten_init_104 : decode prog_7_method_1_code 104 = .ok (.iconst (-1), 1) := by decide +kernel
theorem d_Ten_init_105 : decode prog_7_method_1_code 105 = .ok (.putfield 63, 3) := by decide +kernel
theorem d_Ten_init_108 : decode prog_7_method_1_code 108 = .ok (.return_, 1) := by decide +kernel
theorem d_Host_init_0 : decode prog_1_method_1_code 0 = .ok (.aload_n 0, 1) := by decide +kernel
theorem d_Host_init_1 : decode prog_1_method_1_code 1 = .ok (.invokespecial 3, 3) := by decide +kernel
theorem d_Host_init_4 : decode prog_1_method_1_code 4 = .ok (.aload_n 0, 1) := by decide +kernel
theorem d_Host_init_5 : decode prog_1_method_1_code 5 = .ok (.iconst 4, 1) := by decide +kernel
theorem d_Host_init_6 : decode prog_1_method_1_code 6 = .ok (.anewarray 9, 3) := by decide +kernel
theorem d_Host_init_9 : decode prog_1_method_1_code 9 = .ok (.putfield 11, 3) := by decide +kernel
theorem d_Host_init_12 : decode prog_1_method_1_code 12 = .ok (.aload_n 0, 1) := by decide +kernel
theorem d_Host_init_13 : decode prog_1_method_1_code 13 = .ok (.iconst 4, 1) := by decide +kernel
theorem d_Host_init_14 : decode prog_1_method_1_code 14 = .ok (.anewarray 15, 3) := by decide +kernel
theorem d_Host_init_17 : decode prog_1_method_1_code 17 = .ok (.putfield 17, 3) := by decide +kernel
theorem d_Host_init_20 : decode prog_1_method_1_code 20 = .ok (.aload_n 0, 1) := by decide +kernel
theorem d_Host_init_21 : decode prog_1_method_1_code 21 = .ok (.iconst 0, 1) := by decide +kernel
theorem d_Host_init_22 : decode prog_1_method_1_code 22 = .ok (.putfield 21, 3) := by decide +kernel
theorem d_Host_init_25 : decode prog_1_method_1_code 25 = .ok (.aload_n 0, 1) := by decide +kernel
theorem d_Host_init_26 : decode prog_1_method_1_code 26 = .ok (.iconst 0, 1) := by decide +kernel
theorem d_Host_init_27 : decode prog_1_method_1_code 27 = .ok (.putfield 25, 3) := by decide +kernel
theorem d_Host_init_30 : decode prog_1_method_1_code 30 = .ok (.aload_n 0, 1) := by decide +kernel
theorem d_Host_init_31 : decode prog_1_method_1_code 31 = .ok (.iconst 1, 1) := by decide +kernel
theorem d_Host_init_32 : decode prog_1_method_1_code 32 = .ok (.bipush 8, 2) := by decide +kernel
theorem d_Host_init_34 : decode prog_1_method_1_code 34 = .ok (.iload_n 1, 1) := by decide +kernel
theorem d_Host_init_35 : decode prog_1_method_1_code 35 = .ok (.invokestatic 28, 3) := by decide +kernel
theorem d_Host_init_38 : decode prog_1_method_1_code 38 = .ok (.invokestatic 34, 3) := by decide +kernel
theorem d_Host_init_41 : decode prog_1_method_1_code 41 = .ok (.putfield 37, 3) := by decide +kernel
theorem d_Host_init_44 : decode prog_1_method_1_code 44 = .ok (.iconst 0, 1) := by decide +kernel
theorem d_Host_init_45 : decode prog_1_method_1_code 45 = .ok (.istore_n 2, 1) := by decide +kernel
theorem d_Host_init_46 : decode prog_1_method_1_code 46 = .ok (.iload_n 2, 1) := by decide +kernel
theorem d_Host_init_47 : decode prog_1_method_1_code 47 = .ok (.iconst 4, 1) := by decide +kernel
theorem d_Host_init_48 : decode prog_1_method_1_code 48 = .ok (.if_icmp .ge 22, 3) := by decide +kernel
theorem d_Host_init_51 : decode prog_1_method_1_code 51 = .ok (.aload_n 0, 1) := by decide +kernel
theorem d_Host_init_52 : decode prog_1_method_1_code 52 = .ok (.getfield 11, 3) := by decide +kernel
theorem d_Host_init_55 : decode prog_1_method_1_code 55 = .ok (.iload_n 2, 1) := by decide +kernel
theorem d_Host_init_56 : decode prog_1_method_1_code 56 = .ok (.new 9, 3) := by decide +kernel
theorem d_Host_init_59 : decode prog_1_method_1_code 59 = .ok (.dup, 1) := by decide +kernel
theorem d_Host_init_60 : decode prog_1_method_1_code 60 = .ok (.invokespecial 40, 3) := by decide +kernel
theorem d_Host_init_63 : decode prog_1_method_1_code 63 = .ok (.aastore, 1) := by decide +kernel
theorem d_Host_init_64 : decode prog_1_method_1_code 64 = .ok (.iinc 2 1, 3) := by decide +kernel
theorem d_Host_init_67 : decode prog_1_method_1_code 67 = .ok (.goto (-21), 3) := by decide +kernel
theorem d_Host_init_70 : decode prog_1_method_1_code 70 = .ok (.iconst 0, 1) := by decide +kernel
theorem d_Host_init_71 : decode prog_1_method_1_code 71 = .ok (.istore_n 2, 1) := by decide +kernel
theorem d_Host_init_72 : decode prog_1_method_1_code 72 = .ok (.iload_n 2, 1) := by decide +kernel
theorem d_Host_init_73 : decode prog_1_method_1_code 73 = .ok (.iconst 4, 1) := by decide +kernel
theorem d_Host_init_74 : decode prog_1_method_1_code 74 = .ok (.if_icmp .ge 22, 3) := by decide +kernel
theorem d_Host_init_77 : decode prog_1_method_1_code 77 = .ok (.aload_n 0, 1) := by decide +kernel
theorem d_Host_init_78 : decode prog_1_method_1_code 78 = .ok (.getfield 17, 3) := by decide +kernel
theorem d_Host_init_81 : decode prog_1_method_1_code 81 = .ok (.iload_n 2, 1) := by decide +kernel
theorem d_Host_init_82 : decode prog_1_method_1_code 82 = .ok (.new 15, 3) := by decide +kernel
theorem d_Host_init_85 : decode prog_1_method_1_code 85 = .ok (.dup, 1) := by decide +kernel
theorem d_Host_init_86 : decode prog_1_method_1_code 86 = .ok (.invokespecial 41, 3) := by decide +kernel
theorem d_Host_init_89 : decode prog_1_method_1_code 89 = .ok (.aastore, 1) := by decide +kernel
theorem d_Host_init_90 : decode prog_1_method_1_code 90 = .ok (.iinc 2 1, 3) := by decide +kernel
theorem d_Host_init_93 : decode prog_1_method_1_code 93 = .ok (.goto (-21), 3) := by decide +kernel
theorem d_Host_init_96 : decode prog_1_method_1_code 96 = .ok (.return_, 1) := by decide +kernel
theorem d_Mod_init_0 : decode prog_9_method_1_code 0 = .ok (.aload_n 0, 1) := by decide +kernel
theorem d_Mod_init_1 : decode prog_9_method_1_code 1 = .ok (.invokespecial 1, 3) := by decide +kernel
theorem d_Mod_init_4 : decode prog_9_method_1_code 4 = .ok (.aload_n 0, 1) := by decide +kernel
theorem d_Mod_init_5 : decode prog_9_method_1_code 5 = .ok (.bipush 96, 2) := by decide +kernel
theorem d_Mod_init_7 : decode prog_9_method_1_code 7 = .ok (.newarray .int, 2) := by decide +kernel
theorem d_Mod_init_9 : decode prog_9_method_1_code 9 = .ok (.putfield 7, 3) := by decide +kernel
theorem d_Mod_init_12 : decode prog_9_method_1_code 12 = .ok (.aload_n 0, 1) := by decide +kernel
theorem d_Mod_init_13 : decode prog_9_method_1_code 13 = .ok (.bipush 96, 2) := by decide +kernel
theorem d_Mod_init_15 : decode prog_9_method_1_code 15 = .ok (.newarray .int, 2) := by decide +kernel
theorem d_Mod_init_17 : decode prog_9_method_1_code 17 = .ok (.putfield 13, 3) := by decide +kernel
theorem d_Mod_init_20 : decode prog_9_method_1_code 20 = .ok (.aload_n 0, 1) := by decide +kernel
theorem d_Mod_init_21 : decode prog_9_method_1_code 21 = .ok (.bipush 96, 2) := by decide +kernel
theorem d_Mod_init_23 : decode prog_9_method_1_code 23 = .ok (.newarray .int, 2) := by decide +kernel
theorem d_Mod_init_25 : decode prog_9_method_1_code 25 = .ok (.putfield 16, 3) := by decide +kernel
theorem d_Mod_init_28 : decode prog_9_method_1_code 28 = .ok (.aload_n 0, 1) := by decide +kernel
theorem d_Mod_init_29 : decode prog_9_method_1_code 29 = .ok (.iconst 4, 1) := by decide +kernel
theorem d_Mod_init_30 : decode prog_9_method_1_code 30 = .ok (.newarray .int, 2) := by decide +kernel
theorem d_Mod_init_32 : decode prog_9_method_1_code 32 = .ok (.putfield 19, 3) := by decide +kernel
theorem d_Mod_init_35 : decode prog_9_method_1_code 35 = .ok (.aload_n 0, 1) := by decide +kernel
theorem d_Mod_init_36 : decode prog_9_method_1_code 36 = .ok (.iconst 4, 1) := by decide +kernel
theorem d_Mod_init_37 : decode prog_9_method_1_code 37 = .ok (.newarray .boolean, 2) := by decide +kernel
theorem d_Mod_init_39 : decode prog_9_method_1_code 39 = .ok (.putfield 22, 3) := by decide +kernel
theorem d_Mod_init_42 : decode prog_9_method_1_code 42 = .ok (.aload_n 0, 1) := by decide +kernel
theorem d_Mod_init_43 : decode prog_9_method_1_code 43 = .ok (.bipush 104, 2) := by decide +kernel
theorem d_Mod_init_45 : decode prog_9_method_1_code 45 = .ok (.newarray .boolean, 2) := by decide +kernel
theorem d_Mod_init_47 : decode prog_9_method_1_code 47 = .ok (.putfield 26, 3) := by decide +kernel
theorem d_Mod_init_50 : decode prog_9_method_1_code 50 = .ok (.aload_n 0, 1) := by decide +kernel
theorem d_Mod_init_51 : decode prog_9_method_1_code 51 = .ok (.bipush 104, 2) := by decide +kernel
theorem d_Mod_init_53 : decode prog_9_method_1_code 53 = .ok (.newarray .int, 2) := by decide +kernel
theorem d_Mod_init_55 : decode prog_9_method_1_code 55 = .ok (.putfield 29, 3) := by decide +kernel
theorem d_Mod_init_58 : decode prog_9_method_1_code 58 = .ok (.aload_n 0, 1) := by decide +kernel
theorem d_Mod_init_59 : decode prog_9_method_1_code 59 = .ok (.bipush 104, 2) := by decide +kernel
theorem d_Mod_init_61 : decode prog_9_method_1_code 61 = .ok (.newarray .int, 2) := by decide +kernel
theorem d_Mod_init_63 : decode prog_9_method_1_code 63 = .ok (.putfield 32, 3) := by decide +kernel
theorem d_Mod_init_66 : decode prog_9_method_1_code 66 = .ok (.aload_n 0, 1) := by decide +kernel
theorem d_Mod_init_67 : decode prog_9_method_1_code 67 = .ok (.bipush 104, 2) := by decide +kernel
theorem d_Mod_init_69 : decode prog_9_method_1_code 69 = .ok (.newarray .int, 2) := by decide +kernel
theorem d_Mod_init_71 : decode prog_9_method_1_code 71 = .ok (.putfield 35, 3) := by decide +kernel
theorem d_Mod_init_74 : decode prog_9_method_1_code 74 = .ok (.aload_n 0, 1) := by decide +kernel
theorem d_Mod_init_75 : decode prog_9_method_1_code 75 = .ok (.bipush 104, 2) := by decide +kernel
theorem d_Mod_init_77 : decode prog_9_method_1_code 77 = .ok (.newarray .boolean, 2) := by decide +kernel
theorem d_Mod_init_79 : decode prog_9_method_1_code 79 = .ok (.putfield 38, 3) := by decide +kernel
theorem d_Mod_init_82 : decode prog_9_method_1_code 82 = .ok (.aload_n 0, 1) := by decide +kernel
theorem d_Mod_init_83 : decode prog_9_method_1_code 83 = .ok (.bipush 104, 2) := by decide +kernel
theorem d_Mod_init_85 : decode prog_9_method_1_code 85 = .ok (.newarray .boolean, 2) := by decide +kernel
theorem d_Mod_init_87 : decode prog_9_method_1_code 87 = .ok (.putfield 41, 3) := by decide +kernel
theorem d_Mod_init_90 : decode prog_9_method_1_code 90 = .ok (.aload_n 0, 1) := by decide +kernel
theorem d_Mod_init_91 : decode prog_9_method_1_code 91 = .ok (.bipush 104, 2) := by decide +kernel
theorem d_Mod_init_93 : decode prog_9_method_1_code 93 = .ok (.newarray .int, 2) := by decide +kernel
theorem d_Mod_init_95 : decode prog_9_method_1_code 95 = .ok (.putfield 44, 3) := by decide +kernel
theorem d_Mod_init_98 : decode prog_9_method_1_code 98 = .ok (.aload_n 0, 1) := by decide +kernel
theorem d_Mod_init_99 : decode prog_9_method_1_code 99 = .ok (.iconst 4, 1) := by decide +kernel
theorem d_Mod_init_100 : decode prog_9_method_1_code 100 = .ok (.newarray .int, 2) := by decide +kernel
theorem d_Mod_init_102 : decode prog_9_method_1_code 102 = .ok (.putfield 47, 3) := by decide +kernel
theorem d_Mod_init_105 : decode prog_9_method_1_code 105 = .ok (.aload_n 0, 1) := by decide +kernel
theorem d_Mod_init_106 : decode prog_9_method_1_code 106 = .ok (.iconst 4, 1) := by decide +kernel
theorem d_Mod_init_107 : decode prog_9_method_1_code 107 = .ok (.newarray .int, 2) := by decide +kernel
theorem d_Mod_init_109 : decode prog_9_method_1_code 109 = .ok (.putfield 50, 3) := by decide +kernel
theorem d_Mod_init_112 : decode prog_9_method_1_code 112 = .ok (.aload_n 0, 1) := by decide +kernel
theorem d_Mod_init_113 : decode prog_9_method_1_code 113 = .ok (.iconst 4, 1) := by decide +kernel
theorem d_Mod_init_114 : decode prog_9_method_1_code 114 = .ok (.newarray .int, 2) := by decide +kernel
theorem d_Mod_init_116 : decode prog_9_method_1_code 116 = .ok (.putfield 53, 3) := by decide +kernel
theorem d_Mod_init_119 : decode prog_9_method_1_code 119 = .ok (.aload_n 0, 1) := by decide +kernel
theorem d_Mod_init_120 : decode prog_9_method_1_code 120 = .ok (.iconst 4, 1) := by decide +kernel
theorem d_Mod_init_121 : decode prog_9_method_1_code 121 = .ok (.newarray .int, 2) := by decide +kernel
theorem d_Mod_init_123 : decode prog_9_method_1_code 123 = .ok (.putfield 56, 3) := by decide +kernel
theorem d_Mod_init_126 : decode prog_9_method_1_code 126 = .ok (.aload_n 0, 1) := by decide +kernel
theorem d_Mod_init_127 : decode prog_9_method_1_code 127 = .ok (.iconst 4, 1) := by decide +kernel
theorem d_Mod_init_128 : decode prog_9_method_1_code 128 = .ok (.newarray .int, 2) := by decide +kernel
theorem d_Mod_init_130 : decode prog_9_method_1_code 130 = .ok (.putfield 59, 3) := by decide +kernel
theorem d_Mod_init_133 : decode prog_9_method_1_code 133 = .ok (.aload_n 0, 1) := by decide +kernel
theorem d_Mod_init_134 : decode prog_9_method_1_code 134 = .ok (.iconst 4, 1) := by decide +kernel
theorem d_Mod_init_135 : decode prog_9_method_1_code 135 = .ok (.newarray .int, 2) := by decide +kernel
theorem d_Mod_init_137 : decode prog_9_method_1_code 137 = .ok (.putfield 62, 3) := by decide +kernel
theorem d_Mod_init_140 : decode prog_9_method_1_code 140 = .ok (.aload_n 0, 1) := by decide +kernel
theorem d_Mod_init_141 : decode prog_9_method_1_code 141 = .ok (.iconst 4, 1) := by decide +kernel
theorem d_Mod_init_142 : decode prog_9_method_1_code 142 = .ok (.newarray .int, 2) := by decide +kernel
theorem d_Mod_init_144 : decode prog_9_method_1_code 144 = .ok (.putfield 65, 3) := by decide +kernel
theorem d_Mod_init_147 : decode prog_9_method_1_code 147 = .ok (.aload_n 0, 1) := by decide +kernel
theorem d_Mod_init_148 : decode prog_9_method_1_code 148 = .ok (.iconst 4, 1) := by decide +kernel
theorem d_Mod_init_149 : decode prog_9_method_1_code 149 = .ok (.newarray .int, 2) := by decide +kernel
theorem d_Mod_init_151 : decode prog_9_method_1_code 151 = .ok (.putfield 68, 3) := by decide +kernel
theorem d_Mod_init_154 : decode prog_9_method_1_code 154 = .ok (.aload_n 0, 1) := by decide +kernel
theorem d_Mod_init_155 : decode prog_9_method_1_code 155 = .ok (.iconst 4, 1) := by decide +kernel
theorem d_Mod_init_156 : decode prog_9_method_1_code 156 = .ok (.newarray .int, 2) := by decide +kernel
theorem d_Mod_init_158 : decode prog_9_method_1_code 158 = .ok (.putfield 71, 3) := by decide +kernel
theorem d_Mod_init_161 : decode prog_9_method_1_code 161 = .ok (.aload_n 0, 1) := by decide +kernel
theorem d_Mod_init_162 : decode prog_9_method_1_code 162 = .ok (.bipush 24, 2) := by decide +kernel
theorem d_Mod_init_164 : decode prog_9_method_1_code 164 = .ok (.newarray .int, 2) := by decide +kernel
theorem d_Mod_init_166 : decode prog_9_method_1_code 166 = .ok (.putfield 74, 3) := by decide +kernel
theorem d_Mod_init_169 : decode prog_9_method_1_code 169 = .ok (.aload_n 0, 1) := by decide +kernel
theorem d_Mod_init_170 : decode prog_9_method_1_code 170 = .ok (.bipush 16, 2) := by decide +kernel
theorem d_Mod_init_172 : decode prog_9_method_1_code 172 = .ok (.newarray .int, 2) := by decide +kernel
theorem d_Mod_init_174 : decode prog_9_method_1_code 174 = .ok (.putfield 77, 3) := by decide +kernel
theorem d_Mod_init_177 : decode prog_9_method_1_code 177 = .ok (.aload_n 0, 1) := by decide +kernel
theorem d_Mod_init_178 : decode prog_9_method_1_code 178 = .ok (.bipush 16, 2) := by decide +kernel
theorem d_Mod_init_180 : decode prog_9_method_1_code 180 = .ok (.newarray .int, 2) := by decide +kernel
theorem d_Mod_init_182 : decode prog_9_method_1_code 182 = .ok (.putfield 80, 3) := by decide +kernel
theorem d_Mod_init_185 : decode prog_9_method_1_code 185 = .ok (.aload_n 0, 1) := by decide +kernel
theorem d_Mod_init_186 : decode prog_9_method_1_code 186 = .ok (.iconst 4, 1) := by decide +kernel
theorem d_Mod_init_187 : decode prog_9_method_1_code 187 = .ok (.newarray .int, 2) := by decide +kernel
theorem d_Mod_init_189 : decode prog_9_method_1_code 189 = .ok (.putfield 83, 3) := by decide +kernel
theorem d_Mod_init_192 : decode prog_9_method_1_code 192 = .ok (.aload_n 0, 1) := by decide +kernel
theorem d_Mod_init_193 : decode prog_9_method_1_code 193 = .ok (.bipush 32, 2) := by decide +kernel
theorem d_Mod_init_195 : decode prog_9_method_1_code 195 = .ok (.newarray .int, 2) := by decide +kernel
theorem d_Mod_init_197 : decode prog_9_method_1_code 197 = .ok (.putfield 86, 3) := by decide +kernel
theorem d_Mod_init_200 : decode prog_9_method_1_code 200 = .ok (.aload_n 0, 1) := by decide +kernel
theorem d_Mod_init_201 : decode prog_9_method_1_code 201 = .ok (.iconst 4, 1) := by decide +kernel
theorem d_Mod_init_202 : decode prog_9_method_1_code 202 = .ok (.newarray .int, 2) := by decide +kernel
theorem d_Mod_init_204 : decode prog_9_method_1_code 204 = .ok (.putfield 89, 3) := by decide +kernel
theorem d_Mod_init_207 : decode prog_9_method_1_code 207 = .ok (.aload_n 0, 1) := by decide +kernel
theorem d_Mod_init_208 : decode prog_9_method_1_code 208 = .ok (.bipush 64, 2) := by decide +kernel
theorem d_Mod_init_210 : decode prog_9_method_1_code 210 = .ok (.newarray .int, 2) := by decide +kernel
theorem d_Mod_init_212 : decode prog_9_method_1_code 212 = .ok (.putfield 92, 3) := by decide +kernel
theorem d_Mod_init_215 : decode prog_9_method_1_code 215 = .ok (.aload_n 0, 1) := by decide +kernel
theorem d_Mod_init_216 : decode prog_9_method_1_code 216 = .ok (.iconst 4, 1) := by decide +kernel
theorem d_Mod_init_217 : decode prog_9_method_1_code 217 = .ok (.newarray .int, 2) := by decide +kernel
theorem d_Mod_init_219 : decode prog_9_method_1_code 219 = .ok (.putfield 95, 3) := by decide +kernel
theorem d_Mod_init_222 : decode prog_9_method_1_code 222 = .ok (.aload_n 0, 1) := by decide +kernel
theorem d_Mod_init_223 : decode prog_9_method_1_code 223 = .ok (.bipush 16, 2) := by decide +kernel
theorem d_Mod_init_225 : decode prog_9_method_1_code 225 = .ok (.newarray .int, 2) := by decide +kernel
theorem d_Mod_init_227 : decode prog_9_method_1_code 227 = .ok (.putfield 98, 3) := by decide +kernel
theorem d_Mod_init_230 : decode prog_9_method_1_code 230 = .ok (.aload_n 0, 1) := by decide +kernel
theorem d_Mod_init_231 : decode prog_9_method_1_code 231 = .ok (.iload_n 1, 1) := by decide +kernel
theorem d_Mod_init_232 : decode prog_9_method_1_code 232 = .ok (.iconst 1, 1) := by decide +kernel
theorem d_Mod_init_233 : decode prog_9_method_1_code 233 = .ok (.if_icmp .ge 7, 3) := by decide +kernel
theorem d_Mod_init_236 : decode prog_9_method_1_code 236 = .ok (.iconst 1, 1) := by decide +kernel
theorem d_Mod_init_237 : decode prog_9_method_1_code 237 = .ok (.goto 15, 3) := by decide +kernel
theorem d_Mod_init_240 : decode prog_9_method_1_code 240 = .ok (.iload_n 1, 1) := by decide +kernel
theorem d_Mod_init_241 : decode prog_9_method_1_code 241 = .ok (.bipush 8, 2) := by decide +kernel
theorem d_Mod_init_243 : decode prog_9_method_1_code 243 = .ok (.if_icmp .le 8, 3) := by decide +kernel
theorem d_Mod_init_246 : decode prog_9_method_1_code 246 = .ok (.bipush 8, 2) := by decide +kernel
theorem d_Mod_init_248 : decode prog_9_method_1_code 248 = .ok (.goto 4, 3) := by decide +kernel
theorem d_Mod_init_251 : decode prog_9_method_1_code 251 = .ok (.iload_n 1, 1) := by decide +kernel
theorem d_Mod_init_252 : decode prog_9_method_1_code 252 = .ok (.putfield 101, 3) := by decide +kernel
theorem d_Mod_init_255 : decode prog_9_method_1_code 255 = .ok (.iconst 0, 1) := by decide +kernel
theorem d_Mod_init_256 : decode prog_9_method_1_code 256 = .ok (.istore_n 2, 1) := by decide +kernel
theorem d_Mod_init_257 : decode prog_9_method_1_code 257 = .ok (.iload_n 2, 1) := by decide +kernel
theorem d_Mod_init_258 : decode prog_9_method_1_code 258 = .ok (.iconst 4, 1) := by decide +kernel
theorem d_Mod_init_259 : decode prog_9_method_1_code 259 = .ok (.if_icmp .ge 38, 3) := by decide +kernel
theorem d_Mod_init_262 : decode prog_9_method_1_code 262 = .ok (.aload_n 0, 1) := by decide +kernel
theorem d_Mod_init_263 : decode prog_9_method_1_code 263 = .ok (.getfield 68, 3) := by decide +kernel
theorem d_Mod_init_266 : decode prog_9_method_1_code 266 = .ok (.iload_n 2, 1) := by decide +kernel
theorem d_Mod_init_267 : decode prog_9_method_1_code 267 = .ok (.iconst (-1), 1) := by decide +kernel
theorem d_Mod_init_268 : decode prog_9_method_1_code 268 = .ok (.iastore, 1) := by decide +kernel
theorem d_Mod_init_269 : decode prog_9_method_1_code 269 = .ok (.aload_n 0, 1) := by decide +kernel
theorem d_Mod_init_270 : decode prog_9_method_1_code 270 = .ok (.getfield 77, 3) := by decide +kernel
theorem d_Mod_init_273 : decode prog_9_method_1_code 273 = .ok (.iconst 4, 1) := by decide +kernel
theorem d_Mod_init_274 : decode prog_9_method_1_code 274 = .ok (.iload_n 2, 1) := by decide +kernel
theorem d_Mod_init_275 : decode prog_9_method_1_code 275 = .ok (.imul, 1) := by decide +kernel
theorem d_Mod_init_276 : decode prog_9_method_1_code 276 = .ok (.iconst 2, 1) := by decide +kernel
theorem d_Mod_init_277 : decode prog_9_method_1_code 277 = .ok (.iadd, 1) := by decide +kernel
theorem d_Mod_init_278 : decode prog_9_method_1_code 278 = .ok (.iconst (-1), 1) := by decide +kernel
theorem d_Mod_init_279 : decode prog_9_method_1_code 279 = .ok (.iastore, 1) := by decide +kernel
theorem d_Mod_init_280 : decode prog_9_method_1_code 280 = .ok (.aload_n 0, 1) := by decide +kernel
theorem d_Mod_init_281 : decode prog_9_method_1_code 281 = .ok (.getfield 77, 3) := by decide +kernel
theorem d_Mod_init_284 : decode prog_9_method_1_code 284 = .ok (.iconst 4, 1) := by decide +kernel
theorem d_Mod_init_285 : decode prog_9_method_1_code 285 = .ok (.iload_n 2, 1) := by decide +kernel
theorem d_Mod_init_286 : decode prog_9_method_1_code 286 = .ok (.imul, 1) := by decide +kernel
theorem d_Mod_init_287 : decode prog_9_method_1_code 287 = .ok (.iconst 3, 1) := by decide +kernel
theorem d_Mod_init_288 : decode prog_9_method_1_code 288 = .ok (.iadd, 1) := by decide +kernel
theorem d_Mod_init_289 : decode prog_9_method_1_code 289 = .ok (.iconst (-1), 1) := by decide +kernel
theorem d_Mod_init_290 : decode prog_9_method_1_code 290 = .ok (.iastore, 1) := by decide +kernel
theorem d_Mod_init_291 : decode prog_9_method_1_code 291 = .ok (.iinc 2 1, 3) := by decide +kernel
theorem d_Mod_init_294 : decode prog_9_method_1_code 294 = .ok (.goto (-37), 3) := by decide +kernel
theorem d_Mod_init_297 : decode prog_9_method_1_code 297 = .ok (.return_, 1) := by decide +kernel
