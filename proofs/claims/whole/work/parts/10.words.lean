theorem gin_of {w : Cond} (i : Nat) (h : lw_tbl[i]? = some w) (hg : goodWord w = true) : gin w := ⟨List.mem_of_getElem? h, hg⟩
theorem gin_all {l : List Cond} (h : l.all (fun w => decide (w ∈ lw_tbl) && goodWord w) = true) : ∀ w ∈ l, gin w := fun w hw => by
  have h1 := List.all_eq_true.mp h w hw
  simp only [Bool.and_eq_true, decide_eq_true_eq] at h1
  exact h1
theorem uw_Heap : ∀ w ∈ u_ws R_Heap T_Heap 7, gin w := gin_all (by decide +kernel)
theorem uw_Line : ∀ w ∈ u_ws R_Line T_Line 2, gin w := gin_all (by decide +kernel)
theorem uw_Prog : ∀ w ∈ u_ws R_Prog T_Prog 7, gin w := gin_all (by decide +kernel)
theorem uw_Stk : ∀ w ∈ u_ws R_Stk T_Stk 3, gin w := gin_all (by decide +kernel)
theorem uw_Ten : ∀ w ∈ u_ws R_Ten T_Ten 13, gin w := gin_all (by decide +kernel)
theorem uw_Host : ∀ w ∈ u_ws R_Host T_Host 5, gin w := gin_all (by decide +kernel)
theorem uw_Mod : ∀ w ∈ u_ws R_Mod T_Mod 33, gin w := gin_all (by decide +kernel)
theorem gs_Ins_9 : gin (.fieldLink R_Ins 9 sta_C (sta_n 2) "[I") := gin_of 255 (by decide +kernel) (by decide +kernel)
theorem gf_Prog_31 : gin (.fieldLink R_Prog 31 R_Prog "closed" "Z") := gin_of 86 (by decide +kernel) (by decide +kernel)
theorem fl_Prog_31 : FL R_Prog 31 2 6 := ⟨R_Prog, T_Prog, 7, rfl, uw_Prog, by decide, Or.inl gf_Prog_31⟩
theorem gf_Prog_28 : gin (.fieldLink R_Prog 28 R_Prog "count" "I") := gin_of 85 (by decide +kernel) (by decide +kernel)
theorem fl_Prog_28 : FL R_Prog 28 2 5 := ⟨R_Prog, T_Prog, 7, rfl, uw_Prog, by decide, Or.inl gf_Prog_28⟩
theorem gf_Prog_9 : gin (.fieldLink R_Prog 9 R_Prog "ops" "[I") := gin_of 80 (by decide +kernel) (by decide +kernel)
theorem fl_Prog_9 : FL R_Prog 9 2 0 := ⟨R_Prog, T_Prog, 7, rfl, uw_Prog, by decide, Or.inl gf_Prog_9⟩
theorem gf_Prog_15 : gin (.fieldLink R_Prog 15 R_Prog "args" "[I") := gin_of 81 (by decide +kernel) (by decide +kernel)
theorem fl_Prog_15 : FL R_Prog 15 2 1 := ⟨R_Prog, T_Prog, 7, rfl, uw_Prog, by decide, Or.inl gf_Prog_15⟩
theorem fp_Prog_28 {y : MethodName} (hy : y.cls = R_Prog) : FP y 28 2 5 .int := ⟨R_Prog, T_Prog, 7, ty_Prog, rfl, uw_Prog, by decide, tk_Prog, nm_Prog, rfl, Or.inl ⟨by rw [hy]; exact gf_Prog_28, Or.inl rfl⟩⟩
theorem lk_Host_42 : gin (.methodLink R_Host 42 y_Host_isProgram) := gin_of 249 (by decide +kernel) (by decide +kernel)
theorem ini_Host : gin (.initialized R_Host) := gin_of 45 (by decide +kernel) (by decide +kernel)
set_option maxRecDepth 40000 in
theorem cz_Host_isProgram : CZ mt_Host_isProgram 1 := ⟨⟨List.mem_of_getElem? (i := 251) rfl, by decide +kernel⟩, ini_Host, ⟨by decide, by decide⟩, by decide +kernel⟩
theorem sm_Host_isProgram : gin (.static y_Host_isProgram) := gin_of 250 (by decide +kernel) (by decide +kernel)
theorem lk_Host_46 : gin (.methodLink R_Host 46 y_Ins_isOne) := gin_of 252 (by decide +kernel) (by decide +kernel)
theorem ini_Ins : gin (.initialized R_Ins) := gin_of 53 (by decide +kernel) (by decide +kernel)
set_option maxRecDepth 40000 in
theorem cz_Ins_isOne : CZ mt_Ins_isOne 2 := ⟨⟨List.mem_of_getElem? (i := 254) rfl, by decide +kernel⟩, ini_Ins, ⟨by decide, by decide⟩, by decide +kernel⟩
theorem sm_Ins_isOne : gin (.static y_Ins_isOne) := gin_of 253 (by decide +kernel) (by decide +kernel)
theorem gf_Host_11 : gin (.fieldLink R_Host 11 R_Host "programs" "[LTenantHost$Program;") := gin_of 230 (by decide +kernel) (by decide +kernel)
theorem fl_Host_11 : FL R_Host 11 5 1 := ⟨R_Host, T_Host, 5, rfl, uw_Host, by decide, Or.inl gf_Host_11⟩
theorem lk_Host_52 : gin (.methodLink R_Host 52 y_Prog_append) := gin_of 257 (by decide +kernel) (by decide +kernel)
theorem ini_Prog : gin (.initialized R_Prog) := gin_of 47 (by decide +kernel) (by decide +kernel)
set_option maxRecDepth 40000 in
theorem cz_Prog_append : CZ mt_Prog_append 2 := ⟨⟨List.mem_of_getElem? (i := 260) rfl, by decide +kernel⟩, ini_Prog, ⟨by decide, by decide⟩, by decide +kernel⟩
theorem im_Prog_append : gin (.instanceMethod y_Prog_append) := gin_of 258 (by decide +kernel) (by decide +kernel)
theorem se_Prog_append : gin (.selects R_Prog y_Prog_append y_Prog_append) := gin_of 259 (by decide +kernel) (by decide +kernel)
theorem cv_Prog_append : CV mt_Prog_append := ⟨im_Prog_append, se_Prog_append⟩
theorem lk_Host_55 : gin (.methodLink R_Host 55 y_Prog_empty) := gin_of 265 (by decide +kernel) (by decide +kernel)
set_option maxRecDepth 40000 in
theorem cz_Prog_empty : CZ mt_Prog_empty 0 := ⟨⟨List.mem_of_getElem? (i := 268) rfl, by decide +kernel⟩, ini_Prog, ⟨by decide, by decide⟩, by decide +kernel⟩
theorem im_Prog_empty : gin (.instanceMethod y_Prog_empty) := gin_of 266 (by decide +kernel) (by decide +kernel)
theorem se_Prog_empty : gin (.selects R_Prog y_Prog_empty y_Prog_empty) := gin_of 267 (by decide +kernel) (by decide +kernel)
theorem cv_Prog_empty : CV mt_Prog_empty := ⟨im_Prog_empty, se_Prog_empty⟩
theorem lk_Ins_19 : gin (.methodLink R_Ins 19 y_Ins_countOf) := gin_of 307 (by decide +kernel) (by decide +kernel)
set_option maxRecDepth 40000 in
theorem cz_Ins_countOf : CZ mt_Ins_countOf 1 := ⟨⟨List.mem_of_getElem? (i := 309) rfl, by decide +kernel⟩, ini_Ins, ⟨by decide, by decide⟩, by decide +kernel⟩
theorem sm_Ins_countOf : gin (.static y_Ins_countOf) := gin_of 308 (by decide +kernel) (by decide +kernel)
theorem lk_Ins_30 : gin (.methodLink R_Ins 30 y_Ins_typeOfLocal) := gin_of 302 (by decide +kernel) (by decide +kernel)
set_option maxRecDepth 40000 in
theorem cz_Ins_typeOfLocal : CZ mt_Ins_typeOfLocal 1 := ⟨⟨List.mem_of_getElem? (i := 304) rfl, by decide +kernel⟩, ini_Ins, ⟨by decide, by decide⟩, by decide +kernel⟩
theorem sm_Ins_typeOfLocal : gin (.static y_Ins_typeOfLocal) := gin_of 303 (by decide +kernel) (by decide +kernel)
theorem gs_Ins_36 : gin (.fieldLink R_Ins 36 sta_C (sta_n 1) "[I") := gin_of 316 (by decide +kernel) (by decide +kernel)
theorem gs_Ins_33 : gin (.fieldLink R_Ins 33 sta_C (sta_n 0) "[I") := gin_of 305 (by decide +kernel) (by decide +kernel)
theorem lk_Ins_15 : gin (.methodLink R_Ins 15 y_Ins_takes) := gin_of 299 (by decide +kernel) (by decide +kernel)
set_option maxRecDepth 40000 in
theorem cz_Ins_takes : CZ mt_Ins_takes 3 := ⟨⟨List.mem_of_getElem? (i := 301) rfl, by decide +kernel⟩, ini_Ins, ⟨by decide, by decide⟩, by decide +kernel⟩
theorem sm_Ins_takes : gin (.static y_Ins_takes) := gin_of 300 (by decide +kernel) (by decide +kernel)
theorem lk_Ins_23 : gin (.methodLink R_Ins 23 y_Ins_join) := gin_of 310 (by decide +kernel) (by decide +kernel)
set_option maxRecDepth 40000 in
theorem cz_Ins_join : CZ mt_Ins_join 2 := ⟨⟨List.mem_of_getElem? (i := 312) rfl, by decide +kernel⟩, ini_Ins, ⟨by decide, by decide⟩, by decide +kernel⟩
theorem sm_Ins_join : gin (.static y_Ins_join) := gin_of 311 (by decide +kernel) (by decide +kernel)
theorem lk_Ins_27 : gin (.methodLink R_Ins 27 y_Ins_puts) := gin_of 313 (by decide +kernel) (by decide +kernel)
set_option maxRecDepth 40000 in
theorem cz_Ins_puts : CZ mt_Ins_puts 3 := ⟨⟨List.mem_of_getElem? (i := 315) rfl, by decide +kernel⟩, ini_Ins, ⟨by decide, by decide⟩, by decide +kernel⟩
theorem sm_Ins_puts : gin (.static y_Ins_puts) := gin_of 314 (by decide +kernel) (by decide +kernel)
theorem lk_Prog_39 : gin (.methodLink R_Prog 39 y_Prog_has) := gin_of 288 (by decide +kernel) (by decide +kernel)
set_option maxRecDepth 40000 in
theorem cz_Prog_has : CZ mt_Prog_has 1 := ⟨⟨List.mem_of_getElem? (i := 291) rfl, by decide +kernel⟩, ini_Prog, ⟨by decide, by decide⟩, by decide +kernel⟩
theorem im_Prog_has : gin (.instanceMethod y_Prog_has) := gin_of 290 (by decide +kernel) (by decide +kernel)
theorem se_Prog_has : gin (.selects R_Prog y_Prog_has y_Prog_has) := gin_of 2 (by decide +kernel) (by decide +kernel)
theorem cv_Prog_has : CV mt_Prog_has := ⟨im_Prog_has, se_Prog_has⟩
theorem gf_Prog_18 : gin (.fieldLink R_Prog 18 R_Prog "shapes" "[I") := gin_of 82 (by decide +kernel) (by decide +kernel)
theorem fl_Prog_18 : FL R_Prog 18 2 2 := ⟨R_Prog, T_Prog, 7, rfl, uw_Prog, by decide, Or.inl gf_Prog_18⟩
theorem gf_Prog_21 : gin (.fieldLink R_Prog 21 R_Prog "reached" "[I") := gin_of 83 (by decide +kernel) (by decide +kernel)
theorem fl_Prog_21 : FL R_Prog 21 2 3 := ⟨R_Prog, T_Prog, 7, rfl, uw_Prog, by decide, Or.inl gf_Prog_21⟩
theorem gf_Prog_24 : gin (.fieldLink R_Prog 24 R_Prog "reachedCount" "I") := gin_of 84 (by decide +kernel) (by decide +kernel)
theorem fl_Prog_24 : FL R_Prog 24 2 4 := ⟨R_Prog, T_Prog, 7, rfl, uw_Prog, by decide, Or.inl gf_Prog_24⟩
theorem fp_Prog_24 {y : MethodName} (hy : y.cls = R_Prog) : FP y 24 2 4 .int := ⟨R_Prog, T_Prog, 7, ty_Prog, rfl, uw_Prog, by decide, tk_Prog, nm_Prog, rfl, Or.inl ⟨by rw [hy]; exact gf_Prog_24, Or.inl rfl⟩⟩
theorem lk_Prog_58 : gin (.methodLink R_Prog 58 y_Ins_shapeAfter) := gin_of 296 (by decide +kernel) (by decide +kernel)
set_option maxRecDepth 40000 in
theorem cz_Ins_shapeAfter : CZ mt_Ins_shapeAfter 3 := ⟨⟨List.mem_of_getElem? (i := 298) rfl, by decide +kernel⟩, ini_Ins, ⟨by decide, by decide⟩, by decide +kernel⟩
theorem sm_Ins_shapeAfter : gin (.static y_Ins_shapeAfter) := gin_of 297 (by decide +kernel) (by decide +kernel)
theorem lk_Prog_51 : gin (.methodLink R_Prog 51 y_Prog_reach) := gin_of 284 (by decide +kernel) (by decide +kernel)
set_option maxRecDepth 40000 in
theorem cz_Prog_reach : CZ mt_Prog_reach 2 := ⟨⟨List.mem_of_getElem? (i := 287) rfl, by decide +kernel⟩, ini_Prog, ⟨by decide, by decide⟩, by decide +kernel⟩
theorem im_Prog_reach : gin (.instanceMethod y_Prog_reach) := gin_of 286 (by decide +kernel) (by decide +kernel)
theorem se_Prog_reach : gin (.selects R_Prog y_Prog_reach y_Prog_reach) := gin_of 1 (by decide +kernel) (by decide +kernel)
theorem cv_Prog_reach : CV mt_Prog_reach := ⟨im_Prog_reach, se_Prog_reach⟩
theorem lk_Prog_43 : gin (.methodLink R_Prog 43 y_JA_fill) := gin_of 281 (by decide +kernel) (by decide +kernel)
theorem ini_JA : gin (.initialized R_JA) := gin_of 54 (by decide +kernel) (by decide +kernel)
set_option maxRecDepth 40000 in
theorem cz_JA_fill : CZ mt_JA_fill 2 := ⟨⟨List.mem_of_getElem? (i := 283) rfl, by decide +kernel⟩, ini_JA, ⟨by decide, by decide⟩, by decide +kernel⟩
theorem sm_JA_fill : gin (.static y_JA_fill) := gin_of 282 (by decide +kernel) (by decide +kernel)
theorem lk_Prog_55 : gin (.methodLink R_Prog 55 y_Prog_goOnFrom) := gin_of 292 (by decide +kernel) (by decide +kernel)
set_option maxRecDepth 40000 in
theorem cz_Prog_goOnFrom : CZ mt_Prog_goOnFrom 1 := ⟨⟨List.mem_of_getElem? (i := 295) rfl, by decide +kernel⟩, ini_Prog, ⟨by decide, by decide⟩, by decide +kernel⟩
theorem im_Prog_goOnFrom : gin (.instanceMethod y_Prog_goOnFrom) := gin_of 294 (by decide +kernel) (by decide +kernel)
theorem se_Prog_goOnFrom : gin (.selects R_Prog y_Prog_goOnFrom y_Prog_goOnFrom) := gin_of 3 (by decide +kernel) (by decide +kernel)
theorem cv_Prog_goOnFrom : CV mt_Prog_goOnFrom := ⟨im_Prog_goOnFrom, se_Prog_goOnFrom⟩
theorem lk_Prog_35 : gin (.methodLink R_Prog 35 y_Prog_isSound) := gin_of 277 (by decide +kernel) (by decide +kernel)
set_option maxRecDepth 40000 in
theorem cz_Prog_isSound : CZ mt_Prog_isSound 0 := ⟨⟨List.mem_of_getElem? (i := 280) rfl, by decide +kernel⟩, ini_Prog, ⟨by decide, by decide⟩, by decide +kernel⟩
theorem im_Prog_isSound : gin (.instanceMethod y_Prog_isSound) := gin_of 279 (by decide +kernel) (by decide +kernel)
theorem se_Prog_isSound : gin (.selects R_Prog y_Prog_isSound y_Prog_isSound) := gin_of 0 (by decide +kernel) (by decide +kernel)
theorem cv_Prog_isSound : CV mt_Prog_isSound := ⟨im_Prog_isSound, se_Prog_isSound⟩
theorem fp_Prog_31 {y : MethodName} (hy : y.cls = R_Prog) : FP y 31 2 6 .boolean := ⟨R_Prog, T_Prog, 7, ty_Prog, rfl, uw_Prog, by decide, tk_Prog, nm_Prog, rfl, Or.inl ⟨by rw [hy]; exact gf_Prog_31, Or.inl rfl⟩⟩
theorem lk_Host_59 : gin (.methodLink R_Host 59 y_Prog_close) := gin_of 273 (by decide +kernel) (by decide +kernel)
set_option maxRecDepth 40000 in
theorem cz_Prog_close : CZ mt_Prog_close 0 := ⟨⟨List.mem_of_getElem? (i := 276) rfl, by decide +kernel⟩, ini_Prog, ⟨by decide, by decide⟩, by decide +kernel⟩
theorem im_Prog_close : gin (.instanceMethod y_Prog_close) := gin_of 274 (by decide +kernel) (by decide +kernel)
theorem se_Prog_close : gin (.selects R_Prog y_Prog_close y_Prog_close) := gin_of 275 (by decide +kernel) (by decide +kernel)
theorem cv_Prog_close : CV mt_Prog_close := ⟨im_Prog_close, se_Prog_close⟩
theorem lk_Host_62 : gin (.methodLink R_Host 62 y_Prog_shapeAt) := gin_of 322 (by decide +kernel) (by decide +kernel)
set_option maxRecDepth 40000 in
theorem cz_Prog_shapeAt : CZ mt_Prog_shapeAt 1 := ⟨⟨List.mem_of_getElem? (i := 325) rfl, by decide +kernel⟩, ini_Prog, ⟨by decide, by decide⟩, by decide +kernel⟩
theorem im_Prog_shapeAt : gin (.instanceMethod y_Prog_shapeAt) := gin_of 323 (by decide +kernel) (by decide +kernel)
theorem se_Prog_shapeAt : gin (.selects R_Prog y_Prog_shapeAt y_Prog_shapeAt) := gin_of 324 (by decide +kernel) (by decide +kernel)
theorem cv_Prog_shapeAt : CV mt_Prog_shapeAt := ⟨im_Prog_shapeAt, se_Prog_shapeAt⟩
theorem gf_Host_21 : gin (.fieldLink R_Host 21 R_Host "sharedCount" "I") := gin_of 232 (by decide +kernel) (by decide +kernel)
theorem fl_Host_21 : FL R_Host 21 5 3 := ⟨R_Host, T_Host, 5, rfl, uw_Host, by decide, Or.inl gf_Host_21⟩
theorem gf_Heap_9 : gin (.fieldLink R_Heap 9 R_Heap "nums" "[I") := gin_of 115 (by decide +kernel) (by decide +kernel)
theorem fl_Heap_9 : FL R_Heap 9 0 0 := ⟨R_Heap, T_Heap, 7, rfl, uw_Heap, by decide, Or.inl gf_Heap_9⟩
theorem gf_Heap_15 : gin (.fieldLink R_Heap 15 R_Heap "lefts" "[I") := gin_of 117 (by decide +kernel) (by decide +kernel)
theorem fl_Heap_15 : FL R_Heap 15 0 1 := ⟨R_Heap, T_Heap, 7, rfl, uw_Heap, by decide, Or.inl gf_Heap_15⟩
theorem gf_Heap_18 : gin (.fieldLink R_Heap 18 R_Heap "rights" "[I") := gin_of 119 (by decide +kernel) (by decide +kernel)
theorem fl_Heap_18 : FL R_Heap 18 0 2 := ⟨R_Heap, T_Heap, 7, rfl, uw_Heap, by decide, Or.inl gf_Heap_18⟩
theorem lk_Host_66 : gin (.methodLink R_Host 66 y_Host_isSharedOrNone) := gin_of 330 (by decide +kernel) (by decide +kernel)
set_option maxRecDepth 40000 in
theorem cz_Host_isSharedOrNone : CZ mt_Host_isSharedOrNone 1 := ⟨⟨List.mem_of_getElem? (i := 333) rfl, by decide +kernel⟩, ini_Host, ⟨by decide, by decide⟩, by decide +kernel⟩
theorem im_Host_isSharedOrNone : gin (.instanceMethod y_Host_isSharedOrNone) := gin_of 332 (by decide +kernel) (by decide +kernel)
theorem se_Host_isSharedOrNone : gin (.selects R_Host y_Host_isSharedOrNone y_Host_isSharedOrNone) := gin_of 4 (by decide +kernel) (by decide +kernel)
theorem cv_Host_isSharedOrNone : CV mt_Host_isSharedOrNone := ⟨im_Host_isSharedOrNone, se_Host_isSharedOrNone⟩
theorem gf_Host_17 : gin (.fieldLink R_Host 17 R_Host "tenants" "[LTenantHost$Tenant;") := gin_of 231 (by decide +kernel) (by decide +kernel)
theorem fl_Host_17 : FL R_Host 17 5 2 := ⟨R_Host, T_Host, 5, rfl, uw_Host, by decide, Or.inl gf_Host_17⟩
theorem gf_Host_69 : gin (.fieldLink R_Host 69 R_Ten "heap" "LTenantHost$Heap;") := gin_of 177 (by decide +kernel) (by decide +kernel)
theorem fl_Host_69 : FL R_Host 69 4 0 := ⟨R_Ten, T_Ten, 13, rfl, uw_Ten, by decide, Or.inl gf_Host_69⟩
theorem lk_Host_73 : gin (.methodLink R_Host 73 y_Host_sharedReference) := gin_of 334 (by decide +kernel) (by decide +kernel)
set_option maxRecDepth 40000 in
theorem cz_Host_sharedReference : CZ mt_Host_sharedReference 1 := ⟨⟨List.mem_of_getElem? (i := 336) rfl, by decide +kernel⟩, ini_Host, ⟨by decide, by decide⟩, by decide +kernel⟩
theorem sm_Host_sharedReference : gin (.static y_Host_sharedReference) := gin_of 335 (by decide +kernel) (by decide +kernel)
theorem lk_Host_76 : gin (.methodLink R_Host 76 y_Heap_fill) := gin_of 337 (by decide +kernel) (by decide +kernel)
theorem ini_Heap : gin (.initialized R_Heap) := gin_of 49 (by decide +kernel) (by decide +kernel)
set_option maxRecDepth 40000 in
theorem cz_Heap_fill : CZ mt_Heap_fill 4 := ⟨⟨List.mem_of_getElem? (i := 340) rfl, by decide +kernel⟩, ini_Heap, ⟨by decide, by decide⟩, by decide +kernel⟩
theorem im_Heap_fill : gin (.instanceMethod y_Heap_fill) := gin_of 338 (by decide +kernel) (by decide +kernel)
theorem se_Heap_fill : gin (.selects R_Heap y_Heap_fill y_Heap_fill) := gin_of 339 (by decide +kernel) (by decide +kernel)
theorem cv_Heap_fill : CV mt_Heap_fill := ⟨im_Heap_fill, se_Heap_fill⟩
theorem fp_Host_21 {y : MethodName} (hy : y.cls = R_Host) : FP y 21 5 3 .int := ⟨R_Host, T_Host, 5, ty_Host, rfl, uw_Host, by decide, tk_Host, nm_Host, rfl, Or.inl ⟨by rw [hy]; exact gf_Host_21, Or.inl rfl⟩⟩
theorem gf_Host_92 : gin (.fieldLink R_Host 92 R_Heap "reserved" "I") := gin_of 126 (by decide +kernel) (by decide +kernel)
theorem fl_Host_92 : FL R_Host 92 0 5 := ⟨R_Heap, T_Heap, 7, rfl, uw_Heap, by decide, Or.inl gf_Host_92⟩
theorem gf_Ten_57 : gin (.fieldLink R_Ten 57 R_Ten "stepsReserved" "I") := gin_of 196 (by decide +kernel) (by decide +kernel)
theorem fl_Ten_57 : FL R_Ten 57 4 10 := ⟨R_Ten, T_Ten, 13, rfl, uw_Ten, by decide, Or.inl gf_Ten_57⟩
theorem lk_Host_82 : gin (.methodLink R_Host 82 y_Host_isTenant) := gin_of 345 (by decide +kernel) (by decide +kernel)
set_option maxRecDepth 40000 in
theorem cz_Host_isTenant : CZ mt_Host_isTenant 1 := ⟨⟨List.mem_of_getElem? (i := 347) rfl, by decide +kernel⟩, ini_Host, ⟨by decide, by decide⟩, by decide +kernel⟩
theorem sm_Host_isTenant : gin (.static y_Host_isTenant) := gin_of 346 (by decide +kernel) (by decide +kernel)
theorem lk_Host_85 : gin (.methodLink R_Host 85 y_Ten_isReserved) := gin_of 348 (by decide +kernel) (by decide +kernel)
theorem ini_Ten : gin (.initialized R_Ten) := gin_of 48 (by decide +kernel) (by decide +kernel)
set_option maxRecDepth 40000 in
theorem cz_Ten_isReserved : CZ mt_Ten_isReserved 0 := ⟨⟨List.mem_of_getElem? (i := 351) rfl, by decide +kernel⟩, ini_Ten, ⟨by decide, by decide⟩, by decide +kernel⟩
theorem im_Ten_isReserved : gin (.instanceMethod y_Ten_isReserved) := gin_of 349 (by decide +kernel) (by decide +kernel)
theorem se_Ten_isReserved : gin (.selects R_Ten y_Ten_isReserved y_Ten_isReserved) := gin_of 350 (by decide +kernel) (by decide +kernel)
theorem cv_Ten_isReserved : CV mt_Ten_isReserved := ⟨im_Ten_isReserved, se_Ten_isReserved⟩
theorem lk_Host_88 : gin (.methodLink R_Host 88 y_Host_reservedCells) := gin_of 352 (by decide +kernel) (by decide +kernel)
set_option maxRecDepth 40000 in
theorem cz_Host_reservedCells : CZ mt_Host_reservedCells 0 := ⟨⟨List.mem_of_getElem? (i := 355) rfl, by decide +kernel⟩, ini_Host, ⟨by decide, by decide⟩, by decide +kernel⟩
theorem im_Host_reservedCells : gin (.instanceMethod y_Host_reservedCells) := gin_of 354 (by decide +kernel) (by decide +kernel)
theorem se_Host_reservedCells : gin (.selects R_Host y_Host_reservedCells y_Host_reservedCells) := gin_of 5 (by decide +kernel) (by decide +kernel)
theorem cv_Host_reservedCells : CV mt_Host_reservedCells := ⟨im_Host_reservedCells, se_Host_reservedCells⟩
theorem fp_Host_92 {y : MethodName} (hy : y.cls = R_Host) : FP y 92 0 5 .int := ⟨R_Heap, T_Heap, 7, ty_Heap, rfl, uw_Heap, by decide, tk_Heap, nm_Heap, rfl, Or.inl ⟨by rw [hy]; exact gf_Host_92, Or.inl rfl⟩⟩
theorem gf_Host_95 : gin (.fieldLink R_Host 95 R_Ten "stepsReserved" "I") := gin_of 197 (by decide +kernel) (by decide +kernel)
theorem fp_Host_95 {y : MethodName} (hy : y.cls = R_Host) : FP y 95 4 10 .int := ⟨R_Ten, T_Ten, 13, ty_Ten, rfl, uw_Ten, by decide, tk_Ten, nm_Ten, rfl, Or.inl ⟨by rw [hy]; exact gf_Host_95, Or.inl rfl⟩⟩
theorem gf_Host_98 : gin (.fieldLink R_Host 98 R_Ten "permitted" "[I") := gin_of 189 (by decide +kernel) (by decide +kernel)
theorem fl_Host_98 : FL R_Host 98 4 6 := ⟨R_Ten, T_Ten, 13, rfl, uw_Ten, by decide, Or.inl gf_Host_98⟩
theorem gf_Host_122 : gin (.fieldLink R_Host 122 R_Ten "state" "I") := gin_of 191 (by decide +kernel) (by decide +kernel)
theorem fl_Host_122 : FL R_Host 122 4 7 := ⟨R_Ten, T_Ten, 13, rfl, uw_Ten, by decide, Or.inl gf_Host_122⟩
theorem gf_Host_172 : gin (.fieldLink R_Host 172 R_Prog "closed" "Z") := gin_of 87 (by decide +kernel) (by decide +kernel)
theorem fl_Host_172 : FL R_Host 172 2 6 := ⟨R_Prog, T_Prog, 7, rfl, uw_Prog, by decide, Or.inl gf_Host_172⟩
theorem gf_Host_176 : gin (.fieldLink R_Host 176 R_Ten "program" "I") := gin_of 193 (by decide +kernel) (by decide +kernel)
theorem fp_Host_176 {y : MethodName} (hy : y.cls = R_Host) : FP y 176 4 8 .int := ⟨R_Ten, T_Ten, 13, ty_Ten, rfl, uw_Ten, by decide, tk_Ten, nm_Ten, rfl, Or.inl ⟨by rw [hy]; exact gf_Host_176, Or.inl rfl⟩⟩
theorem fp_Host_122 {y : MethodName} (hy : y.cls = R_Host) : FP y 122 4 7 .int := ⟨R_Ten, T_Ten, 13, ty_Ten, rfl, uw_Ten, by decide, tk_Ten, nm_Ten, rfl, Or.inl ⟨by rw [hy]; exact gf_Host_122, Or.inl rfl⟩⟩
theorem lk_Host_102 : gin (.methodLink R_Host 102 y_Host_begin) := gin_of 364 (by decide +kernel) (by decide +kernel)
set_option maxRecDepth 40000 in
theorem cz_Host_begin : CZ mt_Host_begin 2 := ⟨⟨List.mem_of_getElem? (i := 367) rfl, by decide +kernel⟩, ini_Host, ⟨by decide, by decide⟩, by decide +kernel⟩
theorem im_Host_begin : gin (.instanceMethod y_Host_begin) := gin_of 366 (by decide +kernel) (by decide +kernel)
theorem se_Host_begin : gin (.selects R_Host y_Host_begin y_Host_begin) := gin_of 6 (by decide +kernel) (by decide +kernel)
theorem cv_Host_begin : CV mt_Host_begin := ⟨im_Host_begin, se_Host_begin⟩
theorem gf_Line_7 : gin (.fieldLink R_Line 7 R_Line "count" "I") := gin_of 168 (by decide +kernel) (by decide +kernel)
theorem fl_Line_7 : FL R_Line 7 1 1 := ⟨R_Line, T_Line, 2, rfl, uw_Line, by decide, Or.inl gf_Line_7⟩
theorem gf_Line_13 : gin (.fieldLink R_Line 13 R_Line "items" "[I") := gin_of 167 (by decide +kernel) (by decide +kernel)
theorem fl_Line_13 : FL R_Line 13 1 0 := ⟨R_Line, T_Line, 2, rfl, uw_Line, by decide, Or.inl gf_Line_13⟩
theorem lk_Line_17 : gin (.methodLink R_Line 17 y_Line_isFull) := gin_of 376 (by decide +kernel) (by decide +kernel)
theorem ini_Line : gin (.initialized R_Line) := gin_of 51 (by decide +kernel) (by decide +kernel)
set_option maxRecDepth 40000 in
theorem cz_Line_isFull : CZ mt_Line_isFull 0 := ⟨⟨List.mem_of_getElem? (i := 379) rfl, by decide +kernel⟩, ini_Line, ⟨by decide, by decide⟩, by decide +kernel⟩
theorem im_Line_isFull : gin (.instanceMethod y_Line_isFull) := gin_of 377 (by decide +kernel) (by decide +kernel)
theorem se_Line_isFull : gin (.selects R_Line y_Line_isFull y_Line_isFull) := gin_of 378 (by decide +kernel) (by decide +kernel)
theorem cv_Line_isFull : CV mt_Line_isFull := ⟨im_Line_isFull, se_Line_isFull⟩
theorem fp_Line_7 {y : MethodName} (hy : y.cls = R_Line) : FP y 7 1 1 .int := ⟨R_Line, T_Line, 2, ty_Line, rfl, uw_Line, by decide, tk_Line, nm_Line, rfl, Or.inl ⟨by rw [hy]; exact gf_Line_7, Or.inl rfl⟩⟩
theorem gf_Host_106 : gin (.fieldLink R_Host 106 R_Ten "inputs" "LTenantHost$Line;") := gin_of 185 (by decide +kernel) (by decide +kernel)
theorem fl_Host_106 : FL R_Host 106 4 4 := ⟨R_Ten, T_Ten, 13, rfl, uw_Ten, by decide, Or.inl gf_Host_106⟩
theorem lk_Host_110 : gin (.methodLink R_Host 110 y_Line_add) := gin_of 372 (by decide +kernel) (by decide +kernel)
set_option maxRecDepth 40000 in
theorem cz_Line_add : CZ mt_Line_add 1 := ⟨⟨List.mem_of_getElem? (i := 375) rfl, by decide +kernel⟩, ini_Line, ⟨by decide, by decide⟩, by decide +kernel⟩
theorem im_Line_add : gin (.instanceMethod y_Line_add) := gin_of 373 (by decide +kernel) (by decide +kernel)
theorem se_Line_add : gin (.selects R_Line y_Line_add y_Line_add) := gin_of 374 (by decide +kernel) (by decide +kernel)
theorem cv_Line_add : CV mt_Line_add := ⟨im_Line_add, se_Line_add⟩
theorem gf_Stk_19 : gin (.fieldLink R_Stk 19 R_Stk "depth" "I") := gin_of 152 (by decide +kernel) (by decide +kernel)
theorem fl_Stk_19 : FL R_Stk 19 3 2 := ⟨R_Stk, T_Stk, 3, rfl, uw_Stk, by decide, Or.inl gf_Stk_19⟩
theorem gf_Stk_9 : gin (.fieldLink R_Stk 9 R_Stk "values" "[I") := gin_of 150 (by decide +kernel) (by decide +kernel)
theorem fl_Stk_9 : FL R_Stk 9 3 0 := ⟨R_Stk, T_Stk, 3, rfl, uw_Stk, by decide, Or.inl gf_Stk_9⟩
theorem gf_Stk_15 : gin (.fieldLink R_Stk 15 R_Stk "areReferences" "[Z") := gin_of 151 (by decide +kernel) (by decide +kernel)
theorem fl_Stk_15 : FL R_Stk 15 3 1 := ⟨R_Stk, T_Stk, 3, rfl, uw_Stk, by decide, Or.inl gf_Stk_15⟩
theorem fp_Stk_19 {y : MethodName} (hy : y.cls = R_Stk) : FP y 19 3 2 .int := ⟨R_Stk, T_Stk, 3, ty_Stk, rfl, uw_Stk, by decide, tk_Stk, nm_Stk, rfl, Or.inl ⟨by rw [hy]; exact gf_Stk_19, Or.inl rfl⟩⟩
theorem lk_Stk_23 : gin (.methodLink R_Stk 23 y_Stk_put) := gin_of 432 (by decide +kernel) (by decide +kernel)
theorem ini_Stk : gin (.initialized R_Stk) := gin_of 50 (by decide +kernel) (by decide +kernel)
set_option maxRecDepth 40000 in
theorem cz_Stk_put : CZ mt_Stk_put 2 := ⟨⟨List.mem_of_getElem? (i := 435) rfl, by decide +kernel⟩, ini_Stk, ⟨by decide, by decide⟩, by decide +kernel⟩
theorem im_Stk_put : gin (.instanceMethod y_Stk_put) := gin_of 433 (by decide +kernel) (by decide +kernel)
theorem se_Stk_put : gin (.selects R_Stk y_Stk_put y_Stk_put) := gin_of 434 (by decide +kernel) (by decide +kernel)
theorem cv_Stk_put : CV mt_Stk_put := ⟨im_Stk_put, se_Stk_put⟩
theorem lk_Stk_27 : gin (.methodLink R_Stk 27 y_Stk_top) := gin_of 443 (by decide +kernel) (by decide +kernel)
set_option maxRecDepth 40000 in
theorem cz_Stk_top : CZ mt_Stk_top 0 := ⟨⟨List.mem_of_getElem? (i := 446) rfl, by decide +kernel⟩, ini_Stk, ⟨by decide, by decide⟩, by decide +kernel⟩
theorem im_Stk_top : gin (.instanceMethod y_Stk_top) := gin_of 444 (by decide +kernel) (by decide +kernel)
theorem se_Stk_top : gin (.selects R_Stk y_Stk_top y_Stk_top) := gin_of 445 (by decide +kernel) (by decide +kernel)
theorem cv_Stk_top : CV mt_Stk_top := ⟨im_Stk_top, se_Stk_top⟩
theorem lk_Stk_31 : gin (.methodLink R_Stk 31 Lib.Math.max.name) := gin_of 447 (by decide +kernel) (by decide +kernel)
theorem sm_Mmax : gin (.static Lib.Math.max.name) := gin_of 73 (by decide +kernel) (by decide +kernel)
theorem ini_JMs : gin (.initialized "java/lang/Math") := gin_of 46 (by decide +kernel) (by decide +kernel)
set_option maxRecDepth 40000 in
theorem co_Mmax : gin (.code Lib.Math.max.name Lib.Math.max.code 2 (some .int)) := ⟨List.mem_of_getElem? (i := 74) rfl, by decide +kernel⟩
theorem mw_Stk_31 : gin (.methodLink R_Stk 31 Lib.Math.max.name) ∧ gin (.static Lib.Math.max.name) ∧ gin (.initialized "java/lang/Math") ∧ gin (.code Lib.Math.max.name Lib.Math.max.code 2 (some .int)) := ⟨lk_Stk_31, sm_Mmax, ini_JMs, co_Mmax⟩
theorem lk_Host_226 : gin (.methodLink R_Host 226 y_Stk_take) := gin_of 439 (by decide +kernel) (by decide +kernel)
set_option maxRecDepth 40000 in
theorem cz_Stk_take : CZ mt_Stk_take 0 := ⟨⟨List.mem_of_getElem? (i := 442) rfl, by decide +kernel⟩, ini_Stk, ⟨by decide, by decide⟩, by decide +kernel⟩
theorem im_Stk_take : gin (.instanceMethod y_Stk_take) := gin_of 440 (by decide +kernel) (by decide +kernel)
theorem se_Stk_take : gin (.selects R_Stk y_Stk_take y_Stk_take) := gin_of 441 (by decide +kernel) (by decide +kernel)
theorem cv_Stk_take : CV mt_Stk_take := ⟨im_Stk_take, se_Stk_take⟩
theorem lk_Host_266 : gin (.methodLink R_Host 266 y_Stk_putTruth) := gin_of 448 (by decide +kernel) (by decide +kernel)
set_option maxRecDepth 40000 in
theorem cz_Stk_putTruth : CZ mt_Stk_putTruth 1 := ⟨⟨List.mem_of_getElem? (i := 451) rfl, by decide +kernel⟩, ini_Stk, ⟨by decide, by decide⟩, by decide +kernel⟩
theorem im_Stk_putTruth : gin (.instanceMethod y_Stk_putTruth) := gin_of 449 (by decide +kernel) (by decide +kernel)
theorem se_Stk_putTruth : gin (.selects R_Stk y_Stk_putTruth y_Stk_putTruth) := gin_of 450 (by decide +kernel) (by decide +kernel)
theorem cv_Stk_putTruth : CV mt_Stk_putTruth := ⟨im_Stk_putTruth, se_Stk_putTruth⟩
theorem lk_Host_209 : gin (.methodLink R_Host 209 y_Stk_putNumber) := gin_of 428 (by decide +kernel) (by decide +kernel)
set_option maxRecDepth 40000 in
theorem cz_Stk_putNumber : CZ mt_Stk_putNumber 1 := ⟨⟨List.mem_of_getElem? (i := 431) rfl, by decide +kernel⟩, ini_Stk, ⟨by decide, by decide⟩, by decide +kernel⟩
theorem im_Stk_putNumber : gin (.instanceMethod y_Stk_putNumber) := gin_of 429 (by decide +kernel) (by decide +kernel)
theorem se_Stk_putNumber : gin (.selects R_Stk y_Stk_putNumber y_Stk_putNumber) := gin_of 430 (by decide +kernel) (by decide +kernel)
theorem cv_Stk_putNumber : CV mt_Stk_putNumber := ⟨im_Stk_putNumber, se_Stk_putNumber⟩
theorem gf_Ten_12 : gin (.fieldLink R_Ten 12 R_Ten "heap" "LTenantHost$Heap;") := gin_of 176 (by decide +kernel) (by decide +kernel)
theorem fl_Ten_12 : FL R_Ten 12 4 0 := ⟨R_Ten, T_Ten, 13, rfl, uw_Ten, by decide, Or.inl gf_Ten_12⟩
theorem gf_Ten_92 : gin (.fieldLink R_Ten 92 R_Heap "made" "J") := gin_of 123 (by decide +kernel) (by decide +kernel)
theorem fp_Ten_92 {y : MethodName} (hy : y.cls = R_Ten) : FP y 92 0 4 .long := ⟨R_Heap, T_Heap, 7, ty_Heap, rfl, uw_Heap, by decide, tk_Heap, nm_Heap, rfl, Or.inl ⟨by rw [hy]; exact gf_Ten_92, Or.inl rfl⟩⟩
theorem gf_Ten_21 : gin (.fieldLink R_Ten 21 R_Ten "stack" "LTenantHost$Stack;") := gin_of 178 (by decide +kernel) (by decide +kernel)
theorem fl_Ten_21 : FL R_Ten 21 4 1 := ⟨R_Ten, T_Ten, 13, rfl, uw_Ten, by decide, Or.inl gf_Ten_21⟩
theorem lk_Ten_96 : gin (.methodLink R_Ten 96 y_Stk_drop) := gin_of 403 (by decide +kernel) (by decide +kernel)
set_option maxRecDepth 40000 in
theorem cz_Stk_drop : CZ mt_Stk_drop 0 := ⟨⟨List.mem_of_getElem? (i := 406) rfl, by decide +kernel⟩, ini_Stk, ⟨by decide, by decide⟩, by decide +kernel⟩
theorem im_Stk_drop : gin (.instanceMethod y_Stk_drop) := gin_of 404 (by decide +kernel) (by decide +kernel)
theorem se_Stk_drop : gin (.selects R_Stk y_Stk_drop y_Stk_drop) := gin_of 405 (by decide +kernel) (by decide +kernel)
theorem cv_Stk_drop : CV mt_Stk_drop := ⟨im_Stk_drop, se_Stk_drop⟩
theorem gf_Ten_34 : gin (.fieldLink R_Ten 34 R_Ten "mail" "LTenantHost$Line;") := gin_of 182 (by decide +kernel) (by decide +kernel)
theorem fl_Ten_34 : FL R_Ten 34 4 3 := ⟨R_Ten, T_Ten, 13, rfl, uw_Ten, by decide, Or.inl gf_Ten_34⟩
theorem lk_Ten_99 : gin (.methodLink R_Ten 99 y_Line_drop) := gin_of 407 (by decide +kernel) (by decide +kernel)
set_option maxRecDepth 40000 in
theorem cz_Line_drop : CZ mt_Line_drop 0 := ⟨⟨List.mem_of_getElem? (i := 410) rfl, by decide +kernel⟩, ini_Line, ⟨by decide, by decide⟩, by decide +kernel⟩
theorem im_Line_drop : gin (.instanceMethod y_Line_drop) := gin_of 408 (by decide +kernel) (by decide +kernel)
theorem se_Line_drop : gin (.selects R_Line y_Line_drop y_Line_drop) := gin_of 409 (by decide +kernel) (by decide +kernel)
theorem cv_Line_drop : CV mt_Line_drop := ⟨im_Line_drop, se_Line_drop⟩
theorem gf_Ten_25 : gin (.fieldLink R_Ten 25 R_Ten "locals" "[I") := gin_of 180 (by decide +kernel) (by decide +kernel)
theorem fl_Ten_25 : FL R_Ten 25 4 2 := ⟨R_Ten, T_Ten, 13, rfl, uw_Ten, by decide, Or.inl gf_Ten_25⟩
theorem lk_Ten_100 : gin (.methodLink R_Ten 100 y_JA_fill) := gin_of 411 (by decide +kernel) (by decide +kernel)
theorem gf_Host_25 : gin (.fieldLink R_Host 25 R_Host "slice" "I") := gin_of 233 (by decide +kernel) (by decide +kernel)
theorem fl_Host_25 : FL R_Host 25 5 4 := ⟨R_Host, T_Host, 5, rfl, uw_Host, by decide, Or.inl gf_Host_25⟩
theorem gf_Host_145 : gin (.fieldLink R_Host 145 R_Ten "endSlice" "I") := gin_of 201 (by decide +kernel) (by decide +kernel)
theorem fp_Host_145 {y : MethodName} (hy : y.cls = R_Host) : FP y 145 4 12 .int := ⟨R_Ten, T_Ten, 13, ty_Ten, rfl, uw_Ten, by decide, tk_Ten, nm_Ten, rfl, Or.inl ⟨by rw [hy]; exact gf_Host_145, Or.inl rfl⟩⟩
theorem lk_Host_179 : gin (.methodLink R_Host 179 y_Ten_dropAll) := gin_of 399 (by decide +kernel) (by decide +kernel)
set_option maxRecDepth 40000 in
theorem cz_Ten_dropAll : CZ mt_Ten_dropAll 0 := ⟨⟨List.mem_of_getElem? (i := 402) rfl, by decide +kernel⟩, ini_Ten, ⟨by decide, by decide⟩, by decide +kernel⟩
theorem im_Ten_dropAll : gin (.instanceMethod y_Ten_dropAll) := gin_of 400 (by decide +kernel) (by decide +kernel)
theorem se_Ten_dropAll : gin (.selects R_Ten y_Ten_dropAll y_Ten_dropAll) := gin_of 401 (by decide +kernel) (by decide +kernel)
theorem cv_Ten_dropAll : CV mt_Ten_dropAll := ⟨im_Ten_dropAll, se_Ten_dropAll⟩
theorem gf_Host_205 : gin (.fieldLink R_Host 205 R_Ten "stack" "LTenantHost$Stack;") := gin_of 179 (by decide +kernel) (by decide +kernel)
theorem fl_Host_205 : FL R_Host 205 4 1 := ⟨R_Ten, T_Ten, 13, rfl, uw_Ten, by decide, Or.inl gf_Host_205⟩
theorem lk_Host_185 : gin (.methodLink R_Host 185 y_Host_end) := gin_of 395 (by decide +kernel) (by decide +kernel)
set_option maxRecDepth 40000 in
theorem cz_Host_end : CZ mt_Host_end 2 := ⟨⟨List.mem_of_getElem? (i := 398) rfl, by decide +kernel⟩, ini_Host, ⟨by decide, by decide⟩, by decide +kernel⟩
theorem im_Host_end : gin (.instanceMethod y_Host_end) := gin_of 397 (by decide +kernel) (by decide +kernel)
theorem se_Host_end : gin (.selects R_Host y_Host_end y_Host_end) := gin_of 8 (by decide +kernel) (by decide +kernel)
theorem cv_Host_end : CV mt_Host_end := ⟨im_Host_end, se_Host_end⟩
theorem lk_Host_276 : gin (.methodLink R_Host 276 y_Heap_rowOf) := gin_of 516 (by decide +kernel) (by decide +kernel)
set_option maxRecDepth 40000 in
theorem cz_Heap_rowOf : CZ mt_Heap_rowOf 1 := ⟨⟨List.mem_of_getElem? (i := 519) rfl, by decide +kernel⟩, ini_Heap, ⟨by decide, by decide⟩, by decide +kernel⟩
theorem im_Heap_rowOf : gin (.instanceMethod y_Heap_rowOf) := gin_of 517 (by decide +kernel) (by decide +kernel)
theorem se_Heap_rowOf : gin (.selects R_Heap y_Heap_rowOf y_Heap_rowOf) := gin_of 518 (by decide +kernel) (by decide +kernel)
theorem cv_Heap_rowOf : CV mt_Heap_rowOf := ⟨im_Heap_rowOf, se_Heap_rowOf⟩
theorem lk_Host_222 : gin (.methodLink R_Host 222 y_Stk_put) := gin_of 456 (by decide +kernel) (by decide +kernel)
theorem gf_Host_196 : gin (.fieldLink R_Host 196 R_Ten "position" "I") := gin_of 195 (by decide +kernel) (by decide +kernel)
theorem fp_Host_196 {y : MethodName} (hy : y.cls = R_Host) : FP y 196 4 9 .int := ⟨R_Ten, T_Ten, 13, ty_Ten, rfl, uw_Ten, by decide, tk_Ten, nm_Ten, rfl, Or.inl ⟨by rw [hy]; exact gf_Host_196, Or.inl rfl⟩⟩
theorem gf_Heap_24 : gin (.fieldLink R_Heap 24 R_Heap "made" "J") := gin_of 122 (by decide +kernel) (by decide +kernel)
theorem fl_Heap_24 : FL R_Heap 24 0 4 := ⟨R_Heap, T_Heap, 7, rfl, uw_Heap, by decide, Or.inl gf_Heap_24⟩
theorem lk_Heap_41 : gin (.methodLink R_Heap 41 y_Heap_isIn) := gin_of 496 (by decide +kernel) (by decide +kernel)
set_option maxRecDepth 40000 in
theorem cz_Heap_isIn : CZ mt_Heap_isIn 2 := ⟨⟨List.mem_of_getElem? (i := 498) rfl, by decide +kernel⟩, ini_Heap, ⟨by decide, by decide⟩, by decide +kernel⟩
theorem sm_Heap_isIn : gin (.static y_Heap_isIn) := gin_of 497 (by decide +kernel) (by decide +kernel)
theorem fp_Heap_24 {y : MethodName} (hy : y.cls = R_Heap) : FP y 24 0 4 .long := ⟨R_Heap, T_Heap, 7, ty_Heap, rfl, uw_Heap, by decide, tk_Heap, nm_Heap, rfl, Or.inl ⟨by rw [hy]; exact gf_Heap_24, Or.inl rfl⟩⟩
theorem lk_Heap_45 : gin (.methodLink R_Heap 45 y_Heap_fill) := gin_of 507 (by decide +kernel) (by decide +kernel)
theorem kc_JL_314 : gin (.constantLong R_JL 314 6148914691236517205) := gin_of 476 (by decide +kernel) (by decide +kernel)
theorem kc_JL_316 : gin (.constantLong R_JL 316 3689348814741910323) := gin_of 477 (by decide +kernel) (by decide +kernel)
theorem kc_JL_318 : gin (.constantLong R_JL 318 1085102592571150095) := gin_of 478 (by decide +kernel) (by decide +kernel)
theorem lk_Heap_35 : gin (.methodLink R_Heap 35 y_JL_bitCount) := gin_of 473 (by decide +kernel) (by decide +kernel)
theorem ini_JL : gin (.initialized R_JL) := gin_of 55 (by decide +kernel) (by decide +kernel)
set_option maxRecDepth 40000 in
theorem cz_JL_bitCount : CZ mt_JL_bitCount 1 := ⟨⟨List.mem_of_getElem? (i := 475) rfl, by decide +kernel⟩, ini_JL, ⟨by decide, by decide⟩, by decide +kernel⟩
theorem sm_JL_bitCount : gin (.static y_JL_bitCount) := gin_of 474 (by decide +kernel) (by decide +kernel)
theorem gf_Heap_28 : gin (.fieldLink R_Heap 28 R_Heap "reserved" "I") := gin_of 125 (by decide +kernel) (by decide +kernel)
theorem fl_Heap_28 : FL R_Heap 28 0 5 := ⟨R_Heap, T_Heap, 7, rfl, uw_Heap, by decide, Or.inl gf_Heap_28⟩
theorem gf_Heap_32 : gin (.fieldLink R_Heap 32 R_Heap "collected" "I") := gin_of 127 (by decide +kernel) (by decide +kernel)
theorem fl_Heap_32 : FL R_Heap 32 0 6 := ⟨R_Heap, T_Heap, 7, rfl, uw_Heap, by decide, Or.inl gf_Heap_32⟩
theorem fp_Heap_32 {y : MethodName} (hy : y.cls = R_Heap) : FP y 32 0 6 .int := ⟨R_Heap, T_Heap, 7, ty_Heap, rfl, uw_Heap, by decide, tk_Heap, nm_Heap, rfl, Or.inl ⟨by rw [hy]; exact gf_Heap_32, Or.inl rfl⟩⟩
theorem kc_Heap_49 : gin (.constantLong R_Heap 49 8589934080) := gin_of 495 (by decide +kernel) (by decide +kernel)
theorem lk_Ten_66 : gin (.methodLink R_Ten 66 y_Stk_cells) := gin_of 483 (by decide +kernel) (by decide +kernel)
set_option maxRecDepth 40000 in
theorem cz_Stk_cells : CZ mt_Stk_cells 0 := ⟨⟨List.mem_of_getElem? (i := 486) rfl, by decide +kernel⟩, ini_Stk, ⟨by decide, by decide⟩, by decide +kernel⟩
theorem im_Stk_cells : gin (.instanceMethod y_Stk_cells) := gin_of 484 (by decide +kernel) (by decide +kernel)
theorem se_Stk_cells : gin (.selects R_Stk y_Stk_cells y_Stk_cells) := gin_of 485 (by decide +kernel) (by decide +kernel)
theorem cv_Stk_cells : CV mt_Stk_cells := ⟨im_Stk_cells, se_Stk_cells⟩
theorem gf_Ten_70 : gin (.fieldLink R_Ten 70 R_Line "count" "I") := gin_of 169 (by decide +kernel) (by decide +kernel)
theorem fl_Ten_70 : FL R_Ten 70 1 1 := ⟨R_Line, T_Line, 2, rfl, uw_Line, by decide, Or.inl gf_Ten_70⟩
theorem lk_Ten_73 : gin (.methodLink R_Ten 73 y_Line_itemAt) := gin_of 487 (by decide +kernel) (by decide +kernel)
set_option maxRecDepth 40000 in
theorem cz_Line_itemAt : CZ mt_Line_itemAt 1 := ⟨⟨List.mem_of_getElem? (i := 490) rfl, by decide +kernel⟩, ini_Line, ⟨by decide, by decide⟩, by decide +kernel⟩
theorem im_Line_itemAt : gin (.instanceMethod y_Line_itemAt) := gin_of 488 (by decide +kernel) (by decide +kernel)
theorem se_Line_itemAt : gin (.selects R_Line y_Line_itemAt y_Line_itemAt) := gin_of 489 (by decide +kernel) (by decide +kernel)
theorem cv_Line_itemAt : CV mt_Line_itemAt := ⟨im_Line_itemAt, se_Line_itemAt⟩
theorem lk_Ten_77 : gin (.methodLink R_Ten 77 y_Heap_reachedFrom) := gin_of 491 (by decide +kernel) (by decide +kernel)
set_option maxRecDepth 40000 in
theorem cz_Heap_reachedFrom : CZ mt_Heap_reachedFrom 1 := ⟨⟨List.mem_of_getElem? (i := 494) rfl, by decide +kernel⟩, ini_Heap, ⟨by decide, by decide⟩, by decide +kernel⟩
theorem im_Heap_reachedFrom : gin (.instanceMethod y_Heap_reachedFrom) := gin_of 492 (by decide +kernel) (by decide +kernel)
theorem se_Heap_reachedFrom : gin (.selects R_Heap y_Heap_reachedFrom y_Heap_reachedFrom) := gin_of 493 (by decide +kernel) (by decide +kernel)
theorem cv_Heap_reachedFrom : CV mt_Heap_reachedFrom := ⟨im_Heap_reachedFrom, se_Heap_reachedFrom⟩
theorem lk_Ten_81 : gin (.methodLink R_Ten 81 y_Heap_fits) := gin_of 469 (by decide +kernel) (by decide +kernel)
set_option maxRecDepth 40000 in
theorem cz_Heap_fits : CZ mt_Heap_fits 1 := ⟨⟨List.mem_of_getElem? (i := 472) rfl, by decide +kernel⟩, ini_Heap, ⟨by decide, by decide⟩, by decide +kernel⟩
theorem im_Heap_fits : gin (.instanceMethod y_Heap_fits) := gin_of 470 (by decide +kernel) (by decide +kernel)
theorem se_Heap_fits : gin (.selects R_Heap y_Heap_fits y_Heap_fits) := gin_of 471 (by decide +kernel) (by decide +kernel)
theorem cv_Heap_fits : CV mt_Heap_fits := ⟨im_Heap_fits, se_Heap_fits⟩
theorem lk_Ten_85 : gin (.methodLink R_Ten 85 y_Ten_liveCells) := gin_of 479 (by decide +kernel) (by decide +kernel)
set_option maxRecDepth 40000 in
theorem cz_Ten_liveCells : CZ mt_Ten_liveCells 0 := ⟨⟨List.mem_of_getElem? (i := 482) rfl, by decide +kernel⟩, ini_Ten, ⟨by decide, by decide⟩, by decide +kernel⟩
theorem im_Ten_liveCells : gin (.instanceMethod y_Ten_liveCells) := gin_of 480 (by decide +kernel) (by decide +kernel)
theorem se_Ten_liveCells : gin (.selects R_Ten y_Ten_liveCells y_Ten_liveCells) := gin_of 481 (by decide +kernel) (by decide +kernel)
theorem cv_Ten_liveCells : CV mt_Ten_liveCells := ⟨im_Ten_liveCells, se_Ten_liveCells⟩
theorem lk_Ten_88 : gin (.methodLink R_Ten 88 y_Heap_keepOnly) := gin_of 499 (by decide +kernel) (by decide +kernel)
set_option maxRecDepth 40000 in
theorem cz_Heap_keepOnly : CZ mt_Heap_keepOnly 1 := ⟨⟨List.mem_of_getElem? (i := 502) rfl, by decide +kernel⟩, ini_Heap, ⟨by decide, by decide⟩, by decide +kernel⟩
theorem im_Heap_keepOnly : gin (.instanceMethod y_Heap_keepOnly) := gin_of 500 (by decide +kernel) (by decide +kernel)
theorem se_Heap_keepOnly : gin (.selects R_Heap y_Heap_keepOnly y_Heap_keepOnly) := gin_of 501 (by decide +kernel) (by decide +kernel)
theorem cv_Heap_keepOnly : CV mt_Heap_keepOnly := ⟨im_Heap_keepOnly, se_Heap_keepOnly⟩
theorem lk_Host_270 : gin (.methodLink R_Host 270 y_Ten_hasRoom) := gin_of 465 (by decide +kernel) (by decide +kernel)
set_option maxRecDepth 40000 in
theorem cz_Ten_hasRoom : CZ mt_Ten_hasRoom 1 := ⟨⟨List.mem_of_getElem? (i := 468) rfl, by decide +kernel⟩, ini_Ten, ⟨by decide, by decide⟩, by decide +kernel⟩
theorem im_Ten_hasRoom : gin (.instanceMethod y_Ten_hasRoom) := gin_of 466 (by decide +kernel) (by decide +kernel)
theorem se_Ten_hasRoom : gin (.selects R_Ten y_Ten_hasRoom y_Ten_hasRoom) := gin_of 467 (by decide +kernel) (by decide +kernel)
theorem cv_Ten_hasRoom : CV mt_Ten_hasRoom := ⟨im_Ten_hasRoom, se_Ten_hasRoom⟩
theorem lk_Host_273 : gin (.methodLink R_Host 273 y_Heap_make) := gin_of 503 (by decide +kernel) (by decide +kernel)
set_option maxRecDepth 40000 in
theorem cz_Heap_make : CZ mt_Heap_make 1 := ⟨⟨List.mem_of_getElem? (i := 506) rfl, by decide +kernel⟩, ini_Heap, ⟨by decide, by decide⟩, by decide +kernel⟩
theorem im_Heap_make : gin (.instanceMethod y_Heap_make) := gin_of 504 (by decide +kernel) (by decide +kernel)
theorem se_Heap_make : gin (.selects R_Heap y_Heap_make y_Heap_make) := gin_of 505 (by decide +kernel) (by decide +kernel)
theorem cv_Heap_make : CV mt_Heap_make := ⟨im_Heap_make, se_Heap_make⟩
theorem lk_Host_245 : gin (.methodLink R_Host 245 y_Stk_putReference) := gin_of 508 (by decide +kernel) (by decide +kernel)
set_option maxRecDepth 40000 in
theorem cz_Stk_putReference : CZ mt_Stk_putReference 1 := ⟨⟨List.mem_of_getElem? (i := 511) rfl, by decide +kernel⟩, ini_Stk, ⟨by decide, by decide⟩, by decide +kernel⟩
theorem im_Stk_putReference : gin (.instanceMethod y_Stk_putReference) := gin_of 509 (by decide +kernel) (by decide +kernel)
theorem se_Stk_putReference : gin (.selects R_Stk y_Stk_putReference y_Stk_putReference) := gin_of 510 (by decide +kernel) (by decide +kernel)
theorem cv_Stk_putReference : CV mt_Stk_putReference := ⟨im_Stk_putReference, se_Stk_putReference⟩
theorem gf_Host_154 : gin (.fieldLink R_Host 154 R_Ten "outputs" "LTenantHost$Line;") := gin_of 187 (by decide +kernel) (by decide +kernel)
theorem fl_Host_154 : FL R_Host 154 4 5 := ⟨R_Ten, T_Ten, 13, rfl, uw_Ten, by decide, Or.inl gf_Host_154⟩
theorem gf_Heap_21 : gin (.fieldLink R_Heap 21 R_Heap "copies" "[I") := gin_of 121 (by decide +kernel) (by decide +kernel)
theorem fl_Heap_21 : FL R_Heap 21 0 3 := ⟨R_Heap, T_Heap, 7, rfl, uw_Heap, by decide, Or.inl gf_Heap_21⟩
theorem lk_Heap_51 : gin (.methodLink R_Heap 51 y_Heap_make) := gin_of 558 (by decide +kernel) (by decide +kernel)
theorem gf_Ten_47 : gin (.fieldLink R_Ten 47 R_Ten "state" "I") := gin_of 190 (by decide +kernel) (by decide +kernel)
theorem fl_Ten_47 : FL R_Ten 47 4 7 := ⟨R_Ten, T_Ten, 13, rfl, uw_Ten, by decide, Or.inl gf_Ten_47⟩
theorem gf_Ten_44 : gin (.fieldLink R_Ten 44 R_Ten "permitted" "[I") := gin_of 188 (by decide +kernel) (by decide +kernel)
theorem fl_Ten_44 : FL R_Ten 44 4 6 := ⟨R_Ten, T_Ten, 13, rfl, uw_Ten, by decide, Or.inl gf_Ten_44⟩
theorem lk_Host_280 : gin (.methodLink R_Host 280 y_Ten_may) := gin_of 546 (by decide +kernel) (by decide +kernel)
set_option maxRecDepth 40000 in
theorem cz_Ten_may : CZ mt_Ten_may 2 := ⟨⟨List.mem_of_getElem? (i := 549) rfl, by decide +kernel⟩, ini_Ten, ⟨by decide, by decide⟩, by decide +kernel⟩
theorem im_Ten_may : gin (.instanceMethod y_Ten_may) := gin_of 547 (by decide +kernel) (by decide +kernel)
theorem se_Ten_may : gin (.selects R_Ten y_Ten_may y_Ten_may) := gin_of 548 (by decide +kernel) (by decide +kernel)
theorem cv_Ten_may : CV mt_Ten_may := ⟨im_Ten_may, se_Ten_may⟩
theorem lk_Host_283 : gin (.methodLink R_Host 283 y_Stk_top) := gin_of 550 (by decide +kernel) (by decide +kernel)
theorem lk_Host_286 : gin (.methodLink R_Host 286 y_Heap_reachedFrom) := gin_of 551 (by decide +kernel) (by decide +kernel)
theorem lk_Host_182 : gin (.methodLink R_Host 182 y_Ten_isAlive) := gin_of 391 (by decide +kernel) (by decide +kernel)
set_option maxRecDepth 40000 in
theorem cz_Ten_isAlive : CZ mt_Ten_isAlive 0 := ⟨⟨List.mem_of_getElem? (i := 394) rfl, by decide +kernel⟩, ini_Ten, ⟨by decide, by decide⟩, by decide +kernel⟩
theorem im_Ten_isAlive : gin (.instanceMethod y_Ten_isAlive) := gin_of 392 (by decide +kernel) (by decide +kernel)
theorem se_Ten_isAlive : gin (.selects R_Ten y_Ten_isAlive y_Ten_isAlive) := gin_of 393 (by decide +kernel) (by decide +kernel)
theorem cv_Ten_isAlive : CV mt_Ten_isAlive := ⟨im_Ten_isAlive, se_Ten_isAlive⟩
theorem gf_Host_148 : gin (.fieldLink R_Host 148 R_Ten "mail" "LTenantHost$Line;") := gin_of 183 (by decide +kernel) (by decide +kernel)
theorem fl_Host_148 : FL R_Host 148 4 3 := ⟨R_Ten, T_Ten, 13, rfl, uw_Ten, by decide, Or.inl gf_Host_148⟩
theorem lk_Host_293 : gin (.methodLink R_Host 293 y_Heap_copyFrom) := gin_of 554 (by decide +kernel) (by decide +kernel)
set_option maxRecDepth 40000 in
theorem cz_Heap_copyFrom : CZ mt_Heap_copyFrom 3 := ⟨⟨List.mem_of_getElem? (i := 557) rfl, by decide +kernel⟩, ini_Heap, ⟨by decide, by decide⟩, by decide +kernel⟩
theorem im_Heap_copyFrom : gin (.instanceMethod y_Heap_copyFrom) := gin_of 555 (by decide +kernel) (by decide +kernel)
theorem se_Heap_copyFrom : gin (.selects R_Heap y_Heap_copyFrom y_Heap_copyFrom) := gin_of 556 (by decide +kernel) (by decide +kernel)
theorem cv_Heap_copyFrom : CV mt_Heap_copyFrom := ⟨im_Heap_copyFrom, se_Heap_copyFrom⟩
theorem lk_Host_290 : gin (.methodLink R_Host 290 y_Line_isFull) := gin_of 552 (by decide +kernel) (by decide +kernel)
theorem lk_Host_132 : gin (.methodLink R_Host 132 y_JL_bitCount) := gin_of 553 (by decide +kernel) (by decide +kernel)
theorem lk_Line_21 : gin (.methodLink R_Line 21 y_Line_itemAt) := gin_of 538 (by decide +kernel) (by decide +kernel)
theorem lk_Line_25 : gin (.methodLink R_Line 25 arraycopyName) := gin_of 539 (by decide +kernel) (by decide +kernel)
theorem na_ac : gin (.native arraycopyName) := gin_of 541 (by decide +kernel) (by decide +kernel)
theorem sm_ac : gin (.static arraycopyName) := gin_of 540 (by decide +kernel) (by decide +kernel)
theorem ini_sys : gin (.initialized "java/lang/System") := gin_of 56 (by decide +kernel) (by decide +kernel)
theorem aw_Line_25 : gin (.methodLink R_Line 25 arraycopyName) ∧ gin (.native arraycopyName) ∧ gin (.static arraycopyName) ∧ gin (.initialized "java/lang/System") := ⟨lk_Line_25, na_ac, sm_ac, ini_sys⟩
theorem fl_Host_176 : FL R_Host 176 4 8 := ⟨R_Ten, T_Ten, 13, rfl, uw_Ten, by decide, Or.inl gf_Host_176⟩
theorem fl_Host_196 : FL R_Host 196 4 9 := ⟨R_Ten, T_Ten, 13, rfl, uw_Ten, by decide, Or.inl gf_Host_196⟩
theorem lk_Host_199 : gin (.methodLink R_Host 199 y_Prog_opAt) := gin_of 416 (by decide +kernel) (by decide +kernel)
set_option maxRecDepth 40000 in
theorem cz_Prog_opAt : CZ mt_Prog_opAt 1 := ⟨⟨List.mem_of_getElem? (i := 419) rfl, by decide +kernel⟩, ini_Prog, ⟨by decide, by decide⟩, by decide +kernel⟩
theorem im_Prog_opAt : gin (.instanceMethod y_Prog_opAt) := gin_of 417 (by decide +kernel) (by decide +kernel)
theorem se_Prog_opAt : gin (.selects R_Prog y_Prog_opAt y_Prog_opAt) := gin_of 418 (by decide +kernel) (by decide +kernel)
theorem cv_Prog_opAt : CV mt_Prog_opAt := ⟨im_Prog_opAt, se_Prog_opAt⟩
theorem lk_Host_202 : gin (.methodLink R_Host 202 y_Prog_argAt) := gin_of 424 (by decide +kernel) (by decide +kernel)
set_option maxRecDepth 40000 in
theorem cz_Prog_argAt : CZ mt_Prog_argAt 1 := ⟨⟨List.mem_of_getElem? (i := 427) rfl, by decide +kernel⟩, ini_Prog, ⟨by decide, by decide⟩, by decide +kernel⟩
theorem im_Prog_argAt : gin (.instanceMethod y_Prog_argAt) := gin_of 425 (by decide +kernel) (by decide +kernel)
theorem se_Prog_argAt : gin (.selects R_Prog y_Prog_argAt y_Prog_argAt) := gin_of 426 (by decide +kernel) (by decide +kernel)
theorem cv_Prog_argAt : CV mt_Prog_argAt := ⟨im_Prog_argAt, se_Prog_argAt⟩
theorem gf_Host_125 : gin (.fieldLink R_Host 125 R_Ten "stepsDone" "I") := gin_of 199 (by decide +kernel) (by decide +kernel)
theorem fl_Host_125 : FL R_Host 125 4 11 := ⟨R_Ten, T_Ten, 13, rfl, uw_Ten, by decide, Or.inl gf_Host_125⟩
theorem fp_Host_125 {y : MethodName} (hy : y.cls = R_Host) : FP y 125 4 11 .int := ⟨R_Ten, T_Ten, 13, ty_Ten, rfl, uw_Ten, by decide, tk_Ten, nm_Ten, rfl, Or.inl ⟨by rw [hy]; exact gf_Host_125, Or.inl rfl⟩⟩
theorem lk_Host_215 : gin (.methodLink R_Host 215 y_Host_calculate) := gin_of 436 (by decide +kernel) (by decide +kernel)
set_option maxRecDepth 40000 in
theorem cz_Host_calculate : CZ mt_Host_calculate 2 := ⟨⟨List.mem_of_getElem? (i := 438) rfl, by decide +kernel⟩, ini_Host, ⟨by decide, by decide⟩, by decide +kernel⟩
theorem sm_Host_calculate : gin (.static y_Host_calculate) := gin_of 437 (by decide +kernel) (by decide +kernel)
theorem lk_Host_219 : gin (.methodLink R_Host 219 y_Host_divide) := gin_of 452 (by decide +kernel) (by decide +kernel)
set_option maxRecDepth 40000 in
theorem cz_Host_divide : CZ mt_Host_divide 1 := ⟨⟨List.mem_of_getElem? (i := 455) rfl, by decide +kernel⟩, ini_Host, ⟨by decide, by decide⟩, by decide +kernel⟩
theorem im_Host_divide : gin (.instanceMethod y_Host_divide) := gin_of 454 (by decide +kernel) (by decide +kernel)
theorem se_Host_divide : gin (.selects R_Host y_Host_divide y_Host_divide) := gin_of 11 (by decide +kernel) (by decide +kernel)
theorem cv_Host_divide : CV mt_Host_divide := ⟨im_Host_divide, se_Host_divide⟩
theorem gf_Host_160 : gin (.fieldLink R_Host 160 R_Ten "locals" "[I") := gin_of 181 (by decide +kernel) (by decide +kernel)
theorem fl_Host_160 : FL R_Host 160 4 2 := ⟨R_Ten, T_Ten, 13, rfl, uw_Ten, by decide, Or.inl gf_Host_160⟩
theorem lk_Host_229 : gin (.methodLink R_Host 229 y_Stk_putTopAgain) := gin_of 457 (by decide +kernel) (by decide +kernel)
set_option maxRecDepth 40000 in
theorem cz_Stk_putTopAgain : CZ mt_Stk_putTopAgain 0 := ⟨⟨List.mem_of_getElem? (i := 460) rfl, by decide +kernel⟩, ini_Stk, ⟨by decide, by decide⟩, by decide +kernel⟩
theorem im_Stk_putTopAgain : gin (.instanceMethod y_Stk_putTopAgain) := gin_of 458 (by decide +kernel) (by decide +kernel)
theorem se_Stk_putTopAgain : gin (.selects R_Stk y_Stk_putTopAgain y_Stk_putTopAgain) := gin_of 459 (by decide +kernel) (by decide +kernel)
theorem cv_Stk_putTopAgain : CV mt_Stk_putTopAgain := ⟨im_Stk_putTopAgain, se_Stk_putTopAgain⟩
theorem lk_Host_232 : gin (.methodLink R_Host 232 y_Host_makeCell) := gin_of 461 (by decide +kernel) (by decide +kernel)
set_option maxRecDepth 40000 in
theorem cz_Host_makeCell : CZ mt_Host_makeCell 1 := ⟨⟨List.mem_of_getElem? (i := 464) rfl, by decide +kernel⟩, ini_Host, ⟨by decide, by decide⟩, by decide +kernel⟩
theorem im_Host_makeCell : gin (.instanceMethod y_Host_makeCell) := gin_of 463 (by decide +kernel) (by decide +kernel)
theorem se_Host_makeCell : gin (.selects R_Host y_Host_makeCell y_Host_makeCell) := gin_of 12 (by decide +kernel) (by decide +kernel)
theorem cv_Host_makeCell : CV mt_Host_makeCell := ⟨im_Host_makeCell, se_Host_makeCell⟩
theorem lk_Host_235 : gin (.methodLink R_Host 235 y_Host_getPart) := gin_of 512 (by decide +kernel) (by decide +kernel)
set_option maxRecDepth 40000 in
theorem cz_Host_getPart : CZ mt_Host_getPart 2 := ⟨⟨List.mem_of_getElem? (i := 515) rfl, by decide +kernel⟩, ini_Host, ⟨by decide, by decide⟩, by decide +kernel⟩
theorem im_Host_getPart : gin (.instanceMethod y_Host_getPart) := gin_of 514 (by decide +kernel) (by decide +kernel)
theorem se_Host_getPart : gin (.selects R_Host y_Host_getPart y_Host_getPart) := gin_of 13 (by decide +kernel) (by decide +kernel)
theorem cv_Host_getPart : CV mt_Host_getPart := ⟨im_Host_getPart, se_Host_getPart⟩
theorem lk_Host_238 : gin (.methodLink R_Host 238 y_Host_setPart) := gin_of 520 (by decide +kernel) (by decide +kernel)
set_option maxRecDepth 40000 in
theorem cz_Host_setPart : CZ mt_Host_setPart 2 := ⟨⟨List.mem_of_getElem? (i := 523) rfl, by decide +kernel⟩, ini_Host, ⟨by decide, by decide⟩, by decide +kernel⟩
theorem im_Host_setPart : gin (.instanceMethod y_Host_setPart) := gin_of 522 (by decide +kernel) (by decide +kernel)
theorem se_Host_setPart : gin (.selects R_Host y_Host_setPart y_Host_setPart) := gin_of 14 (by decide +kernel) (by decide +kernel)
theorem cv_Host_setPart : CV mt_Host_setPart := ⟨im_Host_setPart, se_Host_setPart⟩
theorem lk_Host_241 : gin (.methodLink R_Host 241 y_Host_compare) := gin_of 524 (by decide +kernel) (by decide +kernel)
set_option maxRecDepth 40000 in
theorem cz_Host_compare : CZ mt_Host_compare 1 := ⟨⟨List.mem_of_getElem? (i := 526) rfl, by decide +kernel⟩, ini_Host, ⟨by decide, by decide⟩, by decide +kernel⟩
theorem sm_Host_compare : gin (.static y_Host_compare) := gin_of 525 (by decide +kernel) (by decide +kernel)
theorem lk_Host_248 : gin (.methodLink R_Host 248 y_Host_jumpIfZero) := gin_of 527 (by decide +kernel) (by decide +kernel)
set_option maxRecDepth 40000 in
theorem cz_Host_jumpIfZero : CZ mt_Host_jumpIfZero 2 := ⟨⟨List.mem_of_getElem? (i := 529) rfl, by decide +kernel⟩, ini_Host, ⟨by decide, by decide⟩, by decide +kernel⟩
theorem sm_Host_jumpIfZero : gin (.static y_Host_jumpIfZero) := gin_of 528 (by decide +kernel) (by decide +kernel)
theorem lk_Host_251 : gin (.methodLink R_Host 251 y_Host_putOut) := gin_of 530 (by decide +kernel) (by decide +kernel)
set_option maxRecDepth 40000 in
theorem cz_Host_putOut : CZ mt_Host_putOut 1 := ⟨⟨List.mem_of_getElem? (i := 533) rfl, by decide +kernel⟩, ini_Host, ⟨by decide, by decide⟩, by decide +kernel⟩
theorem im_Host_putOut : gin (.instanceMethod y_Host_putOut) := gin_of 532 (by decide +kernel) (by decide +kernel)
theorem se_Host_putOut : gin (.selects R_Host y_Host_putOut y_Host_putOut) := gin_of 15 (by decide +kernel) (by decide +kernel)
theorem cv_Host_putOut : CV mt_Host_putOut := ⟨im_Host_putOut, se_Host_putOut⟩
theorem lk_Host_254 : gin (.methodLink R_Host 254 y_Line_takeFirst) := gin_of 534 (by decide +kernel) (by decide +kernel)
set_option maxRecDepth 40000 in
theorem cz_Line_takeFirst : CZ mt_Line_takeFirst 0 := ⟨⟨List.mem_of_getElem? (i := 537) rfl, by decide +kernel⟩, ini_Line, ⟨by decide, by decide⟩, by decide +kernel⟩
theorem im_Line_takeFirst : gin (.instanceMethod y_Line_takeFirst) := gin_of 535 (by decide +kernel) (by decide +kernel)
theorem se_Line_takeFirst : gin (.selects R_Line y_Line_takeFirst y_Line_takeFirst) := gin_of 536 (by decide +kernel) (by decide +kernel)
theorem cv_Line_takeFirst : CV mt_Line_takeFirst := ⟨im_Line_takeFirst, se_Line_takeFirst⟩
theorem lk_Host_257 : gin (.methodLink R_Host 257 y_Host_sendTo) := gin_of 542 (by decide +kernel) (by decide +kernel)
set_option maxRecDepth 40000 in
theorem cz_Host_sendTo : CZ mt_Host_sendTo 2 := ⟨⟨List.mem_of_getElem? (i := 545) rfl, by decide +kernel⟩, ini_Host, ⟨by decide, by decide⟩, by decide +kernel⟩
theorem im_Host_sendTo : gin (.instanceMethod y_Host_sendTo) := gin_of 544 (by decide +kernel) (by decide +kernel)
theorem se_Host_sendTo : gin (.selects R_Host y_Host_sendTo y_Host_sendTo) := gin_of 16 (by decide +kernel) (by decide +kernel)
theorem cv_Host_sendTo : CV mt_Host_sendTo := ⟨im_Host_sendTo, se_Host_sendTo⟩
theorem lk_Host_260 : gin (.methodLink R_Host 260 y_Host_startOther) := gin_of 559 (by decide +kernel) (by decide +kernel)
set_option maxRecDepth 40000 in
theorem cz_Host_startOther : CZ mt_Host_startOther 2 := ⟨⟨List.mem_of_getElem? (i := 562) rfl, by decide +kernel⟩, ini_Host, ⟨by decide, by decide⟩, by decide +kernel⟩
theorem im_Host_startOther : gin (.instanceMethod y_Host_startOther) := gin_of 561 (by decide +kernel) (by decide +kernel)
theorem se_Host_startOther : gin (.selects R_Host y_Host_startOther y_Host_startOther) := gin_of 17 (by decide +kernel) (by decide +kernel)
theorem cv_Host_startOther : CV mt_Host_startOther := ⟨im_Host_startOther, se_Host_startOther⟩
theorem lk_Host_263 : gin (.methodLink R_Host 263 y_Host_stopOther) := gin_of 563 (by decide +kernel) (by decide +kernel)
set_option maxRecDepth 40000 in
theorem cz_Host_stopOther : CZ mt_Host_stopOther 2 := ⟨⟨List.mem_of_getElem? (i := 566) rfl, by decide +kernel⟩, ini_Host, ⟨by decide, by decide⟩, by decide +kernel⟩
theorem im_Host_stopOther : gin (.instanceMethod y_Host_stopOther) := gin_of 565 (by decide +kernel) (by decide +kernel)
theorem se_Host_stopOther : gin (.selects R_Host y_Host_stopOther y_Host_stopOther) := gin_of 18 (by decide +kernel) (by decide +kernel)
theorem cv_Host_stopOther : CV mt_Host_stopOther := ⟨im_Host_stopOther, se_Host_stopOther⟩
theorem gf_Host_151 : gin (.fieldLink R_Host 151 R_Line "count" "I") := gin_of 170 (by decide +kernel) (by decide +kernel)
theorem fl_Host_151 : FL R_Host 151 1 1 := ⟨R_Line, T_Line, 2, rfl, uw_Line, by decide, Or.inl gf_Host_151⟩
theorem gf_Host_37 : gin (.fieldLink R_Host 37 R_Host "length" "I") := gin_of 229 (by decide +kernel) (by decide +kernel)
theorem fl_Host_37 : FL R_Host 37 5 0 := ⟨R_Host, T_Host, 5, rfl, uw_Host, by decide, Or.inl gf_Host_37⟩
theorem fl_Host_95 : FL R_Host 95 4 10 := ⟨R_Ten, T_Ten, 13, rfl, uw_Ten, by decide, Or.inl gf_Host_95⟩
theorem lk_Host_189 : gin (.methodLink R_Host 189 y_Host_mustWait) := gin_of 412 (by decide +kernel) (by decide +kernel)
set_option maxRecDepth 40000 in
theorem cz_Host_mustWait : CZ mt_Host_mustWait 1 := ⟨⟨List.mem_of_getElem? (i := 415) rfl, by decide +kernel⟩, ini_Host, ⟨by decide, by decide⟩, by decide +kernel⟩
theorem im_Host_mustWait : gin (.instanceMethod y_Host_mustWait) := gin_of 414 (by decide +kernel) (by decide +kernel)
theorem se_Host_mustWait : gin (.selects R_Host y_Host_mustWait y_Host_mustWait) := gin_of 9 (by decide +kernel) (by decide +kernel)
theorem cv_Host_mustWait : CV mt_Host_mustWait := ⟨im_Host_mustWait, se_Host_mustWait⟩
theorem lk_Host_193 : gin (.methodLink R_Host 193 y_Host_doInstruction) := gin_of 420 (by decide +kernel) (by decide +kernel)
set_option maxRecDepth 40000 in
theorem cz_Host_doInstruction : CZ mt_Host_doInstruction 1 := ⟨⟨List.mem_of_getElem? (i := 423) rfl, by decide +kernel⟩, ini_Host, ⟨by decide, by decide⟩, by decide +kernel⟩
theorem im_Host_doInstruction : gin (.instanceMethod y_Host_doInstruction) := gin_of 422 (by decide +kernel) (by decide +kernel)
theorem se_Host_doInstruction : gin (.selects R_Host y_Host_doInstruction y_Host_doInstruction) := gin_of 10 (by decide +kernel) (by decide +kernel)
theorem cv_Host_doInstruction : CV mt_Host_doInstruction := ⟨im_Host_doInstruction, se_Host_doInstruction⟩
theorem lk_Host_115 : gin (.methodLink R_Host 115 y_JM_floorMod) := gin_of 384 (by decide +kernel) (by decide +kernel)
theorem ini_JM : gin (.initialized R_JM) := gin_of 46 (by decide +kernel) (by decide +kernel)
set_option maxRecDepth 40000 in
theorem cz_JM_floorMod : CZ mt_JM_floorMod 2 := ⟨⟨List.mem_of_getElem? (i := 386) rfl, by decide +kernel⟩, ini_JM, ⟨by decide, by decide⟩, by decide +kernel⟩
theorem sm_JM_floorMod : gin (.static y_JM_floorMod) := gin_of 385 (by decide +kernel) (by decide +kernel)
theorem lk_Host_118 : gin (.methodLink R_Host 118 y_Host_doSlice) := gin_of 387 (by decide +kernel) (by decide +kernel)
set_option maxRecDepth 40000 in
theorem cz_Host_doSlice : CZ mt_Host_doSlice 1 := ⟨⟨List.mem_of_getElem? (i := 390) rfl, by decide +kernel⟩, ini_Host, ⟨by decide, by decide⟩, by decide +kernel⟩
theorem im_Host_doSlice : gin (.instanceMethod y_Host_doSlice) := gin_of 389 (by decide +kernel) (by decide +kernel)
theorem se_Host_doSlice : gin (.selects R_Host y_Host_doSlice y_Host_doSlice) := gin_of 7 (by decide +kernel) (by decide +kernel)
theorem cv_Host_doSlice : CV mt_Host_doSlice := ⟨im_Host_doSlice, se_Host_doSlice⟩
theorem fp_Host_25 {y : MethodName} (hy : y.cls = R_Host) : FP y 25 5 4 .int := ⟨R_Host, T_Host, 5, ty_Host, rfl, uw_Host, by decide, tk_Host, nm_Host, rfl, Or.inl ⟨by rw [hy]; exact gf_Host_25, Or.inl rfl⟩⟩
theorem gf_Host_128 : gin (.fieldLink R_Host 128 R_Heap "made" "J") := gin_of 124 (by decide +kernel) (by decide +kernel)
theorem fl_Host_128 : FL R_Host 128 0 4 := ⟨R_Heap, T_Heap, 7, rfl, uw_Heap, by decide, Or.inl gf_Host_128⟩
theorem lk_Host_138 : gin (.methodLink R_Host 138 y_Ten_liveCells) := gin_of 583 (by decide +kernel) (by decide +kernel)
theorem gf_Host_142 : gin (.fieldLink R_Host 142 R_Heap "collected" "I") := gin_of 128 (by decide +kernel) (by decide +kernel)
theorem fl_Host_142 : FL R_Host 142 0 6 := ⟨R_Heap, T_Heap, 7, rfl, uw_Heap, by decide, Or.inl gf_Host_142⟩
theorem fl_Host_145 : FL R_Host 145 4 12 := ⟨R_Ten, T_Ten, 13, rfl, uw_Ten, by decide, Or.inl gf_Host_145⟩
theorem lk_Host_157 : gin (.methodLink R_Host 157 y_Line_itemAt) := gin_of 600 (by decide +kernel) (by decide +kernel)
theorem gf_Host_166 : gin (.fieldLink R_Host 166 R_Heap "lefts" "[I") := gin_of 118 (by decide +kernel) (by decide +kernel)
theorem fl_Host_166 : FL R_Host 166 0 1 := ⟨R_Heap, T_Heap, 7, rfl, uw_Heap, by decide, Or.inl gf_Host_166⟩
theorem gf_Host_163 : gin (.fieldLink R_Host 163 R_Heap "rights" "[I") := gin_of 120 (by decide +kernel) (by decide +kernel)
theorem fl_Host_163 : FL R_Host 163 0 2 := ⟨R_Heap, T_Heap, 7, rfl, uw_Heap, by decide, Or.inl gf_Host_163⟩
theorem gf_Host_169 : gin (.fieldLink R_Host 169 R_Heap "nums" "[I") := gin_of 116 (by decide +kernel) (by decide +kernel)
theorem fl_Host_169 : FL R_Host 169 0 0 := ⟨R_Heap, T_Heap, 7, rfl, uw_Heap, by decide, Or.inl gf_Host_169⟩
theorem lk_Mod_105 : gin (.methodLink R_Mod 105 y_Mod_four) := gin_of 722 (by decide +kernel) (by decide +kernel)
theorem ini_Mod : gin (.initialized R_Mod) := gin_of 52 (by decide +kernel) (by decide +kernel)
set_option maxRecDepth 40000 in
theorem cz_Mod_four : CZ mt_Mod_four 1 := ⟨⟨List.mem_of_getElem? (i := 724) rfl, by decide +kernel⟩, ini_Mod, ⟨by decide, by decide⟩, by decide +kernel⟩
theorem sm_Mod_four : gin (.static y_Mod_four) := gin_of 723 (by decide +kernel) (by decide +kernel)
theorem gf_Mod_22 : gin (.fieldLink R_Mod 22 R_Mod "sealed" "[Z") := gin_of 623 (by decide +kernel) (by decide +kernel)
theorem fl_Mod_22 : FL R_Mod 22 6 5 := ⟨R_Mod, T_Mod, 33, rfl, uw_Mod, by decide, Or.inl gf_Mod_22⟩
theorem gf_Mod_19 : gin (.fieldLink R_Mod 19 R_Mod "many" "[I") := gin_of 622 (by decide +kernel) (by decide +kernel)
theorem fl_Mod_19 : FL R_Mod 19 6 4 := ⟨R_Mod, T_Mod, 33, rfl, uw_Mod, by decide, Or.inl gf_Mod_19⟩
theorem lk_Mod_109 : gin (.methodLink R_Mod 109 y_Mod_greatest) := gin_of 725 (by decide +kernel) (by decide +kernel)
set_option maxRecDepth 40000 in
theorem cz_Mod_greatest : CZ mt_Mod_greatest 1 := ⟨⟨List.mem_of_getElem? (i := 727) rfl, by decide +kernel⟩, ini_Mod, ⟨by decide, by decide⟩, by decide +kernel⟩
theorem sm_Mod_greatest : gin (.static y_Mod_greatest) := gin_of 726 (by decide +kernel) (by decide +kernel)
theorem gf_Mod_7 : gin (.fieldLink R_Mod 7 R_Mod "ops" "[I") := gin_of 619 (by decide +kernel) (by decide +kernel)
theorem fl_Mod_7 : FL R_Mod 7 6 1 := ⟨R_Mod, T_Mod, 33, rfl, uw_Mod, by decide, Or.inl gf_Mod_7⟩
theorem gf_Mod_13 : gin (.fieldLink R_Mod 13 R_Mod "argOf" "[I") := gin_of 620 (by decide +kernel) (by decide +kernel)
theorem fl_Mod_13 : FL R_Mod 13 6 2 := ⟨R_Mod, T_Mod, 33, rfl, uw_Mod, by decide, Or.inl gf_Mod_13⟩
theorem lk_Mod_113 : gin (.methodLink R_Mod 113 y_Mod_takes) := gin_of 743 (by decide +kernel) (by decide +kernel)
set_option maxRecDepth 40000 in
theorem cz_Mod_takes : CZ mt_Mod_takes 3 := ⟨⟨List.mem_of_getElem? (i := 745) rfl, by decide +kernel⟩, ini_Mod, ⟨by decide, by decide⟩, by decide +kernel⟩
theorem sm_Mod_takes : gin (.static y_Mod_takes) := gin_of 744 (by decide +kernel) (by decide +kernel)
theorem lk_Mod_117 : gin (.methodLink R_Mod 117 y_Mod_puts) := gin_of 746 (by decide +kernel) (by decide +kernel)
set_option maxRecDepth 40000 in
theorem cz_Mod_puts : CZ mt_Mod_puts 3 := ⟨⟨List.mem_of_getElem? (i := 748) rfl, by decide +kernel⟩, ini_Mod, ⟨by decide, by decide⟩, by decide +kernel⟩
theorem sm_Mod_puts : gin (.static y_Mod_puts) := gin_of 747 (by decide +kernel) (by decide +kernel)
theorem lk_Mod_120 : gin (.methodLink R_Mod 120 y_Mod_size) := gin_of 749 (by decide +kernel) (by decide +kernel)
set_option maxRecDepth 40000 in
theorem cz_Mod_size : CZ mt_Mod_size 1 := ⟨⟨List.mem_of_getElem? (i := 751) rfl, by decide +kernel⟩, ini_Mod, ⟨by decide, by decide⟩, by decide +kernel⟩
theorem sm_Mod_size : gin (.static y_Mod_size) := gin_of 750 (by decide +kernel) (by decide +kernel)
theorem gf_Mod_16 : gin (.fieldLink R_Mod 16 R_Mod "shapes" "[I") := gin_of 621 (by decide +kernel) (by decide +kernel)
theorem fl_Mod_16 : FL R_Mod 16 6 3 := ⟨R_Mod, T_Mod, 33, rfl, uw_Mod, by decide, Or.inl gf_Mod_16⟩
theorem lk_Mod_123 : gin (.methodLink R_Mod 123 y_Mod_leaves) := gin_of 740 (by decide +kernel) (by decide +kernel)
set_option maxRecDepth 40000 in
theorem cz_Mod_leaves : CZ mt_Mod_leaves 3 := ⟨⟨List.mem_of_getElem? (i := 742) rfl, by decide +kernel⟩, ini_Mod, ⟨by decide, by decide⟩, by decide +kernel⟩
theorem sm_Mod_leaves : gin (.static y_Mod_leaves) := gin_of 741 (by decide +kernel) (by decide +kernel)
theorem lk_Mod_126 : gin (.methodLink R_Mod 126 y_Mod_reach) := gin_of 752 (by decide +kernel) (by decide +kernel)
set_option maxRecDepth 40000 in
theorem cz_Mod_reach : CZ mt_Mod_reach 3 := ⟨⟨List.mem_of_getElem? (i := 755) rfl, by decide +kernel⟩, ini_Mod, ⟨by decide, by decide⟩, by decide +kernel⟩
theorem im_Mod_reach : gin (.instanceMethod y_Mod_reach) := gin_of 754 (by decide +kernel) (by decide +kernel)
theorem se_Mod_reach : gin (.selects R_Mod y_Mod_reach y_Mod_reach) := gin_of 20 (by decide +kernel) (by decide +kernel)
theorem cv_Mod_reach : CV mt_Mod_reach := ⟨im_Mod_reach, se_Mod_reach⟩
theorem lk_Mod_130 : gin (.methodLink R_Mod 130 y_Mod_flows) := gin_of 736 (by decide +kernel) (by decide +kernel)
set_option maxRecDepth 40000 in
theorem cz_Mod_flows : CZ mt_Mod_flows 2 := ⟨⟨List.mem_of_getElem? (i := 739) rfl, by decide +kernel⟩, ini_Mod, ⟨by decide, by decide⟩, by decide +kernel⟩
theorem im_Mod_flows : gin (.instanceMethod y_Mod_flows) := gin_of 738 (by decide +kernel) (by decide +kernel)
theorem se_Mod_flows : gin (.selects R_Mod y_Mod_flows y_Mod_flows) := gin_of 19 (by decide +kernel) (by decide +kernel)
theorem cv_Mod_flows : CV mt_Mod_flows := ⟨im_Mod_flows, se_Mod_flows⟩
theorem gf_Mod_134 : gin (.fieldLink R_Mod 134 R_Mod "shared" "I") := gin_of 628 (by decide +kernel) (by decide +kernel)
theorem fl_Mod_134 : FL R_Mod 134 6 10 := ⟨R_Mod, T_Mod, 33, rfl, uw_Mod, by decide, Or.inl gf_Mod_134⟩
theorem gf_Mod_29 : gin (.fieldLink R_Mod 29 R_Mod "num" "[I") := gin_of 625 (by decide +kernel) (by decide +kernel)
theorem fl_Mod_29 : FL R_Mod 29 6 7 := ⟨R_Mod, T_Mod, 33, rfl, uw_Mod, by decide, Or.inl gf_Mod_29⟩
theorem gf_Mod_32 : gin (.fieldLink R_Mod 32 R_Mod "left" "[I") := gin_of 626 (by decide +kernel) (by decide +kernel)
theorem fl_Mod_32 : FL R_Mod 32 6 8 := ⟨R_Mod, T_Mod, 33, rfl, uw_Mod, by decide, Or.inl gf_Mod_32⟩
theorem gf_Mod_35 : gin (.fieldLink R_Mod 35 R_Mod "right" "[I") := gin_of 627 (by decide +kernel) (by decide +kernel)
theorem fl_Mod_35 : FL R_Mod 35 6 9 := ⟨R_Mod, T_Mod, 33, rfl, uw_Mod, by decide, Or.inl gf_Mod_35⟩
theorem fp_Mod_134 {y : MethodName} (hy : y.cls = R_Mod) : FP y 134 6 10 .int := ⟨R_Mod, T_Mod, 33, ty_Mod, rfl, uw_Mod, by decide, tk_Mod, nm_Mod, rfl, Or.inl ⟨by rw [hy]; exact gf_Mod_134, Or.inl rfl⟩⟩
theorem lk_Mod_137 : gin (.methodLink R_Mod 137 y_Mod_isShared) := gin_of 764 (by decide +kernel) (by decide +kernel)
set_option maxRecDepth 40000 in
theorem cz_Mod_isShared : CZ mt_Mod_isShared 1 := ⟨⟨List.mem_of_getElem? (i := 767) rfl, by decide +kernel⟩, ini_Mod, ⟨by decide, by decide⟩, by decide +kernel⟩
theorem im_Mod_isShared : gin (.instanceMethod y_Mod_isShared) := gin_of 766 (by decide +kernel) (by decide +kernel)
theorem se_Mod_isShared : gin (.selects R_Mod y_Mod_isShared y_Mod_isShared) := gin_of 21 (by decide +kernel) (by decide +kernel)
theorem cv_Mod_isShared : CV mt_Mod_isShared := ⟨im_Mod_isShared, se_Mod_isShared⟩
theorem gf_Mod_47 : gin (.fieldLink R_Mod 47 R_Mod "cells" "[I") := gin_of 632 (by decide +kernel) (by decide +kernel)
theorem fl_Mod_47 : FL R_Mod 47 6 14 := ⟨R_Mod, T_Mod, 33, rfl, uw_Mod, by decide, Or.inl gf_Mod_47⟩
theorem gf_Mod_50 : gin (.fieldLink R_Mod 50 R_Mod "most" "[I") := gin_of 633 (by decide +kernel) (by decide +kernel)
theorem fl_Mod_50 : FL R_Mod 50 6 15 := ⟨R_Mod, T_Mod, 33, rfl, uw_Mod, by decide, Or.inl gf_Mod_50⟩
theorem gf_Mod_98 : gin (.fieldLink R_Mod 98 R_Mod "allowed" "[I") := gin_of 649 (by decide +kernel) (by decide +kernel)
theorem fl_Mod_98 : FL R_Mod 98 6 31 := ⟨R_Mod, T_Mod, 33, rfl, uw_Mod, by decide, Or.inl gf_Mod_98⟩
theorem gf_Mod_53 : gin (.fieldLink R_Mod 53 R_Mod "states" "[I") := gin_of 634 (by decide +kernel) (by decide +kernel)
theorem fl_Mod_53 : FL R_Mod 53 6 16 := ⟨R_Mod, T_Mod, 33, rfl, uw_Mod, by decide, Or.inl gf_Mod_53⟩
theorem gf_Mod_56 : gin (.fieldLink R_Mod 56 R_Mod "program" "[I") := gin_of 635 (by decide +kernel) (by decide +kernel)
theorem fl_Mod_56 : FL R_Mod 56 6 17 := ⟨R_Mod, T_Mod, 33, rfl, uw_Mod, by decide, Or.inl gf_Mod_56⟩
theorem gf_Mod_59 : gin (.fieldLink R_Mod 59 R_Mod "position" "[I") := gin_of 636 (by decide +kernel) (by decide +kernel)
theorem fl_Mod_59 : FL R_Mod 59 6 18 := ⟨R_Mod, T_Mod, 33, rfl, uw_Mod, by decide, Or.inl gf_Mod_59⟩
theorem gf_Mod_89 : gin (.fieldLink R_Mod 89 R_Mod "inputs" "[I") := gin_of 646 (by decide +kernel) (by decide +kernel)
theorem fl_Mod_89 : FL R_Mod 89 6 28 := ⟨R_Mod, T_Mod, 33, rfl, uw_Mod, by decide, Or.inl gf_Mod_89⟩
theorem gf_Mod_86 : gin (.fieldLink R_Mod 86 R_Mod "input" "[I") := gin_of 645 (by decide +kernel) (by decide +kernel)
theorem fl_Mod_86 : FL R_Mod 86 6 27 := ⟨R_Mod, T_Mod, 33, rfl, uw_Mod, by decide, Or.inl gf_Mod_86⟩
theorem gf_Mod_68 : gin (.fieldLink R_Mod 68 R_Mod "endOf" "[I") := gin_of 639 (by decide +kernel) (by decide +kernel)
theorem fl_Mod_68 : FL R_Mod 68 6 21 := ⟨R_Mod, T_Mod, 33, rfl, uw_Mod, by decide, Or.inl gf_Mod_68⟩
theorem gf_Mod_161 : gin (.fieldLink R_Mod 161 R_Mod "slice" "I") := gin_of 650 (by decide +kernel) (by decide +kernel)
theorem fl_Mod_161 : FL R_Mod 161 6 32 := ⟨R_Mod, T_Mod, 33, rfl, uw_Mod, by decide, Or.inl gf_Mod_161⟩
theorem gf_Mod_71 : gin (.fieldLink R_Mod 71 R_Mod "height" "[I") := gin_of 640 (by decide +kernel) (by decide +kernel)
theorem fl_Mod_71 : FL R_Mod 71 6 22 := ⟨R_Mod, T_Mod, 33, rfl, uw_Mod, by decide, Or.inl gf_Mod_71⟩
theorem gf_Mod_83 : gin (.fieldLink R_Mod 83 R_Mod "mails" "[I") := gin_of 644 (by decide +kernel) (by decide +kernel)
theorem fl_Mod_83 : FL R_Mod 83 6 26 := ⟨R_Mod, T_Mod, 33, rfl, uw_Mod, by decide, Or.inl gf_Mod_83⟩
theorem gf_Mod_77 : gin (.fieldLink R_Mod 77 R_Mod "locals" "[I") := gin_of 642 (by decide +kernel) (by decide +kernel)
theorem fl_Mod_77 : FL R_Mod 77 6 24 := ⟨R_Mod, T_Mod, 33, rfl, uw_Mod, by decide, Or.inl gf_Mod_77⟩
theorem gf_Mod_26 : gin (.fieldLink R_Mod 26 R_Mod "there" "[Z") := gin_of 624 (by decide +kernel) (by decide +kernel)
theorem fl_Mod_26 : FL R_Mod 26 6 6 := ⟨R_Mod, T_Mod, 33, rfl, uw_Mod, by decide, Or.inl gf_Mod_26⟩
theorem gf_Mod_74 : gin (.fieldLink R_Mod 74 R_Mod "stack" "[I") := gin_of 641 (by decide +kernel) (by decide +kernel)
theorem fl_Mod_74 : FL R_Mod 74 6 23 := ⟨R_Mod, T_Mod, 33, rfl, uw_Mod, by decide, Or.inl gf_Mod_74⟩
theorem gf_Mod_38 : gin (.fieldLink R_Mod 38 R_Mod "mark" "[Z") := gin_of 629 (by decide +kernel) (by decide +kernel)
theorem fl_Mod_38 : FL R_Mod 38 6 11 := ⟨R_Mod, T_Mod, 33, rfl, uw_Mod, by decide, Or.inl gf_Mod_38⟩
theorem lk_Mod_140 : gin (.methodLink R_Mod 140 y_Mod_markRoot) := gin_of 820 (by decide +kernel) (by decide +kernel)
set_option maxRecDepth 40000 in
theorem cz_Mod_markRoot : CZ mt_Mod_markRoot 1 := ⟨⟨List.mem_of_getElem? (i := 823) rfl, by decide +kernel⟩, ini_Mod, ⟨by decide, by decide⟩, by decide +kernel⟩
theorem im_Mod_markRoot : gin (.instanceMethod y_Mod_markRoot) := gin_of 822 (by decide +kernel) (by decide +kernel)
theorem se_Mod_markRoot : gin (.selects R_Mod y_Mod_markRoot y_Mod_markRoot) := gin_of 30 (by decide +kernel) (by decide +kernel)
theorem cv_Mod_markRoot : CV mt_Mod_markRoot := ⟨im_Mod_markRoot, se_Mod_markRoot⟩
theorem gf_Mod_80 : gin (.fieldLink R_Mod 80 R_Mod "mail" "[I") := gin_of 643 (by decide +kernel) (by decide +kernel)
theorem fl_Mod_80 : FL R_Mod 80 6 25 := ⟨R_Mod, T_Mod, 33, rfl, uw_Mod, by decide, Or.inl gf_Mod_80⟩
theorem lk_Mod_144 : gin (.methodLink R_Mod 144 y_Mod_markAll) := gin_of 824 (by decide +kernel) (by decide +kernel)
set_option maxRecDepth 40000 in
theorem cz_Mod_markAll : CZ mt_Mod_markAll 0 := ⟨⟨List.mem_of_getElem? (i := 827) rfl, by decide +kernel⟩, ini_Mod, ⟨by decide, by decide⟩, by decide +kernel⟩
theorem im_Mod_markAll : gin (.instanceMethod y_Mod_markAll) := gin_of 826 (by decide +kernel) (by decide +kernel)
theorem se_Mod_markAll : gin (.selects R_Mod y_Mod_markAll y_Mod_markAll) := gin_of 31 (by decide +kernel) (by decide +kernel)
theorem cv_Mod_markAll : CV mt_Mod_markAll := ⟨im_Mod_markAll, se_Mod_markAll⟩
theorem lk_Mod_147 : gin (.methodLink R_Mod 147 y_Mod_counted) := gin_of 812 (by decide +kernel) (by decide +kernel)
set_option maxRecDepth 40000 in
theorem cz_Mod_counted : CZ mt_Mod_counted 2 := ⟨⟨List.mem_of_getElem? (i := 815) rfl, by decide +kernel⟩, ini_Mod, ⟨by decide, by decide⟩, by decide +kernel⟩
theorem im_Mod_counted : gin (.instanceMethod y_Mod_counted) := gin_of 814 (by decide +kernel) (by decide +kernel)
theorem se_Mod_counted : gin (.selects R_Mod y_Mod_counted y_Mod_counted) := gin_of 28 (by decide +kernel) (by decide +kernel)
theorem cv_Mod_counted : CV mt_Mod_counted := ⟨im_Mod_counted, se_Mod_counted⟩
theorem lk_Mod_151 : gin (.methodLink R_Mod 151 y_Mod_markLive) := gin_of 816 (by decide +kernel) (by decide +kernel)
set_option maxRecDepth 40000 in
theorem cz_Mod_markLive : CZ mt_Mod_markLive 1 := ⟨⟨List.mem_of_getElem? (i := 819) rfl, by decide +kernel⟩, ini_Mod, ⟨by decide, by decide⟩, by decide +kernel⟩
theorem im_Mod_markLive : gin (.instanceMethod y_Mod_markLive) := gin_of 818 (by decide +kernel) (by decide +kernel)
theorem se_Mod_markLive : gin (.selects R_Mod y_Mod_markLive y_Mod_markLive) := gin_of 29 (by decide +kernel) (by decide +kernel)
theorem cv_Mod_markLive : CV mt_Mod_markLive := ⟨im_Mod_markLive, se_Mod_markLive⟩
theorem gf_Mod_65 : gin (.fieldLink R_Mod 65 R_Mod "collects" "[I") := gin_of 638 (by decide +kernel) (by decide +kernel)
theorem fl_Mod_65 : FL R_Mod 65 6 20 := ⟨R_Mod, T_Mod, 33, rfl, uw_Mod, by decide, Or.inl gf_Mod_65⟩
theorem lk_Mod_167 : gin (.methodLink R_Mod 167 y_Mod_value) := gin_of 800 (by decide +kernel) (by decide +kernel)
set_option maxRecDepth 40000 in
theorem cz_Mod_value : CZ mt_Mod_value 2 := ⟨⟨List.mem_of_getElem? (i := 803) rfl, by decide +kernel⟩, ini_Mod, ⟨by decide, by decide⟩, by decide +kernel⟩
theorem im_Mod_value : gin (.instanceMethod y_Mod_value) := gin_of 802 (by decide +kernel) (by decide +kernel)
theorem se_Mod_value : gin (.selects R_Mod y_Mod_value y_Mod_value) := gin_of 25 (by decide +kernel) (by decide +kernel)
theorem cv_Mod_value : CV mt_Mod_value := ⟨im_Mod_value, se_Mod_value⟩
theorem lk_Mod_170 : gin (.methodLink R_Mod 170 y_Mod_become) := gin_of 832 (by decide +kernel) (by decide +kernel)
set_option maxRecDepth 40000 in
theorem cz_Mod_become : CZ mt_Mod_become 3 := ⟨⟨List.mem_of_getElem? (i := 835) rfl, by decide +kernel⟩, ini_Mod, ⟨by decide, by decide⟩, by decide +kernel⟩
theorem im_Mod_become : gin (.instanceMethod y_Mod_become) := gin_of 834 (by decide +kernel) (by decide +kernel)
theorem se_Mod_become : gin (.selects R_Mod y_Mod_become y_Mod_become) := gin_of 33 (by decide +kernel) (by decide +kernel)
theorem cv_Mod_become : CV mt_Mod_become := ⟨im_Mod_become, se_Mod_become⟩
theorem lk_Mod_164 : gin (.methodLink R_Mod 164 y_Mod_room) := gin_of 808 (by decide +kernel) (by decide +kernel)
set_option maxRecDepth 40000 in
theorem cz_Mod_room : CZ mt_Mod_room 2 := ⟨⟨List.mem_of_getElem? (i := 811) rfl, by decide +kernel⟩, ini_Mod, ⟨by decide, by decide⟩, by decide +kernel⟩
theorem im_Mod_room : gin (.instanceMethod y_Mod_room) := gin_of 810 (by decide +kernel) (by decide +kernel)
theorem se_Mod_room : gin (.selects R_Mod y_Mod_room y_Mod_room) := gin_of 27 (by decide +kernel) (by decide +kernel)
theorem cv_Mod_room : CV mt_Mod_room := ⟨im_Mod_room, se_Mod_room⟩
theorem lk_Mod_154 : gin (.methodLink R_Mod 154 y_Mod_make) := gin_of 828 (by decide +kernel) (by decide +kernel)
set_option maxRecDepth 40000 in
theorem cz_Mod_make : CZ mt_Mod_make 2 := ⟨⟨List.mem_of_getElem? (i := 831) rfl, by decide +kernel⟩, ini_Mod, ⟨by decide, by decide⟩, by decide +kernel⟩
theorem im_Mod_make : gin (.instanceMethod y_Mod_make) := gin_of 830 (by decide +kernel) (by decide +kernel)
theorem se_Mod_make : gin (.selects R_Mod y_Mod_make y_Mod_make) := gin_of 32 (by decide +kernel) (by decide +kernel)
theorem cv_Mod_make : CV mt_Mod_make := ⟨im_Mod_make, se_Mod_make⟩
theorem lk_Mod_205 : gin (.methodLink R_Mod 205 y_Mod_result) := gin_of 877 (by decide +kernel) (by decide +kernel)
set_option maxRecDepth 40000 in
theorem cz_Mod_result : CZ mt_Mod_result 3 := ⟨⟨List.mem_of_getElem? (i := 879) rfl, by decide +kernel⟩, ini_Mod, ⟨by decide, by decide⟩, by decide +kernel⟩
theorem sm_Mod_result : gin (.static y_Mod_result) := gin_of 878 (by decide +kernel) (by decide +kernel)
theorem gf_Mod_41 : gin (.fieldLink R_Mod 41 R_Mod "reached" "[Z") := gin_of 630 (by decide +kernel) (by decide +kernel)
theorem fl_Mod_41 : FL R_Mod 41 6 12 := ⟨R_Mod, T_Mod, 33, rfl, uw_Mod, by decide, Or.inl gf_Mod_41⟩
theorem gf_Mod_44 : gin (.fieldLink R_Mod 44 R_Mod "twin" "[I") := gin_of 631 (by decide +kernel) (by decide +kernel)
theorem fl_Mod_44 : FL R_Mod 44 6 13 := ⟨R_Mod, T_Mod, 33, rfl, uw_Mod, by decide, Or.inl gf_Mod_44⟩
theorem lk_Mod_158 : gin (.methodLink R_Mod 158 y_Mod_copied) := gin_of 852 (by decide +kernel) (by decide +kernel)
set_option maxRecDepth 40000 in
theorem cz_Mod_copied : CZ mt_Mod_copied 1 := ⟨⟨List.mem_of_getElem? (i := 855) rfl, by decide +kernel⟩, ini_Mod, ⟨by decide, by decide⟩, by decide +kernel⟩
theorem im_Mod_copied : gin (.instanceMethod y_Mod_copied) := gin_of 854 (by decide +kernel) (by decide +kernel)
theorem se_Mod_copied : gin (.selects R_Mod y_Mod_copied y_Mod_copied) := gin_of 38 (by decide +kernel) (by decide +kernel)
theorem cv_Mod_copied : CV mt_Mod_copied := ⟨im_Mod_copied, se_Mod_copied⟩
theorem lk_Mod_174 : gin (.methodLink R_Mod 174 y_Mod_alive) := gin_of 788 (by decide +kernel) (by decide +kernel)
set_option maxRecDepth 40000 in
theorem cz_Mod_alive : CZ mt_Mod_alive 1 := ⟨⟨List.mem_of_getElem? (i := 791) rfl, by decide +kernel⟩, ini_Mod, ⟨by decide, by decide⟩, by decide +kernel⟩
theorem im_Mod_alive : gin (.instanceMethod y_Mod_alive) := gin_of 790 (by decide +kernel) (by decide +kernel)
theorem se_Mod_alive : gin (.selects R_Mod y_Mod_alive y_Mod_alive) := gin_of 22 (by decide +kernel) (by decide +kernel)
theorem cv_Mod_alive : CV mt_Mod_alive := ⟨im_Mod_alive, se_Mod_alive⟩
theorem lk_Mod_177 : gin (.methodLink R_Mod 177 y_Mod_toCopy) := gin_of 844 (by decide +kernel) (by decide +kernel)
set_option maxRecDepth 40000 in
theorem cz_Mod_toCopy : CZ mt_Mod_toCopy 1 := ⟨⟨List.mem_of_getElem? (i := 847) rfl, by decide +kernel⟩, ini_Mod, ⟨by decide, by decide⟩, by decide +kernel⟩
theorem im_Mod_toCopy : gin (.instanceMethod y_Mod_toCopy) := gin_of 846 (by decide +kernel) (by decide +kernel)
theorem se_Mod_toCopy : gin (.selects R_Mod y_Mod_toCopy y_Mod_toCopy) := gin_of 36 (by decide +kernel) (by decide +kernel)
theorem cv_Mod_toCopy : CV mt_Mod_toCopy := ⟨im_Mod_toCopy, se_Mod_toCopy⟩
theorem lk_Mod_180 : gin (.methodLink R_Mod 180 y_Mod_copy) := gin_of 848 (by decide +kernel) (by decide +kernel)
set_option maxRecDepth 40000 in
theorem cz_Mod_copy : CZ mt_Mod_copy 2 := ⟨⟨List.mem_of_getElem? (i := 851) rfl, by decide +kernel⟩, ini_Mod, ⟨by decide, by decide⟩, by decide +kernel⟩
theorem im_Mod_copy : gin (.instanceMethod y_Mod_copy) := gin_of 850 (by decide +kernel) (by decide +kernel)
theorem se_Mod_copy : gin (.selects R_Mod y_Mod_copy y_Mod_copy) := gin_of 37 (by decide +kernel) (by decide +kernel)
theorem cv_Mod_copy : CV mt_Mod_copy := ⟨im_Mod_copy, se_Mod_copy⟩
theorem lk_Mod_183 : gin (.methodLink R_Mod 183 y_Mod_launch) := gin_of 860 (by decide +kernel) (by decide +kernel)
set_option maxRecDepth 40000 in
theorem cz_Mod_launch : CZ mt_Mod_launch 2 := ⟨⟨List.mem_of_getElem? (i := 779) rfl, by decide +kernel⟩, ini_Mod, ⟨by decide, by decide⟩, by decide +kernel⟩
theorem im_Mod_launch : gin (.instanceMethod y_Mod_launch) := gin_of 777 (by decide +kernel) (by decide +kernel)
theorem se_Mod_launch : gin (.selects R_Mod y_Mod_launch y_Mod_launch) := gin_of 778 (by decide +kernel) (by decide +kernel)
theorem cv_Mod_launch : CV mt_Mod_launch := ⟨im_Mod_launch, se_Mod_launch⟩
theorem lk_Mod_186 : gin (.methodLink R_Mod 186 y_Mod_end) := gin_of 792 (by decide +kernel) (by decide +kernel)
set_option maxRecDepth 40000 in
theorem cz_Mod_end : CZ mt_Mod_end 2 := ⟨⟨List.mem_of_getElem? (i := 795) rfl, by decide +kernel⟩, ini_Mod, ⟨by decide, by decide⟩, by decide +kernel⟩
theorem im_Mod_end : gin (.instanceMethod y_Mod_end) := gin_of 794 (by decide +kernel) (by decide +kernel)
theorem se_Mod_end : gin (.selects R_Mod y_Mod_end y_Mod_end) := gin_of 23 (by decide +kernel) (by decide +kernel)
theorem cv_Mod_end : CV mt_Mod_end := ⟨im_Mod_end, se_Mod_end⟩
theorem gf_Mod_95 : gin (.fieldLink R_Mod 95 R_Mod "outs" "[I") := gin_of 648 (by decide +kernel) (by decide +kernel)
theorem fl_Mod_95 : FL R_Mod 95 6 30 := ⟨R_Mod, T_Mod, 33, rfl, uw_Mod, by decide, Or.inl gf_Mod_95⟩
theorem gf_Mod_92 : gin (.fieldLink R_Mod 92 R_Mod "out" "[I") := gin_of 647 (by decide +kernel) (by decide +kernel)
theorem fl_Mod_92 : FL R_Mod 92 6 29 := ⟨R_Mod, T_Mod, 33, rfl, uw_Mod, by decide, Or.inl gf_Mod_92⟩
theorem lk_Mod_202 : gin (.methodLink R_Mod 202 y_Mod_shiftInput) := gin_of 869 (by decide +kernel) (by decide +kernel)
set_option maxRecDepth 40000 in
theorem cz_Mod_shiftInput : CZ mt_Mod_shiftInput 1 := ⟨⟨List.mem_of_getElem? (i := 872) rfl, by decide +kernel⟩, ini_Mod, ⟨by decide, by decide⟩, by decide +kernel⟩
theorem im_Mod_shiftInput : gin (.instanceMethod y_Mod_shiftInput) := gin_of 871 (by decide +kernel) (by decide +kernel)
theorem se_Mod_shiftInput : gin (.selects R_Mod y_Mod_shiftInput y_Mod_shiftInput) := gin_of 42 (by decide +kernel) (by decide +kernel)
theorem cv_Mod_shiftInput : CV mt_Mod_shiftInput := ⟨im_Mod_shiftInput, se_Mod_shiftInput⟩
theorem lk_Mod_199 : gin (.methodLink R_Mod 199 y_Mod_shiftMail) := gin_of 865 (by decide +kernel) (by decide +kernel)
set_option maxRecDepth 40000 in
theorem cz_Mod_shiftMail : CZ mt_Mod_shiftMail 1 := ⟨⟨List.mem_of_getElem? (i := 868) rfl, by decide +kernel⟩, ini_Mod, ⟨by decide, by decide⟩, by decide +kernel⟩
theorem im_Mod_shiftMail : gin (.instanceMethod y_Mod_shiftMail) := gin_of 867 (by decide +kernel) (by decide +kernel)
theorem se_Mod_shiftMail : gin (.selects R_Mod y_Mod_shiftMail y_Mod_shiftMail) := gin_of 41 (by decide +kernel) (by decide +kernel)
theorem cv_Mod_shiftMail : CV mt_Mod_shiftMail := ⟨im_Mod_shiftMail, se_Mod_shiftMail⟩
theorem lk_Mod_196 : gin (.methodLink R_Mod 196 y_Mod_stop) := gin_of 861 (by decide +kernel) (by decide +kernel)
set_option maxRecDepth 40000 in
theorem cz_Mod_stop : CZ mt_Mod_stop 2 := ⟨⟨List.mem_of_getElem? (i := 864) rfl, by decide +kernel⟩, ini_Mod, ⟨by decide, by decide⟩, by decide +kernel⟩
theorem im_Mod_stop : gin (.instanceMethod y_Mod_stop) := gin_of 863 (by decide +kernel) (by decide +kernel)
theorem se_Mod_stop : gin (.selects R_Mod y_Mod_stop y_Mod_stop) := gin_of 40 (by decide +kernel) (by decide +kernel)
theorem cv_Mod_stop : CV mt_Mod_stop := ⟨im_Mod_stop, se_Mod_stop⟩
theorem lk_Mod_193 : gin (.methodLink R_Mod 193 y_Mod_start) := gin_of 856 (by decide +kernel) (by decide +kernel)
set_option maxRecDepth 40000 in
theorem cz_Mod_start : CZ mt_Mod_start 2 := ⟨⟨List.mem_of_getElem? (i := 859) rfl, by decide +kernel⟩, ini_Mod, ⟨by decide, by decide⟩, by decide +kernel⟩
theorem im_Mod_start : gin (.instanceMethod y_Mod_start) := gin_of 858 (by decide +kernel) (by decide +kernel)
theorem se_Mod_start : gin (.selects R_Mod y_Mod_start y_Mod_start) := gin_of 39 (by decide +kernel) (by decide +kernel)
theorem cv_Mod_start : CV mt_Mod_start := ⟨im_Mod_start, se_Mod_start⟩
theorem lk_Mod_190 : gin (.methodLink R_Mod 190 y_Mod_send) := gin_of 840 (by decide +kernel) (by decide +kernel)
set_option maxRecDepth 40000 in
theorem cz_Mod_send : CZ mt_Mod_send 2 := ⟨⟨List.mem_of_getElem? (i := 843) rfl, by decide +kernel⟩, ini_Mod, ⟨by decide, by decide⟩, by decide +kernel⟩
theorem im_Mod_send : gin (.instanceMethod y_Mod_send) := gin_of 842 (by decide +kernel) (by decide +kernel)
theorem se_Mod_send : gin (.selects R_Mod y_Mod_send y_Mod_send) := gin_of 35 (by decide +kernel) (by decide +kernel)
theorem cv_Mod_send : CV mt_Mod_send := ⟨im_Mod_send, se_Mod_send⟩
theorem gf_Mod_62 : gin (.fieldLink R_Mod 62 R_Mod "stepsOf" "[I") := gin_of 637 (by decide +kernel) (by decide +kernel)
theorem fl_Mod_62 : FL R_Mod 62 6 19 := ⟨R_Mod, T_Mod, 33, rfl, uw_Mod, by decide, Or.inl gf_Mod_62⟩
theorem lk_Mod_214 : gin (.methodLink R_Mod 214 y_Mod_plain) := gin_of 873 (by decide +kernel) (by decide +kernel)
set_option maxRecDepth 40000 in
theorem cz_Mod_plain : CZ mt_Mod_plain 3 := ⟨⟨List.mem_of_getElem? (i := 876) rfl, by decide +kernel⟩, ini_Mod, ⟨by decide, by decide⟩, by decide +kernel⟩
theorem im_Mod_plain : gin (.instanceMethod y_Mod_plain) := gin_of 875 (by decide +kernel) (by decide +kernel)
theorem se_Mod_plain : gin (.selects R_Mod y_Mod_plain y_Mod_plain) := gin_of 43 (by decide +kernel) (by decide +kernel)
theorem cv_Mod_plain : CV mt_Mod_plain := ⟨im_Mod_plain, se_Mod_plain⟩
theorem lk_Mod_211 : gin (.methodLink R_Mod 211 y_Mod_traffic) := gin_of 836 (by decide +kernel) (by decide +kernel)
set_option maxRecDepth 40000 in
theorem cz_Mod_traffic : CZ mt_Mod_traffic 3 := ⟨⟨List.mem_of_getElem? (i := 839) rfl, by decide +kernel⟩, ini_Mod, ⟨by decide, by decide⟩, by decide +kernel⟩
theorem im_Mod_traffic : gin (.instanceMethod y_Mod_traffic) := gin_of 838 (by decide +kernel) (by decide +kernel)
theorem se_Mod_traffic : gin (.selects R_Mod y_Mod_traffic y_Mod_traffic) := gin_of 34 (by decide +kernel) (by decide +kernel)
theorem cv_Mod_traffic : CV mt_Mod_traffic := ⟨im_Mod_traffic, se_Mod_traffic⟩
theorem lk_Mod_208 : gin (.methodLink R_Mod 208 y_Mod_cellOp) := gin_of 804 (by decide +kernel) (by decide +kernel)
set_option maxRecDepth 40000 in
theorem cz_Mod_cellOp : CZ mt_Mod_cellOp 3 := ⟨⟨List.mem_of_getElem? (i := 807) rfl, by decide +kernel⟩, ini_Mod, ⟨by decide, by decide⟩, by decide +kernel⟩
theorem im_Mod_cellOp : gin (.instanceMethod y_Mod_cellOp) := gin_of 806 (by decide +kernel) (by decide +kernel)
theorem se_Mod_cellOp : gin (.selects R_Mod y_Mod_cellOp y_Mod_cellOp) := gin_of 26 (by decide +kernel) (by decide +kernel)
theorem cv_Mod_cellOp : CV mt_Mod_cellOp := ⟨im_Mod_cellOp, se_Mod_cellOp⟩
theorem gf_Mod_101 : gin (.fieldLink R_Mod 101 R_Mod "length" "I") := gin_of 618 (by decide +kernel) (by decide +kernel)
theorem fl_Mod_101 : FL R_Mod 101 6 0 := ⟨R_Mod, T_Mod, 33, rfl, uw_Mod, by decide, Or.inl gf_Mod_101⟩
theorem lk_Mod_217 : gin (.methodLink R_Mod 217 y_Mod_perform) := gin_of 796 (by decide +kernel) (by decide +kernel)
set_option maxRecDepth 40000 in
theorem cz_Mod_perform : CZ mt_Mod_perform 1 := ⟨⟨List.mem_of_getElem? (i := 799) rfl, by decide +kernel⟩, ini_Mod, ⟨by decide, by decide⟩, by decide +kernel⟩
theorem im_Mod_perform : gin (.instanceMethod y_Mod_perform) := gin_of 798 (by decide +kernel) (by decide +kernel)
theorem se_Mod_perform : gin (.selects R_Mod y_Mod_perform y_Mod_perform) := gin_of 24 (by decide +kernel) (by decide +kernel)
theorem cv_Mod_perform : CV mt_Mod_perform := ⟨im_Mod_perform, se_Mod_perform⟩
theorem fp_Mod_161 {y : MethodName} (hy : y.cls = R_Mod) : FP y 161 6 32 .int := ⟨R_Mod, T_Mod, 33, ty_Mod, rfl, uw_Mod, by decide, tk_Mod, nm_Mod, rfl, Or.inl ⟨by rw [hy]; exact gf_Mod_161, Or.inl rfl⟩⟩
theorem lk_Law_21 : gin (.methodLink R_Law 21 y_Host_code) := gin_of 245 (by decide +kernel) (by decide +kernel)
set_option maxRecDepth 40000 in
theorem cz_Host_code : CZ mt_Host_code 3 := ⟨⟨List.mem_of_getElem? (i := 248) rfl, by decide +kernel⟩, ini_Host, ⟨by decide, by decide⟩, by decide +kernel⟩
theorem im_Host_code : gin (.instanceMethod y_Host_code) := gin_of 246 (by decide +kernel) (by decide +kernel)
theorem se_Host_code : gin (.selects R_Host y_Host_code y_Host_code) := gin_of 247 (by decide +kernel) (by decide +kernel)
theorem cv_Host_code : CV mt_Host_code := ⟨im_Host_code, se_Host_code⟩
theorem lk_Law_25 : gin (.methodLink R_Law 25 y_Mod_code) := gin_of 718 (by decide +kernel) (by decide +kernel)
set_option maxRecDepth 40000 in
theorem cz_Mod_code : CZ mt_Mod_code 3 := ⟨⟨List.mem_of_getElem? (i := 721) rfl, by decide +kernel⟩, ini_Mod, ⟨by decide, by decide⟩, by decide +kernel⟩
theorem im_Mod_code : gin (.instanceMethod y_Mod_code) := gin_of 719 (by decide +kernel) (by decide +kernel)
theorem se_Mod_code : gin (.selects R_Mod y_Mod_code y_Mod_code) := gin_of 720 (by decide +kernel) (by decide +kernel)
theorem cv_Mod_code : CV mt_Mod_code := ⟨im_Mod_code, se_Mod_code⟩
theorem lk_Law_26 : gin (.methodLink R_Law 26 y_Host_clear) := gin_of 261 (by decide +kernel) (by decide +kernel)
set_option maxRecDepth 40000 in
theorem cz_Host_clear : CZ mt_Host_clear 1 := ⟨⟨List.mem_of_getElem? (i := 264) rfl, by decide +kernel⟩, ini_Host, ⟨by decide, by decide⟩, by decide +kernel⟩
theorem im_Host_clear : gin (.instanceMethod y_Host_clear) := gin_of 262 (by decide +kernel) (by decide +kernel)
theorem se_Host_clear : gin (.selects R_Host y_Host_clear y_Host_clear) := gin_of 263 (by decide +kernel) (by decide +kernel)
theorem cv_Host_clear : CV mt_Host_clear := ⟨im_Host_clear, se_Host_clear⟩
theorem lk_Law_30 : gin (.methodLink R_Law 30 y_Mod_clear) := gin_of 728 (by decide +kernel) (by decide +kernel)
set_option maxRecDepth 40000 in
theorem cz_Mod_clear : CZ mt_Mod_clear 1 := ⟨⟨List.mem_of_getElem? (i := 731) rfl, by decide +kernel⟩, ini_Mod, ⟨by decide, by decide⟩, by decide +kernel⟩
theorem im_Mod_clear : gin (.instanceMethod y_Mod_clear) := gin_of 729 (by decide +kernel) (by decide +kernel)
theorem se_Mod_clear : gin (.selects R_Mod y_Mod_clear y_Mod_clear) := gin_of 730 (by decide +kernel) (by decide +kernel)
theorem cv_Mod_clear : CV mt_Mod_clear := ⟨im_Mod_clear, se_Mod_clear⟩
theorem lk_Law_31 : gin (.methodLink R_Law 31 y_Host_seal) := gin_of 269 (by decide +kernel) (by decide +kernel)
set_option maxRecDepth 40000 in
theorem cz_Host_seal : CZ mt_Host_seal 1 := ⟨⟨List.mem_of_getElem? (i := 272) rfl, by decide +kernel⟩, ini_Host, ⟨by decide, by decide⟩, by decide +kernel⟩
theorem im_Host_seal : gin (.instanceMethod y_Host_seal) := gin_of 270 (by decide +kernel) (by decide +kernel)
theorem se_Host_seal : gin (.selects R_Host y_Host_seal y_Host_seal) := gin_of 271 (by decide +kernel) (by decide +kernel)
theorem cv_Host_seal : CV mt_Host_seal := ⟨im_Host_seal, se_Host_seal⟩
theorem lk_Law_34 : gin (.methodLink R_Law 34 y_Mod_seal) := gin_of 732 (by decide +kernel) (by decide +kernel)
set_option maxRecDepth 40000 in
theorem cz_Mod_seal : CZ mt_Mod_seal 1 := ⟨⟨List.mem_of_getElem? (i := 735) rfl, by decide +kernel⟩, ini_Mod, ⟨by decide, by decide⟩, by decide +kernel⟩
theorem im_Mod_seal : gin (.instanceMethod y_Mod_seal) := gin_of 733 (by decide +kernel) (by decide +kernel)
theorem se_Mod_seal : gin (.selects R_Mod y_Mod_seal y_Mod_seal) := gin_of 734 (by decide +kernel) (by decide +kernel)
theorem cv_Mod_seal : CV mt_Mod_seal := ⟨im_Mod_seal, se_Mod_seal⟩
theorem lk_Law_35 : gin (.methodLink R_Law 35 y_Host_shape) := gin_of 318 (by decide +kernel) (by decide +kernel)
set_option maxRecDepth 40000 in
theorem cz_Host_shape : CZ mt_Host_shape 2 := ⟨⟨List.mem_of_getElem? (i := 321) rfl, by decide +kernel⟩, ini_Host, ⟨by decide, by decide⟩, by decide +kernel⟩
theorem im_Host_shape : gin (.instanceMethod y_Host_shape) := gin_of 319 (by decide +kernel) (by decide +kernel)
theorem se_Host_shape : gin (.selects R_Host y_Host_shape y_Host_shape) := gin_of 320 (by decide +kernel) (by decide +kernel)
theorem cv_Host_shape : CV mt_Host_shape := ⟨im_Host_shape, se_Host_shape⟩
theorem lk_Law_39 : gin (.methodLink R_Law 39 y_Mod_shape) := gin_of 756 (by decide +kernel) (by decide +kernel)
set_option maxRecDepth 40000 in
theorem cz_Mod_shape : CZ mt_Mod_shape 2 := ⟨⟨List.mem_of_getElem? (i := 759) rfl, by decide +kernel⟩, ini_Mod, ⟨by decide, by decide⟩, by decide +kernel⟩
theorem im_Mod_shape : gin (.instanceMethod y_Mod_shape) := gin_of 757 (by decide +kernel) (by decide +kernel)
theorem se_Mod_shape : gin (.selects R_Mod y_Mod_shape y_Mod_shape) := gin_of 758 (by decide +kernel) (by decide +kernel)
theorem cv_Mod_shape : CV mt_Mod_shape := ⟨im_Mod_shape, se_Mod_shape⟩
theorem lk_Law_40 : gin (.methodLink R_Law 40 y_Host_share) := gin_of 326 (by decide +kernel) (by decide +kernel)
set_option maxRecDepth 40000 in
theorem cz_Host_share : CZ mt_Host_share 3 := ⟨⟨List.mem_of_getElem? (i := 329) rfl, by decide +kernel⟩, ini_Host, ⟨by decide, by decide⟩, by decide +kernel⟩
theorem im_Host_share : gin (.instanceMethod y_Host_share) := gin_of 327 (by decide +kernel) (by decide +kernel)
theorem se_Host_share : gin (.selects R_Host y_Host_share y_Host_share) := gin_of 328 (by decide +kernel) (by decide +kernel)
theorem cv_Host_share : CV mt_Host_share := ⟨im_Host_share, se_Host_share⟩
theorem lk_Law_43 : gin (.methodLink R_Law 43 y_Mod_share) := gin_of 760 (by decide +kernel) (by decide +kernel)
set_option maxRecDepth 40000 in
theorem cz_Mod_share : CZ mt_Mod_share 3 := ⟨⟨List.mem_of_getElem? (i := 763) rfl, by decide +kernel⟩, ini_Mod, ⟨by decide, by decide⟩, by decide +kernel⟩
theorem im_Mod_share : gin (.instanceMethod y_Mod_share) := gin_of 761 (by decide +kernel) (by decide +kernel)
theorem se_Mod_share : gin (.selects R_Mod y_Mod_share y_Mod_share) := gin_of 762 (by decide +kernel) (by decide +kernel)
theorem cv_Mod_share : CV mt_Mod_share := ⟨im_Mod_share, se_Mod_share⟩
theorem lk_Law_44 : gin (.methodLink R_Law 44 y_Host_reserve) := gin_of 341 (by decide +kernel) (by decide +kernel)
set_option maxRecDepth 40000 in
theorem cz_Host_reserve : CZ mt_Host_reserve 3 := ⟨⟨List.mem_of_getElem? (i := 344) rfl, by decide +kernel⟩, ini_Host, ⟨by decide, by decide⟩, by decide +kernel⟩
theorem im_Host_reserve : gin (.instanceMethod y_Host_reserve) := gin_of 342 (by decide +kernel) (by decide +kernel)
theorem se_Host_reserve : gin (.selects R_Host y_Host_reserve y_Host_reserve) := gin_of 343 (by decide +kernel) (by decide +kernel)
theorem cv_Host_reserve : CV mt_Host_reserve := ⟨im_Host_reserve, se_Host_reserve⟩
theorem lk_Law_48 : gin (.methodLink R_Law 48 y_Mod_reserve) := gin_of 768 (by decide +kernel) (by decide +kernel)
set_option maxRecDepth 40000 in
theorem cz_Mod_reserve : CZ mt_Mod_reserve 3 := ⟨⟨List.mem_of_getElem? (i := 771) rfl, by decide +kernel⟩, ini_Mod, ⟨by decide, by decide⟩, by decide +kernel⟩
theorem im_Mod_reserve : gin (.instanceMethod y_Mod_reserve) := gin_of 769 (by decide +kernel) (by decide +kernel)
theorem se_Mod_reserve : gin (.selects R_Mod y_Mod_reserve y_Mod_reserve) := gin_of 770 (by decide +kernel) (by decide +kernel)
theorem cv_Mod_reserve : CV mt_Mod_reserve := ⟨im_Mod_reserve, se_Mod_reserve⟩
theorem lk_Law_49 : gin (.methodLink R_Law 49 y_Host_permit) := gin_of 356 (by decide +kernel) (by decide +kernel)
set_option maxRecDepth 40000 in
theorem cz_Host_permit : CZ mt_Host_permit 3 := ⟨⟨List.mem_of_getElem? (i := 359) rfl, by decide +kernel⟩, ini_Host, ⟨by decide, by decide⟩, by decide +kernel⟩
theorem im_Host_permit : gin (.instanceMethod y_Host_permit) := gin_of 357 (by decide +kernel) (by decide +kernel)
theorem se_Host_permit : gin (.selects R_Host y_Host_permit y_Host_permit) := gin_of 358 (by decide +kernel) (by decide +kernel)
theorem cv_Host_permit : CV mt_Host_permit := ⟨im_Host_permit, se_Host_permit⟩
theorem lk_Law_52 : gin (.methodLink R_Law 52 y_Mod_permit) := gin_of 772 (by decide +kernel) (by decide +kernel)
set_option maxRecDepth 40000 in
theorem cz_Mod_permit : CZ mt_Mod_permit 3 := ⟨⟨List.mem_of_getElem? (i := 775) rfl, by decide +kernel⟩, ini_Mod, ⟨by decide, by decide⟩, by decide +kernel⟩
theorem im_Mod_permit : gin (.instanceMethod y_Mod_permit) := gin_of 773 (by decide +kernel) (by decide +kernel)
theorem se_Mod_permit : gin (.selects R_Mod y_Mod_permit y_Mod_permit) := gin_of 774 (by decide +kernel) (by decide +kernel)
theorem cv_Mod_permit : CV mt_Mod_permit := ⟨im_Mod_permit, se_Mod_permit⟩
theorem lk_Law_53 : gin (.methodLink R_Law 53 y_Host_launch) := gin_of 360 (by decide +kernel) (by decide +kernel)
set_option maxRecDepth 40000 in
theorem cz_Host_launch : CZ mt_Host_launch 2 := ⟨⟨List.mem_of_getElem? (i := 363) rfl, by decide +kernel⟩, ini_Host, ⟨by decide, by decide⟩, by decide +kernel⟩
theorem im_Host_launch : gin (.instanceMethod y_Host_launch) := gin_of 361 (by decide +kernel) (by decide +kernel)
theorem se_Host_launch : gin (.selects R_Host y_Host_launch y_Host_launch) := gin_of 362 (by decide +kernel) (by decide +kernel)
theorem cv_Host_launch : CV mt_Host_launch := ⟨im_Host_launch, se_Host_launch⟩
theorem lk_Law_57 : gin (.methodLink R_Law 57 y_Mod_launch) := gin_of 776 (by decide +kernel) (by decide +kernel)
theorem lk_Law_58 : gin (.methodLink R_Law 58 y_Host_feed) := gin_of 368 (by decide +kernel) (by decide +kernel)
set_option maxRecDepth 40000 in
theorem cz_Host_feed : CZ mt_Host_feed 2 := ⟨⟨List.mem_of_getElem? (i := 371) rfl, by decide +kernel⟩, ini_Host, ⟨by decide, by decide⟩, by decide +kernel⟩
theorem im_Host_feed : gin (.instanceMethod y_Host_feed) := gin_of 369 (by decide +kernel) (by decide +kernel)
theorem se_Host_feed : gin (.selects R_Host y_Host_feed y_Host_feed) := gin_of 370 (by decide +kernel) (by decide +kernel)
theorem cv_Host_feed : CV mt_Host_feed := ⟨im_Host_feed, se_Host_feed⟩
theorem lk_Law_61 : gin (.methodLink R_Law 61 y_Mod_feed) := gin_of 780 (by decide +kernel) (by decide +kernel)
set_option maxRecDepth 40000 in
theorem cz_Mod_feed : CZ mt_Mod_feed 2 := ⟨⟨List.mem_of_getElem? (i := 783) rfl, by decide +kernel⟩, ini_Mod, ⟨by decide, by decide⟩, by decide +kernel⟩
theorem im_Mod_feed : gin (.instanceMethod y_Mod_feed) := gin_of 781 (by decide +kernel) (by decide +kernel)
theorem se_Mod_feed : gin (.selects R_Mod y_Mod_feed y_Mod_feed) := gin_of 782 (by decide +kernel) (by decide +kernel)
theorem cv_Mod_feed : CV mt_Mod_feed := ⟨im_Mod_feed, se_Mod_feed⟩
theorem lk_Law_62 : gin (.methodLink R_Law 62 y_Host_run) := gin_of 380 (by decide +kernel) (by decide +kernel)
set_option maxRecDepth 40000 in
theorem cz_Host_run : CZ mt_Host_run 1 := ⟨⟨List.mem_of_getElem? (i := 383) rfl, by decide +kernel⟩, ini_Host, ⟨by decide, by decide⟩, by decide +kernel⟩
theorem im_Host_run : gin (.instanceMethod y_Host_run) := gin_of 381 (by decide +kernel) (by decide +kernel)
theorem se_Host_run : gin (.selects R_Host y_Host_run y_Host_run) := gin_of 382 (by decide +kernel) (by decide +kernel)
theorem cv_Host_run : CV mt_Host_run := ⟨im_Host_run, se_Host_run⟩
theorem lk_Law_66 : gin (.methodLink R_Law 66 y_Mod_run) := gin_of 784 (by decide +kernel) (by decide +kernel)
set_option maxRecDepth 40000 in
theorem cz_Mod_run : CZ mt_Mod_run 1 := ⟨⟨List.mem_of_getElem? (i := 787) rfl, by decide +kernel⟩, ini_Mod, ⟨by decide, by decide⟩, by decide +kernel⟩
theorem im_Mod_run : gin (.instanceMethod y_Mod_run) := gin_of 785 (by decide +kernel) (by decide +kernel)
theorem se_Mod_run : gin (.selects R_Mod y_Mod_run y_Mod_run) := gin_of 786 (by decide +kernel) (by decide +kernel)
theorem cv_Mod_run : CV mt_Mod_run := ⟨im_Mod_run, se_Mod_run⟩
theorem lk_Law_67 : gin (.methodLink R_Law 67 y_Host_state) := gin_of 567 (by decide +kernel) (by decide +kernel)
set_option maxRecDepth 40000 in
theorem cz_Host_state : CZ mt_Host_state 1 := ⟨⟨List.mem_of_getElem? (i := 570) rfl, by decide +kernel⟩, ini_Host, ⟨by decide, by decide⟩, by decide +kernel⟩
theorem im_Host_state : gin (.instanceMethod y_Host_state) := gin_of 568 (by decide +kernel) (by decide +kernel)
theorem se_Host_state : gin (.selects R_Host y_Host_state y_Host_state) := gin_of 569 (by decide +kernel) (by decide +kernel)
theorem cv_Host_state : CV mt_Host_state := ⟨im_Host_state, se_Host_state⟩
theorem lk_Law_70 : gin (.methodLink R_Law 70 y_Mod_state) := gin_of 880 (by decide +kernel) (by decide +kernel)
set_option maxRecDepth 40000 in
theorem cz_Mod_state : CZ mt_Mod_state 1 := ⟨⟨List.mem_of_getElem? (i := 883) rfl, by decide +kernel⟩, ini_Mod, ⟨by decide, by decide⟩, by decide +kernel⟩
theorem im_Mod_state : gin (.instanceMethod y_Mod_state) := gin_of 881 (by decide +kernel) (by decide +kernel)
theorem se_Mod_state : gin (.selects R_Mod y_Mod_state y_Mod_state) := gin_of 882 (by decide +kernel) (by decide +kernel)
theorem cv_Mod_state : CV mt_Mod_state := ⟨im_Mod_state, se_Mod_state⟩
theorem lk_Law_71 : gin (.methodLink R_Law 71 y_Host_steps) := gin_of 571 (by decide +kernel) (by decide +kernel)
set_option maxRecDepth 40000 in
theorem cz_Host_steps : CZ mt_Host_steps 1 := ⟨⟨List.mem_of_getElem? (i := 574) rfl, by decide +kernel⟩, ini_Host, ⟨by decide, by decide⟩, by decide +kernel⟩
theorem im_Host_steps : gin (.instanceMethod y_Host_steps) := gin_of 572 (by decide +kernel) (by decide +kernel)
theorem se_Host_steps : gin (.selects R_Host y_Host_steps y_Host_steps) := gin_of 573 (by decide +kernel) (by decide +kernel)
theorem cv_Host_steps : CV mt_Host_steps := ⟨im_Host_steps, se_Host_steps⟩
theorem lk_Law_74 : gin (.methodLink R_Law 74 y_Mod_steps) := gin_of 884 (by decide +kernel) (by decide +kernel)
set_option maxRecDepth 40000 in
theorem cz_Mod_steps : CZ mt_Mod_steps 1 := ⟨⟨List.mem_of_getElem? (i := 887) rfl, by decide +kernel⟩, ini_Mod, ⟨by decide, by decide⟩, by decide +kernel⟩
theorem im_Mod_steps : gin (.instanceMethod y_Mod_steps) := gin_of 885 (by decide +kernel) (by decide +kernel)
theorem se_Mod_steps : gin (.selects R_Mod y_Mod_steps y_Mod_steps) := gin_of 886 (by decide +kernel) (by decide +kernel)
theorem cv_Mod_steps : CV mt_Mod_steps := ⟨im_Mod_steps, se_Mod_steps⟩
theorem lk_Law_75 : gin (.methodLink R_Law 75 y_Host_used) := gin_of 575 (by decide +kernel) (by decide +kernel)
set_option maxRecDepth 40000 in
theorem cz_Host_used : CZ mt_Host_used 1 := ⟨⟨List.mem_of_getElem? (i := 578) rfl, by decide +kernel⟩, ini_Host, ⟨by decide, by decide⟩, by decide +kernel⟩
theorem im_Host_used : gin (.instanceMethod y_Host_used) := gin_of 576 (by decide +kernel) (by decide +kernel)
theorem se_Host_used : gin (.selects R_Host y_Host_used y_Host_used) := gin_of 577 (by decide +kernel) (by decide +kernel)
theorem cv_Host_used : CV mt_Host_used := ⟨im_Host_used, se_Host_used⟩
theorem lk_Law_78 : gin (.methodLink R_Law 78 y_Mod_used) := gin_of 888 (by decide +kernel) (by decide +kernel)
set_option maxRecDepth 40000 in
theorem cz_Mod_used : CZ mt_Mod_used 1 := ⟨⟨List.mem_of_getElem? (i := 891) rfl, by decide +kernel⟩, ini_Mod, ⟨by decide, by decide⟩, by decide +kernel⟩
theorem im_Mod_used : gin (.instanceMethod y_Mod_used) := gin_of 889 (by decide +kernel) (by decide +kernel)
theorem se_Mod_used : gin (.selects R_Mod y_Mod_used y_Mod_used) := gin_of 890 (by decide +kernel) (by decide +kernel)
theorem cv_Mod_used : CV mt_Mod_used := ⟨im_Mod_used, se_Mod_used⟩
theorem lk_Law_79 : gin (.methodLink R_Law 79 y_Host_live) := gin_of 579 (by decide +kernel) (by decide +kernel)
set_option maxRecDepth 40000 in
theorem cz_Host_live : CZ mt_Host_live 1 := ⟨⟨List.mem_of_getElem? (i := 582) rfl, by decide +kernel⟩, ini_Host, ⟨by decide, by decide⟩, by decide +kernel⟩
theorem im_Host_live : gin (.instanceMethod y_Host_live) := gin_of 580 (by decide +kernel) (by decide +kernel)
theorem se_Host_live : gin (.selects R_Host y_Host_live y_Host_live) := gin_of 581 (by decide +kernel) (by decide +kernel)
theorem cv_Host_live : CV mt_Host_live := ⟨im_Host_live, se_Host_live⟩
theorem lk_Law_82 : gin (.methodLink R_Law 82 y_Mod_live) := gin_of 892 (by decide +kernel) (by decide +kernel)
set_option maxRecDepth 40000 in
theorem cz_Mod_live : CZ mt_Mod_live 1 := ⟨⟨List.mem_of_getElem? (i := 895) rfl, by decide +kernel⟩, ini_Mod, ⟨by decide, by decide⟩, by decide +kernel⟩
theorem im_Mod_live : gin (.instanceMethod y_Mod_live) := gin_of 893 (by decide +kernel) (by decide +kernel)
theorem se_Mod_live : gin (.selects R_Mod y_Mod_live y_Mod_live) := gin_of 894 (by decide +kernel) (by decide +kernel)
theorem cv_Mod_live : CV mt_Mod_live := ⟨im_Mod_live, se_Mod_live⟩
theorem lk_Law_83 : gin (.methodLink R_Law 83 y_Host_collections) := gin_of 584 (by decide +kernel) (by decide +kernel)
set_option maxRecDepth 40000 in
theorem cz_Host_collections : CZ mt_Host_collections 1 := ⟨⟨List.mem_of_getElem? (i := 587) rfl, by decide +kernel⟩, ini_Host, ⟨by decide, by decide⟩, by decide +kernel⟩
theorem im_Host_collections : gin (.instanceMethod y_Host_collections) := gin_of 585 (by decide +kernel) (by decide +kernel)
theorem se_Host_collections : gin (.selects R_Host y_Host_collections y_Host_collections) := gin_of 586 (by decide +kernel) (by decide +kernel)
theorem cv_Host_collections : CV mt_Host_collections := ⟨im_Host_collections, se_Host_collections⟩
theorem lk_Law_86 : gin (.methodLink R_Law 86 y_Mod_collections) := gin_of 896 (by decide +kernel) (by decide +kernel)
set_option maxRecDepth 40000 in
theorem cz_Mod_collections : CZ mt_Mod_collections 1 := ⟨⟨List.mem_of_getElem? (i := 899) rfl, by decide +kernel⟩, ini_Mod, ⟨by decide, by decide⟩, by decide +kernel⟩
theorem im_Mod_collections : gin (.instanceMethod y_Mod_collections) := gin_of 897 (by decide +kernel) (by decide +kernel)
theorem se_Mod_collections : gin (.selects R_Mod y_Mod_collections y_Mod_collections) := gin_of 898 (by decide +kernel) (by decide +kernel)
theorem cv_Mod_collections : CV mt_Mod_collections := ⟨im_Mod_collections, se_Mod_collections⟩
theorem lk_Law_87 : gin (.methodLink R_Law 87 y_Host_ended) := gin_of 588 (by decide +kernel) (by decide +kernel)
set_option maxRecDepth 40000 in
theorem cz_Host_ended : CZ mt_Host_ended 1 := ⟨⟨List.mem_of_getElem? (i := 591) rfl, by decide +kernel⟩, ini_Host, ⟨by decide, by decide⟩, by decide +kernel⟩
theorem im_Host_ended : gin (.instanceMethod y_Host_ended) := gin_of 589 (by decide +kernel) (by decide +kernel)
theorem se_Host_ended : gin (.selects R_Host y_Host_ended y_Host_ended) := gin_of 590 (by decide +kernel) (by decide +kernel)
theorem cv_Host_ended : CV mt_Host_ended := ⟨im_Host_ended, se_Host_ended⟩
theorem lk_Law_90 : gin (.methodLink R_Law 90 y_Mod_ended) := gin_of 900 (by decide +kernel) (by decide +kernel)
set_option maxRecDepth 40000 in
theorem cz_Mod_ended : CZ mt_Mod_ended 1 := ⟨⟨List.mem_of_getElem? (i := 903) rfl, by decide +kernel⟩, ini_Mod, ⟨by decide, by decide⟩, by decide +kernel⟩
theorem im_Mod_ended : gin (.instanceMethod y_Mod_ended) := gin_of 901 (by decide +kernel) (by decide +kernel)
theorem se_Mod_ended : gin (.selects R_Mod y_Mod_ended y_Mod_ended) := gin_of 902 (by decide +kernel) (by decide +kernel)
theorem cv_Mod_ended : CV mt_Mod_ended := ⟨im_Mod_ended, se_Mod_ended⟩
theorem lk_Law_91 : gin (.methodLink R_Law 91 y_Host_messages) := gin_of 592 (by decide +kernel) (by decide +kernel)
set_option maxRecDepth 40000 in
theorem cz_Host_messages : CZ mt_Host_messages 1 := ⟨⟨List.mem_of_getElem? (i := 595) rfl, by decide +kernel⟩, ini_Host, ⟨by decide, by decide⟩, by decide +kernel⟩
theorem im_Host_messages : gin (.instanceMethod y_Host_messages) := gin_of 593 (by decide +kernel) (by decide +kernel)
theorem se_Host_messages : gin (.selects R_Host y_Host_messages y_Host_messages) := gin_of 594 (by decide +kernel) (by decide +kernel)
theorem cv_Host_messages : CV mt_Host_messages := ⟨im_Host_messages, se_Host_messages⟩
theorem lk_Law_94 : gin (.methodLink R_Law 94 y_Mod_messages) := gin_of 904 (by decide +kernel) (by decide +kernel)
set_option maxRecDepth 40000 in
theorem cz_Mod_messages : CZ mt_Mod_messages 1 := ⟨⟨List.mem_of_getElem? (i := 907) rfl, by decide +kernel⟩, ini_Mod, ⟨by decide, by decide⟩, by decide +kernel⟩
theorem im_Mod_messages : gin (.instanceMethod y_Mod_messages) := gin_of 905 (by decide +kernel) (by decide +kernel)
theorem se_Mod_messages : gin (.selects R_Mod y_Mod_messages y_Mod_messages) := gin_of 906 (by decide +kernel) (by decide +kernel)
theorem cv_Mod_messages : CV mt_Mod_messages := ⟨im_Mod_messages, se_Mod_messages⟩
theorem lk_Law_95 : gin (.methodLink R_Law 95 y_Host_output) := gin_of 596 (by decide +kernel) (by decide +kernel)
set_option maxRecDepth 40000 in
theorem cz_Host_output : CZ mt_Host_output 2 := ⟨⟨List.mem_of_getElem? (i := 599) rfl, by decide +kernel⟩, ini_Host, ⟨by decide, by decide⟩, by decide +kernel⟩
theorem im_Host_output : gin (.instanceMethod y_Host_output) := gin_of 597 (by decide +kernel) (by decide +kernel)
theorem se_Host_output : gin (.selects R_Host y_Host_output y_Host_output) := gin_of 598 (by decide +kernel) (by decide +kernel)
theorem cv_Host_output : CV mt_Host_output := ⟨im_Host_output, se_Host_output⟩
theorem lk_Law_98 : gin (.methodLink R_Law 98 y_Mod_output) := gin_of 908 (by decide +kernel) (by decide +kernel)
set_option maxRecDepth 40000 in
theorem cz_Mod_output : CZ mt_Mod_output 2 := ⟨⟨List.mem_of_getElem? (i := 911) rfl, by decide +kernel⟩, ini_Mod, ⟨by decide, by decide⟩, by decide +kernel⟩
theorem im_Mod_output : gin (.instanceMethod y_Mod_output) := gin_of 909 (by decide +kernel) (by decide +kernel)
theorem se_Mod_output : gin (.selects R_Mod y_Mod_output y_Mod_output) := gin_of 910 (by decide +kernel) (by decide +kernel)
theorem cv_Mod_output : CV mt_Mod_output := ⟨im_Mod_output, se_Mod_output⟩
theorem lk_Law_99 : gin (.methodLink R_Law 99 y_Host_local) := gin_of 601 (by decide +kernel) (by decide +kernel)
set_option maxRecDepth 40000 in
theorem cz_Host_local : CZ mt_Host_local 2 := ⟨⟨List.mem_of_getElem? (i := 604) rfl, by decide +kernel⟩, ini_Host, ⟨by decide, by decide⟩, by decide +kernel⟩
theorem im_Host_local : gin (.instanceMethod y_Host_local) := gin_of 602 (by decide +kernel) (by decide +kernel)
theorem se_Host_local : gin (.selects R_Host y_Host_local y_Host_local) := gin_of 603 (by decide +kernel) (by decide +kernel)
theorem cv_Host_local : CV mt_Host_local := ⟨im_Host_local, se_Host_local⟩
theorem lk_Law_102 : gin (.methodLink R_Law 102 y_Mod_local) := gin_of 912 (by decide +kernel) (by decide +kernel)
set_option maxRecDepth 40000 in
theorem cz_Mod_local : CZ mt_Mod_local 2 := ⟨⟨List.mem_of_getElem? (i := 915) rfl, by decide +kernel⟩, ini_Mod, ⟨by decide, by decide⟩, by decide +kernel⟩
theorem im_Mod_local : gin (.instanceMethod y_Mod_local) := gin_of 913 (by decide +kernel) (by decide +kernel)
theorem se_Mod_local : gin (.selects R_Mod y_Mod_local y_Mod_local) := gin_of 914 (by decide +kernel) (by decide +kernel)
theorem cv_Mod_local : CV mt_Mod_local := ⟨im_Mod_local, se_Mod_local⟩
theorem lk_Law_103 : gin (.methodLink R_Law 103 y_Host_look) := gin_of 605 (by decide +kernel) (by decide +kernel)
set_option maxRecDepth 40000 in
theorem cz_Host_look : CZ mt_Host_look 3 := ⟨⟨List.mem_of_getElem? (i := 608) rfl, by decide +kernel⟩, ini_Host, ⟨by decide, by decide⟩, by decide +kernel⟩
theorem im_Host_look : gin (.instanceMethod y_Host_look) := gin_of 606 (by decide +kernel) (by decide +kernel)
theorem se_Host_look : gin (.selects R_Host y_Host_look y_Host_look) := gin_of 607 (by decide +kernel) (by decide +kernel)
theorem cv_Host_look : CV mt_Host_look := ⟨im_Host_look, se_Host_look⟩
theorem lk_Law_106 : gin (.methodLink R_Law 106 y_Mod_look) := gin_of 916 (by decide +kernel) (by decide +kernel)
set_option maxRecDepth 40000 in
theorem cz_Mod_look : CZ mt_Mod_look 3 := ⟨⟨List.mem_of_getElem? (i := 919) rfl, by decide +kernel⟩, ini_Mod, ⟨by decide, by decide⟩, by decide +kernel⟩
theorem im_Mod_look : gin (.instanceMethod y_Mod_look) := gin_of 917 (by decide +kernel) (by decide +kernel)
theorem se_Mod_look : gin (.selects R_Mod y_Mod_look y_Mod_look) := gin_of 918 (by decide +kernel) (by decide +kernel)
theorem cv_Mod_look : CV mt_Mod_look := ⟨im_Mod_look, se_Mod_look⟩
