def wp_Prog_close (k0 : Nat) (μ : Mu) (Q : Int32 → Mu → Prop) : Prop := ((((μ.1 (3 + 5 * k0) 6) = 0) → wp_Prog_isSound k0 μ (fun x2 μ1 => ((x2 = 0 ∨ x2 = 1) ∧ ∀ μ3 : Mu, μ3 = setF μ1 (3 + 5 * k0) 6 x2 → (((μ3.1 (3 + 5 * k0) 6) = 0 ∨ (μ3.1 (3 + 5 * k0) 6) = 1) ∧ Q (μ3.1 (3 + 5 * k0) 6) μ3)))) ∧ ((¬ (μ.1 (3 + 5 * k0) 6) = 0) → Q (0 : Int32) μ))
set_option maxRecDepth 100000 in
set_option maxHeartbeats 4000000 in
theorem m_Prog_close {l : Launch} {k0 : Nat} (hk0 : k0 < 4) {μ : Mu} {Q : Int32 → Mu → Prop} (hk : wp_Prog_close k0 μ Q) : Mets (mE l) mt_Prog_close false (rmd 5) [.ref (3 + 5 * k0)] (lay μ) (PI Q) := by
  unfold wp_Prog_close at hk
  refine mets_of (L := [some (.ref (3 + 5 * k0))]) (by decide) (Nat.le_of_ble_eq_true rfl) rfl ?_
  refine go_aload_n (pc := 0) (i := 0) d_Prog_close_0 rfl rfl ?_
  refine go_getI (pc := 1) (sh_prog hk0) rfl fl_Prog_31 d_Prog_close_1 ?_
  refine go_if_eq (pc := 4) (tgt := 9) d_Prog_close_4 rfl (fun h4 => ?_) (fun h4 => ?_)
  · replace hk := hk.1 h4
    refine go_aload_n (pc := 9) (i := 0) d_Prog_close_9 rfl rfl ?_
    refine go_aload_n (pc := 10) (i := 0) d_Prog_close_10 rfl rfl ?_
    refine go_callV (pc := 11) (m_Prog_isSound hk0 hk) cz_Prog_isSound cv_Prog_isSound (Or.inl lk_Prog_35) (lay_at (sh_prog hk0)) rfl rfl rfl (Nat.le_of_ble_eq_true rfl) ⟨by decide, by decide⟩ rfl rfl d_Prog_close_11 (fun r M' hr => ?_)
    obtain ⟨x2, μ1, rfl, rfl, hk⟩ := hr
    try dsimp only [Option.toList, List.cons_append, List.nil_append]
    obtain ⟨hb4, hk⟩ := hk
    refine go_putZn (pc := 14) hb4 (sh_prog hk0) rfl (fp_Prog_31 rfl) d_Prog_close_14 (fun μ3 e3 => ?_)
    replace hk := hk μ3 e3
    refine go_aload_n (pc := 17) (i := 0) d_Prog_close_17 rfl rfl ?_
    refine go_getI (pc := 18) (sh_prog hk0) rfl fl_Prog_31 d_Prog_close_18 ?_
    obtain ⟨hb5, hk⟩ := hk
    exact go_ret (pc := 21) (r := some (.int (μ3.1 (3 + 5 * k0) 6))) ⟨nar_zv hb5, d_Prog_close_21⟩ ⟨_, _, rfl, rfl, hk⟩
  · replace hk := hk.2 h4
    refine go_iconst (pc := 7) (v := 0) d_Prog_close_7 (by decide) ?_
    exact go_ret (pc := 8) (r := some (.int (0 : Int32))) ⟨nar_zv (by decide), d_Prog_close_8⟩ ⟨_, _, rfl, rfl, hk⟩
def wp_Host_seal (a1 : Int32) (μ : Mu) (Q : Int32 → Mu → Prop) : Prop := wp_Host_isProgram a1 μ (fun x2 μ1 => (((x2 = 0) → Q (0 : Int32) μ1) ∧ ((¬ x2 = 0) → (vp_in a1 4 ∧ wp_Prog_close (Int32.toNatClampNeg a1) μ1 (fun x6 μ5 => (((x6 = 0) → Q (0 : Int32) μ5) ∧ ((¬ x6 = 0) → Q (1 : Int32) μ5)))))))
set_option maxRecDepth 100000 in
set_option maxHeartbeats 4000000 in
theorem m_Host_seal {l : Launch} {a1 : Int32}  {μ : Mu} {Q : Int32 → Mu → Prop} (hk : wp_Host_seal a1 μ Q) : Mets (mE l) mt_Host_seal false (rmd 6) [.ref 0, .int a1] (lay μ) (PI Q) := by
  unfold wp_Host_seal at hk
  refine mets_of (L := [some (.ref 0), some (.int a1)]) (by decide) (Nat.le_of_ble_eq_true rfl) rfl ?_
  refine go_iload_n (pc := 0) (i := 1) d_Host_seal_0 rfl rfl ?_
  refine go_callS (pc := 1) (m_Host_isProgram  hk) cz_Host_isProgram sm_Host_isProgram (Or.inl lk_Host_42) rfl rfl (Nat.le_of_ble_eq_true rfl) ⟨by decide, by decide⟩ rfl rfl d_Host_seal_1 (fun r M' hr => ?_)
  obtain ⟨x2, μ1, rfl, rfl, hk⟩ := hr
  try dsimp only [Option.toList, List.cons_append, List.nil_append]
  refine go_if_eq (pc := 4) (tgt := 23) d_Host_seal_4 rfl (fun h4 => ?_) (fun h4 => ?_)
  · replace hk := hk.1 h4
    refine go_iconst (pc := 23) (v := 0) d_Host_seal_23 (by decide) ?_
    exact go_ret (pc := 24) (r := some (.int (0 : Int32))) ⟨nar_zv (by decide), d_Host_seal_24⟩ ⟨_, _, rfl, rfl, hk⟩
  · replace hk := hk.2 h4
    refine go_aload_n (pc := 7) (i := 0) d_Host_seal_7 rfl rfl ?_
    refine go_getR (pc := 8) (r := 1) sh_host rfl fl_Host_11 d_Host_seal_8 ?_
    refine go_iload_n (pc := 11) (i := 1) d_Host_seal_11 rfl rfl ?_
    obtain ⟨hi3, hk⟩ := hk
    have ht4 : (Int32.toNatClampNeg a1) < 4 := in_lt (n := 4) hi3
    refine go_aldR (pc := 12) (r := 3 + 5 * (Int32.toNatClampNeg a1)) sh_programs rfl hi3 (prog_at ht4) d_Host_seal_12 ?_
    refine go_callV (pc := 13) (m_Prog_close ht4 hk) cz_Prog_close cv_Prog_close (Or.inl lk_Host_59) (lay_at (sh_prog ht4)) rfl rfl rfl (Nat.le_of_ble_eq_true rfl) ⟨by decide, by decide⟩ rfl rfl d_Host_seal_13 (fun r M' hr => ?_)
    obtain ⟨x6, μ5, rfl, rfl, hk⟩ := hr
    try dsimp only [Option.toList, List.cons_append, List.nil_append]
    refine go_if_eq (pc := 16) (tgt := 23) d_Host_seal_16 rfl (fun h16 => ?_) (fun h16 => ?_)
    · replace hk := hk.1 h16
      refine go_iconst (pc := 23) (v := 0) d_Host_seal_23 (by decide) ?_
      exact go_ret (pc := 24) (r := some (.int (0 : Int32))) ⟨nar_zv (by decide), d_Host_seal_24⟩ ⟨_, _, rfl, rfl, hk⟩
    · replace hk := hk.2 h16
      refine go_iconst (pc := 19) (v := 1) d_Host_seal_19 (by decide) ?_
      refine go_goto (pc := 20) (tgt := 24) d_Host_seal_20 rfl ?_
      exact go_ret (pc := 24) (r := some (.int (1 : Int32))) ⟨nar_zv (by decide), d_Host_seal_24⟩ ⟨_, _, rfl, rfl, hk⟩
def wp_Prog_shapeAt (k0 : Nat) (a1 : Int32) (μ : Mu) (Q : Int32 → Mu → Prop) : Prop := ((((μ.1 (3 + 5 * k0) 6) = 0) → Q (-1 : Int32) μ) ∧ ((¬ (μ.1 (3 + 5 * k0) 6) = 0) → wp_Prog_has k0 a1 μ (fun x2 μ1 => (((x2 = 0) → Q (-1 : Int32) μ1) ∧ ((¬ x2 = 0) → (vp_in a1 24 ∧ Q (μ1.2.1 (6 + 5 * k0) (Int32.toNatClampNeg a1)) μ1))))))
set_option maxRecDepth 100000 in
set_option maxHeartbeats 4000000 in
theorem m_Prog_shapeAt {l : Launch} {k0 : Nat} {a1 : Int32} (hk0 : k0 < 4) {μ : Mu} {Q : Int32 → Mu → Prop} (hk : wp_Prog_shapeAt k0 a1 μ Q) : Mets (mE l) mt_Prog_shapeAt false (rmd 1) [.ref (3 + 5 * k0), .int a1] (lay μ) (PI Q) := by
  unfold wp_Prog_shapeAt at hk
  refine mets_of (L := [some (.ref (3 + 5 * k0)), some (.int a1)]) (by decide) (Nat.le_of_ble_eq_true rfl) rfl ?_
  refine go_aload_n (pc := 0) (i := 0) d_Prog_shapeAt_0 rfl rfl ?_
  refine go_getI (pc := 1) (sh_prog hk0) rfl fl_Prog_31 d_Prog_shapeAt_1 ?_
  refine go_if_eq (pc := 4) (tgt := 24) d_Prog_shapeAt_4 rfl (fun h4 => ?_) (fun h4 => ?_)
  · replace hk := hk.1 h4
    refine go_iconst (pc := 24) (v := (-1)) d_Prog_shapeAt_24 (by decide) ?_
    exact go_ret (pc := 25) (r := some (.int (-1 : Int32))) d_Prog_shapeAt_25 ⟨_, _, rfl, rfl, hk⟩
  · replace hk := hk.2 h4
    refine go_aload_n (pc := 7) (i := 0) d_Prog_shapeAt_7 rfl rfl ?_
    refine go_iload_n (pc := 8) (i := 1) d_Prog_shapeAt_8 rfl rfl ?_
    refine go_callV (pc := 9) (m_Prog_has hk0 hk) cz_Prog_has cv_Prog_has (Or.inl lk_Prog_39) (lay_at (sh_prog hk0)) rfl rfl rfl (Nat.le_of_ble_eq_true rfl) ⟨by decide, by decide⟩ rfl rfl d_Prog_shapeAt_9 (fun r M' hr => ?_)
    obtain ⟨x2, μ1, rfl, rfl, hk⟩ := hr
    try dsimp only [Option.toList, List.cons_append, List.nil_append]
    refine go_if_eq (pc := 12) (tgt := 24) d_Prog_shapeAt_12 rfl (fun h12 => ?_) (fun h12 => ?_)
    · replace hk := hk.1 h12
      refine go_iconst (pc := 24) (v := (-1)) d_Prog_shapeAt_24 (by decide) ?_
      exact go_ret (pc := 25) (r := some (.int (-1 : Int32))) d_Prog_shapeAt_25 ⟨_, _, rfl, rfl, hk⟩
    · replace hk := hk.2 h12
      refine go_aload_n (pc := 15) (i := 0) d_Prog_shapeAt_15 rfl rfl ?_
      refine go_getR (pc := 16) (r := 6 + 5 * k0) (sh_prog hk0) rfl fl_Prog_18 d_Prog_shapeAt_16 ?_
      refine go_iload_n (pc := 19) (i := 1) d_Prog_shapeAt_19 rfl rfl ?_
      obtain ⟨hi3, hk⟩ := hk
      refine go_aldI (pc := 20) (sh_pshapes hk0) hi3 d_Prog_shapeAt_20 ?_
      refine go_goto (pc := 21) (tgt := 25) d_Prog_shapeAt_21 rfl ?_
      exact go_ret (pc := 25) (r := some (.int (μ1.2.1 (6 + 5 * k0) (Int32.toNatClampNeg a1)))) d_Prog_shapeAt_25 ⟨_, _, rfl, rfl, hk⟩
def wp_Host_shape (a1 : Int32) (a2 : Int32) (μ : Mu) (Q : Int32 → Mu → Prop) : Prop := wp_Host_isProgram a1 μ (fun x2 μ1 => (((x2 = 0) → Q (-1 : Int32) μ1) ∧ ((¬ x2 = 0) → (vp_in a1 4 ∧ wp_Prog_shapeAt (Int32.toNatClampNeg a1) a2 μ1 (fun x6 μ5 => Q x6 μ5)))))
set_option maxRecDepth 100000 in
set_option maxHeartbeats 4000000 in
theorem m_Host_shape {l : Launch} {a1 : Int32} {a2 : Int32}  {μ : Mu} {Q : Int32 → Mu → Prop} (hk : wp_Host_shape a1 a2 μ Q) : Mets (mE l) mt_Host_shape false (rmd 2) [.ref 0, .int a1, .int a2] (lay μ) (PI Q) := by
  unfold wp_Host_shape at hk
  refine mets_of (L := [some (.ref 0), some (.int a1), some (.int a2)]) (by decide) (Nat.le_of_ble_eq_true rfl) rfl ?_
  refine go_iload_n (pc := 0) (i := 1) d_Host_shape_0 rfl rfl ?_
  refine go_callS (pc := 1) (m_Host_isProgram  hk) cz_Host_isProgram sm_Host_isProgram (Or.inl lk_Host_42) rfl rfl (Nat.le_of_ble_eq_true rfl) ⟨by decide, by decide⟩ rfl rfl d_Host_shape_1 (fun r M' hr => ?_)
  obtain ⟨x2, μ1, rfl, rfl, hk⟩ := hr
  try dsimp only [Option.toList, List.cons_append, List.nil_append]
  refine go_if_eq (pc := 4) (tgt := 20) d_Host_shape_4 rfl (fun h4 => ?_) (fun h4 => ?_)
  · replace hk := hk.1 h4
    refine go_iconst (pc := 20) (v := (-1)) d_Host_shape_20 (by decide) ?_
    exact go_ret (pc := 21) (r := some (.int (-1 : Int32))) d_Host_shape_21 ⟨_, _, rfl, rfl, hk⟩
  · replace hk := hk.2 h4
    refine go_aload_n (pc := 7) (i := 0) d_Host_shape_7 rfl rfl ?_
    refine go_getR (pc := 8) (r := 1) sh_host rfl fl_Host_11 d_Host_shape_8 ?_
    refine go_iload_n (pc := 11) (i := 1) d_Host_shape_11 rfl rfl ?_
    obtain ⟨hi3, hk⟩ := hk
    have ht4 : (Int32.toNatClampNeg a1) < 4 := in_lt (n := 4) hi3
    refine go_aldR (pc := 12) (r := 3 + 5 * (Int32.toNatClampNeg a1)) sh_programs rfl hi3 (prog_at ht4) d_Host_shape_12 ?_
    refine go_iload_n (pc := 13) (i := 2) d_Host_shape_13 rfl rfl ?_
    refine go_callV (pc := 14) (m_Prog_shapeAt ht4 hk) cz_Prog_shapeAt cv_Prog_shapeAt (Or.inl lk_Host_62) (lay_at (sh_prog ht4)) rfl rfl rfl (Nat.le_of_ble_eq_true rfl) ⟨by decide, by decide⟩ rfl rfl d_Host_shape_14 (fun r M' hr => ?_)
    obtain ⟨x6, μ5, rfl, rfl, hk⟩ := hr
    try dsimp only [Option.toList, List.cons_append, List.nil_append]
    refine go_goto (pc := 17) (tgt := 21) d_Host_shape_17 rfl ?_
    exact go_ret (pc := 21) (r := some (.int x6)) d_Host_shape_21 ⟨_, _, rfl, rfl, hk⟩
def wp_Host_isSharedOrNone (a1 : Int32) (μ : Mu) (Q : Int32 → Mu → Prop) : Prop := (((a1 < (-1 : Int32)) → Q (0 : Int32) μ) ∧ ((¬ a1 < (-1 : Int32)) → ((((μ.1 0 3) ≤ a1) → Q (0 : Int32) μ) ∧ ((¬ (μ.1 0 3) ≤ a1) → Q (1 : Int32) μ))))
set_option maxRecDepth 100000 in
set_option maxHeartbeats 4000000 in
theorem m_Host_isSharedOrNone {l : Launch} {a1 : Int32}  {μ : Mu} {Q : Int32 → Mu → Prop} (hk : wp_Host_isSharedOrNone a1 μ Q) : Mets (mE l) mt_Host_isSharedOrNone false (rmd 0) [.ref 0, .int a1] (lay μ) (PI Q) := by
  unfold wp_Host_isSharedOrNone at hk
  refine mets_of (L := [some (.ref 0), some (.int a1)]) (by decide) (Nat.le_of_ble_eq_true rfl) rfl ?_
  refine go_iload_n (pc := 0) (i := 1) d_Host_isSharedOrNone_0 rfl rfl ?_
  refine go_iconst (pc := 1) (v := (-1)) d_Host_isSharedOrNone_1 (by decide) ?_
  refine go_icmp_lt (pc := 2) (tgt := 17) d_Host_isSharedOrNone_2 rfl (fun h2 => ?_) (fun h2 => ?_)
  · replace hk := hk.1 h2
    refine go_iconst (pc := 17) (v := 0) d_Host_isSharedOrNone_17 (by decide) ?_
    exact go_ret (pc := 18) (r := some (.int (0 : Int32))) ⟨nar_zv (by decide), d_Host_isSharedOrNone_18⟩ ⟨_, _, rfl, rfl, hk⟩
  · replace hk := hk.2 h2
    refine go_iload_n (pc := 5) (i := 1) d_Host_isSharedOrNone_5 rfl rfl ?_
    refine go_aload_n (pc := 6) (i := 0) d_Host_isSharedOrNone_6 rfl rfl ?_
    refine go_getI (pc := 7) sh_host rfl fl_Host_21 d_Host_isSharedOrNone_7 ?_
    refine go_icmp_ge (pc := 10) (tgt := 17) d_Host_isSharedOrNone_10 rfl (fun h10 => ?_) (fun h10 => ?_)
    · replace hk := hk.1 h10
      refine go_iconst (pc := 17) (v := 0) d_Host_isSharedOrNone_17 (by decide) ?_
      exact go_ret (pc := 18) (r := some (.int (0 : Int32))) ⟨nar_zv (by decide), d_Host_isSharedOrNone_18⟩ ⟨_, _, rfl, rfl, hk⟩
    · replace hk := hk.2 h10
      refine go_iconst (pc := 13) (v := 1) d_Host_isSharedOrNone_13 (by decide) ?_
      refine go_goto (pc := 14) (tgt := 18) d_Host_isSharedOrNone_14 rfl ?_
      exact go_ret (pc := 18) (r := some (.int (1 : Int32))) ⟨nar_zv (by decide), d_Host_isSharedOrNone_18⟩ ⟨_, _, rfl, rfl, hk⟩
def wp_Host_sharedReference (a1 : Int32) (μ : Mu) (Q : Int32 → Mu → Prop) : Prop := Q ((1 : Int32) + a1) μ
set_option maxRecDepth 100000 in
set_option maxHeartbeats 4000000 in
theorem m_Host_sharedReference {l : Launch} {a1 : Int32}  {μ : Mu} {Q : Int32 → Mu → Prop} (hk : wp_Host_sharedReference a1 μ Q) : Mets (mE l) mt_Host_sharedReference false (rmd 0) [.int a1] (lay μ) (PI Q) := by
  unfold wp_Host_sharedReference at hk
  refine mets_of (L := [some (.int a1)]) (by decide) (Nat.le_of_ble_eq_true rfl) rfl ?_
  refine go_iconst (pc := 0) (v := 1) d_Host_sharedReference_0 (by decide) ?_
  refine go_iload_n (pc := 1) (i := 0) d_Host_sharedReference_1 rfl rfl ?_
  refine go_iadd (pc := 2) d_Host_sharedReference_2 ?_
  exact go_ret (pc := 3) (r := some (.int ((1 : Int32) + a1))) d_Host_sharedReference_3 ⟨_, _, rfl, rfl, hk⟩
def wp_Heap_fill (k0 : Nat) (a1 : Int32) (a2 : Int32) (a3 : Int32) (a4 : Int32) (μ : Mu) (Q : Mu → Prop) : Prop := (vp_in a1 33 ∧ ∀ μ2 : Mu, μ2 = setA μ (25 + 17 * k0) (Int32.toNatClampNeg a1) a2 → (vp_in a1 33 ∧ ∀ μ4 : Mu, μ4 = setA μ2 (26 + 17 * k0) (Int32.toNatClampNeg a1) a3 → (vp_in a1 33 ∧ ∀ μ6 : Mu, μ6 = setA μ4 (27 + 17 * k0) (Int32.toNatClampNeg a1) a4 → Q μ6)))
set_option maxRecDepth 100000 in
set_option maxHeartbeats 4000000 in
theorem m_Heap_fill {l : Launch} {k0 : Nat} {a1 : Int32} {a2 : Int32} {a3 : Int32} {a4 : Int32} (hk0 : k0 < 4) {μ : Mu} {Q : Mu → Prop} (hk : wp_Heap_fill k0 a1 a2 a3 a4 μ Q) : Mets (mE l) mt_Heap_fill false (rmd 0) [.ref (24 + 17 * k0), .int a1, .int a2, .int a3, .int a4] (lay μ) (PV Q) := by
  unfold wp_Heap_fill at hk
  refine mets_of (L := [some (.ref (24 + 17 * k0)), some (.int a1), some (.int a2), some (.int a3), some (.int a4)]) (by decide) (Nat.le_of_ble_eq_true rfl) rfl ?_
  refine go_aload_n (pc := 0) (i := 0) d_Heap_fill_0 rfl rfl ?_
  refine go_getR (pc := 1) (r := 25 + 17 * k0) (sh_heap hk0) rfl fl_Heap_9 d_Heap_fill_1 ?_
  refine go_iload_n (pc := 4) (i := 1) d_Heap_fill_4 rfl rfl ?_
  refine go_iload_n (pc := 5) (i := 2) d_Heap_fill_5 rfl rfl ?_
  obtain ⟨hi1, hk⟩ := hk
  refine go_astIn (pc := 6) (sh_nums hk0) hi1 d_Heap_fill_6 (fun μ2 e2 => ?_)
  replace hk := hk μ2 e2
  refine go_aload_n (pc := 7) (i := 0) d_Heap_fill_7 rfl rfl ?_
  refine go_getR (pc := 8) (r := 26 + 17 * k0) (sh_heap hk0) rfl fl_Heap_15 d_Heap_fill_8 ?_
  refine go_iload_n (pc := 11) (i := 1) d_Heap_fill_11 rfl rfl ?_
  refine go_iload_n (pc := 12) (i := 3) d_Heap_fill_12 rfl rfl ?_
  obtain ⟨hi3, hk⟩ := hk
  refine go_astIn (pc := 13) (sh_lefts hk0) hi3 d_Heap_fill_13 (fun μ4 e4 => ?_)
  replace hk := hk μ4 e4
  refine go_aload_n (pc := 14) (i := 0) d_Heap_fill_14 rfl rfl ?_
  refine go_getR (pc := 15) (r := 27 + 17 * k0) (sh_heap hk0) rfl fl_Heap_18 d_Heap_fill_15 ?_
  refine go_iload_n (pc := 18) (i := 1) d_Heap_fill_18 rfl rfl ?_
  refine go_iload (pc := 19) d_Heap_fill_19 rfl ?_
  obtain ⟨hi5, hk⟩ := hk
  refine go_astIn (pc := 21) (sh_rights hk0) hi5 d_Heap_fill_21 (fun μ6 e6 => ?_)
  replace hk := hk μ6 e6
  exact go_ret (pc := 22) (r := none) d_Heap_fill_22 ⟨_, rfl, rfl, hk⟩
def wp_Host_share_36 (w1 : Int32) (w2 : Int32) (w3 : Int32) (w4 : Int32) (K0 : Int32 → Mu → Prop) (Q : Int32 → Mu → Prop) : Nat → Int32 → Mu → Prop
  | 0, _, _ => False
  | n36 + 1, v5, μ => ((((4 : Int32) ≤ v5) → K0 v5 μ) ∧ ((¬ (4 : Int32) ≤ v5) → (vp_in v5 4 ∧ wp_Host_sharedReference w4 μ (fun x8 μ7 => wp_Host_sharedReference w2 μ7 (fun x10 μ9 => wp_Host_sharedReference w3 μ9 (fun x12 μ11 => wp_Heap_fill (Int32.toNatClampNeg v5) x8 w1 x10 x12 μ11 (fun μ13 => wp_Host_share_36 w1 w2 w3 w4 K0 Q n36 (v5 + 1) μ13)))))))
set_option maxRecDepth 100000 in
set_option maxHeartbeats 4000000 in
theorem g_Host_share_36 {l : Launch} {w1 : Int32} {w2 : Int32} {w3 : Int32} {w4 : Int32}  {K0 : Int32 → Mu → Prop} {Q : Int32 → Mu → Prop} (hK0 : ∀ (v5 : Int32) (μ : Mu), K0 v5 μ → Go (mE l) mt_Host_share false (rmd 1) 0 0 75 [some (.ref 0), some (.int w1), some (.int w2), some (.int w3), some (.int w4), some (.int v5)] [] (lay μ) (PI Q)) : ∀ (n : Nat) (v5 : Int32) (μ : Mu), wp_Host_share_36 w1 w2 w3 w4 K0 Q n v5 μ → Go (mE l) mt_Host_share false (rmd 1) 0 0 36 [some (.ref 0), some (.int w1), some (.int w2), some (.int w3), some (.int w4), some (.int v5)] [] (lay μ) (PI Q) := by
  intro n
  induction n with
  | zero => intro v5 μ hk; exact hk.elim
  | succ n ih =>
    intro v5 μ hk
    unfold wp_Host_share_36 at hk
    refine go_iload (pc := 36) d_Host_share_36 rfl ?_
    refine go_iconst (pc := 38) (v := 4) d_Host_share_38 (by decide) ?_
    refine go_icmp_ge (pc := 39) (tgt := 75) d_Host_share_39 rfl (fun h39 => ?_) (fun h39 => ?_)
    · replace hk := hk.1 h39
      exact hK0 _ _ hk
    · replace hk := hk.2 h39
      refine go_aload_n (pc := 42) (i := 0) d_Host_share_42 rfl rfl ?_
      refine go_getR (pc := 43) (r := 2) sh_host rfl fl_Host_17 d_Host_share_43 ?_
      refine go_iload (pc := 46) d_Host_share_46 rfl ?_
      obtain ⟨hi5, hk⟩ := hk
      have ht6 : (Int32.toNatClampNeg v5) < 4 := in_lt (n := 4) hi5
      refine go_aldR (pc := 48) (r := 23 + 17 * (Int32.toNatClampNeg v5)) sh_tenants rfl hi5 (ten_at ht6) d_Host_share_48 ?_
      refine go_getR (pc := 49) (r := 24 + 17 * (Int32.toNatClampNeg v5)) (sh_ten ht6) rfl fl_Host_69 d_Host_share_49 ?_
      refine go_iload (pc := 52) d_Host_share_52 rfl ?_
      refine go_callS (pc := 54) (m_Host_sharedReference  hk) cz_Host_sharedReference sm_Host_sharedReference (Or.inl lk_Host_73) rfl rfl (Nat.le_of_ble_eq_true rfl) ⟨by decide, by decide⟩ rfl rfl d_Host_share_54 (fun r M' hr => ?_)
      obtain ⟨x8, μ7, rfl, rfl, hk⟩ := hr
      try dsimp only [Option.toList, List.cons_append, List.nil_append]
      refine go_iload_n (pc := 57) (i := 1) d_Host_share_57 rfl rfl ?_
      refine go_iload_n (pc := 58) (i := 2) d_Host_share_58 rfl rfl ?_
      refine go_callS (pc := 59) (m_Host_sharedReference  hk) cz_Host_sharedReference sm_Host_sharedReference (Or.inl lk_Host_73) rfl rfl (Nat.le_of_ble_eq_true rfl) ⟨by decide, by decide⟩ rfl rfl d_Host_share_59 (fun r M' hr => ?_)
      obtain ⟨x10, μ9, rfl, rfl, hk⟩ := hr
      try dsimp only [Option.toList, List.cons_append, List.nil_append]
      refine go_iload_n (pc := 62) (i := 3) d_Host_share_62 rfl rfl ?_
      refine go_callS (pc := 63) (m_Host_sharedReference  hk) cz_Host_sharedReference sm_Host_sharedReference (Or.inl lk_Host_73) rfl rfl (Nat.le_of_ble_eq_true rfl) ⟨by decide, by decide⟩ rfl rfl d_Host_share_63 (fun r M' hr => ?_)
      obtain ⟨x12, μ11, rfl, rfl, hk⟩ := hr
      try dsimp only [Option.toList, List.cons_append, List.nil_append]
      refine go_callV (pc := 66) (m_Heap_fill ht6 hk) cz_Heap_fill cv_Heap_fill (Or.inl lk_Host_76) (lay_at (sh_heap ht6)) rfl rfl rfl (Nat.le_of_ble_eq_true rfl) ⟨by decide, by decide⟩ rfl rfl d_Host_share_66 (fun r M' hr => ?_)
      obtain ⟨μ13, rfl, rfl, hk⟩ := hr
      try dsimp only [Option.toList, List.cons_append, List.nil_append]
      refine go_iinc (pc := 69) (v := (v5 + 1)) (L' := [some (.ref 0), some (.int w1), some (.int w2), some (.int w3), some (.int w4), some (.int (v5 + 1))]) d_Host_share_69 rfl rfl (by decide) rfl ?_
      refine go_goto (pc := 72) (tgt := 36) d_Host_share_72 rfl ?_
      exact ih _ _ hk
def wp_Host_share (a1 : Int32) (a2 : Int32) (a3 : Int32) (μ : Mu) (Q : Int32 → Mu → Prop) : Prop := ((((8 : Int32) ≤ (μ.1 0 3)) → Q (-1 : Int32) μ) ∧ ((¬ (8 : Int32) ≤ (μ.1 0 3)) → wp_Host_isSharedOrNone a2 μ (fun x2 μ1 => (((x2 = 0) → Q (-1 : Int32) μ1) ∧ ((¬ x2 = 0) → wp_Host_isSharedOrNone a3 μ1 (fun x4 μ3 => (((¬ x4 = 0) → (∃ n36, wp_Host_share_36 a1 a2 a3 (μ3.1 0 3) (fun v14 μ15 => ∀ μ16 : Mu, μ16 = setF μ15 0 3 ((μ15.1 0 3) + (1 : Int32)) → Q (μ3.1 0 3) μ16) Q n36 (0 : Int32) μ3)) ∧ ((x4 = 0) → Q (-1 : Int32) μ3))))))))
set_option maxRecDepth 100000 in
set_option maxHeartbeats 4000000 in
theorem m_Host_share {l : Launch} {a1 : Int32} {a2 : Int32} {a3 : Int32}  {μ : Mu} {Q : Int32 → Mu → Prop} (hk : wp_Host_share a1 a2 a3 μ Q) : Mets (mE l) mt_Host_share false (rmd 1) [.ref 0, .int a1, .int a2, .int a3] (lay μ) (PI Q) := by
  unfold wp_Host_share at hk
  refine mets_of (L := [some (.ref 0), some (.int a1), some (.int a2), some (.int a3), none, none]) (by decide) (Nat.le_of_ble_eq_true rfl) rfl ?_
  refine go_aload_n (pc := 0) (i := 0) d_Host_share_0 rfl rfl ?_
  refine go_getI (pc := 1) sh_host rfl fl_Host_21 d_Host_share_1 ?_
  refine go_bipush (pc := 4) (v := 8) d_Host_share_4 (by decide) ?_
  refine go_icmp_ge (pc := 6) (tgt := 25) d_Host_share_6 rfl (fun h6 => ?_) (fun h6 => ?_)
  · replace hk := hk.1 h6
    refine go_iconst (pc := 25) (v := (-1)) d_Host_share_25 (by decide) ?_
    exact go_ret (pc := 26) (r := some (.int (-1 : Int32))) d_Host_share_26 ⟨_, _, rfl, rfl, hk⟩
  · replace hk := hk.2 h6
    refine go_aload_n (pc := 9) (i := 0) d_Host_share_9 rfl rfl ?_
    refine go_iload_n (pc := 10) (i := 2) d_Host_share_10 rfl rfl ?_
    refine go_callV (pc := 11) (m_Host_isSharedOrNone  hk) cz_Host_isSharedOrNone cv_Host_isSharedOrNone (Or.inl lk_Host_66) (lay_at sh_host) rfl rfl rfl (Nat.le_of_ble_eq_true rfl) ⟨by decide, by decide⟩ rfl rfl d_Host_share_11 (fun r M' hr => ?_)
    obtain ⟨x2, μ1, rfl, rfl, hk⟩ := hr
    try dsimp only [Option.toList, List.cons_append, List.nil_append]
    refine go_if_eq (pc := 14) (tgt := 25) d_Host_share_14 rfl (fun h14 => ?_) (fun h14 => ?_)
    · replace hk := hk.1 h14
      refine go_iconst (pc := 25) (v := (-1)) d_Host_share_25 (by decide) ?_
      exact go_ret (pc := 26) (r := some (.int (-1 : Int32))) d_Host_share_26 ⟨_, _, rfl, rfl, hk⟩
    · replace hk := hk.2 h14
      refine go_aload_n (pc := 17) (i := 0) d_Host_share_17 rfl rfl ?_
      refine go_iload_n (pc := 18) (i := 3) d_Host_share_18 rfl rfl ?_
      refine go_callV (pc := 19) (m_Host_isSharedOrNone  hk) cz_Host_isSharedOrNone cv_Host_isSharedOrNone (Or.inl lk_Host_66) (lay_at sh_host) rfl rfl rfl (Nat.le_of_ble_eq_true rfl) ⟨by decide, by decide⟩ rfl rfl d_Host_share_19 (fun r M' hr => ?_)
      obtain ⟨x4, μ3, rfl, rfl, hk⟩ := hr
      try dsimp only [Option.toList, List.cons_append, List.nil_append]
      refine go_if_ne (pc := 22) (tgt := 27) d_Host_share_22 rfl (fun h22 => ?_) (fun h22 => ?_)
      · replace hk := hk.1 h22
        refine go_aload_n (pc := 27) (i := 0) d_Host_share_27 rfl rfl ?_
        refine go_getI (pc := 28) sh_host rfl fl_Host_21 d_Host_share_28 ?_
        refine go_istore (pc := 31) (L' := [some (.ref 0), some (.int a1), some (.int a2), some (.int a3), some (.int (μ3.1 0 3)), none]) d_Host_share_31 (by decide) rfl ?_
        refine go_iconst (pc := 33) (v := 0) d_Host_share_33 (by decide) ?_
        refine go_istore (pc := 34) (L' := [some (.ref 0), some (.int a1), some (.int a2), some (.int a3), some (.int (μ3.1 0 3)), some (.int (0 : Int32))]) d_Host_share_34 (by decide) rfl ?_
        obtain ⟨n, hk⟩ := hk
        refine g_Host_share_36  (fun v14 μ15 hk => ?_) n _ _ hk
        · try dsimp only at hk
          refine go_aload_n (pc := 75) (i := 0) d_Host_share_75 rfl rfl ?_
          refine go_dup (pc := 76) d_Host_share_76 rfl ?_
          refine go_getI (pc := 77) sh_host rfl fl_Host_21 d_Host_share_77 ?_
          refine go_iconst (pc := 80) (v := 1) d_Host_share_80 (by decide) ?_
          refine go_iadd (pc := 81) d_Host_share_81 ?_
          refine go_putIn (pc := 82) sh_host rfl (fp_Host_21 rfl) d_Host_share_82 (fun μ16 e16 => ?_)
          replace hk := hk μ16 e16
          refine go_iload (pc := 85) d_Host_share_85 rfl ?_
          exact go_ret (pc := 87) (r := some (.int (μ3.1 0 3))) d_Host_share_87 ⟨_, _, rfl, rfl, hk⟩
      · replace hk := hk.2 h22
        refine go_iconst (pc := 25) (v := (-1)) d_Host_share_25 (by decide) ?_
        exact go_ret (pc := 26) (r := some (.int (-1 : Int32))) d_Host_share_26 ⟨_, _, rfl, rfl, hk⟩
def wp_Host_isTenant (a1 : Int32) (μ : Mu) (Q : Int32 → Mu → Prop) : Prop := (((a1 < 0) → Q (0 : Int32) μ) ∧ ((¬ a1 < 0) → ((((4 : Int32) ≤ a1) → Q (0 : Int32) μ) ∧ ((¬ (4 : Int32) ≤ a1) → Q (1 : Int32) μ))))
set_option maxRecDepth 100000 in
set_option maxHeartbeats 4000000 in
theorem m_Host_isTenant {l : Launch} {a1 : Int32}  {μ : Mu} {Q : Int32 → Mu → Prop} (hk : wp_Host_isTenant a1 μ Q) : Mets (mE l) mt_Host_isTenant false (rmd 0) [.int a1] (lay μ) (PI Q) := by
  unfold wp_Host_isTenant at hk
  refine mets_of (L := [some (.int a1)]) (by decide) (Nat.le_of_ble_eq_true rfl) rfl ?_
  refine go_iload_n (pc := 0) (i := 0) d_Host_isTenant_0 rfl rfl ?_
  refine go_if_lt (pc := 1) (tgt := 13) d_Host_isTenant_1 rfl (fun h1 => ?_) (fun h1 => ?_)
  · replace hk := hk.1 h1
    refine go_iconst (pc := 13) (v := 0) d_Host_isTenant_13 (by decide) ?_
    exact go_ret (pc := 14) (r := some (.int (0 : Int32))) ⟨nar_zv (by decide), d_Host_isTenant_14⟩ ⟨_, _, rfl, rfl, hk⟩
  · replace hk := hk.2 h1
    refine go_iload_n (pc := 4) (i := 0) d_Host_isTenant_4 rfl rfl ?_
    refine go_iconst (pc := 5) (v := 4) d_Host_isTenant_5 (by decide) ?_
    refine go_icmp_ge (pc := 6) (tgt := 13) d_Host_isTenant_6 rfl (fun h6 => ?_) (fun h6 => ?_)
    · replace hk := hk.1 h6
      refine go_iconst (pc := 13) (v := 0) d_Host_isTenant_13 (by decide) ?_
      exact go_ret (pc := 14) (r := some (.int (0 : Int32))) ⟨nar_zv (by decide), d_Host_isTenant_14⟩ ⟨_, _, rfl, rfl, hk⟩
    · replace hk := hk.2 h6
      refine go_iconst (pc := 9) (v := 1) d_Host_isTenant_9 (by decide) ?_
      refine go_goto (pc := 10) (tgt := 14) d_Host_isTenant_10 rfl ?_
      exact go_ret (pc := 14) (r := some (.int (1 : Int32))) ⟨nar_zv (by decide), d_Host_isTenant_14⟩ ⟨_, _, rfl, rfl, hk⟩
def wp_Host_reservedCells_4  (K0 : Int32 → Int32 → Mu → Prop) (Q : Int32 → Mu → Prop) : Nat → Int32 → Int32 → Mu → Prop
  | 0, _, _, _ => False
  | n4 + 1, v1, v2, μ => ((((4 : Int32) ≤ v2) → K0 v1 v2 μ) ∧ ((¬ (4 : Int32) ≤ v2) → (vp_in v2 4 ∧ wp_Host_reservedCells_4  K0 Q n4 (v1 + (μ.1 (24 + 17 * (Int32.toNatClampNeg v2)) 5)) (v2 + 1) μ)))
set_option maxRecDepth 100000 in
set_option maxHeartbeats 4000000 in
theorem g_Host_reservedCells_4 {l : Launch}   {K0 : Int32 → Int32 → Mu → Prop} {Q : Int32 → Mu → Prop} (hK0 : ∀ (v1 : Int32) (v2 : Int32) (μ : Mu), K0 v1 v2 μ → Go (mE l) mt_Host_reservedCells false (rmd 0) 0 0 30 [some (.ref 0), some (.int v1), some (.int v2)] [] (lay μ) (PI Q)) : ∀ (n : Nat) (v1 : Int32) (v2 : Int32) (μ : Mu), wp_Host_reservedCells_4  K0 Q n v1 v2 μ → Go (mE l) mt_Host_reservedCells false (rmd 0) 0 0 4 [some (.ref 0), some (.int v1), some (.int v2)] [] (lay μ) (PI Q) := by
  intro n
  induction n with
  | zero => intro v1 v2 μ hk; exact hk.elim
  | succ n ih =>
    intro v1 v2 μ hk
    unfold wp_Host_reservedCells_4 at hk
    refine go_iload_n (pc := 4) (i := 2) d_Host_reservedCells_4 rfl rfl ?_
    refine go_iconst (pc := 5) (v := 4) d_Host_reservedCells_5 (by decide) ?_
    refine go_icmp_ge (pc := 6) (tgt := 30) d_Host_reservedCells_6 rfl (fun h6 => ?_) (fun h6 => ?_)
    · replace hk := hk.1 h6
      exact hK0 _ _ _ hk
    · replace hk := hk.2 h6
      refine go_iload_n (pc := 9) (i := 1) d_Host_reservedCells_9 rfl rfl ?_
      refine go_aload_n (pc := 10) (i := 0) d_Host_reservedCells_10 rfl rfl ?_
      refine go_getR (pc := 11) (r := 2) sh_host rfl fl_Host_17 d_Host_reservedCells_11 ?_
      refine go_iload_n (pc := 14) (i := 2) d_Host_reservedCells_14 rfl rfl ?_
      obtain ⟨hi1, hk⟩ := hk
      have ht2 : (Int32.toNatClampNeg v2) < 4 := in_lt (n := 4) hi1
      refine go_aldR (pc := 15) (r := 23 + 17 * (Int32.toNatClampNeg v2)) sh_tenants rfl hi1 (ten_at ht2) d_Host_reservedCells_15 ?_
      refine go_getR (pc := 16) (r := 24 + 17 * (Int32.toNatClampNeg v2)) (sh_ten ht2) rfl fl_Host_69 d_Host_reservedCells_16 ?_
      refine go_getI (pc := 19) (sh_heap ht2) rfl fl_Host_92 d_Host_reservedCells_19 ?_
      refine go_iadd (pc := 22) d_Host_reservedCells_22 ?_
      refine go_istore_n (pc := 23) (i := 1) (L' := [some (.ref 0), some (.int (v1 + (μ.1 (24 + 17 * (Int32.toNatClampNeg v2)) 5))), some (.int v2)]) d_Host_reservedCells_23 rfl (by decide) rfl ?_
      refine go_iinc (pc := 24) (v := (v2 + 1)) (L' := [some (.ref 0), some (.int (v1 + (μ.1 (24 + 17 * (Int32.toNatClampNeg v2)) 5))), some (.int (v2 + 1))]) d_Host_reservedCells_24 rfl rfl (by decide) rfl ?_
      refine go_goto (pc := 27) (tgt := 4) d_Host_reservedCells_27 rfl ?_
      exact ih _ _ _ hk
def wp_Host_reservedCells  (μ : Mu) (Q : Int32 → Mu → Prop) : Prop := (∃ n4, wp_Host_reservedCells_4  (fun v3 v4 μ5 => Q v3 μ5) Q n4 (0 : Int32) (0 : Int32) μ)
set_option maxRecDepth 100000 in
set_option maxHeartbeats 4000000 in
theorem m_Host_reservedCells {l : Launch}   {μ : Mu} {Q : Int32 → Mu → Prop} (hk : wp_Host_reservedCells  μ Q) : Mets (mE l) mt_Host_reservedCells false (rmd 0) [.ref 0] (lay μ) (PI Q) := by
  unfold wp_Host_reservedCells at hk
  refine mets_of (L := [some (.ref 0), none, none]) (by decide) (Nat.le_of_ble_eq_true rfl) rfl ?_
  refine go_iconst (pc := 0) (v := 0) d_Host_reservedCells_0 (by decide) ?_
  refine go_istore_n (pc := 1) (i := 1) (L' := [some (.ref 0), some (.int (0 : Int32)), none]) d_Host_reservedCells_1 rfl (by decide) rfl ?_
  refine go_iconst (pc := 2) (v := 0) d_Host_reservedCells_2 (by decide) ?_
  refine go_istore_n (pc := 3) (i := 2) (L' := [some (.ref 0), some (.int (0 : Int32)), some (.int (0 : Int32))]) d_Host_reservedCells_3 rfl (by decide) rfl ?_
  obtain ⟨n, hk⟩ := hk
  refine g_Host_reservedCells_4  (fun v3 v4 μ5 hk => ?_) n _ _ _ hk
  · try dsimp only at hk
    refine go_iload_n (pc := 30) (i := 1) d_Host_reservedCells_30 rfl rfl ?_
    exact go_ret (pc := 31) (r := some (.int v3)) d_Host_reservedCells_31 ⟨_, _, rfl, rfl, hk⟩
def wp_Ten_isReserved (k0 : Nat) (μ : Mu) (Q : Int32 → Mu → Prop) : Prop := ((((μ.1 (23 + 17 * k0) 10) ≤ 0) → Q (0 : Int32) μ) ∧ ((¬ (μ.1 (23 + 17 * k0) 10) ≤ 0) → Q (1 : Int32) μ))
set_option maxRecDepth 100000 in
set_option maxHeartbeats 4000000 in
theorem m_Ten_isReserved {l : Launch} {k0 : Nat} (hk0 : k0 < 4) {μ : Mu} {Q : Int32 → Mu → Prop} (hk : wp_Ten_isReserved k0 μ Q) : Mets (mE l) mt_Ten_isReserved false (rmd 0) [.ref (23 + 17 * k0)] (lay μ) (PI Q) := by
  unfold wp_Ten_isReserved at hk
  refine mets_of (L := [some (.ref (23 + 17 * k0))]) (by decide) (Nat.le_of_ble_eq_true rfl) rfl ?_
  refine go_aload_n (pc := 0) (i := 0) d_Ten_isReserved_0 rfl rfl ?_
  refine go_getI (pc := 1) (sh_ten hk0) rfl fl_Ten_57 d_Ten_isReserved_1 ?_
  refine go_if_le (pc := 4) (tgt := 11) d_Ten_isReserved_4 rfl (fun h4 => ?_) (fun h4 => ?_)
  · replace hk := hk.1 h4
    refine go_iconst (pc := 11) (v := 0) d_Ten_isReserved_11 (by decide) ?_
    exact go_ret (pc := 12) (r := some (.int (0 : Int32))) ⟨nar_zv (by decide), d_Ten_isReserved_12⟩ ⟨_, _, rfl, rfl, hk⟩
  · replace hk := hk.2 h4
    refine go_iconst (pc := 7) (v := 1) d_Ten_isReserved_7 (by decide) ?_
    refine go_goto (pc := 8) (tgt := 12) d_Ten_isReserved_8 rfl ?_
    exact go_ret (pc := 12) (r := some (.int (1 : Int32))) ⟨nar_zv (by decide), d_Ten_isReserved_12⟩ ⟨_, _, rfl, rfl, hk⟩
def wp_Host_reserve_j35 (j1 : Int32) (j2 : Int32) (j3 : Int32) (s0 : Int32) (μ : Mu)  (Q : Int32 → Mu → Prop) : Prop := (((s0 = 0) → Q (0 : Int32) μ) ∧ ((¬ s0 = 0) → (vp_in j1 4 ∧ wp_Ten_isReserved (Int32.toNatClampNeg j1) μ (fun x6 μ5 => (((¬ x6 = 0) → Q (0 : Int32) μ5) ∧ ((x6 = 0) → wp_Host_reservedCells  μ5 (fun x8 μ7 => ((((x8 + j2) ≤ (48 : Int32)) → (vp_in j1 4 ∧ ∀ μ11 : Mu, μ11 = setF μ7 (24 + 17 * (Int32.toNatClampNeg j1)) 5 j2 → (vp_in j1 4 ∧ ∀ μ14 : Mu, μ14 = setF μ11 (23 + 17 * (Int32.toNatClampNeg j1)) 10 j3 → Q (1 : Int32) μ14))) ∧ ((¬ (x8 + j2) ≤ (48 : Int32)) → Q (0 : Int32) μ7)))))))))
set_option maxRecDepth 100000 in
set_option maxHeartbeats 4000000 in
theorem g_Host_reserve_j35 {l : Launch} {j1 : Int32} {j2 : Int32} {j3 : Int32} {s0 : Int32}   {Q : Int32 → Mu → Prop}  {μ : Mu} (hk : wp_Host_reserve_j35 j1 j2 j3 s0 μ  Q) : Go (mE l) mt_Host_reserve false (rmd 1) 0 0 35 [some (.ref 0), some (.int j1), some (.int j2), some (.int j3), none] [.int s0] (lay μ) (PI Q) := by
  unfold wp_Host_reserve_j35 at hk
  refine go_istore (pc := 35) (L' := [some (.ref 0), some (.int j1), some (.int j2), some (.int j3), some (.int s0)]) d_Host_reserve_35 (by decide) rfl ?_
  refine go_iload (pc := 37) d_Host_reserve_37 rfl ?_
  refine go_if_eq (pc := 39) (tgt := 65) d_Host_reserve_39 rfl (fun h39 => ?_) (fun h39 => ?_)
  · replace hk := hk.1 h39
    refine go_iconst (pc := 65) (v := 0) d_Host_reserve_65 (by decide) ?_
    exact go_ret (pc := 66) (r := some (.int (0 : Int32))) ⟨nar_zv (by decide), d_Host_reserve_66⟩ ⟨_, _, rfl, rfl, hk⟩
  · replace hk := hk.2 h39
    refine go_aload_n (pc := 42) (i := 0) d_Host_reserve_42 rfl rfl ?_
    refine go_getR (pc := 43) (r := 2) sh_host rfl fl_Host_17 d_Host_reserve_43 ?_
    refine go_iload_n (pc := 46) (i := 1) d_Host_reserve_46 rfl rfl ?_
    obtain ⟨hi3, hk⟩ := hk
    have ht4 : (Int32.toNatClampNeg j1) < 4 := in_lt (n := 4) hi3
    refine go_aldR (pc := 47) (r := 23 + 17 * (Int32.toNatClampNeg j1)) sh_tenants rfl hi3 (ten_at ht4) d_Host_reserve_47 ?_
    refine go_callV (pc := 48) (m_Ten_isReserved ht4 hk) cz_Ten_isReserved cv_Ten_isReserved (Or.inl lk_Host_85) (lay_at (sh_ten ht4)) rfl rfl rfl (Nat.le_of_ble_eq_true rfl) ⟨by decide, by decide⟩ rfl rfl d_Host_reserve_48 (fun r M' hr => ?_)
    obtain ⟨x6, μ5, rfl, rfl, hk⟩ := hr
    try dsimp only [Option.toList, List.cons_append, List.nil_append]
    refine go_if_ne (pc := 51) (tgt := 65) d_Host_reserve_51 rfl (fun h51 => ?_) (fun h51 => ?_)
    · replace hk := hk.1 h51
      refine go_iconst (pc := 65) (v := 0) d_Host_reserve_65 (by decide) ?_
      exact go_ret (pc := 66) (r := some (.int (0 : Int32))) ⟨nar_zv (by decide), d_Host_reserve_66⟩ ⟨_, _, rfl, rfl, hk⟩
    · replace hk := hk.2 h51
      refine go_aload_n (pc := 54) (i := 0) d_Host_reserve_54 rfl rfl ?_
      refine go_callV (pc := 55) (m_Host_reservedCells  hk) cz_Host_reservedCells cv_Host_reservedCells (Or.inl lk_Host_88) (lay_at sh_host) rfl rfl rfl (Nat.le_of_ble_eq_true rfl) ⟨by decide, by decide⟩ rfl rfl d_Host_reserve_55 (fun r M' hr => ?_)
      obtain ⟨x8, μ7, rfl, rfl, hk⟩ := hr
      try dsimp only [Option.toList, List.cons_append, List.nil_append]
      refine go_iload_n (pc := 58) (i := 2) d_Host_reserve_58 rfl rfl ?_
      refine go_iadd (pc := 59) d_Host_reserve_59 ?_
      refine go_bipush (pc := 60) (v := 48) d_Host_reserve_60 (by decide) ?_
      refine go_icmp_le (pc := 62) (tgt := 67) d_Host_reserve_62 rfl (fun h62 => ?_) (fun h62 => ?_)
      · replace hk := hk.1 h62
        refine go_aload_n (pc := 67) (i := 0) d_Host_reserve_67 rfl rfl ?_
        refine go_getR (pc := 68) (r := 2) sh_host rfl fl_Host_17 d_Host_reserve_68 ?_
        refine go_iload_n (pc := 71) (i := 1) d_Host_reserve_71 rfl rfl ?_
        obtain ⟨hi9, hk⟩ := hk
        have ht10 : (Int32.toNatClampNeg j1) < 4 := in_lt (n := 4) hi9
        refine go_aldR (pc := 72) (r := 23 + 17 * (Int32.toNatClampNeg j1)) sh_tenants rfl hi9 (ten_at ht10) d_Host_reserve_72 ?_
        refine go_getR (pc := 73) (r := 24 + 17 * (Int32.toNatClampNeg j1)) (sh_ten ht10) rfl fl_Host_69 d_Host_reserve_73 ?_
        refine go_iload_n (pc := 76) (i := 2) d_Host_reserve_76 rfl rfl ?_
        refine go_putIn (pc := 77) (sh_heap ht10) rfl (fp_Host_92 rfl) d_Host_reserve_77 (fun μ11 e11 => ?_)
        replace hk := hk μ11 e11
        refine go_aload_n (pc := 80) (i := 0) d_Host_reserve_80 rfl rfl ?_
        refine go_getR (pc := 81) (r := 2) sh_host rfl fl_Host_17 d_Host_reserve_81 ?_
        refine go_iload_n (pc := 84) (i := 1) d_Host_reserve_84 rfl rfl ?_
        obtain ⟨hi12, hk⟩ := hk
        have ht13 : (Int32.toNatClampNeg j1) < 4 := in_lt (n := 4) hi12
        refine go_aldR (pc := 85) (r := 23 + 17 * (Int32.toNatClampNeg j1)) sh_tenants rfl hi12 (ten_at ht13) d_Host_reserve_85 ?_
        refine go_iload_n (pc := 86) (i := 3) d_Host_reserve_86 rfl rfl ?_
        refine go_putIn (pc := 87) (sh_ten ht13) rfl (fp_Host_95 rfl) d_Host_reserve_87 (fun μ14 e14 => ?_)
        replace hk := hk μ14 e14
        refine go_iconst (pc := 90) (v := 1) d_Host_reserve_90 (by decide) ?_
        exact go_ret (pc := 91) (r := some (.int (1 : Int32))) ⟨nar_zv (by decide), d_Host_reserve_91⟩ ⟨_, _, rfl, rfl, hk⟩
      · replace hk := hk.2 h62
        refine go_iconst (pc := 65) (v := 0) d_Host_reserve_65 (by decide) ?_
        exact go_ret (pc := 66) (r := some (.int (0 : Int32))) ⟨nar_zv (by decide), d_Host_reserve_66⟩ ⟨_, _, rfl, rfl, hk⟩
def wp_Host_reserve_j34 (j1 : Int32) (j2 : Int32) (j3 : Int32) (μ : Mu)  (Q : Int32 → Mu → Prop) : Prop := wp_Host_reserve_j35 j1 j2 j3 (0 : Int32) μ  Q
set_option maxRecDepth 100000 in
set_option maxHeartbeats 4000000 in
theorem g_Host_reserve_j34 {l : Launch} {j1 : Int32} {j2 : Int32} {j3 : Int32}   {Q : Int32 → Mu → Prop}  {μ : Mu} (hk : wp_Host_reserve_j34 j1 j2 j3 μ  Q) : Go (mE l) mt_Host_reserve false (rmd 1) 0 0 34 [some (.ref 0), some (.int j1), some (.int j2), some (.int j3), none] [] (lay μ) (PI Q) := by
  unfold wp_Host_reserve_j34 at hk
  refine go_iconst (pc := 34) (v := 0) d_Host_reserve_34 (by decide) ?_
  exact g_Host_reserve_j35   hk
def wp_Host_reserve (a1 : Int32) (a2 : Int32) (a3 : Int32) (μ : Mu) (Q : Int32 → Mu → Prop) : Prop := wp_Host_isTenant a1 μ (fun x2 μ1 => (((x2 = 0) → wp_Host_reserve_j34 a1 a2 a3 μ1  Q) ∧ ((¬ x2 = 0) → (((a2 < (1 : Int32)) → wp_Host_reserve_j34 a1 a2 a3 μ1  Q) ∧ ((¬ a2 < (1 : Int32)) → ((((24 : Int32) < a2) → wp_Host_reserve_j34 a1 a2 a3 μ1  Q) ∧ ((¬ (24 : Int32) < a2) → (((a3 < (1 : Int32)) → wp_Host_reserve_j34 a1 a2 a3 μ1  Q) ∧ ((¬ a3 < (1 : Int32)) → ((((3000 : Int32) < a3) → wp_Host_reserve_j34 a1 a2 a3 μ1  Q) ∧ ((¬ (3000 : Int32) < a3) → wp_Host_reserve_j35 a1 a2 a3 (1 : Int32) μ1  Q)))))))))))
set_option maxRecDepth 100000 in
set_option maxHeartbeats 4000000 in
theorem m_Host_reserve {l : Launch} {a1 : Int32} {a2 : Int32} {a3 : Int32}  {μ : Mu} {Q : Int32 → Mu → Prop} (hk : wp_Host_reserve a1 a2 a3 μ Q) : Mets (mE l) mt_Host_reserve false (rmd 1) [.ref 0, .int a1, .int a2, .int a3] (lay μ) (PI Q) := by
  unfold wp_Host_reserve at hk
  refine mets_of (L := [some (.ref 0), some (.int a1), some (.int a2), some (.int a3), none]) (by decide) (Nat.le_of_ble_eq_true rfl) rfl ?_
  refine go_iload_n (pc := 0) (i := 1) d_Host_reserve_0 rfl rfl ?_
  refine go_callS (pc := 1) (m_Host_isTenant  hk) cz_Host_isTenant sm_Host_isTenant (Or.inl lk_Host_82) rfl rfl (Nat.le_of_ble_eq_true rfl) ⟨by decide, by decide⟩ rfl rfl d_Host_reserve_1 (fun r M' hr => ?_)
  obtain ⟨x2, μ1, rfl, rfl, hk⟩ := hr
  try dsimp only [Option.toList, List.cons_append, List.nil_append]
  refine go_if_eq (pc := 4) (tgt := 34) d_Host_reserve_4 rfl (fun h4 => ?_) (fun h4 => ?_)
  · replace hk := hk.1 h4
    exact g_Host_reserve_j34   hk
  · replace hk := hk.2 h4
    refine go_iload_n (pc := 7) (i := 2) d_Host_reserve_7 rfl rfl ?_
    refine go_iconst (pc := 8) (v := 1) d_Host_reserve_8 (by decide) ?_
    refine go_icmp_lt (pc := 9) (tgt := 34) d_Host_reserve_9 rfl (fun h9 => ?_) (fun h9 => ?_)
    · replace hk := hk.1 h9
      exact g_Host_reserve_j34   hk
    · replace hk := hk.2 h9
      refine go_iload_n (pc := 12) (i := 2) d_Host_reserve_12 rfl rfl ?_
      refine go_bipush (pc := 13) (v := 24) d_Host_reserve_13 (by decide) ?_
      refine go_icmp_gt (pc := 15) (tgt := 34) d_Host_reserve_15 rfl (fun h15 => ?_) (fun h15 => ?_)
      · replace hk := hk.1 h15
        exact g_Host_reserve_j34   hk
      · replace hk := hk.2 h15
        refine go_iload_n (pc := 18) (i := 3) d_Host_reserve_18 rfl rfl ?_
        refine go_iconst (pc := 19) (v := 1) d_Host_reserve_19 (by decide) ?_
        refine go_icmp_lt (pc := 20) (tgt := 34) d_Host_reserve_20 rfl (fun h20 => ?_) (fun h20 => ?_)
        · replace hk := hk.1 h20
          exact g_Host_reserve_j34   hk
        · replace hk := hk.2 h20
          refine go_iload_n (pc := 23) (i := 3) d_Host_reserve_23 rfl rfl ?_
          refine go_sipush (pc := 24) (v := 3000) d_Host_reserve_24 (by decide) ?_
          refine go_icmp_gt (pc := 27) (tgt := 34) d_Host_reserve_27 rfl (fun h27 => ?_) (fun h27 => ?_)
          · replace hk := hk.1 h27
            exact g_Host_reserve_j34   hk
          · replace hk := hk.2 h27
            refine go_iconst (pc := 30) (v := 1) d_Host_reserve_30 (by decide) ?_
            refine go_goto (pc := 31) (tgt := 35) d_Host_reserve_31 rfl ?_
            exact g_Host_reserve_j35   hk
def wp_Host_permit (a1 : Int32) (a2 : Int32) (a3 : Int32) (μ : Mu) (Q : Int32 → Mu → Prop) : Prop := wp_Host_isTenant a1 μ (fun x2 μ1 => (((x2 = 0) → Q (0 : Int32) μ1) ∧ ((¬ x2 = 0) → wp_Host_isTenant a2 μ1 (fun x4 μ3 => (((x4 = 0) → Q (0 : Int32) μ3) ∧ ((¬ x4 = 0) → (((a3 < 0) → Q (0 : Int32) μ3) ∧ ((¬ a3 < 0) → (((a3 ≤ (7 : Int32)) → (vp_in a1 4 ∧ (vp_in a2 4 ∧ ∀ μ8 : Mu, μ8 = setA μ3 (39 + 17 * (Int32.toNatClampNeg a1)) (Int32.toNatClampNeg a2) a3 → Q (1 : Int32) μ8))) ∧ ((¬ a3 ≤ (7 : Int32)) → Q (0 : Int32) μ3))))))))))
set_option maxRecDepth 100000 in
set_option maxHeartbeats 4000000 in
theorem m_Host_permit {l : Launch} {a1 : Int32} {a2 : Int32} {a3 : Int32}  {μ : Mu} {Q : Int32 → Mu → Prop} (hk : wp_Host_permit a1 a2 a3 μ Q) : Mets (mE l) mt_Host_permit false (rmd 1) [.ref 0, .int a1, .int a2, .int a3] (lay μ) (PI Q) := by
  unfold wp_Host_permit at hk
  refine mets_of (L := [some (.ref 0), some (.int a1), some (.int a2), some (.int a3)]) (by decide) (Nat.le_of_ble_eq_true rfl) rfl ?_
  refine go_iload_n (pc := 0) (i := 1) d_Host_permit_0 rfl rfl ?_
  refine go_callS (pc := 1) (m_Host_isTenant  hk) cz_Host_isTenant sm_Host_isTenant (Or.inl lk_Host_82) rfl rfl (Nat.le_of_ble_eq_true rfl) ⟨by decide, by decide⟩ rfl rfl d_Host_permit_1 (fun r M' hr => ?_)
  obtain ⟨x2, μ1, rfl, rfl, hk⟩ := hr
  try dsimp only [Option.toList, List.cons_append, List.nil_append]
  refine go_if_eq (pc := 4) (tgt := 24) d_Host_permit_4 rfl (fun h4 => ?_) (fun h4 => ?_)
  · replace hk := hk.1 h4
    refine go_iconst (pc := 24) (v := 0) d_Host_permit_24 (by decide) ?_
    exact go_ret (pc := 25) (r := some (.int (0 : Int32))) ⟨nar_zv (by decide), d_Host_permit_25⟩ ⟨_, _, rfl, rfl, hk⟩
  · replace hk := hk.2 h4
    refine go_iload_n (pc := 7) (i := 2) d_Host_permit_7 rfl rfl ?_
    refine go_callS (pc := 8) (m_Host_isTenant  hk) cz_Host_isTenant sm_Host_isTenant (Or.inl lk_Host_82) rfl rfl (Nat.le_of_ble_eq_true rfl) ⟨by decide, by decide⟩ rfl rfl d_Host_permit_8 (fun r M' hr => ?_)
    obtain ⟨x4, μ3, rfl, rfl, hk⟩ := hr
    try dsimp only [Option.toList, List.cons_append, List.nil_append]
    refine go_if_eq (pc := 11) (tgt := 24) d_Host_permit_11 rfl (fun h11 => ?_) (fun h11 => ?_)
    · replace hk := hk.1 h11
      refine go_iconst (pc := 24) (v := 0) d_Host_permit_24 (by decide) ?_
      exact go_ret (pc := 25) (r := some (.int (0 : Int32))) ⟨nar_zv (by decide), d_Host_permit_25⟩ ⟨_, _, rfl, rfl, hk⟩
    · replace hk := hk.2 h11
      refine go_iload_n (pc := 14) (i := 3) d_Host_permit_14 rfl rfl ?_
      refine go_if_lt (pc := 15) (tgt := 24) d_Host_permit_15 rfl (fun h15 => ?_) (fun h15 => ?_)
      · replace hk := hk.1 h15
        refine go_iconst (pc := 24) (v := 0) d_Host_permit_24 (by decide) ?_
        exact go_ret (pc := 25) (r := some (.int (0 : Int32))) ⟨nar_zv (by decide), d_Host_permit_25⟩ ⟨_, _, rfl, rfl, hk⟩
      · replace hk := hk.2 h15
        refine go_iload_n (pc := 18) (i := 3) d_Host_permit_18 rfl rfl ?_
        refine go_bipush (pc := 19) (v := 7) d_Host_permit_19 (by decide) ?_
        refine go_icmp_le (pc := 21) (tgt := 26) d_Host_permit_21 rfl (fun h21 => ?_) (fun h21 => ?_)
        · replace hk := hk.1 h21
          refine go_aload_n (pc := 26) (i := 0) d_Host_permit_26 rfl rfl ?_
          refine go_getR (pc := 27) (r := 2) sh_host rfl fl_Host_17 d_Host_permit_27 ?_
          refine go_iload_n (pc := 30) (i := 1) d_Host_permit_30 rfl rfl ?_
          obtain ⟨hi5, hk⟩ := hk
          have ht6 : (Int32.toNatClampNeg a1) < 4 := in_lt (n := 4) hi5
          refine go_aldR (pc := 31) (r := 23 + 17 * (Int32.toNatClampNeg a1)) sh_tenants rfl hi5 (ten_at ht6) d_Host_permit_31 ?_
          refine go_getR (pc := 32) (r := 39 + 17 * (Int32.toNatClampNeg a1)) (sh_ten ht6) rfl fl_Host_98 d_Host_permit_32 ?_
          refine go_iload_n (pc := 35) (i := 2) d_Host_permit_35 rfl rfl ?_
          refine go_iload_n (pc := 36) (i := 3) d_Host_permit_36 rfl rfl ?_
          obtain ⟨hi7, hk⟩ := hk
          refine go_astIn (pc := 37) (sh_perm ht6) hi7 d_Host_permit_37 (fun μ8 e8 => ?_)
          replace hk := hk μ8 e8
          refine go_iconst (pc := 38) (v := 1) d_Host_permit_38 (by decide) ?_
          exact go_ret (pc := 39) (r := some (.int (1 : Int32))) ⟨nar_zv (by decide), d_Host_permit_39⟩ ⟨_, _, rfl, rfl, hk⟩
        · replace hk := hk.2 h21
          refine go_iconst (pc := 24) (v := 0) d_Host_permit_24 (by decide) ?_
          exact go_ret (pc := 25) (r := some (.int (0 : Int32))) ⟨nar_zv (by decide), d_Host_permit_25⟩ ⟨_, _, rfl, rfl, hk⟩
def wp_Host_begin (k1 : Nat) (a2 : Int32) (μ : Mu) (Q : Int32 → Mu → Prop) : Prop := (((¬ (μ.1 (23 + 17 * k1) 7) = 0) → Q (0 : Int32) μ) ∧ (((μ.1 (23 + 17 * k1) 7) = 0) → wp_Ten_isReserved k1 μ (fun x2 μ1 => (((x2 = 0) → Q (0 : Int32) μ1) ∧ ((¬ x2 = 0) → wp_Host_isProgram a2 μ1 (fun x4 μ3 => (((x4 = 0) → Q (0 : Int32) μ3) ∧ ((¬ x4 = 0) → (vp_in a2 4 ∧ (((¬ (μ3.1 (3 + 5 * (Int32.toNatClampNeg a2)) 6) = 0) → ∀ μ7 : Mu, μ7 = setF μ3 (23 + 17 * k1) 8 a2 → ∀ μ8 : Mu, μ8 = setF μ7 (23 + 17 * k1) 7 (1 : Int32) → Q (1 : Int32) μ8) ∧ (((μ3.1 (3 + 5 * (Int32.toNatClampNeg a2)) 6) = 0) → Q (0 : Int32) μ3)))))))))))
set_option maxRecDepth 100000 in
set_option maxHeartbeats 4000000 in
theorem m_Host_begin {l : Launch} {k1 : Nat} {a2 : Int32} (hk1 : k1 < 4) {μ : Mu} {Q : Int32 → Mu → Prop} (hk : wp_Host_begin k1 a2 μ Q) : Mets (mE l) mt_Host_begin false (rmd 1) [.ref 0, .ref (23 + 17 * k1), .int a2] (lay μ) (PI Q) := by
  unfold wp_Host_begin at hk
  refine mets_of (L := [some (.ref 0), some (.ref (23 + 17 * k1)), some (.int a2)]) (by decide) (Nat.le_of_ble_eq_true rfl) rfl ?_
  refine go_aload_n (pc := 0) (i := 1) d_Host_begin_0 rfl rfl ?_
  refine go_getI (pc := 1) (sh_ten hk1) rfl fl_Host_122 d_Host_begin_1 ?_
  refine go_if_ne (pc := 4) (tgt := 33) d_Host_begin_4 rfl (fun h4 => ?_) (fun h4 => ?_)
  · replace hk := hk.1 h4
    refine go_iconst (pc := 33) (v := 0) d_Host_begin_33 (by decide) ?_
    exact go_ret (pc := 34) (r := some (.int (0 : Int32))) ⟨nar_zv (by decide), d_Host_begin_34⟩ ⟨_, _, rfl, rfl, hk⟩
  · replace hk := hk.2 h4
    refine go_aload_n (pc := 7) (i := 1) d_Host_begin_7 rfl rfl ?_
    refine go_callV (pc := 8) (m_Ten_isReserved hk1 hk) cz_Ten_isReserved cv_Ten_isReserved (Or.inl lk_Host_85) (lay_at (sh_ten hk1)) rfl rfl rfl (Nat.le_of_ble_eq_true rfl) ⟨by decide, by decide⟩ rfl rfl d_Host_begin_8 (fun r M' hr => ?_)
    obtain ⟨x2, μ1, rfl, rfl, hk⟩ := hr
    try dsimp only [Option.toList, List.cons_append, List.nil_append]
    refine go_if_eq (pc := 11) (tgt := 33) d_Host_begin_11 rfl (fun h11 => ?_) (fun h11 => ?_)
    · replace hk := hk.1 h11
      refine go_iconst (pc := 33) (v := 0) d_Host_begin_33 (by decide) ?_
      exact go_ret (pc := 34) (r := some (.int (0 : Int32))) ⟨nar_zv (by decide), d_Host_begin_34⟩ ⟨_, _, rfl, rfl, hk⟩
    · replace hk := hk.2 h11
      refine go_iload_n (pc := 14) (i := 2) d_Host_begin_14 rfl rfl ?_
      refine go_callS (pc := 15) (m_Host_isProgram  hk) cz_Host_isProgram sm_Host_isProgram (Or.inl lk_Host_42) rfl rfl (Nat.le_of_ble_eq_true rfl) ⟨by decide, by decide⟩ rfl rfl d_Host_begin_15 (fun r M' hr => ?_)
      obtain ⟨x4, μ3, rfl, rfl, hk⟩ := hr
      try dsimp only [Option.toList, List.cons_append, List.nil_append]
      refine go_if_eq (pc := 18) (tgt := 33) d_Host_begin_18 rfl (fun h18 => ?_) (fun h18 => ?_)
      · replace hk := hk.1 h18
        refine go_iconst (pc := 33) (v := 0) d_Host_begin_33 (by decide) ?_
        exact go_ret (pc := 34) (r := some (.int (0 : Int32))) ⟨nar_zv (by decide), d_Host_begin_34⟩ ⟨_, _, rfl, rfl, hk⟩
      · replace hk := hk.2 h18
        refine go_aload_n (pc := 21) (i := 0) d_Host_begin_21 rfl rfl ?_
        refine go_getR (pc := 22) (r := 1) sh_host rfl fl_Host_11 d_Host_begin_22 ?_
        refine go_iload_n (pc := 25) (i := 2) d_Host_begin_25 rfl rfl ?_
        obtain ⟨hi5, hk⟩ := hk
        have ht6 : (Int32.toNatClampNeg a2) < 4 := in_lt (n := 4) hi5
        refine go_aldR (pc := 26) (r := 3 + 5 * (Int32.toNatClampNeg a2)) sh_programs rfl hi5 (prog_at ht6) d_Host_begin_26 ?_
        refine go_getI (pc := 27) (sh_prog ht6) rfl fl_Host_172 d_Host_begin_27 ?_
        refine go_if_ne (pc := 30) (tgt := 35) d_Host_begin_30 rfl (fun h30 => ?_) (fun h30 => ?_)
        · replace hk := hk.1 h30
          refine go_aload_n (pc := 35) (i := 1) d_Host_begin_35 rfl rfl ?_
          refine go_iload_n (pc := 36) (i := 2) d_Host_begin_36 rfl rfl ?_
          refine go_putIn (pc := 37) (sh_ten hk1) rfl (fp_Host_176 rfl) d_Host_begin_37 (fun μ7 e7 => ?_)
          replace hk := hk μ7 e7
          refine go_aload_n (pc := 40) (i := 1) d_Host_begin_40 rfl rfl ?_
          refine go_iconst (pc := 41) (v := 1) d_Host_begin_41 (by decide) ?_
          refine go_putIn (pc := 42) (sh_ten hk1) rfl (fp_Host_122 rfl) d_Host_begin_42 (fun μ8 e8 => ?_)
          replace hk := hk μ8 e8
          refine go_iconst (pc := 45) (v := 1) d_Host_begin_45 (by decide) ?_
          exact go_ret (pc := 46) (r := some (.int (1 : Int32))) ⟨nar_zv (by decide), d_Host_begin_46⟩ ⟨_, _, rfl, rfl, hk⟩
        · replace hk := hk.2 h30
          refine go_iconst (pc := 33) (v := 0) d_Host_begin_33 (by decide) ?_
          exact go_ret (pc := 34) (r := some (.int (0 : Int32))) ⟨nar_zv (by decide), d_Host_begin_34⟩ ⟨_, _, rfl, rfl, hk⟩
def wp_Host_launch (a1 : Int32) (a2 : Int32) (μ : Mu) (Q : Int32 → Mu → Prop) : Prop := wp_Host_isTenant a1 μ (fun x2 μ1 => (((x2 = 0) → Q (0 : Int32) μ1) ∧ ((¬ x2 = 0) → (vp_in a1 4 ∧ wp_Host_begin (Int32.toNatClampNeg a1) a2 μ1 (fun x6 μ5 => (((x6 = 0) → Q (0 : Int32) μ5) ∧ ((¬ x6 = 0) → Q (1 : Int32) μ5)))))))
set_option maxRecDepth 100000 in
set_option maxHeartbeats 4000000 in
theorem m_Host_launch {l : Launch} {a1 : Int32} {a2 : Int32}  {μ : Mu} {Q : Int32 → Mu → Prop} (hk : wp_Host_launch a1 a2 μ Q) : Mets (mE l) mt_Host_launch false (rmd 2) [.ref 0, .int a1, .int a2] (lay μ) (PI Q) := by
  unfold wp_Host_launch at hk
  refine mets_of (L := [some (.ref 0), some (.int a1), some (.int a2)]) (by decide) (Nat.le_of_ble_eq_true rfl) rfl ?_
  refine go_iload_n (pc := 0) (i := 1) d_Host_launch_0 rfl rfl ?_
  refine go_callS (pc := 1) (m_Host_isTenant  hk) cz_Host_isTenant sm_Host_isTenant (Or.inl lk_Host_82) rfl rfl (Nat.le_of_ble_eq_true rfl) ⟨by decide, by decide⟩ rfl rfl d_Host_launch_1 (fun r M' hr => ?_)
  obtain ⟨x2, μ1, rfl, rfl, hk⟩ := hr
  try dsimp only [Option.toList, List.cons_append, List.nil_append]
  refine go_if_eq (pc := 4) (tgt := 25) d_Host_launch_4 rfl (fun h4 => ?_) (fun h4 => ?_)
  · replace hk := hk.1 h4
    refine go_iconst (pc := 25) (v := 0) d_Host_launch_25 (by decide) ?_
    exact go_ret (pc := 26) (r := some (.int (0 : Int32))) ⟨nar_zv (by decide), d_Host_launch_26⟩ ⟨_, _, rfl, rfl, hk⟩
  · replace hk := hk.2 h4
    refine go_aload_n (pc := 7) (i := 0) d_Host_launch_7 rfl rfl ?_
    refine go_aload_n (pc := 8) (i := 0) d_Host_launch_8 rfl rfl ?_
    refine go_getR (pc := 9) (r := 2) sh_host rfl fl_Host_17 d_Host_launch_9 ?_
    refine go_iload_n (pc := 12) (i := 1) d_Host_launch_12 rfl rfl ?_
    obtain ⟨hi3, hk⟩ := hk
    have ht4 : (Int32.toNatClampNeg a1) < 4 := in_lt (n := 4) hi3
    refine go_aldR (pc := 13) (r := 23 + 17 * (Int32.toNatClampNeg a1)) sh_tenants rfl hi3 (ten_at ht4) d_Host_launch_13 ?_
    refine go_iload_n (pc := 14) (i := 2) d_Host_launch_14 rfl rfl ?_
    refine go_callV (pc := 15) (m_Host_begin ht4 hk) cz_Host_begin cv_Host_begin (Or.inl lk_Host_102) (lay_at sh_host) rfl rfl rfl (Nat.le_of_ble_eq_true rfl) ⟨by decide, by decide⟩ rfl rfl d_Host_launch_15 (fun r M' hr => ?_)
    obtain ⟨x6, μ5, rfl, rfl, hk⟩ := hr
    try dsimp only [Option.toList, List.cons_append, List.nil_append]
    refine go_if_eq (pc := 18) (tgt := 25) d_Host_launch_18 rfl (fun h18 => ?_) (fun h18 => ?_)
    · replace hk := hk.1 h18
      refine go_iconst (pc := 25) (v := 0) d_Host_launch_25 (by decide) ?_
      exact go_ret (pc := 26) (r := some (.int (0 : Int32))) ⟨nar_zv (by decide), d_Host_launch_26⟩ ⟨_, _, rfl, rfl, hk⟩
    · replace hk := hk.2 h18
      refine go_iconst (pc := 21) (v := 1) d_Host_launch_21 (by decide) ?_
      refine go_goto (pc := 22) (tgt := 26) d_Host_launch_22 rfl ?_
      exact go_ret (pc := 26) (r := some (.int (1 : Int32))) ⟨nar_zv (by decide), d_Host_launch_26⟩ ⟨_, _, rfl, rfl, hk⟩
def wp_Line_isFull (k0 : Nat) (k0n : Nat) (μ : Mu) (Q : Int32 → Mu → Prop) : Prop := ((((μ.1 k0 1) < (Int32.ofNat k0n)) → Q (0 : Int32) μ) ∧ ((¬ (μ.1 k0 1) < (Int32.ofNat k0n)) → Q (1 : Int32) μ))
set_option maxRecDepth 100000 in
set_option maxHeartbeats 4000000 in
theorem m_Line_isFull {l : Launch} {k0 : Nat} {k0n : Nat} (hk0 : IsLine k0 k0n) {μ : Mu} {Q : Int32 → Mu → Prop} (hk : wp_Line_isFull k0 k0n μ Q) : Mets (mE l) mt_Line_isFull false (rmd 0) [.ref k0] (lay μ) (PI Q) := by
  unfold wp_Line_isFull at hk
  refine mets_of (L := [some (.ref k0)]) (by decide) (Nat.le_of_ble_eq_true rfl) rfl ?_
  refine go_aload_n (pc := 0) (i := 0) d_Line_isFull_0 rfl rfl ?_
  refine go_getI (pc := 1) hk0.1 rfl fl_Line_7 d_Line_isFull_1 ?_
  refine go_aload_n (pc := 4) (i := 0) d_Line_isFull_4 rfl rfl ?_
  refine go_getR (pc := 5) (r := k0 + 1) hk0.1 rfl fl_Line_13 d_Line_isFull_5 ?_
  refine go_lenA (pc := 8) (v := (Int32.ofNat k0n)) hk0.2 rfl d_Line_isFull_8 ?_
  refine go_icmp_lt (pc := 9) (tgt := 16) d_Line_isFull_9 rfl (fun h9 => ?_) (fun h9 => ?_)
  · replace hk := hk.1 h9
    refine go_iconst (pc := 16) (v := 0) d_Line_isFull_16 (by decide) ?_
    exact go_ret (pc := 17) (r := some (.int (0 : Int32))) ⟨nar_zv (by decide), d_Line_isFull_17⟩ ⟨_, _, rfl, rfl, hk⟩
  · replace hk := hk.2 h9
    refine go_iconst (pc := 12) (v := 1) d_Line_isFull_12 (by decide) ?_
    refine go_goto (pc := 13) (tgt := 17) d_Line_isFull_13 rfl ?_
    exact go_ret (pc := 17) (r := some (.int (1 : Int32))) ⟨nar_zv (by decide), d_Line_isFull_17⟩ ⟨_, _, rfl, rfl, hk⟩
def wp_Line_add (k0 : Nat) (k0n : Nat) (a1 : Int32) (μ : Mu) (Q : Int32 → Mu → Prop) : Prop := wp_Line_isFull k0 k0n μ (fun x2 μ1 => (((x2 = 0) → (vp_in (μ1.1 k0 1) k0n ∧ ∀ μ4 : Mu, μ4 = setA μ1 (k0 + 1) (Int32.toNatClampNeg (μ1.1 k0 1)) a1 → ∀ μ5 : Mu, μ5 = setF μ4 k0 1 ((μ4.1 k0 1) + (1 : Int32)) → Q (1 : Int32) μ5)) ∧ ((¬ x2 = 0) → Q (0 : Int32) μ1)))
set_option maxRecDepth 100000 in
set_option maxHeartbeats 4000000 in
theorem m_Line_add {l : Launch} {k0 : Nat} {k0n : Nat} {a1 : Int32} (hk0 : IsLine k0 k0n) {μ : Mu} {Q : Int32 → Mu → Prop} (hk : wp_Line_add k0 k0n a1 μ Q) : Mets (mE l) mt_Line_add false (rmd 1) [.ref k0, .int a1] (lay μ) (PI Q) := by
  unfold wp_Line_add at hk
  refine mets_of (L := [some (.ref k0), some (.int a1)]) (by decide) (Nat.le_of_ble_eq_true rfl) rfl ?_
  refine go_aload_n (pc := 0) (i := 0) d_Line_add_0 rfl rfl ?_
  refine go_callV (pc := 1) (m_Line_isFull hk0 hk) cz_Line_isFull cv_Line_isFull (Or.inl lk_Line_17) (lay_at hk0.1) rfl rfl rfl (Nat.le_of_ble_eq_true rfl) ⟨by decide, by decide⟩ rfl rfl d_Line_add_1 (fun r M' hr => ?_)
  obtain ⟨x2, μ1, rfl, rfl, hk⟩ := hr
  try dsimp only [Option.toList, List.cons_append, List.nil_append]
  refine go_if_eq (pc := 4) (tgt := 9) d_Line_add_4 rfl (fun h4 => ?_) (fun h4 => ?_)
  · replace hk := hk.1 h4
    refine go_aload_n (pc := 9) (i := 0) d_Line_add_9 rfl rfl ?_
    refine go_getR (pc := 10) (r := k0 + 1) hk0.1 rfl fl_Line_13 d_Line_add_10 ?_
    refine go_aload_n (pc := 13) (i := 0) d_Line_add_13 rfl rfl ?_
    refine go_getI (pc := 14) hk0.1 rfl fl_Line_7 d_Line_add_14 ?_
    refine go_iload_n (pc := 17) (i := 1) d_Line_add_17 rfl rfl ?_
    obtain ⟨hi3, hk⟩ := hk
    refine go_astIn (pc := 18) hk0.2 hi3 d_Line_add_18 (fun μ4 e4 => ?_)
    replace hk := hk μ4 e4
    refine go_aload_n (pc := 19) (i := 0) d_Line_add_19 rfl rfl ?_
    refine go_dup (pc := 20) d_Line_add_20 rfl ?_
    refine go_getI (pc := 21) hk0.1 rfl fl_Line_7 d_Line_add_21 ?_
    refine go_iconst (pc := 24) (v := 1) d_Line_add_24 (by decide) ?_
    refine go_iadd (pc := 25) d_Line_add_25 ?_
    refine go_putIn (pc := 26) hk0.1 rfl (fp_Line_7 rfl) d_Line_add_26 (fun μ5 e5 => ?_)
    replace hk := hk μ5 e5
    refine go_iconst (pc := 29) (v := 1) d_Line_add_29 (by decide) ?_
    exact go_ret (pc := 30) (r := some (.int (1 : Int32))) ⟨nar_zv (by decide), d_Line_add_30⟩ ⟨_, _, rfl, rfl, hk⟩
  · replace hk := hk.2 h4
    refine go_iconst (pc := 7) (v := 0) d_Line_add_7 (by decide) ?_
    exact go_ret (pc := 8) (r := some (.int (0 : Int32))) ⟨nar_zv (by decide), d_Line_add_8⟩ ⟨_, _, rfl, rfl, hk⟩
def wp_Host_feed (a1 : Int32) (a2 : Int32) (μ : Mu) (Q : Int32 → Mu → Prop) : Prop := wp_Host_isTenant a1 μ (fun x2 μ1 => (((x2 = 0) → Q (0 : Int32) μ1) ∧ ((¬ x2 = 0) → (vp_in a1 4 ∧ wp_Line_add (35 + 17 * (Int32.toNatClampNeg a1)) 8 a2 μ1 (fun x6 μ5 => (((x6 = 0) → Q (0 : Int32) μ5) ∧ ((¬ x6 = 0) → Q (1 : Int32) μ5)))))))
set_option maxRecDepth 100000 in
set_option maxHeartbeats 4000000 in
theorem m_Host_feed {l : Launch} {a1 : Int32} {a2 : Int32}  {μ : Mu} {Q : Int32 → Mu → Prop} (hk : wp_Host_feed a1 a2 μ Q) : Mets (mE l) mt_Host_feed false (rmd 2) [.ref 0, .int a1, .int a2] (lay μ) (PI Q) := by
  unfold wp_Host_feed at hk
  refine mets_of (L := [some (.ref 0), some (.int a1), some (.int a2)]) (by decide) (Nat.le_of_ble_eq_true rfl) rfl ?_
  refine go_iload_n (pc := 0) (i := 1) d_Host_feed_0 rfl rfl ?_
  refine go_callS (pc := 1) (m_Host_isTenant  hk) cz_Host_isTenant sm_Host_isTenant (Or.inl lk_Host_82) rfl rfl (Nat.le_of_ble_eq_true rfl) ⟨by decide, by decide⟩ rfl rfl d_Host_feed_1 (fun r M' hr => ?_)
  obtain ⟨x2, μ1, rfl, rfl, hk⟩ := hr
  try dsimp only [Option.toList, List.cons_append, List.nil_append]
  refine go_if_eq (pc := 4) (tgt := 27) d_Host_feed_4 rfl (fun h4 => ?_) (fun h4 => ?_)
  · replace hk := hk.1 h4
    refine go_iconst (pc := 27) (v := 0) d_Host_feed_27 (by decide) ?_
    exact go_ret (pc := 28) (r := some (.int (0 : Int32))) ⟨nar_zv (by decide), d_Host_feed_28⟩ ⟨_, _, rfl, rfl, hk⟩
  · replace hk := hk.2 h4
    refine go_aload_n (pc := 7) (i := 0) d_Host_feed_7 rfl rfl ?_
    refine go_getR (pc := 8) (r := 2) sh_host rfl fl_Host_17 d_Host_feed_8 ?_
    refine go_iload_n (pc := 11) (i := 1) d_Host_feed_11 rfl rfl ?_
    obtain ⟨hi3, hk⟩ := hk
    have ht4 : (Int32.toNatClampNeg a1) < 4 := in_lt (n := 4) hi3
    refine go_aldR (pc := 12) (r := 23 + 17 * (Int32.toNatClampNeg a1)) sh_tenants rfl hi3 (ten_at ht4) d_Host_feed_12 ?_
    refine go_getR (pc := 13) (r := 35 + 17 * (Int32.toNatClampNeg a1)) (sh_ten ht4) rfl fl_Host_106 d_Host_feed_13 ?_
    refine go_iload_n (pc := 16) (i := 2) d_Host_feed_16 rfl rfl ?_
    refine go_callV (pc := 17) (m_Line_add (isl_inputs ht4) hk) cz_Line_add cv_Line_add (Or.inl lk_Host_110) (lay_at (isl_inputs ht4).1) rfl rfl rfl (Nat.le_of_ble_eq_true rfl) ⟨by decide, by decide⟩ rfl rfl d_Host_feed_17 (fun r M' hr => ?_)
    obtain ⟨x6, μ5, rfl, rfl, hk⟩ := hr
    try dsimp only [Option.toList, List.cons_append, List.nil_append]
    refine go_if_eq (pc := 20) (tgt := 27) d_Host_feed_20 rfl (fun h20 => ?_) (fun h20 => ?_)
    · replace hk := hk.1 h20
      refine go_iconst (pc := 27) (v := 0) d_Host_feed_27 (by decide) ?_
      exact go_ret (pc := 28) (r := some (.int (0 : Int32))) ⟨nar_zv (by decide), d_Host_feed_28⟩ ⟨_, _, rfl, rfl, hk⟩
    · replace hk := hk.2 h20
      refine go_iconst (pc := 23) (v := 1) d_Host_feed_23 (by decide) ?_
      refine go_goto (pc := 24) (tgt := 28) d_Host_feed_24 rfl ?_
      exact go_ret (pc := 28) (r := some (.int (1 : Int32))) ⟨nar_zv (by decide), d_Host_feed_28⟩ ⟨_, _, rfl, rfl, hk⟩
def wp_Stk_put (k0 : Nat) (a1 : Int32) (a2 : Int32) (μ : Mu) (Q : Mu → Prop) : Prop := ((((6 : Int32) ≤ (μ.1 (29 + 17 * k0) 2)) → Q μ) ∧ ((¬ (6 : Int32) ≤ (μ.1 (29 + 17 * k0) 2)) → (vp_in (μ.1 (29 + 17 * k0) 2) 6 ∧ ∀ μ2 : Mu, μ2 = setA μ (30 + 17 * k0) (Int32.toNatClampNeg (μ.1 (29 + 17 * k0) 2)) a1 → (vp_in (μ2.1 (29 + 17 * k0) 2) 6 ∧ ((a2 = 0 ∨ a2 = 1) ∧ ∀ μ5 : Mu, μ5 = setA μ2 (31 + 17 * k0) (Int32.toNatClampNeg (μ2.1 (29 + 17 * k0) 2)) a2 → ∀ μ6 : Mu, μ6 = setF μ5 (29 + 17 * k0) 2 ((μ5.1 (29 + 17 * k0) 2) + (1 : Int32)) → Q μ6)))))
set_option maxRecDepth 100000 in
set_option maxHeartbeats 4000000 in
theorem m_Stk_put {l : Launch} {k0 : Nat} {a1 : Int32} {a2 : Int32} (hk0 : k0 < 4) {μ : Mu} {Q : Mu → Prop} (hk : wp_Stk_put k0 a1 a2 μ Q) : Mets (mE l) mt_Stk_put false (rmd 0) [.ref (29 + 17 * k0), .int a1, .int a2] (lay μ) (PV Q) := by
  unfold wp_Stk_put at hk
  refine mets_of (L := [some (.ref (29 + 17 * k0)), some (.int a1), some (.int a2)]) (by decide) (Nat.le_of_ble_eq_true rfl) rfl ?_
  refine go_aload_n (pc := 0) (i := 0) d_Stk_put_0 rfl rfl ?_
  refine go_getI (pc := 1) (sh_stack hk0) rfl fl_Stk_19 d_Stk_put_1 ?_
  refine go_bipush (pc := 4) (v := 6) d_Stk_put_4 (by decide) ?_
  refine go_icmp_ge (pc := 6) (tgt := 39) d_Stk_put_6 rfl (fun h6 => ?_) (fun h6 => ?_)
  · replace hk := hk.1 h6
    exact go_ret (pc := 39) (r := none) d_Stk_put_39 ⟨_, rfl, rfl, hk⟩
  · replace hk := hk.2 h6
    refine go_aload_n (pc := 9) (i := 0) d_Stk_put_9 rfl rfl ?_
    refine go_getR (pc := 10) (r := 30 + 17 * k0) (sh_stack hk0) rfl fl_Stk_9 d_Stk_put_10 ?_
    refine go_aload_n (pc := 13) (i := 0) d_Stk_put_13 rfl rfl ?_
    refine go_getI (pc := 14) (sh_stack hk0) rfl fl_Stk_19 d_Stk_put_14 ?_
    refine go_iload_n (pc := 17) (i := 1) d_Stk_put_17 rfl rfl ?_
    obtain ⟨hi1, hk⟩ := hk
    refine go_astIn (pc := 18) (sh_values hk0) hi1 d_Stk_put_18 (fun μ2 e2 => ?_)
    replace hk := hk μ2 e2
    refine go_aload_n (pc := 19) (i := 0) d_Stk_put_19 rfl rfl ?_
    refine go_getR (pc := 20) (r := 31 + 17 * k0) (sh_stack hk0) rfl fl_Stk_15 d_Stk_put_20 ?_
    refine go_aload_n (pc := 23) (i := 0) d_Stk_put_23 rfl rfl ?_
    refine go_getI (pc := 24) (sh_stack hk0) rfl fl_Stk_19 d_Stk_put_24 ?_
    refine go_iload_n (pc := 27) (i := 2) d_Stk_put_27 rfl rfl ?_
    obtain ⟨hi3, hk⟩ := hk
    obtain ⟨hb4, hk⟩ := hk
    refine go_astZn (pc := 28) hb4 (sh_arerefs hk0) hi3 d_Stk_put_28 (fun μ5 e5 => ?_)
    replace hk := hk μ5 e5
    refine go_aload_n (pc := 29) (i := 0) d_Stk_put_29 rfl rfl ?_
    refine go_dup (pc := 30) d_Stk_put_30 rfl ?_
    refine go_getI (pc := 31) (sh_stack hk0) rfl fl_Stk_19 d_Stk_put_31 ?_
    refine go_iconst (pc := 34) (v := 1) d_Stk_put_34 (by decide) ?_
    refine go_iadd (pc := 35) d_Stk_put_35 ?_
    refine go_putIn (pc := 36) (sh_stack hk0) rfl (fp_Stk_19 rfl) d_Stk_put_36 (fun μ6 e6 => ?_)
    replace hk := hk μ6 e6
    exact go_ret (pc := 39) (r := none) d_Stk_put_39 ⟨_, rfl, rfl, hk⟩
