def wp_Stk_putNumber (k0 : Nat) (a1 : Int32) (μ : Mu) (Q : Mu → Prop) : Prop := wp_Stk_put k0 a1 (0 : Int32) μ (fun μ1 => Q μ1)
set_option maxRecDepth 100000 in
set_option maxHeartbeats 4000000 in
theorem m_Stk_putNumber {l : Launch} {k0 : Nat} {a1 : Int32} (hk0 : k0 < 4) {μ : Mu} {Q : Mu → Prop} (hk : wp_Stk_putNumber k0 a1 μ Q) : Mets (mE l) mt_Stk_putNumber false (rmd 1) [.ref (29 + 17 * k0), .int a1] (lay μ) (PV Q) := by
  unfold wp_Stk_putNumber at hk
  refine mets_of (L := [some (.ref (29 + 17 * k0)), some (.int a1)]) (by decide) (Nat.le_of_ble_eq_true rfl) rfl ?_
  refine go_aload_n (pc := 0) (i := 0) d_Stk_putNumber_0 rfl rfl ?_
  refine go_iload_n (pc := 1) (i := 1) d_Stk_putNumber_1 rfl rfl ?_
  refine go_iconst (pc := 2) (v := 0) d_Stk_putNumber_2 (by decide) ?_
  refine go_callV (pc := 3) (m_Stk_put hk0 hk) cz_Stk_put cv_Stk_put (Or.inl lk_Stk_23) (lay_at (sh_stack hk0)) rfl rfl rfl (Nat.le_of_ble_eq_true rfl) ⟨by decide, by decide⟩ rfl rfl d_Stk_putNumber_3 (fun r M' hr => ?_)
  obtain ⟨μ1, rfl, rfl, hk⟩ := hr
  try dsimp only [Option.toList, List.cons_append, List.nil_append]
  exact go_ret (pc := 6) (r := none) d_Stk_putNumber_6 ⟨_, rfl, rfl, hk⟩
def wp_Stk_putTruth (k0 : Nat) (a1 : Int32) (μ : Mu) (Q : Mu → Prop) : Prop := (((a1 = 0) → wp_Stk_put k0 (0 : Int32) (0 : Int32) μ (fun μ1 => Q μ1)) ∧ ((¬ a1 = 0) → wp_Stk_put k0 (1 : Int32) (0 : Int32) μ (fun μ2 => Q μ2)))
set_option maxRecDepth 100000 in
set_option maxHeartbeats 4000000 in
theorem m_Stk_putTruth {l : Launch} {k0 : Nat} {a1 : Int32} (hk0 : k0 < 4) {μ : Mu} {Q : Mu → Prop} (hk : wp_Stk_putTruth k0 a1 μ Q) : Mets (mE l) mt_Stk_putTruth false (rmd 1) [.ref (29 + 17 * k0), .int a1] (lay μ) (PV Q) := by
  unfold wp_Stk_putTruth at hk
  refine mets_of (L := [some (.ref (29 + 17 * k0)), some (.int a1)]) (by decide) (Nat.le_of_ble_eq_true rfl) rfl ?_
  refine go_aload_n (pc := 0) (i := 0) d_Stk_putTruth_0 rfl rfl ?_
  refine go_iload_n (pc := 1) (i := 1) d_Stk_putTruth_1 rfl rfl ?_
  refine go_if_eq (pc := 2) (tgt := 9) d_Stk_putTruth_2 rfl (fun h2 => ?_) (fun h2 => ?_)
  · replace hk := hk.1 h2
    refine go_iconst (pc := 9) (v := 0) d_Stk_putTruth_9 (by decide) ?_
    refine go_iconst (pc := 10) (v := 0) d_Stk_putTruth_10 (by decide) ?_
    refine go_callV (pc := 11) (m_Stk_put hk0 hk) cz_Stk_put cv_Stk_put (Or.inl lk_Stk_23) (lay_at (sh_stack hk0)) rfl rfl rfl (Nat.le_of_ble_eq_true rfl) ⟨by decide, by decide⟩ rfl rfl d_Stk_putTruth_11 (fun r M' hr => ?_)
    obtain ⟨μ1, rfl, rfl, hk⟩ := hr
    try dsimp only [Option.toList, List.cons_append, List.nil_append]
    exact go_ret (pc := 14) (r := none) d_Stk_putTruth_14 ⟨_, rfl, rfl, hk⟩
  · replace hk := hk.2 h2
    refine go_iconst (pc := 5) (v := 1) d_Stk_putTruth_5 (by decide) ?_
    refine go_goto (pc := 6) (tgt := 10) d_Stk_putTruth_6 rfl ?_
    refine go_iconst (pc := 10) (v := 0) d_Stk_putTruth_10 (by decide) ?_
    refine go_callV (pc := 11) (m_Stk_put hk0 hk) cz_Stk_put cv_Stk_put (Or.inl lk_Stk_23) (lay_at (sh_stack hk0)) rfl rfl rfl (Nat.le_of_ble_eq_true rfl) ⟨by decide, by decide⟩ rfl rfl d_Stk_putTruth_11 (fun r M' hr => ?_)
    obtain ⟨μ2, rfl, rfl, hk⟩ := hr
    try dsimp only [Option.toList, List.cons_append, List.nil_append]
    exact go_ret (pc := 14) (r := none) d_Stk_putTruth_14 ⟨_, rfl, rfl, hk⟩
def wp_Stk_top (k0 : Nat) (μ : Mu) (Q : Int32 → Mu → Prop) : Prop := ((((μ.1 (29 + 17 * k0) 2) ≤ 0) → Q (0 : Int32) μ) ∧ ((¬ (μ.1 (29 + 17 * k0) 2) ≤ 0) → (vp_in ((μ.1 (29 + 17 * k0) 2) - (1 : Int32)) 6 ∧ Q (μ.2.1 (30 + 17 * k0) (Int32.toNatClampNeg ((μ.1 (29 + 17 * k0) 2) - (1 : Int32)))) μ)))
set_option maxRecDepth 100000 in
set_option maxHeartbeats 4000000 in
theorem m_Stk_top {l : Launch} {k0 : Nat} (hk0 : k0 < 4) {μ : Mu} {Q : Int32 → Mu → Prop} (hk : wp_Stk_top k0 μ Q) : Mets (mE l) mt_Stk_top false (rmd 0) [.ref (29 + 17 * k0)] (lay μ) (PI Q) := by
  unfold wp_Stk_top at hk
  refine mets_of (L := [some (.ref (29 + 17 * k0))]) (by decide) (Nat.le_of_ble_eq_true rfl) rfl ?_
  refine go_aload_n (pc := 0) (i := 0) d_Stk_top_0 rfl rfl ?_
  refine go_getI (pc := 1) (sh_stack hk0) rfl fl_Stk_19 d_Stk_top_1 ?_
  refine go_if_le (pc := 4) (tgt := 21) d_Stk_top_4 rfl (fun h4 => ?_) (fun h4 => ?_)
  · replace hk := hk.1 h4
    refine go_iconst (pc := 21) (v := 0) d_Stk_top_21 (by decide) ?_
    exact go_ret (pc := 22) (r := some (.int (0 : Int32))) d_Stk_top_22 ⟨_, _, rfl, rfl, hk⟩
  · replace hk := hk.2 h4
    refine go_aload_n (pc := 7) (i := 0) d_Stk_top_7 rfl rfl ?_
    refine go_getR (pc := 8) (r := 30 + 17 * k0) (sh_stack hk0) rfl fl_Stk_9 d_Stk_top_8 ?_
    refine go_aload_n (pc := 11) (i := 0) d_Stk_top_11 rfl rfl ?_
    refine go_getI (pc := 12) (sh_stack hk0) rfl fl_Stk_19 d_Stk_top_12 ?_
    refine go_iconst (pc := 15) (v := 1) d_Stk_top_15 (by decide) ?_
    refine go_isub (pc := 16) d_Stk_top_16 ?_
    obtain ⟨hi1, hk⟩ := hk
    refine go_aldI (pc := 17) (sh_values hk0) hi1 d_Stk_top_17 ?_
    refine go_goto (pc := 18) (tgt := 22) d_Stk_top_18 rfl ?_
    exact go_ret (pc := 22) (r := some (.int (μ.2.1 (30 + 17 * k0) (Int32.toNatClampNeg ((μ.1 (29 + 17 * k0) 2) - (1 : Int32)))))) d_Stk_top_22 ⟨_, _, rfl, rfl, hk⟩
def wp_Stk_take (k0 : Nat) (μ : Mu) (Q : Int32 → Mu → Prop) : Prop := wp_Stk_top k0 μ (fun x2 μ1 => ∀ μ3 : Mu, μ3 = setF μ1 (29 + 17 * k0) 2 (if (0 : Int32) < ((μ1.1 (29 + 17 * k0) 2) - (1 : Int32)) then ((μ1.1 (29 + 17 * k0) 2) - (1 : Int32)) else (0 : Int32)) → Q x2 μ3)
set_option maxRecDepth 100000 in
set_option maxHeartbeats 4000000 in
theorem m_Stk_take {l : Launch} {k0 : Nat} (hk0 : k0 < 4) {μ : Mu} {Q : Int32 → Mu → Prop} (hk : wp_Stk_take k0 μ Q) : Mets (mE l) mt_Stk_take false (rmd 1) [.ref (29 + 17 * k0)] (lay μ) (PI Q) := by
  unfold wp_Stk_take at hk
  refine mets_of (L := [some (.ref (29 + 17 * k0)), none]) (by decide) (Nat.le_of_ble_eq_true rfl) rfl ?_
  refine go_aload_n (pc := 0) (i := 0) d_Stk_take_0 rfl rfl ?_
  refine go_callV (pc := 1) (m_Stk_top hk0 hk) cz_Stk_top cv_Stk_top (Or.inl lk_Stk_27) (lay_at (sh_stack hk0)) rfl rfl rfl (Nat.le_of_ble_eq_true rfl) ⟨by decide, by decide⟩ rfl rfl d_Stk_take_1 (fun r M' hr => ?_)
  obtain ⟨x2, μ1, rfl, rfl, hk⟩ := hr
  try dsimp only [Option.toList, List.cons_append, List.nil_append]
  refine go_istore_n (pc := 4) (i := 1) (L' := [some (.ref (29 + 17 * k0)), some (.int x2)]) d_Stk_take_4 rfl (by decide) rfl ?_
  refine go_aload_n (pc := 5) (i := 0) d_Stk_take_5 rfl rfl ?_
  refine go_iconst (pc := 6) (v := 0) d_Stk_take_6 (by decide) ?_
  refine go_aload_n (pc := 7) (i := 0) d_Stk_take_7 rfl rfl ?_
  refine go_getI (pc := 8) (sh_stack hk0) rfl fl_Stk_19 d_Stk_take_8 ?_
  refine go_iconst (pc := 11) (v := 1) d_Stk_take_11 (by decide) ?_
  refine go_isub (pc := 12) d_Stk_take_12 ?_
  refine go_mmax (pc := 13) mw_Stk_31 (Nat.le_of_ble_eq_true rfl) (Nat.le_of_ble_eq_true rfl) d_Stk_take_13 ?_
  refine go_putIn (pc := 16) (sh_stack hk0) rfl (fp_Stk_19 rfl) d_Stk_take_16 (fun μ3 e3 => ?_)
  replace hk := hk μ3 e3
  refine go_iload_n (pc := 19) (i := 1) d_Stk_take_19 rfl rfl ?_
  exact go_ret (pc := 20) (r := some (.int x2)) d_Stk_take_20 ⟨_, _, rfl, rfl, hk⟩
def wp_Host_calculate (k1 : Nat) (a2 : Int32) (μ : Mu) (Q : Mu → Prop) : Prop := wp_Stk_take k1 μ (fun x2 μ1 => wp_Stk_take k1 μ1 (fun x4 μ3 => ((((Int32.toInt a2) < 2 ∨ 4 < (Int32.toInt a2)) → (((x2 ≤ x4) → wp_Stk_putTruth k1 (0 : Int32) μ3 (fun μ5 => Q μ5)) ∧ ((¬ x2 ≤ x4) → wp_Stk_putTruth k1 (1 : Int32) μ3 (fun μ6 => Q μ6)))) ∧ (((Int32.toInt a2) = 2) → wp_Stk_putNumber k1 (x4 + x2) μ3 (fun μ7 => Q μ7)) ∧ (((Int32.toInt a2) = 3) → wp_Stk_putNumber k1 (x4 - x2) μ3 (fun μ8 => Q μ8)) ∧ (((Int32.toInt a2) = 4) → wp_Stk_putNumber k1 (x4 * x2) μ3 (fun μ9 => Q μ9)))))
set_option maxRecDepth 100000 in
set_option maxHeartbeats 4000000 in
theorem m_Host_calculate {l : Launch} {k1 : Nat} {a2 : Int32} (hk1 : k1 < 4) {μ : Mu} {Q : Mu → Prop} (hk : wp_Host_calculate k1 a2 μ Q) : Mets (mE l) mt_Host_calculate false (rmd 2) [.ref (29 + 17 * k1), .int a2] (lay μ) (PV Q) := by
  unfold wp_Host_calculate at hk
  refine mets_of (L := [some (.ref (29 + 17 * k1)), some (.int a2), none, none]) (by decide) (Nat.le_of_ble_eq_true rfl) rfl ?_
  refine go_aload_n (pc := 0) (i := 0) d_Host_calculate_0 rfl rfl ?_
  refine go_callV (pc := 1) (m_Stk_take hk1 hk) cz_Stk_take cv_Stk_take (Or.inl lk_Host_226) (lay_at (sh_stack hk1)) rfl rfl rfl (Nat.le_of_ble_eq_true rfl) ⟨by decide, by decide⟩ rfl rfl d_Host_calculate_1 (fun r M' hr => ?_)
  obtain ⟨x2, μ1, rfl, rfl, hk⟩ := hr
  try dsimp only [Option.toList, List.cons_append, List.nil_append]
  refine go_istore_n (pc := 4) (i := 2) (L' := [some (.ref (29 + 17 * k1)), some (.int a2), some (.int x2), none]) d_Host_calculate_4 rfl (by decide) rfl ?_
  refine go_aload_n (pc := 5) (i := 0) d_Host_calculate_5 rfl rfl ?_
  refine go_callV (pc := 6) (m_Stk_take hk1 hk) cz_Stk_take cv_Stk_take (Or.inl lk_Host_226) (lay_at (sh_stack hk1)) rfl rfl rfl (Nat.le_of_ble_eq_true rfl) ⟨by decide, by decide⟩ rfl rfl d_Host_calculate_6 (fun r M' hr => ?_)
  obtain ⟨x4, μ3, rfl, rfl, hk⟩ := hr
  try dsimp only [Option.toList, List.cons_append, List.nil_append]
  refine go_istore_n (pc := 9) (i := 3) (L' := [some (.ref (29 + 17 * k1)), some (.int a2), some (.int x2), some (.int x4)]) d_Host_calculate_9 rfl (by decide) rfl ?_
  refine go_iload_n (pc := 10) (i := 1) d_Host_calculate_10 rfl rfl ?_
  by_cases hsw : (Int32.toInt a2) < 2 ∨ 4 < (Int32.toInt a2)
  · replace hk := hk.1 hsw
    refine go_tableOut (pc := 11) (tgt := 66) d_Host_calculate_11 hsw rfl ?_
    refine go_aload_n (pc := 66) (i := 0) d_Host_calculate_66 rfl rfl ?_
    refine go_iload_n (pc := 67) (i := 3) d_Host_calculate_67 rfl rfl ?_
    refine go_iload_n (pc := 68) (i := 2) d_Host_calculate_68 rfl rfl ?_
    refine go_icmp_ge (pc := 69) (tgt := 76) d_Host_calculate_69 rfl (fun h69 => ?_) (fun h69 => ?_)
    · replace hk := hk.1 h69
      refine go_iconst (pc := 76) (v := 0) d_Host_calculate_76 (by decide) ?_
      refine go_callV (pc := 77) (m_Stk_putTruth hk1 hk) cz_Stk_putTruth cv_Stk_putTruth (Or.inl lk_Host_266) (lay_at (sh_stack hk1)) rfl rfl rfl (Nat.le_of_ble_eq_true rfl) ⟨by decide, by decide⟩ rfl rfl d_Host_calculate_77 (fun r M' hr => ?_)
      obtain ⟨μ5, rfl, rfl, hk⟩ := hr
      try dsimp only [Option.toList, List.cons_append, List.nil_append]
      exact go_ret (pc := 80) (r := none) d_Host_calculate_80 ⟨_, rfl, rfl, hk⟩
    · replace hk := hk.2 h69
      refine go_iconst (pc := 72) (v := 1) d_Host_calculate_72 (by decide) ?_
      refine go_goto (pc := 73) (tgt := 77) d_Host_calculate_73 rfl ?_
      refine go_callV (pc := 77) (m_Stk_putTruth hk1 hk) cz_Stk_putTruth cv_Stk_putTruth (Or.inl lk_Host_266) (lay_at (sh_stack hk1)) rfl rfl rfl (Nat.le_of_ble_eq_true rfl) ⟨by decide, by decide⟩ rfl rfl d_Host_calculate_77 (fun r M' hr => ?_)
      obtain ⟨μ6, rfl, rfl, hk⟩ := hr
      try dsimp only [Option.toList, List.cons_append, List.nil_append]
      exact go_ret (pc := 80) (r := none) d_Host_calculate_80 ⟨_, rfl, rfl, hk⟩
  replace hk := hk.2
  have hsx : (Int32.toInt a2) = 2 ∨ (Int32.toInt a2) = 3 ∨ (Int32.toInt a2) = 4 := by omega
  rcases hsx with hsx | hsx | hsx
  · replace hk := hk.1 hsx
    refine go_tableIn (pc := 11) (tgt := 36) d_Host_calculate_11 (by omega) (by omega) (by rw [hsx]; rfl) rfl ?_
    refine go_aload_n (pc := 36) (i := 0) d_Host_calculate_36 rfl rfl ?_
    refine go_iload_n (pc := 37) (i := 3) d_Host_calculate_37 rfl rfl ?_
    refine go_iload_n (pc := 38) (i := 2) d_Host_calculate_38 rfl rfl ?_
    refine go_iadd (pc := 39) d_Host_calculate_39 ?_
    refine go_callV (pc := 40) (m_Stk_putNumber hk1 hk) cz_Stk_putNumber cv_Stk_putNumber (Or.inl lk_Host_209) (lay_at (sh_stack hk1)) rfl rfl rfl (Nat.le_of_ble_eq_true rfl) ⟨by decide, by decide⟩ rfl rfl d_Host_calculate_40 (fun r M' hr => ?_)
    obtain ⟨μ7, rfl, rfl, hk⟩ := hr
    try dsimp only [Option.toList, List.cons_append, List.nil_append]
    refine go_goto (pc := 43) (tgt := 80) d_Host_calculate_43 rfl ?_
    exact go_ret (pc := 80) (r := none) d_Host_calculate_80 ⟨_, rfl, rfl, hk⟩
  · replace hk := hk.2.1 hsx
    refine go_tableIn (pc := 11) (tgt := 46) d_Host_calculate_11 (by omega) (by omega) (by rw [hsx]; rfl) rfl ?_
    refine go_aload_n (pc := 46) (i := 0) d_Host_calculate_46 rfl rfl ?_
    refine go_iload_n (pc := 47) (i := 3) d_Host_calculate_47 rfl rfl ?_
    refine go_iload_n (pc := 48) (i := 2) d_Host_calculate_48 rfl rfl ?_
    refine go_isub (pc := 49) d_Host_calculate_49 ?_
    refine go_callV (pc := 50) (m_Stk_putNumber hk1 hk) cz_Stk_putNumber cv_Stk_putNumber (Or.inl lk_Host_209) (lay_at (sh_stack hk1)) rfl rfl rfl (Nat.le_of_ble_eq_true rfl) ⟨by decide, by decide⟩ rfl rfl d_Host_calculate_50 (fun r M' hr => ?_)
    obtain ⟨μ8, rfl, rfl, hk⟩ := hr
    try dsimp only [Option.toList, List.cons_append, List.nil_append]
    refine go_goto (pc := 53) (tgt := 80) d_Host_calculate_53 rfl ?_
    exact go_ret (pc := 80) (r := none) d_Host_calculate_80 ⟨_, rfl, rfl, hk⟩
  · replace hk := hk.2.2 hsx
    refine go_tableIn (pc := 11) (tgt := 56) d_Host_calculate_11 (by omega) (by omega) (by rw [hsx]; rfl) rfl ?_
    refine go_aload_n (pc := 56) (i := 0) d_Host_calculate_56 rfl rfl ?_
    refine go_iload_n (pc := 57) (i := 3) d_Host_calculate_57 rfl rfl ?_
    refine go_iload_n (pc := 58) (i := 2) d_Host_calculate_58 rfl rfl ?_
    refine go_imul (pc := 59) d_Host_calculate_59 ?_
    refine go_callV (pc := 60) (m_Stk_putNumber hk1 hk) cz_Stk_putNumber cv_Stk_putNumber (Or.inl lk_Host_209) (lay_at (sh_stack hk1)) rfl rfl rfl (Nat.le_of_ble_eq_true rfl) ⟨by decide, by decide⟩ rfl rfl d_Host_calculate_60 (fun r M' hr => ?_)
    obtain ⟨μ9, rfl, rfl, hk⟩ := hr
    try dsimp only [Option.toList, List.cons_append, List.nil_append]
    refine go_goto (pc := 63) (tgt := 80) d_Host_calculate_63 rfl ?_
    exact go_ret (pc := 80) (r := none) d_Host_calculate_80 ⟨_, rfl, rfl, hk⟩
def wp_Host_compare (k1 : Nat) (μ : Mu) (Q : Mu → Prop) : Prop := wp_Stk_take k1 μ (fun x2 μ1 => wp_Stk_take k1 μ1 (fun x4 μ3 => (((¬ x4 = x2) → wp_Stk_putTruth k1 (0 : Int32) μ3 (fun μ5 => Q μ5)) ∧ ((x4 = x2) → wp_Stk_putTruth k1 (1 : Int32) μ3 (fun μ6 => Q μ6)))))
set_option maxRecDepth 100000 in
set_option maxHeartbeats 4000000 in
theorem m_Host_compare {l : Launch} {k1 : Nat} (hk1 : k1 < 4) {μ : Mu} {Q : Mu → Prop} (hk : wp_Host_compare k1 μ Q) : Mets (mE l) mt_Host_compare false (rmd 2) [.ref (29 + 17 * k1)] (lay μ) (PV Q) := by
  unfold wp_Host_compare at hk
  refine mets_of (L := [some (.ref (29 + 17 * k1)), none, none]) (by decide) (Nat.le_of_ble_eq_true rfl) rfl ?_
  refine go_aload_n (pc := 0) (i := 0) d_Host_compare_0 rfl rfl ?_
  refine go_callV (pc := 1) (m_Stk_take hk1 hk) cz_Stk_take cv_Stk_take (Or.inl lk_Host_226) (lay_at (sh_stack hk1)) rfl rfl rfl (Nat.le_of_ble_eq_true rfl) ⟨by decide, by decide⟩ rfl rfl d_Host_compare_1 (fun r M' hr => ?_)
  obtain ⟨x2, μ1, rfl, rfl, hk⟩ := hr
  try dsimp only [Option.toList, List.cons_append, List.nil_append]
  refine go_istore_n (pc := 4) (i := 1) (L' := [some (.ref (29 + 17 * k1)), some (.int x2), none]) d_Host_compare_4 rfl (by decide) rfl ?_
  refine go_aload_n (pc := 5) (i := 0) d_Host_compare_5 rfl rfl ?_
  refine go_callV (pc := 6) (m_Stk_take hk1 hk) cz_Stk_take cv_Stk_take (Or.inl lk_Host_226) (lay_at (sh_stack hk1)) rfl rfl rfl (Nat.le_of_ble_eq_true rfl) ⟨by decide, by decide⟩ rfl rfl d_Host_compare_6 (fun r M' hr => ?_)
  obtain ⟨x4, μ3, rfl, rfl, hk⟩ := hr
  try dsimp only [Option.toList, List.cons_append, List.nil_append]
  refine go_istore_n (pc := 9) (i := 2) (L' := [some (.ref (29 + 17 * k1)), some (.int x2), some (.int x4)]) d_Host_compare_9 rfl (by decide) rfl ?_
  refine go_aload_n (pc := 10) (i := 0) d_Host_compare_10 rfl rfl ?_
  refine go_iload_n (pc := 11) (i := 2) d_Host_compare_11 rfl rfl ?_
  refine go_iload_n (pc := 12) (i := 1) d_Host_compare_12 rfl rfl ?_
  refine go_icmp_ne (pc := 13) (tgt := 20) d_Host_compare_13 rfl (fun h13 => ?_) (fun h13 => ?_)
  · replace hk := hk.1 h13
    refine go_iconst (pc := 20) (v := 0) d_Host_compare_20 (by decide) ?_
    refine go_callV (pc := 21) (m_Stk_putTruth hk1 hk) cz_Stk_putTruth cv_Stk_putTruth (Or.inl lk_Host_266) (lay_at (sh_stack hk1)) rfl rfl rfl (Nat.le_of_ble_eq_true rfl) ⟨by decide, by decide⟩ rfl rfl d_Host_compare_21 (fun r M' hr => ?_)
    obtain ⟨μ5, rfl, rfl, hk⟩ := hr
    try dsimp only [Option.toList, List.cons_append, List.nil_append]
    exact go_ret (pc := 24) (r := none) d_Host_compare_24 ⟨_, rfl, rfl, hk⟩
  · replace hk := hk.2 h13
    refine go_iconst (pc := 16) (v := 1) d_Host_compare_16 (by decide) ?_
    refine go_goto (pc := 17) (tgt := 21) d_Host_compare_17 rfl ?_
    refine go_callV (pc := 21) (m_Stk_putTruth hk1 hk) cz_Stk_putTruth cv_Stk_putTruth (Or.inl lk_Host_266) (lay_at (sh_stack hk1)) rfl rfl rfl (Nat.le_of_ble_eq_true rfl) ⟨by decide, by decide⟩ rfl rfl d_Host_compare_21 (fun r M' hr => ?_)
    obtain ⟨μ6, rfl, rfl, hk⟩ := hr
    try dsimp only [Option.toList, List.cons_append, List.nil_append]
    exact go_ret (pc := 24) (r := none) d_Host_compare_24 ⟨_, rfl, rfl, hk⟩
def wp_Line_drop (k0 : Nat) (k0n : Nat) (μ : Mu) (Q : Mu → Prop) : Prop := ∀ μ1 : Mu, μ1 = setF μ k0 1 (0 : Int32) → Q μ1
set_option maxRecDepth 100000 in
set_option maxHeartbeats 4000000 in
theorem m_Line_drop {l : Launch} {k0 : Nat} {k0n : Nat} (hk0 : IsLine k0 k0n) {μ : Mu} {Q : Mu → Prop} (hk : wp_Line_drop k0 k0n μ Q) : Mets (mE l) mt_Line_drop false (rmd 0) [.ref k0] (lay μ) (PV Q) := by
  unfold wp_Line_drop at hk
  refine mets_of (L := [some (.ref k0)]) (by decide) (Nat.le_of_ble_eq_true rfl) rfl ?_
  refine go_aload_n (pc := 0) (i := 0) d_Line_drop_0 rfl rfl ?_
  refine go_iconst (pc := 1) (v := 0) d_Line_drop_1 (by decide) ?_
  refine go_putIn (pc := 2) hk0.1 rfl (fp_Line_7 rfl) d_Line_drop_2 (fun μ1 e1 => ?_)
  replace hk := hk μ1 e1
  exact go_ret (pc := 5) (r := none) d_Line_drop_5 ⟨_, rfl, rfl, hk⟩
def wp_Stk_drop (k0 : Nat) (μ : Mu) (Q : Mu → Prop) : Prop := ∀ μ1 : Mu, μ1 = setF μ (29 + 17 * k0) 2 (0 : Int32) → Q μ1
set_option maxRecDepth 100000 in
set_option maxHeartbeats 4000000 in
theorem m_Stk_drop {l : Launch} {k0 : Nat} (hk0 : k0 < 4) {μ : Mu} {Q : Mu → Prop} (hk : wp_Stk_drop k0 μ Q) : Mets (mE l) mt_Stk_drop false (rmd 0) [.ref (29 + 17 * k0)] (lay μ) (PV Q) := by
  unfold wp_Stk_drop at hk
  refine mets_of (L := [some (.ref (29 + 17 * k0))]) (by decide) (Nat.le_of_ble_eq_true rfl) rfl ?_
  refine go_aload_n (pc := 0) (i := 0) d_Stk_drop_0 rfl rfl ?_
  refine go_iconst (pc := 1) (v := 0) d_Stk_drop_1 (by decide) ?_
  refine go_putIn (pc := 2) (sh_stack hk0) rfl (fp_Stk_19 rfl) d_Stk_drop_2 (fun μ1 e1 => ?_)
  replace hk := hk μ1 e1
  exact go_ret (pc := 5) (r := none) d_Stk_drop_5 ⟨_, rfl, rfl, hk⟩
def wp_Ten_dropAll (k0 : Nat) (μ : Mu) (Q : Mu → Prop) : Prop := ∀ μ1 : Mu, μ1 = setJ μ (24 + 17 * k0) (0 : Int64) → wp_Stk_drop k0 μ1 (fun μ2 => wp_Line_drop (33 + 17 * k0) 4 μ2 (fun μ3 => wp_JA_fill (32 + 17 * k0) 4 (0 : Int32) μ3 (fun μ4 => Q μ4)))
set_option maxRecDepth 100000 in
set_option maxHeartbeats 4000000 in
theorem m_Ten_dropAll {l : Launch} {k0 : Nat} (hk0 : k0 < 4) {μ : Mu} {Q : Mu → Prop} (hk : wp_Ten_dropAll k0 μ Q) : Mets (mE l) mt_Ten_dropAll false (rmd 1) [.ref (23 + 17 * k0)] (lay μ) (PV Q) := by
  unfold wp_Ten_dropAll at hk
  refine mets_of (L := [some (.ref (23 + 17 * k0))]) (by decide) (Nat.le_of_ble_eq_true rfl) rfl ?_
  refine go_aload_n (pc := 0) (i := 0) d_Ten_dropAll_0 rfl rfl ?_
  refine go_getR (pc := 1) (r := 24 + 17 * k0) (sh_ten hk0) rfl fl_Ten_12 d_Ten_dropAll_1 ?_
  refine go_lconst (pc := 4) (v := 0) d_Ten_dropAll_4 (by decide) ?_
  refine go_putM (pc := 5) hk0 (fp_Ten_92 rfl) d_Ten_dropAll_5 (fun μ1 e1 => ?_)
  replace hk := hk μ1 e1
  refine go_aload_n (pc := 8) (i := 0) d_Ten_dropAll_8 rfl rfl ?_
  refine go_getR (pc := 9) (r := 29 + 17 * k0) (sh_ten hk0) rfl fl_Ten_21 d_Ten_dropAll_9 ?_
  refine go_callV (pc := 12) (m_Stk_drop hk0 hk) cz_Stk_drop cv_Stk_drop (Or.inl lk_Ten_96) (lay_at (sh_stack hk0)) rfl rfl rfl (Nat.le_of_ble_eq_true rfl) ⟨by decide, by decide⟩ rfl rfl d_Ten_dropAll_12 (fun r M' hr => ?_)
  obtain ⟨μ2, rfl, rfl, hk⟩ := hr
  try dsimp only [Option.toList, List.cons_append, List.nil_append]
  refine go_aload_n (pc := 15) (i := 0) d_Ten_dropAll_15 rfl rfl ?_
  refine go_getR (pc := 16) (r := 33 + 17 * k0) (sh_ten hk0) rfl fl_Ten_34 d_Ten_dropAll_16 ?_
  refine go_callV (pc := 19) (m_Line_drop (isl_mail hk0) hk) cz_Line_drop cv_Line_drop (Or.inl lk_Ten_99) (lay_at (isl_mail hk0).1) rfl rfl rfl (Nat.le_of_ble_eq_true rfl) ⟨by decide, by decide⟩ rfl rfl d_Ten_dropAll_19 (fun r M' hr => ?_)
  obtain ⟨μ3, rfl, rfl, hk⟩ := hr
  try dsimp only [Option.toList, List.cons_append, List.nil_append]
  refine go_aload_n (pc := 22) (i := 0) d_Ten_dropAll_22 rfl rfl ?_
  refine go_getR (pc := 23) (r := 32 + 17 * k0) (sh_ten hk0) rfl fl_Ten_25 d_Ten_dropAll_23 ?_
  refine go_iconst (pc := 26) (v := 0) d_Ten_dropAll_26 (by decide) ?_
  refine go_callS (pc := 27) (m_JA_fill (sh_locs hk0) hk) cz_JA_fill sm_JA_fill (Or.inl lk_Ten_100) rfl rfl (Nat.le_of_ble_eq_true rfl) ⟨by decide, by decide⟩ rfl rfl d_Ten_dropAll_27 (fun r M' hr => ?_)
  obtain ⟨μ4, rfl, rfl, hk⟩ := hr
  try dsimp only [Option.toList, List.cons_append, List.nil_append]
  exact go_ret (pc := 30) (r := none) d_Ten_dropAll_30 ⟨_, rfl, rfl, hk⟩
def wp_Host_end (k1 : Nat) (a2 : Int32) (μ : Mu) (Q : Mu → Prop) : Prop := ∀ μ1 : Mu, μ1 = setF μ (23 + 17 * k1) 7 a2 → ∀ μ2 : Mu, μ2 = setF μ1 (23 + 17 * k1) 12 (μ1.1 0 4) → wp_Ten_dropAll k1 μ2 (fun μ3 => Q μ3)
set_option maxRecDepth 100000 in
set_option maxHeartbeats 4000000 in
theorem m_Host_end {l : Launch} {k1 : Nat} {a2 : Int32} (hk1 : k1 < 4) {μ : Mu} {Q : Mu → Prop} (hk : wp_Host_end k1 a2 μ Q) : Mets (mE l) mt_Host_end false (rmd 2) [.ref 0, .ref (23 + 17 * k1), .int a2] (lay μ) (PV Q) := by
  unfold wp_Host_end at hk
  refine mets_of (L := [some (.ref 0), some (.ref (23 + 17 * k1)), some (.int a2)]) (by decide) (Nat.le_of_ble_eq_true rfl) rfl ?_
  refine go_aload_n (pc := 0) (i := 1) d_Host_end_0 rfl rfl ?_
  refine go_iload_n (pc := 1) (i := 2) d_Host_end_1 rfl rfl ?_
  refine go_putIn (pc := 2) (sh_ten hk1) rfl (fp_Host_122 rfl) d_Host_end_2 (fun μ1 e1 => ?_)
  replace hk := hk μ1 e1
  refine go_aload_n (pc := 5) (i := 1) d_Host_end_5 rfl rfl ?_
  refine go_aload_n (pc := 6) (i := 0) d_Host_end_6 rfl rfl ?_
  refine go_getI (pc := 7) sh_host rfl fl_Host_25 d_Host_end_7 ?_
  refine go_putIn (pc := 10) (sh_ten hk1) rfl (fp_Host_145 rfl) d_Host_end_10 (fun μ2 e2 => ?_)
  replace hk := hk μ2 e2
  refine go_aload_n (pc := 13) (i := 1) d_Host_end_13 rfl rfl ?_
  refine go_callV (pc := 14) (m_Ten_dropAll hk1 hk) cz_Ten_dropAll cv_Ten_dropAll (Or.inl lk_Host_179) (lay_at (sh_ten hk1)) rfl rfl rfl (Nat.le_of_ble_eq_true rfl) ⟨by decide, by decide⟩ rfl rfl d_Host_end_14 (fun r M' hr => ?_)
  obtain ⟨μ3, rfl, rfl, hk⟩ := hr
  try dsimp only [Option.toList, List.cons_append, List.nil_append]
  exact go_ret (pc := 17) (r := none) d_Host_end_17 ⟨_, rfl, rfl, hk⟩
def wp_Host_divide (k1 : Nat) (μ : Mu) (Q : Mu → Prop) : Prop := wp_Stk_take k1 μ (fun x2 μ1 => wp_Stk_take k1 μ1 (fun x4 μ3 => (((¬ x2 = 0) → (¬ x2 = 0 ∧ wp_Stk_putNumber k1 (x4 / x2) μ3 (fun μ6 => Q μ6))) ∧ ((x2 = 0) → wp_Host_end k1 (6 : Int32) μ3 (fun μ7 => Q μ7)))))
set_option maxRecDepth 100000 in
set_option maxHeartbeats 4000000 in
theorem m_Host_divide {l : Launch} {k1 : Nat} (hk1 : k1 < 4) {μ : Mu} {Q : Mu → Prop} (hk : wp_Host_divide k1 μ Q) : Mets (mE l) mt_Host_divide false (rmd 3) [.ref 0, .ref (23 + 17 * k1)] (lay μ) (PV Q) := by
  unfold wp_Host_divide at hk
  refine mets_of (L := [some (.ref 0), some (.ref (23 + 17 * k1)), none, none]) (by decide) (Nat.le_of_ble_eq_true rfl) rfl ?_
  refine go_aload_n (pc := 0) (i := 1) d_Host_divide_0 rfl rfl ?_
  refine go_getR (pc := 1) (r := 29 + 17 * k1) (sh_ten hk1) rfl fl_Host_205 d_Host_divide_1 ?_
  refine go_callV (pc := 4) (m_Stk_take hk1 hk) cz_Stk_take cv_Stk_take (Or.inl lk_Host_226) (lay_at (sh_stack hk1)) rfl rfl rfl (Nat.le_of_ble_eq_true rfl) ⟨by decide, by decide⟩ rfl rfl d_Host_divide_4 (fun r M' hr => ?_)
  obtain ⟨x2, μ1, rfl, rfl, hk⟩ := hr
  try dsimp only [Option.toList, List.cons_append, List.nil_append]
  refine go_istore_n (pc := 7) (i := 2) (L' := [some (.ref 0), some (.ref (23 + 17 * k1)), some (.int x2), none]) d_Host_divide_7 rfl (by decide) rfl ?_
  refine go_aload_n (pc := 8) (i := 1) d_Host_divide_8 rfl rfl ?_
  refine go_getR (pc := 9) (r := 29 + 17 * k1) (sh_ten hk1) rfl fl_Host_205 d_Host_divide_9 ?_
  refine go_callV (pc := 12) (m_Stk_take hk1 hk) cz_Stk_take cv_Stk_take (Or.inl lk_Host_226) (lay_at (sh_stack hk1)) rfl rfl rfl (Nat.le_of_ble_eq_true rfl) ⟨by decide, by decide⟩ rfl rfl d_Host_divide_12 (fun r M' hr => ?_)
  obtain ⟨x4, μ3, rfl, rfl, hk⟩ := hr
  try dsimp only [Option.toList, List.cons_append, List.nil_append]
  refine go_istore_n (pc := 15) (i := 3) (L' := [some (.ref 0), some (.ref (23 + 17 * k1)), some (.int x2), some (.int x4)]) d_Host_divide_15 rfl (by decide) rfl ?_
  refine go_iload_n (pc := 16) (i := 2) d_Host_divide_16 rfl rfl ?_
  refine go_if_ne (pc := 17) (tgt := 30) d_Host_divide_17 rfl (fun h17 => ?_) (fun h17 => ?_)
  · replace hk := hk.1 h17
    refine go_aload_n (pc := 30) (i := 1) d_Host_divide_30 rfl rfl ?_
    refine go_getR (pc := 31) (r := 29 + 17 * k1) (sh_ten hk1) rfl fl_Host_205 d_Host_divide_31 ?_
    refine go_iload_n (pc := 34) (i := 3) d_Host_divide_34 rfl rfl ?_
    refine go_iload_n (pc := 35) (i := 2) d_Host_divide_35 rfl rfl ?_
    obtain ⟨hz5, hk⟩ := hk
    refine go_idiv (pc := 36) d_Host_divide_36 hz5 ?_
    refine go_callV (pc := 37) (m_Stk_putNumber hk1 hk) cz_Stk_putNumber cv_Stk_putNumber (Or.inl lk_Host_209) (lay_at (sh_stack hk1)) rfl rfl rfl (Nat.le_of_ble_eq_true rfl) ⟨by decide, by decide⟩ rfl rfl d_Host_divide_37 (fun r M' hr => ?_)
    obtain ⟨μ6, rfl, rfl, hk⟩ := hr
    try dsimp only [Option.toList, List.cons_append, List.nil_append]
    exact go_ret (pc := 40) (r := none) d_Host_divide_40 ⟨_, rfl, rfl, hk⟩
  · replace hk := hk.2 h17
    refine go_aload_n (pc := 20) (i := 0) d_Host_divide_20 rfl rfl ?_
    refine go_aload_n (pc := 21) (i := 1) d_Host_divide_21 rfl rfl ?_
    refine go_bipush (pc := 22) (v := 6) d_Host_divide_22 (by decide) ?_
    refine go_callV (pc := 24) (m_Host_end hk1 hk) cz_Host_end cv_Host_end (Or.inl lk_Host_185) (lay_at sh_host) rfl rfl rfl (Nat.le_of_ble_eq_true rfl) ⟨by decide, by decide⟩ rfl rfl d_Host_divide_24 (fun r M' hr => ?_)
    obtain ⟨μ7, rfl, rfl, hk⟩ := hr
    try dsimp only [Option.toList, List.cons_append, List.nil_append]
    refine go_goto (pc := 27) (tgt := 40) d_Host_divide_27 rfl ?_
    exact go_ret (pc := 40) (r := none) d_Host_divide_40 ⟨_, rfl, rfl, hk⟩
def wp_Heap_rowOf (k0 : Nat) (a1 : Int32) (μ : Mu) (Q : Nat → Mu → Prop) : Prop := (((¬ a1 = 0) → (((¬ a1 = (1 : Int32)) → Q (27 + 17 * k0) μ) ∧ ((a1 = (1 : Int32)) → Q (26 + 17 * k0) μ))) ∧ ((a1 = 0) → Q (25 + 17 * k0) μ))
set_option maxRecDepth 100000 in
set_option maxHeartbeats 4000000 in
theorem m_Heap_rowOf {l : Launch} {k0 : Nat} {a1 : Int32} (hk0 : k0 < 4) {μ : Mu} {Q : Nat → Mu → Prop} (hk : wp_Heap_rowOf k0 a1 μ Q) : Mets (mE l) mt_Heap_rowOf false (rmd 0) [.ref (24 + 17 * k0), .int a1] (lay μ) (PR Q) := by
  unfold wp_Heap_rowOf at hk
  refine mets_of (L := [some (.ref (24 + 17 * k0)), some (.int a1)]) (by decide) (Nat.le_of_ble_eq_true rfl) rfl ?_
  refine go_iload_n (pc := 0) (i := 1) d_Heap_rowOf_0 rfl rfl ?_
  refine go_if_ne (pc := 1) (tgt := 11) d_Heap_rowOf_1 rfl (fun h1 => ?_) (fun h1 => ?_)
  · replace hk := hk.1 h1
    refine go_iload_n (pc := 11) (i := 1) d_Heap_rowOf_11 rfl rfl ?_
    refine go_iconst (pc := 12) (v := 1) d_Heap_rowOf_12 (by decide) ?_
    refine go_icmp_ne (pc := 13) (tgt := 23) d_Heap_rowOf_13 rfl (fun h13 => ?_) (fun h13 => ?_)
    · replace hk := hk.1 h13
      refine go_aload_n (pc := 23) (i := 0) d_Heap_rowOf_23 rfl rfl ?_
      refine go_getR (pc := 24) (r := 27 + 17 * k0) (sh_heap hk0) rfl fl_Heap_18 d_Heap_rowOf_24 ?_
      exact go_ret (pc := 27) (r := some (.ref (27 + 17 * k0))) d_Heap_rowOf_27 ⟨_, _, rfl, rfl, hk⟩
    · replace hk := hk.2 h13
      refine go_aload_n (pc := 16) (i := 0) d_Heap_rowOf_16 rfl rfl ?_
      refine go_getR (pc := 17) (r := 26 + 17 * k0) (sh_heap hk0) rfl fl_Heap_15 d_Heap_rowOf_17 ?_
      refine go_goto (pc := 20) (tgt := 27) d_Heap_rowOf_20 rfl ?_
      exact go_ret (pc := 27) (r := some (.ref (26 + 17 * k0))) d_Heap_rowOf_27 ⟨_, _, rfl, rfl, hk⟩
  · replace hk := hk.2 h1
    refine go_aload_n (pc := 4) (i := 0) d_Heap_rowOf_4 rfl rfl ?_
    refine go_getR (pc := 5) (r := 25 + 17 * k0) (sh_heap hk0) rfl fl_Heap_9 d_Heap_rowOf_5 ?_
    refine go_goto (pc := 8) (tgt := 27) d_Heap_rowOf_8 rfl ?_
    exact go_ret (pc := 27) (r := some (.ref (25 + 17 * k0))) d_Heap_rowOf_27 ⟨_, _, rfl, rfl, hk⟩
def wp_Host_getPart (k1 : Nat) (a2 : Int32) (μ : Mu) (Q : Mu → Prop) : Prop := wp_Stk_take k1 μ (fun x2 μ1 => (((¬ x2 = 0) → wp_Heap_rowOf k1 a2 μ1 (fun x4 μ3 => (shapes[x4]? = some (.inl (0, 33, [])) ∧ (vp_in x2 33 ∧ (((a2 = 0) → wp_Stk_put k1 (μ3.2.1 x4 (Int32.toNatClampNeg x2)) (0 : Int32) μ3 (fun μ7 => Q μ7)) ∧ ((¬ a2 = 0) → wp_Stk_put k1 (μ3.2.1 x4 (Int32.toNatClampNeg x2)) (1 : Int32) μ3 (fun μ8 => Q μ8))))))) ∧ ((x2 = 0) → wp_Host_end k1 (7 : Int32) μ1 (fun μ9 => Q μ9))))
set_option maxRecDepth 100000 in
set_option maxHeartbeats 4000000 in
theorem m_Host_getPart {l : Launch} {k1 : Nat} {a2 : Int32} (hk1 : k1 < 4) {μ : Mu} {Q : Mu → Prop} (hk : wp_Host_getPart k1 a2 μ Q) : Mets (mE l) mt_Host_getPart false (rmd 3) [.ref 0, .ref (23 + 17 * k1), .int a2] (lay μ) (PV Q) := by
  unfold wp_Host_getPart at hk
  refine mets_of (L := [some (.ref 0), some (.ref (23 + 17 * k1)), some (.int a2), none]) (by decide) (Nat.le_of_ble_eq_true rfl) rfl ?_
  refine go_aload_n (pc := 0) (i := 1) d_Host_getPart_0 rfl rfl ?_
  refine go_getR (pc := 1) (r := 29 + 17 * k1) (sh_ten hk1) rfl fl_Host_205 d_Host_getPart_1 ?_
  refine go_callV (pc := 4) (m_Stk_take hk1 hk) cz_Stk_take cv_Stk_take (Or.inl lk_Host_226) (lay_at (sh_stack hk1)) rfl rfl rfl (Nat.le_of_ble_eq_true rfl) ⟨by decide, by decide⟩ rfl rfl d_Host_getPart_4 (fun r M' hr => ?_)
  obtain ⟨x2, μ1, rfl, rfl, hk⟩ := hr
  try dsimp only [Option.toList, List.cons_append, List.nil_append]
  refine go_istore_n (pc := 7) (i := 3) (L' := [some (.ref 0), some (.ref (23 + 17 * k1)), some (.int a2), some (.int x2)]) d_Host_getPart_7 rfl (by decide) rfl ?_
  refine go_iload_n (pc := 8) (i := 3) d_Host_getPart_8 rfl rfl ?_
  refine go_if_ne (pc := 9) (tgt := 22) d_Host_getPart_9 rfl (fun h9 => ?_) (fun h9 => ?_)
  · replace hk := hk.1 h9
    refine go_aload_n (pc := 22) (i := 1) d_Host_getPart_22 rfl rfl ?_
    refine go_getR (pc := 23) (r := 29 + 17 * k1) (sh_ten hk1) rfl fl_Host_205 d_Host_getPart_23 ?_
    refine go_aload_n (pc := 26) (i := 1) d_Host_getPart_26 rfl rfl ?_
    refine go_getR (pc := 27) (r := 24 + 17 * k1) (sh_ten hk1) rfl fl_Host_69 d_Host_getPart_27 ?_
    refine go_iload_n (pc := 30) (i := 2) d_Host_getPart_30 rfl rfl ?_
    refine go_callV (pc := 31) (m_Heap_rowOf hk1 hk) cz_Heap_rowOf cv_Heap_rowOf (Or.inl lk_Host_276) (lay_at (sh_heap hk1)) rfl rfl rfl (Nat.le_of_ble_eq_true rfl) ⟨by decide, by decide⟩ rfl rfl d_Host_getPart_31 (fun r M' hr => ?_)
    obtain ⟨x4, μ3, rfl, rfl, hk⟩ := hr
    try dsimp only [Option.toList, List.cons_append, List.nil_append]
    refine go_iload_n (pc := 34) (i := 3) d_Host_getPart_34 rfl rfl ?_
    obtain ⟨hr5, hk⟩ := hk
    obtain ⟨hi6, hk⟩ := hk
    refine go_aldI (pc := 35) hr5 hi6 d_Host_getPart_35 ?_
    refine go_iload_n (pc := 36) (i := 2) d_Host_getPart_36 rfl rfl ?_
    refine go_if_eq (pc := 37) (tgt := 44) d_Host_getPart_37 rfl (fun h37 => ?_) (fun h37 => ?_)
    · replace hk := hk.1 h37
      refine go_iconst (pc := 44) (v := 0) d_Host_getPart_44 (by decide) ?_
      refine go_callV (pc := 45) (m_Stk_put hk1 hk) cz_Stk_put cv_Stk_put (Or.inl lk_Host_222) (lay_at (sh_stack hk1)) rfl rfl rfl (Nat.le_of_ble_eq_true rfl) ⟨by decide, by decide⟩ rfl rfl d_Host_getPart_45 (fun r M' hr => ?_)
      obtain ⟨μ7, rfl, rfl, hk⟩ := hr
      try dsimp only [Option.toList, List.cons_append, List.nil_append]
      exact go_ret (pc := 48) (r := none) d_Host_getPart_48 ⟨_, rfl, rfl, hk⟩
    · replace hk := hk.2 h37
      refine go_iconst (pc := 40) (v := 1) d_Host_getPart_40 (by decide) ?_
      refine go_goto (pc := 41) (tgt := 45) d_Host_getPart_41 rfl ?_
      refine go_callV (pc := 45) (m_Stk_put hk1 hk) cz_Stk_put cv_Stk_put (Or.inl lk_Host_222) (lay_at (sh_stack hk1)) rfl rfl rfl (Nat.le_of_ble_eq_true rfl) ⟨by decide, by decide⟩ rfl rfl d_Host_getPart_45 (fun r M' hr => ?_)
      obtain ⟨μ8, rfl, rfl, hk⟩ := hr
      try dsimp only [Option.toList, List.cons_append, List.nil_append]
      exact go_ret (pc := 48) (r := none) d_Host_getPart_48 ⟨_, rfl, rfl, hk⟩
  · replace hk := hk.2 h9
    refine go_aload_n (pc := 12) (i := 0) d_Host_getPart_12 rfl rfl ?_
    refine go_aload_n (pc := 13) (i := 1) d_Host_getPart_13 rfl rfl ?_
    refine go_bipush (pc := 14) (v := 7) d_Host_getPart_14 (by decide) ?_
    refine go_callV (pc := 16) (m_Host_end hk1 hk) cz_Host_end cv_Host_end (Or.inl lk_Host_185) (lay_at sh_host) rfl rfl rfl (Nat.le_of_ble_eq_true rfl) ⟨by decide, by decide⟩ rfl rfl d_Host_getPart_16 (fun r M' hr => ?_)
    obtain ⟨μ9, rfl, rfl, hk⟩ := hr
    try dsimp only [Option.toList, List.cons_append, List.nil_append]
    refine go_goto (pc := 19) (tgt := 48) d_Host_getPart_19 rfl ?_
    exact go_ret (pc := 48) (r := none) d_Host_getPart_48 ⟨_, rfl, rfl, hk⟩
def wp_Host_jumpIfZero (k1 : Nat) (a2 : Int32) (μ : Mu) (Q : Mu → Prop) : Prop := wp_Stk_take k1 μ (fun x2 μ1 => (((¬ x2 = 0) → Q μ1) ∧ ((x2 = 0) → ∀ μ3 : Mu, μ3 = setF μ1 (23 + 17 * k1) 9 a2 → Q μ3)))
set_option maxRecDepth 100000 in
set_option maxHeartbeats 4000000 in
theorem m_Host_jumpIfZero {l : Launch} {k1 : Nat} {a2 : Int32} (hk1 : k1 < 4) {μ : Mu} {Q : Mu → Prop} (hk : wp_Host_jumpIfZero k1 a2 μ Q) : Mets (mE l) mt_Host_jumpIfZero false (rmd 2) [.ref (23 + 17 * k1), .int a2] (lay μ) (PV Q) := by
  unfold wp_Host_jumpIfZero at hk
  refine mets_of (L := [some (.ref (23 + 17 * k1)), some (.int a2)]) (by decide) (Nat.le_of_ble_eq_true rfl) rfl ?_
  refine go_aload_n (pc := 0) (i := 0) d_Host_jumpIfZero_0 rfl rfl ?_
  refine go_getR (pc := 1) (r := 29 + 17 * k1) (sh_ten hk1) rfl fl_Host_205 d_Host_jumpIfZero_1 ?_
  refine go_callV (pc := 4) (m_Stk_take hk1 hk) cz_Stk_take cv_Stk_take (Or.inl lk_Host_226) (lay_at (sh_stack hk1)) rfl rfl rfl (Nat.le_of_ble_eq_true rfl) ⟨by decide, by decide⟩ rfl rfl d_Host_jumpIfZero_4 (fun r M' hr => ?_)
  obtain ⟨x2, μ1, rfl, rfl, hk⟩ := hr
  try dsimp only [Option.toList, List.cons_append, List.nil_append]
  refine go_if_ne (pc := 7) (tgt := 15) d_Host_jumpIfZero_7 rfl (fun h7 => ?_) (fun h7 => ?_)
  · replace hk := hk.1 h7
    exact go_ret (pc := 15) (r := none) d_Host_jumpIfZero_15 ⟨_, rfl, rfl, hk⟩
  · replace hk := hk.2 h7
    refine go_aload_n (pc := 10) (i := 0) d_Host_jumpIfZero_10 rfl rfl ?_
    refine go_iload_n (pc := 11) (i := 1) d_Host_jumpIfZero_11 rfl rfl ?_
    refine go_putIn (pc := 12) (sh_ten hk1) rfl (fp_Host_196 rfl) d_Host_jumpIfZero_12 (fun μ3 e3 => ?_)
    replace hk := hk μ3 e3
    exact go_ret (pc := 15) (r := none) d_Host_jumpIfZero_15 ⟨_, rfl, rfl, hk⟩
def wp_Heap_isIn (a1 : Int64) (a2 : Int32) (μ : Mu) (Q : Int32 → Mu → Prop) : Prop := (((¬ (lg_cmp ((a1 >>> (Int32.toInt64 a2 &&& 63)) &&& (1 : Int64)) (1 : Int64)) = 0) → Q (0 : Int32) μ) ∧ (((lg_cmp ((a1 >>> (Int32.toInt64 a2 &&& 63)) &&& (1 : Int64)) (1 : Int64)) = 0) → Q (1 : Int32) μ))
set_option maxRecDepth 100000 in
set_option maxHeartbeats 4000000 in
theorem m_Heap_isIn {l : Launch} {a1 : Int64} {a2 : Int32}  {μ : Mu} {Q : Int32 → Mu → Prop} (hk : wp_Heap_isIn a1 a2 μ Q) : Mets (mE l) mt_Heap_isIn false (rmd 0) [.long a1, .int a2] (lay μ) (PI Q) := by
  unfold wp_Heap_isIn at hk
  refine mets_of (L := [some (.long a1), none, some (.int a2)]) (by decide) (Nat.le_of_ble_eq_true rfl) rfl ?_
  refine go_lload_n (pc := 0) (i := 0) d_Heap_isIn_0 rfl rfl ?_
  refine go_iload_n (pc := 1) (i := 2) d_Heap_isIn_1 rfl rfl ?_
  refine go_lshr (pc := 2) d_Heap_isIn_2 ?_
  refine go_lconst (pc := 3) (v := 1) d_Heap_isIn_3 (by decide) ?_
  refine go_land (pc := 4) d_Heap_isIn_4 ?_
  refine go_lconst (pc := 5) (v := 1) d_Heap_isIn_5 (by decide) ?_
  refine go_lcmp (pc := 6) d_Heap_isIn_6 ?_
  refine go_if_ne (pc := 7) (tgt := 14) d_Heap_isIn_7 rfl (fun h7 => ?_) (fun h7 => ?_)
  · replace hk := hk.1 h7
    refine go_iconst (pc := 14) (v := 0) d_Heap_isIn_14 (by decide) ?_
    exact go_ret (pc := 15) (r := some (.int (0 : Int32))) ⟨nar_zv (by decide), d_Heap_isIn_15⟩ ⟨_, _, rfl, rfl, hk⟩
  · replace hk := hk.2 h7
    refine go_iconst (pc := 10) (v := 1) d_Heap_isIn_10 (by decide) ?_
    refine go_goto (pc := 11) (tgt := 15) d_Heap_isIn_11 rfl ?_
    exact go_ret (pc := 15) (r := some (.int (1 : Int32))) ⟨nar_zv (by decide), d_Heap_isIn_15⟩ ⟨_, _, rfl, rfl, hk⟩
def wp_Heap_make_3 (u0 : Nat) (w1 : Int32) (K0 : Int32 → Mu → Prop) (K1 : Int32 → Mu → Prop) (Q : Int32 → Mu → Prop) : Nat → Int32 → Mu → Prop
  | 0, _, _ => False
  | n3 + 1, v2, μ => ((((33 : Int32) ≤ v2) → K1 v2 μ) ∧ ((¬ (33 : Int32) ≤ v2) → wp_Heap_isIn (μ.2.2 (24 + 17 * u0)) v2 μ (fun x2 μ1 => (((¬ x2 = 0) → wp_Heap_make_3 u0 w1 K0 K1 Q n3 (v2 + 1) μ1) ∧ ((x2 = 0) → K0 v2 μ1)))))
set_option maxRecDepth 100000 in
set_option maxHeartbeats 4000000 in
theorem g_Heap_make_3 {l : Launch} {u0 : Nat} {w1 : Int32} (hu0 : u0 < 4) {K0 : Int32 → Mu → Prop} {K1 : Int32 → Mu → Prop} {Q : Int32 → Mu → Prop} (hK0 : ∀ (v2 : Int32) (μ : Mu), K0 v2 μ → Go (mE l) mt_Heap_make false (rmd 1) 0 0 20 [some (.ref (24 + 17 * u0)), some (.int w1), some (.int v2)] [] (lay μ) (PI Q)) (hK1 : ∀ (v2 : Int32) (μ : Mu), K1 v2 μ → Go (mE l) mt_Heap_make false (rmd 1) 0 0 48 [some (.ref (24 + 17 * u0)), some (.int w1), some (.int v2)] [] (lay μ) (PI Q)) : ∀ (n : Nat) (v2 : Int32) (μ : Mu), wp_Heap_make_3 u0 w1 K0 K1 Q n v2 μ → Go (mE l) mt_Heap_make false (rmd 1) 0 0 3 [some (.ref (24 + 17 * u0)), some (.int w1), some (.int v2)] [] (lay μ) (PI Q) := by
  intro n
  induction n with
  | zero => intro v2 μ hk; exact hk.elim
  | succ n ih =>
    intro v2 μ hk
    unfold wp_Heap_make_3 at hk
    refine go_iload_n (pc := 3) (i := 2) d_Heap_make_3 rfl rfl ?_
    refine go_bipush (pc := 4) (v := 33) d_Heap_make_4 (by decide) ?_
    refine go_icmp_ge (pc := 6) (tgt := 48) d_Heap_make_6 rfl (fun h6 => ?_) (fun h6 => ?_)
    · replace hk := hk.1 h6
      exact hK1 _ _ hk
    · replace hk := hk.2 h6
      refine go_aload_n (pc := 9) (i := 0) d_Heap_make_9 rfl rfl ?_
      refine go_getJ (pc := 10) (sh_heap hu0) rfl fl_Heap_24 d_Heap_make_10 ?_
      refine go_iload_n (pc := 13) (i := 2) d_Heap_make_13 rfl rfl ?_
      refine go_callS (pc := 14) (m_Heap_isIn  hk) cz_Heap_isIn sm_Heap_isIn (Or.inl lk_Heap_41) rfl rfl (Nat.le_of_ble_eq_true rfl) ⟨by decide, by decide⟩ rfl rfl d_Heap_make_14 (fun r M' hr => ?_)
      obtain ⟨x2, μ1, rfl, rfl, hk⟩ := hr
      try dsimp only [Option.toList, List.cons_append, List.nil_append]
      refine go_if_ne (pc := 17) (tgt := 42) d_Heap_make_17 rfl (fun h17 => ?_) (fun h17 => ?_)
      · replace hk := hk.1 h17
        refine go_iinc (pc := 42) (v := (v2 + 1)) (L' := [some (.ref (24 + 17 * u0)), some (.int w1), some (.int (v2 + 1))]) d_Heap_make_42 rfl rfl (by decide) rfl ?_
        refine go_goto (pc := 45) (tgt := 3) d_Heap_make_45 rfl ?_
        exact ih _ _ hk
      · replace hk := hk.2 h17
        exact hK0 _ _ hk
def wp_Heap_make (k0 : Nat) (a1 : Int32) (μ : Mu) (Q : Int32 → Mu → Prop) : Prop := (∃ n3, wp_Heap_make_3 k0 a1 (fun v3 μ4 => ∀ μ5 : Mu, μ5 = setJ μ4 (24 + 17 * k0) ((μ4.2.2 (24 + 17 * k0)) ||| ((1 : Int64) <<< (Int32.toInt64 v3 &&& 63))) → wp_Heap_fill k0 v3 a1 (0 : Int32) (0 : Int32) μ5 (fun μ6 => Q v3 μ6)) (fun v7 μ8 => Q (0 : Int32) μ8) Q n3 (9 : Int32) μ)
set_option maxRecDepth 100000 in
set_option maxHeartbeats 4000000 in
theorem m_Heap_make {l : Launch} {k0 : Nat} {a1 : Int32} (hk0 : k0 < 4) {μ : Mu} {Q : Int32 → Mu → Prop} (hk : wp_Heap_make k0 a1 μ Q) : Mets (mE l) mt_Heap_make false (rmd 1) [.ref (24 + 17 * k0), .int a1] (lay μ) (PI Q) := by
  unfold wp_Heap_make at hk
  refine mets_of (L := [some (.ref (24 + 17 * k0)), some (.int a1), none]) (by decide) (Nat.le_of_ble_eq_true rfl) rfl ?_
  refine go_bipush (pc := 0) (v := 9) d_Heap_make_0 (by decide) ?_
  refine go_istore_n (pc := 2) (i := 2) (L' := [some (.ref (24 + 17 * k0)), some (.int a1), some (.int (9 : Int32))]) d_Heap_make_2 rfl (by decide) rfl ?_
  obtain ⟨n, hk⟩ := hk
  refine g_Heap_make_3 hk0 (fun v3 μ4 hk => ?_) (fun v7 μ8 hk => ?_) n _ _ hk
  · try dsimp only at hk
    refine go_aload_n (pc := 20) (i := 0) d_Heap_make_20 rfl rfl ?_
    refine go_dup (pc := 21) d_Heap_make_21 rfl ?_
    refine go_getJ (pc := 22) (sh_heap hk0) rfl fl_Heap_24 d_Heap_make_22 ?_
    refine go_lconst (pc := 25) (v := 1) d_Heap_make_25 (by decide) ?_
    refine go_iload_n (pc := 26) (i := 2) d_Heap_make_26 rfl rfl ?_
    refine go_lshl (pc := 27) d_Heap_make_27 ?_
    refine go_lor (pc := 28) d_Heap_make_28 ?_
    refine go_putM (pc := 29) hk0 (fp_Heap_24 rfl) d_Heap_make_29 (fun μ5 e5 => ?_)
    replace hk := hk μ5 e5
    refine go_aload_n (pc := 32) (i := 0) d_Heap_make_32 rfl rfl ?_
    refine go_iload_n (pc := 33) (i := 2) d_Heap_make_33 rfl rfl ?_
    refine go_iload_n (pc := 34) (i := 1) d_Heap_make_34 rfl rfl ?_
    refine go_iconst (pc := 35) (v := 0) d_Heap_make_35 (by decide) ?_
    refine go_iconst (pc := 36) (v := 0) d_Heap_make_36 (by decide) ?_
    refine go_callV (pc := 37) (m_Heap_fill hk0 hk) cz_Heap_fill cv_Heap_fill (Or.inl lk_Heap_45) (lay_at (sh_heap hk0)) rfl rfl rfl (Nat.le_of_ble_eq_true rfl) ⟨by decide, by decide⟩ rfl rfl d_Heap_make_37 (fun r M' hr => ?_)
    obtain ⟨μ6, rfl, rfl, hk⟩ := hr
    try dsimp only [Option.toList, List.cons_append, List.nil_append]
    refine go_iload_n (pc := 40) (i := 2) d_Heap_make_40 rfl rfl ?_
    exact go_ret (pc := 41) (r := some (.int v3)) d_Heap_make_41 ⟨_, _, rfl, rfl, hk⟩
  · try dsimp only at hk
    refine go_iconst (pc := 48) (v := 0) d_Heap_make_48 (by decide) ?_
    exact go_ret (pc := 49) (r := some (.int (0 : Int32))) d_Heap_make_49 ⟨_, _, rfl, rfl, hk⟩
def wp_Stk_putReference (k0 : Nat) (a1 : Int32) (μ : Mu) (Q : Mu → Prop) : Prop := wp_Stk_put k0 a1 (1 : Int32) μ (fun μ1 => Q μ1)
set_option maxRecDepth 100000 in
set_option maxHeartbeats 4000000 in
theorem m_Stk_putReference {l : Launch} {k0 : Nat} {a1 : Int32} (hk0 : k0 < 4) {μ : Mu} {Q : Mu → Prop} (hk : wp_Stk_putReference k0 a1 μ Q) : Mets (mE l) mt_Stk_putReference false (rmd 1) [.ref (29 + 17 * k0), .int a1] (lay μ) (PV Q) := by
  unfold wp_Stk_putReference at hk
  refine mets_of (L := [some (.ref (29 + 17 * k0)), some (.int a1)]) (by decide) (Nat.le_of_ble_eq_true rfl) rfl ?_
  refine go_aload_n (pc := 0) (i := 0) d_Stk_putReference_0 rfl rfl ?_
  refine go_iload_n (pc := 1) (i := 1) d_Stk_putReference_1 rfl rfl ?_
  refine go_iconst (pc := 2) (v := 1) d_Stk_putReference_2 (by decide) ?_
  refine go_callV (pc := 3) (m_Stk_put hk0 hk) cz_Stk_put cv_Stk_put (Or.inl lk_Stk_23) (lay_at (sh_stack hk0)) rfl rfl rfl (Nat.le_of_ble_eq_true rfl) ⟨by decide, by decide⟩ rfl rfl d_Stk_putReference_3 (fun r M' hr => ?_)
  obtain ⟨μ1, rfl, rfl, hk⟩ := hr
  try dsimp only [Option.toList, List.cons_append, List.nil_append]
  exact go_ret (pc := 6) (r := none) d_Stk_putReference_6 ⟨_, rfl, rfl, hk⟩
def wp_JL_bitCount (a1 : Int64) (μ : Mu) (Q : Int32 → Mu → Prop) : Prop := Q ((Int64.toInt32 ((((((((a1 - ((ushrL a1 (1 : Int32)) &&& (6148914691236517205 : Int64))) &&& (3689348814741910323 : Int64)) + ((ushrL (a1 - ((ushrL a1 (1 : Int32)) &&& (6148914691236517205 : Int64))) (2 : Int32)) &&& (3689348814741910323 : Int64))) + (ushrL (((a1 - ((ushrL a1 (1 : Int32)) &&& (6148914691236517205 : Int64))) &&& (3689348814741910323 : Int64)) + ((ushrL (a1 - ((ushrL a1 (1 : Int32)) &&& (6148914691236517205 : Int64))) (2 : Int32)) &&& (3689348814741910323 : Int64))) (4 : Int32))) &&& (1085102592571150095 : Int64)) + (ushrL (((((a1 - ((ushrL a1 (1 : Int32)) &&& (6148914691236517205 : Int64))) &&& (3689348814741910323 : Int64)) + ((ushrL (a1 - ((ushrL a1 (1 : Int32)) &&& (6148914691236517205 : Int64))) (2 : Int32)) &&& (3689348814741910323 : Int64))) + (ushrL (((a1 - ((ushrL a1 (1 : Int32)) &&& (6148914691236517205 : Int64))) &&& (3689348814741910323 : Int64)) + ((ushrL (a1 - ((ushrL a1 (1 : Int32)) &&& (6148914691236517205 : Int64))) (2 : Int32)) &&& (3689348814741910323 : Int64))) (4 : Int32))) &&& (1085102592571150095 : Int64)) (8 : Int32))) + (ushrL ((((((a1 - ((ushrL a1 (1 : Int32)) &&& (6148914691236517205 : Int64))) &&& (3689348814741910323 : Int64)) + ((ushrL (a1 - ((ushrL a1 (1 : Int32)) &&& (6148914691236517205 : Int64))) (2 : Int32)) &&& (3689348814741910323 : Int64))) + (ushrL (((a1 - ((ushrL a1 (1 : Int32)) &&& (6148914691236517205 : Int64))) &&& (3689348814741910323 : Int64)) + ((ushrL (a1 - ((ushrL a1 (1 : Int32)) &&& (6148914691236517205 : Int64))) (2 : Int32)) &&& (3689348814741910323 : Int64))) (4 : Int32))) &&& (1085102592571150095 : Int64)) + (ushrL (((((a1 - ((ushrL a1 (1 : Int32)) &&& (6148914691236517205 : Int64))) &&& (3689348814741910323 : Int64)) + ((ushrL (a1 - ((ushrL a1 (1 : Int32)) &&& (6148914691236517205 : Int64))) (2 : Int32)) &&& (3689348814741910323 : Int64))) + (ushrL (((a1 - ((ushrL a1 (1 : Int32)) &&& (6148914691236517205 : Int64))) &&& (3689348814741910323 : Int64)) + ((ushrL (a1 - ((ushrL a1 (1 : Int32)) &&& (6148914691236517205 : Int64))) (2 : Int32)) &&& (3689348814741910323 : Int64))) (4 : Int32))) &&& (1085102592571150095 : Int64)) (8 : Int32))) (16 : Int32))) + (ushrL (((((((a1 - ((ushrL a1 (1 : Int32)) &&& (6148914691236517205 : Int64))) &&& (3689348814741910323 : Int64)) + ((ushrL (a1 - ((ushrL a1 (1 : Int32)) &&& (6148914691236517205 : Int64))) (2 : Int32)) &&& (3689348814741910323 : Int64))) + (ushrL (((a1 - ((ushrL a1 (1 : Int32)) &&& (6148914691236517205 : Int64))) &&& (3689348814741910323 : Int64)) + ((ushrL (a1 - ((ushrL a1 (1 : Int32)) &&& (6148914691236517205 : Int64))) (2 : Int32)) &&& (3689348814741910323 : Int64))) (4 : Int32))) &&& (1085102592571150095 : Int64)) + (ushrL (((((a1 - ((ushrL a1 (1 : Int32)) &&& (6148914691236517205 : Int64))) &&& (3689348814741910323 : Int64)) + ((ushrL (a1 - ((ushrL a1 (1 : Int32)) &&& (6148914691236517205 : Int64))) (2 : Int32)) &&& (3689348814741910323 : Int64))) + (ushrL (((a1 - ((ushrL a1 (1 : Int32)) &&& (6148914691236517205 : Int64))) &&& (3689348814741910323 : Int64)) + ((ushrL (a1 - ((ushrL a1 (1 : Int32)) &&& (6148914691236517205 : Int64))) (2 : Int32)) &&& (3689348814741910323 : Int64))) (4 : Int32))) &&& (1085102592571150095 : Int64)) (8 : Int32))) + (ushrL ((((((a1 - ((ushrL a1 (1 : Int32)) &&& (6148914691236517205 : Int64))) &&& (3689348814741910323 : Int64)) + ((ushrL (a1 - ((ushrL a1 (1 : Int32)) &&& (6148914691236517205 : Int64))) (2 : Int32)) &&& (3689348814741910323 : Int64))) + (ushrL (((a1 - ((ushrL a1 (1 : Int32)) &&& (6148914691236517205 : Int64))) &&& (3689348814741910323 : Int64)) + ((ushrL (a1 - ((ushrL a1 (1 : Int32)) &&& (6148914691236517205 : Int64))) (2 : Int32)) &&& (3689348814741910323 : Int64))) (4 : Int32))) &&& (1085102592571150095 : Int64)) + (ushrL (((((a1 - ((ushrL a1 (1 : Int32)) &&& (6148914691236517205 : Int64))) &&& (3689348814741910323 : Int64)) + ((ushrL (a1 - ((ushrL a1 (1 : Int32)) &&& (6148914691236517205 : Int64))) (2 : Int32)) &&& (3689348814741910323 : Int64))) + (ushrL (((a1 - ((ushrL a1 (1 : Int32)) &&& (6148914691236517205 : Int64))) &&& (3689348814741910323 : Int64)) + ((ushrL (a1 - ((ushrL a1 (1 : Int32)) &&& (6148914691236517205 : Int64))) (2 : Int32)) &&& (3689348814741910323 : Int64))) (4 : Int32))) &&& (1085102592571150095 : Int64)) (8 : Int32))) (16 : Int32))) (32 : Int32)))) &&& (127 : Int32)) μ
set_option maxRecDepth 100000 in
set_option maxHeartbeats 4000000 in
theorem m_JL_bitCount {l : Launch} {a1 : Int64}  {μ : Mu} {Q : Int32 → Mu → Prop} (hk : wp_JL_bitCount a1 μ Q) : Mets (mE l) mt_JL_bitCount false (rmd 0) [.long a1] (lay μ) (PI Q) := by
  unfold wp_JL_bitCount at hk
  refine mets_of (L := [some (.long a1), none]) (by decide) (Nat.le_of_ble_eq_true rfl) rfl ?_
  refine go_lload_n (pc := 0) (i := 0) d_JL_bitCount_0 rfl rfl ?_
  refine go_lload_n (pc := 1) (i := 0) d_JL_bitCount_1 rfl rfl ?_
  refine go_iconst (pc := 2) (v := 1) d_JL_bitCount_2 (by decide) ?_
  refine go_lushr (pc := 3) d_JL_bitCount_3 ?_
  refine go_ldc2 (pc := 4) (v := 6148914691236517205) kc_JL_314 d_JL_bitCount_4 ?_
  refine go_land (pc := 7) d_JL_bitCount_7 ?_
  refine go_lsub (pc := 8) d_JL_bitCount_8 ?_
  refine go_lstore_n (pc := 9) (i := 0) (L' := [some (.long (a1 - ((ushrL a1 (1 : Int32)) &&& (6148914691236517205 : Int64)))), none]) d_JL_bitCount_9 rfl (by decide) rfl ?_
  refine go_lload_n (pc := 10) (i := 0) d_JL_bitCount_10 rfl rfl ?_
  refine go_ldc2 (pc := 11) (v := 3689348814741910323) kc_JL_316 d_JL_bitCount_11 ?_
  refine go_land (pc := 14) d_JL_bitCount_14 ?_
  refine go_lload_n (pc := 15) (i := 0) d_JL_bitCount_15 rfl rfl ?_
  refine go_iconst (pc := 16) (v := 2) d_JL_bitCount_16 (by decide) ?_
  refine go_lushr (pc := 17) d_JL_bitCount_17 ?_
  refine go_ldc2 (pc := 18) (v := 3689348814741910323) kc_JL_316 d_JL_bitCount_18 ?_
  refine go_land (pc := 21) d_JL_bitCount_21 ?_
  refine go_ladd (pc := 22) d_JL_bitCount_22 ?_
  refine go_lstore_n (pc := 23) (i := 0) (L' := [some (.long (((a1 - ((ushrL a1 (1 : Int32)) &&& (6148914691236517205 : Int64))) &&& (3689348814741910323 : Int64)) + ((ushrL (a1 - ((ushrL a1 (1 : Int32)) &&& (6148914691236517205 : Int64))) (2 : Int32)) &&& (3689348814741910323 : Int64)))), none]) d_JL_bitCount_23 rfl (by decide) rfl ?_
  refine go_lload_n (pc := 24) (i := 0) d_JL_bitCount_24 rfl rfl ?_
  refine go_lload_n (pc := 25) (i := 0) d_JL_bitCount_25 rfl rfl ?_
  refine go_iconst (pc := 26) (v := 4) d_JL_bitCount_26 (by decide) ?_
  refine go_lushr (pc := 27) d_JL_bitCount_27 ?_
  refine go_ladd (pc := 28) d_JL_bitCount_28 ?_
  refine go_ldc2 (pc := 29) (v := 1085102592571150095) kc_JL_318 d_JL_bitCount_29 ?_
  refine go_land (pc := 32) d_JL_bitCount_32 ?_
  refine go_lstore_n (pc := 33) (i := 0) (L' := [some (.long (((((a1 - ((ushrL a1 (1 : Int32)) &&& (6148914691236517205 : Int64))) &&& (3689348814741910323 : Int64)) + ((ushrL (a1 - ((ushrL a1 (1 : Int32)) &&& (6148914691236517205 : Int64))) (2 : Int32)) &&& (3689348814741910323 : Int64))) + (ushrL (((a1 - ((ushrL a1 (1 : Int32)) &&& (6148914691236517205 : Int64))) &&& (3689348814741910323 : Int64)) + ((ushrL (a1 - ((ushrL a1 (1 : Int32)) &&& (6148914691236517205 : Int64))) (2 : Int32)) &&& (3689348814741910323 : Int64))) (4 : Int32))) &&& (1085102592571150095 : Int64))), none]) d_JL_bitCount_33 rfl (by decide) rfl ?_
  refine go_lload_n (pc := 34) (i := 0) d_JL_bitCount_34 rfl rfl ?_
  refine go_lload_n (pc := 35) (i := 0) d_JL_bitCount_35 rfl rfl ?_
  refine go_bipush (pc := 36) (v := 8) d_JL_bitCount_36 (by decide) ?_
  refine go_lushr (pc := 38) d_JL_bitCount_38 ?_
  refine go_ladd (pc := 39) d_JL_bitCount_39 ?_
  refine go_lstore_n (pc := 40) (i := 0) (L' := [some (.long ((((((a1 - ((ushrL a1 (1 : Int32)) &&& (6148914691236517205 : Int64))) &&& (3689348814741910323 : Int64)) + ((ushrL (a1 - ((ushrL a1 (1 : Int32)) &&& (6148914691236517205 : Int64))) (2 : Int32)) &&& (3689348814741910323 : Int64))) + (ushrL (((a1 - ((ushrL a1 (1 : Int32)) &&& (6148914691236517205 : Int64))) &&& (3689348814741910323 : Int64)) + ((ushrL (a1 - ((ushrL a1 (1 : Int32)) &&& (6148914691236517205 : Int64))) (2 : Int32)) &&& (3689348814741910323 : Int64))) (4 : Int32))) &&& (1085102592571150095 : Int64)) + (ushrL (((((a1 - ((ushrL a1 (1 : Int32)) &&& (6148914691236517205 : Int64))) &&& (3689348814741910323 : Int64)) + ((ushrL (a1 - ((ushrL a1 (1 : Int32)) &&& (6148914691236517205 : Int64))) (2 : Int32)) &&& (3689348814741910323 : Int64))) + (ushrL (((a1 - ((ushrL a1 (1 : Int32)) &&& (6148914691236517205 : Int64))) &&& (3689348814741910323 : Int64)) + ((ushrL (a1 - ((ushrL a1 (1 : Int32)) &&& (6148914691236517205 : Int64))) (2 : Int32)) &&& (3689348814741910323 : Int64))) (4 : Int32))) &&& (1085102592571150095 : Int64)) (8 : Int32)))), none]) d_JL_bitCount_40 rfl (by decide) rfl ?_
  refine go_lload_n (pc := 41) (i := 0) d_JL_bitCount_41 rfl rfl ?_
  refine go_lload_n (pc := 42) (i := 0) d_JL_bitCount_42 rfl rfl ?_
  refine go_bipush (pc := 43) (v := 16) d_JL_bitCount_43 (by decide) ?_
  refine go_lushr (pc := 45) d_JL_bitCount_45 ?_
  refine go_ladd (pc := 46) d_JL_bitCount_46 ?_
  refine go_lstore_n (pc := 47) (i := 0) (L' := [some (.long (((((((a1 - ((ushrL a1 (1 : Int32)) &&& (6148914691236517205 : Int64))) &&& (3689348814741910323 : Int64)) + ((ushrL (a1 - ((ushrL a1 (1 : Int32)) &&& (6148914691236517205 : Int64))) (2 : Int32)) &&& (3689348814741910323 : Int64))) + (ushrL (((a1 - ((ushrL a1 (1 : Int32)) &&& (6148914691236517205 : Int64))) &&& (3689348814741910323 : Int64)) + ((ushrL (a1 - ((ushrL a1 (1 : Int32)) &&& (6148914691236517205 : Int64))) (2 : Int32)) &&& (3689348814741910323 : Int64))) (4 : Int32))) &&& (1085102592571150095 : Int64)) + (ushrL (((((a1 - ((ushrL a1 (1 : Int32)) &&& (6148914691236517205 : Int64))) &&& (3689348814741910323 : Int64)) + ((ushrL (a1 - ((ushrL a1 (1 : Int32)) &&& (6148914691236517205 : Int64))) (2 : Int32)) &&& (3689348814741910323 : Int64))) + (ushrL (((a1 - ((ushrL a1 (1 : Int32)) &&& (6148914691236517205 : Int64))) &&& (3689348814741910323 : Int64)) + ((ushrL (a1 - ((ushrL a1 (1 : Int32)) &&& (6148914691236517205 : Int64))) (2 : Int32)) &&& (3689348814741910323 : Int64))) (4 : Int32))) &&& (1085102592571150095 : Int64)) (8 : Int32))) + (ushrL ((((((a1 - ((ushrL a1 (1 : Int32)) &&& (6148914691236517205 : Int64))) &&& (3689348814741910323 : Int64)) + ((ushrL (a1 - ((ushrL a1 (1 : Int32)) &&& (6148914691236517205 : Int64))) (2 : Int32)) &&& (3689348814741910323 : Int64))) + (ushrL (((a1 - ((ushrL a1 (1 : Int32)) &&& (6148914691236517205 : Int64))) &&& (3689348814741910323 : Int64)) + ((ushrL (a1 - ((ushrL a1 (1 : Int32)) &&& (6148914691236517205 : Int64))) (2 : Int32)) &&& (3689348814741910323 : Int64))) (4 : Int32))) &&& (1085102592571150095 : Int64)) + (ushrL (((((a1 - ((ushrL a1 (1 : Int32)) &&& (6148914691236517205 : Int64))) &&& (3689348814741910323 : Int64)) + ((ushrL (a1 - ((ushrL a1 (1 : Int32)) &&& (6148914691236517205 : Int64))) (2 : Int32)) &&& (3689348814741910323 : Int64))) + (ushrL (((a1 - ((ushrL a1 (1 : Int32)) &&& (6148914691236517205 : Int64))) &&& (3689348814741910323 : Int64)) + ((ushrL (a1 - ((ushrL a1 (1 : Int32)) &&& (6148914691236517205 : Int64))) (2 : Int32)) &&& (3689348814741910323 : Int64))) (4 : Int32))) &&& (1085102592571150095 : Int64)) (8 : Int32))) (16 : Int32)))), none]) d_JL_bitCount_47 rfl (by decide) rfl ?_
  refine go_lload_n (pc := 48) (i := 0) d_JL_bitCount_48 rfl rfl ?_
  refine go_lload_n (pc := 49) (i := 0) d_JL_bitCount_49 rfl rfl ?_
  refine go_bipush (pc := 50) (v := 32) d_JL_bitCount_50 (by decide) ?_
  refine go_lushr (pc := 52) d_JL_bitCount_52 ?_
  refine go_ladd (pc := 53) d_JL_bitCount_53 ?_
  refine go_lstore_n (pc := 54) (i := 0) (L' := [some (.long ((((((((a1 - ((ushrL a1 (1 : Int32)) &&& (6148914691236517205 : Int64))) &&& (3689348814741910323 : Int64)) + ((ushrL (a1 - ((ushrL a1 (1 : Int32)) &&& (6148914691236517205 : Int64))) (2 : Int32)) &&& (3689348814741910323 : Int64))) + (ushrL (((a1 - ((ushrL a1 (1 : Int32)) &&& (6148914691236517205 : Int64))) &&& (3689348814741910323 : Int64)) + ((ushrL (a1 - ((ushrL a1 (1 : Int32)) &&& (6148914691236517205 : Int64))) (2 : Int32)) &&& (3689348814741910323 : Int64))) (4 : Int32))) &&& (1085102592571150095 : Int64)) + (ushrL (((((a1 - ((ushrL a1 (1 : Int32)) &&& (6148914691236517205 : Int64))) &&& (3689348814741910323 : Int64)) + ((ushrL (a1 - ((ushrL a1 (1 : Int32)) &&& (6148914691236517205 : Int64))) (2 : Int32)) &&& (3689348814741910323 : Int64))) + (ushrL (((a1 - ((ushrL a1 (1 : Int32)) &&& (6148914691236517205 : Int64))) &&& (3689348814741910323 : Int64)) + ((ushrL (a1 - ((ushrL a1 (1 : Int32)) &&& (6148914691236517205 : Int64))) (2 : Int32)) &&& (3689348814741910323 : Int64))) (4 : Int32))) &&& (1085102592571150095 : Int64)) (8 : Int32))) + (ushrL ((((((a1 - ((ushrL a1 (1 : Int32)) &&& (6148914691236517205 : Int64))) &&& (3689348814741910323 : Int64)) + ((ushrL (a1 - ((ushrL a1 (1 : Int32)) &&& (6148914691236517205 : Int64))) (2 : Int32)) &&& (3689348814741910323 : Int64))) + (ushrL (((a1 - ((ushrL a1 (1 : Int32)) &&& (6148914691236517205 : Int64))) &&& (3689348814741910323 : Int64)) + ((ushrL (a1 - ((ushrL a1 (1 : Int32)) &&& (6148914691236517205 : Int64))) (2 : Int32)) &&& (3689348814741910323 : Int64))) (4 : Int32))) &&& (1085102592571150095 : Int64)) + (ushrL (((((a1 - ((ushrL a1 (1 : Int32)) &&& (6148914691236517205 : Int64))) &&& (3689348814741910323 : Int64)) + ((ushrL (a1 - ((ushrL a1 (1 : Int32)) &&& (6148914691236517205 : Int64))) (2 : Int32)) &&& (3689348814741910323 : Int64))) + (ushrL (((a1 - ((ushrL a1 (1 : Int32)) &&& (6148914691236517205 : Int64))) &&& (3689348814741910323 : Int64)) + ((ushrL (a1 - ((ushrL a1 (1 : Int32)) &&& (6148914691236517205 : Int64))) (2 : Int32)) &&& (3689348814741910323 : Int64))) (4 : Int32))) &&& (1085102592571150095 : Int64)) (8 : Int32))) (16 : Int32))) + (ushrL (((((((a1 - ((ushrL a1 (1 : Int32)) &&& (6148914691236517205 : Int64))) &&& (3689348814741910323 : Int64)) + ((ushrL (a1 - ((ushrL a1 (1 : Int32)) &&& (6148914691236517205 : Int64))) (2 : Int32)) &&& (3689348814741910323 : Int64))) + (ushrL (((a1 - ((ushrL a1 (1 : Int32)) &&& (6148914691236517205 : Int64))) &&& (3689348814741910323 : Int64)) + ((ushrL (a1 - ((ushrL a1 (1 : Int32)) &&& (6148914691236517205 : Int64))) (2 : Int32)) &&& (3689348814741910323 : Int64))) (4 : Int32))) &&& (1085102592571150095 : Int64)) + (ushrL (((((a1 - ((ushrL a1 (1 : Int32)) &&& (6148914691236517205 : Int64))) &&& (3689348814741910323 : Int64)) + ((ushrL (a1 - ((ushrL a1 (1 : Int32)) &&& (6148914691236517205 : Int64))) (2 : Int32)) &&& (3689348814741910323 : Int64))) + (ushrL (((a1 - ((ushrL a1 (1 : Int32)) &&& (6148914691236517205 : Int64))) &&& (3689348814741910323 : Int64)) + ((ushrL (a1 - ((ushrL a1 (1 : Int32)) &&& (6148914691236517205 : Int64))) (2 : Int32)) &&& (3689348814741910323 : Int64))) (4 : Int32))) &&& (1085102592571150095 : Int64)) (8 : Int32))) + (ushrL ((((((a1 - ((ushrL a1 (1 : Int32)) &&& (6148914691236517205 : Int64))) &&& (3689348814741910323 : Int64)) + ((ushrL (a1 - ((ushrL a1 (1 : Int32)) &&& (6148914691236517205 : Int64))) (2 : Int32)) &&& (3689348814741910323 : Int64))) + (ushrL (((a1 - ((ushrL a1 (1 : Int32)) &&& (6148914691236517205 : Int64))) &&& (3689348814741910323 : Int64)) + ((ushrL (a1 - ((ushrL a1 (1 : Int32)) &&& (6148914691236517205 : Int64))) (2 : Int32)) &&& (3689348814741910323 : Int64))) (4 : Int32))) &&& (1085102592571150095 : Int64)) + (ushrL (((((a1 - ((ushrL a1 (1 : Int32)) &&& (6148914691236517205 : Int64))) &&& (3689348814741910323 : Int64)) + ((ushrL (a1 - ((ushrL a1 (1 : Int32)) &&& (6148914691236517205 : Int64))) (2 : Int32)) &&& (3689348814741910323 : Int64))) + (ushrL (((a1 - ((ushrL a1 (1 : Int32)) &&& (6148914691236517205 : Int64))) &&& (3689348814741910323 : Int64)) + ((ushrL (a1 - ((ushrL a1 (1 : Int32)) &&& (6148914691236517205 : Int64))) (2 : Int32)) &&& (3689348814741910323 : Int64))) (4 : Int32))) &&& (1085102592571150095 : Int64)) (8 : Int32))) (16 : Int32))) (32 : Int32)))), none]) d_JL_bitCount_54 rfl (by decide) rfl ?_
  refine go_lload_n (pc := 55) (i := 0) d_JL_bitCount_55 rfl rfl ?_
  refine go_l2i (pc := 56) d_JL_bitCount_56 ?_
  refine go_bipush (pc := 57) (v := 127) d_JL_bitCount_57 (by decide) ?_
  refine go_iand (pc := 59) d_JL_bitCount_59 ?_
  exact go_ret (pc := 60) (r := some (.int ((Int64.toInt32 ((((((((a1 - ((ushrL a1 (1 : Int32)) &&& (6148914691236517205 : Int64))) &&& (3689348814741910323 : Int64)) + ((ushrL (a1 - ((ushrL a1 (1 : Int32)) &&& (6148914691236517205 : Int64))) (2 : Int32)) &&& (3689348814741910323 : Int64))) + (ushrL (((a1 - ((ushrL a1 (1 : Int32)) &&& (6148914691236517205 : Int64))) &&& (3689348814741910323 : Int64)) + ((ushrL (a1 - ((ushrL a1 (1 : Int32)) &&& (6148914691236517205 : Int64))) (2 : Int32)) &&& (3689348814741910323 : Int64))) (4 : Int32))) &&& (1085102592571150095 : Int64)) + (ushrL (((((a1 - ((ushrL a1 (1 : Int32)) &&& (6148914691236517205 : Int64))) &&& (3689348814741910323 : Int64)) + ((ushrL (a1 - ((ushrL a1 (1 : Int32)) &&& (6148914691236517205 : Int64))) (2 : Int32)) &&& (3689348814741910323 : Int64))) + (ushrL (((a1 - ((ushrL a1 (1 : Int32)) &&& (6148914691236517205 : Int64))) &&& (3689348814741910323 : Int64)) + ((ushrL (a1 - ((ushrL a1 (1 : Int32)) &&& (6148914691236517205 : Int64))) (2 : Int32)) &&& (3689348814741910323 : Int64))) (4 : Int32))) &&& (1085102592571150095 : Int64)) (8 : Int32))) + (ushrL ((((((a1 - ((ushrL a1 (1 : Int32)) &&& (6148914691236517205 : Int64))) &&& (3689348814741910323 : Int64)) + ((ushrL (a1 - ((ushrL a1 (1 : Int32)) &&& (6148914691236517205 : Int64))) (2 : Int32)) &&& (3689348814741910323 : Int64))) + (ushrL (((a1 - ((ushrL a1 (1 : Int32)) &&& (6148914691236517205 : Int64))) &&& (3689348814741910323 : Int64)) + ((ushrL (a1 - ((ushrL a1 (1 : Int32)) &&& (6148914691236517205 : Int64))) (2 : Int32)) &&& (3689348814741910323 : Int64))) (4 : Int32))) &&& (1085102592571150095 : Int64)) + (ushrL (((((a1 - ((ushrL a1 (1 : Int32)) &&& (6148914691236517205 : Int64))) &&& (3689348814741910323 : Int64)) + ((ushrL (a1 - ((ushrL a1 (1 : Int32)) &&& (6148914691236517205 : Int64))) (2 : Int32)) &&& (3689348814741910323 : Int64))) + (ushrL (((a1 - ((ushrL a1 (1 : Int32)) &&& (6148914691236517205 : Int64))) &&& (3689348814741910323 : Int64)) + ((ushrL (a1 - ((ushrL a1 (1 : Int32)) &&& (6148914691236517205 : Int64))) (2 : Int32)) &&& (3689348814741910323 : Int64))) (4 : Int32))) &&& (1085102592571150095 : Int64)) (8 : Int32))) (16 : Int32))) + (ushrL (((((((a1 - ((ushrL a1 (1 : Int32)) &&& (6148914691236517205 : Int64))) &&& (3689348814741910323 : Int64)) + ((ushrL (a1 - ((ushrL a1 (1 : Int32)) &&& (6148914691236517205 : Int64))) (2 : Int32)) &&& (3689348814741910323 : Int64))) + (ushrL (((a1 - ((ushrL a1 (1 : Int32)) &&& (6148914691236517205 : Int64))) &&& (3689348814741910323 : Int64)) + ((ushrL (a1 - ((ushrL a1 (1 : Int32)) &&& (6148914691236517205 : Int64))) (2 : Int32)) &&& (3689348814741910323 : Int64))) (4 : Int32))) &&& (1085102592571150095 : Int64)) + (ushrL (((((a1 - ((ushrL a1 (1 : Int32)) &&& (6148914691236517205 : Int64))) &&& (3689348814741910323 : Int64)) + ((ushrL (a1 - ((ushrL a1 (1 : Int32)) &&& (6148914691236517205 : Int64))) (2 : Int32)) &&& (3689348814741910323 : Int64))) + (ushrL (((a1 - ((ushrL a1 (1 : Int32)) &&& (6148914691236517205 : Int64))) &&& (3689348814741910323 : Int64)) + ((ushrL (a1 - ((ushrL a1 (1 : Int32)) &&& (6148914691236517205 : Int64))) (2 : Int32)) &&& (3689348814741910323 : Int64))) (4 : Int32))) &&& (1085102592571150095 : Int64)) (8 : Int32))) + (ushrL ((((((a1 - ((ushrL a1 (1 : Int32)) &&& (6148914691236517205 : Int64))) &&& (3689348814741910323 : Int64)) + ((ushrL (a1 - ((ushrL a1 (1 : Int32)) &&& (6148914691236517205 : Int64))) (2 : Int32)) &&& (3689348814741910323 : Int64))) + (ushrL (((a1 - ((ushrL a1 (1 : Int32)) &&& (6148914691236517205 : Int64))) &&& (3689348814741910323 : Int64)) + ((ushrL (a1 - ((ushrL a1 (1 : Int32)) &&& (6148914691236517205 : Int64))) (2 : Int32)) &&& (3689348814741910323 : Int64))) (4 : Int32))) &&& (1085102592571150095 : Int64)) + (ushrL (((((a1 - ((ushrL a1 (1 : Int32)) &&& (6148914691236517205 : Int64))) &&& (3689348814741910323 : Int64)) + ((ushrL (a1 - ((ushrL a1 (1 : Int32)) &&& (6148914691236517205 : Int64))) (2 : Int32)) &&& (3689348814741910323 : Int64))) + (ushrL (((a1 - ((ushrL a1 (1 : Int32)) &&& (6148914691236517205 : Int64))) &&& (3689348814741910323 : Int64)) + ((ushrL (a1 - ((ushrL a1 (1 : Int32)) &&& (6148914691236517205 : Int64))) (2 : Int32)) &&& (3689348814741910323 : Int64))) (4 : Int32))) &&& (1085102592571150095 : Int64)) (8 : Int32))) (16 : Int32))) (32 : Int32)))) &&& (127 : Int32)))) d_JL_bitCount_60 ⟨_, _, rfl, rfl, hk⟩
