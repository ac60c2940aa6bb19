def wp_Host_isProgram (a1 : Int32) (μ : Mu) (Q : Int32 → Mu → Prop) : Prop := (((a1 < 0) → Q (0 : Int32) μ) ∧ ((¬ a1 < 0) → ((((4 : Int32) ≤ a1) → Q (0 : Int32) μ) ∧ ((¬ (4 : Int32) ≤ a1) → Q (1 : Int32) μ))))
set_option maxRecDepth 100000 in
set_option maxHeartbeats 4000000 in
theorem m_Host_isProgram {l : Launch} {a1 : Int32}  {μ : Mu} {Q : Int32 → Mu → Prop} (hk : wp_Host_isProgram a1 μ Q) : Mets (mE l) mt_Host_isProgram false (rmd 0) [.int a1] (lay μ) (PI Q) := by
  unfold wp_Host_isProgram at hk
  refine mets_of (L := [some (.int a1)]) (by decide) (Nat.le_of_ble_eq_true rfl) rfl ?_
  refine go_iload_n (pc := 0) (i := 0) d_Host_isProgram_0 rfl rfl ?_
  refine go_if_lt (pc := 1) (tgt := 13) d_Host_isProgram_1 rfl (fun h1 => ?_) (fun h1 => ?_)
  · replace hk := hk.1 h1
    refine go_iconst (pc := 13) (v := 0) d_Host_isProgram_13 (by decide) ?_
    exact go_ret (pc := 14) (r := some (.int (0 : Int32))) ⟨nar_zv (by decide), d_Host_isProgram_14⟩ ⟨_, _, rfl, rfl, hk⟩
  · replace hk := hk.2 h1
    refine go_iload_n (pc := 4) (i := 0) d_Host_isProgram_4 rfl rfl ?_
    refine go_iconst (pc := 5) (v := 4) d_Host_isProgram_5 (by decide) ?_
    refine go_icmp_ge (pc := 6) (tgt := 13) d_Host_isProgram_6 rfl (fun h6 => ?_) (fun h6 => ?_)
    · replace hk := hk.1 h6
      refine go_iconst (pc := 13) (v := 0) d_Host_isProgram_13 (by decide) ?_
      exact go_ret (pc := 14) (r := some (.int (0 : Int32))) ⟨nar_zv (by decide), d_Host_isProgram_14⟩ ⟨_, _, rfl, rfl, hk⟩
    · replace hk := hk.2 h6
      refine go_iconst (pc := 9) (v := 1) d_Host_isProgram_9 (by decide) ?_
      refine go_goto (pc := 10) (tgt := 14) d_Host_isProgram_10 rfl ?_
      exact go_ret (pc := 14) (r := some (.int (1 : Int32))) ⟨nar_zv (by decide), d_Host_isProgram_14⟩ ⟨_, _, rfl, rfl, hk⟩
def wp_Ins_isOne (a1 : Int32) (a2 : Int32) (μ : Mu) (Q : Int32 → Mu → Prop) : Prop := (((a1 < 0) → Q (0 : Int32) μ) ∧ ((¬ a1 < 0) → (((a1 ≤ (24 : Int32)) → (((a1 = (1 : Int32)) → Q (1 : Int32) μ) ∧ ((¬ a1 = (1 : Int32)) → (((a2 < 0) → Q (0 : Int32) μ) ∧ ((¬ a2 < 0) → (vp_in a1 25 ∧ ((((sta_v 2 (Int32.toNatClampNeg a1)) < a2) → Q (0 : Int32) μ) ∧ ((¬ (sta_v 2 (Int32.toNatClampNeg a1)) < a2) → Q (1 : Int32) μ)))))))) ∧ ((¬ a1 ≤ (24 : Int32)) → Q (0 : Int32) μ))))
set_option maxRecDepth 100000 in
set_option maxHeartbeats 4000000 in
theorem m_Ins_isOne {l : Launch} {a1 : Int32} {a2 : Int32}  {μ : Mu} {Q : Int32 → Mu → Prop} (hk : wp_Ins_isOne a1 a2 μ Q) : Mets (mE l) mt_Ins_isOne false (rmd 0) [.int a1, .int a2] (lay μ) (PI Q) := by
  unfold wp_Ins_isOne at hk
  refine mets_of (L := [some (.int a1), some (.int a2)]) (by decide) (Nat.le_of_ble_eq_true rfl) rfl ?_
  refine go_iload_n (pc := 0) (i := 0) d_Ins_isOne_0 rfl rfl ?_
  refine go_if_lt (pc := 1) (tgt := 10) d_Ins_isOne_1 rfl (fun h1 => ?_) (fun h1 => ?_)
  · replace hk := hk.1 h1
    refine go_iconst (pc := 10) (v := 0) d_Ins_isOne_10 (by decide) ?_
    exact go_ret (pc := 11) (r := some (.int (0 : Int32))) ⟨nar_zv (by decide), d_Ins_isOne_11⟩ ⟨_, _, rfl, rfl, hk⟩
  · replace hk := hk.2 h1
    refine go_iload_n (pc := 4) (i := 0) d_Ins_isOne_4 rfl rfl ?_
    refine go_bipush (pc := 5) (v := 24) d_Ins_isOne_5 (by decide) ?_
    refine go_icmp_le (pc := 7) (tgt := 12) d_Ins_isOne_7 rfl (fun h7 => ?_) (fun h7 => ?_)
    · replace hk := hk.1 h7
      refine go_iload_n (pc := 12) (i := 0) d_Ins_isOne_12 rfl rfl ?_
      refine go_iconst (pc := 13) (v := 1) d_Ins_isOne_13 (by decide) ?_
      refine go_icmp_eq (pc := 14) (tgt := 30) d_Ins_isOne_14 rfl (fun h14 => ?_) (fun h14 => ?_)
      · replace hk := hk.1 h14
        refine go_iconst (pc := 30) (v := 1) d_Ins_isOne_30 (by decide) ?_
        refine go_goto (pc := 31) (tgt := 35) d_Ins_isOne_31 rfl ?_
        exact go_ret (pc := 35) (r := some (.int (1 : Int32))) ⟨nar_zv (by decide), d_Ins_isOne_35⟩ ⟨_, _, rfl, rfl, hk⟩
      · replace hk := hk.2 h14
        refine go_iload_n (pc := 17) (i := 1) d_Ins_isOne_17 rfl rfl ?_
        refine go_if_lt (pc := 18) (tgt := 34) d_Ins_isOne_18 rfl (fun h18 => ?_) (fun h18 => ?_)
        · replace hk := hk.1 h18
          refine go_iconst (pc := 34) (v := 0) d_Ins_isOne_34 (by decide) ?_
          exact go_ret (pc := 35) (r := some (.int (0 : Int32))) ⟨nar_zv (by decide), d_Ins_isOne_35⟩ ⟨_, _, rfl, rfl, hk⟩
        · replace hk := hk.2 h18
          refine go_iload_n (pc := 21) (i := 1) d_Ins_isOne_21 rfl rfl ?_
          refine go_gets (pc := 22) (i := 2) (by decide) (Or.inl gs_Ins_9) d_Ins_isOne_22 ?_
          refine go_iload_n (pc := 25) (i := 0) d_Ins_isOne_25 rfl rfl ?_
          obtain ⟨hi1, hk⟩ := hk
          refine go_sld (pc := 26) (i := 2) (by decide) hi1 d_Ins_isOne_26 ?_
          refine go_icmp_gt (pc := 27) (tgt := 34) d_Ins_isOne_27 rfl (fun h27 => ?_) (fun h27 => ?_)
          · replace hk := hk.1 h27
            refine go_iconst (pc := 34) (v := 0) d_Ins_isOne_34 (by decide) ?_
            exact go_ret (pc := 35) (r := some (.int (0 : Int32))) ⟨nar_zv (by decide), d_Ins_isOne_35⟩ ⟨_, _, rfl, rfl, hk⟩
          · replace hk := hk.2 h27
            refine go_iconst (pc := 30) (v := 1) d_Ins_isOne_30 (by decide) ?_
            refine go_goto (pc := 31) (tgt := 35) d_Ins_isOne_31 rfl ?_
            exact go_ret (pc := 35) (r := some (.int (1 : Int32))) ⟨nar_zv (by decide), d_Ins_isOne_35⟩ ⟨_, _, rfl, rfl, hk⟩
    · replace hk := hk.2 h7
      refine go_iconst (pc := 10) (v := 0) d_Ins_isOne_10 (by decide) ?_
      exact go_ret (pc := 11) (r := some (.int (0 : Int32))) ⟨nar_zv (by decide), d_Ins_isOne_11⟩ ⟨_, _, rfl, rfl, hk⟩
def wp_Prog_append (k0 : Nat) (a1 : Int32) (a2 : Int32) (μ : Mu) (Q : Int32 → Mu → Prop) : Prop := (((¬ (μ.1 (3 + 5 * k0) 6) = 0) → Q (-1 : Int32) μ) ∧ (((μ.1 (3 + 5 * k0) 6) = 0) → ((((μ.1 (3 + 5 * k0) 5) < (24 : Int32)) → (vp_in (μ.1 (3 + 5 * k0) 5) 24 ∧ ∀ μ2 : Mu, μ2 = setA μ (4 + 5 * k0) (Int32.toNatClampNeg (μ.1 (3 + 5 * k0) 5)) a1 → (vp_in (μ2.1 (3 + 5 * k0) 5) 24 ∧ ∀ μ4 : Mu, μ4 = setA μ2 (5 + 5 * k0) (Int32.toNatClampNeg (μ2.1 (3 + 5 * k0) 5)) a2 → ∀ μ5 : Mu, μ5 = setF μ4 (3 + 5 * k0) 5 ((μ4.1 (3 + 5 * k0) 5) + (1 : Int32)) → Q ((μ5.1 (3 + 5 * k0) 5) - (1 : Int32)) μ5))) ∧ ((¬ (μ.1 (3 + 5 * k0) 5) < (24 : Int32)) → Q (-1 : Int32) μ))))
set_option maxRecDepth 100000 in
set_option maxHeartbeats 4000000 in
theorem m_Prog_append {l : Launch} {k0 : Nat} {a1 : Int32} {a2 : Int32} (hk0 : k0 < 4) {μ : Mu} {Q : Int32 → Mu → Prop} (hk : wp_Prog_append k0 a1 a2 μ Q) : Mets (mE l) mt_Prog_append false (rmd 0) [.ref (3 + 5 * k0), .int a1, .int a2] (lay μ) (PI Q) := by
  unfold wp_Prog_append at hk
  refine mets_of (L := [some (.ref (3 + 5 * k0)), some (.int a1), some (.int a2)]) (by decide) (Nat.le_of_ble_eq_true rfl) rfl ?_
  refine go_aload_n (pc := 0) (i := 0) d_Prog_append_0 rfl rfl ?_
  refine go_getI (pc := 1) (sh_prog hk0) rfl fl_Prog_31 d_Prog_append_1 ?_
  refine go_if_ne (pc := 4) (tgt := 16) d_Prog_append_4 rfl (fun h4 => ?_) (fun h4 => ?_)
  · replace hk := hk.1 h4
    refine go_iconst (pc := 16) (v := (-1)) d_Prog_append_16 (by decide) ?_
    exact go_ret (pc := 17) (r := some (.int (-1 : Int32))) d_Prog_append_17 ⟨_, _, rfl, rfl, hk⟩
  · replace hk := hk.2 h4
    refine go_aload_n (pc := 7) (i := 0) d_Prog_append_7 rfl rfl ?_
    refine go_getI (pc := 8) (sh_prog hk0) rfl fl_Prog_28 d_Prog_append_8 ?_
    refine go_bipush (pc := 11) (v := 24) d_Prog_append_11 (by decide) ?_
    refine go_icmp_lt (pc := 13) (tgt := 18) d_Prog_append_13 rfl (fun h13 => ?_) (fun h13 => ?_)
    · replace hk := hk.1 h13
      refine go_aload_n (pc := 18) (i := 0) d_Prog_append_18 rfl rfl ?_
      refine go_getR (pc := 19) (r := 4 + 5 * k0) (sh_prog hk0) rfl fl_Prog_9 d_Prog_append_19 ?_
      refine go_aload_n (pc := 22) (i := 0) d_Prog_append_22 rfl rfl ?_
      refine go_getI (pc := 23) (sh_prog hk0) rfl fl_Prog_28 d_Prog_append_23 ?_
      refine go_iload_n (pc := 26) (i := 1) d_Prog_append_26 rfl rfl ?_
      obtain ⟨hi1, hk⟩ := hk
      refine go_astIn (pc := 27) (sh_pops hk0) hi1 d_Prog_append_27 (fun μ2 e2 => ?_)
      replace hk := hk μ2 e2
      refine go_aload_n (pc := 28) (i := 0) d_Prog_append_28 rfl rfl ?_
      refine go_getR (pc := 29) (r := 5 + 5 * k0) (sh_prog hk0) rfl fl_Prog_15 d_Prog_append_29 ?_
      refine go_aload_n (pc := 32) (i := 0) d_Prog_append_32 rfl rfl ?_
      refine go_getI (pc := 33) (sh_prog hk0) rfl fl_Prog_28 d_Prog_append_33 ?_
      refine go_iload_n (pc := 36) (i := 2) d_Prog_append_36 rfl rfl ?_
      obtain ⟨hi3, hk⟩ := hk
      refine go_astIn (pc := 37) (sh_pargs hk0) hi3 d_Prog_append_37 (fun μ4 e4 => ?_)
      replace hk := hk μ4 e4
      refine go_aload_n (pc := 38) (i := 0) d_Prog_append_38 rfl rfl ?_
      refine go_dup (pc := 39) d_Prog_append_39 rfl ?_
      refine go_getI (pc := 40) (sh_prog hk0) rfl fl_Prog_28 d_Prog_append_40 ?_
      refine go_iconst (pc := 43) (v := 1) d_Prog_append_43 (by decide) ?_
      refine go_iadd (pc := 44) d_Prog_append_44 ?_
      refine go_putIn (pc := 45) (sh_prog hk0) rfl (fp_Prog_28 rfl) d_Prog_append_45 (fun μ5 e5 => ?_)
      replace hk := hk μ5 e5
      refine go_aload_n (pc := 48) (i := 0) d_Prog_append_48 rfl rfl ?_
      refine go_getI (pc := 49) (sh_prog hk0) rfl fl_Prog_28 d_Prog_append_49 ?_
      refine go_iconst (pc := 52) (v := 1) d_Prog_append_52 (by decide) ?_
      refine go_isub (pc := 53) d_Prog_append_53 ?_
      exact go_ret (pc := 54) (r := some (.int ((μ5.1 (3 + 5 * k0) 5) - (1 : Int32)))) d_Prog_append_54 ⟨_, _, rfl, rfl, hk⟩
    · replace hk := hk.2 h13
      refine go_iconst (pc := 16) (v := (-1)) d_Prog_append_16 (by decide) ?_
      exact go_ret (pc := 17) (r := some (.int (-1 : Int32))) d_Prog_append_17 ⟨_, _, rfl, rfl, hk⟩
def wp_Host_code (a1 : Int32) (a2 : Int32) (a3 : Int32) (μ : Mu) (Q : Int32 → Mu → Prop) : Prop := wp_Host_isProgram a1 μ (fun x2 μ1 => (((x2 = 0) → Q (-1 : Int32) μ1) ∧ ((¬ x2 = 0) → wp_Ins_isOne a2 a3 μ1 (fun x4 μ3 => (((x4 = 0) → Q (-1 : Int32) μ3) ∧ ((¬ x4 = 0) → (vp_in a1 4 ∧ wp_Prog_append (Int32.toNatClampNeg a1) a2 a3 μ3 (fun x8 μ7 => Q x8 μ7))))))))
set_option maxRecDepth 100000 in
set_option maxHeartbeats 4000000 in
theorem m_Host_code {l : Launch} {a1 : Int32} {a2 : Int32} {a3 : Int32}  {μ : Mu} {Q : Int32 → Mu → Prop} (hk : wp_Host_code a1 a2 a3 μ Q) : Mets (mE l) mt_Host_code false (rmd 1) [.ref 0, .int a1, .int a2, .int a3] (lay μ) (PI Q) := by
  unfold wp_Host_code at hk
  refine mets_of (L := [some (.ref 0), some (.int a1), some (.int a2), some (.int a3)]) (by decide) (Nat.le_of_ble_eq_true rfl) rfl ?_
  refine go_iload_n (pc := 0) (i := 1) d_Host_code_0 rfl rfl ?_
  refine go_callS (pc := 1) (m_Host_isProgram  hk) cz_Host_isProgram sm_Host_isProgram (Or.inl lk_Host_42) rfl rfl (Nat.le_of_ble_eq_true rfl) ⟨by decide, by decide⟩ rfl rfl d_Host_code_1 (fun r M' hr => ?_)
  obtain ⟨x2, μ1, rfl, rfl, hk⟩ := hr
  try dsimp only [Option.toList, List.cons_append, List.nil_append]
  refine go_if_eq (pc := 4) (tgt := 29) d_Host_code_4 rfl (fun h4 => ?_) (fun h4 => ?_)
  · replace hk := hk.1 h4
    refine go_iconst (pc := 29) (v := (-1)) d_Host_code_29 (by decide) ?_
    exact go_ret (pc := 30) (r := some (.int (-1 : Int32))) d_Host_code_30 ⟨_, _, rfl, rfl, hk⟩
  · replace hk := hk.2 h4
    refine go_iload_n (pc := 7) (i := 2) d_Host_code_7 rfl rfl ?_
    refine go_iload_n (pc := 8) (i := 3) d_Host_code_8 rfl rfl ?_
    refine go_callS (pc := 9) (m_Ins_isOne  hk) cz_Ins_isOne sm_Ins_isOne (Or.inl lk_Host_46) rfl rfl (Nat.le_of_ble_eq_true rfl) ⟨by decide, by decide⟩ rfl rfl d_Host_code_9 (fun r M' hr => ?_)
    obtain ⟨x4, μ3, rfl, rfl, hk⟩ := hr
    try dsimp only [Option.toList, List.cons_append, List.nil_append]
    refine go_if_eq (pc := 12) (tgt := 29) d_Host_code_12 rfl (fun h12 => ?_) (fun h12 => ?_)
    · replace hk := hk.1 h12
      refine go_iconst (pc := 29) (v := (-1)) d_Host_code_29 (by decide) ?_
      exact go_ret (pc := 30) (r := some (.int (-1 : Int32))) d_Host_code_30 ⟨_, _, rfl, rfl, hk⟩
    · replace hk := hk.2 h12
      refine go_aload_n (pc := 15) (i := 0) d_Host_code_15 rfl rfl ?_
      refine go_getR (pc := 16) (r := 1) sh_host rfl fl_Host_11 d_Host_code_16 ?_
      refine go_iload_n (pc := 19) (i := 1) d_Host_code_19 rfl rfl ?_
      obtain ⟨hi5, hk⟩ := hk
      have ht6 : (Int32.toNatClampNeg a1) < 4 := in_lt (n := 4) hi5
      refine go_aldR (pc := 20) (r := 3 + 5 * (Int32.toNatClampNeg a1)) sh_programs rfl hi5 (prog_at ht6) d_Host_code_20 ?_
      refine go_iload_n (pc := 21) (i := 2) d_Host_code_21 rfl rfl ?_
      refine go_iload_n (pc := 22) (i := 3) d_Host_code_22 rfl rfl ?_
      refine go_callV (pc := 23) (m_Prog_append ht6 hk) cz_Prog_append cv_Prog_append (Or.inl lk_Host_52) (lay_at (sh_prog ht6)) rfl rfl rfl (Nat.le_of_ble_eq_true rfl) ⟨by decide, by decide⟩ rfl rfl d_Host_code_23 (fun r M' hr => ?_)
      obtain ⟨x8, μ7, rfl, rfl, hk⟩ := hr
      try dsimp only [Option.toList, List.cons_append, List.nil_append]
      refine go_goto (pc := 26) (tgt := 30) d_Host_code_26 rfl ?_
      exact go_ret (pc := 30) (r := some (.int x8)) d_Host_code_30 ⟨_, _, rfl, rfl, hk⟩
def wp_Prog_empty (k0 : Nat) (μ : Mu) (Q : Int32 → Mu → Prop) : Prop := ((((μ.1 (3 + 5 * k0) 6) = 0) → ∀ μ1 : Mu, μ1 = setF μ (3 + 5 * k0) 5 (0 : Int32) → Q (1 : Int32) μ1) ∧ ((¬ (μ.1 (3 + 5 * k0) 6) = 0) → Q (0 : Int32) μ))
set_option maxRecDepth 100000 in
set_option maxHeartbeats 4000000 in
theorem m_Prog_empty {l : Launch} {k0 : Nat} (hk0 : k0 < 4) {μ : Mu} {Q : Int32 → Mu → Prop} (hk : wp_Prog_empty k0 μ Q) : Mets (mE l) mt_Prog_empty false (rmd 0) [.ref (3 + 5 * k0)] (lay μ) (PI Q) := by
  unfold wp_Prog_empty at hk
  refine mets_of (L := [some (.ref (3 + 5 * k0))]) (by decide) (Nat.le_of_ble_eq_true rfl) rfl ?_
  refine go_aload_n (pc := 0) (i := 0) d_Prog_empty_0 rfl rfl ?_
  refine go_getI (pc := 1) (sh_prog hk0) rfl fl_Prog_31 d_Prog_empty_1 ?_
  refine go_if_eq (pc := 4) (tgt := 9) d_Prog_empty_4 rfl (fun h4 => ?_) (fun h4 => ?_)
  · replace hk := hk.1 h4
    refine go_aload_n (pc := 9) (i := 0) d_Prog_empty_9 rfl rfl ?_
    refine go_iconst (pc := 10) (v := 0) d_Prog_empty_10 (by decide) ?_
    refine go_putIn (pc := 11) (sh_prog hk0) rfl (fp_Prog_28 rfl) d_Prog_empty_11 (fun μ1 e1 => ?_)
    replace hk := hk μ1 e1
    refine go_iconst (pc := 14) (v := 1) d_Prog_empty_14 (by decide) ?_
    exact go_ret (pc := 15) (r := some (.int (1 : Int32))) ⟨nar_zv (by decide), d_Prog_empty_15⟩ ⟨_, _, rfl, rfl, hk⟩
  · replace hk := hk.2 h4
    refine go_iconst (pc := 7) (v := 0) d_Prog_empty_7 (by decide) ?_
    exact go_ret (pc := 8) (r := some (.int (0 : Int32))) ⟨nar_zv (by decide), d_Prog_empty_8⟩ ⟨_, _, rfl, rfl, hk⟩
def wp_Host_clear (a1 : Int32) (μ : Mu) (Q : Int32 → Mu → Prop) : Prop := wp_Host_isProgram a1 μ (fun x2 μ1 => (((x2 = 0) → Q (0 : Int32) μ1) ∧ ((¬ x2 = 0) → (vp_in a1 4 ∧ wp_Prog_empty (Int32.toNatClampNeg a1) μ1 (fun x6 μ5 => (((x6 = 0) → Q (0 : Int32) μ5) ∧ ((¬ x6 = 0) → Q (1 : Int32) μ5)))))))
set_option maxRecDepth 100000 in
set_option maxHeartbeats 4000000 in
theorem m_Host_clear {l : Launch} {a1 : Int32}  {μ : Mu} {Q : Int32 → Mu → Prop} (hk : wp_Host_clear a1 μ Q) : Mets (mE l) mt_Host_clear false (rmd 1) [.ref 0, .int a1] (lay μ) (PI Q) := by
  unfold wp_Host_clear at hk
  refine mets_of (L := [some (.ref 0), some (.int a1)]) (by decide) (Nat.le_of_ble_eq_true rfl) rfl ?_
  refine go_iload_n (pc := 0) (i := 1) d_Host_clear_0 rfl rfl ?_
  refine go_callS (pc := 1) (m_Host_isProgram  hk) cz_Host_isProgram sm_Host_isProgram (Or.inl lk_Host_42) rfl rfl (Nat.le_of_ble_eq_true rfl) ⟨by decide, by decide⟩ rfl rfl d_Host_clear_1 (fun r M' hr => ?_)
  obtain ⟨x2, μ1, rfl, rfl, hk⟩ := hr
  try dsimp only [Option.toList, List.cons_append, List.nil_append]
  refine go_if_eq (pc := 4) (tgt := 23) d_Host_clear_4 rfl (fun h4 => ?_) (fun h4 => ?_)
  · replace hk := hk.1 h4
    refine go_iconst (pc := 23) (v := 0) d_Host_clear_23 (by decide) ?_
    exact go_ret (pc := 24) (r := some (.int (0 : Int32))) ⟨nar_zv (by decide), d_Host_clear_24⟩ ⟨_, _, rfl, rfl, hk⟩
  · replace hk := hk.2 h4
    refine go_aload_n (pc := 7) (i := 0) d_Host_clear_7 rfl rfl ?_
    refine go_getR (pc := 8) (r := 1) sh_host rfl fl_Host_11 d_Host_clear_8 ?_
    refine go_iload_n (pc := 11) (i := 1) d_Host_clear_11 rfl rfl ?_
    obtain ⟨hi3, hk⟩ := hk
    have ht4 : (Int32.toNatClampNeg a1) < 4 := in_lt (n := 4) hi3
    refine go_aldR (pc := 12) (r := 3 + 5 * (Int32.toNatClampNeg a1)) sh_programs rfl hi3 (prog_at ht4) d_Host_clear_12 ?_
    refine go_callV (pc := 13) (m_Prog_empty ht4 hk) cz_Prog_empty cv_Prog_empty (Or.inl lk_Host_55) (lay_at (sh_prog ht4)) rfl rfl rfl (Nat.le_of_ble_eq_true rfl) ⟨by decide, by decide⟩ rfl rfl d_Host_clear_13 (fun r M' hr => ?_)
    obtain ⟨x6, μ5, rfl, rfl, hk⟩ := hr
    try dsimp only [Option.toList, List.cons_append, List.nil_append]
    refine go_if_eq (pc := 16) (tgt := 23) d_Host_clear_16 rfl (fun h16 => ?_) (fun h16 => ?_)
    · replace hk := hk.1 h16
      refine go_iconst (pc := 23) (v := 0) d_Host_clear_23 (by decide) ?_
      exact go_ret (pc := 24) (r := some (.int (0 : Int32))) ⟨nar_zv (by decide), d_Host_clear_24⟩ ⟨_, _, rfl, rfl, hk⟩
    · replace hk := hk.2 h16
      refine go_iconst (pc := 19) (v := 1) d_Host_clear_19 (by decide) ?_
      refine go_goto (pc := 20) (tgt := 24) d_Host_clear_20 rfl ?_
      exact go_ret (pc := 24) (r := some (.int (1 : Int32))) ⟨nar_zv (by decide), d_Host_clear_24⟩ ⟨_, _, rfl, rfl, hk⟩
def wp_Ins_countOf (a1 : Int32) (μ : Mu) (Q : Int32 → Mu → Prop) : Prop := (((a1 < (4 : Int32)) → (((a1 < (2 : Int32)) → Q (0 : Int32) μ) ∧ ((¬ a1 < (2 : Int32)) → Q (1 : Int32) μ))) ∧ ((¬ a1 < (4 : Int32)) → Q (2 : Int32) μ))
set_option maxRecDepth 100000 in
set_option maxHeartbeats 4000000 in
theorem m_Ins_countOf {l : Launch} {a1 : Int32}  {μ : Mu} {Q : Int32 → Mu → Prop} (hk : wp_Ins_countOf a1 μ Q) : Mets (mE l) mt_Ins_countOf false (rmd 0) [.int a1] (lay μ) (PI Q) := by
  unfold wp_Ins_countOf at hk
  refine mets_of (L := [some (.int a1)]) (by decide) (Nat.le_of_ble_eq_true rfl) rfl ?_
  refine go_iload_n (pc := 0) (i := 0) d_Ins_countOf_0 rfl rfl ?_
  refine go_iconst (pc := 1) (v := 4) d_Ins_countOf_1 (by decide) ?_
  refine go_icmp_lt (pc := 2) (tgt := 9) d_Ins_countOf_2 rfl (fun h2 => ?_) (fun h2 => ?_)
  · replace hk := hk.1 h2
    refine go_iload_n (pc := 9) (i := 0) d_Ins_countOf_9 rfl rfl ?_
    refine go_iconst (pc := 10) (v := 2) d_Ins_countOf_10 (by decide) ?_
    refine go_icmp_lt (pc := 11) (tgt := 18) d_Ins_countOf_11 rfl (fun h11 => ?_) (fun h11 => ?_)
    · replace hk := hk.1 h11
      refine go_iconst (pc := 18) (v := 0) d_Ins_countOf_18 (by decide) ?_
      exact go_ret (pc := 19) (r := some (.int (0 : Int32))) d_Ins_countOf_19 ⟨_, _, rfl, rfl, hk⟩
    · replace hk := hk.2 h11
      refine go_iconst (pc := 14) (v := 1) d_Ins_countOf_14 (by decide) ?_
      refine go_goto (pc := 15) (tgt := 19) d_Ins_countOf_15 rfl ?_
      exact go_ret (pc := 19) (r := some (.int (1 : Int32))) d_Ins_countOf_19 ⟨_, _, rfl, rfl, hk⟩
  · replace hk := hk.2 h2
    refine go_iconst (pc := 5) (v := 2) d_Ins_countOf_5 (by decide) ?_
    refine go_goto (pc := 6) (tgt := 19) d_Ins_countOf_6 rfl ?_
    exact go_ret (pc := 19) (r := some (.int (2 : Int32))) d_Ins_countOf_19 ⟨_, _, rfl, rfl, hk⟩
def wp_Ins_join (a1 : Int32) (a2 : Int32) (μ : Mu) (Q : Int32 → Mu → Prop) : Prop := wp_Ins_countOf a2 μ (fun x2 μ1 => Q (((a1 - (1 : Int32)) <<< (x2 &&& 31)) + a2) μ1)
set_option maxRecDepth 100000 in
set_option maxHeartbeats 4000000 in
theorem m_Ins_join {l : Launch} {a1 : Int32} {a2 : Int32}  {μ : Mu} {Q : Int32 → Mu → Prop} (hk : wp_Ins_join a1 a2 μ Q) : Mets (mE l) mt_Ins_join false (rmd 1) [.int a1, .int a2] (lay μ) (PI Q) := by
  unfold wp_Ins_join at hk
  refine mets_of (L := [some (.int a1), some (.int a2)]) (by decide) (Nat.le_of_ble_eq_true rfl) rfl ?_
  refine go_iload_n (pc := 0) (i := 0) d_Ins_join_0 rfl rfl ?_
  refine go_iconst (pc := 1) (v := 1) d_Ins_join_1 (by decide) ?_
  refine go_isub (pc := 2) d_Ins_join_2 ?_
  refine go_iload_n (pc := 3) (i := 1) d_Ins_join_3 rfl rfl ?_
  refine go_callS (pc := 4) (m_Ins_countOf  hk) cz_Ins_countOf sm_Ins_countOf (Or.inl lk_Ins_19) rfl rfl (Nat.le_of_ble_eq_true rfl) ⟨by decide, by decide⟩ rfl rfl d_Ins_join_4 (fun r M' hr => ?_)
  obtain ⟨x2, μ1, rfl, rfl, hk⟩ := hr
  try dsimp only [Option.toList, List.cons_append, List.nil_append]
  refine go_ishl (pc := 7) d_Ins_join_7 ?_
  refine go_iload_n (pc := 8) (i := 1) d_Ins_join_8 rfl rfl ?_
  refine go_iadd (pc := 9) d_Ins_join_9 ?_
  exact go_ret (pc := 10) (r := some (.int (((a1 - (1 : Int32)) <<< (x2 &&& 31)) + a2))) d_Ins_join_10 ⟨_, _, rfl, rfl, hk⟩
def wp_Ins_typeOfLocal (a1 : Int32) (μ : Mu) (Q : Int32 → Mu → Prop) : Prop := ((((2 : Int32) ≤ a1) → Q (3 : Int32) μ) ∧ ((¬ (2 : Int32) ≤ a1) → Q (2 : Int32) μ))
set_option maxRecDepth 100000 in
set_option maxHeartbeats 4000000 in
theorem m_Ins_typeOfLocal {l : Launch} {a1 : Int32}  {μ : Mu} {Q : Int32 → Mu → Prop} (hk : wp_Ins_typeOfLocal a1 μ Q) : Mets (mE l) mt_Ins_typeOfLocal false (rmd 0) [.int a1] (lay μ) (PI Q) := by
  unfold wp_Ins_typeOfLocal at hk
  refine mets_of (L := [some (.int a1)]) (by decide) (Nat.le_of_ble_eq_true rfl) rfl ?_
  refine go_iload_n (pc := 0) (i := 0) d_Ins_typeOfLocal_0 rfl rfl ?_
  refine go_iconst (pc := 1) (v := 2) d_Ins_typeOfLocal_1 (by decide) ?_
  refine go_icmp_ge (pc := 2) (tgt := 9) d_Ins_typeOfLocal_2 rfl (fun h2 => ?_) (fun h2 => ?_)
  · replace hk := hk.1 h2
    refine go_iconst (pc := 9) (v := 3) d_Ins_typeOfLocal_9 (by decide) ?_
    exact go_ret (pc := 10) (r := some (.int (3 : Int32))) d_Ins_typeOfLocal_10 ⟨_, _, rfl, rfl, hk⟩
  · replace hk := hk.2 h2
    refine go_iconst (pc := 5) (v := 2) d_Ins_typeOfLocal_5 (by decide) ?_
    refine go_goto (pc := 6) (tgt := 10) d_Ins_typeOfLocal_6 rfl ?_
    exact go_ret (pc := 10) (r := some (.int (2 : Int32))) d_Ins_typeOfLocal_10 ⟨_, _, rfl, rfl, hk⟩
def wp_Ins_puts (a1 : Int32) (a2 : Int32) (a3 : Int32) (μ : Mu) (Q : Int32 → Mu → Prop) : Prop := ((((Int32.toInt a1) = 7) → wp_Ins_typeOfLocal a2 μ (fun x2 μ1 => Q x2 μ1)) ∧ (((Int32.toInt a1) = 9) → (((¬ a3 = (2 : Int32)) → Q (7 : Int32) μ) ∧ ((a3 = (2 : Int32)) → Q (4 : Int32) μ))) ∧ (((Int32.toInt a1) = 12) → (((¬ a2 = 0) → Q (3 : Int32) μ) ∧ ((a2 = 0) → Q (2 : Int32) μ))) ∧ ((¬ (Int32.toInt a1) = 7 ∧ ¬ (Int32.toInt a1) = 9 ∧ ¬ (Int32.toInt a1) = 12) → (vp_in a1 25 ∧ Q (sta_v 1 (Int32.toNatClampNeg a1)) μ)))
set_option maxRecDepth 100000 in
set_option maxHeartbeats 4000000 in
theorem m_Ins_puts {l : Launch} {a1 : Int32} {a2 : Int32} {a3 : Int32}  {μ : Mu} {Q : Int32 → Mu → Prop} (hk : wp_Ins_puts a1 a2 a3 μ Q) : Mets (mE l) mt_Ins_puts false (rmd 1) [.int a1, .int a2, .int a3] (lay μ) (PI Q) := by
  unfold wp_Ins_puts at hk
  refine mets_of (L := [some (.int a1), some (.int a2), some (.int a3)]) (by decide) (Nat.le_of_ble_eq_true rfl) rfl ?_
  refine go_iload_n (pc := 0) (i := 0) d_Ins_puts_0 rfl rfl ?_
  by_cases hs0 : (Int32.toInt a1) = 7
  · replace hk := hk.1 hs0
    refine go_lookup (pc := 1) (tgt := 36) (off := 35) d_Ins_puts_1 (by decide) (by rw [hs0]; rfl) rfl ?_
    refine go_iload_n (pc := 36) (i := 1) d_Ins_puts_36 rfl rfl ?_
    refine go_callS (pc := 37) (m_Ins_typeOfLocal  hk) cz_Ins_typeOfLocal sm_Ins_typeOfLocal (Or.inl lk_Ins_30) rfl rfl (Nat.le_of_ble_eq_true rfl) ⟨by decide, by decide⟩ rfl rfl d_Ins_puts_37 (fun r M' hr => ?_)
    obtain ⟨x2, μ1, rfl, rfl, hk⟩ := hr
    try dsimp only [Option.toList, List.cons_append, List.nil_append]
    exact go_ret (pc := 40) (r := some (.int x2)) d_Ins_puts_40 ⟨_, _, rfl, rfl, hk⟩
  replace hk := hk.2
  by_cases hs1 : (Int32.toInt a1) = 9
  · replace hk := hk.1 hs1
    refine go_lookup (pc := 1) (tgt := 41) (off := 40) d_Ins_puts_1 (by decide) (by rw [hs1]; rfl) rfl ?_
    refine go_iload_n (pc := 41) (i := 2) d_Ins_puts_41 rfl rfl ?_
    refine go_iconst (pc := 42) (v := 2) d_Ins_puts_42 (by decide) ?_
    refine go_icmp_ne (pc := 43) (tgt := 50) d_Ins_puts_43 rfl (fun h43 => ?_) (fun h43 => ?_)
    · replace hk := hk.1 h43
      refine go_bipush (pc := 50) (v := 7) d_Ins_puts_50 (by decide) ?_
      exact go_ret (pc := 52) (r := some (.int (7 : Int32))) d_Ins_puts_52 ⟨_, _, rfl, rfl, hk⟩
    · replace hk := hk.2 h43
      refine go_iconst (pc := 46) (v := 4) d_Ins_puts_46 (by decide) ?_
      refine go_goto (pc := 47) (tgt := 52) d_Ins_puts_47 rfl ?_
      exact go_ret (pc := 52) (r := some (.int (4 : Int32))) d_Ins_puts_52 ⟨_, _, rfl, rfl, hk⟩
  replace hk := hk.2
  by_cases hs2 : (Int32.toInt a1) = 12
  · replace hk := hk.1 hs2
    refine go_lookup (pc := 1) (tgt := 53) (off := 52) d_Ins_puts_1 (by decide) (by rw [hs2]; rfl) rfl ?_
    refine go_iload_n (pc := 53) (i := 1) d_Ins_puts_53 rfl rfl ?_
    refine go_if_ne (pc := 54) (tgt := 61) d_Ins_puts_54 rfl (fun h54 => ?_) (fun h54 => ?_)
    · replace hk := hk.1 h54
      refine go_iconst (pc := 61) (v := 3) d_Ins_puts_61 (by decide) ?_
      exact go_ret (pc := 62) (r := some (.int (3 : Int32))) d_Ins_puts_62 ⟨_, _, rfl, rfl, hk⟩
    · replace hk := hk.2 h54
      refine go_iconst (pc := 57) (v := 2) d_Ins_puts_57 (by decide) ?_
      refine go_goto (pc := 58) (tgt := 62) d_Ins_puts_58 rfl ?_
      exact go_ret (pc := 62) (r := some (.int (2 : Int32))) d_Ins_puts_62 ⟨_, _, rfl, rfl, hk⟩
  replace hk := hk.2
  replace hk := hk ⟨hs0, hs1, hs2⟩
  refine go_lookup (pc := 1) (tgt := 63) (off := 62) d_Ins_puts_1 (by decide) (by simp [Op.lookupswitch.offset, Ne.symm hs0, Ne.symm hs1, Ne.symm hs2]) rfl ?_
  refine go_gets (pc := 63) (i := 1) (by decide) (Or.inl gs_Ins_36) d_Ins_puts_63 ?_
  refine go_iload_n (pc := 66) (i := 0) d_Ins_puts_66 rfl rfl ?_
  obtain ⟨hi3, hk⟩ := hk
  refine go_sld (pc := 67) (i := 1) (by decide) hi3 d_Ins_puts_67 ?_
  exact go_ret (pc := 68) (r := some (.int (sta_v 1 (Int32.toNatClampNeg a1)))) d_Ins_puts_68 ⟨_, _, rfl, rfl, hk⟩
def wp_Ins_takes (a1 : Int32) (a2 : Int32) (a3 : Int32) (μ : Mu) (Q : Int32 → Mu → Prop) : Prop := ((((Int32.toInt a1) < 8 ∨ 13 < (Int32.toInt a1)) → (vp_in a1 25 ∧ Q (sta_v 0 (Int32.toNatClampNeg a1)) μ)) ∧ (((Int32.toInt a1) = 8) → wp_Ins_typeOfLocal a2 μ (fun x3 μ2 => Q x3 μ2)) ∧ (((Int32.toInt a1) = 9) → Q a3 μ) ∧ (((Int32.toInt a1) = 10) → Q a3 μ) ∧ (((Int32.toInt a1) = 11) → (vp_in a1 25 ∧ Q (sta_v 0 (Int32.toNatClampNeg a1)) μ)) ∧ (((Int32.toInt a1) = 12) → (vp_in a1 25 ∧ Q (sta_v 0 (Int32.toNatClampNeg a1)) μ)) ∧ (((Int32.toInt a1) = 13) → (((¬ a2 = 0) → Q (7 : Int32) μ) ∧ ((a2 = 0) → Q (6 : Int32) μ))))
set_option maxRecDepth 100000 in
set_option maxHeartbeats 4000000 in
theorem m_Ins_takes {l : Launch} {a1 : Int32} {a2 : Int32} {a3 : Int32}  {μ : Mu} {Q : Int32 → Mu → Prop} (hk : wp_Ins_takes a1 a2 a3 μ Q) : Mets (mE l) mt_Ins_takes false (rmd 1) [.int a1, .int a2, .int a3] (lay μ) (PI Q) := by
  unfold wp_Ins_takes at hk
  refine mets_of (L := [some (.int a1), some (.int a2), some (.int a3)]) (by decide) (Nat.le_of_ble_eq_true rfl) rfl ?_
  refine go_iload_n (pc := 0) (i := 0) d_Ins_takes_0 rfl rfl ?_
  by_cases hsw : (Int32.toInt a1) < 8 ∨ 13 < (Int32.toInt a1)
  · replace hk := hk.1 hsw
    refine go_tableOut (pc := 1) (tgt := 59) d_Ins_takes_1 hsw rfl ?_
    refine go_gets (pc := 59) (i := 0) (by decide) (Or.inl gs_Ins_33) d_Ins_takes_59 ?_
    refine go_iload_n (pc := 62) (i := 0) d_Ins_takes_62 rfl rfl ?_
    obtain ⟨hi1, hk⟩ := hk
    refine go_sld (pc := 63) (i := 0) (by decide) hi1 d_Ins_takes_63 ?_
    exact go_ret (pc := 64) (r := some (.int (sta_v 0 (Int32.toNatClampNeg a1)))) d_Ins_takes_64 ⟨_, _, rfl, rfl, hk⟩
  replace hk := hk.2
  have hsx : (Int32.toInt a1) = 8 ∨ (Int32.toInt a1) = 9 ∨ (Int32.toInt a1) = 10 ∨ (Int32.toInt a1) = 11 ∨ (Int32.toInt a1) = 12 ∨ (Int32.toInt a1) = 13 := by omega
  rcases hsx with hsx | hsx | hsx | hsx | hsx | hsx
  · replace hk := hk.1 hsx
    refine go_tableIn (pc := 1) (tgt := 40) d_Ins_takes_1 (by omega) (by omega) (by rw [hsx]; rfl) rfl ?_
    refine go_iload_n (pc := 40) (i := 1) d_Ins_takes_40 rfl rfl ?_
    refine go_callS (pc := 41) (m_Ins_typeOfLocal  hk) cz_Ins_typeOfLocal sm_Ins_typeOfLocal (Or.inl lk_Ins_30) rfl rfl (Nat.le_of_ble_eq_true rfl) ⟨by decide, by decide⟩ rfl rfl d_Ins_takes_41 (fun r M' hr => ?_)
    obtain ⟨x3, μ2, rfl, rfl, hk⟩ := hr
    try dsimp only [Option.toList, List.cons_append, List.nil_append]
    exact go_ret (pc := 44) (r := some (.int x3)) d_Ins_takes_44 ⟨_, _, rfl, rfl, hk⟩
  · replace hk := hk.2.1 hsx
    refine go_tableIn (pc := 1) (tgt := 45) d_Ins_takes_1 (by omega) (by omega) (by rw [hsx]; rfl) rfl ?_
    refine go_iload_n (pc := 45) (i := 2) d_Ins_takes_45 rfl rfl ?_
    exact go_ret (pc := 46) (r := some (.int a3)) d_Ins_takes_46 ⟨_, _, rfl, rfl, hk⟩
  · replace hk := hk.2.2.1 hsx
    refine go_tableIn (pc := 1) (tgt := 45) d_Ins_takes_1 (by omega) (by omega) (by rw [hsx]; rfl) rfl ?_
    refine go_iload_n (pc := 45) (i := 2) d_Ins_takes_45 rfl rfl ?_
    exact go_ret (pc := 46) (r := some (.int a3)) d_Ins_takes_46 ⟨_, _, rfl, rfl, hk⟩
  · replace hk := hk.2.2.2.1 hsx
    refine go_tableIn (pc := 1) (tgt := 59) d_Ins_takes_1 (by omega) (by omega) (by rw [hsx]; rfl) rfl ?_
    refine go_gets (pc := 59) (i := 0) (by decide) (Or.inl gs_Ins_33) d_Ins_takes_59 ?_
    refine go_iload_n (pc := 62) (i := 0) d_Ins_takes_62 rfl rfl ?_
    obtain ⟨hi4, hk⟩ := hk
    refine go_sld (pc := 63) (i := 0) (by decide) hi4 d_Ins_takes_63 ?_
    exact go_ret (pc := 64) (r := some (.int (sta_v 0 (Int32.toNatClampNeg a1)))) d_Ins_takes_64 ⟨_, _, rfl, rfl, hk⟩
  · replace hk := hk.2.2.2.2.1 hsx
    refine go_tableIn (pc := 1) (tgt := 59) d_Ins_takes_1 (by omega) (by omega) (by rw [hsx]; rfl) rfl ?_
    refine go_gets (pc := 59) (i := 0) (by decide) (Or.inl gs_Ins_33) d_Ins_takes_59 ?_
    refine go_iload_n (pc := 62) (i := 0) d_Ins_takes_62 rfl rfl ?_
    obtain ⟨hi5, hk⟩ := hk
    refine go_sld (pc := 63) (i := 0) (by decide) hi5 d_Ins_takes_63 ?_
    exact go_ret (pc := 64) (r := some (.int (sta_v 0 (Int32.toNatClampNeg a1)))) d_Ins_takes_64 ⟨_, _, rfl, rfl, hk⟩
  · replace hk := hk.2.2.2.2.2 hsx
    refine go_tableIn (pc := 1) (tgt := 47) d_Ins_takes_1 (by omega) (by omega) (by rw [hsx]; rfl) rfl ?_
    refine go_iload_n (pc := 47) (i := 1) d_Ins_takes_47 rfl rfl ?_
    refine go_if_ne (pc := 48) (tgt := 56) d_Ins_takes_48 rfl (fun h48 => ?_) (fun h48 => ?_)
    · replace hk := hk.1 h48
      refine go_bipush (pc := 56) (v := 7) d_Ins_takes_56 (by decide) ?_
      exact go_ret (pc := 58) (r := some (.int (7 : Int32))) d_Ins_takes_58 ⟨_, _, rfl, rfl, hk⟩
    · replace hk := hk.2 h48
      refine go_bipush (pc := 51) (v := 6) d_Ins_takes_51 (by decide) ?_
      refine go_goto (pc := 53) (tgt := 58) d_Ins_takes_53 rfl ?_
      exact go_ret (pc := 58) (r := some (.int (6 : Int32))) d_Ins_takes_58 ⟨_, _, rfl, rfl, hk⟩
def wp_Ins_shapeAfter_j12 (j0 : Int32) (j1 : Int32) (j2 : Int32) (s0 : Int32) (μ : Mu)  (Q : Int32 → Mu → Prop) : Prop := wp_Ins_takes j0 j1 s0 μ (fun x2 μ1 => wp_Ins_countOf x2 μ1 (fun x4 μ3 => ((((j2 >>> (x4 &&& 31)) = 0) → Q (0 : Int32) μ3) ∧ ((¬ (j2 >>> (x4 &&& 31)) = 0) → wp_Ins_join (j2 >>> (x4 &&& 31)) x2 μ3 (fun x6 μ5 => (((x6 = j2) → wp_Ins_puts j0 j1 s0 μ5 (fun x8 μ7 => wp_Ins_join (j2 >>> (x4 &&& 31)) x8 μ7 (fun x10 μ9 => (((x10 ≤ (127 : Int32)) → Q x10 μ9) ∧ ((¬ x10 ≤ (127 : Int32)) → Q (0 : Int32) μ9))))) ∧ ((¬ x6 = j2) → Q (0 : Int32) μ5)))))))
set_option maxRecDepth 100000 in
set_option maxHeartbeats 4000000 in
theorem g_Ins_shapeAfter_j12 {l : Launch} {j0 : Int32} {j1 : Int32} {j2 : Int32} {s0 : Int32}   {Q : Int32 → Mu → Prop}  {μ : Mu} (hk : wp_Ins_shapeAfter_j12 j0 j1 j2 s0 μ  Q) : Go (mE l) mt_Ins_shapeAfter false (rmd 2) 0 0 12 [some (.int j0), some (.int j1), some (.int j2), none, none, none, none] [.int s0] (lay μ) (PI Q) := by
  unfold wp_Ins_shapeAfter_j12 at hk
  refine go_istore_n (pc := 12) (i := 3) (L' := [some (.int j0), some (.int j1), some (.int j2), some (.int s0), none, none, none]) d_Ins_shapeAfter_12 rfl (by decide) rfl ?_
  refine go_iload_n (pc := 13) (i := 0) d_Ins_shapeAfter_13 rfl rfl ?_
  refine go_iload_n (pc := 14) (i := 1) d_Ins_shapeAfter_14 rfl rfl ?_
  refine go_iload_n (pc := 15) (i := 3) d_Ins_shapeAfter_15 rfl rfl ?_
  refine go_callS (pc := 16) (m_Ins_takes  hk) cz_Ins_takes sm_Ins_takes (Or.inl lk_Ins_15) rfl rfl (Nat.le_of_ble_eq_true rfl) ⟨by decide, by decide⟩ rfl rfl d_Ins_shapeAfter_16 (fun r M' hr => ?_)
  obtain ⟨x2, μ1, rfl, rfl, hk⟩ := hr
  try dsimp only [Option.toList, List.cons_append, List.nil_append]
  refine go_istore (pc := 19) (L' := [some (.int j0), some (.int j1), some (.int j2), some (.int s0), some (.int x2), none, none]) d_Ins_shapeAfter_19 (by decide) rfl ?_
  refine go_iload_n (pc := 21) (i := 2) d_Ins_shapeAfter_21 rfl rfl ?_
  refine go_iload (pc := 22) d_Ins_shapeAfter_22 rfl ?_
  refine go_callS (pc := 24) (m_Ins_countOf  hk) cz_Ins_countOf sm_Ins_countOf (Or.inl lk_Ins_19) rfl rfl (Nat.le_of_ble_eq_true rfl) ⟨by decide, by decide⟩ rfl rfl d_Ins_shapeAfter_24 (fun r M' hr => ?_)
  obtain ⟨x4, μ3, rfl, rfl, hk⟩ := hr
  try dsimp only [Option.toList, List.cons_append, List.nil_append]
  refine go_ishr (pc := 27) d_Ins_shapeAfter_27 ?_
  refine go_istore (pc := 28) (L' := [some (.int j0), some (.int j1), some (.int j2), some (.int s0), some (.int x2), some (.int (j2 >>> (x4 &&& 31))), none]) d_Ins_shapeAfter_28 (by decide) rfl ?_
  refine go_iload (pc := 30) d_Ins_shapeAfter_30 rfl ?_
  refine go_if_eq (pc := 32) (tgt := 46) d_Ins_shapeAfter_32 rfl (fun h32 => ?_) (fun h32 => ?_)
  · replace hk := hk.1 h32
    refine go_iconst (pc := 46) (v := 0) d_Ins_shapeAfter_46 (by decide) ?_
    exact go_ret (pc := 47) (r := some (.int (0 : Int32))) d_Ins_shapeAfter_47 ⟨_, _, rfl, rfl, hk⟩
  · replace hk := hk.2 h32
    refine go_iload (pc := 35) d_Ins_shapeAfter_35 rfl ?_
    refine go_iload (pc := 37) d_Ins_shapeAfter_37 rfl ?_
    refine go_callS (pc := 39) (m_Ins_join  hk) cz_Ins_join sm_Ins_join (Or.inl lk_Ins_23) rfl rfl (Nat.le_of_ble_eq_true rfl) ⟨by decide, by decide⟩ rfl rfl d_Ins_shapeAfter_39 (fun r M' hr => ?_)
    obtain ⟨x6, μ5, rfl, rfl, hk⟩ := hr
    try dsimp only [Option.toList, List.cons_append, List.nil_append]
    refine go_iload_n (pc := 42) (i := 2) d_Ins_shapeAfter_42 rfl rfl ?_
    refine go_icmp_eq (pc := 43) (tgt := 48) d_Ins_shapeAfter_43 rfl (fun h43 => ?_) (fun h43 => ?_)
    · replace hk := hk.1 h43
      refine go_iload (pc := 48) d_Ins_shapeAfter_48 rfl ?_
      refine go_iload_n (pc := 50) (i := 0) d_Ins_shapeAfter_50 rfl rfl ?_
      refine go_iload_n (pc := 51) (i := 1) d_Ins_shapeAfter_51 rfl rfl ?_
      refine go_iload_n (pc := 52) (i := 3) d_Ins_shapeAfter_52 rfl rfl ?_
      refine go_callS (pc := 53) (m_Ins_puts  hk) cz_Ins_puts sm_Ins_puts (Or.inl lk_Ins_27) rfl rfl (Nat.le_of_ble_eq_true rfl) ⟨by decide, by decide⟩ rfl rfl d_Ins_shapeAfter_53 (fun r M' hr => ?_)
      obtain ⟨x8, μ7, rfl, rfl, hk⟩ := hr
      try dsimp only [Option.toList, List.cons_append, List.nil_append]
      refine go_callS (pc := 56) (m_Ins_join  hk) cz_Ins_join sm_Ins_join (Or.inl lk_Ins_23) rfl rfl (Nat.le_of_ble_eq_true rfl) ⟨by decide, by decide⟩ rfl rfl d_Ins_shapeAfter_56 (fun r M' hr => ?_)
      obtain ⟨x10, μ9, rfl, rfl, hk⟩ := hr
      try dsimp only [Option.toList, List.cons_append, List.nil_append]
      refine go_istore (pc := 59) (L' := [some (.int j0), some (.int j1), some (.int j2), some (.int s0), some (.int x2), some (.int (j2 >>> (x4 &&& 31))), some (.int x10)]) d_Ins_shapeAfter_59 (by decide) rfl ?_
      refine go_iload (pc := 61) d_Ins_shapeAfter_61 rfl ?_
      refine go_bipush (pc := 63) (v := 127) d_Ins_shapeAfter_63 (by decide) ?_
      refine go_icmp_le (pc := 65) (tgt := 72) d_Ins_shapeAfter_65 rfl (fun h65 => ?_) (fun h65 => ?_)
      · replace hk := hk.1 h65
        refine go_iload (pc := 72) d_Ins_shapeAfter_72 rfl ?_
        exact go_ret (pc := 74) (r := some (.int x10)) d_Ins_shapeAfter_74 ⟨_, _, rfl, rfl, hk⟩
      · replace hk := hk.2 h65
        refine go_iconst (pc := 68) (v := 0) d_Ins_shapeAfter_68 (by decide) ?_
        refine go_goto (pc := 69) (tgt := 74) d_Ins_shapeAfter_69 rfl ?_
        exact go_ret (pc := 74) (r := some (.int (0 : Int32))) d_Ins_shapeAfter_74 ⟨_, _, rfl, rfl, hk⟩
    · replace hk := hk.2 h43
      refine go_iconst (pc := 46) (v := 0) d_Ins_shapeAfter_46 (by decide) ?_
      exact go_ret (pc := 47) (r := some (.int (0 : Int32))) d_Ins_shapeAfter_47 ⟨_, _, rfl, rfl, hk⟩
def wp_Ins_shapeAfter (a1 : Int32) (a2 : Int32) (a3 : Int32) (μ : Mu) (Q : Int32 → Mu → Prop) : Prop := (((¬ (a3 &&& (1 : Int32)) = (1 : Int32)) → wp_Ins_shapeAfter_j12 a1 a2 a3 (2 : Int32) μ  Q) ∧ (((a3 &&& (1 : Int32)) = (1 : Int32)) → wp_Ins_shapeAfter_j12 a1 a2 a3 (3 : Int32) μ  Q))
set_option maxRecDepth 100000 in
set_option maxHeartbeats 4000000 in
theorem m_Ins_shapeAfter {l : Launch} {a1 : Int32} {a2 : Int32} {a3 : Int32}  {μ : Mu} {Q : Int32 → Mu → Prop} (hk : wp_Ins_shapeAfter a1 a2 a3 μ Q) : Mets (mE l) mt_Ins_shapeAfter false (rmd 2) [.int a1, .int a2, .int a3] (lay μ) (PI Q) := by
  unfold wp_Ins_shapeAfter at hk
  refine mets_of (L := [some (.int a1), some (.int a2), some (.int a3), none, none, none, none]) (by decide) (Nat.le_of_ble_eq_true rfl) rfl ?_
  refine go_iload_n (pc := 0) (i := 2) d_Ins_shapeAfter_0 rfl rfl ?_
  refine go_iconst (pc := 1) (v := 1) d_Ins_shapeAfter_1 (by decide) ?_
  refine go_iand (pc := 2) d_Ins_shapeAfter_2 ?_
  refine go_iconst (pc := 3) (v := 1) d_Ins_shapeAfter_3 (by decide) ?_
  refine go_icmp_ne (pc := 4) (tgt := 11) d_Ins_shapeAfter_4 rfl (fun h4 => ?_) (fun h4 => ?_)
  · replace hk := hk.1 h4
    refine go_iconst (pc := 11) (v := 2) d_Ins_shapeAfter_11 (by decide) ?_
    exact g_Ins_shapeAfter_j12   hk
  · replace hk := hk.2 h4
    refine go_iconst (pc := 7) (v := 3) d_Ins_shapeAfter_7 (by decide) ?_
    refine go_goto (pc := 8) (tgt := 12) d_Ins_shapeAfter_8 rfl ?_
    exact g_Ins_shapeAfter_j12   hk
def wp_Prog_has (k0 : Nat) (a1 : Int32) (μ : Mu) (Q : Int32 → Mu → Prop) : Prop := (((a1 < 0) → Q (0 : Int32) μ) ∧ ((¬ a1 < 0) → ((((μ.1 (3 + 5 * k0) 5) ≤ a1) → Q (0 : Int32) μ) ∧ ((¬ (μ.1 (3 + 5 * k0) 5) ≤ a1) → Q (1 : Int32) μ))))
set_option maxRecDepth 100000 in
set_option maxHeartbeats 4000000 in
theorem m_Prog_has {l : Launch} {k0 : Nat} {a1 : Int32} (hk0 : k0 < 4) {μ : Mu} {Q : Int32 → Mu → Prop} (hk : wp_Prog_has k0 a1 μ Q) : Mets (mE l) mt_Prog_has false (rmd 0) [.ref (3 + 5 * k0), .int a1] (lay μ) (PI Q) := by
  unfold wp_Prog_has at hk
  refine mets_of (L := [some (.ref (3 + 5 * k0)), some (.int a1)]) (by decide) (Nat.le_of_ble_eq_true rfl) rfl ?_
  refine go_iload_n (pc := 0) (i := 1) d_Prog_has_0 rfl rfl ?_
  refine go_if_lt (pc := 1) (tgt := 16) d_Prog_has_1 rfl (fun h1 => ?_) (fun h1 => ?_)
  · replace hk := hk.1 h1
    refine go_iconst (pc := 16) (v := 0) d_Prog_has_16 (by decide) ?_
    exact go_ret (pc := 17) (r := some (.int (0 : Int32))) ⟨nar_zv (by decide), d_Prog_has_17⟩ ⟨_, _, rfl, rfl, hk⟩
  · replace hk := hk.2 h1
    refine go_iload_n (pc := 4) (i := 1) d_Prog_has_4 rfl rfl ?_
    refine go_aload_n (pc := 5) (i := 0) d_Prog_has_5 rfl rfl ?_
    refine go_getI (pc := 6) (sh_prog hk0) rfl fl_Prog_28 d_Prog_has_6 ?_
    refine go_icmp_ge (pc := 9) (tgt := 16) d_Prog_has_9 rfl (fun h9 => ?_) (fun h9 => ?_)
    · replace hk := hk.1 h9
      refine go_iconst (pc := 16) (v := 0) d_Prog_has_16 (by decide) ?_
      exact go_ret (pc := 17) (r := some (.int (0 : Int32))) ⟨nar_zv (by decide), d_Prog_has_17⟩ ⟨_, _, rfl, rfl, hk⟩
    · replace hk := hk.2 h9
      refine go_iconst (pc := 12) (v := 1) d_Prog_has_12 (by decide) ?_
      refine go_goto (pc := 13) (tgt := 17) d_Prog_has_13 rfl ?_
      exact go_ret (pc := 17) (r := some (.int (1 : Int32))) ⟨nar_zv (by decide), d_Prog_has_17⟩ ⟨_, _, rfl, rfl, hk⟩
def wp_Prog_reach (k0 : Nat) (a1 : Int32) (a2 : Int32) (μ : Mu) (Q : Int32 → Mu → Prop) : Prop := wp_Prog_has k0 a1 μ (fun x2 μ1 => (((¬ x2 = 0) → (vp_in a1 24 ∧ (((¬ (μ1.2.1 (6 + 5 * k0) (Int32.toNatClampNeg a1)) = 0) → (vp_in a1 24 ∧ (((¬ (μ1.2.1 (6 + 5 * k0) (Int32.toNatClampNeg a1)) = a2) → Q (0 : Int32) μ1) ∧ (((μ1.2.1 (6 + 5 * k0) (Int32.toNatClampNeg a1)) = a2) → Q (1 : Int32) μ1)))) ∧ (((μ1.2.1 (6 + 5 * k0) (Int32.toNatClampNeg a1)) = 0) → (vp_in a1 24 ∧ ∀ μ6 : Mu, μ6 = setA μ1 (6 + 5 * k0) (Int32.toNatClampNeg a1) a2 → (vp_in (μ6.1 (3 + 5 * k0) 4) 24 ∧ ∀ μ8 : Mu, μ8 = setA μ6 (7 + 5 * k0) (Int32.toNatClampNeg (μ6.1 (3 + 5 * k0) 4)) a1 → ∀ μ9 : Mu, μ9 = setF μ8 (3 + 5 * k0) 4 ((μ8.1 (3 + 5 * k0) 4) + (1 : Int32)) → (vp_in a1 24 ∧ (((¬ (μ9.2.1 (6 + 5 * k0) (Int32.toNatClampNeg a1)) = a2) → Q (0 : Int32) μ9) ∧ (((μ9.2.1 (6 + 5 * k0) (Int32.toNatClampNeg a1)) = a2) → Q (1 : Int32) μ9))))))))) ∧ ((x2 = 0) → Q (0 : Int32) μ1)))
set_option maxRecDepth 100000 in
set_option maxHeartbeats 4000000 in
theorem m_Prog_reach {l : Launch} {k0 : Nat} {a1 : Int32} {a2 : Int32} (hk0 : k0 < 4) {μ : Mu} {Q : Int32 → Mu → Prop} (hk : wp_Prog_reach k0 a1 a2 μ Q) : Mets (mE l) mt_Prog_reach false (rmd 1) [.ref (3 + 5 * k0), .int a1, .int a2] (lay μ) (PI Q) := by
  unfold wp_Prog_reach at hk
  refine mets_of (L := [some (.ref (3 + 5 * k0)), some (.int a1), some (.int a2)]) (by decide) (Nat.le_of_ble_eq_true rfl) rfl ?_
  refine go_aload_n (pc := 0) (i := 0) d_Prog_reach_0 rfl rfl ?_
  refine go_iload_n (pc := 1) (i := 1) d_Prog_reach_1 rfl rfl ?_
  refine go_callV (pc := 2) (m_Prog_has hk0 hk) cz_Prog_has cv_Prog_has (Or.inl lk_Prog_39) (lay_at (sh_prog hk0)) rfl rfl rfl (Nat.le_of_ble_eq_true rfl) ⟨by decide, by decide⟩ rfl rfl d_Prog_reach_2 (fun r M' hr => ?_)
  obtain ⟨x2, μ1, rfl, rfl, hk⟩ := hr
  try dsimp only [Option.toList, List.cons_append, List.nil_append]
  refine go_if_ne (pc := 5) (tgt := 10) d_Prog_reach_5 rfl (fun h5 => ?_) (fun h5 => ?_)
  · replace hk := hk.1 h5
    refine go_aload_n (pc := 10) (i := 0) d_Prog_reach_10 rfl rfl ?_
    refine go_getR (pc := 11) (r := 6 + 5 * k0) (sh_prog hk0) rfl fl_Prog_18 d_Prog_reach_11 ?_
    refine go_iload_n (pc := 14) (i := 1) d_Prog_reach_14 rfl rfl ?_
    obtain ⟨hi3, hk⟩ := hk
    refine go_aldI (pc := 15) (sh_pshapes hk0) hi3 d_Prog_reach_15 ?_
    refine go_if_ne (pc := 16) (tgt := 46) d_Prog_reach_16 rfl (fun h16 => ?_) (fun h16 => ?_)
    · replace hk := hk.1 h16
      refine go_aload_n (pc := 46) (i := 0) d_Prog_reach_46 rfl rfl ?_
      refine go_getR (pc := 47) (r := 6 + 5 * k0) (sh_prog hk0) rfl fl_Prog_18 d_Prog_reach_47 ?_
      refine go_iload_n (pc := 50) (i := 1) d_Prog_reach_50 rfl rfl ?_
      obtain ⟨hi4, hk⟩ := hk
      refine go_aldI (pc := 51) (sh_pshapes hk0) hi4 d_Prog_reach_51 ?_
      refine go_iload_n (pc := 52) (i := 2) d_Prog_reach_52 rfl rfl ?_
      refine go_icmp_ne (pc := 53) (tgt := 60) d_Prog_reach_53 rfl (fun h53 => ?_) (fun h53 => ?_)
      · replace hk := hk.1 h53
        refine go_iconst (pc := 60) (v := 0) d_Prog_reach_60 (by decide) ?_
        exact go_ret (pc := 61) (r := some (.int (0 : Int32))) ⟨nar_zv (by decide), d_Prog_reach_61⟩ ⟨_, _, rfl, rfl, hk⟩
      · replace hk := hk.2 h53
        refine go_iconst (pc := 56) (v := 1) d_Prog_reach_56 (by decide) ?_
        refine go_goto (pc := 57) (tgt := 61) d_Prog_reach_57 rfl ?_
        exact go_ret (pc := 61) (r := some (.int (1 : Int32))) ⟨nar_zv (by decide), d_Prog_reach_61⟩ ⟨_, _, rfl, rfl, hk⟩
    · replace hk := hk.2 h16
      refine go_aload_n (pc := 19) (i := 0) d_Prog_reach_19 rfl rfl ?_
      refine go_getR (pc := 20) (r := 6 + 5 * k0) (sh_prog hk0) rfl fl_Prog_18 d_Prog_reach_20 ?_
      refine go_iload_n (pc := 23) (i := 1) d_Prog_reach_23 rfl rfl ?_
      refine go_iload_n (pc := 24) (i := 2) d_Prog_reach_24 rfl rfl ?_
      obtain ⟨hi5, hk⟩ := hk
      refine go_astIn (pc := 25) (sh_pshapes hk0) hi5 d_Prog_reach_25 (fun μ6 e6 => ?_)
      replace hk := hk μ6 e6
      refine go_aload_n (pc := 26) (i := 0) d_Prog_reach_26 rfl rfl ?_
      refine go_getR (pc := 27) (r := 7 + 5 * k0) (sh_prog hk0) rfl fl_Prog_21 d_Prog_reach_27 ?_
      refine go_aload_n (pc := 30) (i := 0) d_Prog_reach_30 rfl rfl ?_
      refine go_getI (pc := 31) (sh_prog hk0) rfl fl_Prog_24 d_Prog_reach_31 ?_
      refine go_iload_n (pc := 34) (i := 1) d_Prog_reach_34 rfl rfl ?_
      obtain ⟨hi7, hk⟩ := hk
      refine go_astIn (pc := 35) (sh_preached hk0) hi7 d_Prog_reach_35 (fun μ8 e8 => ?_)
      replace hk := hk μ8 e8
      refine go_aload_n (pc := 36) (i := 0) d_Prog_reach_36 rfl rfl ?_
      refine go_dup (pc := 37) d_Prog_reach_37 rfl ?_
      refine go_getI (pc := 38) (sh_prog hk0) rfl fl_Prog_24 d_Prog_reach_38 ?_
      refine go_iconst (pc := 41) (v := 1) d_Prog_reach_41 (by decide) ?_
      refine go_iadd (pc := 42) d_Prog_reach_42 ?_
      refine go_putIn (pc := 43) (sh_prog hk0) rfl (fp_Prog_24 rfl) d_Prog_reach_43 (fun μ9 e9 => ?_)
      replace hk := hk μ9 e9
      refine go_aload_n (pc := 46) (i := 0) d_Prog_reach_46 rfl rfl ?_
      refine go_getR (pc := 47) (r := 6 + 5 * k0) (sh_prog hk0) rfl fl_Prog_18 d_Prog_reach_47 ?_
      refine go_iload_n (pc := 50) (i := 1) d_Prog_reach_50 rfl rfl ?_
      obtain ⟨hi10, hk⟩ := hk
      refine go_aldI (pc := 51) (sh_pshapes hk0) hi10 d_Prog_reach_51 ?_
      refine go_iload_n (pc := 52) (i := 2) d_Prog_reach_52 rfl rfl ?_
      refine go_icmp_ne (pc := 53) (tgt := 60) d_Prog_reach_53 rfl (fun h53 => ?_) (fun h53 => ?_)
      · replace hk := hk.1 h53
        refine go_iconst (pc := 60) (v := 0) d_Prog_reach_60 (by decide) ?_
        exact go_ret (pc := 61) (r := some (.int (0 : Int32))) ⟨nar_zv (by decide), d_Prog_reach_61⟩ ⟨_, _, rfl, rfl, hk⟩
      · replace hk := hk.2 h53
        refine go_iconst (pc := 56) (v := 1) d_Prog_reach_56 (by decide) ?_
        refine go_goto (pc := 57) (tgt := 61) d_Prog_reach_57 rfl ?_
        exact go_ret (pc := 61) (r := some (.int (1 : Int32))) ⟨nar_zv (by decide), d_Prog_reach_61⟩ ⟨_, _, rfl, rfl, hk⟩
  · replace hk := hk.2 h5
    refine go_iconst (pc := 8) (v := 0) d_Prog_reach_8 (by decide) ?_
    exact go_ret (pc := 9) (r := some (.int (0 : Int32))) ⟨nar_zv (by decide), d_Prog_reach_9⟩ ⟨_, _, rfl, rfl, hk⟩
def wp_Prog_goOnFrom (k0 : Nat) (a1 : Int32) (μ : Mu) (Q : Int32 → Mu → Prop) : Prop := (vp_in a1 24 ∧ (vp_in a1 24 ∧ (vp_in a1 24 ∧ wp_Ins_shapeAfter (μ.2.1 (4 + 5 * k0) (Int32.toNatClampNeg a1)) (μ.2.1 (5 + 5 * k0) (Int32.toNatClampNeg a1)) (μ.2.1 (6 + 5 * k0) (Int32.toNatClampNeg a1)) μ (fun x5 μ4 => (((¬ x5 = 0) → ((((Int32.toInt (μ.2.1 (4 + 5 * k0) (Int32.toNatClampNeg a1))) = 0) → Q (1 : Int32) μ4) ∧ (((Int32.toInt (μ.2.1 (4 + 5 * k0) (Int32.toNatClampNeg a1))) = 17) → wp_Prog_reach k0 (μ.2.1 (5 + 5 * k0) (Int32.toNatClampNeg a1)) x5 μ4 (fun x7 μ6 => ((x7 = 0 ∨ x7 = 1) ∧ Q x7 μ6))) ∧ (((Int32.toInt (μ.2.1 (4 + 5 * k0) (Int32.toNatClampNeg a1))) = 18) → wp_Prog_reach k0 (μ.2.1 (5 + 5 * k0) (Int32.toNatClampNeg a1)) x5 μ4 (fun x10 μ9 => (((x10 = 0) → Q (0 : Int32) μ9) ∧ ((¬ x10 = 0) → wp_Prog_reach k0 (a1 + (1 : Int32)) x5 μ9 (fun x12 μ11 => (((x12 = 0) → Q (0 : Int32) μ11) ∧ ((¬ x12 = 0) → Q (1 : Int32) μ11))))))) ∧ ((¬ (Int32.toInt (μ.2.1 (4 + 5 * k0) (Int32.toNatClampNeg a1))) = 0 ∧ ¬ (Int32.toInt (μ.2.1 (4 + 5 * k0) (Int32.toNatClampNeg a1))) = 17 ∧ ¬ (Int32.toInt (μ.2.1 (4 + 5 * k0) (Int32.toNatClampNeg a1))) = 18) → wp_Prog_reach k0 (a1 + (1 : Int32)) x5 μ4 (fun x14 μ13 => ((x14 = 0 ∨ x14 = 1) ∧ Q x14 μ13))))) ∧ ((x5 = 0) → Q (0 : Int32) μ4))))))
set_option maxRecDepth 100000 in
set_option maxHeartbeats 4000000 in
theorem m_Prog_goOnFrom {l : Launch} {k0 : Nat} {a1 : Int32} (hk0 : k0 < 4) {μ : Mu} {Q : Int32 → Mu → Prop} (hk : wp_Prog_goOnFrom k0 a1 μ Q) : Mets (mE l) mt_Prog_goOnFrom false (rmd 3) [.ref (3 + 5 * k0), .int a1] (lay μ) (PI Q) := by
  unfold wp_Prog_goOnFrom at hk
  refine mets_of (L := [some (.ref (3 + 5 * k0)), some (.int a1), none, none, none]) (by decide) (Nat.le_of_ble_eq_true rfl) rfl ?_
  refine go_aload_n (pc := 0) (i := 0) d_Prog_goOnFrom_0 rfl rfl ?_
  refine go_getR (pc := 1) (r := 4 + 5 * k0) (sh_prog hk0) rfl fl_Prog_9 d_Prog_goOnFrom_1 ?_
  refine go_iload_n (pc := 4) (i := 1) d_Prog_goOnFrom_4 rfl rfl ?_
  obtain ⟨hi1, hk⟩ := hk
  refine go_aldI (pc := 5) (sh_pops hk0) hi1 d_Prog_goOnFrom_5 ?_
  refine go_istore_n (pc := 6) (i := 2) (L' := [some (.ref (3 + 5 * k0)), some (.int a1), some (.int (μ.2.1 (4 + 5 * k0) (Int32.toNatClampNeg a1))), none, none]) d_Prog_goOnFrom_6 rfl (by decide) rfl ?_
  refine go_aload_n (pc := 7) (i := 0) d_Prog_goOnFrom_7 rfl rfl ?_
  refine go_getR (pc := 8) (r := 5 + 5 * k0) (sh_prog hk0) rfl fl_Prog_15 d_Prog_goOnFrom_8 ?_
  refine go_iload_n (pc := 11) (i := 1) d_Prog_goOnFrom_11 rfl rfl ?_
  obtain ⟨hi2, hk⟩ := hk
  refine go_aldI (pc := 12) (sh_pargs hk0) hi2 d_Prog_goOnFrom_12 ?_
  refine go_istore_n (pc := 13) (i := 3) (L' := [some (.ref (3 + 5 * k0)), some (.int a1), some (.int (μ.2.1 (4 + 5 * k0) (Int32.toNatClampNeg a1))), some (.int (μ.2.1 (5 + 5 * k0) (Int32.toNatClampNeg a1))), none]) d_Prog_goOnFrom_13 rfl (by decide) rfl ?_
  refine go_iload_n (pc := 14) (i := 2) d_Prog_goOnFrom_14 rfl rfl ?_
  refine go_iload_n (pc := 15) (i := 3) d_Prog_goOnFrom_15 rfl rfl ?_
  refine go_aload_n (pc := 16) (i := 0) d_Prog_goOnFrom_16 rfl rfl ?_
  refine go_getR (pc := 17) (r := 6 + 5 * k0) (sh_prog hk0) rfl fl_Prog_18 d_Prog_goOnFrom_17 ?_
  refine go_iload_n (pc := 20) (i := 1) d_Prog_goOnFrom_20 rfl rfl ?_
  obtain ⟨hi3, hk⟩ := hk
  refine go_aldI (pc := 21) (sh_pshapes hk0) hi3 d_Prog_goOnFrom_21 ?_
  refine go_callS (pc := 22) (m_Ins_shapeAfter  hk) cz_Ins_shapeAfter sm_Ins_shapeAfter (Or.inl lk_Prog_58) rfl rfl (Nat.le_of_ble_eq_true rfl) ⟨by decide, by decide⟩ rfl rfl d_Prog_goOnFrom_22 (fun r M' hr => ?_)
  obtain ⟨x5, μ4, rfl, rfl, hk⟩ := hr
  try dsimp only [Option.toList, List.cons_append, List.nil_append]
  refine go_istore (pc := 25) (L' := [some (.ref (3 + 5 * k0)), some (.int a1), some (.int (μ.2.1 (4 + 5 * k0) (Int32.toNatClampNeg a1))), some (.int (μ.2.1 (5 + 5 * k0) (Int32.toNatClampNeg a1))), some (.int x5)]) d_Prog_goOnFrom_25 (by decide) rfl ?_
  refine go_iload (pc := 27) d_Prog_goOnFrom_27 rfl ?_
  refine go_if_ne (pc := 29) (tgt := 34) d_Prog_goOnFrom_29 rfl (fun h29 => ?_) (fun h29 => ?_)
  · replace hk := hk.1 h29
    refine go_iload_n (pc := 34) (i := 2) d_Prog_goOnFrom_34 rfl rfl ?_
    by_cases hs0 : (Int32.toInt (μ.2.1 (4 + 5 * k0) (Int32.toNatClampNeg a1))) = 0
    · replace hk := hk.1 hs0
      refine go_lookup (pc := 35) (tgt := 68) (off := 33) d_Prog_goOnFrom_35 (by decide) (by rw [hs0]; rfl) rfl ?_
      refine go_iconst (pc := 68) (v := 1) d_Prog_goOnFrom_68 (by decide) ?_
      exact go_ret (pc := 69) (r := some (.int (1 : Int32))) ⟨nar_zv (by decide), d_Prog_goOnFrom_69⟩ ⟨_, _, rfl, rfl, hk⟩
    replace hk := hk.2
    by_cases hs1 : (Int32.toInt (μ.2.1 (4 + 5 * k0) (Int32.toNatClampNeg a1))) = 17
    · replace hk := hk.1 hs1
      refine go_lookup (pc := 35) (tgt := 70) (off := 35) d_Prog_goOnFrom_35 (by decide) (by rw [hs1]; rfl) rfl ?_
      refine go_aload_n (pc := 70) (i := 0) d_Prog_goOnFrom_70 rfl rfl ?_
      refine go_iload_n (pc := 71) (i := 3) d_Prog_goOnFrom_71 rfl rfl ?_
      refine go_iload (pc := 72) d_Prog_goOnFrom_72 rfl ?_
      refine go_callV (pc := 74) (m_Prog_reach hk0 hk) cz_Prog_reach cv_Prog_reach (Or.inl lk_Prog_51) (lay_at (sh_prog hk0)) rfl rfl rfl (Nat.le_of_ble_eq_true rfl) ⟨by decide, by decide⟩ rfl rfl d_Prog_goOnFrom_74 (fun r M' hr => ?_)
      obtain ⟨x7, μ6, rfl, rfl, hk⟩ := hr
      try dsimp only [Option.toList, List.cons_append, List.nil_append]
      obtain ⟨hb8, hk⟩ := hk
      exact go_ret (pc := 77) (r := some (.int x7)) ⟨nar_zv hb8, d_Prog_goOnFrom_77⟩ ⟨_, _, rfl, rfl, hk⟩
    replace hk := hk.2
    by_cases hs2 : (Int32.toInt (μ.2.1 (4 + 5 * k0) (Int32.toNatClampNeg a1))) = 18
    · replace hk := hk.1 hs2
      refine go_lookup (pc := 35) (tgt := 78) (off := 43) d_Prog_goOnFrom_35 (by decide) (by rw [hs2]; rfl) rfl ?_
      refine go_aload_n (pc := 78) (i := 0) d_Prog_goOnFrom_78 rfl rfl ?_
      refine go_iload_n (pc := 79) (i := 3) d_Prog_goOnFrom_79 rfl rfl ?_
      refine go_iload (pc := 80) d_Prog_goOnFrom_80 rfl ?_
      refine go_callV (pc := 82) (m_Prog_reach hk0 hk) cz_Prog_reach cv_Prog_reach (Or.inl lk_Prog_51) (lay_at (sh_prog hk0)) rfl rfl rfl (Nat.le_of_ble_eq_true rfl) ⟨by decide, by decide⟩ rfl rfl d_Prog_goOnFrom_82 (fun r M' hr => ?_)
      obtain ⟨x10, μ9, rfl, rfl, hk⟩ := hr
      try dsimp only [Option.toList, List.cons_append, List.nil_append]
      refine go_if_eq (pc := 85) (tgt := 104) d_Prog_goOnFrom_85 rfl (fun h85 => ?_) (fun h85 => ?_)
      · replace hk := hk.1 h85
        refine go_iconst (pc := 104) (v := 0) d_Prog_goOnFrom_104 (by decide) ?_
        exact go_ret (pc := 105) (r := some (.int (0 : Int32))) ⟨nar_zv (by decide), d_Prog_goOnFrom_105⟩ ⟨_, _, rfl, rfl, hk⟩
      · replace hk := hk.2 h85
        refine go_aload_n (pc := 88) (i := 0) d_Prog_goOnFrom_88 rfl rfl ?_
        refine go_iload_n (pc := 89) (i := 1) d_Prog_goOnFrom_89 rfl rfl ?_
        refine go_iconst (pc := 90) (v := 1) d_Prog_goOnFrom_90 (by decide) ?_
        refine go_iadd (pc := 91) d_Prog_goOnFrom_91 ?_
        refine go_iload (pc := 92) d_Prog_goOnFrom_92 rfl ?_
        refine go_callV (pc := 94) (m_Prog_reach hk0 hk) cz_Prog_reach cv_Prog_reach (Or.inl lk_Prog_51) (lay_at (sh_prog hk0)) rfl rfl rfl (Nat.le_of_ble_eq_true rfl) ⟨by decide, by decide⟩ rfl rfl d_Prog_goOnFrom_94 (fun r M' hr => ?_)
        obtain ⟨x12, μ11, rfl, rfl, hk⟩ := hr
        try dsimp only [Option.toList, List.cons_append, List.nil_append]
        refine go_if_eq (pc := 97) (tgt := 104) d_Prog_goOnFrom_97 rfl (fun h97 => ?_) (fun h97 => ?_)
        · replace hk := hk.1 h97
          refine go_iconst (pc := 104) (v := 0) d_Prog_goOnFrom_104 (by decide) ?_
          exact go_ret (pc := 105) (r := some (.int (0 : Int32))) ⟨nar_zv (by decide), d_Prog_goOnFrom_105⟩ ⟨_, _, rfl, rfl, hk⟩
        · replace hk := hk.2 h97
          refine go_iconst (pc := 100) (v := 1) d_Prog_goOnFrom_100 (by decide) ?_
          refine go_goto (pc := 101) (tgt := 105) d_Prog_goOnFrom_101 rfl ?_
          exact go_ret (pc := 105) (r := some (.int (1 : Int32))) ⟨nar_zv (by decide), d_Prog_goOnFrom_105⟩ ⟨_, _, rfl, rfl, hk⟩
    replace hk := hk.2
    replace hk := hk ⟨hs0, hs1, hs2⟩
    refine go_lookup (pc := 35) (tgt := 106) (off := 71) d_Prog_goOnFrom_35 (by decide) (by simp [Op.lookupswitch.offset, Ne.symm hs0, Ne.symm hs1, Ne.symm hs2]) rfl ?_
    refine go_aload_n (pc := 106) (i := 0) d_Prog_goOnFrom_106 rfl rfl ?_
    refine go_iload_n (pc := 107) (i := 1) d_Prog_goOnFrom_107 rfl rfl ?_
    refine go_iconst (pc := 108) (v := 1) d_Prog_goOnFrom_108 (by decide) ?_
    refine go_iadd (pc := 109) d_Prog_goOnFrom_109 ?_
    refine go_iload (pc := 110) d_Prog_goOnFrom_110 rfl ?_
    refine go_callV (pc := 112) (m_Prog_reach hk0 hk) cz_Prog_reach cv_Prog_reach (Or.inl lk_Prog_51) (lay_at (sh_prog hk0)) rfl rfl rfl (Nat.le_of_ble_eq_true rfl) ⟨by decide, by decide⟩ rfl rfl d_Prog_goOnFrom_112 (fun r M' hr => ?_)
    obtain ⟨x14, μ13, rfl, rfl, hk⟩ := hr
    try dsimp only [Option.toList, List.cons_append, List.nil_append]
    obtain ⟨hb15, hk⟩ := hk
    exact go_ret (pc := 115) (r := some (.int x14)) ⟨nar_zv hb15, d_Prog_goOnFrom_115⟩ ⟨_, _, rfl, rfl, hk⟩
  · replace hk := hk.2 h29
    refine go_iconst (pc := 32) (v := 0) d_Prog_goOnFrom_32 (by decide) ?_
    exact go_ret (pc := 33) (r := some (.int (0 : Int32))) ⟨nar_zv (by decide), d_Prog_goOnFrom_33⟩ ⟨_, _, rfl, rfl, hk⟩
def wp_JA_fill_5 (u0 : Nat) (u0n : Nat) (w1 : Int32) (w3 : Int32) (K0 : Int32 → Mu → Prop) (Q : Mu → Prop) : Nat → Int32 → Mu → Prop
  | 0, _, _ => False
  | n5 + 1, v2, μ => (((w3 ≤ v2) → K0 v2 μ) ∧ ((¬ w3 ≤ v2) → (vp_in v2 u0n ∧ ∀ μ2 : Mu, μ2 = setA μ u0 (Int32.toNatClampNeg v2) w1 → wp_JA_fill_5 u0 u0n w1 w3 K0 Q n5 (v2 + 1) μ2)))
set_option maxRecDepth 100000 in
set_option maxHeartbeats 4000000 in
theorem g_JA_fill_5 {l : Launch} {u0 : Nat} {u0n : Nat} {w1 : Int32} {w3 : Int32} (hu0 : shapes[u0]? = some (.inl (0, u0n, []))) {K0 : Int32 → Mu → Prop} {Q : Mu → Prop} (hK0 : ∀ (v2 : Int32) (μ : Mu), K0 v2 μ → Go (mE l) mt_JA_fill false (rmd 0) 0 0 20 [some (.ref u0), some (.int w1), some (.int v2), some (.int w3)] [] (lay μ) (PV Q)) : ∀ (n : Nat) (v2 : Int32) (μ : Mu), wp_JA_fill_5 u0 u0n w1 w3 K0 Q n v2 μ → Go (mE l) mt_JA_fill false (rmd 0) 0 0 5 [some (.ref u0), some (.int w1), some (.int v2), some (.int w3)] [] (lay μ) (PV Q) := by
  intro n
  induction n with
  | zero => intro v2 μ hk; exact hk.elim
  | succ n ih =>
    intro v2 μ hk
    unfold wp_JA_fill_5 at hk
    refine go_iload_n (pc := 5) (i := 2) d_JA_fill_5 rfl rfl ?_
    refine go_iload_n (pc := 6) (i := 3) d_JA_fill_6 rfl rfl ?_
    refine go_icmp_ge (pc := 7) (tgt := 20) d_JA_fill_7 rfl (fun h7 => ?_) (fun h7 => ?_)
    · replace hk := hk.1 h7
      exact hK0 _ _ hk
    · replace hk := hk.2 h7
      refine go_aload_n (pc := 10) (i := 0) d_JA_fill_10 rfl rfl ?_
      refine go_iload_n (pc := 11) (i := 2) d_JA_fill_11 rfl rfl ?_
      refine go_iload_n (pc := 12) (i := 1) d_JA_fill_12 rfl rfl ?_
      obtain ⟨hi1, hk⟩ := hk
      refine go_astIn (pc := 13) hu0 hi1 d_JA_fill_13 (fun μ2 e2 => ?_)
      replace hk := hk μ2 e2
      refine go_iinc (pc := 14) (v := (v2 + 1)) (L' := [some (.ref u0), some (.int w1), some (.int (v2 + 1)), some (.int w3)]) d_JA_fill_14 rfl rfl (by decide) rfl ?_
      refine go_goto (pc := 17) (tgt := 5) d_JA_fill_17 rfl ?_
      exact ih _ _ hk
def wp_JA_fill (k1 : Nat) (k1n : Nat) (a2 : Int32) (μ : Mu) (Q : Mu → Prop) : Prop := (∃ n5, wp_JA_fill_5 k1 k1n a2 (Int32.ofNat k1n) (fun v3 μ4 => Q μ4) Q n5 (0 : Int32) μ)
set_option maxRecDepth 100000 in
set_option maxHeartbeats 4000000 in
theorem m_JA_fill {l : Launch} {k1 : Nat} {k1n : Nat} {a2 : Int32} (hk1 : shapes[k1]? = some (.inl (0, k1n, []))) {μ : Mu} {Q : Mu → Prop} (hk : wp_JA_fill k1 k1n a2 μ Q) : Mets (mE l) mt_JA_fill false (rmd 0) [.ref k1, .int a2] (lay μ) (PV Q) := by
  unfold wp_JA_fill at hk
  refine mets_of (L := [some (.ref k1), some (.int a2), none, none]) (by decide) (Nat.le_of_ble_eq_true rfl) rfl ?_
  refine go_iconst (pc := 0) (v := 0) d_JA_fill_0 (by decide) ?_
  refine go_istore_n (pc := 1) (i := 2) (L' := [some (.ref k1), some (.int a2), some (.int (0 : Int32)), none]) d_JA_fill_1 rfl (by decide) rfl ?_
  refine go_aload_n (pc := 2) (i := 0) d_JA_fill_2 rfl rfl ?_
  refine go_lenA (pc := 3) (v := (Int32.ofNat k1n)) hk1 rfl d_JA_fill_3 ?_
  refine go_istore_n (pc := 4) (i := 3) (L' := [some (.ref k1), some (.int a2), some (.int (0 : Int32)), some (.int (Int32.ofNat k1n))]) d_JA_fill_4 rfl (by decide) rfl ?_
  obtain ⟨n, hk⟩ := hk
  refine g_JA_fill_5 hk1 (fun v3 μ4 hk => ?_) n _ _ hk
  · try dsimp only at hk
    exact go_ret (pc := 20) (r := none) d_JA_fill_20 ⟨_, rfl, rfl, hk⟩
def wp_Prog_isSound_22 (u0 : Nat) (K0 : Int32 → Int32 → Mu → Prop) (Q : Int32 → Mu → Prop) : Nat → Int32 → Int32 → Mu → Prop
  | 0, _, _, _ => False
  | n22 + 1, v1, v2, μ => (((v1 = 0) → K0 v1 v2 μ) ∧ ((¬ v1 = 0) → ((((μ.1 (3 + 5 * u0) 4) ≤ v2) → K0 v1 v2 μ) ∧ ((¬ (μ.1 (3 + 5 * u0) 4) ≤ v2) → ((((24 : Int32) ≤ v2) → K0 v1 v2 μ) ∧ ((¬ (24 : Int32) ≤ v2) → (vp_in v2 24 ∧ wp_Prog_goOnFrom u0 (μ.2.1 (7 + 5 * u0) (Int32.toNatClampNeg v2)) μ (fun x7 μ6 => wp_Prog_isSound_22 u0 K0 Q n22 x7 (v2 + 1) μ6))))))))
set_option maxRecDepth 100000 in
set_option maxHeartbeats 4000000 in
theorem g_Prog_isSound_22 {l : Launch} {u0 : Nat} (hu0 : u0 < 4) {K0 : Int32 → Int32 → Mu → Prop} {Q : Int32 → Mu → Prop} (hK0 : ∀ (v1 : Int32) (v2 : Int32) (μ : Mu), K0 v1 v2 μ → Go (mE l) mt_Prog_isSound false (rmd 4) 0 0 57 [some (.ref (3 + 5 * u0)), some (.int v1), some (.int v2)] [] (lay μ) (PI Q)) : ∀ (n : Nat) (v1 : Int32) (v2 : Int32) (μ : Mu), wp_Prog_isSound_22 u0 K0 Q n v1 v2 μ → Go (mE l) mt_Prog_isSound false (rmd 4) 0 0 22 [some (.ref (3 + 5 * u0)), some (.int v1), some (.int v2)] [] (lay μ) (PI Q) := by
  intro n
  induction n with
  | zero => intro v1 v2 μ hk; exact hk.elim
  | succ n ih =>
    intro v1 v2 μ hk
    unfold wp_Prog_isSound_22 at hk
    refine go_iload_n (pc := 22) (i := 1) d_Prog_isSound_22 rfl rfl ?_
    refine go_if_eq (pc := 23) (tgt := 57) d_Prog_isSound_23 rfl (fun h23 => ?_) (fun h23 => ?_)
    · replace hk := hk.1 h23
      exact hK0 _ _ _ hk
    · replace hk := hk.2 h23
      refine go_iload_n (pc := 26) (i := 2) d_Prog_isSound_26 rfl rfl ?_
      refine go_aload_n (pc := 27) (i := 0) d_Prog_isSound_27 rfl rfl ?_
      refine go_getI (pc := 28) (sh_prog hu0) rfl fl_Prog_24 d_Prog_isSound_28 ?_
      refine go_icmp_ge (pc := 31) (tgt := 57) d_Prog_isSound_31 rfl (fun h31 => ?_) (fun h31 => ?_)
      · replace hk := hk.1 h31
        exact hK0 _ _ _ hk
      · replace hk := hk.2 h31
        refine go_iload_n (pc := 34) (i := 2) d_Prog_isSound_34 rfl rfl ?_
        refine go_bipush (pc := 35) (v := 24) d_Prog_isSound_35 (by decide) ?_
        refine go_icmp_ge (pc := 37) (tgt := 57) d_Prog_isSound_37 rfl (fun h37 => ?_) (fun h37 => ?_)
        · replace hk := hk.1 h37
          exact hK0 _ _ _ hk
        · replace hk := hk.2 h37
          refine go_aload_n (pc := 40) (i := 0) d_Prog_isSound_40 rfl rfl ?_
          refine go_aload_n (pc := 41) (i := 0) d_Prog_isSound_41 rfl rfl ?_
          refine go_getR (pc := 42) (r := 7 + 5 * u0) (sh_prog hu0) rfl fl_Prog_21 d_Prog_isSound_42 ?_
          refine go_iload_n (pc := 45) (i := 2) d_Prog_isSound_45 rfl rfl ?_
          obtain ⟨hi5, hk⟩ := hk
          refine go_aldI (pc := 46) (sh_preached hu0) hi5 d_Prog_isSound_46 ?_
          refine go_callV (pc := 47) (m_Prog_goOnFrom hu0 hk) cz_Prog_goOnFrom cv_Prog_goOnFrom (Or.inl lk_Prog_55) (lay_at (sh_prog hu0)) rfl rfl rfl (Nat.le_of_ble_eq_true rfl) ⟨by decide, by decide⟩ rfl rfl d_Prog_isSound_47 (fun r M' hr => ?_)
          obtain ⟨x7, μ6, rfl, rfl, hk⟩ := hr
          try dsimp only [Option.toList, List.cons_append, List.nil_append]
          refine go_istore_n (pc := 50) (i := 1) (L' := [some (.ref (3 + 5 * u0)), some (.int x7), some (.int v2)]) d_Prog_isSound_50 rfl (by decide) rfl ?_
          refine go_iinc (pc := 51) (v := (v2 + 1)) (L' := [some (.ref (3 + 5 * u0)), some (.int x7), some (.int (v2 + 1))]) d_Prog_isSound_51 rfl rfl (by decide) rfl ?_
          refine go_goto (pc := 54) (tgt := 22) d_Prog_isSound_54 rfl ?_
          exact ih _ _ _ hk
def wp_Prog_isSound (k0 : Nat) (μ : Mu) (Q : Int32 → Mu → Prop) : Prop := wp_JA_fill (6 + 5 * k0) 24 (0 : Int32) μ (fun μ1 => ∀ μ2 : Mu, μ2 = setF μ1 (3 + 5 * k0) 4 (0 : Int32) → wp_Prog_reach k0 (0 : Int32) (1 : Int32) μ2 (fun x4 μ3 => (∃ n22, wp_Prog_isSound_22 k0 (fun v8 v9 μ10 => ((v8 = 0 ∨ v8 = 1) ∧ Q v8 μ10)) Q n22 x4 (0 : Int32) μ3)))
set_option maxRecDepth 100000 in
set_option maxHeartbeats 4000000 in
theorem m_Prog_isSound {l : Launch} {k0 : Nat} (hk0 : k0 < 4) {μ : Mu} {Q : Int32 → Mu → Prop} (hk : wp_Prog_isSound k0 μ Q) : Mets (mE l) mt_Prog_isSound false (rmd 4) [.ref (3 + 5 * k0)] (lay μ) (PI Q) := by
  unfold wp_Prog_isSound at hk
  refine mets_of (L := [some (.ref (3 + 5 * k0)), none, none]) (by decide) (Nat.le_of_ble_eq_true rfl) rfl ?_
  refine go_aload_n (pc := 0) (i := 0) d_Prog_isSound_0 rfl rfl ?_
  refine go_getR (pc := 1) (r := 6 + 5 * k0) (sh_prog hk0) rfl fl_Prog_18 d_Prog_isSound_1 ?_
  refine go_iconst (pc := 4) (v := 0) d_Prog_isSound_4 (by decide) ?_
  refine go_callS (pc := 5) (m_JA_fill (sh_pshapes hk0) hk) cz_JA_fill sm_JA_fill (Or.inl lk_Prog_43) rfl rfl (Nat.le_of_ble_eq_true rfl) ⟨by decide, by decide⟩ rfl rfl d_Prog_isSound_5 (fun r M' hr => ?_)
  obtain ⟨μ1, rfl, rfl, hk⟩ := hr
  try dsimp only [Option.toList, List.cons_append, List.nil_append]
  refine go_aload_n (pc := 8) (i := 0) d_Prog_isSound_8 rfl rfl ?_
  refine go_iconst (pc := 9) (v := 0) d_Prog_isSound_9 (by decide) ?_
  refine go_putIn (pc := 10) (sh_prog hk0) rfl (fp_Prog_24 rfl) d_Prog_isSound_10 (fun μ2 e2 => ?_)
  replace hk := hk μ2 e2
  refine go_aload_n (pc := 13) (i := 0) d_Prog_isSound_13 rfl rfl ?_
  refine go_iconst (pc := 14) (v := 0) d_Prog_isSound_14 (by decide) ?_
  refine go_iconst (pc := 15) (v := 1) d_Prog_isSound_15 (by decide) ?_
  refine go_callV (pc := 16) (m_Prog_reach hk0 hk) cz_Prog_reach cv_Prog_reach (Or.inl lk_Prog_51) (lay_at (sh_prog hk0)) rfl rfl rfl (Nat.le_of_ble_eq_true rfl) ⟨by decide, by decide⟩ rfl rfl d_Prog_isSound_16 (fun r M' hr => ?_)
  obtain ⟨x4, μ3, rfl, rfl, hk⟩ := hr
  try dsimp only [Option.toList, List.cons_append, List.nil_append]
  refine go_istore_n (pc := 19) (i := 1) (L' := [some (.ref (3 + 5 * k0)), some (.int x4), none]) d_Prog_isSound_19 rfl (by decide) rfl ?_
  refine go_iconst (pc := 20) (v := 0) d_Prog_isSound_20 (by decide) ?_
  refine go_istore_n (pc := 21) (i := 2) (L' := [some (.ref (3 + 5 * k0)), some (.int x4), some (.int (0 : Int32))]) d_Prog_isSound_21 rfl (by decide) rfl ?_
  obtain ⟨n, hk⟩ := hk
  refine g_Prog_isSound_22 hk0 (fun v8 v9 μ10 hk => ?_) n _ _ _ hk
  · try dsimp only at hk
    refine go_iload_n (pc := 57) (i := 1) d_Prog_isSound_57 rfl rfl ?_
    obtain ⟨hb11, hk⟩ := hk
    exact go_ret (pc := 58) (r := some (.int v8)) ⟨nar_zv hb11, d_Prog_isSound_58⟩ ⟨_, _, rfl, rfl, hk⟩
