def wp_Host_mustWait (k1 : Nat) (μ : Mu) (Q : Int32 → Mu → Prop) : Prop := (((¬ (μ.1 (33 + 17 * k1) 1) = 0) → Q (0 : Int32) μ) ∧ (((μ.1 (33 + 17 * k1) 1) = 0) → (vp_in (μ.1 (23 + 17 * k1) 8) 4 ∧ wp_Prog_opAt (Int32.toNatClampNeg (μ.1 (23 + 17 * k1) 8)) (μ.1 (23 + 17 * k1) 9) μ (fun x4 μ3 => (((¬ x4 = (22 : Int32)) → Q (0 : Int32) μ3) ∧ ((x4 = (22 : Int32)) → Q (1 : Int32) μ3))))))
set_option maxRecDepth 100000 in
set_option maxHeartbeats 4000000 in
theorem m_Host_mustWait {l : Launch} {k1 : Nat} (hk1 : k1 < 4) {μ : Mu} {Q : Int32 → Mu → Prop} (hk : wp_Host_mustWait k1 μ Q) : Mets (mE l) mt_Host_mustWait false (rmd 2) [.ref 0, .ref (23 + 17 * k1)] (lay μ) (PI Q) := by
  unfold wp_Host_mustWait at hk
  refine mets_of (L := [some (.ref 0), some (.ref (23 + 17 * k1))]) (by decide) (Nat.le_of_ble_eq_true rfl) rfl ?_
  refine go_aload_n (pc := 0) (i := 1) d_Host_mustWait_0 rfl rfl ?_
  refine go_getR (pc := 1) (r := 33 + 17 * k1) (sh_ten hk1) rfl fl_Host_148 d_Host_mustWait_1 ?_
  refine go_getI (pc := 4) (isl_mail hk1).1 rfl fl_Host_151 d_Host_mustWait_4 ?_
  refine go_if_ne (pc := 7) (tgt := 35) d_Host_mustWait_7 rfl (fun h7 => ?_) (fun h7 => ?_)
  · replace hk := hk.1 h7
    refine go_iconst (pc := 35) (v := 0) d_Host_mustWait_35 (by decide) ?_
    exact go_ret (pc := 36) (r := some (.int (0 : Int32))) ⟨nar_zv (by decide), d_Host_mustWait_36⟩ ⟨_, _, rfl, rfl, hk⟩
  · replace hk := hk.2 h7
    refine go_aload_n (pc := 10) (i := 0) d_Host_mustWait_10 rfl rfl ?_
    refine go_getR (pc := 11) (r := 1) sh_host rfl fl_Host_11 d_Host_mustWait_11 ?_
    refine go_aload_n (pc := 14) (i := 1) d_Host_mustWait_14 rfl rfl ?_
    refine go_getI (pc := 15) (sh_ten hk1) rfl fl_Host_176 d_Host_mustWait_15 ?_
    obtain ⟨hi1, hk⟩ := hk
    have ht2 : (Int32.toNatClampNeg (μ.1 (23 + 17 * k1) 8)) < 4 := in_lt (n := 4) hi1
    refine go_aldR (pc := 18) (r := 3 + 5 * (Int32.toNatClampNeg (μ.1 (23 + 17 * k1) 8))) sh_programs rfl hi1 (prog_at ht2) d_Host_mustWait_18 ?_
    refine go_aload_n (pc := 19) (i := 1) d_Host_mustWait_19 rfl rfl ?_
    refine go_getI (pc := 20) (sh_ten hk1) rfl fl_Host_196 d_Host_mustWait_20 ?_
    refine go_callV (pc := 23) (m_Prog_opAt ht2 hk) cz_Prog_opAt cv_Prog_opAt (Or.inl lk_Host_199) (lay_at (sh_prog ht2)) rfl rfl rfl (Nat.le_of_ble_eq_true rfl) ⟨by decide, by decide⟩ rfl rfl d_Host_mustWait_23 (fun r M' hr => ?_)
    obtain ⟨x4, μ3, rfl, rfl, hk⟩ := hr
    try dsimp only [Option.toList, List.cons_append, List.nil_append]
    refine go_bipush (pc := 26) (v := 22) d_Host_mustWait_26 (by decide) ?_
    refine go_icmp_ne (pc := 28) (tgt := 35) d_Host_mustWait_28 rfl (fun h28 => ?_) (fun h28 => ?_)
    · replace hk := hk.1 h28
      refine go_iconst (pc := 35) (v := 0) d_Host_mustWait_35 (by decide) ?_
      exact go_ret (pc := 36) (r := some (.int (0 : Int32))) ⟨nar_zv (by decide), d_Host_mustWait_36⟩ ⟨_, _, rfl, rfl, hk⟩
    · replace hk := hk.2 h28
      refine go_iconst (pc := 31) (v := 1) d_Host_mustWait_31 (by decide) ?_
      refine go_goto (pc := 32) (tgt := 36) d_Host_mustWait_32 rfl ?_
      exact go_ret (pc := 36) (r := some (.int (1 : Int32))) ⟨nar_zv (by decide), d_Host_mustWait_36⟩ ⟨_, _, rfl, rfl, hk⟩
def wp_Host_doSlice_2 (u1 : Nat) (K0 : Int32 → Mu → Prop) (K1 : Int32 → Mu → Prop) (Q : Mu → Prop) : Nat → Int32 → Mu → Prop
  | 0, _, _ => False
  | n2 + 1, v2, μ => ((((μ.1 0 0) ≤ v2) → K1 v2 μ) ∧ ((¬ (μ.1 0 0) ≤ v2) → wp_Ten_isAlive u1 μ (fun x2 μ1 => (((x2 = 0) → K1 v2 μ1) ∧ ((¬ x2 = 0) → ((((μ1.1 (23 + 17 * u1) 11) < (μ1.1 (23 + 17 * u1) 10)) → wp_Host_mustWait u1 μ1 (fun x4 μ3 => (((x4 = 0) → wp_Host_doInstruction u1 μ3 (fun μ5 => wp_Host_doSlice_2 u1 K0 K1 Q n2 (v2 + 1) μ5)) ∧ ((¬ x4 = 0) → K0 v2 μ3)))) ∧ ((¬ (μ1.1 (23 + 17 * u1) 11) < (μ1.1 (23 + 17 * u1) 10)) → wp_Host_end u1 (5 : Int32) μ1 (fun μ6 => wp_Host_doSlice_2 u1 K0 K1 Q n2 (v2 + 1) μ6))))))))
set_option maxRecDepth 100000 in
set_option maxHeartbeats 4000000 in
theorem g_Host_doSlice_2 {l : Launch} {u1 : Nat} (hu1 : u1 < 4) {K0 : Int32 → Mu → Prop} {K1 : Int32 → Mu → Prop} {Q : Mu → Prop} (hK0 : ∀ (v2 : Int32) (μ : Mu), K0 v2 μ → Go (mE l) mt_Host_doSlice false (rmd 6) 0 0 45 [some (.ref 0), some (.ref (23 + 17 * u1)), some (.int v2)] [] (lay μ) (PV Q)) (hK1 : ∀ (v2 : Int32) (μ : Mu), K1 v2 μ → Go (mE l) mt_Host_doSlice false (rmd 6) 0 0 64 [some (.ref 0), some (.ref (23 + 17 * u1)), some (.int v2)] [] (lay μ) (PV Q)) : ∀ (n : Nat) (v2 : Int32) (μ : Mu), wp_Host_doSlice_2 u1 K0 K1 Q n v2 μ → Go (mE l) mt_Host_doSlice false (rmd 6) 0 0 2 [some (.ref 0), some (.ref (23 + 17 * u1)), some (.int v2)] [] (lay μ) (PV Q) := by
  intro n
  induction n with
  | zero => intro v2 μ hk; exact hk.elim
  | succ n ih =>
    intro v2 μ hk
    unfold wp_Host_doSlice_2 at hk
    refine go_iload_n (pc := 2) (i := 2) d_Host_doSlice_2 rfl rfl ?_
    refine go_aload_n (pc := 3) (i := 0) d_Host_doSlice_3 rfl rfl ?_
    refine go_getI (pc := 4) sh_host rfl fl_Host_37 d_Host_doSlice_4 ?_
    refine go_icmp_ge (pc := 7) (tgt := 64) d_Host_doSlice_7 rfl (fun h7 => ?_) (fun h7 => ?_)
    · replace hk := hk.1 h7
      exact hK1 _ _ hk
    · replace hk := hk.2 h7
      refine go_aload_n (pc := 10) (i := 1) d_Host_doSlice_10 rfl rfl ?_
      refine go_callV (pc := 11) (m_Ten_isAlive hu1 hk) cz_Ten_isAlive cv_Ten_isAlive (Or.inl lk_Host_182) (lay_at (sh_ten hu1)) rfl rfl rfl (Nat.le_of_ble_eq_true rfl) ⟨by decide, by decide⟩ rfl rfl d_Host_doSlice_11 (fun r M' hr => ?_)
      obtain ⟨x2, μ1, rfl, rfl, hk⟩ := hr
      try dsimp only [Option.toList, List.cons_append, List.nil_append]
      refine go_if_eq (pc := 14) (tgt := 64) d_Host_doSlice_14 rfl (fun h14 => ?_) (fun h14 => ?_)
      · replace hk := hk.1 h14
        exact hK1 _ _ hk
      · replace hk := hk.2 h14
        refine go_aload_n (pc := 17) (i := 1) d_Host_doSlice_17 rfl rfl ?_
        refine go_getI (pc := 18) (sh_ten hu1) rfl fl_Host_125 d_Host_doSlice_18 ?_
        refine go_aload_n (pc := 21) (i := 1) d_Host_doSlice_21 rfl rfl ?_
        refine go_getI (pc := 22) (sh_ten hu1) rfl fl_Host_95 d_Host_doSlice_22 ?_
        refine go_icmp_lt (pc := 25) (tgt := 37) d_Host_doSlice_25 rfl (fun h25 => ?_) (fun h25 => ?_)
        · replace hk := hk.1 h25
          refine go_aload_n (pc := 37) (i := 0) d_Host_doSlice_37 rfl rfl ?_
          refine go_aload_n (pc := 38) (i := 1) d_Host_doSlice_38 rfl rfl ?_
          refine go_callV (pc := 39) (m_Host_mustWait hu1 hk) cz_Host_mustWait cv_Host_mustWait (Or.inl lk_Host_189) (lay_at sh_host) rfl rfl rfl (Nat.le_of_ble_eq_true rfl) ⟨by decide, by decide⟩ rfl rfl d_Host_doSlice_39 (fun r M' hr => ?_)
          obtain ⟨x4, μ3, rfl, rfl, hk⟩ := hr
          try dsimp only [Option.toList, List.cons_append, List.nil_append]
          refine go_if_eq (pc := 42) (tgt := 53) d_Host_doSlice_42 rfl (fun h42 => ?_) (fun h42 => ?_)
          · replace hk := hk.1 h42
            refine go_aload_n (pc := 53) (i := 0) d_Host_doSlice_53 rfl rfl ?_
            refine go_aload_n (pc := 54) (i := 1) d_Host_doSlice_54 rfl rfl ?_
            refine go_callV (pc := 55) (m_Host_doInstruction hu1 hk) cz_Host_doInstruction cv_Host_doInstruction (Or.inl lk_Host_193) (lay_at sh_host) rfl rfl rfl (Nat.le_of_ble_eq_true rfl) ⟨by decide, by decide⟩ rfl rfl d_Host_doSlice_55 (fun r M' hr => ?_)
            obtain ⟨μ5, rfl, rfl, hk⟩ := hr
            try dsimp only [Option.toList, List.cons_append, List.nil_append]
            refine go_iinc (pc := 58) (v := (v2 + 1)) (L' := [some (.ref 0), some (.ref (23 + 17 * u1)), some (.int (v2 + 1))]) d_Host_doSlice_58 rfl rfl (by decide) rfl ?_
            refine go_goto (pc := 61) (tgt := 2) d_Host_doSlice_61 rfl ?_
            exact ih _ _ hk
          · replace hk := hk.2 h42
            exact hK0 _ _ hk
        · replace hk := hk.2 h25
          refine go_aload_n (pc := 28) (i := 0) d_Host_doSlice_28 rfl rfl ?_
          refine go_aload_n (pc := 29) (i := 1) d_Host_doSlice_29 rfl rfl ?_
          refine go_iconst (pc := 30) (v := 5) d_Host_doSlice_30 (by decide) ?_
          refine go_callV (pc := 31) (m_Host_end hu1 hk) cz_Host_end cv_Host_end (Or.inl lk_Host_185) (lay_at sh_host) rfl rfl rfl (Nat.le_of_ble_eq_true rfl) ⟨by decide, by decide⟩ rfl rfl d_Host_doSlice_31 (fun r M' hr => ?_)
          obtain ⟨μ6, rfl, rfl, hk⟩ := hr
          try dsimp only [Option.toList, List.cons_append, List.nil_append]
          refine go_goto (pc := 34) (tgt := 58) d_Host_doSlice_34 rfl ?_
          refine go_iinc (pc := 58) (v := (v2 + 1)) (L' := [some (.ref 0), some (.ref (23 + 17 * u1)), some (.int (v2 + 1))]) d_Host_doSlice_58 rfl rfl (by decide) rfl ?_
          refine go_goto (pc := 61) (tgt := 2) d_Host_doSlice_61 rfl ?_
          exact ih _ _ hk
def wp_Host_doSlice (k1 : Nat) (μ : Mu) (Q : Mu → Prop) : Prop := (∃ n2, wp_Host_doSlice_2 k1 (fun v7 μ8 => ∀ μ9 : Mu, μ9 = setF μ8 (23 + 17 * k1) 7 (2 : Int32) → Q μ9) (fun v10 μ11 => Q μ11) Q n2 (0 : Int32) μ)
set_option maxRecDepth 100000 in
set_option maxHeartbeats 4000000 in
theorem m_Host_doSlice {l : Launch} {k1 : Nat} (hk1 : k1 < 4) {μ : Mu} {Q : Mu → Prop} (hk : wp_Host_doSlice k1 μ Q) : Mets (mE l) mt_Host_doSlice false (rmd 6) [.ref 0, .ref (23 + 17 * k1)] (lay μ) (PV Q) := by
  unfold wp_Host_doSlice at hk
  refine mets_of (L := [some (.ref 0), some (.ref (23 + 17 * k1)), none]) (by decide) (Nat.le_of_ble_eq_true rfl) rfl ?_
  refine go_iconst (pc := 0) (v := 0) d_Host_doSlice_0 (by decide) ?_
  refine go_istore_n (pc := 1) (i := 2) (L' := [some (.ref 0), some (.ref (23 + 17 * k1)), some (.int (0 : Int32))]) d_Host_doSlice_1 rfl (by decide) rfl ?_
  obtain ⟨n, hk⟩ := hk
  refine g_Host_doSlice_2 hk1 (fun v7 μ8 hk => ?_) (fun v10 μ11 hk => ?_) n _ _ hk
  · try dsimp only at hk
    refine go_aload_n (pc := 45) (i := 1) d_Host_doSlice_45 rfl rfl ?_
    refine go_iconst (pc := 46) (v := 2) d_Host_doSlice_46 (by decide) ?_
    refine go_putIn (pc := 47) (sh_ten hk1) rfl (fp_Host_122 rfl) d_Host_doSlice_47 (fun μ9 e9 => ?_)
    replace hk := hk μ9 e9
    refine go_goto (pc := 50) (tgt := 64) d_Host_doSlice_50 rfl ?_
    exact go_ret (pc := 64) (r := none) d_Host_doSlice_64 ⟨_, rfl, rfl, hk⟩
  · try dsimp only at hk
    exact go_ret (pc := 64) (r := none) d_Host_doSlice_64 ⟨_, rfl, rfl, hk⟩
def wp_JM_floorMod (a1 : Int32) (a2 : Int32) (μ : Mu) (Q : Int32 → Mu → Prop) : Prop := (¬ a2 = 0 ∧ (((0 ≤ (a1 ^^^ a2)) → Q (a1 - a1 / a2 * a2) μ) ∧ ((¬ 0 ≤ (a1 ^^^ a2)) → ((((a1 - a1 / a2 * a2) = 0) → Q (a1 - a1 / a2 * a2) μ) ∧ ((¬ (a1 - a1 / a2 * a2) = 0) → Q ((a1 - a1 / a2 * a2) + a2) μ)))))
set_option maxRecDepth 100000 in
set_option maxHeartbeats 4000000 in
theorem m_JM_floorMod {l : Launch} {a1 : Int32} {a2 : Int32}  {μ : Mu} {Q : Int32 → Mu → Prop} (hk : wp_JM_floorMod a1 a2 μ Q) : Mets (mE l) mt_JM_floorMod false (rmd 0) [.int a1, .int a2] (lay μ) (PI Q) := by
  unfold wp_JM_floorMod at hk
  refine mets_ofF (L := [some (.int a1), some (.int a2), none]) (by decide +kernel) (Nat.le_of_ble_eq_true rfl) rfl ?_
  refine go_iload_n (pc := 0) (i := 0) d_JM_floorMod_0 rfl rfl ?_
  refine go_iload_n (pc := 1) (i := 1) d_JM_floorMod_1 rfl rfl ?_
  obtain ⟨hz1, hk⟩ := hk
  refine go_irem (pc := 2) d_JM_floorMod_2 hz1 ?_
  refine go_istore_n (pc := 3) (i := 2) (L' := [some (.int a1), some (.int a2), some (.int (a1 - a1 / a2 * a2))]) d_JM_floorMod_3 rfl (by decide) rfl ?_
  refine go_iload_n (pc := 4) (i := 0) d_JM_floorMod_4 rfl rfl ?_
  refine go_iload_n (pc := 5) (i := 1) d_JM_floorMod_5 rfl rfl ?_
  refine go_ixor (pc := 6) d_JM_floorMod_6 ?_
  refine go_if_ge (pc := 7) (tgt := 18) d_JM_floorMod_7 rfl (fun h7 => ?_) (fun h7 => ?_)
  · replace hk := hk.1 h7
    refine go_iload_n (pc := 18) (i := 2) d_JM_floorMod_18 rfl rfl ?_
    exact go_ret (pc := 19) (r := some (.int (a1 - a1 / a2 * a2))) d_JM_floorMod_19 ⟨_, _, rfl, rfl, hk⟩
  · replace hk := hk.2 h7
    refine go_iload_n (pc := 10) (i := 2) d_JM_floorMod_10 rfl rfl ?_
    refine go_if_eq (pc := 11) (tgt := 18) d_JM_floorMod_11 rfl (fun h11 => ?_) (fun h11 => ?_)
    · replace hk := hk.1 h11
      refine go_iload_n (pc := 18) (i := 2) d_JM_floorMod_18 rfl rfl ?_
      exact go_ret (pc := 19) (r := some (.int (a1 - a1 / a2 * a2))) d_JM_floorMod_19 ⟨_, _, rfl, rfl, hk⟩
    · replace hk := hk.2 h11
      refine go_iload_n (pc := 14) (i := 2) d_JM_floorMod_14 rfl rfl ?_
      refine go_iload_n (pc := 15) (i := 1) d_JM_floorMod_15 rfl rfl ?_
      refine go_iadd (pc := 16) d_JM_floorMod_16 ?_
      exact go_ret (pc := 17) (r := some (.int ((a1 - a1 / a2 * a2) + a2))) d_JM_floorMod_17 ⟨_, _, rfl, rfl, hk⟩
def wp_Host_run_13 (w1 : Int32) (K0 : Int32 → Mu → Prop) (Q : Int32 → Mu → Prop) : Nat → Int32 → Mu → Prop
  | 0, _, _ => False
  | n13 + 1, v2, μ => (((w1 ≤ v2) → K0 v2 μ) ∧ ((¬ w1 ≤ v2) → wp_JM_floorMod (μ.1 0 4) (4 : Int32) μ (fun x2 μ1 => (vp_in x2 4 ∧ wp_Host_doSlice (Int32.toNatClampNeg x2) μ1 (fun μ5 => ∀ μ6 : Mu, μ6 = setF μ5 0 4 ((μ5.1 0 4) + (1 : Int32)) → wp_Host_run_13 w1 K0 Q n13 (v2 + 1) μ6)))))
set_option maxRecDepth 100000 in
set_option maxHeartbeats 4000000 in
theorem g_Host_run_13 {l : Launch} {w1 : Int32}  {K0 : Int32 → Mu → Prop} {Q : Int32 → Mu → Prop} (hK0 : ∀ (v2 : Int32) (μ : Mu), K0 v2 μ → Go (mE l) mt_Host_run false (rmd 7) 0 0 51 [some (.ref 0), some (.int w1), some (.int v2)] [] (lay μ) (PI Q)) : ∀ (n : Nat) (v2 : Int32) (μ : Mu), wp_Host_run_13 w1 K0 Q n v2 μ → Go (mE l) mt_Host_run false (rmd 7) 0 0 13 [some (.ref 0), some (.int w1), some (.int v2)] [] (lay μ) (PI Q) := by
  intro n
  induction n with
  | zero => intro v2 μ hk; exact hk.elim
  | succ n ih =>
    intro v2 μ hk
    unfold wp_Host_run_13 at hk
    refine go_iload_n (pc := 13) (i := 2) d_Host_run_13 rfl rfl ?_
    refine go_iload_n (pc := 14) (i := 1) d_Host_run_14 rfl rfl ?_
    refine go_icmp_ge (pc := 15) (tgt := 51) d_Host_run_15 rfl (fun h15 => ?_) (fun h15 => ?_)
    · replace hk := hk.1 h15
      exact hK0 _ _ hk
    · replace hk := hk.2 h15
      refine go_aload_n (pc := 18) (i := 0) d_Host_run_18 rfl rfl ?_
      refine go_aload_n (pc := 19) (i := 0) d_Host_run_19 rfl rfl ?_
      refine go_getR (pc := 20) (r := 2) sh_host rfl fl_Host_17 d_Host_run_20 ?_
      refine go_aload_n (pc := 23) (i := 0) d_Host_run_23 rfl rfl ?_
      refine go_getI (pc := 24) sh_host rfl fl_Host_25 d_Host_run_24 ?_
      refine go_iconst (pc := 27) (v := 4) d_Host_run_27 (by decide) ?_
      refine go_callS (pc := 28) (m_JM_floorMod  hk) cz_JM_floorMod sm_JM_floorMod (Or.inl lk_Host_115) rfl rfl (Nat.le_of_ble_eq_true rfl) ⟨by decide, by decide⟩ rfl rfl d_Host_run_28 (fun r M' hr => ?_)
      obtain ⟨x2, μ1, rfl, rfl, hk⟩ := hr
      try dsimp only [Option.toList, List.cons_append, List.nil_append]
      obtain ⟨hi3, hk⟩ := hk
      have ht4 : (Int32.toNatClampNeg x2) < 4 := in_lt (n := 4) hi3
      refine go_aldR (pc := 31) (r := 23 + 17 * (Int32.toNatClampNeg x2)) sh_tenants rfl hi3 (ten_at ht4) d_Host_run_31 ?_
      refine go_callV (pc := 32) (m_Host_doSlice ht4 hk) cz_Host_doSlice cv_Host_doSlice (Or.inl lk_Host_118) (lay_at sh_host) rfl rfl rfl (Nat.le_of_ble_eq_true rfl) ⟨by decide, by decide⟩ rfl rfl d_Host_run_32 (fun r M' hr => ?_)
      obtain ⟨μ5, rfl, rfl, hk⟩ := hr
      try dsimp only [Option.toList, List.cons_append, List.nil_append]
      refine go_aload_n (pc := 35) (i := 0) d_Host_run_35 rfl rfl ?_
      refine go_dup (pc := 36) d_Host_run_36 rfl ?_
      refine go_getI (pc := 37) sh_host rfl fl_Host_25 d_Host_run_37 ?_
      refine go_iconst (pc := 40) (v := 1) d_Host_run_40 (by decide) ?_
      refine go_iadd (pc := 41) d_Host_run_41 ?_
      refine go_putIn (pc := 42) sh_host rfl (fp_Host_25 rfl) d_Host_run_42 (fun μ6 e6 => ?_)
      replace hk := hk μ6 e6
      refine go_iinc (pc := 45) (v := (v2 + 1)) (L' := [some (.ref 0), some (.int w1), some (.int (v2 + 1))]) d_Host_run_45 rfl rfl (by decide) rfl ?_
      refine go_goto (pc := 48) (tgt := 13) d_Host_run_48 rfl ?_
      exact ih _ _ hk
def wp_Host_run (a1 : Int32) (μ : Mu) (Q : Int32 → Mu → Prop) : Prop := (((a1 < 0) → Q (μ.1 0 4) μ) ∧ ((¬ a1 < 0) → ((((200 : Int32) < a1) → Q (μ.1 0 4) μ) ∧ ((¬ (200 : Int32) < a1) → (∃ n13, wp_Host_run_13 a1 (fun v7 μ8 => Q (μ8.1 0 4) μ8) Q n13 (0 : Int32) μ)))))
set_option maxRecDepth 100000 in
set_option maxHeartbeats 4000000 in
theorem m_Host_run {l : Launch} {a1 : Int32}  {μ : Mu} {Q : Int32 → Mu → Prop} (hk : wp_Host_run a1 μ Q) : Mets (mE l) mt_Host_run false (rmd 7) [.ref 0, .int a1] (lay μ) (PI Q) := by
  unfold wp_Host_run at hk
  refine mets_of (L := [some (.ref 0), some (.int a1), none]) (by decide) (Nat.le_of_ble_eq_true rfl) rfl ?_
  refine go_iload_n (pc := 0) (i := 1) d_Host_run_0 rfl rfl ?_
  refine go_if_lt (pc := 1) (tgt := 51) d_Host_run_1 rfl (fun h1 => ?_) (fun h1 => ?_)
  · replace hk := hk.1 h1
    refine go_aload_n (pc := 51) (i := 0) d_Host_run_51 rfl rfl ?_
    refine go_getI (pc := 52) sh_host rfl fl_Host_25 d_Host_run_52 ?_
    exact go_ret (pc := 55) (r := some (.int (μ.1 0 4))) d_Host_run_55 ⟨_, _, rfl, rfl, hk⟩
  · replace hk := hk.2 h1
    refine go_iload_n (pc := 4) (i := 1) d_Host_run_4 rfl rfl ?_
    refine go_sipush (pc := 5) (v := 200) d_Host_run_5 (by decide) ?_
    refine go_icmp_gt (pc := 8) (tgt := 51) d_Host_run_8 rfl (fun h8 => ?_) (fun h8 => ?_)
    · replace hk := hk.1 h8
      refine go_aload_n (pc := 51) (i := 0) d_Host_run_51 rfl rfl ?_
      refine go_getI (pc := 52) sh_host rfl fl_Host_25 d_Host_run_52 ?_
      exact go_ret (pc := 55) (r := some (.int (μ.1 0 4))) d_Host_run_55 ⟨_, _, rfl, rfl, hk⟩
    · replace hk := hk.2 h8
      refine go_iconst (pc := 11) (v := 0) d_Host_run_11 (by decide) ?_
      refine go_istore_n (pc := 12) (i := 2) (L' := [some (.ref 0), some (.int a1), some (.int (0 : Int32))]) d_Host_run_12 rfl (by decide) rfl ?_
      obtain ⟨n, hk⟩ := hk
      refine g_Host_run_13  (fun v7 μ8 hk => ?_) n _ _ hk
      · try dsimp only at hk
        refine go_aload_n (pc := 51) (i := 0) d_Host_run_51 rfl rfl ?_
        refine go_getI (pc := 52) sh_host rfl fl_Host_25 d_Host_run_52 ?_
        exact go_ret (pc := 55) (r := some (.int (μ8.1 0 4))) d_Host_run_55 ⟨_, _, rfl, rfl, hk⟩
def wp_Host_state (a1 : Int32) (μ : Mu) (Q : Int32 → Mu → Prop) : Prop := wp_Host_isTenant a1 μ (fun x2 μ1 => (((x2 = 0) → Q (-1 : Int32) μ1) ∧ ((¬ x2 = 0) → (vp_in a1 4 ∧ Q (μ1.1 (23 + 17 * (Int32.toNatClampNeg a1)) 7) μ1))))
set_option maxRecDepth 100000 in
set_option maxHeartbeats 4000000 in
theorem m_Host_state {l : Launch} {a1 : Int32}  {μ : Mu} {Q : Int32 → Mu → Prop} (hk : wp_Host_state a1 μ Q) : Mets (mE l) mt_Host_state false (rmd 1) [.ref 0, .int a1] (lay μ) (PI Q) := by
  unfold wp_Host_state at hk
  refine mets_of (L := [some (.ref 0), some (.int a1)]) (by decide) (Nat.le_of_ble_eq_true rfl) rfl ?_
  refine go_iload_n (pc := 0) (i := 1) d_Host_state_0 rfl rfl ?_
  refine go_callS (pc := 1) (m_Host_isTenant  hk) cz_Host_isTenant sm_Host_isTenant (Or.inl lk_Host_82) rfl rfl (Nat.le_of_ble_eq_true rfl) ⟨by decide, by decide⟩ rfl rfl d_Host_state_1 (fun r M' hr => ?_)
  obtain ⟨x2, μ1, rfl, rfl, hk⟩ := hr
  try dsimp only [Option.toList, List.cons_append, List.nil_append]
  refine go_if_eq (pc := 4) (tgt := 19) d_Host_state_4 rfl (fun h4 => ?_) (fun h4 => ?_)
  · replace hk := hk.1 h4
    refine go_iconst (pc := 19) (v := (-1)) d_Host_state_19 (by decide) ?_
    exact go_ret (pc := 20) (r := some (.int (-1 : Int32))) d_Host_state_20 ⟨_, _, rfl, rfl, hk⟩
  · replace hk := hk.2 h4
    refine go_aload_n (pc := 7) (i := 0) d_Host_state_7 rfl rfl ?_
    refine go_getR (pc := 8) (r := 2) sh_host rfl fl_Host_17 d_Host_state_8 ?_
    refine go_iload_n (pc := 11) (i := 1) d_Host_state_11 rfl rfl ?_
    obtain ⟨hi3, hk⟩ := hk
    have ht4 : (Int32.toNatClampNeg a1) < 4 := in_lt (n := 4) hi3
    refine go_aldR (pc := 12) (r := 23 + 17 * (Int32.toNatClampNeg a1)) sh_tenants rfl hi3 (ten_at ht4) d_Host_state_12 ?_
    refine go_getI (pc := 13) (sh_ten ht4) rfl fl_Host_122 d_Host_state_13 ?_
    refine go_goto (pc := 16) (tgt := 20) d_Host_state_16 rfl ?_
    exact go_ret (pc := 20) (r := some (.int (μ1.1 (23 + 17 * (Int32.toNatClampNeg a1)) 7))) d_Host_state_20 ⟨_, _, rfl, rfl, hk⟩
def wp_Host_steps (a1 : Int32) (μ : Mu) (Q : Int32 → Mu → Prop) : Prop := wp_Host_isTenant a1 μ (fun x2 μ1 => (((x2 = 0) → Q (-1 : Int32) μ1) ∧ ((¬ x2 = 0) → (vp_in a1 4 ∧ Q (μ1.1 (23 + 17 * (Int32.toNatClampNeg a1)) 11) μ1))))
set_option maxRecDepth 100000 in
set_option maxHeartbeats 4000000 in
theorem m_Host_steps {l : Launch} {a1 : Int32}  {μ : Mu} {Q : Int32 → Mu → Prop} (hk : wp_Host_steps a1 μ Q) : Mets (mE l) mt_Host_steps false (rmd 1) [.ref 0, .int a1] (lay μ) (PI Q) := by
  unfold wp_Host_steps at hk
  refine mets_of (L := [some (.ref 0), some (.int a1)]) (by decide) (Nat.le_of_ble_eq_true rfl) rfl ?_
  refine go_iload_n (pc := 0) (i := 1) d_Host_steps_0 rfl rfl ?_
  refine go_callS (pc := 1) (m_Host_isTenant  hk) cz_Host_isTenant sm_Host_isTenant (Or.inl lk_Host_82) rfl rfl (Nat.le_of_ble_eq_true rfl) ⟨by decide, by decide⟩ rfl rfl d_Host_steps_1 (fun r M' hr => ?_)
  obtain ⟨x2, μ1, rfl, rfl, hk⟩ := hr
  try dsimp only [Option.toList, List.cons_append, List.nil_append]
  refine go_if_eq (pc := 4) (tgt := 19) d_Host_steps_4 rfl (fun h4 => ?_) (fun h4 => ?_)
  · replace hk := hk.1 h4
    refine go_iconst (pc := 19) (v := (-1)) d_Host_steps_19 (by decide) ?_
    exact go_ret (pc := 20) (r := some (.int (-1 : Int32))) d_Host_steps_20 ⟨_, _, rfl, rfl, hk⟩
  · replace hk := hk.2 h4
    refine go_aload_n (pc := 7) (i := 0) d_Host_steps_7 rfl rfl ?_
    refine go_getR (pc := 8) (r := 2) sh_host rfl fl_Host_17 d_Host_steps_8 ?_
    refine go_iload_n (pc := 11) (i := 1) d_Host_steps_11 rfl rfl ?_
    obtain ⟨hi3, hk⟩ := hk
    have ht4 : (Int32.toNatClampNeg a1) < 4 := in_lt (n := 4) hi3
    refine go_aldR (pc := 12) (r := 23 + 17 * (Int32.toNatClampNeg a1)) sh_tenants rfl hi3 (ten_at ht4) d_Host_steps_12 ?_
    refine go_getI (pc := 13) (sh_ten ht4) rfl fl_Host_125 d_Host_steps_13 ?_
    refine go_goto (pc := 16) (tgt := 20) d_Host_steps_16 rfl ?_
    exact go_ret (pc := 20) (r := some (.int (μ1.1 (23 + 17 * (Int32.toNatClampNeg a1)) 11))) d_Host_steps_20 ⟨_, _, rfl, rfl, hk⟩
def wp_Host_used (a1 : Int32) (μ : Mu) (Q : Int32 → Mu → Prop) : Prop := wp_Host_isTenant a1 μ (fun x2 μ1 => (((x2 = 0) → Q (-1 : Int32) μ1) ∧ ((¬ x2 = 0) → (vp_in a1 4 ∧ wp_JL_bitCount (μ1.2.2 (24 + 17 * (Int32.toNatClampNeg a1))) μ1 (fun x6 μ5 => Q x6 μ5)))))
set_option maxRecDepth 100000 in
set_option maxHeartbeats 4000000 in
theorem m_Host_used {l : Launch} {a1 : Int32}  {μ : Mu} {Q : Int32 → Mu → Prop} (hk : wp_Host_used a1 μ Q) : Mets (mE l) mt_Host_used false (rmd 1) [.ref 0, .int a1] (lay μ) (PI Q) := by
  unfold wp_Host_used at hk
  refine mets_of (L := [some (.ref 0), some (.int a1)]) (by decide) (Nat.le_of_ble_eq_true rfl) rfl ?_
  refine go_iload_n (pc := 0) (i := 1) d_Host_used_0 rfl rfl ?_
  refine go_callS (pc := 1) (m_Host_isTenant  hk) cz_Host_isTenant sm_Host_isTenant (Or.inl lk_Host_82) rfl rfl (Nat.le_of_ble_eq_true rfl) ⟨by decide, by decide⟩ rfl rfl d_Host_used_1 (fun r M' hr => ?_)
  obtain ⟨x2, μ1, rfl, rfl, hk⟩ := hr
  try dsimp only [Option.toList, List.cons_append, List.nil_append]
  refine go_if_eq (pc := 4) (tgt := 25) d_Host_used_4 rfl (fun h4 => ?_) (fun h4 => ?_)
  · replace hk := hk.1 h4
    refine go_iconst (pc := 25) (v := (-1)) d_Host_used_25 (by decide) ?_
    exact go_ret (pc := 26) (r := some (.int (-1 : Int32))) d_Host_used_26 ⟨_, _, rfl, rfl, hk⟩
  · replace hk := hk.2 h4
    refine go_aload_n (pc := 7) (i := 0) d_Host_used_7 rfl rfl ?_
    refine go_getR (pc := 8) (r := 2) sh_host rfl fl_Host_17 d_Host_used_8 ?_
    refine go_iload_n (pc := 11) (i := 1) d_Host_used_11 rfl rfl ?_
    obtain ⟨hi3, hk⟩ := hk
    have ht4 : (Int32.toNatClampNeg a1) < 4 := in_lt (n := 4) hi3
    refine go_aldR (pc := 12) (r := 23 + 17 * (Int32.toNatClampNeg a1)) sh_tenants rfl hi3 (ten_at ht4) d_Host_used_12 ?_
    refine go_getR (pc := 13) (r := 24 + 17 * (Int32.toNatClampNeg a1)) (sh_ten ht4) rfl fl_Host_69 d_Host_used_13 ?_
    refine go_getJ (pc := 16) (sh_heap ht4) rfl fl_Host_128 d_Host_used_16 ?_
    refine go_callS (pc := 19) (m_JL_bitCount  hk) cz_JL_bitCount sm_JL_bitCount (Or.inl lk_Host_132) rfl rfl (Nat.le_of_ble_eq_true rfl) ⟨by decide, by decide⟩ rfl rfl d_Host_used_19 (fun r M' hr => ?_)
    obtain ⟨x6, μ5, rfl, rfl, hk⟩ := hr
    try dsimp only [Option.toList, List.cons_append, List.nil_append]
    refine go_goto (pc := 22) (tgt := 26) d_Host_used_22 rfl ?_
    exact go_ret (pc := 26) (r := some (.int x6)) d_Host_used_26 ⟨_, _, rfl, rfl, hk⟩
def wp_Host_live (a1 : Int32) (μ : Mu) (Q : Int32 → Mu → Prop) : Prop := wp_Host_isTenant a1 μ (fun x2 μ1 => (((x2 = 0) → Q (-1 : Int32) μ1) ∧ ((¬ x2 = 0) → (vp_in a1 4 ∧ wp_Ten_liveCells (Int32.toNatClampNeg a1) μ1 (fun x6 μ5 => wp_JL_bitCount x6 μ5 (fun x8 μ7 => Q x8 μ7))))))
set_option maxRecDepth 100000 in
set_option maxHeartbeats 4000000 in
theorem m_Host_live {l : Launch} {a1 : Int32}  {μ : Mu} {Q : Int32 → Mu → Prop} (hk : wp_Host_live a1 μ Q) : Mets (mE l) mt_Host_live false (rmd 3) [.ref 0, .int a1] (lay μ) (PI Q) := by
  unfold wp_Host_live at hk
  refine mets_of (L := [some (.ref 0), some (.int a1)]) (by decide) (Nat.le_of_ble_eq_true rfl) rfl ?_
  refine go_iload_n (pc := 0) (i := 1) d_Host_live_0 rfl rfl ?_
  refine go_callS (pc := 1) (m_Host_isTenant  hk) cz_Host_isTenant sm_Host_isTenant (Or.inl lk_Host_82) rfl rfl (Nat.le_of_ble_eq_true rfl) ⟨by decide, by decide⟩ rfl rfl d_Host_live_1 (fun r M' hr => ?_)
  obtain ⟨x2, μ1, rfl, rfl, hk⟩ := hr
  try dsimp only [Option.toList, List.cons_append, List.nil_append]
  refine go_if_eq (pc := 4) (tgt := 22) d_Host_live_4 rfl (fun h4 => ?_) (fun h4 => ?_)
  · replace hk := hk.1 h4
    refine go_iconst (pc := 22) (v := (-1)) d_Host_live_22 (by decide) ?_
    exact go_ret (pc := 23) (r := some (.int (-1 : Int32))) d_Host_live_23 ⟨_, _, rfl, rfl, hk⟩
  · replace hk := hk.2 h4
    refine go_aload_n (pc := 7) (i := 0) d_Host_live_7 rfl rfl ?_
    refine go_getR (pc := 8) (r := 2) sh_host rfl fl_Host_17 d_Host_live_8 ?_
    refine go_iload_n (pc := 11) (i := 1) d_Host_live_11 rfl rfl ?_
    obtain ⟨hi3, hk⟩ := hk
    have ht4 : (Int32.toNatClampNeg a1) < 4 := in_lt (n := 4) hi3
    refine go_aldR (pc := 12) (r := 23 + 17 * (Int32.toNatClampNeg a1)) sh_tenants rfl hi3 (ten_at ht4) d_Host_live_12 ?_
    refine go_callV (pc := 13) (m_Ten_liveCells ht4 hk) cz_Ten_liveCells cv_Ten_liveCells (Or.inl lk_Host_138) (lay_at (sh_ten ht4)) rfl rfl rfl (Nat.le_of_ble_eq_true rfl) ⟨by decide, by decide⟩ rfl rfl d_Host_live_13 (fun r M' hr => ?_)
    obtain ⟨x6, μ5, rfl, rfl, hk⟩ := hr
    try dsimp only [Option.toList, List.cons_append, List.nil_append]
    refine go_callS (pc := 16) (m_JL_bitCount  hk) cz_JL_bitCount sm_JL_bitCount (Or.inl lk_Host_132) rfl rfl (Nat.le_of_ble_eq_true rfl) ⟨by decide, by decide⟩ rfl rfl d_Host_live_16 (fun r M' hr => ?_)
    obtain ⟨x8, μ7, rfl, rfl, hk⟩ := hr
    try dsimp only [Option.toList, List.cons_append, List.nil_append]
    refine go_goto (pc := 19) (tgt := 23) d_Host_live_19 rfl ?_
    exact go_ret (pc := 23) (r := some (.int x8)) d_Host_live_23 ⟨_, _, rfl, rfl, hk⟩
def wp_Host_collections (a1 : Int32) (μ : Mu) (Q : Int32 → Mu → Prop) : Prop := wp_Host_isTenant a1 μ (fun x2 μ1 => (((x2 = 0) → Q (-1 : Int32) μ1) ∧ ((¬ x2 = 0) → (vp_in a1 4 ∧ Q (μ1.1 (24 + 17 * (Int32.toNatClampNeg a1)) 6) μ1))))
set_option maxRecDepth 100000 in
set_option maxHeartbeats 4000000 in
theorem m_Host_collections {l : Launch} {a1 : Int32}  {μ : Mu} {Q : Int32 → Mu → Prop} (hk : wp_Host_collections a1 μ Q) : Mets (mE l) mt_Host_collections false (rmd 1) [.ref 0, .int a1] (lay μ) (PI Q) := by
  unfold wp_Host_collections at hk
  refine mets_of (L := [some (.ref 0), some (.int a1)]) (by decide) (Nat.le_of_ble_eq_true rfl) rfl ?_
  refine go_iload_n (pc := 0) (i := 1) d_Host_collections_0 rfl rfl ?_
  refine go_callS (pc := 1) (m_Host_isTenant  hk) cz_Host_isTenant sm_Host_isTenant (Or.inl lk_Host_82) rfl rfl (Nat.le_of_ble_eq_true rfl) ⟨by decide, by decide⟩ rfl rfl d_Host_collections_1 (fun r M' hr => ?_)
  obtain ⟨x2, μ1, rfl, rfl, hk⟩ := hr
  try dsimp only [Option.toList, List.cons_append, List.nil_append]
  refine go_if_eq (pc := 4) (tgt := 22) d_Host_collections_4 rfl (fun h4 => ?_) (fun h4 => ?_)
  · replace hk := hk.1 h4
    refine go_iconst (pc := 22) (v := (-1)) d_Host_collections_22 (by decide) ?_
    exact go_ret (pc := 23) (r := some (.int (-1 : Int32))) d_Host_collections_23 ⟨_, _, rfl, rfl, hk⟩
  · replace hk := hk.2 h4
    refine go_aload_n (pc := 7) (i := 0) d_Host_collections_7 rfl rfl ?_
    refine go_getR (pc := 8) (r := 2) sh_host rfl fl_Host_17 d_Host_collections_8 ?_
    refine go_iload_n (pc := 11) (i := 1) d_Host_collections_11 rfl rfl ?_
    obtain ⟨hi3, hk⟩ := hk
    have ht4 : (Int32.toNatClampNeg a1) < 4 := in_lt (n := 4) hi3
    refine go_aldR (pc := 12) (r := 23 + 17 * (Int32.toNatClampNeg a1)) sh_tenants rfl hi3 (ten_at ht4) d_Host_collections_12 ?_
    refine go_getR (pc := 13) (r := 24 + 17 * (Int32.toNatClampNeg a1)) (sh_ten ht4) rfl fl_Host_69 d_Host_collections_13 ?_
    refine go_getI (pc := 16) (sh_heap ht4) rfl fl_Host_142 d_Host_collections_16 ?_
    refine go_goto (pc := 19) (tgt := 23) d_Host_collections_19 rfl ?_
    exact go_ret (pc := 23) (r := some (.int (μ1.1 (24 + 17 * (Int32.toNatClampNeg a1)) 6))) d_Host_collections_23 ⟨_, _, rfl, rfl, hk⟩
def wp_Host_ended (a1 : Int32) (μ : Mu) (Q : Int32 → Mu → Prop) : Prop := wp_Host_isTenant a1 μ (fun x2 μ1 => (((x2 = 0) → Q (-1 : Int32) μ1) ∧ ((¬ x2 = 0) → (vp_in a1 4 ∧ Q (μ1.1 (23 + 17 * (Int32.toNatClampNeg a1)) 12) μ1))))
set_option maxRecDepth 100000 in
set_option maxHeartbeats 4000000 in
theorem m_Host_ended {l : Launch} {a1 : Int32}  {μ : Mu} {Q : Int32 → Mu → Prop} (hk : wp_Host_ended a1 μ Q) : Mets (mE l) mt_Host_ended false (rmd 1) [.ref 0, .int a1] (lay μ) (PI Q) := by
  unfold wp_Host_ended at hk
  refine mets_of (L := [some (.ref 0), some (.int a1)]) (by decide) (Nat.le_of_ble_eq_true rfl) rfl ?_
  refine go_iload_n (pc := 0) (i := 1) d_Host_ended_0 rfl rfl ?_
  refine go_callS (pc := 1) (m_Host_isTenant  hk) cz_Host_isTenant sm_Host_isTenant (Or.inl lk_Host_82) rfl rfl (Nat.le_of_ble_eq_true rfl) ⟨by decide, by decide⟩ rfl rfl d_Host_ended_1 (fun r M' hr => ?_)
  obtain ⟨x2, μ1, rfl, rfl, hk⟩ := hr
  try dsimp only [Option.toList, List.cons_append, List.nil_append]
  refine go_if_eq (pc := 4) (tgt := 19) d_Host_ended_4 rfl (fun h4 => ?_) (fun h4 => ?_)
  · replace hk := hk.1 h4
    refine go_iconst (pc := 19) (v := (-1)) d_Host_ended_19 (by decide) ?_
    exact go_ret (pc := 20) (r := some (.int (-1 : Int32))) d_Host_ended_20 ⟨_, _, rfl, rfl, hk⟩
  · replace hk := hk.2 h4
    refine go_aload_n (pc := 7) (i := 0) d_Host_ended_7 rfl rfl ?_
    refine go_getR (pc := 8) (r := 2) sh_host rfl fl_Host_17 d_Host_ended_8 ?_
    refine go_iload_n (pc := 11) (i := 1) d_Host_ended_11 rfl rfl ?_
    obtain ⟨hi3, hk⟩ := hk
    have ht4 : (Int32.toNatClampNeg a1) < 4 := in_lt (n := 4) hi3
    refine go_aldR (pc := 12) (r := 23 + 17 * (Int32.toNatClampNeg a1)) sh_tenants rfl hi3 (ten_at ht4) d_Host_ended_12 ?_
    refine go_getI (pc := 13) (sh_ten ht4) rfl fl_Host_145 d_Host_ended_13 ?_
    refine go_goto (pc := 16) (tgt := 20) d_Host_ended_16 rfl ?_
    exact go_ret (pc := 20) (r := some (.int (μ1.1 (23 + 17 * (Int32.toNatClampNeg a1)) 12))) d_Host_ended_20 ⟨_, _, rfl, rfl, hk⟩
def wp_Host_messages (a1 : Int32) (μ : Mu) (Q : Int32 → Mu → Prop) : Prop := wp_Host_isTenant a1 μ (fun x2 μ1 => (((x2 = 0) → Q (-1 : Int32) μ1) ∧ ((¬ x2 = 0) → (vp_in a1 4 ∧ Q (μ1.1 (33 + 17 * (Int32.toNatClampNeg a1)) 1) μ1))))
set_option maxRecDepth 100000 in
set_option maxHeartbeats 4000000 in
theorem m_Host_messages {l : Launch} {a1 : Int32}  {μ : Mu} {Q : Int32 → Mu → Prop} (hk : wp_Host_messages a1 μ Q) : Mets (mE l) mt_Host_messages false (rmd 1) [.ref 0, .int a1] (lay μ) (PI Q) := by
  unfold wp_Host_messages at hk
  refine mets_of (L := [some (.ref 0), some (.int a1)]) (by decide) (Nat.le_of_ble_eq_true rfl) rfl ?_
  refine go_iload_n (pc := 0) (i := 1) d_Host_messages_0 rfl rfl ?_
  refine go_callS (pc := 1) (m_Host_isTenant  hk) cz_Host_isTenant sm_Host_isTenant (Or.inl lk_Host_82) rfl rfl (Nat.le_of_ble_eq_true rfl) ⟨by decide, by decide⟩ rfl rfl d_Host_messages_1 (fun r M' hr => ?_)
  obtain ⟨x2, μ1, rfl, rfl, hk⟩ := hr
  try dsimp only [Option.toList, List.cons_append, List.nil_append]
  refine go_if_eq (pc := 4) (tgt := 22) d_Host_messages_4 rfl (fun h4 => ?_) (fun h4 => ?_)
  · replace hk := hk.1 h4
    refine go_iconst (pc := 22) (v := (-1)) d_Host_messages_22 (by decide) ?_
    exact go_ret (pc := 23) (r := some (.int (-1 : Int32))) d_Host_messages_23 ⟨_, _, rfl, rfl, hk⟩
  · replace hk := hk.2 h4
    refine go_aload_n (pc := 7) (i := 0) d_Host_messages_7 rfl rfl ?_
    refine go_getR (pc := 8) (r := 2) sh_host rfl fl_Host_17 d_Host_messages_8 ?_
    refine go_iload_n (pc := 11) (i := 1) d_Host_messages_11 rfl rfl ?_
    obtain ⟨hi3, hk⟩ := hk
    have ht4 : (Int32.toNatClampNeg a1) < 4 := in_lt (n := 4) hi3
    refine go_aldR (pc := 12) (r := 23 + 17 * (Int32.toNatClampNeg a1)) sh_tenants rfl hi3 (ten_at ht4) d_Host_messages_12 ?_
    refine go_getR (pc := 13) (r := 33 + 17 * (Int32.toNatClampNeg a1)) (sh_ten ht4) rfl fl_Host_148 d_Host_messages_13 ?_
    refine go_getI (pc := 16) (isl_mail ht4).1 rfl fl_Host_151 d_Host_messages_16 ?_
    refine go_goto (pc := 19) (tgt := 23) d_Host_messages_19 rfl ?_
    exact go_ret (pc := 23) (r := some (.int (μ1.1 (33 + 17 * (Int32.toNatClampNeg a1)) 1))) d_Host_messages_23 ⟨_, _, rfl, rfl, hk⟩
def wp_Host_output (a1 : Int32) (a2 : Int32) (μ : Mu) (Q : Int32 → Mu → Prop) : Prop := wp_Host_isTenant a1 μ (fun x2 μ1 => (((¬ x2 = 0) → (((¬ a2 = (-1 : Int32)) → (vp_in a1 4 ∧ wp_Line_itemAt (37 + 17 * (Int32.toNatClampNeg a1)) 16 a2 μ1 (fun x6 μ5 => Q x6 μ5))) ∧ ((a2 = (-1 : Int32)) → (vp_in a1 4 ∧ Q (μ1.1 (37 + 17 * (Int32.toNatClampNeg a1)) 1) μ1)))) ∧ ((x2 = 0) → Q (0 : Int32) μ1)))
set_option maxRecDepth 100000 in
set_option maxHeartbeats 4000000 in
theorem m_Host_output {l : Launch} {a1 : Int32} {a2 : Int32}  {μ : Mu} {Q : Int32 → Mu → Prop} (hk : wp_Host_output a1 a2 μ Q) : Mets (mE l) mt_Host_output false (rmd 1) [.ref 0, .int a1, .int a2] (lay μ) (PI Q) := by
  unfold wp_Host_output at hk
  refine mets_of (L := [some (.ref 0), some (.int a1), some (.int a2)]) (by decide) (Nat.le_of_ble_eq_true rfl) rfl ?_
  refine go_iload_n (pc := 0) (i := 1) d_Host_output_0 rfl rfl ?_
  refine go_callS (pc := 1) (m_Host_isTenant  hk) cz_Host_isTenant sm_Host_isTenant (Or.inl lk_Host_82) rfl rfl (Nat.le_of_ble_eq_true rfl) ⟨by decide, by decide⟩ rfl rfl d_Host_output_1 (fun r M' hr => ?_)
  obtain ⟨x2, μ1, rfl, rfl, hk⟩ := hr
  try dsimp only [Option.toList, List.cons_append, List.nil_append]
  refine go_if_ne (pc := 4) (tgt := 9) d_Host_output_4 rfl (fun h4 => ?_) (fun h4 => ?_)
  · replace hk := hk.1 h4
    refine go_iload_n (pc := 9) (i := 2) d_Host_output_9 rfl rfl ?_
    refine go_iconst (pc := 10) (v := (-1)) d_Host_output_10 (by decide) ?_
    refine go_icmp_ne (pc := 11) (tgt := 29) d_Host_output_11 rfl (fun h11 => ?_) (fun h11 => ?_)
    · replace hk := hk.1 h11
      refine go_aload_n (pc := 29) (i := 0) d_Host_output_29 rfl rfl ?_
      refine go_getR (pc := 30) (r := 2) sh_host rfl fl_Host_17 d_Host_output_30 ?_
      refine go_iload_n (pc := 33) (i := 1) d_Host_output_33 rfl rfl ?_
      obtain ⟨hi3, hk⟩ := hk
      have ht4 : (Int32.toNatClampNeg a1) < 4 := in_lt (n := 4) hi3
      refine go_aldR (pc := 34) (r := 23 + 17 * (Int32.toNatClampNeg a1)) sh_tenants rfl hi3 (ten_at ht4) d_Host_output_34 ?_
      refine go_getR (pc := 35) (r := 37 + 17 * (Int32.toNatClampNeg a1)) (sh_ten ht4) rfl fl_Host_154 d_Host_output_35 ?_
      refine go_iload_n (pc := 38) (i := 2) d_Host_output_38 rfl rfl ?_
      refine go_callV (pc := 39) (m_Line_itemAt (isl_outputs ht4) hk) cz_Line_itemAt cv_Line_itemAt (Or.inl lk_Host_157) (lay_at (isl_outputs ht4).1) rfl rfl rfl (Nat.le_of_ble_eq_true rfl) ⟨by decide, by decide⟩ rfl rfl d_Host_output_39 (fun r M' hr => ?_)
      obtain ⟨x6, μ5, rfl, rfl, hk⟩ := hr
      try dsimp only [Option.toList, List.cons_append, List.nil_append]
      exact go_ret (pc := 42) (r := some (.int x6)) d_Host_output_42 ⟨_, _, rfl, rfl, hk⟩
    · replace hk := hk.2 h11
      refine go_aload_n (pc := 14) (i := 0) d_Host_output_14 rfl rfl ?_
      refine go_getR (pc := 15) (r := 2) sh_host rfl fl_Host_17 d_Host_output_15 ?_
      refine go_iload_n (pc := 18) (i := 1) d_Host_output_18 rfl rfl ?_
      obtain ⟨hi7, hk⟩ := hk
      have ht8 : (Int32.toNatClampNeg a1) < 4 := in_lt (n := 4) hi7
      refine go_aldR (pc := 19) (r := 23 + 17 * (Int32.toNatClampNeg a1)) sh_tenants rfl hi7 (ten_at ht8) d_Host_output_19 ?_
      refine go_getR (pc := 20) (r := 37 + 17 * (Int32.toNatClampNeg a1)) (sh_ten ht8) rfl fl_Host_154 d_Host_output_20 ?_
      refine go_getI (pc := 23) (isl_outputs ht8).1 rfl fl_Host_151 d_Host_output_23 ?_
      refine go_goto (pc := 26) (tgt := 42) d_Host_output_26 rfl ?_
      exact go_ret (pc := 42) (r := some (.int (μ1.1 (37 + 17 * (Int32.toNatClampNeg a1)) 1))) d_Host_output_42 ⟨_, _, rfl, rfl, hk⟩
  · replace hk := hk.2 h4
    refine go_iconst (pc := 7) (v := 0) d_Host_output_7 (by decide) ?_
    exact go_ret (pc := 8) (r := some (.int (0 : Int32))) d_Host_output_8 ⟨_, _, rfl, rfl, hk⟩
def wp_Host_local (a1 : Int32) (a2 : Int32) (μ : Mu) (Q : Int32 → Mu → Prop) : Prop := wp_Host_isTenant a1 μ (fun x2 μ1 => (((x2 = 0) → Q (0 : Int32) μ1) ∧ ((¬ x2 = 0) → (((a2 < 0) → Q (0 : Int32) μ1) ∧ ((¬ a2 < 0) → ((((2 : Int32) ≤ a2) → Q (0 : Int32) μ1) ∧ ((¬ (2 : Int32) ≤ a2) → (vp_in a1 4 ∧ (vp_in a2 4 ∧ Q (μ1.2.1 (32 + 17 * (Int32.toNatClampNeg a1)) (Int32.toNatClampNeg a2)) μ1)))))))))
set_option maxRecDepth 100000 in
set_option maxHeartbeats 4000000 in
theorem m_Host_local {l : Launch} {a1 : Int32} {a2 : Int32}  {μ : Mu} {Q : Int32 → Mu → Prop} (hk : wp_Host_local a1 a2 μ Q) : Mets (mE l) mt_Host_local false (rmd 1) [.ref 0, .int a1, .int a2] (lay μ) (PI Q) := by
  unfold wp_Host_local at hk
  refine mets_of (L := [some (.ref 0), some (.int a1), some (.int a2)]) (by decide) (Nat.le_of_ble_eq_true rfl) rfl ?_
  refine go_iload_n (pc := 0) (i := 1) d_Host_local_0 rfl rfl ?_
  refine go_callS (pc := 1) (m_Host_isTenant  hk) cz_Host_isTenant sm_Host_isTenant (Or.inl lk_Host_82) rfl rfl (Nat.le_of_ble_eq_true rfl) ⟨by decide, by decide⟩ rfl rfl d_Host_local_1 (fun r M' hr => ?_)
  obtain ⟨x2, μ1, rfl, rfl, hk⟩ := hr
  try dsimp only [Option.toList, List.cons_append, List.nil_append]
  refine go_if_eq (pc := 4) (tgt := 30) d_Host_local_4 rfl (fun h4 => ?_) (fun h4 => ?_)
  · replace hk := hk.1 h4
    refine go_iconst (pc := 30) (v := 0) d_Host_local_30 (by decide) ?_
    exact go_ret (pc := 31) (r := some (.int (0 : Int32))) d_Host_local_31 ⟨_, _, rfl, rfl, hk⟩
  · replace hk := hk.2 h4
    refine go_iload_n (pc := 7) (i := 2) d_Host_local_7 rfl rfl ?_
    refine go_if_lt (pc := 8) (tgt := 30) d_Host_local_8 rfl (fun h8 => ?_) (fun h8 => ?_)
    · replace hk := hk.1 h8
      refine go_iconst (pc := 30) (v := 0) d_Host_local_30 (by decide) ?_
      exact go_ret (pc := 31) (r := some (.int (0 : Int32))) d_Host_local_31 ⟨_, _, rfl, rfl, hk⟩
    · replace hk := hk.2 h8
      refine go_iload_n (pc := 11) (i := 2) d_Host_local_11 rfl rfl ?_
      refine go_iconst (pc := 12) (v := 2) d_Host_local_12 (by decide) ?_
      refine go_icmp_ge (pc := 13) (tgt := 30) d_Host_local_13 rfl (fun h13 => ?_) (fun h13 => ?_)
      · replace hk := hk.1 h13
        refine go_iconst (pc := 30) (v := 0) d_Host_local_30 (by decide) ?_
        exact go_ret (pc := 31) (r := some (.int (0 : Int32))) d_Host_local_31 ⟨_, _, rfl, rfl, hk⟩
      · replace hk := hk.2 h13
        refine go_aload_n (pc := 16) (i := 0) d_Host_local_16 rfl rfl ?_
        refine go_getR (pc := 17) (r := 2) sh_host rfl fl_Host_17 d_Host_local_17 ?_
        refine go_iload_n (pc := 20) (i := 1) d_Host_local_20 rfl rfl ?_
        obtain ⟨hi3, hk⟩ := hk
        have ht4 : (Int32.toNatClampNeg a1) < 4 := in_lt (n := 4) hi3
        refine go_aldR (pc := 21) (r := 23 + 17 * (Int32.toNatClampNeg a1)) sh_tenants rfl hi3 (ten_at ht4) d_Host_local_21 ?_
        refine go_getR (pc := 22) (r := 32 + 17 * (Int32.toNatClampNeg a1)) (sh_ten ht4) rfl fl_Host_160 d_Host_local_22 ?_
        refine go_iload_n (pc := 25) (i := 2) d_Host_local_25 rfl rfl ?_
        obtain ⟨hi5, hk⟩ := hk
        refine go_aldI (pc := 26) (sh_locs ht4) hi5 d_Host_local_26 ?_
        refine go_goto (pc := 27) (tgt := 31) d_Host_local_27 rfl ?_
        exact go_ret (pc := 31) (r := some (.int (μ1.2.1 (32 + 17 * (Int32.toNatClampNeg a1)) (Int32.toNatClampNeg a2)))) d_Host_local_31 ⟨_, _, rfl, rfl, hk⟩
def wp_Host_look_j72_46 (w2 : Int32) (w3 : Int32) (u4 : Nat) (j5 : Int32) (j6 : Int32) (s0 : Int32) (μ : Mu) (Rec : Int32 → Int32 → Mu → Prop) (K0 : Int32 → Int32 → Mu → Prop) (Q : Int32 → Mu → Prop) : Prop := (((s0 = 0) → (vp_in j5 33 ∧ Rec (μ.2.1 (26 + 17 * u4) (Int32.toNatClampNeg j5)) (j6 + 1) μ)) ∧ ((¬ s0 = 0) → (vp_in j5 33 ∧ Rec (μ.2.1 (27 + 17 * u4) (Int32.toNatClampNeg j5)) (j6 + 1) μ)))
set_option maxRecDepth 100000 in
set_option maxHeartbeats 4000000 in
theorem g_Host_look_j72_46 {l : Launch} {w2 : Int32} {w3 : Int32} {u4 : Nat} {j5 : Int32} {j6 : Int32} {s0 : Int32} (hu4 : u4 < 4) {Rec : Int32 → Int32 → Mu → Prop} {K0 : Int32 → Int32 → Mu → Prop} {Q : Int32 → Mu → Prop} (hRec : ∀ (v5 : Int32) (v6 : Int32) (μ : Mu), Rec v5 v6 μ → Go (mE l) mt_Host_look false (rmd 1) 0 0 46 [none, none, some (.int w2), some (.int w3), some (.ref (24 + 17 * u4)), some (.int v5), some (.int v6), none] [] (lay μ) (PI Q)) (hK0 : ∀ (v5 : Int32) (v6 : Int32) (μ : Mu), K0 v5 v6 μ → Go (mE l) mt_Host_look false (rmd 1) 0 0 106 [none, none, some (.int w2), some (.int w3), some (.ref (24 + 17 * u4)), some (.int v5), some (.int v6), none] [] (lay μ) (PI Q)) {μ : Mu} (hk : wp_Host_look_j72_46 w2 w3 u4 j5 j6 s0 μ Rec K0 Q) : Go (mE l) mt_Host_look false (rmd 1) 0 0 72 [none, none, some (.int w2), some (.int w3), some (.ref (24 + 17 * u4)), some (.int j5), some (.int j6), none] [.int s0] (lay μ) (PI Q) := by
  unfold wp_Host_look_j72_46 at hk
  refine go_istore (pc := 72) (L' := [none, none, some (.int w2), some (.int w3), some (.ref (24 + 17 * u4)), some (.int j5), some (.int j6), some (.int s0)]) d_Host_look_72 (by decide) rfl ?_
  refine go_iload (pc := 74) d_Host_look_74 rfl ?_
  refine go_if_eq (pc := 76) (tgt := 90) d_Host_look_76 rfl (fun h76 => ?_) (fun h76 => ?_)
  · replace hk := hk.1 h76
    refine go_aload (pc := 90) d_Host_look_90 rfl ?_
    refine go_getR (pc := 92) (r := 26 + 17 * u4) (sh_heap hu4) rfl fl_Host_166 d_Host_look_92 ?_
    refine go_iload (pc := 95) d_Host_look_95 rfl ?_
    obtain ⟨hi7, hk⟩ := hk
    refine go_aldI (pc := 97) (sh_lefts hu4) hi7 d_Host_look_97 ?_
    refine go_istore (pc := 98) (L' := [none, none, some (.int w2), some (.int w3), some (.ref (24 + 17 * u4)), some (.int (μ.2.1 (26 + 17 * u4) (Int32.toNatClampNeg j5))), some (.int j6), some (.int s0)]) d_Host_look_98 (by decide) rfl ?_
    refine go_iinc (pc := 100) (v := (j6 + 1)) (L' := [none, none, some (.int w2), some (.int w3), some (.ref (24 + 17 * u4)), some (.int (μ.2.1 (26 + 17 * u4) (Int32.toNatClampNeg j5))), some (.int (j6 + 1)), some (.int s0)]) d_Host_look_100 rfl rfl (by decide) rfl ?_
    refine go_goto (pc := 103) (tgt := 46) d_Host_look_103 rfl ?_
    refine go_weak (L' := [none, none, some (.int w2), some (.int w3), some (.ref (24 + 17 * u4)), some (.int (μ.2.1 (26 + 17 * u4) (Int32.toNatClampNeg j5))), some (.int (j6 + 1)), none]) (lle_at (by simp [lle])) ?_
    exact hRec _ _ _ hk
  · replace hk := hk.2 h76
    refine go_aload (pc := 79) d_Host_look_79 rfl ?_
    refine go_getR (pc := 81) (r := 27 + 17 * u4) (sh_heap hu4) rfl fl_Host_163 d_Host_look_81 ?_
    refine go_iload (pc := 84) d_Host_look_84 rfl ?_
    obtain ⟨hi8, hk⟩ := hk
    refine go_aldI (pc := 86) (sh_rights hu4) hi8 d_Host_look_86 ?_
    refine go_goto (pc := 87) (tgt := 98) d_Host_look_87 rfl ?_
    refine go_istore (pc := 98) (L' := [none, none, some (.int w2), some (.int w3), some (.ref (24 + 17 * u4)), some (.int (μ.2.1 (27 + 17 * u4) (Int32.toNatClampNeg j5))), some (.int j6), some (.int s0)]) d_Host_look_98 (by decide) rfl ?_
    refine go_iinc (pc := 100) (v := (j6 + 1)) (L' := [none, none, some (.int w2), some (.int w3), some (.ref (24 + 17 * u4)), some (.int (μ.2.1 (27 + 17 * u4) (Int32.toNatClampNeg j5))), some (.int (j6 + 1)), some (.int s0)]) d_Host_look_100 rfl rfl (by decide) rfl ?_
    refine go_goto (pc := 103) (tgt := 46) d_Host_look_103 rfl ?_
    refine go_weak (L' := [none, none, some (.int w2), some (.int w3), some (.ref (24 + 17 * u4)), some (.int (μ.2.1 (27 + 17 * u4) (Int32.toNatClampNeg j5))), some (.int (j6 + 1)), none]) (lle_at (by simp [lle])) ?_
    exact hRec _ _ _ hk
def wp_Host_look_46 (w2 : Int32) (w3 : Int32) (u4 : Nat) (K0 : Int32 → Int32 → Mu → Prop) (Q : Int32 → Mu → Prop) : Nat → Int32 → Int32 → Mu → Prop
  | 0, _, _, _ => False
  | n46 + 1, v5, v6, μ => (((w3 ≤ v6) → K0 v5 v6 μ) ∧ ((¬ w3 ≤ v6) → (((v5 = 0) → K0 v5 v6 μ) ∧ ((¬ v5 = 0) → (((¬ ((w2 >>> (v6 &&& 31)) &&& (1 : Int32)) = (1 : Int32)) → wp_Host_look_j72_46 w2 w3 u4 v5 v6 (0 : Int32) μ (wp_Host_look_46 w2 w3 u4 K0 Q n46) K0 Q) ∧ ((((w2 >>> (v6 &&& 31)) &&& (1 : Int32)) = (1 : Int32)) → wp_Host_look_j72_46 w2 w3 u4 v5 v6 (1 : Int32) μ (wp_Host_look_46 w2 w3 u4 K0 Q n46) K0 Q))))))
set_option maxRecDepth 100000 in
set_option maxHeartbeats 4000000 in
theorem g_Host_look_46 {l : Launch} {w2 : Int32} {w3 : Int32} {u4 : Nat} (hu4 : u4 < 4) {K0 : Int32 → Int32 → Mu → Prop} {Q : Int32 → Mu → Prop} (hK0 : ∀ (v5 : Int32) (v6 : Int32) (μ : Mu), K0 v5 v6 μ → Go (mE l) mt_Host_look false (rmd 1) 0 0 106 [none, none, some (.int w2), some (.int w3), some (.ref (24 + 17 * u4)), some (.int v5), some (.int v6), none] [] (lay μ) (PI Q)) : ∀ (n : Nat) (v5 : Int32) (v6 : Int32) (μ : Mu), wp_Host_look_46 w2 w3 u4 K0 Q n v5 v6 μ → Go (mE l) mt_Host_look false (rmd 1) 0 0 46 [none, none, some (.int w2), some (.int w3), some (.ref (24 + 17 * u4)), some (.int v5), some (.int v6), none] [] (lay μ) (PI Q) := by
  intro n
  induction n with
  | zero => intro v5 v6 μ hk; exact hk.elim
  | succ n ih =>
    intro v5 v6 μ hk
    unfold wp_Host_look_46 at hk
    refine go_iload (pc := 46) d_Host_look_46 rfl ?_
    refine go_iload_n (pc := 48) (i := 3) d_Host_look_48 rfl rfl ?_
    refine go_icmp_ge (pc := 49) (tgt := 106) d_Host_look_49 rfl (fun h49 => ?_) (fun h49 => ?_)
    · replace hk := hk.1 h49
      exact hK0 _ _ _ hk
    · replace hk := hk.2 h49
      refine go_iload (pc := 52) d_Host_look_52 rfl ?_
      refine go_if_eq (pc := 54) (tgt := 106) d_Host_look_54 rfl (fun h54 => ?_) (fun h54 => ?_)
      · replace hk := hk.1 h54
        exact hK0 _ _ _ hk
      · replace hk := hk.2 h54
        refine go_iload_n (pc := 57) (i := 2) d_Host_look_57 rfl rfl ?_
        refine go_iload (pc := 58) d_Host_look_58 rfl ?_
        refine go_ishr (pc := 60) d_Host_look_60 ?_
        refine go_iconst (pc := 61) (v := 1) d_Host_look_61 (by decide) ?_
        refine go_iand (pc := 62) d_Host_look_62 ?_
        refine go_iconst (pc := 63) (v := 1) d_Host_look_63 (by decide) ?_
        refine go_icmp_ne (pc := 64) (tgt := 71) d_Host_look_64 rfl (fun h64 => ?_) (fun h64 => ?_)
        · replace hk := hk.1 h64
          refine go_iconst (pc := 71) (v := 0) d_Host_look_71 (by decide) ?_
          exact g_Host_look_j72_46 hu4 ih hK0 hk
        · replace hk := hk.2 h64
          refine go_iconst (pc := 67) (v := 1) d_Host_look_67 (by decide) ?_
          refine go_goto (pc := 68) (tgt := 72) d_Host_look_68 rfl ?_
          exact g_Host_look_j72_46 hu4 ih hK0 hk
def wp_Host_look (a1 : Int32) (a2 : Int32) (a3 : Int32) (μ : Mu) (Q : Int32 → Mu → Prop) : Prop := wp_Host_isTenant a1 μ (fun x2 μ1 => (((x2 = 0) → Q (0 : Int32) μ1) ∧ ((¬ x2 = 0) → (((a3 < 0) → Q (0 : Int32) μ1) ∧ ((¬ a3 < 0) → (((a3 ≤ (30 : Int32)) → (vp_in a1 4 ∧ (vp_in a1 4 ∧ (∃ n46, wp_Host_look_46 a2 a3 (Int32.toNatClampNeg a1) (fun v9 v10 μ11 => (((¬ v9 = 0) → (vp_in v9 33 ∧ Q (μ11.2.1 (25 + 17 * (Int32.toNatClampNeg a1)) (Int32.toNatClampNeg v9)) μ11)) ∧ ((v9 = 0) → Q (0 : Int32) μ11))) Q n46 (μ1.2.1 (32 + 17 * (Int32.toNatClampNeg a1)) (Int32.toNatClampNeg (2 : Int32))) (0 : Int32) μ1)))) ∧ ((¬ a3 ≤ (30 : Int32)) → Q (0 : Int32) μ1)))))))
set_option maxRecDepth 100000 in
set_option maxHeartbeats 4000000 in
theorem m_Host_look {l : Launch} {a1 : Int32} {a2 : Int32} {a3 : Int32}  {μ : Mu} {Q : Int32 → Mu → Prop} (hk : wp_Host_look a1 a2 a3 μ Q) : Mets (mE l) mt_Host_look false (rmd 1) [.ref 0, .int a1, .int a2, .int a3] (lay μ) (PI Q) := by
  unfold wp_Host_look at hk
  refine mets_of (L := [some (.ref 0), some (.int a1), some (.int a2), some (.int a3), none, none, none, none]) (by decide) (Nat.le_of_ble_eq_true rfl) rfl ?_
  refine go_iload_n (pc := 0) (i := 1) d_Host_look_0 rfl rfl ?_
  refine go_callS (pc := 1) (m_Host_isTenant  hk) cz_Host_isTenant sm_Host_isTenant (Or.inl lk_Host_82) rfl rfl (Nat.le_of_ble_eq_true rfl) ⟨by decide, by decide⟩ rfl rfl d_Host_look_1 (fun r M' hr => ?_)
  obtain ⟨x2, μ1, rfl, rfl, hk⟩ := hr
  try dsimp only [Option.toList, List.cons_append, List.nil_append]
  refine go_if_eq (pc := 4) (tgt := 17) d_Host_look_4 rfl (fun h4 => ?_) (fun h4 => ?_)
  · replace hk := hk.1 h4
    refine go_iconst (pc := 17) (v := 0) d_Host_look_17 (by decide) ?_
    exact go_ret (pc := 18) (r := some (.int (0 : Int32))) d_Host_look_18 ⟨_, _, rfl, rfl, hk⟩
  · replace hk := hk.2 h4
    refine go_iload_n (pc := 7) (i := 3) d_Host_look_7 rfl rfl ?_
    refine go_if_lt (pc := 8) (tgt := 17) d_Host_look_8 rfl (fun h8 => ?_) (fun h8 => ?_)
    · replace hk := hk.1 h8
      refine go_iconst (pc := 17) (v := 0) d_Host_look_17 (by decide) ?_
      exact go_ret (pc := 18) (r := some (.int (0 : Int32))) d_Host_look_18 ⟨_, _, rfl, rfl, hk⟩
    · replace hk := hk.2 h8
      refine go_iload_n (pc := 11) (i := 3) d_Host_look_11 rfl rfl ?_
      refine go_bipush (pc := 12) (v := 30) d_Host_look_12 (by decide) ?_
      refine go_icmp_le (pc := 14) (tgt := 19) d_Host_look_14 rfl (fun h14 => ?_) (fun h14 => ?_)
      · replace hk := hk.1 h14
        refine go_aload_n (pc := 19) (i := 0) d_Host_look_19 rfl rfl ?_
        refine go_getR (pc := 20) (r := 2) sh_host rfl fl_Host_17 d_Host_look_20 ?_
        refine go_iload_n (pc := 23) (i := 1) d_Host_look_23 rfl rfl ?_
        obtain ⟨hi3, hk⟩ := hk
        have ht4 : (Int32.toNatClampNeg a1) < 4 := in_lt (n := 4) hi3
        refine go_aldR (pc := 24) (r := 23 + 17 * (Int32.toNatClampNeg a1)) sh_tenants rfl hi3 (ten_at ht4) d_Host_look_24 ?_
        refine go_getR (pc := 25) (r := 24 + 17 * (Int32.toNatClampNeg a1)) (sh_ten ht4) rfl fl_Host_69 d_Host_look_25 ?_
        refine go_astore (pc := 28) (L' := [some (.ref 0), some (.int a1), some (.int a2), some (.int a3), some (.ref (24 + 17 * (Int32.toNatClampNeg a1))), none, none, none]) d_Host_look_28 (by decide) rfl ?_
        refine go_aload_n (pc := 30) (i := 0) d_Host_look_30 rfl rfl ?_
        refine go_getR (pc := 31) (r := 2) sh_host rfl fl_Host_17 d_Host_look_31 ?_
        refine go_iload_n (pc := 34) (i := 1) d_Host_look_34 rfl rfl ?_
        obtain ⟨hi5, hk⟩ := hk
        have ht6 : (Int32.toNatClampNeg a1) < 4 := in_lt (n := 4) hi5
        refine go_aldR (pc := 35) (r := 23 + 17 * (Int32.toNatClampNeg a1)) sh_tenants rfl hi5 (ten_at ht6) d_Host_look_35 ?_
        refine go_getR (pc := 36) (r := 32 + 17 * (Int32.toNatClampNeg a1)) (sh_ten ht6) rfl fl_Host_160 d_Host_look_36 ?_
        refine go_iconst (pc := 39) (v := 2) d_Host_look_39 (by decide) ?_
        refine go_aldI (pc := 40) (sh_locs ht6) (in_c (by decide) (by decide)) d_Host_look_40 ?_
        refine go_istore (pc := 41) (L' := [some (.ref 0), some (.int a1), some (.int a2), some (.int a3), some (.ref (24 + 17 * (Int32.toNatClampNeg a1))), some (.int (μ1.2.1 (32 + 17 * (Int32.toNatClampNeg a1)) (Int32.toNatClampNeg (2 : Int32)))), none, none]) d_Host_look_41 (by decide) rfl ?_
        refine go_iconst (pc := 43) (v := 0) d_Host_look_43 (by decide) ?_
        refine go_istore (pc := 44) (L' := [some (.ref 0), some (.int a1), some (.int a2), some (.int a3), some (.ref (24 + 17 * (Int32.toNatClampNeg a1))), some (.int (μ1.2.1 (32 + 17 * (Int32.toNatClampNeg a1)) (Int32.toNatClampNeg (2 : Int32)))), some (.int (0 : Int32)), none]) d_Host_look_44 (by decide) rfl ?_
        obtain ⟨n, hk⟩ := hk
        refine go_weak (L' := [none, none, some (.int a2), some (.int a3), some (.ref (24 + 17 * (Int32.toNatClampNeg a1))), some (.int (μ1.2.1 (32 + 17 * (Int32.toNatClampNeg a1)) (Int32.toNatClampNeg (2 : Int32)))), some (.int (0 : Int32)), none]) (lle_at (by simp [lle])) ?_
        refine g_Host_look_46 ht4 (fun v9 v10 μ11 hk => ?_) n _ _ _ hk
        · try dsimp only at hk
          refine go_iload (pc := 106) d_Host_look_106 rfl ?_
          refine go_if_ne (pc := 108) (tgt := 115) d_Host_look_108 rfl (fun h108 => ?_) (fun h108 => ?_)
          · replace hk := hk.1 h108
            refine go_aload (pc := 115) d_Host_look_115 rfl ?_
            refine go_getR (pc := 117) (r := 25 + 17 * (Int32.toNatClampNeg a1)) (sh_heap ht4) rfl fl_Host_169 d_Host_look_117 ?_
            refine go_iload (pc := 120) d_Host_look_120 rfl ?_
            obtain ⟨hi12, hk⟩ := hk
            refine go_aldI (pc := 122) (sh_nums ht4) hi12 d_Host_look_122 ?_
            exact go_ret (pc := 123) (r := some (.int (μ11.2.1 (25 + 17 * (Int32.toNatClampNeg a1)) (Int32.toNatClampNeg v9)))) d_Host_look_123 ⟨_, _, rfl, rfl, hk⟩
          · replace hk := hk.2 h108
            refine go_iconst (pc := 111) (v := 0) d_Host_look_111 (by decide) ?_
            refine go_goto (pc := 112) (tgt := 123) d_Host_look_112 rfl ?_
            exact go_ret (pc := 123) (r := some (.int (0 : Int32))) d_Host_look_123 ⟨_, _, rfl, rfl, hk⟩
      · replace hk := hk.2 h14
        refine go_iconst (pc := 17) (v := 0) d_Host_look_17 (by decide) ?_
        exact go_ret (pc := 18) (r := some (.int (0 : Int32))) d_Host_look_18 ⟨_, _, rfl, rfl, hk⟩
def wp_Law_cell (sn : Nat) (sx : Nat → Int32) (a2 : Int32) (μ : Mu) (Q : Int32 → Mu → Prop) : Prop := ((((Int32.ofNat sn) ≤ a2) → Q (0 : Int32) μ) ∧ ((¬ (Int32.ofNat sn) ≤ a2) → (vp_in a2 sn ∧ Q (sx (Int32.toNatClampNeg a2)) μ)))
set_option maxRecDepth 100000 in
set_option maxHeartbeats 4000000 in
theorem m_Law_cell {l : Launch} {sn : Nat} {sx : Nat → Int32} {a2 : Int32}  {μ : Mu} {Q : Int32 → Mu → Prop} (hk : wp_Law_cell sn sx a2 μ Q) : Mets (l, scT sn sx) mt_Law_cell false (rmd 0) [.ref 100003, .int a2] (lay μ) (PI Q) := by
  unfold wp_Law_cell at hk
  refine mets_of (L := [some (.ref 100003), some (.int a2)]) (by decide) (Nat.le_of_ble_eq_true rfl) rfl ?_
  refine go_iload_n (pc := 0) (i := 1) d_Law_cell_0 rfl rfl ?_
  refine go_aload_n (pc := 1) (i := 0) d_Law_cell_1 rfl rfl ?_
  refine go_scn (pc := 2) rfl d_Law_cell_2 ?_
  refine go_icmp_ge (pc := 3) (tgt := 12) d_Law_cell_3 rfl (fun h3 => ?_) (fun h3 => ?_)
  · replace hk := hk.1 h3
    refine go_iconst (pc := 12) (v := 0) d_Law_cell_12 (by decide) ?_
    exact go_ret (pc := 13) (r := some (.int (0 : Int32))) d_Law_cell_13 ⟨_, _, rfl, rfl, hk⟩
  · replace hk := hk.2 h3
    refine go_aload_n (pc := 6) (i := 0) d_Law_cell_6 rfl rfl ?_
    refine go_iload_n (pc := 7) (i := 1) d_Law_cell_7 rfl rfl ?_
    obtain ⟨hi1, hk⟩ := hk
    refine go_scr (pc := 8) rfl hi1 d_Law_cell_8 ?_
    refine go_goto (pc := 9) (tgt := 13) d_Law_cell_9 rfl ?_
    exact go_ret (pc := 13) (r := some (.int (sx (Int32.toNatClampNeg a2)))) d_Law_cell_13 ⟨_, _, rfl, rfl, hk⟩
def wp_Mod_four (a1 : Int32) (μ : Mu) (Q : Int32 → Mu → Prop) : Prop := (((a1 < 0) → Q (0 : Int32) μ) ∧ ((¬ a1 < 0) → ((((3 : Int32) < a1) → Q (0 : Int32) μ) ∧ ((¬ (3 : Int32) < a1) → Q (1 : Int32) μ))))
set_option maxRecDepth 100000 in
set_option maxHeartbeats 4000000 in
theorem m_Mod_four {l : Launch} {a1 : Int32}  {μ : Mu} {Q : Int32 → Mu → Prop} (hk : wp_Mod_four a1 μ Q) : Mets (mE l) mt_Mod_four false (rmd 0) [.int a1] (lay μ) (PI Q) := by
  unfold wp_Mod_four at hk
  refine mets_of (L := [some (.int a1)]) (by decide) (Nat.le_of_ble_eq_true rfl) rfl ?_
  refine go_iload_n (pc := 0) (i := 0) d_Mod_four_0 rfl rfl ?_
  refine go_if_lt (pc := 1) (tgt := 13) d_Mod_four_1 rfl (fun h1 => ?_) (fun h1 => ?_)
  · replace hk := hk.1 h1
    refine go_iconst (pc := 13) (v := 0) d_Mod_four_13 (by decide) ?_
    exact go_ret (pc := 14) (r := some (.int (0 : Int32))) ⟨nar_zv (by decide), d_Mod_four_14⟩ ⟨_, _, rfl, rfl, hk⟩
  · replace hk := hk.2 h1
    refine go_iload_n (pc := 4) (i := 0) d_Mod_four_4 rfl rfl ?_
    refine go_iconst (pc := 5) (v := 3) d_Mod_four_5 (by decide) ?_
    refine go_icmp_gt (pc := 6) (tgt := 13) d_Mod_four_6 rfl (fun h6 => ?_) (fun h6 => ?_)
    · replace hk := hk.1 h6
      refine go_iconst (pc := 13) (v := 0) d_Mod_four_13 (by decide) ?_
      exact go_ret (pc := 14) (r := some (.int (0 : Int32))) ⟨nar_zv (by decide), d_Mod_four_14⟩ ⟨_, _, rfl, rfl, hk⟩
    · replace hk := hk.2 h6
      refine go_iconst (pc := 9) (v := 1) d_Mod_four_9 (by decide) ?_
      refine go_goto (pc := 10) (tgt := 14) d_Mod_four_10 rfl ?_
      exact go_ret (pc := 14) (r := some (.int (1 : Int32))) ⟨nar_zv (by decide), d_Mod_four_14⟩ ⟨_, _, rfl, rfl, hk⟩
def wp_Mod_greatest (a1 : Int32) (μ : Mu) (Q : Int32 → Mu → Prop) : Prop := ((((Int32.toInt a1) < 1 ∨ 24 < (Int32.toInt a1)) → Q (0 : Int32) μ) ∧ (((Int32.toInt a1) = 1) → Q (-1 : Int32) μ) ∧ (((Int32.toInt a1) = 2) → Q (0 : Int32) μ) ∧ (((Int32.toInt a1) = 3) → Q (0 : Int32) μ) ∧ (((Int32.toInt a1) = 4) → Q (0 : Int32) μ) ∧ (((Int32.toInt a1) = 5) → Q (0 : Int32) μ) ∧ (((Int32.toInt a1) = 6) → Q (0 : Int32) μ) ∧ (((Int32.toInt a1) = 7) → Q (3 : Int32) μ) ∧ (((Int32.toInt a1) = 8) → Q (3 : Int32) μ) ∧ (((Int32.toInt a1) = 9) → Q (0 : Int32) μ) ∧ (((Int32.toInt a1) = 10) → Q (0 : Int32) μ) ∧ (((Int32.toInt a1) = 11) → Q (0 : Int32) μ) ∧ (((Int32.toInt a1) = 12) → Q (2 : Int32) μ) ∧ (((Int32.toInt a1) = 13) → Q (2 : Int32) μ) ∧ (((Int32.toInt a1) = 14) → Q (0 : Int32) μ) ∧ (((Int32.toInt a1) = 15) → Q (0 : Int32) μ) ∧ (((Int32.toInt a1) = 16) → Q (7 : Int32) μ) ∧ (((Int32.toInt a1) = 17) → Q (23 : Int32) μ) ∧ (((Int32.toInt a1) = 18) → Q (23 : Int32) μ) ∧ (((Int32.toInt a1) = 19) → Q (0 : Int32) μ) ∧ (((Int32.toInt a1) = 20) → Q (0 : Int32) μ) ∧ (((Int32.toInt a1) = 21) → Q (3 : Int32) μ) ∧ (((Int32.toInt a1) = 22) → Q (0 : Int32) μ) ∧ (((Int32.toInt a1) = 23) → Q (3 : Int32) μ) ∧ (((Int32.toInt a1) = 24) → Q (3 : Int32) μ))
set_option maxRecDepth 100000 in
set_option maxHeartbeats 4000000 in
theorem m_Mod_greatest {l : Launch} {a1 : Int32}  {μ : Mu} {Q : Int32 → Mu → Prop} (hk : wp_Mod_greatest a1 μ Q) : Mets (mE l) mt_Mod_greatest false (rmd 0) [.int a1] (lay μ) (PI Q) := by
  unfold wp_Mod_greatest at hk
  refine mets_of (L := [some (.int a1)]) (by decide) (Nat.le_of_ble_eq_true rfl) rfl ?_
  refine go_iload_n (pc := 0) (i := 0) d_Mod_greatest_0 rfl rfl ?_
  by_cases hsw : (Int32.toInt a1) < 1 ∨ 24 < (Int32.toInt a1)
  · replace hk := hk.1 hsw
    refine go_tableOut (pc := 1) (tgt := 124) d_Mod_greatest_1 hsw rfl ?_
    refine go_iconst (pc := 124) (v := 0) d_Mod_greatest_124 (by decide) ?_
    exact go_ret (pc := 125) (r := some (.int (0 : Int32))) d_Mod_greatest_125 ⟨_, _, rfl, rfl, hk⟩
  replace hk := hk.2
  have hsx : (Int32.toInt a1) = 1 ∨ (Int32.toInt a1) = 2 ∨ (Int32.toInt a1) = 3 ∨ (Int32.toInt a1) = 4 ∨ (Int32.toInt a1) = 5 ∨ (Int32.toInt a1) = 6 ∨ (Int32.toInt a1) = 7 ∨ (Int32.toInt a1) = 8 ∨ (Int32.toInt a1) = 9 ∨ (Int32.toInt a1) = 10 ∨ (Int32.toInt a1) = 11 ∨ (Int32.toInt a1) = 12 ∨ (Int32.toInt a1) = 13 ∨ (Int32.toInt a1) = 14 ∨ (Int32.toInt a1) = 15 ∨ (Int32.toInt a1) = 16 ∨ (Int32.toInt a1) = 17 ∨ (Int32.toInt a1) = 18 ∨ (Int32.toInt a1) = 19 ∨ (Int32.toInt a1) = 20 ∨ (Int32.toInt a1) = 21 ∨ (Int32.toInt a1) = 22 ∨ (Int32.toInt a1) = 23 ∨ (Int32.toInt a1) = 24 := by omega
  rcases hsx with hsx | hsx | hsx | hsx | hsx | hsx | hsx | hsx | hsx | hsx | hsx | hsx | hsx | hsx | hsx | hsx | hsx | hsx | hsx | hsx | hsx | hsx | hsx | hsx
  · replace hk := hk.1 hsx
    refine go_tableIn (pc := 1) (tgt := 112) d_Mod_greatest_1 (by omega) (by omega) (by rw [hsx]; rfl) rfl ?_
    refine go_iconst (pc := 112) (v := (-1)) d_Mod_greatest_112 (by decide) ?_
    exact go_ret (pc := 113) (r := some (.int (-1 : Int32))) d_Mod_greatest_113 ⟨_, _, rfl, rfl, hk⟩
  · replace hk := hk.2.1 hsx
    refine go_tableIn (pc := 1) (tgt := 124) d_Mod_greatest_1 (by omega) (by omega) (by rw [hsx]; rfl) rfl ?_
    refine go_iconst (pc := 124) (v := 0) d_Mod_greatest_124 (by decide) ?_
    exact go_ret (pc := 125) (r := some (.int (0 : Int32))) d_Mod_greatest_125 ⟨_, _, rfl, rfl, hk⟩
  · replace hk := hk.2.2.1 hsx
    refine go_tableIn (pc := 1) (tgt := 124) d_Mod_greatest_1 (by omega) (by omega) (by rw [hsx]; rfl) rfl ?_
    refine go_iconst (pc := 124) (v := 0) d_Mod_greatest_124 (by decide) ?_
    exact go_ret (pc := 125) (r := some (.int (0 : Int32))) d_Mod_greatest_125 ⟨_, _, rfl, rfl, hk⟩
  · replace hk := hk.2.2.2.1 hsx
    refine go_tableIn (pc := 1) (tgt := 124) d_Mod_greatest_1 (by omega) (by omega) (by rw [hsx]; rfl) rfl ?_
    refine go_iconst (pc := 124) (v := 0) d_Mod_greatest_124 (by decide) ?_
    exact go_ret (pc := 125) (r := some (.int (0 : Int32))) d_Mod_greatest_125 ⟨_, _, rfl, rfl, hk⟩
  · replace hk := hk.2.2.2.2.1 hsx
    refine go_tableIn (pc := 1) (tgt := 124) d_Mod_greatest_1 (by omega) (by omega) (by rw [hsx]; rfl) rfl ?_
    refine go_iconst (pc := 124) (v := 0) d_Mod_greatest_124 (by decide) ?_
    exact go_ret (pc := 125) (r := some (.int (0 : Int32))) d_Mod_greatest_125 ⟨_, _, rfl, rfl, hk⟩
  · replace hk := hk.2.2.2.2.2.1 hsx
    refine go_tableIn (pc := 1) (tgt := 124) d_Mod_greatest_1 (by omega) (by omega) (by rw [hsx]; rfl) rfl ?_
    refine go_iconst (pc := 124) (v := 0) d_Mod_greatest_124 (by decide) ?_
    exact go_ret (pc := 125) (r := some (.int (0 : Int32))) d_Mod_greatest_125 ⟨_, _, rfl, rfl, hk⟩
  · replace hk := hk.2.2.2.2.2.2.1 hsx
    refine go_tableIn (pc := 1) (tgt := 114) d_Mod_greatest_1 (by omega) (by omega) (by rw [hsx]; rfl) rfl ?_
    refine go_iconst (pc := 114) (v := 3) d_Mod_greatest_114 (by decide) ?_
    exact go_ret (pc := 115) (r := some (.int (3 : Int32))) d_Mod_greatest_115 ⟨_, _, rfl, rfl, hk⟩
  · replace hk := hk.2.2.2.2.2.2.2.1 hsx
    refine go_tableIn (pc := 1) (tgt := 114) d_Mod_greatest_1 (by omega) (by omega) (by rw [hsx]; rfl) rfl ?_
    refine go_iconst (pc := 114) (v := 3) d_Mod_greatest_114 (by decide) ?_
    exact go_ret (pc := 115) (r := some (.int (3 : Int32))) d_Mod_greatest_115 ⟨_, _, rfl, rfl, hk⟩
  · replace hk := hk.2.2.2.2.2.2.2.2.1 hsx
    refine go_tableIn (pc := 1) (tgt := 124) d_Mod_greatest_1 (by omega) (by omega) (by rw [hsx]; rfl) rfl ?_
    refine go_iconst (pc := 124) (v := 0) d_Mod_greatest_124 (by decide) ?_
    exact go_ret (pc := 125) (r := some (.int (0 : Int32))) d_Mod_greatest_125 ⟨_, _, rfl, rfl, hk⟩
  · replace hk := hk.2.2.2.2.2.2.2.2.2.1 hsx
    refine go_tableIn (pc := 1) (tgt := 124) d_Mod_greatest_1 (by omega) (by omega) (by rw [hsx]; rfl) rfl ?_
    refine go_iconst (pc := 124) (v := 0) d_Mod_greatest_124 (by decide) ?_
    exact go_ret (pc := 125) (r := some (.int (0 : Int32))) d_Mod_greatest_125 ⟨_, _, rfl, rfl, hk⟩
  · replace hk := hk.2.2.2.2.2.2.2.2.2.2.1 hsx
    refine go_tableIn (pc := 1) (tgt := 124) d_Mod_greatest_1 (by omega) (by omega) (by rw [hsx]; rfl) rfl ?_
    refine go_iconst (pc := 124) (v := 0) d_Mod_greatest_124 (by decide) ?_
    exact go_ret (pc := 125) (r := some (.int (0 : Int32))) d_Mod_greatest_125 ⟨_, _, rfl, rfl, hk⟩
  · replace hk := hk.2.2.2.2.2.2.2.2.2.2.2.1 hsx
    refine go_tableIn (pc := 1) (tgt := 116) d_Mod_greatest_1 (by omega) (by omega) (by rw [hsx]; rfl) rfl ?_
    refine go_iconst (pc := 116) (v := 2) d_Mod_greatest_116 (by decide) ?_
    exact go_ret (pc := 117) (r := some (.int (2 : Int32))) d_Mod_greatest_117 ⟨_, _, rfl, rfl, hk⟩
  · replace hk := hk.2.2.2.2.2.2.2.2.2.2.2.2.1 hsx
    refine go_tableIn (pc := 1) (tgt := 116) d_Mod_greatest_1 (by omega) (by omega) (by rw [hsx]; rfl) rfl ?_
    refine go_iconst (pc := 116) (v := 2) d_Mod_greatest_116 (by decide) ?_
    exact go_ret (pc := 117) (r := some (.int (2 : Int32))) d_Mod_greatest_117 ⟨_, _, rfl, rfl, hk⟩
  · replace hk := hk.2.2.2.2.2.2.2.2.2.2.2.2.2.1 hsx
    refine go_tableIn (pc := 1) (tgt := 124) d_Mod_greatest_1 (by omega) (by omega) (by rw [hsx]; rfl) rfl ?_
    refine go_iconst (pc := 124) (v := 0) d_Mod_greatest_124 (by decide) ?_
    exact go_ret (pc := 125) (r := some (.int (0 : Int32))) d_Mod_greatest_125 ⟨_, _, rfl, rfl, hk⟩
  · replace hk := hk.2.2.2.2.2.2.2.2.2.2.2.2.2.2.1 hsx
    refine go_tableIn (pc := 1) (tgt := 124) d_Mod_greatest_1 (by omega) (by omega) (by rw [hsx]; rfl) rfl ?_
    refine go_iconst (pc := 124) (v := 0) d_Mod_greatest_124 (by decide) ?_
    exact go_ret (pc := 125) (r := some (.int (0 : Int32))) d_Mod_greatest_125 ⟨_, _, rfl, rfl, hk⟩
  · replace hk := hk.2.2.2.2.2.2.2.2.2.2.2.2.2.2.2.1 hsx
    refine go_tableIn (pc := 1) (tgt := 118) d_Mod_greatest_1 (by omega) (by omega) (by rw [hsx]; rfl) rfl ?_
    refine go_bipush (pc := 118) (v := 7) d_Mod_greatest_118 (by decide) ?_
    exact go_ret (pc := 120) (r := some (.int (7 : Int32))) d_Mod_greatest_120 ⟨_, _, rfl, rfl, hk⟩
  · replace hk := hk.2.2.2.2.2.2.2.2.2.2.2.2.2.2.2.2.1 hsx
    refine go_tableIn (pc := 1) (tgt := 121) d_Mod_greatest_1 (by omega) (by omega) (by rw [hsx]; rfl) rfl ?_
    refine go_bipush (pc := 121) (v := 23) d_Mod_greatest_121 (by decide) ?_
    exact go_ret (pc := 123) (r := some (.int (23 : Int32))) d_Mod_greatest_123 ⟨_, _, rfl, rfl, hk⟩
  · replace hk := hk.2.2.2.2.2.2.2.2.2.2.2.2.2.2.2.2.2.1 hsx
    refine go_tableIn (pc := 1) (tgt := 121) d_Mod_greatest_1 (by omega) (by omega) (by rw [hsx]; rfl) rfl ?_
    refine go_bipush (pc := 121) (v := 23) d_Mod_greatest_121 (by decide) ?_
    exact go_ret (pc := 123) (r := some (.int (23 : Int32))) d_Mod_greatest_123 ⟨_, _, rfl, rfl, hk⟩
  · replace hk := hk.2.2.2.2.2.2.2.2.2.2.2.2.2.2.2.2.2.2.1 hsx
    refine go_tableIn (pc := 1) (tgt := 124) d_Mod_greatest_1 (by omega) (by omega) (by rw [hsx]; rfl) rfl ?_
    refine go_iconst (pc := 124) (v := 0) d_Mod_greatest_124 (by decide) ?_
    exact go_ret (pc := 125) (r := some (.int (0 : Int32))) d_Mod_greatest_125 ⟨_, _, rfl, rfl, hk⟩
  · replace hk := hk.2.2.2.2.2.2.2.2.2.2.2.2.2.2.2.2.2.2.2.1 hsx
    refine go_tableIn (pc := 1) (tgt := 124) d_Mod_greatest_1 (by omega) (by omega) (by rw [hsx]; rfl) rfl ?_
    refine go_iconst (pc := 124) (v := 0) d_Mod_greatest_124 (by decide) ?_
    exact go_ret (pc := 125) (r := some (.int (0 : Int32))) d_Mod_greatest_125 ⟨_, _, rfl, rfl, hk⟩
  · replace hk := hk.2.2.2.2.2.2.2.2.2.2.2.2.2.2.2.2.2.2.2.2.1 hsx
    refine go_tableIn (pc := 1) (tgt := 114) d_Mod_greatest_1 (by omega) (by omega) (by rw [hsx]; rfl) rfl ?_
    refine go_iconst (pc := 114) (v := 3) d_Mod_greatest_114 (by decide) ?_
    exact go_ret (pc := 115) (r := some (.int (3 : Int32))) d_Mod_greatest_115 ⟨_, _, rfl, rfl, hk⟩
  · replace hk := hk.2.2.2.2.2.2.2.2.2.2.2.2.2.2.2.2.2.2.2.2.2.1 hsx
    refine go_tableIn (pc := 1) (tgt := 124) d_Mod_greatest_1 (by omega) (by omega) (by rw [hsx]; rfl) rfl ?_
    refine go_iconst (pc := 124) (v := 0) d_Mod_greatest_124 (by decide) ?_
    exact go_ret (pc := 125) (r := some (.int (0 : Int32))) d_Mod_greatest_125 ⟨_, _, rfl, rfl, hk⟩
  · replace hk := hk.2.2.2.2.2.2.2.2.2.2.2.2.2.2.2.2.2.2.2.2.2.2.1 hsx
    refine go_tableIn (pc := 1) (tgt := 114) d_Mod_greatest_1 (by omega) (by omega) (by rw [hsx]; rfl) rfl ?_
    refine go_iconst (pc := 114) (v := 3) d_Mod_greatest_114 (by decide) ?_
    exact go_ret (pc := 115) (r := some (.int (3 : Int32))) d_Mod_greatest_115 ⟨_, _, rfl, rfl, hk⟩
  · replace hk := hk.2.2.2.2.2.2.2.2.2.2.2.2.2.2.2.2.2.2.2.2.2.2.2 hsx
    refine go_tableIn (pc := 1) (tgt := 114) d_Mod_greatest_1 (by omega) (by omega) (by rw [hsx]; rfl) rfl ?_
    refine go_iconst (pc := 114) (v := 3) d_Mod_greatest_114 (by decide) ?_
    exact go_ret (pc := 115) (r := some (.int (3 : Int32))) d_Mod_greatest_115 ⟨_, _, rfl, rfl, hk⟩
