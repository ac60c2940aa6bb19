def wp_Mod_code_j62 (j1 : Int32) (j2 : Int32) (j3 : Int32) (μ : Mu)  (Q : Int32 → Mu → Prop) : Prop := (vp_in j1 4 ∧ (vp_in (((24 : Int32) * j1) + (μ.2.1 95 (Int32.toNatClampNeg j1))) 96 ∧ ∀ μ9 : Mu, μ9 = setA μ 92 (Int32.toNatClampNeg (((24 : Int32) * j1) + (μ.2.1 95 (Int32.toNatClampNeg j1)))) j2 → (vp_in j1 4 ∧ (vp_in (((24 : Int32) * j1) + (μ9.2.1 95 (Int32.toNatClampNeg j1))) 96 ∧ ∀ μ12 : Mu, μ12 = setA μ9 93 (Int32.toNatClampNeg (((24 : Int32) * j1) + (μ9.2.1 95 (Int32.toNatClampNeg j1)))) j3 → (vp_in j1 4 ∧ (vp_in j1 4 ∧ ∀ μ15 : Mu, μ15 = setA μ12 95 (Int32.toNatClampNeg j1) ((μ12.2.1 95 (Int32.toNatClampNeg j1)) + (1 : Int32)) → (vp_in j1 4 ∧ Q ((μ15.2.1 95 (Int32.toNatClampNeg j1)) - (1 : Int32)) μ15)))))))
set_option maxRecDepth 100000 in
set_option maxHeartbeats 4000000 in
theorem g_Mod_code_j62 {l : Launch} {j1 : Int32} {j2 : Int32} {j3 : Int32}   {Q : Int32 → Mu → Prop}  {μ : Mu} (hk : wp_Mod_code_j62 j1 j2 j3 μ  Q) : Go (mE l) mt_Mod_code false (rmd 1) 0 0 62 [some (.ref 91), some (.int j1), some (.int j2), some (.int j3), none] [] (lay μ) (PI Q) := by
  unfold wp_Mod_code_j62 at hk
  refine go_aload_n (pc := 62) (i := 0) d_Mod_code_62 rfl rfl ?_
  refine go_getR (pc := 63) (r := 92) sh_model rfl fl_Mod_7 d_Mod_code_63 ?_
  refine go_bipush (pc := 66) (v := 24) d_Mod_code_66 (by decide) ?_
  refine go_iload_n (pc := 68) (i := 1) d_Mod_code_68 rfl rfl ?_
  refine go_imul (pc := 69) d_Mod_code_69 ?_
  refine go_aload_n (pc := 70) (i := 0) d_Mod_code_70 rfl rfl ?_
  refine go_getR (pc := 71) (r := 95) sh_model rfl fl_Mod_19 d_Mod_code_71 ?_
  refine go_iload_n (pc := 74) (i := 1) d_Mod_code_74 rfl rfl ?_
  obtain ⟨hi7, hk⟩ := hk
  refine go_aldI (pc := 75) sh_m_many hi7 d_Mod_code_75 ?_
  refine go_iadd (pc := 76) d_Mod_code_76 ?_
  refine go_iload_n (pc := 77) (i := 2) d_Mod_code_77 rfl rfl ?_
  obtain ⟨hi8, hk⟩ := hk
  refine go_astIn (pc := 78) sh_m_ops hi8 d_Mod_code_78 (fun μ9 e9 => ?_)
  replace hk := hk μ9 e9
  refine go_aload_n (pc := 79) (i := 0) d_Mod_code_79 rfl rfl ?_
  refine go_getR (pc := 80) (r := 93) sh_model rfl fl_Mod_13 d_Mod_code_80 ?_
  refine go_bipush (pc := 83) (v := 24) d_Mod_code_83 (by decide) ?_
  refine go_iload_n (pc := 85) (i := 1) d_Mod_code_85 rfl rfl ?_
  refine go_imul (pc := 86) d_Mod_code_86 ?_
  refine go_aload_n (pc := 87) (i := 0) d_Mod_code_87 rfl rfl ?_
  refine go_getR (pc := 88) (r := 95) sh_model rfl fl_Mod_19 d_Mod_code_88 ?_
  refine go_iload_n (pc := 91) (i := 1) d_Mod_code_91 rfl rfl ?_
  obtain ⟨hi10, hk⟩ := hk
  refine go_aldI (pc := 92) sh_m_many hi10 d_Mod_code_92 ?_
  refine go_iadd (pc := 93) d_Mod_code_93 ?_
  refine go_iload_n (pc := 94) (i := 3) d_Mod_code_94 rfl rfl ?_
  obtain ⟨hi11, hk⟩ := hk
  refine go_astIn (pc := 95) sh_m_argOf hi11 d_Mod_code_95 (fun μ12 e12 => ?_)
  replace hk := hk μ12 e12
  refine go_aload_n (pc := 96) (i := 0) d_Mod_code_96 rfl rfl ?_
  refine go_getR (pc := 97) (r := 95) sh_model rfl fl_Mod_19 d_Mod_code_97 ?_
  refine go_iload_n (pc := 100) (i := 1) d_Mod_code_100 rfl rfl ?_
  refine go_dup2 (pc := 101) d_Mod_code_101 rfl rfl ?_
  obtain ⟨hi13, hk⟩ := hk
  refine go_aldI (pc := 102) sh_m_many hi13 d_Mod_code_102 ?_
  refine go_iconst (pc := 103) (v := 1) d_Mod_code_103 (by decide) ?_
  refine go_iadd (pc := 104) d_Mod_code_104 ?_
  obtain ⟨hi14, hk⟩ := hk
  refine go_astIn (pc := 105) sh_m_many hi14 d_Mod_code_105 (fun μ15 e15 => ?_)
  replace hk := hk μ15 e15
  refine go_aload_n (pc := 106) (i := 0) d_Mod_code_106 rfl rfl ?_
  refine go_getR (pc := 107) (r := 95) sh_model rfl fl_Mod_19 d_Mod_code_107 ?_
  refine go_iload_n (pc := 110) (i := 1) d_Mod_code_110 rfl rfl ?_
  obtain ⟨hi16, hk⟩ := hk
  refine go_aldI (pc := 111) sh_m_many hi16 d_Mod_code_111 ?_
  refine go_iconst (pc := 112) (v := 1) d_Mod_code_112 (by decide) ?_
  refine go_isub (pc := 113) d_Mod_code_113 ?_
  exact go_ret (pc := 114) (r := some (.int ((μ15.2.1 95 (Int32.toNatClampNeg j1)) - (1 : Int32)))) d_Mod_code_114 ⟨_, _, rfl, rfl, hk⟩
def wp_Mod_code (a1 : Int32) (a2 : Int32) (a3 : Int32) (μ : Mu) (Q : Int32 → Mu → Prop) : Prop := wp_Mod_four a1 μ (fun x2 μ1 => (((x2 = 0) → Q (-1 : Int32) μ1) ∧ ((¬ x2 = 0) → (vp_in a1 4 ∧ (((¬ (μ1.2.1 96 (Int32.toNatClampNeg a1)) = 0) → Q (-1 : Int32) μ1) ∧ (((μ1.2.1 96 (Int32.toNatClampNeg a1)) = 0) → (vp_in a1 4 ∧ ((((μ1.2.1 95 (Int32.toNatClampNeg a1)) = (24 : Int32)) → Q (-1 : Int32) μ1) ∧ ((¬ (μ1.2.1 95 (Int32.toNatClampNeg a1)) = (24 : Int32)) → (((a2 < 0) → Q (-1 : Int32) μ1) ∧ ((¬ a2 < 0) → (((a2 ≤ (24 : Int32)) → wp_Mod_greatest a2 μ1 (fun x6 μ5 => (((x6 < 0) → wp_Mod_code_j62 a1 a2 a3 μ5  Q) ∧ ((¬ x6 < 0) → (((a3 < 0) → Q (-1 : Int32) μ5) ∧ ((¬ a3 < 0) → (((a3 ≤ x6) → wp_Mod_code_j62 a1 a2 a3 μ5  Q) ∧ ((¬ a3 ≤ x6) → Q (-1 : Int32) μ5)))))))) ∧ ((¬ a2 ≤ (24 : Int32)) → Q (-1 : Int32) μ1)))))))))))))
set_option maxRecDepth 100000 in
set_option maxHeartbeats 4000000 in
theorem m_Mod_code {l : Launch} {a1 : Int32} {a2 : Int32} {a3 : Int32}  {μ : Mu} {Q : Int32 → Mu → Prop} (hk : wp_Mod_code a1 a2 a3 μ Q) : Mets (mE l) mt_Mod_code false (rmd 1) [.ref 91, .int a1, .int a2, .int a3] (lay μ) (PI Q) := by
  unfold wp_Mod_code at hk
  refine mets_of (L := [some (.ref 91), some (.int a1), some (.int a2), some (.int a3), none]) (by decide) (Nat.le_of_ble_eq_true rfl) rfl ?_
  refine go_iload_n (pc := 0) (i := 1) d_Mod_code_0 rfl rfl ?_
  refine go_callS (pc := 1) (m_Mod_four  hk) cz_Mod_four sm_Mod_four (Or.inl lk_Mod_105) rfl rfl (Nat.le_of_ble_eq_true rfl) ⟨by decide, by decide⟩ rfl rfl d_Mod_code_1 (fun r M' hr => ?_)
  obtain ⟨x2, μ1, rfl, rfl, hk⟩ := hr
  try dsimp only [Option.toList, List.cons_append, List.nil_append]
  refine go_if_eq (pc := 4) (tgt := 37) d_Mod_code_4 rfl (fun h4 => ?_) (fun h4 => ?_)
  · replace hk := hk.1 h4
    refine go_iconst (pc := 37) (v := (-1)) d_Mod_code_37 (by decide) ?_
    exact go_ret (pc := 38) (r := some (.int (-1 : Int32))) d_Mod_code_38 ⟨_, _, rfl, rfl, hk⟩
  · replace hk := hk.2 h4
    refine go_aload_n (pc := 7) (i := 0) d_Mod_code_7 rfl rfl ?_
    refine go_getR (pc := 8) (r := 96) sh_model rfl fl_Mod_22 d_Mod_code_8 ?_
    refine go_iload_n (pc := 11) (i := 1) d_Mod_code_11 rfl rfl ?_
    obtain ⟨hi3, hk⟩ := hk
    refine go_aldZ (pc := 12) sh_m_sealed hi3 d_Mod_code_12 ?_
    refine go_if_ne (pc := 13) (tgt := 37) d_Mod_code_13 rfl (fun h13 => ?_) (fun h13 => ?_)
    · replace hk := hk.1 h13
      refine go_iconst (pc := 37) (v := (-1)) d_Mod_code_37 (by decide) ?_
      exact go_ret (pc := 38) (r := some (.int (-1 : Int32))) d_Mod_code_38 ⟨_, _, rfl, rfl, hk⟩
    · replace hk := hk.2 h13
      refine go_aload_n (pc := 16) (i := 0) d_Mod_code_16 rfl rfl ?_
      refine go_getR (pc := 17) (r := 95) sh_model rfl fl_Mod_19 d_Mod_code_17 ?_
      refine go_iload_n (pc := 20) (i := 1) d_Mod_code_20 rfl rfl ?_
      obtain ⟨hi4, hk⟩ := hk
      refine go_aldI (pc := 21) sh_m_many hi4 d_Mod_code_21 ?_
      refine go_bipush (pc := 22) (v := 24) d_Mod_code_22 (by decide) ?_
      refine go_icmp_eq (pc := 24) (tgt := 37) d_Mod_code_24 rfl (fun h24 => ?_) (fun h24 => ?_)
      · replace hk := hk.1 h24
        refine go_iconst (pc := 37) (v := (-1)) d_Mod_code_37 (by decide) ?_
        exact go_ret (pc := 38) (r := some (.int (-1 : Int32))) d_Mod_code_38 ⟨_, _, rfl, rfl, hk⟩
      · replace hk := hk.2 h24
        refine go_iload_n (pc := 27) (i := 2) d_Mod_code_27 rfl rfl ?_
        refine go_if_lt (pc := 28) (tgt := 37) d_Mod_code_28 rfl (fun h28 => ?_) (fun h28 => ?_)
        · replace hk := hk.1 h28
          refine go_iconst (pc := 37) (v := (-1)) d_Mod_code_37 (by decide) ?_
          exact go_ret (pc := 38) (r := some (.int (-1 : Int32))) d_Mod_code_38 ⟨_, _, rfl, rfl, hk⟩
        · replace hk := hk.2 h28
          refine go_iload_n (pc := 31) (i := 2) d_Mod_code_31 rfl rfl ?_
          refine go_bipush (pc := 32) (v := 24) d_Mod_code_32 (by decide) ?_
          refine go_icmp_le (pc := 34) (tgt := 39) d_Mod_code_34 rfl (fun h34 => ?_) (fun h34 => ?_)
          · replace hk := hk.1 h34
            refine go_iload_n (pc := 39) (i := 2) d_Mod_code_39 rfl rfl ?_
            refine go_callS (pc := 40) (m_Mod_greatest  hk) cz_Mod_greatest sm_Mod_greatest (Or.inl lk_Mod_109) rfl rfl (Nat.le_of_ble_eq_true rfl) ⟨by decide, by decide⟩ rfl rfl d_Mod_code_40 (fun r M' hr => ?_)
            obtain ⟨x6, μ5, rfl, rfl, hk⟩ := hr
            try dsimp only [Option.toList, List.cons_append, List.nil_append]
            refine go_istore (pc := 43) (L' := [some (.ref 91), some (.int a1), some (.int a2), some (.int a3), some (.int x6)]) d_Mod_code_43 (by decide) rfl ?_
            refine go_iload (pc := 45) d_Mod_code_45 rfl ?_
            refine go_if_lt (pc := 47) (tgt := 62) d_Mod_code_47 rfl (fun h47 => ?_) (fun h47 => ?_)
            · replace hk := hk.1 h47
              refine go_weak (L' := [some (.ref 91), some (.int a1), some (.int a2), some (.int a3), none]) (lle_at (by simp [lle])) ?_
              exact g_Mod_code_j62   hk
            · replace hk := hk.2 h47
              refine go_iload_n (pc := 50) (i := 3) d_Mod_code_50 rfl rfl ?_
              refine go_if_lt (pc := 51) (tgt := 60) d_Mod_code_51 rfl (fun h51 => ?_) (fun h51 => ?_)
              · replace hk := hk.1 h51
                refine go_iconst (pc := 60) (v := (-1)) d_Mod_code_60 (by decide) ?_
                exact go_ret (pc := 61) (r := some (.int (-1 : Int32))) d_Mod_code_61 ⟨_, _, rfl, rfl, hk⟩
              · replace hk := hk.2 h51
                refine go_iload_n (pc := 54) (i := 3) d_Mod_code_54 rfl rfl ?_
                refine go_iload (pc := 55) d_Mod_code_55 rfl ?_
                refine go_icmp_le (pc := 57) (tgt := 62) d_Mod_code_57 rfl (fun h57 => ?_) (fun h57 => ?_)
                · replace hk := hk.1 h57
                  refine go_weak (L' := [some (.ref 91), some (.int a1), some (.int a2), some (.int a3), none]) (lle_at (by simp [lle])) ?_
                  exact g_Mod_code_j62   hk
                · replace hk := hk.2 h57
                  refine go_iconst (pc := 60) (v := (-1)) d_Mod_code_60 (by decide) ?_
                  exact go_ret (pc := 61) (r := some (.int (-1 : Int32))) d_Mod_code_61 ⟨_, _, rfl, rfl, hk⟩
          · replace hk := hk.2 h34
            refine go_iconst (pc := 37) (v := (-1)) d_Mod_code_37 (by decide) ?_
            exact go_ret (pc := 38) (r := some (.int (-1 : Int32))) d_Mod_code_38 ⟨_, _, rfl, rfl, hk⟩
def wp_Mod_clear (a1 : Int32) (μ : Mu) (Q : Int32 → Mu → Prop) : Prop := wp_Mod_four a1 μ (fun x2 μ1 => (((x2 = 0) → Q (0 : Int32) μ1) ∧ ((¬ x2 = 0) → (vp_in a1 4 ∧ ((((μ1.2.1 96 (Int32.toNatClampNeg a1)) = 0) → (vp_in a1 4 ∧ ∀ μ5 : Mu, μ5 = setA μ1 95 (Int32.toNatClampNeg a1) (0 : Int32) → Q (1 : Int32) μ5)) ∧ ((¬ (μ1.2.1 96 (Int32.toNatClampNeg a1)) = 0) → Q (0 : Int32) μ1))))))
set_option maxRecDepth 100000 in
set_option maxHeartbeats 4000000 in
theorem m_Mod_clear {l : Launch} {a1 : Int32}  {μ : Mu} {Q : Int32 → Mu → Prop} (hk : wp_Mod_clear a1 μ Q) : Mets (mE l) mt_Mod_clear false (rmd 1) [.ref 91, .int a1] (lay μ) (PI Q) := by
  unfold wp_Mod_clear at hk
  refine mets_of (L := [some (.ref 91), some (.int a1)]) (by decide) (Nat.le_of_ble_eq_true rfl) rfl ?_
  refine go_iload_n (pc := 0) (i := 1) d_Mod_clear_0 rfl rfl ?_
  refine go_callS (pc := 1) (m_Mod_four  hk) cz_Mod_four sm_Mod_four (Or.inl lk_Mod_105) rfl rfl (Nat.le_of_ble_eq_true rfl) ⟨by decide, by decide⟩ rfl rfl d_Mod_clear_1 (fun r M' hr => ?_)
  obtain ⟨x2, μ1, rfl, rfl, hk⟩ := hr
  try dsimp only [Option.toList, List.cons_append, List.nil_append]
  refine go_if_eq (pc := 4) (tgt := 16) d_Mod_clear_4 rfl (fun h4 => ?_) (fun h4 => ?_)
  · replace hk := hk.1 h4
    refine go_iconst (pc := 16) (v := 0) d_Mod_clear_16 (by decide) ?_
    exact go_ret (pc := 17) (r := some (.int (0 : Int32))) ⟨nar_zv (by decide), d_Mod_clear_17⟩ ⟨_, _, rfl, rfl, hk⟩
  · replace hk := hk.2 h4
    refine go_aload_n (pc := 7) (i := 0) d_Mod_clear_7 rfl rfl ?_
    refine go_getR (pc := 8) (r := 96) sh_model rfl fl_Mod_22 d_Mod_clear_8 ?_
    refine go_iload_n (pc := 11) (i := 1) d_Mod_clear_11 rfl rfl ?_
    obtain ⟨hi3, hk⟩ := hk
    refine go_aldZ (pc := 12) sh_m_sealed hi3 d_Mod_clear_12 ?_
    refine go_if_eq (pc := 13) (tgt := 18) d_Mod_clear_13 rfl (fun h13 => ?_) (fun h13 => ?_)
    · replace hk := hk.1 h13
      refine go_aload_n (pc := 18) (i := 0) d_Mod_clear_18 rfl rfl ?_
      refine go_getR (pc := 19) (r := 95) sh_model rfl fl_Mod_19 d_Mod_clear_19 ?_
      refine go_iload_n (pc := 22) (i := 1) d_Mod_clear_22 rfl rfl ?_
      refine go_iconst (pc := 23) (v := 0) d_Mod_clear_23 (by decide) ?_
      obtain ⟨hi4, hk⟩ := hk
      refine go_astIn (pc := 24) sh_m_many hi4 d_Mod_clear_24 (fun μ5 e5 => ?_)
      replace hk := hk μ5 e5
      refine go_iconst (pc := 25) (v := 1) d_Mod_clear_25 (by decide) ?_
      exact go_ret (pc := 26) (r := some (.int (1 : Int32))) ⟨nar_zv (by decide), d_Mod_clear_26⟩ ⟨_, _, rfl, rfl, hk⟩
    · replace hk := hk.2 h13
      refine go_iconst (pc := 16) (v := 0) d_Mod_clear_16 (by decide) ?_
      exact go_ret (pc := 17) (r := some (.int (0 : Int32))) ⟨nar_zv (by decide), d_Mod_clear_17⟩ ⟨_, _, rfl, rfl, hk⟩
def wp_Mod_puts_j13 (j0 : Int32) (j1 : Int32) (j2 : Int32) (μ : Mu)  (Q : Int32 → Mu → Prop) : Prop := ((((Int32.toInt j0) < 1 ∨ 24 < (Int32.toInt j0)) → Q (1 : Int32) μ) ∧ (((Int32.toInt j0) = 1) → Q (2 : Int32) μ) ∧ (((Int32.toInt j0) = 2) → Q (1 : Int32) μ) ∧ (((Int32.toInt j0) = 3) → Q (1 : Int32) μ) ∧ (((Int32.toInt j0) = 4) → Q (1 : Int32) μ) ∧ (((Int32.toInt j0) = 5) → Q (1 : Int32) μ) ∧ (((Int32.toInt j0) = 6) → Q (1 : Int32) μ) ∧ (((Int32.toInt j0) = 7) → ((((2 : Int32) ≤ j1) → Q (3 : Int32) μ) ∧ ((¬ (2 : Int32) ≤ j1) → Q (2 : Int32) μ))) ∧ (((Int32.toInt j0) = 8) → Q (1 : Int32) μ) ∧ (((Int32.toInt j0) = 9) → (((¬ j2 = 0) → Q (7 : Int32) μ) ∧ ((j2 = 0) → Q (4 : Int32) μ))) ∧ (((Int32.toInt j0) = 10) → Q (1 : Int32) μ) ∧ (((Int32.toInt j0) = 11) → Q (3 : Int32) μ) ∧ (((Int32.toInt j0) = 12) → (((¬ j1 = 0) → Q (3 : Int32) μ) ∧ ((j1 = 0) → Q (2 : Int32) μ))) ∧ (((Int32.toInt j0) = 13) → Q (1 : Int32) μ) ∧ (((Int32.toInt j0) = 14) → Q (2 : Int32) μ) ∧ (((Int32.toInt j0) = 15) → Q (3 : Int32) μ) ∧ (((Int32.toInt j0) = 16) → Q (3 : Int32) μ) ∧ (((Int32.toInt j0) = 17) → Q (1 : Int32) μ) ∧ (((Int32.toInt j0) = 18) → Q (1 : Int32) μ) ∧ (((Int32.toInt j0) = 19) → Q (1 : Int32) μ) ∧ (((Int32.toInt j0) = 20) → Q (2 : Int32) μ) ∧ (((Int32.toInt j0) = 21) → Q (2 : Int32) μ) ∧ (((Int32.toInt j0) = 22) → Q (3 : Int32) μ) ∧ (((Int32.toInt j0) = 23) → Q (2 : Int32) μ) ∧ (((Int32.toInt j0) = 24) → Q (2 : Int32) μ))
set_option maxRecDepth 100000 in
set_option maxHeartbeats 4000000 in
theorem g_Mod_puts_j13 {l : Launch} {j0 : Int32} {j1 : Int32} {j2 : Int32}   {Q : Int32 → Mu → Prop}  {μ : Mu} (hk : wp_Mod_puts_j13 j0 j1 j2 μ  Q) : Go (mE l) mt_Mod_puts false (rmd 0) 0 0 13 [some (.int j0), some (.int j1), some (.int j2)] [] (lay μ) (PI Q) := by
  unfold wp_Mod_puts_j13 at hk
  refine go_iload_n (pc := 13) (i := 0) d_Mod_puts_13 rfl rfl ?_
  by_cases hsw : (Int32.toInt j0) < 1 ∨ 24 < (Int32.toInt j0)
  · replace hk := hk.1 hsw
    refine go_tableOut (pc := 14) (tgt := 160) d_Mod_puts_14 hsw rfl ?_
    refine go_iconst (pc := 160) (v := 1) d_Mod_puts_160 (by decide) ?_
    exact go_ret (pc := 161) (r := some (.int (1 : Int32))) d_Mod_puts_161 ⟨_, _, rfl, rfl, hk⟩
  replace hk := hk.2
  have hsx : (Int32.toInt j0) = 1 ∨ (Int32.toInt j0) = 2 ∨ (Int32.toInt j0) = 3 ∨ (Int32.toInt j0) = 4 ∨ (Int32.toInt j0) = 5 ∨ (Int32.toInt j0) = 6 ∨ (Int32.toInt j0) = 7 ∨ (Int32.toInt j0) = 8 ∨ (Int32.toInt j0) = 9 ∨ (Int32.toInt j0) = 10 ∨ (Int32.toInt j0) = 11 ∨ (Int32.toInt j0) = 12 ∨ (Int32.toInt j0) = 13 ∨ (Int32.toInt j0) = 14 ∨ (Int32.toInt j0) = 15 ∨ (Int32.toInt j0) = 16 ∨ (Int32.toInt j0) = 17 ∨ (Int32.toInt j0) = 18 ∨ (Int32.toInt j0) = 19 ∨ (Int32.toInt j0) = 20 ∨ (Int32.toInt j0) = 21 ∨ (Int32.toInt j0) = 22 ∨ (Int32.toInt j0) = 23 ∨ (Int32.toInt j0) = 24 := by omega
  rcases hsx with hsx | hsx | hsx | hsx | hsx | hsx | hsx | hsx | hsx | hsx | hsx | hsx | hsx | hsx | hsx | hsx | hsx | hsx | hsx | hsx | hsx | hsx | hsx | hsx
  · replace hk := hk.1 hsx
    refine go_tableIn (pc := 14) (tgt := 156) d_Mod_puts_14 (by omega) (by omega) (by rw [hsx]; rfl) rfl ?_
    refine go_iconst (pc := 156) (v := 2) d_Mod_puts_156 (by decide) ?_
    exact go_ret (pc := 157) (r := some (.int (2 : Int32))) d_Mod_puts_157 ⟨_, _, rfl, rfl, hk⟩
  · replace hk := hk.2.1 hsx
    refine go_tableIn (pc := 14) (tgt := 160) d_Mod_puts_14 (by omega) (by omega) (by rw [hsx]; rfl) rfl ?_
    refine go_iconst (pc := 160) (v := 1) d_Mod_puts_160 (by decide) ?_
    exact go_ret (pc := 161) (r := some (.int (1 : Int32))) d_Mod_puts_161 ⟨_, _, rfl, rfl, hk⟩
  · replace hk := hk.2.2.1 hsx
    refine go_tableIn (pc := 14) (tgt := 160) d_Mod_puts_14 (by omega) (by omega) (by rw [hsx]; rfl) rfl ?_
    refine go_iconst (pc := 160) (v := 1) d_Mod_puts_160 (by decide) ?_
    exact go_ret (pc := 161) (r := some (.int (1 : Int32))) d_Mod_puts_161 ⟨_, _, rfl, rfl, hk⟩
  · replace hk := hk.2.2.2.1 hsx
    refine go_tableIn (pc := 14) (tgt := 160) d_Mod_puts_14 (by omega) (by omega) (by rw [hsx]; rfl) rfl ?_
    refine go_iconst (pc := 160) (v := 1) d_Mod_puts_160 (by decide) ?_
    exact go_ret (pc := 161) (r := some (.int (1 : Int32))) d_Mod_puts_161 ⟨_, _, rfl, rfl, hk⟩
  · replace hk := hk.2.2.2.2.1 hsx
    refine go_tableIn (pc := 14) (tgt := 160) d_Mod_puts_14 (by omega) (by omega) (by rw [hsx]; rfl) rfl ?_
    refine go_iconst (pc := 160) (v := 1) d_Mod_puts_160 (by decide) ?_
    exact go_ret (pc := 161) (r := some (.int (1 : Int32))) d_Mod_puts_161 ⟨_, _, rfl, rfl, hk⟩
  · replace hk := hk.2.2.2.2.2.1 hsx
    refine go_tableIn (pc := 14) (tgt := 160) d_Mod_puts_14 (by omega) (by omega) (by rw [hsx]; rfl) rfl ?_
    refine go_iconst (pc := 160) (v := 1) d_Mod_puts_160 (by decide) ?_
    exact go_ret (pc := 161) (r := some (.int (1 : Int32))) d_Mod_puts_161 ⟨_, _, rfl, rfl, hk⟩
  · replace hk := hk.2.2.2.2.2.2.1 hsx
    refine go_tableIn (pc := 14) (tgt := 124) d_Mod_puts_14 (by omega) (by omega) (by rw [hsx]; rfl) rfl ?_
    refine go_iload_n (pc := 124) (i := 1) d_Mod_puts_124 rfl rfl ?_
    refine go_iconst (pc := 125) (v := 2) d_Mod_puts_125 (by decide) ?_
    refine go_icmp_ge (pc := 126) (tgt := 133) d_Mod_puts_126 rfl (fun h126 => ?_) (fun h126 => ?_)
    · replace hk := hk.1 h126
      refine go_iconst (pc := 133) (v := 3) d_Mod_puts_133 (by decide) ?_
      exact go_ret (pc := 134) (r := some (.int (3 : Int32))) d_Mod_puts_134 ⟨_, _, rfl, rfl, hk⟩
    · replace hk := hk.2 h126
      refine go_iconst (pc := 129) (v := 2) d_Mod_puts_129 (by decide) ?_
      refine go_goto (pc := 130) (tgt := 134) d_Mod_puts_130 rfl ?_
      exact go_ret (pc := 134) (r := some (.int (2 : Int32))) d_Mod_puts_134 ⟨_, _, rfl, rfl, hk⟩
  · replace hk := hk.2.2.2.2.2.2.2.1 hsx
    refine go_tableIn (pc := 14) (tgt := 160) d_Mod_puts_14 (by omega) (by omega) (by rw [hsx]; rfl) rfl ?_
    refine go_iconst (pc := 160) (v := 1) d_Mod_puts_160 (by decide) ?_
    exact go_ret (pc := 161) (r := some (.int (1 : Int32))) d_Mod_puts_161 ⟨_, _, rfl, rfl, hk⟩
  · replace hk := hk.2.2.2.2.2.2.2.2.1 hsx
    refine go_tableIn (pc := 14) (tgt := 135) d_Mod_puts_14 (by omega) (by omega) (by rw [hsx]; rfl) rfl ?_
    refine go_iload_n (pc := 135) (i := 2) d_Mod_puts_135 rfl rfl ?_
    refine go_if_ne (pc := 136) (tgt := 143) d_Mod_puts_136 rfl (fun h136 => ?_) (fun h136 => ?_)
    · replace hk := hk.1 h136
      refine go_bipush (pc := 143) (v := 7) d_Mod_puts_143 (by decide) ?_
      exact go_ret (pc := 145) (r := some (.int (7 : Int32))) d_Mod_puts_145 ⟨_, _, rfl, rfl, hk⟩
    · replace hk := hk.2 h136
      refine go_iconst (pc := 139) (v := 4) d_Mod_puts_139 (by decide) ?_
      refine go_goto (pc := 140) (tgt := 145) d_Mod_puts_140 rfl ?_
      exact go_ret (pc := 145) (r := some (.int (4 : Int32))) d_Mod_puts_145 ⟨_, _, rfl, rfl, hk⟩
  · replace hk := hk.2.2.2.2.2.2.2.2.2.1 hsx
    refine go_tableIn (pc := 14) (tgt := 160) d_Mod_puts_14 (by omega) (by omega) (by rw [hsx]; rfl) rfl ?_
    refine go_iconst (pc := 160) (v := 1) d_Mod_puts_160 (by decide) ?_
    exact go_ret (pc := 161) (r := some (.int (1 : Int32))) d_Mod_puts_161 ⟨_, _, rfl, rfl, hk⟩
  · replace hk := hk.2.2.2.2.2.2.2.2.2.2.1 hsx
    refine go_tableIn (pc := 14) (tgt := 158) d_Mod_puts_14 (by omega) (by omega) (by rw [hsx]; rfl) rfl ?_
    refine go_iconst (pc := 158) (v := 3) d_Mod_puts_158 (by decide) ?_
    exact go_ret (pc := 159) (r := some (.int (3 : Int32))) d_Mod_puts_159 ⟨_, _, rfl, rfl, hk⟩
  · replace hk := hk.2.2.2.2.2.2.2.2.2.2.2.1 hsx
    refine go_tableIn (pc := 14) (tgt := 146) d_Mod_puts_14 (by omega) (by omega) (by rw [hsx]; rfl) rfl ?_
    refine go_iload_n (pc := 146) (i := 1) d_Mod_puts_146 rfl rfl ?_
    refine go_if_ne (pc := 147) (tgt := 154) d_Mod_puts_147 rfl (fun h147 => ?_) (fun h147 => ?_)
    · replace hk := hk.1 h147
      refine go_iconst (pc := 154) (v := 3) d_Mod_puts_154 (by decide) ?_
      exact go_ret (pc := 155) (r := some (.int (3 : Int32))) d_Mod_puts_155 ⟨_, _, rfl, rfl, hk⟩
    · replace hk := hk.2 h147
      refine go_iconst (pc := 150) (v := 2) d_Mod_puts_150 (by decide) ?_
      refine go_goto (pc := 151) (tgt := 155) d_Mod_puts_151 rfl ?_
      exact go_ret (pc := 155) (r := some (.int (2 : Int32))) d_Mod_puts_155 ⟨_, _, rfl, rfl, hk⟩
  · replace hk := hk.2.2.2.2.2.2.2.2.2.2.2.2.1 hsx
    refine go_tableIn (pc := 14) (tgt := 160) d_Mod_puts_14 (by omega) (by omega) (by rw [hsx]; rfl) rfl ?_
    refine go_iconst (pc := 160) (v := 1) d_Mod_puts_160 (by decide) ?_
    exact go_ret (pc := 161) (r := some (.int (1 : Int32))) d_Mod_puts_161 ⟨_, _, rfl, rfl, hk⟩
  · replace hk := hk.2.2.2.2.2.2.2.2.2.2.2.2.2.1 hsx
    refine go_tableIn (pc := 14) (tgt := 156) d_Mod_puts_14 (by omega) (by omega) (by rw [hsx]; rfl) rfl ?_
    refine go_iconst (pc := 156) (v := 2) d_Mod_puts_156 (by decide) ?_
    exact go_ret (pc := 157) (r := some (.int (2 : Int32))) d_Mod_puts_157 ⟨_, _, rfl, rfl, hk⟩
  · replace hk := hk.2.2.2.2.2.2.2.2.2.2.2.2.2.2.1 hsx
    refine go_tableIn (pc := 14) (tgt := 158) d_Mod_puts_14 (by omega) (by omega) (by rw [hsx]; rfl) rfl ?_
    refine go_iconst (pc := 158) (v := 3) d_Mod_puts_158 (by decide) ?_
    exact go_ret (pc := 159) (r := some (.int (3 : Int32))) d_Mod_puts_159 ⟨_, _, rfl, rfl, hk⟩
  · replace hk := hk.2.2.2.2.2.2.2.2.2.2.2.2.2.2.2.1 hsx
    refine go_tableIn (pc := 14) (tgt := 158) d_Mod_puts_14 (by omega) (by omega) (by rw [hsx]; rfl) rfl ?_
    refine go_iconst (pc := 158) (v := 3) d_Mod_puts_158 (by decide) ?_
    exact go_ret (pc := 159) (r := some (.int (3 : Int32))) d_Mod_puts_159 ⟨_, _, rfl, rfl, hk⟩
  · replace hk := hk.2.2.2.2.2.2.2.2.2.2.2.2.2.2.2.2.1 hsx
    refine go_tableIn (pc := 14) (tgt := 160) d_Mod_puts_14 (by omega) (by omega) (by rw [hsx]; rfl) rfl ?_
    refine go_iconst (pc := 160) (v := 1) d_Mod_puts_160 (by decide) ?_
    exact go_ret (pc := 161) (r := some (.int (1 : Int32))) d_Mod_puts_161 ⟨_, _, rfl, rfl, hk⟩
  · replace hk := hk.2.2.2.2.2.2.2.2.2.2.2.2.2.2.2.2.2.1 hsx
    refine go_tableIn (pc := 14) (tgt := 160) d_Mod_puts_14 (by omega) (by omega) (by rw [hsx]; rfl) rfl ?_
    refine go_iconst (pc := 160) (v := 1) d_Mod_puts_160 (by decide) ?_
    exact go_ret (pc := 161) (r := some (.int (1 : Int32))) d_Mod_puts_161 ⟨_, _, rfl, rfl, hk⟩
  · replace hk := hk.2.2.2.2.2.2.2.2.2.2.2.2.2.2.2.2.2.2.1 hsx
    refine go_tableIn (pc := 14) (tgt := 160) d_Mod_puts_14 (by omega) (by omega) (by rw [hsx]; rfl) rfl ?_
    refine go_iconst (pc := 160) (v := 1) d_Mod_puts_160 (by decide) ?_
    exact go_ret (pc := 161) (r := some (.int (1 : Int32))) d_Mod_puts_161 ⟨_, _, rfl, rfl, hk⟩
  · replace hk := hk.2.2.2.2.2.2.2.2.2.2.2.2.2.2.2.2.2.2.2.1 hsx
    refine go_tableIn (pc := 14) (tgt := 156) d_Mod_puts_14 (by omega) (by omega) (by rw [hsx]; rfl) rfl ?_
    refine go_iconst (pc := 156) (v := 2) d_Mod_puts_156 (by decide) ?_
    exact go_ret (pc := 157) (r := some (.int (2 : Int32))) d_Mod_puts_157 ⟨_, _, rfl, rfl, hk⟩
  · replace hk := hk.2.2.2.2.2.2.2.2.2.2.2.2.2.2.2.2.2.2.2.2.1 hsx
    refine go_tableIn (pc := 14) (tgt := 156) d_Mod_puts_14 (by omega) (by omega) (by rw [hsx]; rfl) rfl ?_
    refine go_iconst (pc := 156) (v := 2) d_Mod_puts_156 (by decide) ?_
    exact go_ret (pc := 157) (r := some (.int (2 : Int32))) d_Mod_puts_157 ⟨_, _, rfl, rfl, hk⟩
  · replace hk := hk.2.2.2.2.2.2.2.2.2.2.2.2.2.2.2.2.2.2.2.2.2.1 hsx
    refine go_tableIn (pc := 14) (tgt := 158) d_Mod_puts_14 (by omega) (by omega) (by rw [hsx]; rfl) rfl ?_
    refine go_iconst (pc := 158) (v := 3) d_Mod_puts_158 (by decide) ?_
    exact go_ret (pc := 159) (r := some (.int (3 : Int32))) d_Mod_puts_159 ⟨_, _, rfl, rfl, hk⟩
  · replace hk := hk.2.2.2.2.2.2.2.2.2.2.2.2.2.2.2.2.2.2.2.2.2.2.1 hsx
    refine go_tableIn (pc := 14) (tgt := 156) d_Mod_puts_14 (by omega) (by omega) (by rw [hsx]; rfl) rfl ?_
    refine go_iconst (pc := 156) (v := 2) d_Mod_puts_156 (by decide) ?_
    exact go_ret (pc := 157) (r := some (.int (2 : Int32))) d_Mod_puts_157 ⟨_, _, rfl, rfl, hk⟩
  · replace hk := hk.2.2.2.2.2.2.2.2.2.2.2.2.2.2.2.2.2.2.2.2.2.2.2 hsx
    refine go_tableIn (pc := 14) (tgt := 156) d_Mod_puts_14 (by omega) (by omega) (by rw [hsx]; rfl) rfl ?_
    refine go_iconst (pc := 156) (v := 2) d_Mod_puts_156 (by decide) ?_
    exact go_ret (pc := 157) (r := some (.int (2 : Int32))) d_Mod_puts_157 ⟨_, _, rfl, rfl, hk⟩
def wp_Mod_puts (a1 : Int32) (a2 : Int32) (a3 : Int32) (μ : Mu) (Q : Int32 → Mu → Prop) : Prop := (((a1 < (2 : Int32)) → wp_Mod_puts_j13 a1 a2 a3 μ  Q) ∧ ((¬ a1 < (2 : Int32)) → ((((6 : Int32) < a1) → wp_Mod_puts_j13 a1 a2 a3 μ  Q) ∧ ((¬ (6 : Int32) < a1) → Q (2 : Int32) μ))))
set_option maxRecDepth 100000 in
set_option maxHeartbeats 4000000 in
theorem m_Mod_puts {l : Launch} {a1 : Int32} {a2 : Int32} {a3 : Int32}  {μ : Mu} {Q : Int32 → Mu → Prop} (hk : wp_Mod_puts a1 a2 a3 μ Q) : Mets (mE l) mt_Mod_puts false (rmd 0) [.int a1, .int a2, .int a3] (lay μ) (PI Q) := by
  unfold wp_Mod_puts at hk
  refine mets_of (L := [some (.int a1), some (.int a2), some (.int a3)]) (by decide) (Nat.le_of_ble_eq_true rfl) rfl ?_
  refine go_iload_n (pc := 0) (i := 0) d_Mod_puts_0 rfl rfl ?_
  refine go_iconst (pc := 1) (v := 2) d_Mod_puts_1 (by decide) ?_
  refine go_icmp_lt (pc := 2) (tgt := 13) d_Mod_puts_2 rfl (fun h2 => ?_) (fun h2 => ?_)
  · replace hk := hk.1 h2
    exact g_Mod_puts_j13   hk
  · replace hk := hk.2 h2
    refine go_iload_n (pc := 5) (i := 0) d_Mod_puts_5 rfl rfl ?_
    refine go_bipush (pc := 6) (v := 6) d_Mod_puts_6 (by decide) ?_
    refine go_icmp_gt (pc := 8) (tgt := 13) d_Mod_puts_8 rfl (fun h8 => ?_) (fun h8 => ?_)
    · replace hk := hk.1 h8
      exact g_Mod_puts_j13   hk
    · replace hk := hk.2 h8
      refine go_iconst (pc := 11) (v := 2) d_Mod_puts_11 (by decide) ?_
      exact go_ret (pc := 12) (r := some (.int (2 : Int32))) d_Mod_puts_12 ⟨_, _, rfl, rfl, hk⟩
def wp_Mod_size_4  (K0 : Int32 → Int32 → Mu → Prop) (Q : Int32 → Mu → Prop) : Nat → Int32 → Int32 → Mu → Prop
  | 0, _, _, _ => False
  | n4 + 1, v1, v2, μ => (((v2 ≤ (1 : Int32)) → K0 v1 v2 μ) ∧ ((¬ v2 ≤ (1 : Int32)) → wp_Mod_size_4  K0 Q n4 (v1 + 1) (v2 / (2 : Int32)) μ))
set_option maxRecDepth 100000 in
set_option maxHeartbeats 4000000 in
theorem g_Mod_size_4 {l : Launch}   {K0 : Int32 → Int32 → Mu → Prop} {Q : Int32 → Mu → Prop} (hK0 : ∀ (v1 : Int32) (v2 : Int32) (μ : Mu), K0 v1 v2 μ → Go (mE l) mt_Mod_size false (rmd 0) 0 0 19 [none, some (.int v1), some (.int v2)] [] (lay μ) (PI Q)) : ∀ (n : Nat) (v1 : Int32) (v2 : Int32) (μ : Mu), wp_Mod_size_4  K0 Q n v1 v2 μ → Go (mE l) mt_Mod_size false (rmd 0) 0 0 4 [none, some (.int v1), some (.int v2)] [] (lay μ) (PI Q) := by
  intro n
  induction n with
  | zero => intro v1 v2 μ hk; exact hk.elim
  | succ n ih =>
    intro v1 v2 μ hk
    unfold wp_Mod_size_4 at hk
    refine go_iload_n (pc := 4) (i := 2) d_Mod_size_4 rfl rfl ?_
    refine go_iconst (pc := 5) (v := 1) d_Mod_size_5 (by decide) ?_
    refine go_icmp_le (pc := 6) (tgt := 19) d_Mod_size_6 rfl (fun h6 => ?_) (fun h6 => ?_)
    · replace hk := hk.1 h6
      exact hK0 _ _ _ hk
    · replace hk := hk.2 h6
      refine go_iinc (pc := 9) (v := (v1 + 1)) (L' := [none, some (.int (v1 + 1)), some (.int v2)]) d_Mod_size_9 rfl rfl (by decide) rfl ?_
      refine go_iload_n (pc := 12) (i := 2) d_Mod_size_12 rfl rfl ?_
      refine go_iconst (pc := 13) (v := 2) d_Mod_size_13 (by decide) ?_
      refine go_idiv (pc := 14) d_Mod_size_14 (by decide) ?_
      refine go_istore_n (pc := 15) (i := 2) (L' := [none, some (.int (v1 + 1)), some (.int (v2 / (2 : Int32)))]) d_Mod_size_15 rfl (by decide) rfl ?_
      refine go_goto (pc := 16) (tgt := 4) d_Mod_size_16 rfl ?_
      exact ih _ _ _ hk
def wp_Mod_size (a1 : Int32) (μ : Mu) (Q : Int32 → Mu → Prop) : Prop := (∃ n4, wp_Mod_size_4  (fun v1 v2 μ3 => Q v1 μ3) Q n4 (0 : Int32) a1 μ)
set_option maxRecDepth 100000 in
set_option maxHeartbeats 4000000 in
theorem m_Mod_size {l : Launch} {a1 : Int32}  {μ : Mu} {Q : Int32 → Mu → Prop} (hk : wp_Mod_size a1 μ Q) : Mets (mE l) mt_Mod_size false (rmd 0) [.int a1] (lay μ) (PI Q) := by
  unfold wp_Mod_size at hk
  refine mets_of (L := [some (.int a1), none, none]) (by decide) (Nat.le_of_ble_eq_true rfl) rfl ?_
  refine go_iconst (pc := 0) (v := 0) d_Mod_size_0 (by decide) ?_
  refine go_istore_n (pc := 1) (i := 1) (L' := [some (.int a1), some (.int (0 : Int32)), none]) d_Mod_size_1 rfl (by decide) rfl ?_
  refine go_iload_n (pc := 2) (i := 0) d_Mod_size_2 rfl rfl ?_
  refine go_istore_n (pc := 3) (i := 2) (L' := [some (.int a1), some (.int (0 : Int32)), some (.int a1)]) d_Mod_size_3 rfl (by decide) rfl ?_
  obtain ⟨n, hk⟩ := hk
  refine go_weak (L' := [none, some (.int (0 : Int32)), some (.int a1)]) (lle_at (by simp [lle])) ?_
  refine g_Mod_size_4  (fun v1 v2 μ3 hk => ?_) n _ _ _ hk
  · try dsimp only at hk
    refine go_iload_n (pc := 19) (i := 1) d_Mod_size_19 rfl rfl ?_
    exact go_ret (pc := 20) (r := some (.int v1)) d_Mod_size_20 ⟨_, _, rfl, rfl, hk⟩
def wp_Mod_takes_j13 (j0 : Int32) (j1 : Int32) (j2 : Int32) (μ : Mu)  (Q : Int32 → Mu → Prop) : Prop := ((((Int32.toInt j0) < 8 ∨ 23 < (Int32.toInt j0)) → Q (1 : Int32) μ) ∧ (((Int32.toInt j0) = 8) → ((((2 : Int32) ≤ j1) → Q (3 : Int32) μ) ∧ ((¬ (2 : Int32) ≤ j1) → Q (2 : Int32) μ))) ∧ (((Int32.toInt j0) = 9) → Q ((2 : Int32) + j2) μ) ∧ (((Int32.toInt j0) = 10) → Q ((2 : Int32) + j2) μ) ∧ (((Int32.toInt j0) = 11) → Q (2 : Int32) μ) ∧ (((Int32.toInt j0) = 12) → Q (3 : Int32) μ) ∧ (((Int32.toInt j0) = 13) → (((¬ j1 = 0) → Q (7 : Int32) μ) ∧ ((j1 = 0) → Q (6 : Int32) μ))) ∧ (((Int32.toInt j0) = 14) → Q (7 : Int32) μ) ∧ (((Int32.toInt j0) = 15) → Q (1 : Int32) μ) ∧ (((Int32.toInt j0) = 16) → Q (1 : Int32) μ) ∧ (((Int32.toInt j0) = 17) → Q (1 : Int32) μ) ∧ (((Int32.toInt j0) = 18) → Q (2 : Int32) μ) ∧ (((Int32.toInt j0) = 19) → Q (2 : Int32) μ) ∧ (((Int32.toInt j0) = 20) → Q (1 : Int32) μ) ∧ (((Int32.toInt j0) = 21) → Q (3 : Int32) μ) ∧ (((Int32.toInt j0) = 22) → Q (1 : Int32) μ) ∧ (((Int32.toInt j0) = 23) → Q (2 : Int32) μ))
set_option maxRecDepth 100000 in
set_option maxHeartbeats 4000000 in
theorem g_Mod_takes_j13 {l : Launch} {j0 : Int32} {j1 : Int32} {j2 : Int32}   {Q : Int32 → Mu → Prop}  {μ : Mu} (hk : wp_Mod_takes_j13 j0 j1 j2 μ  Q) : Go (mE l) mt_Mod_takes false (rmd 0) 0 0 13 [some (.int j0), some (.int j1), some (.int j2)] [] (lay μ) (PI Q) := by
  unfold wp_Mod_takes_j13 at hk
  refine go_iload_n (pc := 13) (i := 0) d_Mod_takes_13 rfl rfl ?_
  by_cases hsw : (Int32.toInt j0) < 8 ∨ 23 < (Int32.toInt j0)
  · replace hk := hk.1 hsw
    refine go_tableOut (pc := 14) (tgt := 126) d_Mod_takes_14 hsw rfl ?_
    refine go_iconst (pc := 126) (v := 1) d_Mod_takes_126 (by decide) ?_
    exact go_ret (pc := 127) (r := some (.int (1 : Int32))) d_Mod_takes_127 ⟨_, _, rfl, rfl, hk⟩
  replace hk := hk.2
  have hsx : (Int32.toInt j0) = 8 ∨ (Int32.toInt j0) = 9 ∨ (Int32.toInt j0) = 10 ∨ (Int32.toInt j0) = 11 ∨ (Int32.toInt j0) = 12 ∨ (Int32.toInt j0) = 13 ∨ (Int32.toInt j0) = 14 ∨ (Int32.toInt j0) = 15 ∨ (Int32.toInt j0) = 16 ∨ (Int32.toInt j0) = 17 ∨ (Int32.toInt j0) = 18 ∨ (Int32.toInt j0) = 19 ∨ (Int32.toInt j0) = 20 ∨ (Int32.toInt j0) = 21 ∨ (Int32.toInt j0) = 22 ∨ (Int32.toInt j0) = 23 := by omega
  rcases hsx with hsx | hsx | hsx | hsx | hsx | hsx | hsx | hsx | hsx | hsx | hsx | hsx | hsx | hsx | hsx | hsx
  · replace hk := hk.1 hsx
    refine go_tableIn (pc := 14) (tgt := 92) d_Mod_takes_14 (by omega) (by omega) (by rw [hsx]; rfl) rfl ?_
    refine go_iload_n (pc := 92) (i := 1) d_Mod_takes_92 rfl rfl ?_
    refine go_iconst (pc := 93) (v := 2) d_Mod_takes_93 (by decide) ?_
    refine go_icmp_ge (pc := 94) (tgt := 101) d_Mod_takes_94 rfl (fun h94 => ?_) (fun h94 => ?_)
    · replace hk := hk.1 h94
      refine go_iconst (pc := 101) (v := 3) d_Mod_takes_101 (by decide) ?_
      exact go_ret (pc := 102) (r := some (.int (3 : Int32))) d_Mod_takes_102 ⟨_, _, rfl, rfl, hk⟩
    · replace hk := hk.2 h94
      refine go_iconst (pc := 97) (v := 2) d_Mod_takes_97 (by decide) ?_
      refine go_goto (pc := 98) (tgt := 102) d_Mod_takes_98 rfl ?_
      exact go_ret (pc := 102) (r := some (.int (2 : Int32))) d_Mod_takes_102 ⟨_, _, rfl, rfl, hk⟩
  · replace hk := hk.2.1 hsx
    refine go_tableIn (pc := 14) (tgt := 103) d_Mod_takes_14 (by omega) (by omega) (by rw [hsx]; rfl) rfl ?_
    refine go_iconst (pc := 103) (v := 2) d_Mod_takes_103 (by decide) ?_
    refine go_iload_n (pc := 104) (i := 2) d_Mod_takes_104 rfl rfl ?_
    refine go_iadd (pc := 105) d_Mod_takes_105 ?_
    exact go_ret (pc := 106) (r := some (.int ((2 : Int32) + j2))) d_Mod_takes_106 ⟨_, _, rfl, rfl, hk⟩
  · replace hk := hk.2.2.1 hsx
    refine go_tableIn (pc := 14) (tgt := 103) d_Mod_takes_14 (by omega) (by omega) (by rw [hsx]; rfl) rfl ?_
    refine go_iconst (pc := 103) (v := 2) d_Mod_takes_103 (by decide) ?_
    refine go_iload_n (pc := 104) (i := 2) d_Mod_takes_104 rfl rfl ?_
    refine go_iadd (pc := 105) d_Mod_takes_105 ?_
    exact go_ret (pc := 106) (r := some (.int ((2 : Int32) + j2))) d_Mod_takes_106 ⟨_, _, rfl, rfl, hk⟩
  · replace hk := hk.2.2.2.1 hsx
    refine go_tableIn (pc := 14) (tgt := 107) d_Mod_takes_14 (by omega) (by omega) (by rw [hsx]; rfl) rfl ?_
    refine go_iconst (pc := 107) (v := 2) d_Mod_takes_107 (by decide) ?_
    exact go_ret (pc := 108) (r := some (.int (2 : Int32))) d_Mod_takes_108 ⟨_, _, rfl, rfl, hk⟩
  · replace hk := hk.2.2.2.2.1 hsx
    refine go_tableIn (pc := 14) (tgt := 109) d_Mod_takes_14 (by omega) (by omega) (by rw [hsx]; rfl) rfl ?_
    refine go_iconst (pc := 109) (v := 3) d_Mod_takes_109 (by decide) ?_
    exact go_ret (pc := 110) (r := some (.int (3 : Int32))) d_Mod_takes_110 ⟨_, _, rfl, rfl, hk⟩
  · replace hk := hk.2.2.2.2.2.1 hsx
    refine go_tableIn (pc := 14) (tgt := 111) d_Mod_takes_14 (by omega) (by omega) (by rw [hsx]; rfl) rfl ?_
    refine go_iload_n (pc := 111) (i := 1) d_Mod_takes_111 rfl rfl ?_
    refine go_if_ne (pc := 112) (tgt := 120) d_Mod_takes_112 rfl (fun h112 => ?_) (fun h112 => ?_)
    · replace hk := hk.1 h112
      refine go_bipush (pc := 120) (v := 7) d_Mod_takes_120 (by decide) ?_
      exact go_ret (pc := 122) (r := some (.int (7 : Int32))) d_Mod_takes_122 ⟨_, _, rfl, rfl, hk⟩
    · replace hk := hk.2 h112
      refine go_bipush (pc := 115) (v := 6) d_Mod_takes_115 (by decide) ?_
      refine go_goto (pc := 117) (tgt := 122) d_Mod_takes_117 rfl ?_
      exact go_ret (pc := 122) (r := some (.int (6 : Int32))) d_Mod_takes_122 ⟨_, _, rfl, rfl, hk⟩
  · replace hk := hk.2.2.2.2.2.2.1 hsx
    refine go_tableIn (pc := 14) (tgt := 123) d_Mod_takes_14 (by omega) (by omega) (by rw [hsx]; rfl) rfl ?_
    refine go_bipush (pc := 123) (v := 7) d_Mod_takes_123 (by decide) ?_
    exact go_ret (pc := 125) (r := some (.int (7 : Int32))) d_Mod_takes_125 ⟨_, _, rfl, rfl, hk⟩
  · replace hk := hk.2.2.2.2.2.2.2.1 hsx
    refine go_tableIn (pc := 14) (tgt := 126) d_Mod_takes_14 (by omega) (by omega) (by rw [hsx]; rfl) rfl ?_
    refine go_iconst (pc := 126) (v := 1) d_Mod_takes_126 (by decide) ?_
    exact go_ret (pc := 127) (r := some (.int (1 : Int32))) d_Mod_takes_127 ⟨_, _, rfl, rfl, hk⟩
  · replace hk := hk.2.2.2.2.2.2.2.2.1 hsx
    refine go_tableIn (pc := 14) (tgt := 126) d_Mod_takes_14 (by omega) (by omega) (by rw [hsx]; rfl) rfl ?_
    refine go_iconst (pc := 126) (v := 1) d_Mod_takes_126 (by decide) ?_
    exact go_ret (pc := 127) (r := some (.int (1 : Int32))) d_Mod_takes_127 ⟨_, _, rfl, rfl, hk⟩
  · replace hk := hk.2.2.2.2.2.2.2.2.2.1 hsx
    refine go_tableIn (pc := 14) (tgt := 126) d_Mod_takes_14 (by omega) (by omega) (by rw [hsx]; rfl) rfl ?_
    refine go_iconst (pc := 126) (v := 1) d_Mod_takes_126 (by decide) ?_
    exact go_ret (pc := 127) (r := some (.int (1 : Int32))) d_Mod_takes_127 ⟨_, _, rfl, rfl, hk⟩
  · replace hk := hk.2.2.2.2.2.2.2.2.2.2.1 hsx
    refine go_tableIn (pc := 14) (tgt := 107) d_Mod_takes_14 (by omega) (by omega) (by rw [hsx]; rfl) rfl ?_
    refine go_iconst (pc := 107) (v := 2) d_Mod_takes_107 (by decide) ?_
    exact go_ret (pc := 108) (r := some (.int (2 : Int32))) d_Mod_takes_108 ⟨_, _, rfl, rfl, hk⟩
  · replace hk := hk.2.2.2.2.2.2.2.2.2.2.2.1 hsx
    refine go_tableIn (pc := 14) (tgt := 107) d_Mod_takes_14 (by omega) (by omega) (by rw [hsx]; rfl) rfl ?_
    refine go_iconst (pc := 107) (v := 2) d_Mod_takes_107 (by decide) ?_
    exact go_ret (pc := 108) (r := some (.int (2 : Int32))) d_Mod_takes_108 ⟨_, _, rfl, rfl, hk⟩
  · replace hk := hk.2.2.2.2.2.2.2.2.2.2.2.2.1 hsx
    refine go_tableIn (pc := 14) (tgt := 126) d_Mod_takes_14 (by omega) (by omega) (by rw [hsx]; rfl) rfl ?_
    refine go_iconst (pc := 126) (v := 1) d_Mod_takes_126 (by decide) ?_
    exact go_ret (pc := 127) (r := some (.int (1 : Int32))) d_Mod_takes_127 ⟨_, _, rfl, rfl, hk⟩
  · replace hk := hk.2.2.2.2.2.2.2.2.2.2.2.2.2.1 hsx
    refine go_tableIn (pc := 14) (tgt := 109) d_Mod_takes_14 (by omega) (by omega) (by rw [hsx]; rfl) rfl ?_
    refine go_iconst (pc := 109) (v := 3) d_Mod_takes_109 (by decide) ?_
    exact go_ret (pc := 110) (r := some (.int (3 : Int32))) d_Mod_takes_110 ⟨_, _, rfl, rfl, hk⟩
  · replace hk := hk.2.2.2.2.2.2.2.2.2.2.2.2.2.2.1 hsx
    refine go_tableIn (pc := 14) (tgt := 126) d_Mod_takes_14 (by omega) (by omega) (by rw [hsx]; rfl) rfl ?_
    refine go_iconst (pc := 126) (v := 1) d_Mod_takes_126 (by decide) ?_
    exact go_ret (pc := 127) (r := some (.int (1 : Int32))) d_Mod_takes_127 ⟨_, _, rfl, rfl, hk⟩
  · replace hk := hk.2.2.2.2.2.2.2.2.2.2.2.2.2.2.2 hsx
    refine go_tableIn (pc := 14) (tgt := 107) d_Mod_takes_14 (by omega) (by omega) (by rw [hsx]; rfl) rfl ?_
    refine go_iconst (pc := 107) (v := 2) d_Mod_takes_107 (by decide) ?_
    exact go_ret (pc := 108) (r := some (.int (2 : Int32))) d_Mod_takes_108 ⟨_, _, rfl, rfl, hk⟩
def wp_Mod_takes (a1 : Int32) (a2 : Int32) (a3 : Int32) (μ : Mu) (Q : Int32 → Mu → Prop) : Prop := (((a1 < (2 : Int32)) → wp_Mod_takes_j13 a1 a2 a3 μ  Q) ∧ ((¬ a1 < (2 : Int32)) → ((((6 : Int32) < a1) → wp_Mod_takes_j13 a1 a2 a3 μ  Q) ∧ ((¬ (6 : Int32) < a1) → Q (4 : Int32) μ))))
set_option maxRecDepth 100000 in
set_option maxHeartbeats 4000000 in
theorem m_Mod_takes {l : Launch} {a1 : Int32} {a2 : Int32} {a3 : Int32}  {μ : Mu} {Q : Int32 → Mu → Prop} (hk : wp_Mod_takes a1 a2 a3 μ Q) : Mets (mE l) mt_Mod_takes false (rmd 0) [.int a1, .int a2, .int a3] (lay μ) (PI Q) := by
  unfold wp_Mod_takes at hk
  refine mets_of (L := [some (.int a1), some (.int a2), some (.int a3)]) (by decide) (Nat.le_of_ble_eq_true rfl) rfl ?_
  refine go_iload_n (pc := 0) (i := 0) d_Mod_takes_0 rfl rfl ?_
  refine go_iconst (pc := 1) (v := 2) d_Mod_takes_1 (by decide) ?_
  refine go_icmp_lt (pc := 2) (tgt := 13) d_Mod_takes_2 rfl (fun h2 => ?_) (fun h2 => ?_)
  · replace hk := hk.1 h2
    exact g_Mod_takes_j13   hk
  · replace hk := hk.2 h2
    refine go_iload_n (pc := 5) (i := 0) d_Mod_takes_5 rfl rfl ?_
    refine go_bipush (pc := 6) (v := 6) d_Mod_takes_6 (by decide) ?_
    refine go_icmp_gt (pc := 8) (tgt := 13) d_Mod_takes_8 rfl (fun h8 => ?_) (fun h8 => ?_)
    · replace hk := hk.1 h8
      exact g_Mod_takes_j13   hk
    · replace hk := hk.2 h8
      refine go_iconst (pc := 11) (v := 4) d_Mod_takes_11 (by decide) ?_
      exact go_ret (pc := 12) (r := some (.int (4 : Int32))) d_Mod_takes_12 ⟨_, _, rfl, rfl, hk⟩
def wp_Mod_leaves (a1 : Int32) (a2 : Int32) (a3 : Int32) (μ : Mu) (Q : Int32 → Mu → Prop) : Prop := wp_Mod_takes a1 a2 (a3 &&& (1 : Int32)) μ (fun x2 μ1 => wp_Mod_puts a1 a2 (a3 &&& (1 : Int32)) μ1 (fun x4 μ3 => wp_Mod_size x2 μ3 (fun x6 μ5 => (¬ ((1 : Int32) <<< (x6 &&& 31)) = 0 ∧ ((((a3 / ((1 : Int32) <<< (x6 &&& 31))) = 0) → Q (0 : Int32) μ5) ∧ ((¬ (a3 / ((1 : Int32) <<< (x6 &&& 31))) = 0) → (¬ ((1 : Int32) <<< (x6 &&& 31)) = 0 ∧ (¬ ((1 : Int32) <<< (x6 &&& 31)) = 0 ∧ ((((a3 - a3 / ((1 : Int32) <<< (x6 &&& 31)) * ((1 : Int32) <<< (x6 &&& 31))) = (x2 - x2 / ((1 : Int32) <<< (x6 &&& 31)) * ((1 : Int32) <<< (x6 &&& 31)))) → wp_Mod_size x4 μ5 (fun x11 μ10 => (¬ ((1 : Int32) <<< (x6 &&& 31)) = 0 ∧ (¬ ((1 : Int32) <<< (x11 &&& 31)) = 0 ∧ wp_Mod_size (((a3 / ((1 : Int32) <<< (x6 &&& 31))) * ((1 : Int32) <<< (x11 &&& 31))) + (x4 - x4 / ((1 : Int32) <<< (x11 &&& 31)) * ((1 : Int32) <<< (x11 &&& 31)))) μ10 (fun x15 μ14 => (((x15 ≤ (6 : Int32)) → Q (((a3 / ((1 : Int32) <<< (x6 &&& 31))) * ((1 : Int32) <<< (x11 &&& 31))) + (x4 - x4 / ((1 : Int32) <<< (x11 &&& 31)) * ((1 : Int32) <<< (x11 &&& 31)))) μ14) ∧ ((¬ x15 ≤ (6 : Int32)) → Q (0 : Int32) μ14))))))) ∧ ((¬ (a3 - a3 / ((1 : Int32) <<< (x6 &&& 31)) * ((1 : Int32) <<< (x6 &&& 31))) = (x2 - x2 / ((1 : Int32) <<< (x6 &&& 31)) * ((1 : Int32) <<< (x6 &&& 31)))) → Q (0 : Int32) μ5))))))))))
set_option maxRecDepth 100000 in
set_option maxHeartbeats 4000000 in
theorem m_Mod_leaves {l : Launch} {a1 : Int32} {a2 : Int32} {a3 : Int32}  {μ : Mu} {Q : Int32 → Mu → Prop} (hk : wp_Mod_leaves a1 a2 a3 μ Q) : Mets (mE l) mt_Mod_leaves false (rmd 1) [.int a1, .int a2, .int a3] (lay μ) (PI Q) := by
  unfold wp_Mod_leaves at hk
  refine mets_of (L := [some (.int a1), some (.int a2), some (.int a3), none, none, none, none, none]) (by decide) (Nat.le_of_ble_eq_true rfl) rfl ?_
  refine go_iload_n (pc := 0) (i := 0) d_Mod_leaves_0 rfl rfl ?_
  refine go_iload_n (pc := 1) (i := 1) d_Mod_leaves_1 rfl rfl ?_
  refine go_iload_n (pc := 2) (i := 2) d_Mod_leaves_2 rfl rfl ?_
  refine go_iconst (pc := 3) (v := 1) d_Mod_leaves_3 (by decide) ?_
  refine go_iand (pc := 4) d_Mod_leaves_4 ?_
  refine go_callS (pc := 5) (m_Mod_takes  hk) cz_Mod_takes sm_Mod_takes (Or.inl lk_Mod_113) rfl rfl (Nat.le_of_ble_eq_true rfl) ⟨by decide, by decide⟩ rfl rfl d_Mod_leaves_5 (fun r M' hr => ?_)
  obtain ⟨x2, μ1, rfl, rfl, hk⟩ := hr
  try dsimp only [Option.toList, List.cons_append, List.nil_append]
  refine go_istore_n (pc := 8) (i := 3) (L' := [some (.int a1), some (.int a2), some (.int a3), some (.int x2), none, none, none, none]) d_Mod_leaves_8 rfl (by decide) rfl ?_
  refine go_iload_n (pc := 9) (i := 0) d_Mod_leaves_9 rfl rfl ?_
  refine go_iload_n (pc := 10) (i := 1) d_Mod_leaves_10 rfl rfl ?_
  refine go_iload_n (pc := 11) (i := 2) d_Mod_leaves_11 rfl rfl ?_
  refine go_iconst (pc := 12) (v := 1) d_Mod_leaves_12 (by decide) ?_
  refine go_iand (pc := 13) d_Mod_leaves_13 ?_
  refine go_callS (pc := 14) (m_Mod_puts  hk) cz_Mod_puts sm_Mod_puts (Or.inl lk_Mod_117) rfl rfl (Nat.le_of_ble_eq_true rfl) ⟨by decide, by decide⟩ rfl rfl d_Mod_leaves_14 (fun r M' hr => ?_)
  obtain ⟨x4, μ3, rfl, rfl, hk⟩ := hr
  try dsimp only [Option.toList, List.cons_append, List.nil_append]
  refine go_istore (pc := 17) (L' := [some (.int a1), some (.int a2), some (.int a3), some (.int x2), some (.int x4), none, none, none]) d_Mod_leaves_17 (by decide) rfl ?_
  refine go_iconst (pc := 19) (v := 1) d_Mod_leaves_19 (by decide) ?_
  refine go_iload_n (pc := 20) (i := 3) d_Mod_leaves_20 rfl rfl ?_
  refine go_callS (pc := 21) (m_Mod_size  hk) cz_Mod_size sm_Mod_size (Or.inl lk_Mod_120) rfl rfl (Nat.le_of_ble_eq_true rfl) ⟨by decide, by decide⟩ rfl rfl d_Mod_leaves_21 (fun r M' hr => ?_)
  obtain ⟨x6, μ5, rfl, rfl, hk⟩ := hr
  try dsimp only [Option.toList, List.cons_append, List.nil_append]
  refine go_ishl (pc := 24) d_Mod_leaves_24 ?_
  refine go_istore (pc := 25) (L' := [some (.int a1), some (.int a2), some (.int a3), some (.int x2), some (.int x4), some (.int ((1 : Int32) <<< (x6 &&& 31))), none, none]) d_Mod_leaves_25 (by decide) rfl ?_
  refine go_iload_n (pc := 27) (i := 2) d_Mod_leaves_27 rfl rfl ?_
  refine go_iload (pc := 28) d_Mod_leaves_28 rfl ?_
  obtain ⟨hz7, hk⟩ := hk
  refine go_idiv (pc := 30) d_Mod_leaves_30 hz7 ?_
  refine go_if_eq (pc := 31) (tgt := 45) d_Mod_leaves_31 rfl (fun h31 => ?_) (fun h31 => ?_)
  · replace hk := hk.1 h31
    refine go_iconst (pc := 45) (v := 0) d_Mod_leaves_45 (by decide) ?_
    exact go_ret (pc := 46) (r := some (.int (0 : Int32))) d_Mod_leaves_46 ⟨_, _, rfl, rfl, hk⟩
  · replace hk := hk.2 h31
    refine go_iload_n (pc := 34) (i := 2) d_Mod_leaves_34 rfl rfl ?_
    refine go_iload (pc := 35) d_Mod_leaves_35 rfl ?_
    obtain ⟨hz8, hk⟩ := hk
    refine go_irem (pc := 37) d_Mod_leaves_37 hz8 ?_
    refine go_iload_n (pc := 38) (i := 3) d_Mod_leaves_38 rfl rfl ?_
    refine go_iload (pc := 39) d_Mod_leaves_39 rfl ?_
    obtain ⟨hz9, hk⟩ := hk
    refine go_irem (pc := 41) d_Mod_leaves_41 hz9 ?_
    refine go_icmp_eq (pc := 42) (tgt := 47) d_Mod_leaves_42 rfl (fun h42 => ?_) (fun h42 => ?_)
    · replace hk := hk.1 h42
      refine go_iconst (pc := 47) (v := 1) d_Mod_leaves_47 (by decide) ?_
      refine go_iload (pc := 48) d_Mod_leaves_48 rfl ?_
      refine go_callS (pc := 50) (m_Mod_size  hk) cz_Mod_size sm_Mod_size (Or.inl lk_Mod_120) rfl rfl (Nat.le_of_ble_eq_true rfl) ⟨by decide, by decide⟩ rfl rfl d_Mod_leaves_50 (fun r M' hr => ?_)
      obtain ⟨x11, μ10, rfl, rfl, hk⟩ := hr
      try dsimp only [Option.toList, List.cons_append, List.nil_append]
      refine go_ishl (pc := 53) d_Mod_leaves_53 ?_
      refine go_istore (pc := 54) (L' := [some (.int a1), some (.int a2), some (.int a3), some (.int x2), some (.int x4), some (.int ((1 : Int32) <<< (x6 &&& 31))), some (.int ((1 : Int32) <<< (x11 &&& 31))), none]) d_Mod_leaves_54 (by decide) rfl ?_
      refine go_iload_n (pc := 56) (i := 2) d_Mod_leaves_56 rfl rfl ?_
      refine go_iload (pc := 57) d_Mod_leaves_57 rfl ?_
      obtain ⟨hz12, hk⟩ := hk
      refine go_idiv (pc := 59) d_Mod_leaves_59 hz12 ?_
      refine go_iload (pc := 60) d_Mod_leaves_60 rfl ?_
      refine go_imul (pc := 62) d_Mod_leaves_62 ?_
      refine go_iload (pc := 63) d_Mod_leaves_63 rfl ?_
      refine go_iload (pc := 65) d_Mod_leaves_65 rfl ?_
      obtain ⟨hz13, hk⟩ := hk
      refine go_irem (pc := 67) d_Mod_leaves_67 hz13 ?_
      refine go_iadd (pc := 68) d_Mod_leaves_68 ?_
      refine go_istore (pc := 69) (L' := [some (.int a1), some (.int a2), some (.int a3), some (.int x2), some (.int x4), some (.int ((1 : Int32) <<< (x6 &&& 31))), some (.int ((1 : Int32) <<< (x11 &&& 31))), some (.int (((a3 / ((1 : Int32) <<< (x6 &&& 31))) * ((1 : Int32) <<< (x11 &&& 31))) + (x4 - x4 / ((1 : Int32) <<< (x11 &&& 31)) * ((1 : Int32) <<< (x11 &&& 31)))))]) d_Mod_leaves_69 (by decide) rfl ?_
      refine go_iload (pc := 71) d_Mod_leaves_71 rfl ?_
      refine go_callS (pc := 73) (m_Mod_size  hk) cz_Mod_size sm_Mod_size (Or.inl lk_Mod_120) rfl rfl (Nat.le_of_ble_eq_true rfl) ⟨by decide, by decide⟩ rfl rfl d_Mod_leaves_73 (fun r M' hr => ?_)
      obtain ⟨x15, μ14, rfl, rfl, hk⟩ := hr
      try dsimp only [Option.toList, List.cons_append, List.nil_append]
      refine go_bipush (pc := 76) (v := 6) d_Mod_leaves_76 (by decide) ?_
      refine go_icmp_le (pc := 78) (tgt := 85) d_Mod_leaves_78 rfl (fun h78 => ?_) (fun h78 => ?_)
      · replace hk := hk.1 h78
        refine go_iload (pc := 85) d_Mod_leaves_85 rfl ?_
        exact go_ret (pc := 87) (r := some (.int (((a3 / ((1 : Int32) <<< (x6 &&& 31))) * ((1 : Int32) <<< (x11 &&& 31))) + (x4 - x4 / ((1 : Int32) <<< (x11 &&& 31)) * ((1 : Int32) <<< (x11 &&& 31)))))) d_Mod_leaves_87 ⟨_, _, rfl, rfl, hk⟩
      · replace hk := hk.2 h78
        refine go_iconst (pc := 81) (v := 0) d_Mod_leaves_81 (by decide) ?_
        refine go_goto (pc := 82) (tgt := 87) d_Mod_leaves_82 rfl ?_
        exact go_ret (pc := 87) (r := some (.int (0 : Int32))) d_Mod_leaves_87 ⟨_, _, rfl, rfl, hk⟩
    · replace hk := hk.2 h42
      refine go_iconst (pc := 45) (v := 0) d_Mod_leaves_45 (by decide) ?_
      exact go_ret (pc := 46) (r := some (.int (0 : Int32))) d_Mod_leaves_46 ⟨_, _, rfl, rfl, hk⟩
def wp_Mod_reach (a1 : Int32) (a2 : Int32) (a3 : Int32) (μ : Mu) (Q : Int32 → Mu → Prop) : Prop := (vp_in a1 4 ∧ (((a2 < (μ.2.1 95 (Int32.toNatClampNeg a1))) → (vp_in (((24 : Int32) * a1) + a2) 96 ∧ ((((μ.2.1 94 (Int32.toNatClampNeg (((24 : Int32) * a1) + a2))) = 0) → (vp_in (((24 : Int32) * a1) + a2) 96 ∧ ∀ μ4 : Mu, μ4 = setA μ 94 (Int32.toNatClampNeg (((24 : Int32) * a1) + a2)) a3 → Q (1 : Int32) μ4)) ∧ ((¬ (μ.2.1 94 (Int32.toNatClampNeg (((24 : Int32) * a1) + a2))) = 0) → (vp_in (((24 : Int32) * a1) + a2) 96 ∧ ((((μ.2.1 94 (Int32.toNatClampNeg (((24 : Int32) * a1) + a2))) = a3) → (vp_in (((24 : Int32) * a1) + a2) 96 ∧ ∀ μ7 : Mu, μ7 = setA μ 94 (Int32.toNatClampNeg (((24 : Int32) * a1) + a2)) a3 → Q (1 : Int32) μ7)) ∧ ((¬ (μ.2.1 94 (Int32.toNatClampNeg (((24 : Int32) * a1) + a2))) = a3) → Q (0 : Int32) μ))))))) ∧ ((¬ a2 < (μ.2.1 95 (Int32.toNatClampNeg a1))) → Q (0 : Int32) μ)))
set_option maxRecDepth 100000 in
set_option maxHeartbeats 4000000 in
theorem m_Mod_reach {l : Launch} {a1 : Int32} {a2 : Int32} {a3 : Int32}  {μ : Mu} {Q : Int32 → Mu → Prop} (hk : wp_Mod_reach a1 a2 a3 μ Q) : Mets (mE l) mt_Mod_reach false (rmd 0) [.ref 91, .int a1, .int a2, .int a3] (lay μ) (PI Q) := by
  unfold wp_Mod_reach at hk
  refine mets_of (L := [some (.ref 91), some (.int a1), some (.int a2), some (.int a3), none]) (by decide) (Nat.le_of_ble_eq_true rfl) rfl ?_
  refine go_iload_n (pc := 0) (i := 2) d_Mod_reach_0 rfl rfl ?_
  refine go_aload_n (pc := 1) (i := 0) d_Mod_reach_1 rfl rfl ?_
  refine go_getR (pc := 2) (r := 95) sh_model rfl fl_Mod_19 d_Mod_reach_2 ?_
  refine go_iload_n (pc := 5) (i := 1) d_Mod_reach_5 rfl rfl ?_
  obtain ⟨hi1, hk⟩ := hk
  refine go_aldI (pc := 6) sh_m_many hi1 d_Mod_reach_6 ?_
  refine go_icmp_lt (pc := 7) (tgt := 12) d_Mod_reach_7 rfl (fun h7 => ?_) (fun h7 => ?_)
  · replace hk := hk.1 h7
    refine go_bipush (pc := 12) (v := 24) d_Mod_reach_12 (by decide) ?_
    refine go_iload_n (pc := 14) (i := 1) d_Mod_reach_14 rfl rfl ?_
    refine go_imul (pc := 15) d_Mod_reach_15 ?_
    refine go_iload_n (pc := 16) (i := 2) d_Mod_reach_16 rfl rfl ?_
    refine go_iadd (pc := 17) d_Mod_reach_17 ?_
    refine go_istore (pc := 18) (L' := [some (.ref 91), some (.int a1), some (.int a2), some (.int a3), some (.int (((24 : Int32) * a1) + a2))]) d_Mod_reach_18 (by decide) rfl ?_
    refine go_aload_n (pc := 20) (i := 0) d_Mod_reach_20 rfl rfl ?_
    refine go_getR (pc := 21) (r := 94) sh_model rfl fl_Mod_16 d_Mod_reach_21 ?_
    refine go_iload (pc := 24) d_Mod_reach_24 rfl ?_
    obtain ⟨hi2, hk⟩ := hk
    refine go_aldI (pc := 26) sh_m_shapes hi2 d_Mod_reach_26 ?_
    refine go_if_eq (pc := 27) (tgt := 43) d_Mod_reach_27 rfl (fun h27 => ?_) (fun h27 => ?_)
    · replace hk := hk.1 h27
      refine go_aload_n (pc := 43) (i := 0) d_Mod_reach_43 rfl rfl ?_
      refine go_getR (pc := 44) (r := 94) sh_model rfl fl_Mod_16 d_Mod_reach_44 ?_
      refine go_iload (pc := 47) d_Mod_reach_47 rfl ?_
      refine go_iload_n (pc := 49) (i := 3) d_Mod_reach_49 rfl rfl ?_
      obtain ⟨hi3, hk⟩ := hk
      refine go_astIn (pc := 50) sh_m_shapes hi3 d_Mod_reach_50 (fun μ4 e4 => ?_)
      replace hk := hk μ4 e4
      refine go_iconst (pc := 51) (v := 1) d_Mod_reach_51 (by decide) ?_
      exact go_ret (pc := 52) (r := some (.int (1 : Int32))) ⟨nar_zv (by decide), d_Mod_reach_52⟩ ⟨_, _, rfl, rfl, hk⟩
    · replace hk := hk.2 h27
      refine go_aload_n (pc := 30) (i := 0) d_Mod_reach_30 rfl rfl ?_
      refine go_getR (pc := 31) (r := 94) sh_model rfl fl_Mod_16 d_Mod_reach_31 ?_
      refine go_iload (pc := 34) d_Mod_reach_34 rfl ?_
      obtain ⟨hi5, hk⟩ := hk
      refine go_aldI (pc := 36) sh_m_shapes hi5 d_Mod_reach_36 ?_
      refine go_iload_n (pc := 37) (i := 3) d_Mod_reach_37 rfl rfl ?_
      refine go_icmp_eq (pc := 38) (tgt := 43) d_Mod_reach_38 rfl (fun h38 => ?_) (fun h38 => ?_)
      · replace hk := hk.1 h38
        refine go_aload_n (pc := 43) (i := 0) d_Mod_reach_43 rfl rfl ?_
        refine go_getR (pc := 44) (r := 94) sh_model rfl fl_Mod_16 d_Mod_reach_44 ?_
        refine go_iload (pc := 47) d_Mod_reach_47 rfl ?_
        refine go_iload_n (pc := 49) (i := 3) d_Mod_reach_49 rfl rfl ?_
        obtain ⟨hi6, hk⟩ := hk
        refine go_astIn (pc := 50) sh_m_shapes hi6 d_Mod_reach_50 (fun μ7 e7 => ?_)
        replace hk := hk μ7 e7
        refine go_iconst (pc := 51) (v := 1) d_Mod_reach_51 (by decide) ?_
        exact go_ret (pc := 52) (r := some (.int (1 : Int32))) ⟨nar_zv (by decide), d_Mod_reach_52⟩ ⟨_, _, rfl, rfl, hk⟩
      · replace hk := hk.2 h38
        refine go_iconst (pc := 41) (v := 0) d_Mod_reach_41 (by decide) ?_
        exact go_ret (pc := 42) (r := some (.int (0 : Int32))) ⟨nar_zv (by decide), d_Mod_reach_42⟩ ⟨_, _, rfl, rfl, hk⟩
  · replace hk := hk.2 h7
    refine go_iconst (pc := 10) (v := 0) d_Mod_reach_10 (by decide) ?_
    exact go_ret (pc := 11) (r := some (.int (0 : Int32))) ⟨nar_zv (by decide), d_Mod_reach_11⟩ ⟨_, _, rfl, rfl, hk⟩
def wp_Mod_flows_j87 (j1 : Int32) (j2 : Int32) (j4 : Int32) (j5 : Int32) (s0 : Int32) (μ : Mu)  (Q : Int32 → Mu → Prop) : Prop := (((s0 = 0) → Q (0 : Int32) μ) ∧ ((¬ s0 = 0) → (((j4 = 0) → Q (1 : Int32) μ) ∧ ((¬ j4 = 0) → (((j4 = (17 : Int32)) → Q (1 : Int32) μ) ∧ ((¬ j4 = (17 : Int32)) → wp_Mod_reach j1 (j2 + (1 : Int32)) j5 μ (fun x11 μ10 => (((x11 = 0) → Q (0 : Int32) μ10) ∧ ((¬ x11 = 0) → Q (1 : Int32) μ10)))))))))
set_option maxRecDepth 100000 in
set_option maxHeartbeats 4000000 in
theorem g_Mod_flows_j87 {l : Launch} {j1 : Int32} {j2 : Int32} {j4 : Int32} {j5 : Int32} {s0 : Int32}   {Q : Int32 → Mu → Prop}  {μ : Mu} (hk : wp_Mod_flows_j87 j1 j2 j4 j5 s0 μ  Q) : Go (mE l) mt_Mod_flows false (rmd 2) 0 0 87 [some (.ref 91), some (.int j1), some (.int j2), none, some (.int j4), some (.int j5), none] [.int s0] (lay μ) (PI Q) := by
  unfold wp_Mod_flows_j87 at hk
  refine go_istore (pc := 87) (L' := [some (.ref 91), some (.int j1), some (.int j2), none, some (.int j4), some (.int j5), some (.int s0)]) d_Mod_flows_87 (by decide) rfl ?_
  refine go_iload (pc := 89) d_Mod_flows_89 rfl ?_
  refine go_if_eq (pc := 91) (tgt := 123) d_Mod_flows_91 rfl (fun h91 => ?_) (fun h91 => ?_)
  · replace hk := hk.1 h91
    refine go_iconst (pc := 123) (v := 0) d_Mod_flows_123 (by decide) ?_
    exact go_ret (pc := 124) (r := some (.int (0 : Int32))) ⟨nar_zv (by decide), d_Mod_flows_124⟩ ⟨_, _, rfl, rfl, hk⟩
  · replace hk := hk.2 h91
    refine go_iload (pc := 94) d_Mod_flows_94 rfl ?_
    refine go_if_eq (pc := 96) (tgt := 119) d_Mod_flows_96 rfl (fun h96 => ?_) (fun h96 => ?_)
    · replace hk := hk.1 h96
      refine go_iconst (pc := 119) (v := 1) d_Mod_flows_119 (by decide) ?_
      refine go_goto (pc := 120) (tgt := 124) d_Mod_flows_120 rfl ?_
      exact go_ret (pc := 124) (r := some (.int (1 : Int32))) ⟨nar_zv (by decide), d_Mod_flows_124⟩ ⟨_, _, rfl, rfl, hk⟩
    · replace hk := hk.2 h96
      refine go_iload (pc := 99) d_Mod_flows_99 rfl ?_
      refine go_bipush (pc := 101) (v := 17) d_Mod_flows_101 (by decide) ?_
      refine go_icmp_eq (pc := 103) (tgt := 119) d_Mod_flows_103 rfl (fun h103 => ?_) (fun h103 => ?_)
      · replace hk := hk.1 h103
        refine go_iconst (pc := 119) (v := 1) d_Mod_flows_119 (by decide) ?_
        refine go_goto (pc := 120) (tgt := 124) d_Mod_flows_120 rfl ?_
        exact go_ret (pc := 124) (r := some (.int (1 : Int32))) ⟨nar_zv (by decide), d_Mod_flows_124⟩ ⟨_, _, rfl, rfl, hk⟩
      · replace hk := hk.2 h103
        refine go_aload_n (pc := 106) (i := 0) d_Mod_flows_106 rfl rfl ?_
        refine go_iload_n (pc := 107) (i := 1) d_Mod_flows_107 rfl rfl ?_
        refine go_iload_n (pc := 108) (i := 2) d_Mod_flows_108 rfl rfl ?_
        refine go_iconst (pc := 109) (v := 1) d_Mod_flows_109 (by decide) ?_
        refine go_iadd (pc := 110) d_Mod_flows_110 ?_
        refine go_iload (pc := 111) d_Mod_flows_111 rfl ?_
        refine go_callV (pc := 113) (m_Mod_reach  hk) cz_Mod_reach cv_Mod_reach (Or.inl lk_Mod_126) (lay_at sh_model) rfl rfl rfl (Nat.le_of_ble_eq_true rfl) ⟨by decide, by decide⟩ rfl rfl d_Mod_flows_113 (fun r M' hr => ?_)
        obtain ⟨x11, μ10, rfl, rfl, hk⟩ := hr
        try dsimp only [Option.toList, List.cons_append, List.nil_append]
        refine go_if_eq (pc := 116) (tgt := 123) d_Mod_flows_116 rfl (fun h116 => ?_) (fun h116 => ?_)
        · replace hk := hk.1 h116
          refine go_iconst (pc := 123) (v := 0) d_Mod_flows_123 (by decide) ?_
          exact go_ret (pc := 124) (r := some (.int (0 : Int32))) ⟨nar_zv (by decide), d_Mod_flows_124⟩ ⟨_, _, rfl, rfl, hk⟩
        · replace hk := hk.2 h116
          refine go_iconst (pc := 119) (v := 1) d_Mod_flows_119 (by decide) ?_
          refine go_goto (pc := 120) (tgt := 124) d_Mod_flows_120 rfl ?_
          exact go_ret (pc := 124) (r := some (.int (1 : Int32))) ⟨nar_zv (by decide), d_Mod_flows_124⟩ ⟨_, _, rfl, rfl, hk⟩
def wp_Mod_flows_j82 (j1 : Int32) (j2 : Int32) (j4 : Int32) (j5 : Int32) (μ : Mu)  (Q : Int32 → Mu → Prop) : Prop := wp_Mod_flows_j87 j1 j2 j4 j5 (1 : Int32) μ  Q
set_option maxRecDepth 100000 in
set_option maxHeartbeats 4000000 in
theorem g_Mod_flows_j82 {l : Launch} {j1 : Int32} {j2 : Int32} {j4 : Int32} {j5 : Int32}   {Q : Int32 → Mu → Prop}  {μ : Mu} (hk : wp_Mod_flows_j82 j1 j2 j4 j5 μ  Q) : Go (mE l) mt_Mod_flows false (rmd 2) 0 0 82 [some (.ref 91), some (.int j1), some (.int j2), none, some (.int j4), some (.int j5), none] [] (lay μ) (PI Q) := by
  unfold wp_Mod_flows_j82 at hk
  refine go_iconst (pc := 82) (v := 1) d_Mod_flows_82 (by decide) ?_
  refine go_goto (pc := 83) (tgt := 87) d_Mod_flows_83 rfl ?_
  exact g_Mod_flows_j87   hk
def wp_Mod_flows_j66 (j1 : Int32) (j2 : Int32) (j3 : Int32) (j4 : Int32) (j5 : Int32) (μ : Mu)  (Q : Int32 → Mu → Prop) : Prop := (vp_in j3 96 ∧ wp_Mod_reach j1 (μ.2.1 93 (Int32.toNatClampNeg j3)) j5 μ (fun x9 μ8 => (((x9 = 0) → wp_Mod_flows_j87 j1 j2 j4 j5 (0 : Int32) μ8  Q) ∧ ((¬ x9 = 0) → wp_Mod_flows_j82 j1 j2 j4 j5 μ8  Q))))
set_option maxRecDepth 100000 in
set_option maxHeartbeats 4000000 in
theorem g_Mod_flows_j66 {l : Launch} {j1 : Int32} {j2 : Int32} {j3 : Int32} {j4 : Int32} {j5 : Int32}   {Q : Int32 → Mu → Prop}  {μ : Mu} (hk : wp_Mod_flows_j66 j1 j2 j3 j4 j5 μ  Q) : Go (mE l) mt_Mod_flows false (rmd 2) 0 0 66 [some (.ref 91), some (.int j1), some (.int j2), some (.int j3), some (.int j4), some (.int j5), none] [] (lay μ) (PI Q) := by
  unfold wp_Mod_flows_j66 at hk
  refine go_aload_n (pc := 66) (i := 0) d_Mod_flows_66 rfl rfl ?_
  refine go_iload_n (pc := 67) (i := 1) d_Mod_flows_67 rfl rfl ?_
  refine go_aload_n (pc := 68) (i := 0) d_Mod_flows_68 rfl rfl ?_
  refine go_getR (pc := 69) (r := 93) sh_model rfl fl_Mod_13 d_Mod_flows_69 ?_
  refine go_iload_n (pc := 72) (i := 3) d_Mod_flows_72 rfl rfl ?_
  obtain ⟨hi7, hk⟩ := hk
  refine go_aldI (pc := 73) sh_m_argOf hi7 d_Mod_flows_73 ?_
  refine go_iload (pc := 74) d_Mod_flows_74 rfl ?_
  refine go_callV (pc := 76) (m_Mod_reach  hk) cz_Mod_reach cv_Mod_reach (Or.inl lk_Mod_126) (lay_at sh_model) rfl rfl rfl (Nat.le_of_ble_eq_true rfl) ⟨by decide, by decide⟩ rfl rfl d_Mod_flows_76 (fun r M' hr => ?_)
  obtain ⟨x9, μ8, rfl, rfl, hk⟩ := hr
  try dsimp only [Option.toList, List.cons_append, List.nil_append]
  refine go_if_eq (pc := 79) (tgt := 86) d_Mod_flows_79 rfl (fun h79 => ?_) (fun h79 => ?_)
  · replace hk := hk.1 h79
    refine go_iconst (pc := 86) (v := 0) d_Mod_flows_86 (by decide) ?_
    refine go_weak (L' := [some (.ref 91), some (.int j1), some (.int j2), none, some (.int j4), some (.int j5), none]) (lle_at (by simp [lle])) ?_
    exact g_Mod_flows_j87   hk
  · replace hk := hk.2 h79
    refine go_weak (L' := [some (.ref 91), some (.int j1), some (.int j2), none, some (.int j4), some (.int j5), none]) (lle_at (by simp [lle])) ?_
    exact g_Mod_flows_j82   hk
def wp_Mod_flows (a1 : Int32) (a2 : Int32) (μ : Mu) (Q : Int32 → Mu → Prop) : Prop := (vp_in (((24 : Int32) * a1) + a2) 96 ∧ (vp_in (((24 : Int32) * a1) + a2) 96 ∧ (((¬ (μ.2.1 94 (Int32.toNatClampNeg (((24 : Int32) * a1) + a2))) = 0) → (vp_in (((24 : Int32) * a1) + a2) 96 ∧ (vp_in (((24 : Int32) * a1) + a2) 96 ∧ wp_Mod_leaves (μ.2.1 92 (Int32.toNatClampNeg (((24 : Int32) * a1) + a2))) (μ.2.1 93 (Int32.toNatClampNeg (((24 : Int32) * a1) + a2))) (μ.2.1 94 (Int32.toNatClampNeg (((24 : Int32) * a1) + a2))) μ (fun x6 μ5 => (((¬ x6 = 0) → ((((μ.2.1 92 (Int32.toNatClampNeg (((24 : Int32) * a1) + a2))) = (17 : Int32)) → wp_Mod_flows_j66 a1 a2 (((24 : Int32) * a1) + a2) (μ.2.1 92 (Int32.toNatClampNeg (((24 : Int32) * a1) + a2))) x6 μ5  Q) ∧ ((¬ (μ.2.1 92 (Int32.toNatClampNeg (((24 : Int32) * a1) + a2))) = (17 : Int32)) → (((¬ (μ.2.1 92 (Int32.toNatClampNeg (((24 : Int32) * a1) + a2))) = (18 : Int32)) → wp_Mod_flows_j82 a1 a2 (μ.2.1 92 (Int32.toNatClampNeg (((24 : Int32) * a1) + a2))) x6 μ5  Q) ∧ (((μ.2.1 92 (Int32.toNatClampNeg (((24 : Int32) * a1) + a2))) = (18 : Int32)) → wp_Mod_flows_j66 a1 a2 (((24 : Int32) * a1) + a2) (μ.2.1 92 (Int32.toNatClampNeg (((24 : Int32) * a1) + a2))) x6 μ5  Q))))) ∧ ((x6 = 0) → Q (0 : Int32) μ5)))))) ∧ (((μ.2.1 94 (Int32.toNatClampNeg (((24 : Int32) * a1) + a2))) = 0) → Q (1 : Int32) μ))))
set_option maxRecDepth 100000 in
set_option maxHeartbeats 4000000 in
theorem m_Mod_flows {l : Launch} {a1 : Int32} {a2 : Int32}  {μ : Mu} {Q : Int32 → Mu → Prop} (hk : wp_Mod_flows a1 a2 μ Q) : Mets (mE l) mt_Mod_flows false (rmd 2) [.ref 91, .int a1, .int a2] (lay μ) (PI Q) := by
  unfold wp_Mod_flows at hk
  refine mets_of (L := [some (.ref 91), some (.int a1), some (.int a2), none, none, none, none]) (by decide) (Nat.le_of_ble_eq_true rfl) rfl ?_
  refine go_bipush (pc := 0) (v := 24) d_Mod_flows_0 (by decide) ?_
  refine go_iload_n (pc := 2) (i := 1) d_Mod_flows_2 rfl rfl ?_
  refine go_imul (pc := 3) d_Mod_flows_3 ?_
  refine go_iload_n (pc := 4) (i := 2) d_Mod_flows_4 rfl rfl ?_
  refine go_iadd (pc := 5) d_Mod_flows_5 ?_
  refine go_istore_n (pc := 6) (i := 3) (L' := [some (.ref 91), some (.int a1), some (.int a2), some (.int (((24 : Int32) * a1) + a2)), none, none, none]) d_Mod_flows_6 rfl (by decide) rfl ?_
  refine go_aload_n (pc := 7) (i := 0) d_Mod_flows_7 rfl rfl ?_
  refine go_getR (pc := 8) (r := 92) sh_model rfl fl_Mod_7 d_Mod_flows_8 ?_
  refine go_iload_n (pc := 11) (i := 3) d_Mod_flows_11 rfl rfl ?_
  obtain ⟨hi1, hk⟩ := hk
  refine go_aldI (pc := 12) sh_m_ops hi1 d_Mod_flows_12 ?_
  refine go_istore (pc := 13) (L' := [some (.ref 91), some (.int a1), some (.int a2), some (.int (((24 : Int32) * a1) + a2)), some (.int (μ.2.1 92 (Int32.toNatClampNeg (((24 : Int32) * a1) + a2)))), none, none]) d_Mod_flows_13 (by decide) rfl ?_
  refine go_aload_n (pc := 15) (i := 0) d_Mod_flows_15 rfl rfl ?_
  refine go_getR (pc := 16) (r := 94) sh_model rfl fl_Mod_16 d_Mod_flows_16 ?_
  refine go_iload_n (pc := 19) (i := 3) d_Mod_flows_19 rfl rfl ?_
  obtain ⟨hi2, hk⟩ := hk
  refine go_aldI (pc := 20) sh_m_shapes hi2 d_Mod_flows_20 ?_
  refine go_if_ne (pc := 21) (tgt := 26) d_Mod_flows_21 rfl (fun h21 => ?_) (fun h21 => ?_)
  · replace hk := hk.1 h21
    refine go_iload (pc := 26) d_Mod_flows_26 rfl ?_
    refine go_aload_n (pc := 28) (i := 0) d_Mod_flows_28 rfl rfl ?_
    refine go_getR (pc := 29) (r := 93) sh_model rfl fl_Mod_13 d_Mod_flows_29 ?_
    refine go_iload_n (pc := 32) (i := 3) d_Mod_flows_32 rfl rfl ?_
    obtain ⟨hi3, hk⟩ := hk
    refine go_aldI (pc := 33) sh_m_argOf hi3 d_Mod_flows_33 ?_
    refine go_aload_n (pc := 34) (i := 0) d_Mod_flows_34 rfl rfl ?_
    refine go_getR (pc := 35) (r := 94) sh_model rfl fl_Mod_16 d_Mod_flows_35 ?_
    refine go_iload_n (pc := 38) (i := 3) d_Mod_flows_38 rfl rfl ?_
    obtain ⟨hi4, hk⟩ := hk
    refine go_aldI (pc := 39) sh_m_shapes hi4 d_Mod_flows_39 ?_
    refine go_callS (pc := 40) (m_Mod_leaves  hk) cz_Mod_leaves sm_Mod_leaves (Or.inl lk_Mod_123) rfl rfl (Nat.le_of_ble_eq_true rfl) ⟨by decide, by decide⟩ rfl rfl d_Mod_flows_40 (fun r M' hr => ?_)
    obtain ⟨x6, μ5, rfl, rfl, hk⟩ := hr
    try dsimp only [Option.toList, List.cons_append, List.nil_append]
    refine go_istore (pc := 43) (L' := [some (.ref 91), some (.int a1), some (.int a2), some (.int (((24 : Int32) * a1) + a2)), some (.int (μ.2.1 92 (Int32.toNatClampNeg (((24 : Int32) * a1) + a2)))), some (.int x6), none]) d_Mod_flows_43 (by decide) rfl ?_
    refine go_iload (pc := 45) d_Mod_flows_45 rfl ?_
    refine go_if_ne (pc := 47) (tgt := 52) d_Mod_flows_47 rfl (fun h47 => ?_) (fun h47 => ?_)
    · replace hk := hk.1 h47
      refine go_iload (pc := 52) d_Mod_flows_52 rfl ?_
      refine go_bipush (pc := 54) (v := 17) d_Mod_flows_54 (by decide) ?_
      refine go_icmp_eq (pc := 56) (tgt := 66) d_Mod_flows_56 rfl (fun h56 => ?_) (fun h56 => ?_)
      · replace hk := hk.1 h56
        exact g_Mod_flows_j66   hk
      · replace hk := hk.2 h56
        refine go_iload (pc := 59) d_Mod_flows_59 rfl ?_
        refine go_bipush (pc := 61) (v := 18) d_Mod_flows_61 (by decide) ?_
        refine go_icmp_ne (pc := 63) (tgt := 82) d_Mod_flows_63 rfl (fun h63 => ?_) (fun h63 => ?_)
        · replace hk := hk.1 h63
          refine go_weak (L' := [some (.ref 91), some (.int a1), some (.int a2), none, some (.int (μ.2.1 92 (Int32.toNatClampNeg (((24 : Int32) * a1) + a2)))), some (.int x6), none]) (lle_at (by simp [lle])) ?_
          exact g_Mod_flows_j82   hk
        · replace hk := hk.2 h63
          exact g_Mod_flows_j66   hk
    · replace hk := hk.2 h47
      refine go_iconst (pc := 50) (v := 0) d_Mod_flows_50 (by decide) ?_
      exact go_ret (pc := 51) (r := some (.int (0 : Int32))) ⟨nar_zv (by decide), d_Mod_flows_51⟩ ⟨_, _, rfl, rfl, hk⟩
  · replace hk := hk.2 h21
    refine go_iconst (pc := 24) (v := 1) d_Mod_flows_24 (by decide) ?_
    exact go_ret (pc := 25) (r := some (.int (1 : Int32))) ⟨nar_zv (by decide), d_Mod_flows_25⟩ ⟨_, _, rfl, rfl, hk⟩
