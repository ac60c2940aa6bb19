def wp_Mod_value (a1 : Int32) (a2 : Int32) (μ : Mu) (Q : Int32 → Mu → Prop) : Prop := (vp_in a1 4 ∧ (vp_in (((((6 : Int32) * a1) + (μ.2.1 112 (Int32.toNatClampNeg a1))) - (1 : Int32)) - a2) 24 ∧ Q (μ.2.1 113 (Int32.toNatClampNeg (((((6 : Int32) * a1) + (μ.2.1 112 (Int32.toNatClampNeg a1))) - (1 : Int32)) - a2))) μ))
set_option maxRecDepth 100000 in
set_option maxHeartbeats 4000000 in
theorem m_Mod_value {l : Launch} {a1 : Int32} {a2 : Int32}  {μ : Mu} {Q : Int32 → Mu → Prop} (hk : wp_Mod_value a1 a2 μ Q) : Mets (mE l) mt_Mod_value false (rmd 0) [.ref 91, .int a1, .int a2] (lay μ) (PI Q) := by
  unfold wp_Mod_value at hk
  refine mets_of (L := [some (.ref 91), some (.int a1), some (.int a2)]) (by decide) (Nat.le_of_ble_eq_true rfl) rfl ?_
  refine go_aload_n (pc := 0) (i := 0) d_Mod_value_0 rfl rfl ?_
  refine go_getR (pc := 1) (r := 113) sh_model rfl fl_Mod_74 d_Mod_value_1 ?_
  refine go_bipush (pc := 4) (v := 6) d_Mod_value_4 (by decide) ?_
  refine go_iload_n (pc := 6) (i := 1) d_Mod_value_6 rfl rfl ?_
  refine go_imul (pc := 7) d_Mod_value_7 ?_
  refine go_aload_n (pc := 8) (i := 0) d_Mod_value_8 rfl rfl ?_
  refine go_getR (pc := 9) (r := 112) sh_model rfl fl_Mod_71 d_Mod_value_9 ?_
  refine go_iload_n (pc := 12) (i := 1) d_Mod_value_12 rfl rfl ?_
  obtain ⟨hi1, hk⟩ := hk
  refine go_aldI (pc := 13) sh_m_height hi1 d_Mod_value_13 ?_
  refine go_iadd (pc := 14) d_Mod_value_14 ?_
  refine go_iconst (pc := 15) (v := 1) d_Mod_value_15 (by decide) ?_
  refine go_isub (pc := 16) d_Mod_value_16 ?_
  refine go_iload_n (pc := 17) (i := 2) d_Mod_value_17 rfl rfl ?_
  refine go_isub (pc := 18) d_Mod_value_18 ?_
  obtain ⟨hi2, hk⟩ := hk
  refine go_aldI (pc := 19) sh_m_stack hi2 d_Mod_value_19 ?_
  exact go_ret (pc := 20) (r := some (.int (μ.2.1 113 (Int32.toNatClampNeg (((((6 : Int32) * a1) + (μ.2.1 112 (Int32.toNatClampNeg a1))) - (1 : Int32)) - a2))))) d_Mod_value_20 ⟨_, _, rfl, rfl, hk⟩
def wp_Mod_cellOp_j54 (j1 : Int32) (j2 : Int32) (j3 : Int32) (s0 : Int32) (s1 : Int32) (μ : Mu)  (Q : Int32 → Mu → Prop) : Prop := wp_Mod_value s1 s0 μ (fun x2 μ1 => (((0 ≤ x2) → (((¬ j2 = (12 : Int32)) → (((x2 < (96 : Int32)) → wp_Mod_value j1 (0 : Int32) μ1 (fun x4 μ3 => (((¬ j3 = 0) → (((¬ j3 = (1 : Int32)) → (vp_in x2 104 ∧ ∀ μ6 : Mu, μ6 = setA μ3 100 (Int32.toNatClampNeg x2) x4 → (vp_in j1 4 ∧ (vp_in j1 4 ∧ ∀ μ9 : Mu, μ9 = setA μ6 112 (Int32.toNatClampNeg j1) ((μ6.2.1 112 (Int32.toNatClampNeg j1)) - (2 : Int32)) → Q (0 : Int32) μ9)))) ∧ ((j3 = (1 : Int32)) → (vp_in x2 104 ∧ ∀ μ11 : Mu, μ11 = setA μ3 99 (Int32.toNatClampNeg x2) x4 → (vp_in j1 4 ∧ (vp_in j1 4 ∧ ∀ μ14 : Mu, μ14 = setA μ11 112 (Int32.toNatClampNeg j1) ((μ11.2.1 112 (Int32.toNatClampNeg j1)) - (2 : Int32)) → Q (0 : Int32) μ14)))))) ∧ ((j3 = 0) → (vp_in x2 104 ∧ ∀ μ16 : Mu, μ16 = setA μ3 98 (Int32.toNatClampNeg x2) x4 → (vp_in j1 4 ∧ (vp_in j1 4 ∧ ∀ μ19 : Mu, μ19 = setA μ16 112 (Int32.toNatClampNeg j1) ((μ16.2.1 112 (Int32.toNatClampNeg j1)) - (2 : Int32)) → Q (0 : Int32) μ19))))))) ∧ ((¬ x2 < (96 : Int32)) → Q (8 : Int32) μ1))) ∧ ((j2 = (12 : Int32)) → (((¬ j3 = 0) → (((¬ j3 = (1 : Int32)) → (vp_in x2 104 ∧ wp_Mod_become j1 (1 : Int32) (μ1.2.1 100 (Int32.toNatClampNeg x2)) μ1 (fun μ21 => Q (0 : Int32) μ21))) ∧ ((j3 = (1 : Int32)) → (vp_in x2 104 ∧ wp_Mod_become j1 (1 : Int32) (μ1.2.1 99 (Int32.toNatClampNeg x2)) μ1 (fun μ23 => Q (0 : Int32) μ23))))) ∧ ((j3 = 0) → (vp_in x2 104 ∧ wp_Mod_become j1 (1 : Int32) (μ1.2.1 98 (Int32.toNatClampNeg x2)) μ1 (fun μ25 => Q (0 : Int32) μ25))))))) ∧ ((¬ 0 ≤ x2) → Q (7 : Int32) μ1)))
set_option maxRecDepth 100000 in
set_option maxHeartbeats 4000000 in
theorem g_Mod_cellOp_j54 {l : Launch} {j1 : Int32} {j2 : Int32} {j3 : Int32} {s0 : Int32} {s1 : Int32}   {Q : Int32 → Mu → Prop}  {μ : Mu} (hk : wp_Mod_cellOp_j54 j1 j2 j3 s0 s1 μ  Q) : Go (mE l) mt_Mod_cellOp false (rmd 4) 0 0 54 [some (.ref 91), some (.int j1), some (.int j2), some (.int j3), none, none] [.int s0, .int s1, .ref 91] (lay μ) (PI Q) := by
  unfold wp_Mod_cellOp_j54 at hk
  refine go_callV (pc := 54) (m_Mod_value  hk) cz_Mod_value cv_Mod_value (Or.inl lk_Mod_167) (lay_at sh_model) rfl rfl rfl (Nat.le_of_ble_eq_true rfl) ⟨by decide, by decide⟩ rfl rfl d_Mod_cellOp_54 (fun r M' hr => ?_)
  obtain ⟨x2, μ1, rfl, rfl, hk⟩ := hr
  try dsimp only [Option.toList, List.cons_append, List.nil_append]
  refine go_istore (pc := 57) (L' := [some (.ref 91), some (.int j1), some (.int j2), some (.int j3), some (.int x2), none]) d_Mod_cellOp_57 (by decide) rfl ?_
  refine go_iload (pc := 59) d_Mod_cellOp_59 rfl ?_
  refine go_if_ge (pc := 61) (tgt := 67) d_Mod_cellOp_61 rfl (fun h61 => ?_) (fun h61 => ?_)
  · replace hk := hk.1 h61
    refine go_iload_n (pc := 67) (i := 2) d_Mod_cellOp_67 rfl rfl ?_
    refine go_bipush (pc := 68) (v := 12) d_Mod_cellOp_68 (by decide) ?_
    refine go_icmp_ne (pc := 70) (tgt := 117) d_Mod_cellOp_70 rfl (fun h70 => ?_) (fun h70 => ?_)
    · replace hk := hk.1 h70
      refine go_iload (pc := 117) d_Mod_cellOp_117 rfl ?_
      refine go_bipush (pc := 119) (v := 96) d_Mod_cellOp_119 (by decide) ?_
      refine go_icmp_lt (pc := 121) (tgt := 127) d_Mod_cellOp_121 rfl (fun h121 => ?_) (fun h121 => ?_)
      · replace hk := hk.1 h121
        refine go_aload_n (pc := 127) (i := 0) d_Mod_cellOp_127 rfl rfl ?_
        refine go_iload_n (pc := 128) (i := 1) d_Mod_cellOp_128 rfl rfl ?_
        refine go_iconst (pc := 129) (v := 0) d_Mod_cellOp_129 (by decide) ?_
        refine go_callV (pc := 130) (m_Mod_value  hk) cz_Mod_value cv_Mod_value (Or.inl lk_Mod_167) (lay_at sh_model) rfl rfl rfl (Nat.le_of_ble_eq_true rfl) ⟨by decide, by decide⟩ rfl rfl d_Mod_cellOp_130 (fun r M' hr => ?_)
        obtain ⟨x4, μ3, rfl, rfl, hk⟩ := hr
        try dsimp only [Option.toList, List.cons_append, List.nil_append]
        refine go_istore (pc := 133) (L' := [some (.ref 91), some (.int j1), some (.int j2), some (.int j3), some (.int x2), some (.int x4)]) d_Mod_cellOp_133 (by decide) rfl ?_
        refine go_iload_n (pc := 135) (i := 3) d_Mod_cellOp_135 rfl rfl ?_
        refine go_if_ne (pc := 136) (tgt := 151) d_Mod_cellOp_136 rfl (fun h136 => ?_) (fun h136 => ?_)
        · replace hk := hk.1 h136
          refine go_iload_n (pc := 151) (i := 3) d_Mod_cellOp_151 rfl rfl ?_
          refine go_iconst (pc := 152) (v := 1) d_Mod_cellOp_152 (by decide) ?_
          refine go_icmp_ne (pc := 153) (tgt := 168) d_Mod_cellOp_153 rfl (fun h153 => ?_) (fun h153 => ?_)
          · replace hk := hk.1 h153
            refine go_aload_n (pc := 168) (i := 0) d_Mod_cellOp_168 rfl rfl ?_
            refine go_getR (pc := 169) (r := 100) sh_model rfl fl_Mod_35 d_Mod_cellOp_169 ?_
            refine go_iload (pc := 172) d_Mod_cellOp_172 rfl ?_
            refine go_iload (pc := 174) d_Mod_cellOp_174 rfl ?_
            obtain ⟨hi5, hk⟩ := hk
            refine go_astIn (pc := 176) sh_m_right hi5 d_Mod_cellOp_176 (fun μ6 e6 => ?_)
            replace hk := hk μ6 e6
            refine go_aload_n (pc := 177) (i := 0) d_Mod_cellOp_177 rfl rfl ?_
            refine go_getR (pc := 178) (r := 112) sh_model rfl fl_Mod_71 d_Mod_cellOp_178 ?_
            refine go_iload_n (pc := 181) (i := 1) d_Mod_cellOp_181 rfl rfl ?_
            refine go_dup2 (pc := 182) d_Mod_cellOp_182 rfl rfl ?_
            obtain ⟨hi7, hk⟩ := hk
            refine go_aldI (pc := 183) sh_m_height hi7 d_Mod_cellOp_183 ?_
            refine go_iconst (pc := 184) (v := 2) d_Mod_cellOp_184 (by decide) ?_
            refine go_isub (pc := 185) d_Mod_cellOp_185 ?_
            obtain ⟨hi8, hk⟩ := hk
            refine go_astIn (pc := 186) sh_m_height hi8 d_Mod_cellOp_186 (fun μ9 e9 => ?_)
            replace hk := hk μ9 e9
            refine go_iconst (pc := 187) (v := 0) d_Mod_cellOp_187 (by decide) ?_
            exact go_ret (pc := 188) (r := some (.int (0 : Int32))) d_Mod_cellOp_188 ⟨_, _, rfl, rfl, hk⟩
          · replace hk := hk.2 h153
            refine go_aload_n (pc := 156) (i := 0) d_Mod_cellOp_156 rfl rfl ?_
            refine go_getR (pc := 157) (r := 99) sh_model rfl fl_Mod_32 d_Mod_cellOp_157 ?_
            refine go_iload (pc := 160) d_Mod_cellOp_160 rfl ?_
            refine go_iload (pc := 162) d_Mod_cellOp_162 rfl ?_
            obtain ⟨hi10, hk⟩ := hk
            refine go_astIn (pc := 164) sh_m_left hi10 d_Mod_cellOp_164 (fun μ11 e11 => ?_)
            replace hk := hk μ11 e11
            refine go_goto (pc := 165) (tgt := 177) d_Mod_cellOp_165 rfl ?_
            refine go_aload_n (pc := 177) (i := 0) d_Mod_cellOp_177 rfl rfl ?_
            refine go_getR (pc := 178) (r := 112) sh_model rfl fl_Mod_71 d_Mod_cellOp_178 ?_
            refine go_iload_n (pc := 181) (i := 1) d_Mod_cellOp_181 rfl rfl ?_
            refine go_dup2 (pc := 182) d_Mod_cellOp_182 rfl rfl ?_
            obtain ⟨hi12, hk⟩ := hk
            refine go_aldI (pc := 183) sh_m_height hi12 d_Mod_cellOp_183 ?_
            refine go_iconst (pc := 184) (v := 2) d_Mod_cellOp_184 (by decide) ?_
            refine go_isub (pc := 185) d_Mod_cellOp_185 ?_
            obtain ⟨hi13, hk⟩ := hk
            refine go_astIn (pc := 186) sh_m_height hi13 d_Mod_cellOp_186 (fun μ14 e14 => ?_)
            replace hk := hk μ14 e14
            refine go_iconst (pc := 187) (v := 0) d_Mod_cellOp_187 (by decide) ?_
            exact go_ret (pc := 188) (r := some (.int (0 : Int32))) d_Mod_cellOp_188 ⟨_, _, rfl, rfl, hk⟩
        · replace hk := hk.2 h136
          refine go_aload_n (pc := 139) (i := 0) d_Mod_cellOp_139 rfl rfl ?_
          refine go_getR (pc := 140) (r := 98) sh_model rfl fl_Mod_29 d_Mod_cellOp_140 ?_
          refine go_iload (pc := 143) d_Mod_cellOp_143 rfl ?_
          refine go_iload (pc := 145) d_Mod_cellOp_145 rfl ?_
          obtain ⟨hi15, hk⟩ := hk
          refine go_astIn (pc := 147) sh_m_num hi15 d_Mod_cellOp_147 (fun μ16 e16 => ?_)
          replace hk := hk μ16 e16
          refine go_goto (pc := 148) (tgt := 177) d_Mod_cellOp_148 rfl ?_
          refine go_aload_n (pc := 177) (i := 0) d_Mod_cellOp_177 rfl rfl ?_
          refine go_getR (pc := 178) (r := 112) sh_model rfl fl_Mod_71 d_Mod_cellOp_178 ?_
          refine go_iload_n (pc := 181) (i := 1) d_Mod_cellOp_181 rfl rfl ?_
          refine go_dup2 (pc := 182) d_Mod_cellOp_182 rfl rfl ?_
          obtain ⟨hi17, hk⟩ := hk
          refine go_aldI (pc := 183) sh_m_height hi17 d_Mod_cellOp_183 ?_
          refine go_iconst (pc := 184) (v := 2) d_Mod_cellOp_184 (by decide) ?_
          refine go_isub (pc := 185) d_Mod_cellOp_185 ?_
          obtain ⟨hi18, hk⟩ := hk
          refine go_astIn (pc := 186) sh_m_height hi18 d_Mod_cellOp_186 (fun μ19 e19 => ?_)
          replace hk := hk μ19 e19
          refine go_iconst (pc := 187) (v := 0) d_Mod_cellOp_187 (by decide) ?_
          exact go_ret (pc := 188) (r := some (.int (0 : Int32))) d_Mod_cellOp_188 ⟨_, _, rfl, rfl, hk⟩
      · replace hk := hk.2 h121
        refine go_bipush (pc := 124) (v := 8) d_Mod_cellOp_124 (by decide) ?_
        exact go_ret (pc := 126) (r := some (.int (8 : Int32))) d_Mod_cellOp_126 ⟨_, _, rfl, rfl, hk⟩
    · replace hk := hk.2 h70
      refine go_aload_n (pc := 73) (i := 0) d_Mod_cellOp_73 rfl rfl ?_
      refine go_iload_n (pc := 74) (i := 1) d_Mod_cellOp_74 rfl rfl ?_
      refine go_iconst (pc := 75) (v := 1) d_Mod_cellOp_75 (by decide) ?_
      refine go_iload_n (pc := 76) (i := 3) d_Mod_cellOp_76 rfl rfl ?_
      refine go_if_ne (pc := 77) (tgt := 90) d_Mod_cellOp_77 rfl (fun h77 => ?_) (fun h77 => ?_)
      · replace hk := hk.1 h77
        refine go_iload_n (pc := 90) (i := 3) d_Mod_cellOp_90 rfl rfl ?_
        refine go_iconst (pc := 91) (v := 1) d_Mod_cellOp_91 (by decide) ?_
        refine go_icmp_ne (pc := 92) (tgt := 105) d_Mod_cellOp_92 rfl (fun h92 => ?_) (fun h92 => ?_)
        · replace hk := hk.1 h92
          refine go_aload_n (pc := 105) (i := 0) d_Mod_cellOp_105 rfl rfl ?_
          refine go_getR (pc := 106) (r := 100) sh_model rfl fl_Mod_35 d_Mod_cellOp_106 ?_
          refine go_iload (pc := 109) d_Mod_cellOp_109 rfl ?_
          obtain ⟨hi20, hk⟩ := hk
          refine go_aldI (pc := 111) sh_m_right hi20 d_Mod_cellOp_111 ?_
          refine go_callV (pc := 112) (m_Mod_become  hk) cz_Mod_become cv_Mod_become (Or.inl lk_Mod_170) (lay_at sh_model) rfl rfl rfl (Nat.le_of_ble_eq_true rfl) ⟨by decide, by decide⟩ rfl rfl d_Mod_cellOp_112 (fun r M' hr => ?_)
          obtain ⟨μ21, rfl, rfl, hk⟩ := hr
          try dsimp only [Option.toList, List.cons_append, List.nil_append]
          refine go_iconst (pc := 115) (v := 0) d_Mod_cellOp_115 (by decide) ?_
          exact go_ret (pc := 116) (r := some (.int (0 : Int32))) d_Mod_cellOp_116 ⟨_, _, rfl, rfl, hk⟩
        · replace hk := hk.2 h92
          refine go_aload_n (pc := 95) (i := 0) d_Mod_cellOp_95 rfl rfl ?_
          refine go_getR (pc := 96) (r := 99) sh_model rfl fl_Mod_32 d_Mod_cellOp_96 ?_
          refine go_iload (pc := 99) d_Mod_cellOp_99 rfl ?_
          obtain ⟨hi22, hk⟩ := hk
          refine go_aldI (pc := 101) sh_m_left hi22 d_Mod_cellOp_101 ?_
          refine go_goto (pc := 102) (tgt := 112) d_Mod_cellOp_102 rfl ?_
          refine go_callV (pc := 112) (m_Mod_become  hk) cz_Mod_become cv_Mod_become (Or.inl lk_Mod_170) (lay_at sh_model) rfl rfl rfl (Nat.le_of_ble_eq_true rfl) ⟨by decide, by decide⟩ rfl rfl d_Mod_cellOp_112 (fun r M' hr => ?_)
          obtain ⟨μ23, rfl, rfl, hk⟩ := hr
          try dsimp only [Option.toList, List.cons_append, List.nil_append]
          refine go_iconst (pc := 115) (v := 0) d_Mod_cellOp_115 (by decide) ?_
          exact go_ret (pc := 116) (r := some (.int (0 : Int32))) d_Mod_cellOp_116 ⟨_, _, rfl, rfl, hk⟩
      · replace hk := hk.2 h77
        refine go_aload_n (pc := 80) (i := 0) d_Mod_cellOp_80 rfl rfl ?_
        refine go_getR (pc := 81) (r := 98) sh_model rfl fl_Mod_29 d_Mod_cellOp_81 ?_
        refine go_iload (pc := 84) d_Mod_cellOp_84 rfl ?_
        obtain ⟨hi24, hk⟩ := hk
        refine go_aldI (pc := 86) sh_m_num hi24 d_Mod_cellOp_86 ?_
        refine go_goto (pc := 87) (tgt := 112) d_Mod_cellOp_87 rfl ?_
        refine go_callV (pc := 112) (m_Mod_become  hk) cz_Mod_become cv_Mod_become (Or.inl lk_Mod_170) (lay_at sh_model) rfl rfl rfl (Nat.le_of_ble_eq_true rfl) ⟨by decide, by decide⟩ rfl rfl d_Mod_cellOp_112 (fun r M' hr => ?_)
        obtain ⟨μ25, rfl, rfl, hk⟩ := hr
        try dsimp only [Option.toList, List.cons_append, List.nil_append]
        refine go_iconst (pc := 115) (v := 0) d_Mod_cellOp_115 (by decide) ?_
        exact go_ret (pc := 116) (r := some (.int (0 : Int32))) d_Mod_cellOp_116 ⟨_, _, rfl, rfl, hk⟩
  · replace hk := hk.2 h61
    refine go_bipush (pc := 64) (v := 7) d_Mod_cellOp_64 (by decide) ?_
    exact go_ret (pc := 66) (r := some (.int (7 : Int32))) d_Mod_cellOp_66 ⟨_, _, rfl, rfl, hk⟩
def wp_Mod_cellOp (a1 : Int32) (a2 : Int32) (a3 : Int32) (μ : Mu) (Q : Int32 → Mu → Prop) : Prop := (((¬ a2 = (11 : Int32)) → (((¬ a2 = (12 : Int32)) → wp_Mod_cellOp_j54 a1 a2 a3 (1 : Int32) a1 μ  Q) ∧ ((a2 = (12 : Int32)) → wp_Mod_cellOp_j54 a1 a2 a3 (0 : Int32) a1 μ  Q))) ∧ ((a2 = (11 : Int32)) → wp_Mod_room a1 (1 : Int32) μ (fun x27 μ26 => (((¬ x27 = 0) → wp_Mod_value a1 (0 : Int32) μ26 (fun x29 μ28 => wp_Mod_make a1 x29 μ28 (fun x31 μ30 => wp_Mod_become a1 (1 : Int32) x31 μ30 (fun μ32 => Q (0 : Int32) μ32)))) ∧ ((x27 = 0) → Q (9 : Int32) μ26)))))
set_option maxRecDepth 100000 in
set_option maxHeartbeats 4000000 in
theorem m_Mod_cellOp {l : Launch} {a1 : Int32} {a2 : Int32} {a3 : Int32}  {μ : Mu} {Q : Int32 → Mu → Prop} (hk : wp_Mod_cellOp a1 a2 a3 μ Q) : Mets (mE l) mt_Mod_cellOp false (rmd 4) [.ref 91, .int a1, .int a2, .int a3] (lay μ) (PI Q) := by
  unfold wp_Mod_cellOp at hk
  refine mets_of (L := [some (.ref 91), some (.int a1), some (.int a2), some (.int a3), none, none]) (by decide) (Nat.le_of_ble_eq_true rfl) rfl ?_
  refine go_iload_n (pc := 0) (i := 2) d_Mod_cellOp_0 rfl rfl ?_
  refine go_bipush (pc := 1) (v := 11) d_Mod_cellOp_1 (by decide) ?_
  refine go_icmp_ne (pc := 3) (tgt := 41) d_Mod_cellOp_3 rfl (fun h3 => ?_) (fun h3 => ?_)
  · replace hk := hk.1 h3
    refine go_aload_n (pc := 41) (i := 0) d_Mod_cellOp_41 rfl rfl ?_
    refine go_iload_n (pc := 42) (i := 1) d_Mod_cellOp_42 rfl rfl ?_
    refine go_iload_n (pc := 43) (i := 2) d_Mod_cellOp_43 rfl rfl ?_
    refine go_bipush (pc := 44) (v := 12) d_Mod_cellOp_44 (by decide) ?_
    refine go_icmp_ne (pc := 46) (tgt := 53) d_Mod_cellOp_46 rfl (fun h46 => ?_) (fun h46 => ?_)
    · replace hk := hk.1 h46
      refine go_iconst (pc := 53) (v := 1) d_Mod_cellOp_53 (by decide) ?_
      exact g_Mod_cellOp_j54   hk
    · replace hk := hk.2 h46
      refine go_iconst (pc := 49) (v := 0) d_Mod_cellOp_49 (by decide) ?_
      refine go_goto (pc := 50) (tgt := 54) d_Mod_cellOp_50 rfl ?_
      exact g_Mod_cellOp_j54   hk
  · replace hk := hk.2 h3
    refine go_aload_n (pc := 6) (i := 0) d_Mod_cellOp_6 rfl rfl ?_
    refine go_iload_n (pc := 7) (i := 1) d_Mod_cellOp_7 rfl rfl ?_
    refine go_iconst (pc := 8) (v := 1) d_Mod_cellOp_8 (by decide) ?_
    refine go_callV (pc := 9) (m_Mod_room  hk) cz_Mod_room cv_Mod_room (Or.inl lk_Mod_164) (lay_at sh_model) rfl rfl rfl (Nat.le_of_ble_eq_true rfl) ⟨by decide, by decide⟩ rfl rfl d_Mod_cellOp_9 (fun r M' hr => ?_)
    obtain ⟨x27, μ26, rfl, rfl, hk⟩ := hr
    try dsimp only [Option.toList, List.cons_append, List.nil_append]
    refine go_if_ne (pc := 12) (tgt := 18) d_Mod_cellOp_12 rfl (fun h12 => ?_) (fun h12 => ?_)
    · replace hk := hk.1 h12
      refine go_aload_n (pc := 18) (i := 0) d_Mod_cellOp_18 rfl rfl ?_
      refine go_iload_n (pc := 19) (i := 1) d_Mod_cellOp_19 rfl rfl ?_
      refine go_aload_n (pc := 20) (i := 0) d_Mod_cellOp_20 rfl rfl ?_
      refine go_iload_n (pc := 21) (i := 1) d_Mod_cellOp_21 rfl rfl ?_
      refine go_iconst (pc := 22) (v := 0) d_Mod_cellOp_22 (by decide) ?_
      refine go_callV (pc := 23) (m_Mod_value  hk) cz_Mod_value cv_Mod_value (Or.inl lk_Mod_167) (lay_at sh_model) rfl rfl rfl (Nat.le_of_ble_eq_true rfl) ⟨by decide, by decide⟩ rfl rfl d_Mod_cellOp_23 (fun r M' hr => ?_)
      obtain ⟨x29, μ28, rfl, rfl, hk⟩ := hr
      try dsimp only [Option.toList, List.cons_append, List.nil_append]
      refine go_callV (pc := 26) (m_Mod_make  hk) cz_Mod_make cv_Mod_make (Or.inl lk_Mod_154) (lay_at sh_model) rfl rfl rfl (Nat.le_of_ble_eq_true rfl) ⟨by decide, by decide⟩ rfl rfl d_Mod_cellOp_26 (fun r M' hr => ?_)
      obtain ⟨x31, μ30, rfl, rfl, hk⟩ := hr
      try dsimp only [Option.toList, List.cons_append, List.nil_append]
      refine go_istore (pc := 29) (L' := [some (.ref 91), some (.int a1), some (.int a2), some (.int a3), some (.int x31), none]) d_Mod_cellOp_29 (by decide) rfl ?_
      refine go_aload_n (pc := 31) (i := 0) d_Mod_cellOp_31 rfl rfl ?_
      refine go_iload_n (pc := 32) (i := 1) d_Mod_cellOp_32 rfl rfl ?_
      refine go_iconst (pc := 33) (v := 1) d_Mod_cellOp_33 (by decide) ?_
      refine go_iload (pc := 34) d_Mod_cellOp_34 rfl ?_
      refine go_callV (pc := 36) (m_Mod_become  hk) cz_Mod_become cv_Mod_become (Or.inl lk_Mod_170) (lay_at sh_model) rfl rfl rfl (Nat.le_of_ble_eq_true rfl) ⟨by decide, by decide⟩ rfl rfl d_Mod_cellOp_36 (fun r M' hr => ?_)
      obtain ⟨μ32, rfl, rfl, hk⟩ := hr
      try dsimp only [Option.toList, List.cons_append, List.nil_append]
      refine go_iconst (pc := 39) (v := 0) d_Mod_cellOp_39 (by decide) ?_
      exact go_ret (pc := 40) (r := some (.int (0 : Int32))) d_Mod_cellOp_40 ⟨_, _, rfl, rfl, hk⟩
    · replace hk := hk.2 h12
      refine go_bipush (pc := 15) (v := 9) d_Mod_cellOp_15 (by decide) ?_
      exact go_ret (pc := 17) (r := some (.int (9 : Int32))) d_Mod_cellOp_17 ⟨_, _, rfl, rfl, hk⟩
def wp_Mod_result (a1 : Int32) (a2 : Int32) (a3 : Int32) (μ : Mu) (Q : Int32 → Mu → Prop) : Prop := (((¬ a1 = (2 : Int32)) → (((¬ a1 = (3 : Int32)) → (((¬ a1 = (4 : Int32)) → (((¬ a1 = (5 : Int32)) → (((¬ a1 = (6 : Int32)) → (((¬ a2 = a3) → Q (0 : Int32) μ) ∧ ((a2 = a3) → Q (1 : Int32) μ))) ∧ ((a1 = (6 : Int32)) → (((a3 ≤ a2) → Q (0 : Int32) μ) ∧ ((¬ a3 ≤ a2) → Q (1 : Int32) μ))))) ∧ ((a1 = (5 : Int32)) → (¬ a3 = 0 ∧ Q (a2 / a3) μ)))) ∧ ((a1 = (4 : Int32)) → Q (a2 * a3) μ))) ∧ ((a1 = (3 : Int32)) → Q (a2 - a3) μ))) ∧ ((a1 = (2 : Int32)) → Q (a2 + a3) μ))
set_option maxRecDepth 100000 in
set_option maxHeartbeats 4000000 in
theorem m_Mod_result {l : Launch} {a1 : Int32} {a2 : Int32} {a3 : Int32}  {μ : Mu} {Q : Int32 → Mu → Prop} (hk : wp_Mod_result a1 a2 a3 μ Q) : Mets (mE l) mt_Mod_result false (rmd 0) [.int a1, .int a2, .int a3] (lay μ) (PI Q) := by
  unfold wp_Mod_result at hk
  refine mets_of (L := [some (.int a1), some (.int a2), some (.int a3)]) (by decide) (Nat.le_of_ble_eq_true rfl) rfl ?_
  refine go_iload_n (pc := 0) (i := 0) d_Mod_result_0 rfl rfl ?_
  refine go_iconst (pc := 1) (v := 2) d_Mod_result_1 (by decide) ?_
  refine go_icmp_ne (pc := 2) (tgt := 11) d_Mod_result_2 rfl (fun h2 => ?_) (fun h2 => ?_)
  · replace hk := hk.1 h2
    refine go_iload_n (pc := 11) (i := 0) d_Mod_result_11 rfl rfl ?_
    refine go_iconst (pc := 12) (v := 3) d_Mod_result_12 (by decide) ?_
    refine go_icmp_ne (pc := 13) (tgt := 22) d_Mod_result_13 rfl (fun h13 => ?_) (fun h13 => ?_)
    · replace hk := hk.1 h13
      refine go_iload_n (pc := 22) (i := 0) d_Mod_result_22 rfl rfl ?_
      refine go_iconst (pc := 23) (v := 4) d_Mod_result_23 (by decide) ?_
      refine go_icmp_ne (pc := 24) (tgt := 33) d_Mod_result_24 rfl (fun h24 => ?_) (fun h24 => ?_)
      · replace hk := hk.1 h24
        refine go_iload_n (pc := 33) (i := 0) d_Mod_result_33 rfl rfl ?_
        refine go_iconst (pc := 34) (v := 5) d_Mod_result_34 (by decide) ?_
        refine go_icmp_ne (pc := 35) (tgt := 44) d_Mod_result_35 rfl (fun h35 => ?_) (fun h35 => ?_)
        · replace hk := hk.1 h35
          refine go_iload_n (pc := 44) (i := 0) d_Mod_result_44 rfl rfl ?_
          refine go_bipush (pc := 45) (v := 6) d_Mod_result_45 (by decide) ?_
          refine go_icmp_ne (pc := 47) (tgt := 63) d_Mod_result_47 rfl (fun h47 => ?_) (fun h47 => ?_)
          · replace hk := hk.1 h47
            refine go_iload_n (pc := 63) (i := 1) d_Mod_result_63 rfl rfl ?_
            refine go_iload_n (pc := 64) (i := 2) d_Mod_result_64 rfl rfl ?_
            refine go_icmp_ne (pc := 65) (tgt := 72) d_Mod_result_65 rfl (fun h65 => ?_) (fun h65 => ?_)
            · replace hk := hk.1 h65
              refine go_iconst (pc := 72) (v := 0) d_Mod_result_72 (by decide) ?_
              exact go_ret (pc := 73) (r := some (.int (0 : Int32))) d_Mod_result_73 ⟨_, _, rfl, rfl, hk⟩
            · replace hk := hk.2 h65
              refine go_iconst (pc := 68) (v := 1) d_Mod_result_68 (by decide) ?_
              refine go_goto (pc := 69) (tgt := 73) d_Mod_result_69 rfl ?_
              exact go_ret (pc := 73) (r := some (.int (1 : Int32))) d_Mod_result_73 ⟨_, _, rfl, rfl, hk⟩
          · replace hk := hk.2 h47
            refine go_iload_n (pc := 50) (i := 1) d_Mod_result_50 rfl rfl ?_
            refine go_iload_n (pc := 51) (i := 2) d_Mod_result_51 rfl rfl ?_
            refine go_icmp_ge (pc := 52) (tgt := 59) d_Mod_result_52 rfl (fun h52 => ?_) (fun h52 => ?_)
            · replace hk := hk.1 h52
              refine go_iconst (pc := 59) (v := 0) d_Mod_result_59 (by decide) ?_
              refine go_goto (pc := 60) (tgt := 73) d_Mod_result_60 rfl ?_
              exact go_ret (pc := 73) (r := some (.int (0 : Int32))) d_Mod_result_73 ⟨_, _, rfl, rfl, hk⟩
            · replace hk := hk.2 h52
              refine go_iconst (pc := 55) (v := 1) d_Mod_result_55 (by decide) ?_
              refine go_goto (pc := 56) (tgt := 73) d_Mod_result_56 rfl ?_
              exact go_ret (pc := 73) (r := some (.int (1 : Int32))) d_Mod_result_73 ⟨_, _, rfl, rfl, hk⟩
        · replace hk := hk.2 h35
          refine go_iload_n (pc := 38) (i := 1) d_Mod_result_38 rfl rfl ?_
          refine go_iload_n (pc := 39) (i := 2) d_Mod_result_39 rfl rfl ?_
          obtain ⟨hz1, hk⟩ := hk
          refine go_idiv (pc := 40) d_Mod_result_40 hz1 ?_
          refine go_goto (pc := 41) (tgt := 73) d_Mod_result_41 rfl ?_
          exact go_ret (pc := 73) (r := some (.int (a2 / a3))) d_Mod_result_73 ⟨_, _, rfl, rfl, hk⟩
      · replace hk := hk.2 h24
        refine go_iload_n (pc := 27) (i := 1) d_Mod_result_27 rfl rfl ?_
        refine go_iload_n (pc := 28) (i := 2) d_Mod_result_28 rfl rfl ?_
        refine go_imul (pc := 29) d_Mod_result_29 ?_
        refine go_goto (pc := 30) (tgt := 73) d_Mod_result_30 rfl ?_
        exact go_ret (pc := 73) (r := some (.int (a2 * a3))) d_Mod_result_73 ⟨_, _, rfl, rfl, hk⟩
    · replace hk := hk.2 h13
      refine go_iload_n (pc := 16) (i := 1) d_Mod_result_16 rfl rfl ?_
      refine go_iload_n (pc := 17) (i := 2) d_Mod_result_17 rfl rfl ?_
      refine go_isub (pc := 18) d_Mod_result_18 ?_
      refine go_goto (pc := 19) (tgt := 73) d_Mod_result_19 rfl ?_
      exact go_ret (pc := 73) (r := some (.int (a2 - a3))) d_Mod_result_73 ⟨_, _, rfl, rfl, hk⟩
  · replace hk := hk.2 h2
    refine go_iload_n (pc := 5) (i := 1) d_Mod_result_5 rfl rfl ?_
    refine go_iload_n (pc := 6) (i := 2) d_Mod_result_6 rfl rfl ?_
    refine go_iadd (pc := 7) d_Mod_result_7 ?_
    refine go_goto (pc := 8) (tgt := 73) d_Mod_result_8 rfl ?_
    exact go_ret (pc := 73) (r := some (.int (a2 + a3))) d_Mod_result_73 ⟨_, _, rfl, rfl, hk⟩
def wp_Mod_plain_j23 (j1 : Int32) (j2 : Int32) (μ : Mu)  (Q : Int32 → Mu → Prop) : Prop := wp_Mod_value j1 (1 : Int32) μ (fun x21 μ20 => wp_Mod_value j1 (0 : Int32) μ20 (fun x23 μ22 => (((¬ j2 = (5 : Int32)) → wp_Mod_result j2 x21 x23 μ22 (fun x25 μ24 => wp_Mod_become j1 (2 : Int32) x25 μ24 (fun μ26 => Q (0 : Int32) μ26))) ∧ ((j2 = (5 : Int32)) → (((¬ x23 = 0) → wp_Mod_result j2 x21 x23 μ22 (fun x28 μ27 => wp_Mod_become j1 (2 : Int32) x28 μ27 (fun μ29 => Q (0 : Int32) μ29))) ∧ ((x23 = 0) → Q (6 : Int32) μ22))))))
set_option maxRecDepth 100000 in
set_option maxHeartbeats 4000000 in
theorem g_Mod_plain_j23 {l : Launch} {j1 : Int32} {j2 : Int32}   {Q : Int32 → Mu → Prop}  {μ : Mu} (hk : wp_Mod_plain_j23 j1 j2 μ  Q) : Go (mE l) mt_Mod_plain false (rmd 1) 0 0 23 [some (.ref 91), some (.int j1), some (.int j2), none, none, none] [] (lay μ) (PI Q) := by
  unfold wp_Mod_plain_j23 at hk
  refine go_aload_n (pc := 23) (i := 0) d_Mod_plain_23 rfl rfl ?_
  refine go_iload_n (pc := 24) (i := 1) d_Mod_plain_24 rfl rfl ?_
  refine go_iconst (pc := 25) (v := 1) d_Mod_plain_25 (by decide) ?_
  refine go_callV (pc := 26) (m_Mod_value  hk) cz_Mod_value cv_Mod_value (Or.inl lk_Mod_167) (lay_at sh_model) rfl rfl rfl (Nat.le_of_ble_eq_true rfl) ⟨by decide, by decide⟩ rfl rfl d_Mod_plain_26 (fun r M' hr => ?_)
  obtain ⟨x21, μ20, rfl, rfl, hk⟩ := hr
  try dsimp only [Option.toList, List.cons_append, List.nil_append]
  refine go_istore (pc := 29) (L' := [some (.ref 91), some (.int j1), some (.int j2), none, some (.int x21), none]) d_Mod_plain_29 (by decide) rfl ?_
  refine go_aload_n (pc := 31) (i := 0) d_Mod_plain_31 rfl rfl ?_
  refine go_iload_n (pc := 32) (i := 1) d_Mod_plain_32 rfl rfl ?_
  refine go_iconst (pc := 33) (v := 0) d_Mod_plain_33 (by decide) ?_
  refine go_callV (pc := 34) (m_Mod_value  hk) cz_Mod_value cv_Mod_value (Or.inl lk_Mod_167) (lay_at sh_model) rfl rfl rfl (Nat.le_of_ble_eq_true rfl) ⟨by decide, by decide⟩ rfl rfl d_Mod_plain_34 (fun r M' hr => ?_)
  obtain ⟨x23, μ22, rfl, rfl, hk⟩ := hr
  try dsimp only [Option.toList, List.cons_append, List.nil_append]
  refine go_istore (pc := 37) (L' := [some (.ref 91), some (.int j1), some (.int j2), none, some (.int x21), some (.int x23)]) d_Mod_plain_37 (by decide) rfl ?_
  refine go_iload_n (pc := 39) (i := 2) d_Mod_plain_39 rfl rfl ?_
  refine go_iconst (pc := 40) (v := 5) d_Mod_plain_40 (by decide) ?_
  refine go_icmp_ne (pc := 41) (tgt := 52) d_Mod_plain_41 rfl (fun h41 => ?_) (fun h41 => ?_)
  · replace hk := hk.1 h41
    refine go_aload_n (pc := 52) (i := 0) d_Mod_plain_52 rfl rfl ?_
    refine go_iload_n (pc := 53) (i := 1) d_Mod_plain_53 rfl rfl ?_
    refine go_iconst (pc := 54) (v := 2) d_Mod_plain_54 (by decide) ?_
    refine go_iload_n (pc := 55) (i := 2) d_Mod_plain_55 rfl rfl ?_
    refine go_iload (pc := 56) d_Mod_plain_56 rfl ?_
    refine go_iload (pc := 58) d_Mod_plain_58 rfl ?_
    refine go_callS (pc := 60) (m_Mod_result  hk) cz_Mod_result sm_Mod_result (Or.inl lk_Mod_205) rfl rfl (Nat.le_of_ble_eq_true rfl) ⟨by decide, by decide⟩ rfl rfl d_Mod_plain_60 (fun r M' hr => ?_)
    obtain ⟨x25, μ24, rfl, rfl, hk⟩ := hr
    try dsimp only [Option.toList, List.cons_append, List.nil_append]
    refine go_callV (pc := 63) (m_Mod_become  hk) cz_Mod_become cv_Mod_become (Or.inl lk_Mod_170) (lay_at sh_model) rfl rfl rfl (Nat.le_of_ble_eq_true rfl) ⟨by decide, by decide⟩ rfl rfl d_Mod_plain_63 (fun r M' hr => ?_)
    obtain ⟨μ26, rfl, rfl, hk⟩ := hr
    try dsimp only [Option.toList, List.cons_append, List.nil_append]
    refine go_goto (pc := 66) (tgt := 215) d_Mod_plain_66 rfl ?_
    refine go_iconst (pc := 215) (v := 0) d_Mod_plain_215 (by decide) ?_
    exact go_ret (pc := 216) (r := some (.int (0 : Int32))) d_Mod_plain_216 ⟨_, _, rfl, rfl, hk⟩
  · replace hk := hk.2 h41
    refine go_iload (pc := 44) d_Mod_plain_44 rfl ?_
    refine go_if_ne (pc := 46) (tgt := 52) d_Mod_plain_46 rfl (fun h46 => ?_) (fun h46 => ?_)
    · replace hk := hk.1 h46
      refine go_aload_n (pc := 52) (i := 0) d_Mod_plain_52 rfl rfl ?_
      refine go_iload_n (pc := 53) (i := 1) d_Mod_plain_53 rfl rfl ?_
      refine go_iconst (pc := 54) (v := 2) d_Mod_plain_54 (by decide) ?_
      refine go_iload_n (pc := 55) (i := 2) d_Mod_plain_55 rfl rfl ?_
      refine go_iload (pc := 56) d_Mod_plain_56 rfl ?_
      refine go_iload (pc := 58) d_Mod_plain_58 rfl ?_
      refine go_callS (pc := 60) (m_Mod_result  hk) cz_Mod_result sm_Mod_result (Or.inl lk_Mod_205) rfl rfl (Nat.le_of_ble_eq_true rfl) ⟨by decide, by decide⟩ rfl rfl d_Mod_plain_60 (fun r M' hr => ?_)
      obtain ⟨x28, μ27, rfl, rfl, hk⟩ := hr
      try dsimp only [Option.toList, List.cons_append, List.nil_append]
      refine go_callV (pc := 63) (m_Mod_become  hk) cz_Mod_become cv_Mod_become (Or.inl lk_Mod_170) (lay_at sh_model) rfl rfl rfl (Nat.le_of_ble_eq_true rfl) ⟨by decide, by decide⟩ rfl rfl d_Mod_plain_63 (fun r M' hr => ?_)
      obtain ⟨μ29, rfl, rfl, hk⟩ := hr
      try dsimp only [Option.toList, List.cons_append, List.nil_append]
      refine go_goto (pc := 66) (tgt := 215) d_Mod_plain_66 rfl ?_
      refine go_iconst (pc := 215) (v := 0) d_Mod_plain_215 (by decide) ?_
      exact go_ret (pc := 216) (r := some (.int (0 : Int32))) d_Mod_plain_216 ⟨_, _, rfl, rfl, hk⟩
    · replace hk := hk.2 h46
      refine go_bipush (pc := 49) (v := 6) d_Mod_plain_49 (by decide) ?_
      exact go_ret (pc := 51) (r := some (.int (6 : Int32))) d_Mod_plain_51 ⟨_, _, rfl, rfl, hk⟩
def wp_Mod_plain_j17 (j1 : Int32) (j2 : Int32) (j3 : Int32) (μ : Mu)  (Q : Int32 → Mu → Prop) : Prop := (((¬ j2 = (14 : Int32)) → (((¬ j2 = (1 : Int32)) → (((¬ j2 = (7 : Int32)) → (((¬ j2 = (9 : Int32)) → (((¬ j2 = (15 : Int32)) → (((¬ j2 = (16 : Int32)) → (((j2 = (17 : Int32)) → Q (0 : Int32) μ) ∧ ((¬ j2 = (17 : Int32)) → (((¬ j2 = (8 : Int32)) → (vp_in j1 4 ∧ (vp_in j1 4 ∧ ∀ μ3 : Mu, μ3 = setA μ 112 (Int32.toNatClampNeg j1) ((μ.2.1 112 (Int32.toNatClampNeg j1)) - (1 : Int32)) → Q (0 : Int32) μ3))) ∧ ((j2 = (8 : Int32)) → wp_Mod_value j1 (0 : Int32) μ (fun x5 μ4 => (vp_in (((4 : Int32) * j1) + j3) 16 ∧ ∀ μ7 : Mu, μ7 = setA μ4 114 (Int32.toNatClampNeg (((4 : Int32) * j1) + j3)) x5 → (vp_in j1 4 ∧ (vp_in j1 4 ∧ ∀ μ10 : Mu, μ10 = setA μ7 112 (Int32.toNatClampNeg j1) ((μ7.2.1 112 (Int32.toNatClampNeg j1)) - (1 : Int32)) → Q (0 : Int32) μ10))))))))) ∧ ((j2 = (16 : Int32)) → ((((μ.1 91 10) ≤ j3) → wp_Mod_become j1 (0 : Int32) (-1 : Int32) μ (fun μ11 => Q (0 : Int32) μ11)) ∧ ((¬ (μ.1 91 10) ≤ j3) → wp_Mod_become j1 (0 : Int32) ((96 : Int32) + j3) μ (fun μ12 => Q (0 : Int32) μ12)))))) ∧ ((j2 = (15 : Int32)) → wp_Mod_become j1 (0 : Int32) (-1 : Int32) μ (fun μ13 => Q (0 : Int32) μ13)))) ∧ ((j2 = (9 : Int32)) → wp_Mod_value j1 (0 : Int32) μ (fun x15 μ14 => wp_Mod_become j1 (0 : Int32) x15 μ14 (fun μ16 => Q (0 : Int32) μ16))))) ∧ ((j2 = (7 : Int32)) → (vp_in (((4 : Int32) * j1) + j3) 16 ∧ wp_Mod_become j1 (0 : Int32) (μ.2.1 114 (Int32.toNatClampNeg (((4 : Int32) * j1) + j3))) μ (fun μ18 => Q (0 : Int32) μ18))))) ∧ ((j2 = (1 : Int32)) → wp_Mod_become j1 (0 : Int32) j3 μ (fun μ19 => Q (0 : Int32) μ19)))) ∧ ((j2 = (14 : Int32)) → wp_Mod_plain_j23 j1 j2 μ  Q))
set_option maxRecDepth 100000 in
set_option maxHeartbeats 4000000 in
theorem g_Mod_plain_j17 {l : Launch} {j1 : Int32} {j2 : Int32} {j3 : Int32}   {Q : Int32 → Mu → Prop}  {μ : Mu} (hk : wp_Mod_plain_j17 j1 j2 j3 μ  Q) : Go (mE l) mt_Mod_plain false (rmd 1) 0 0 17 [some (.ref 91), some (.int j1), some (.int j2), some (.int j3), none, none] [] (lay μ) (PI Q) := by
  unfold wp_Mod_plain_j17 at hk
  refine go_iload_n (pc := 17) (i := 2) d_Mod_plain_17 rfl rfl ?_
  refine go_bipush (pc := 18) (v := 14) d_Mod_plain_18 (by decide) ?_
  refine go_icmp_ne (pc := 20) (tgt := 69) d_Mod_plain_20 rfl (fun h20 => ?_) (fun h20 => ?_)
  · replace hk := hk.1 h20
    refine go_iload_n (pc := 69) (i := 2) d_Mod_plain_69 rfl rfl ?_
    refine go_iconst (pc := 70) (v := 1) d_Mod_plain_70 (by decide) ?_
    refine go_icmp_ne (pc := 71) (tgt := 84) d_Mod_plain_71 rfl (fun h71 => ?_) (fun h71 => ?_)
    · replace hk := hk.1 h71
      refine go_iload_n (pc := 84) (i := 2) d_Mod_plain_84 rfl rfl ?_
      refine go_bipush (pc := 85) (v := 7) d_Mod_plain_85 (by decide) ?_
      refine go_icmp_ne (pc := 87) (tgt := 109) d_Mod_plain_87 rfl (fun h87 => ?_) (fun h87 => ?_)
      · replace hk := hk.1 h87
        refine go_iload_n (pc := 109) (i := 2) d_Mod_plain_109 rfl rfl ?_
        refine go_bipush (pc := 110) (v := 9) d_Mod_plain_110 (by decide) ?_
        refine go_icmp_ne (pc := 112) (tgt := 130) d_Mod_plain_112 rfl (fun h112 => ?_) (fun h112 => ?_)
        · replace hk := hk.1 h112
          refine go_iload_n (pc := 130) (i := 2) d_Mod_plain_130 rfl rfl ?_
          refine go_bipush (pc := 131) (v := 15) d_Mod_plain_131 (by decide) ?_
          refine go_icmp_ne (pc := 133) (tgt := 146) d_Mod_plain_133 rfl (fun h133 => ?_) (fun h133 => ?_)
          · replace hk := hk.1 h133
            refine go_iload_n (pc := 146) (i := 2) d_Mod_plain_146 rfl rfl ?_
            refine go_bipush (pc := 147) (v := 16) d_Mod_plain_147 (by decide) ?_
            refine go_icmp_ne (pc := 149) (tgt := 177) d_Mod_plain_149 rfl (fun h149 => ?_) (fun h149 => ?_)
            · replace hk := hk.1 h149
              refine go_iload_n (pc := 177) (i := 2) d_Mod_plain_177 rfl rfl ?_
              refine go_bipush (pc := 178) (v := 17) d_Mod_plain_178 (by decide) ?_
              refine go_icmp_eq (pc := 180) (tgt := 215) d_Mod_plain_180 rfl (fun h180 => ?_) (fun h180 => ?_)
              · replace hk := hk.1 h180
                refine go_iconst (pc := 215) (v := 0) d_Mod_plain_215 (by decide) ?_
                exact go_ret (pc := 216) (r := some (.int (0 : Int32))) d_Mod_plain_216 ⟨_, _, rfl, rfl, hk⟩
              · replace hk := hk.2 h180
                refine go_iload_n (pc := 183) (i := 2) d_Mod_plain_183 rfl rfl ?_
                refine go_bipush (pc := 184) (v := 8) d_Mod_plain_184 (by decide) ?_
                refine go_icmp_ne (pc := 186) (tgt := 205) d_Mod_plain_186 rfl (fun h186 => ?_) (fun h186 => ?_)
                · replace hk := hk.1 h186
                  refine go_aload_n (pc := 205) (i := 0) d_Mod_plain_205 rfl rfl ?_
                  refine go_getR (pc := 206) (r := 112) sh_model rfl fl_Mod_71 d_Mod_plain_206 ?_
                  refine go_iload_n (pc := 209) (i := 1) d_Mod_plain_209 rfl rfl ?_
                  refine go_dup2 (pc := 210) d_Mod_plain_210 rfl rfl ?_
                  obtain ⟨hi1, hk⟩ := hk
                  refine go_aldI (pc := 211) sh_m_height hi1 d_Mod_plain_211 ?_
                  refine go_iconst (pc := 212) (v := 1) d_Mod_plain_212 (by decide) ?_
                  refine go_isub (pc := 213) d_Mod_plain_213 ?_
                  obtain ⟨hi2, hk⟩ := hk
                  refine go_astIn (pc := 214) sh_m_height hi2 d_Mod_plain_214 (fun μ3 e3 => ?_)
                  replace hk := hk μ3 e3
                  refine go_iconst (pc := 215) (v := 0) d_Mod_plain_215 (by decide) ?_
                  exact go_ret (pc := 216) (r := some (.int (0 : Int32))) d_Mod_plain_216 ⟨_, _, rfl, rfl, hk⟩
                · replace hk := hk.2 h186
                  refine go_aload_n (pc := 189) (i := 0) d_Mod_plain_189 rfl rfl ?_
                  refine go_getR (pc := 190) (r := 114) sh_model rfl fl_Mod_77 d_Mod_plain_190 ?_
                  refine go_iconst (pc := 193) (v := 4) d_Mod_plain_193 (by decide) ?_
                  refine go_iload_n (pc := 194) (i := 1) d_Mod_plain_194 rfl rfl ?_
                  refine go_imul (pc := 195) d_Mod_plain_195 ?_
                  refine go_iload_n (pc := 196) (i := 3) d_Mod_plain_196 rfl rfl ?_
                  refine go_iadd (pc := 197) d_Mod_plain_197 ?_
                  refine go_aload_n (pc := 198) (i := 0) d_Mod_plain_198 rfl rfl ?_
                  refine go_iload_n (pc := 199) (i := 1) d_Mod_plain_199 rfl rfl ?_
                  refine go_iconst (pc := 200) (v := 0) d_Mod_plain_200 (by decide) ?_
                  refine go_callV (pc := 201) (m_Mod_value  hk) cz_Mod_value cv_Mod_value (Or.inl lk_Mod_167) (lay_at sh_model) rfl rfl rfl (Nat.le_of_ble_eq_true rfl) ⟨by decide, by decide⟩ rfl rfl d_Mod_plain_201 (fun r M' hr => ?_)
                  obtain ⟨x5, μ4, rfl, rfl, hk⟩ := hr
                  try dsimp only [Option.toList, List.cons_append, List.nil_append]
                  obtain ⟨hi6, hk⟩ := hk
                  refine go_astIn (pc := 204) sh_m_locals hi6 d_Mod_plain_204 (fun μ7 e7 => ?_)
                  replace hk := hk μ7 e7
                  refine go_aload_n (pc := 205) (i := 0) d_Mod_plain_205 rfl rfl ?_
                  refine go_getR (pc := 206) (r := 112) sh_model rfl fl_Mod_71 d_Mod_plain_206 ?_
                  refine go_iload_n (pc := 209) (i := 1) d_Mod_plain_209 rfl rfl ?_
                  refine go_dup2 (pc := 210) d_Mod_plain_210 rfl rfl ?_
                  obtain ⟨hi8, hk⟩ := hk
                  refine go_aldI (pc := 211) sh_m_height hi8 d_Mod_plain_211 ?_
                  refine go_iconst (pc := 212) (v := 1) d_Mod_plain_212 (by decide) ?_
                  refine go_isub (pc := 213) d_Mod_plain_213 ?_
                  obtain ⟨hi9, hk⟩ := hk
                  refine go_astIn (pc := 214) sh_m_height hi9 d_Mod_plain_214 (fun μ10 e10 => ?_)
                  replace hk := hk μ10 e10
                  refine go_iconst (pc := 215) (v := 0) d_Mod_plain_215 (by decide) ?_
                  exact go_ret (pc := 216) (r := some (.int (0 : Int32))) d_Mod_plain_216 ⟨_, _, rfl, rfl, hk⟩
            · replace hk := hk.2 h149
              refine go_aload_n (pc := 152) (i := 0) d_Mod_plain_152 rfl rfl ?_
              refine go_iload_n (pc := 153) (i := 1) d_Mod_plain_153 rfl rfl ?_
              refine go_iconst (pc := 154) (v := 0) d_Mod_plain_154 (by decide) ?_
              refine go_iload_n (pc := 155) (i := 3) d_Mod_plain_155 rfl rfl ?_
              refine go_aload_n (pc := 156) (i := 0) d_Mod_plain_156 rfl rfl ?_
              refine go_getI (pc := 157) sh_model rfl fl_Mod_134 d_Mod_plain_157 ?_
              refine go_icmp_ge (pc := 160) (tgt := 170) d_Mod_plain_160 rfl (fun h160 => ?_) (fun h160 => ?_)
              · replace hk := hk.1 h160
                refine go_iconst (pc := 170) (v := (-1)) d_Mod_plain_170 (by decide) ?_
                refine go_callV (pc := 171) (m_Mod_become  hk) cz_Mod_become cv_Mod_become (Or.inl lk_Mod_170) (lay_at sh_model) rfl rfl rfl (Nat.le_of_ble_eq_true rfl) ⟨by decide, by decide⟩ rfl rfl d_Mod_plain_171 (fun r M' hr => ?_)
                obtain ⟨μ11, rfl, rfl, hk⟩ := hr
                try dsimp only [Option.toList, List.cons_append, List.nil_append]
                refine go_goto (pc := 174) (tgt := 215) d_Mod_plain_174 rfl ?_
                refine go_iconst (pc := 215) (v := 0) d_Mod_plain_215 (by decide) ?_
                exact go_ret (pc := 216) (r := some (.int (0 : Int32))) d_Mod_plain_216 ⟨_, _, rfl, rfl, hk⟩
              · replace hk := hk.2 h160
                refine go_bipush (pc := 163) (v := 96) d_Mod_plain_163 (by decide) ?_
                refine go_iload_n (pc := 165) (i := 3) d_Mod_plain_165 rfl rfl ?_
                refine go_iadd (pc := 166) d_Mod_plain_166 ?_
                refine go_goto (pc := 167) (tgt := 171) d_Mod_plain_167 rfl ?_
                refine go_callV (pc := 171) (m_Mod_become  hk) cz_Mod_become cv_Mod_become (Or.inl lk_Mod_170) (lay_at sh_model) rfl rfl rfl (Nat.le_of_ble_eq_true rfl) ⟨by decide, by decide⟩ rfl rfl d_Mod_plain_171 (fun r M' hr => ?_)
                obtain ⟨μ12, rfl, rfl, hk⟩ := hr
                try dsimp only [Option.toList, List.cons_append, List.nil_append]
                refine go_goto (pc := 174) (tgt := 215) d_Mod_plain_174 rfl ?_
                refine go_iconst (pc := 215) (v := 0) d_Mod_plain_215 (by decide) ?_
                exact go_ret (pc := 216) (r := some (.int (0 : Int32))) d_Mod_plain_216 ⟨_, _, rfl, rfl, hk⟩
          · replace hk := hk.2 h133
            refine go_aload_n (pc := 136) (i := 0) d_Mod_plain_136 rfl rfl ?_
            refine go_iload_n (pc := 137) (i := 1) d_Mod_plain_137 rfl rfl ?_
            refine go_iconst (pc := 138) (v := 0) d_Mod_plain_138 (by decide) ?_
            refine go_iconst (pc := 139) (v := (-1)) d_Mod_plain_139 (by decide) ?_
            refine go_callV (pc := 140) (m_Mod_become  hk) cz_Mod_become cv_Mod_become (Or.inl lk_Mod_170) (lay_at sh_model) rfl rfl rfl (Nat.le_of_ble_eq_true rfl) ⟨by decide, by decide⟩ rfl rfl d_Mod_plain_140 (fun r M' hr => ?_)
            obtain ⟨μ13, rfl, rfl, hk⟩ := hr
            try dsimp only [Option.toList, List.cons_append, List.nil_append]
            refine go_goto (pc := 143) (tgt := 215) d_Mod_plain_143 rfl ?_
            refine go_iconst (pc := 215) (v := 0) d_Mod_plain_215 (by decide) ?_
            exact go_ret (pc := 216) (r := some (.int (0 : Int32))) d_Mod_plain_216 ⟨_, _, rfl, rfl, hk⟩
        · replace hk := hk.2 h112
          refine go_aload_n (pc := 115) (i := 0) d_Mod_plain_115 rfl rfl ?_
          refine go_iload_n (pc := 116) (i := 1) d_Mod_plain_116 rfl rfl ?_
          refine go_iconst (pc := 117) (v := 0) d_Mod_plain_117 (by decide) ?_
          refine go_aload_n (pc := 118) (i := 0) d_Mod_plain_118 rfl rfl ?_
          refine go_iload_n (pc := 119) (i := 1) d_Mod_plain_119 rfl rfl ?_
          refine go_iconst (pc := 120) (v := 0) d_Mod_plain_120 (by decide) ?_
          refine go_callV (pc := 121) (m_Mod_value  hk) cz_Mod_value cv_Mod_value (Or.inl lk_Mod_167) (lay_at sh_model) rfl rfl rfl (Nat.le_of_ble_eq_true rfl) ⟨by decide, by decide⟩ rfl rfl d_Mod_plain_121 (fun r M' hr => ?_)
          obtain ⟨x15, μ14, rfl, rfl, hk⟩ := hr
          try dsimp only [Option.toList, List.cons_append, List.nil_append]
          refine go_callV (pc := 124) (m_Mod_become  hk) cz_Mod_become cv_Mod_become (Or.inl lk_Mod_170) (lay_at sh_model) rfl rfl rfl (Nat.le_of_ble_eq_true rfl) ⟨by decide, by decide⟩ rfl rfl d_Mod_plain_124 (fun r M' hr => ?_)
          obtain ⟨μ16, rfl, rfl, hk⟩ := hr
          try dsimp only [Option.toList, List.cons_append, List.nil_append]
          refine go_goto (pc := 127) (tgt := 215) d_Mod_plain_127 rfl ?_
          refine go_iconst (pc := 215) (v := 0) d_Mod_plain_215 (by decide) ?_
          exact go_ret (pc := 216) (r := some (.int (0 : Int32))) d_Mod_plain_216 ⟨_, _, rfl, rfl, hk⟩
      · replace hk := hk.2 h87
        refine go_aload_n (pc := 90) (i := 0) d_Mod_plain_90 rfl rfl ?_
        refine go_iload_n (pc := 91) (i := 1) d_Mod_plain_91 rfl rfl ?_
        refine go_iconst (pc := 92) (v := 0) d_Mod_plain_92 (by decide) ?_
        refine go_aload_n (pc := 93) (i := 0) d_Mod_plain_93 rfl rfl ?_
        refine go_getR (pc := 94) (r := 114) sh_model rfl fl_Mod_77 d_Mod_plain_94 ?_
        refine go_iconst (pc := 97) (v := 4) d_Mod_plain_97 (by decide) ?_
        refine go_iload_n (pc := 98) (i := 1) d_Mod_plain_98 rfl rfl ?_
        refine go_imul (pc := 99) d_Mod_plain_99 ?_
        refine go_iload_n (pc := 100) (i := 3) d_Mod_plain_100 rfl rfl ?_
        refine go_iadd (pc := 101) d_Mod_plain_101 ?_
        obtain ⟨hi17, hk⟩ := hk
        refine go_aldI (pc := 102) sh_m_locals hi17 d_Mod_plain_102 ?_
        refine go_callV (pc := 103) (m_Mod_become  hk) cz_Mod_become cv_Mod_become (Or.inl lk_Mod_170) (lay_at sh_model) rfl rfl rfl (Nat.le_of_ble_eq_true rfl) ⟨by decide, by decide⟩ rfl rfl d_Mod_plain_103 (fun r M' hr => ?_)
        obtain ⟨μ18, rfl, rfl, hk⟩ := hr
        try dsimp only [Option.toList, List.cons_append, List.nil_append]
        refine go_goto (pc := 106) (tgt := 215) d_Mod_plain_106 rfl ?_
        refine go_iconst (pc := 215) (v := 0) d_Mod_plain_215 (by decide) ?_
        exact go_ret (pc := 216) (r := some (.int (0 : Int32))) d_Mod_plain_216 ⟨_, _, rfl, rfl, hk⟩
    · replace hk := hk.2 h71
      refine go_aload_n (pc := 74) (i := 0) d_Mod_plain_74 rfl rfl ?_
      refine go_iload_n (pc := 75) (i := 1) d_Mod_plain_75 rfl rfl ?_
      refine go_iconst (pc := 76) (v := 0) d_Mod_plain_76 (by decide) ?_
      refine go_iload_n (pc := 77) (i := 3) d_Mod_plain_77 rfl rfl ?_
      refine go_callV (pc := 78) (m_Mod_become  hk) cz_Mod_become cv_Mod_become (Or.inl lk_Mod_170) (lay_at sh_model) rfl rfl rfl (Nat.le_of_ble_eq_true rfl) ⟨by decide, by decide⟩ rfl rfl d_Mod_plain_78 (fun r M' hr => ?_)
      obtain ⟨μ19, rfl, rfl, hk⟩ := hr
      try dsimp only [Option.toList, List.cons_append, List.nil_append]
      refine go_goto (pc := 81) (tgt := 215) d_Mod_plain_81 rfl ?_
      refine go_iconst (pc := 215) (v := 0) d_Mod_plain_215 (by decide) ?_
      exact go_ret (pc := 216) (r := some (.int (0 : Int32))) d_Mod_plain_216 ⟨_, _, rfl, rfl, hk⟩
  · replace hk := hk.2 h20
    refine go_weak (L' := [some (.ref 91), some (.int j1), some (.int j2), none, none, none]) (lle_at (by simp [lle])) ?_
    exact g_Mod_plain_j23   hk
def wp_Mod_plain (a1 : Int32) (a2 : Int32) (a3 : Int32) (μ : Mu) (Q : Int32 → Mu → Prop) : Prop := (((¬ a2 = 0) → (((a2 < (2 : Int32)) → wp_Mod_plain_j17 a1 a2 a3 μ  Q) ∧ ((¬ a2 < (2 : Int32)) → (((a2 ≤ (6 : Int32)) → wp_Mod_plain_j23 a1 a2 μ  Q) ∧ ((¬ a2 ≤ (6 : Int32)) → wp_Mod_plain_j17 a1 a2 a3 μ  Q))))) ∧ ((a2 = 0) → Q (3 : Int32) μ))
set_option maxRecDepth 100000 in
set_option maxHeartbeats 4000000 in
theorem m_Mod_plain {l : Launch} {a1 : Int32} {a2 : Int32} {a3 : Int32}  {μ : Mu} {Q : Int32 → Mu → Prop} (hk : wp_Mod_plain a1 a2 a3 μ Q) : Mets (mE l) mt_Mod_plain false (rmd 1) [.ref 91, .int a1, .int a2, .int a3] (lay μ) (PI Q) := by
  unfold wp_Mod_plain at hk
  refine mets_of (L := [some (.ref 91), some (.int a1), some (.int a2), some (.int a3), none, none]) (by decide) (Nat.le_of_ble_eq_true rfl) rfl ?_
  refine go_iload_n (pc := 0) (i := 2) d_Mod_plain_0 rfl rfl ?_
  refine go_if_ne (pc := 1) (tgt := 6) d_Mod_plain_1 rfl (fun h1 => ?_) (fun h1 => ?_)
  · replace hk := hk.1 h1
    refine go_iload_n (pc := 6) (i := 2) d_Mod_plain_6 rfl rfl ?_
    refine go_iconst (pc := 7) (v := 2) d_Mod_plain_7 (by decide) ?_
    refine go_icmp_lt (pc := 8) (tgt := 17) d_Mod_plain_8 rfl (fun h8 => ?_) (fun h8 => ?_)
    · replace hk := hk.1 h8
      exact g_Mod_plain_j17   hk
    · replace hk := hk.2 h8
      refine go_iload_n (pc := 11) (i := 2) d_Mod_plain_11 rfl rfl ?_
      refine go_bipush (pc := 12) (v := 6) d_Mod_plain_12 (by decide) ?_
      refine go_icmp_le (pc := 14) (tgt := 23) d_Mod_plain_14 rfl (fun h14 => ?_) (fun h14 => ?_)
      · replace hk := hk.1 h14
        refine go_weak (L' := [some (.ref 91), some (.int a1), some (.int a2), none, none, none]) (lle_at (by simp [lle])) ?_
        exact g_Mod_plain_j23   hk
      · replace hk := hk.2 h14
        exact g_Mod_plain_j17   hk
  · replace hk := hk.2 h1
    refine go_iconst (pc := 4) (v := 3) d_Mod_plain_4 (by decide) ?_
    exact go_ret (pc := 5) (r := some (.int (3 : Int32))) d_Mod_plain_5 ⟨_, _, rfl, rfl, hk⟩
def wp_Mod_copied (a1 : Int32) (μ : Mu) (Q : Int32 → Mu → Prop) : Prop := (((a1 < 0) → Q a1 μ) ∧ ((¬ a1 < 0) → (vp_in a1 104 ∧ ((((μ.2.1 102 (Int32.toNatClampNeg a1)) = 0) → Q a1 μ) ∧ ((¬ (μ.2.1 102 (Int32.toNatClampNeg a1)) = 0) → (vp_in a1 104 ∧ Q (μ.2.1 103 (Int32.toNatClampNeg a1)) μ))))))
set_option maxRecDepth 100000 in
set_option maxHeartbeats 4000000 in
theorem m_Mod_copied {l : Launch} {a1 : Int32}  {μ : Mu} {Q : Int32 → Mu → Prop} (hk : wp_Mod_copied a1 μ Q) : Mets (mE l) mt_Mod_copied false (rmd 0) [.ref 91, .int a1] (lay μ) (PI Q) := by
  unfold wp_Mod_copied at hk
  refine mets_of (L := [some (.ref 91), some (.int a1)]) (by decide) (Nat.le_of_ble_eq_true rfl) rfl ?_
  refine go_iload_n (pc := 0) (i := 1) d_Mod_copied_0 rfl rfl ?_
  refine go_if_lt (pc := 1) (tgt := 22) d_Mod_copied_1 rfl (fun h1 => ?_) (fun h1 => ?_)
  · replace hk := hk.1 h1
    refine go_iload_n (pc := 22) (i := 1) d_Mod_copied_22 rfl rfl ?_
    exact go_ret (pc := 23) (r := some (.int a1)) d_Mod_copied_23 ⟨_, _, rfl, rfl, hk⟩
  · replace hk := hk.2 h1
    refine go_aload_n (pc := 4) (i := 0) d_Mod_copied_4 rfl rfl ?_
    refine go_getR (pc := 5) (r := 102) sh_model rfl fl_Mod_41 d_Mod_copied_5 ?_
    refine go_iload_n (pc := 8) (i := 1) d_Mod_copied_8 rfl rfl ?_
    obtain ⟨hi1, hk⟩ := hk
    refine go_aldZ (pc := 9) sh_m_reached hi1 d_Mod_copied_9 ?_
    refine go_if_eq (pc := 10) (tgt := 22) d_Mod_copied_10 rfl (fun h10 => ?_) (fun h10 => ?_)
    · replace hk := hk.1 h10
      refine go_iload_n (pc := 22) (i := 1) d_Mod_copied_22 rfl rfl ?_
      exact go_ret (pc := 23) (r := some (.int a1)) d_Mod_copied_23 ⟨_, _, rfl, rfl, hk⟩
    · replace hk := hk.2 h10
      refine go_aload_n (pc := 13) (i := 0) d_Mod_copied_13 rfl rfl ?_
      refine go_getR (pc := 14) (r := 103) sh_model rfl fl_Mod_44 d_Mod_copied_14 ?_
      refine go_iload_n (pc := 17) (i := 1) d_Mod_copied_17 rfl rfl ?_
      obtain ⟨hi2, hk⟩ := hk
      refine go_aldI (pc := 18) sh_m_twin hi2 d_Mod_copied_18 ?_
      refine go_goto (pc := 19) (tgt := 23) d_Mod_copied_19 rfl ?_
      exact go_ret (pc := 23) (r := some (.int (μ.2.1 103 (Int32.toNatClampNeg a1)))) d_Mod_copied_23 ⟨_, _, rfl, rfl, hk⟩
def wp_Mod_copy_2 (w1 : Int32) (w2 : Int32) (K0 : Int32 → Mu → Prop) (Q : Int32 → Mu → Prop) : Nat → Int32 → Mu → Prop
  | 0, _, _ => False
  | n2 + 1, v3, μ => ((((96 : Int32) ≤ v3) → K0 v3 μ) ∧ ((¬ (96 : Int32) ≤ v3) → (vp_in v3 104 ∧ ((((μ.2.1 102 (Int32.toNatClampNeg v3)) = 0) → wp_Mod_copy_2 w1 w2 K0 Q n2 (v3 + 1) μ) ∧ ((¬ (μ.2.1 102 (Int32.toNatClampNeg v3)) = 0) → (vp_in v3 104 ∧ wp_Mod_make w2 (μ.2.1 98 (Int32.toNatClampNeg v3)) μ (fun x4 μ3 => (vp_in v3 104 ∧ ∀ μ6 : Mu, μ6 = setA μ3 103 (Int32.toNatClampNeg v3) x4 → wp_Mod_copy_2 w1 w2 K0 Q n2 (v3 + 1) μ6))))))))
set_option maxRecDepth 100000 in
set_option maxHeartbeats 4000000 in
theorem g_Mod_copy_2 {l : Launch} {w1 : Int32} {w2 : Int32}  {K0 : Int32 → Mu → Prop} {Q : Int32 → Mu → Prop} (hK0 : ∀ (v3 : Int32) (μ : Mu), K0 v3 μ → Go (mE l) mt_Mod_copy false (rmd 1) 0 0 40 [some (.ref 91), some (.int w1), some (.int w2), some (.int v3)] [] (lay μ) (PI Q)) : ∀ (n : Nat) (v3 : Int32) (μ : Mu), wp_Mod_copy_2 w1 w2 K0 Q n v3 μ → Go (mE l) mt_Mod_copy false (rmd 1) 0 0 2 [some (.ref 91), some (.int w1), some (.int w2), some (.int v3)] [] (lay μ) (PI Q) := by
  intro n
  induction n with
  | zero => intro v3 μ hk; exact hk.elim
  | succ n ih =>
    intro v3 μ hk
    unfold wp_Mod_copy_2 at hk
    refine go_iload_n (pc := 2) (i := 3) d_Mod_copy_2 rfl rfl ?_
    refine go_bipush (pc := 3) (v := 96) d_Mod_copy_3 (by decide) ?_
    refine go_icmp_ge (pc := 5) (tgt := 40) d_Mod_copy_5 rfl (fun h5 => ?_) (fun h5 => ?_)
    · replace hk := hk.1 h5
      exact hK0 _ _ hk
    · replace hk := hk.2 h5
      refine go_aload_n (pc := 8) (i := 0) d_Mod_copy_8 rfl rfl ?_
      refine go_getR (pc := 9) (r := 102) sh_model rfl fl_Mod_41 d_Mod_copy_9 ?_
      refine go_iload_n (pc := 12) (i := 3) d_Mod_copy_12 rfl rfl ?_
      obtain ⟨hi1, hk⟩ := hk
      refine go_aldZ (pc := 13) sh_m_reached hi1 d_Mod_copy_13 ?_
      refine go_if_eq (pc := 14) (tgt := 34) d_Mod_copy_14 rfl (fun h14 => ?_) (fun h14 => ?_)
      · replace hk := hk.1 h14
        refine go_iinc (pc := 34) (v := (v3 + 1)) (L' := [some (.ref 91), some (.int w1), some (.int w2), some (.int (v3 + 1))]) d_Mod_copy_34 rfl rfl (by decide) rfl ?_
        refine go_goto (pc := 37) (tgt := 2) d_Mod_copy_37 rfl ?_
        exact ih _ _ hk
      · replace hk := hk.2 h14
        refine go_aload_n (pc := 17) (i := 0) d_Mod_copy_17 rfl rfl ?_
        refine go_getR (pc := 18) (r := 103) sh_model rfl fl_Mod_44 d_Mod_copy_18 ?_
        refine go_iload_n (pc := 21) (i := 3) d_Mod_copy_21 rfl rfl ?_
        refine go_aload_n (pc := 22) (i := 0) d_Mod_copy_22 rfl rfl ?_
        refine go_iload_n (pc := 23) (i := 2) d_Mod_copy_23 rfl rfl ?_
        refine go_aload_n (pc := 24) (i := 0) d_Mod_copy_24 rfl rfl ?_
        refine go_getR (pc := 25) (r := 98) sh_model rfl fl_Mod_29 d_Mod_copy_25 ?_
        refine go_iload_n (pc := 28) (i := 3) d_Mod_copy_28 rfl rfl ?_
        obtain ⟨hi2, hk⟩ := hk
        refine go_aldI (pc := 29) sh_m_num hi2 d_Mod_copy_29 ?_
        refine go_callV (pc := 30) (m_Mod_make  hk) cz_Mod_make cv_Mod_make (Or.inl lk_Mod_154) (lay_at sh_model) rfl rfl rfl (Nat.le_of_ble_eq_true rfl) ⟨by decide, by decide⟩ rfl rfl d_Mod_copy_30 (fun r M' hr => ?_)
        obtain ⟨x4, μ3, rfl, rfl, hk⟩ := hr
        try dsimp only [Option.toList, List.cons_append, List.nil_append]
        obtain ⟨hi5, hk⟩ := hk
        refine go_astIn (pc := 33) sh_m_twin hi5 d_Mod_copy_33 (fun μ6 e6 => ?_)
        replace hk := hk μ6 e6
        refine go_iinc (pc := 34) (v := (v3 + 1)) (L' := [some (.ref 91), some (.int w1), some (.int w2), some (.int (v3 + 1))]) d_Mod_copy_34 rfl rfl (by decide) rfl ?_
        refine go_goto (pc := 37) (tgt := 2) d_Mod_copy_37 rfl ?_
        exact ih _ _ hk
def wp_Mod_copy_42 (w1 : Int32) (K0 : Int32 → Mu → Prop) (Q : Int32 → Mu → Prop) : Nat → Int32 → Mu → Prop
  | 0, _, _ => False
  | n42 + 1, v3, μ => ((((96 : Int32) ≤ v3) → K0 v3 μ) ∧ ((¬ (96 : Int32) ≤ v3) → (vp_in v3 104 ∧ ((((μ.2.1 102 (Int32.toNatClampNeg v3)) = 0) → wp_Mod_copy_42 w1 K0 Q n42 (v3 + 1) μ) ∧ ((¬ (μ.2.1 102 (Int32.toNatClampNeg v3)) = 0) → (vp_in v3 104 ∧ (vp_in v3 104 ∧ wp_Mod_copied (μ.2.1 99 (Int32.toNatClampNeg v3)) μ (fun x13 μ12 => (vp_in (μ.2.1 103 (Int32.toNatClampNeg v3)) 104 ∧ ∀ μ15 : Mu, μ15 = setA μ12 99 (Int32.toNatClampNeg (μ.2.1 103 (Int32.toNatClampNeg v3))) x13 → (vp_in v3 104 ∧ (vp_in v3 104 ∧ wp_Mod_copied (μ15.2.1 100 (Int32.toNatClampNeg v3)) μ15 (fun x19 μ18 => (vp_in (μ15.2.1 103 (Int32.toNatClampNeg v3)) 104 ∧ ∀ μ21 : Mu, μ21 = setA μ18 100 (Int32.toNatClampNeg (μ15.2.1 103 (Int32.toNatClampNeg v3))) x19 → wp_Mod_copy_42 w1 K0 Q n42 (v3 + 1) μ21)))))))))))))
set_option maxRecDepth 100000 in
set_option maxHeartbeats 4000000 in
theorem g_Mod_copy_42 {l : Launch} {w1 : Int32}  {K0 : Int32 → Mu → Prop} {Q : Int32 → Mu → Prop} (hK0 : ∀ (v3 : Int32) (μ : Mu), K0 v3 μ → Go (mE l) mt_Mod_copy false (rmd 1) 0 0 105 [some (.ref 91), some (.int w1), none, some (.int v3)] [] (lay μ) (PI Q)) : ∀ (n : Nat) (v3 : Int32) (μ : Mu), wp_Mod_copy_42 w1 K0 Q n v3 μ → Go (mE l) mt_Mod_copy false (rmd 1) 0 0 42 [some (.ref 91), some (.int w1), none, some (.int v3)] [] (lay μ) (PI Q) := by
  intro n
  induction n with
  | zero => intro v3 μ hk; exact hk.elim
  | succ n ih =>
    intro v3 μ hk
    unfold wp_Mod_copy_42 at hk
    refine go_iload_n (pc := 42) (i := 3) d_Mod_copy_42 rfl rfl ?_
    refine go_bipush (pc := 43) (v := 96) d_Mod_copy_43 (by decide) ?_
    refine go_icmp_ge (pc := 45) (tgt := 105) d_Mod_copy_45 rfl (fun h45 => ?_) (fun h45 => ?_)
    · replace hk := hk.1 h45
      exact hK0 _ _ hk
    · replace hk := hk.2 h45
      refine go_aload_n (pc := 48) (i := 0) d_Mod_copy_48 rfl rfl ?_
      refine go_getR (pc := 49) (r := 102) sh_model rfl fl_Mod_41 d_Mod_copy_49 ?_
      refine go_iload_n (pc := 52) (i := 3) d_Mod_copy_52 rfl rfl ?_
      obtain ⟨hi9, hk⟩ := hk
      refine go_aldZ (pc := 53) sh_m_reached hi9 d_Mod_copy_53 ?_
      refine go_if_eq (pc := 54) (tgt := 99) d_Mod_copy_54 rfl (fun h54 => ?_) (fun h54 => ?_)
      · replace hk := hk.1 h54
        refine go_iinc (pc := 99) (v := (v3 + 1)) (L' := [some (.ref 91), some (.int w1), none, some (.int (v3 + 1))]) d_Mod_copy_99 rfl rfl (by decide) rfl ?_
        refine go_goto (pc := 102) (tgt := 42) d_Mod_copy_102 rfl ?_
        exact ih _ _ hk
      · replace hk := hk.2 h54
        refine go_aload_n (pc := 57) (i := 0) d_Mod_copy_57 rfl rfl ?_
        refine go_getR (pc := 58) (r := 99) sh_model rfl fl_Mod_32 d_Mod_copy_58 ?_
        refine go_aload_n (pc := 61) (i := 0) d_Mod_copy_61 rfl rfl ?_
        refine go_getR (pc := 62) (r := 103) sh_model rfl fl_Mod_44 d_Mod_copy_62 ?_
        refine go_iload_n (pc := 65) (i := 3) d_Mod_copy_65 rfl rfl ?_
        obtain ⟨hi10, hk⟩ := hk
        refine go_aldI (pc := 66) sh_m_twin hi10 d_Mod_copy_66 ?_
        refine go_aload_n (pc := 67) (i := 0) d_Mod_copy_67 rfl rfl ?_
        refine go_aload_n (pc := 68) (i := 0) d_Mod_copy_68 rfl rfl ?_
        refine go_getR (pc := 69) (r := 99) sh_model rfl fl_Mod_32 d_Mod_copy_69 ?_
        refine go_iload_n (pc := 72) (i := 3) d_Mod_copy_72 rfl rfl ?_
        obtain ⟨hi11, hk⟩ := hk
        refine go_aldI (pc := 73) sh_m_left hi11 d_Mod_copy_73 ?_
        refine go_callV (pc := 74) (m_Mod_copied  hk) cz_Mod_copied cv_Mod_copied (Or.inl lk_Mod_158) (lay_at sh_model) rfl rfl rfl (Nat.le_of_ble_eq_true rfl) ⟨by decide, by decide⟩ rfl rfl d_Mod_copy_74 (fun r M' hr => ?_)
        obtain ⟨x13, μ12, rfl, rfl, hk⟩ := hr
        try dsimp only [Option.toList, List.cons_append, List.nil_append]
        obtain ⟨hi14, hk⟩ := hk
        refine go_astIn (pc := 77) sh_m_left hi14 d_Mod_copy_77 (fun μ15 e15 => ?_)
        replace hk := hk μ15 e15
        refine go_aload_n (pc := 78) (i := 0) d_Mod_copy_78 rfl rfl ?_
        refine go_getR (pc := 79) (r := 100) sh_model rfl fl_Mod_35 d_Mod_copy_79 ?_
        refine go_aload_n (pc := 82) (i := 0) d_Mod_copy_82 rfl rfl ?_
        refine go_getR (pc := 83) (r := 103) sh_model rfl fl_Mod_44 d_Mod_copy_83 ?_
        refine go_iload_n (pc := 86) (i := 3) d_Mod_copy_86 rfl rfl ?_
        obtain ⟨hi16, hk⟩ := hk
        refine go_aldI (pc := 87) sh_m_twin hi16 d_Mod_copy_87 ?_
        refine go_aload_n (pc := 88) (i := 0) d_Mod_copy_88 rfl rfl ?_
        refine go_aload_n (pc := 89) (i := 0) d_Mod_copy_89 rfl rfl ?_
        refine go_getR (pc := 90) (r := 100) sh_model rfl fl_Mod_35 d_Mod_copy_90 ?_
        refine go_iload_n (pc := 93) (i := 3) d_Mod_copy_93 rfl rfl ?_
        obtain ⟨hi17, hk⟩ := hk
        refine go_aldI (pc := 94) sh_m_right hi17 d_Mod_copy_94 ?_
        refine go_callV (pc := 95) (m_Mod_copied  hk) cz_Mod_copied cv_Mod_copied (Or.inl lk_Mod_158) (lay_at sh_model) rfl rfl rfl (Nat.le_of_ble_eq_true rfl) ⟨by decide, by decide⟩ rfl rfl d_Mod_copy_95 (fun r M' hr => ?_)
        obtain ⟨x19, μ18, rfl, rfl, hk⟩ := hr
        try dsimp only [Option.toList, List.cons_append, List.nil_append]
        obtain ⟨hi20, hk⟩ := hk
        refine go_astIn (pc := 98) sh_m_right hi20 d_Mod_copy_98 (fun μ21 e21 => ?_)
        replace hk := hk μ21 e21
        refine go_iinc (pc := 99) (v := (v3 + 1)) (L' := [some (.ref 91), some (.int w1), none, some (.int (v3 + 1))]) d_Mod_copy_99 rfl rfl (by decide) rfl ?_
        refine go_goto (pc := 102) (tgt := 42) d_Mod_copy_102 rfl ?_
        exact ih _ _ hk
def wp_Mod_copy (a1 : Int32) (a2 : Int32) (μ : Mu) (Q : Int32 → Mu → Prop) : Prop := (∃ n2, wp_Mod_copy_2 a1 a2 (fun v7 μ8 => (∃ n42, wp_Mod_copy_42 a1 (fun v22 μ23 => wp_Mod_copied a1 μ23 (fun x25 μ24 => Q x25 μ24)) Q n42 (0 : Int32) μ8)) Q n2 (0 : Int32) μ)
set_option maxRecDepth 100000 in
set_option maxHeartbeats 4000000 in
theorem m_Mod_copy {l : Launch} {a1 : Int32} {a2 : Int32}  {μ : Mu} {Q : Int32 → Mu → Prop} (hk : wp_Mod_copy a1 a2 μ Q) : Mets (mE l) mt_Mod_copy false (rmd 1) [.ref 91, .int a1, .int a2] (lay μ) (PI Q) := by
  unfold wp_Mod_copy at hk
  refine mets_of (L := [some (.ref 91), some (.int a1), some (.int a2), none]) (by decide) (Nat.le_of_ble_eq_true rfl) rfl ?_
  refine go_iconst (pc := 0) (v := 0) d_Mod_copy_0 (by decide) ?_
  refine go_istore_n (pc := 1) (i := 3) (L' := [some (.ref 91), some (.int a1), some (.int a2), some (.int (0 : Int32))]) d_Mod_copy_1 rfl (by decide) rfl ?_
  obtain ⟨n, hk⟩ := hk
  refine g_Mod_copy_2  (fun v7 μ8 hk => ?_) n _ _ hk
  · try dsimp only at hk
    refine go_iconst (pc := 40) (v := 0) d_Mod_copy_40 (by decide) ?_
    refine go_istore_n (pc := 41) (i := 3) (L' := [some (.ref 91), some (.int a1), some (.int a2), some (.int (0 : Int32))]) d_Mod_copy_41 rfl (by decide) rfl ?_
    obtain ⟨n, hk⟩ := hk
    refine go_weak (L' := [some (.ref 91), some (.int a1), none, some (.int (0 : Int32))]) (lle_at (by simp [lle])) ?_
    refine g_Mod_copy_42  (fun v22 μ23 hk => ?_) n _ _ hk
    · try dsimp only at hk
      refine go_aload_n (pc := 105) (i := 0) d_Mod_copy_105 rfl rfl ?_
      refine go_iload_n (pc := 106) (i := 1) d_Mod_copy_106 rfl rfl ?_
      refine go_callV (pc := 107) (m_Mod_copied  hk) cz_Mod_copied cv_Mod_copied (Or.inl lk_Mod_158) (lay_at sh_model) rfl rfl rfl (Nat.le_of_ble_eq_true rfl) ⟨by decide, by decide⟩ rfl rfl d_Mod_copy_107 (fun r M' hr => ?_)
      obtain ⟨x25, μ24, rfl, rfl, hk⟩ := hr
      try dsimp only [Option.toList, List.cons_append, List.nil_append]
      exact go_ret (pc := 110) (r := some (.int x25)) d_Mod_copy_110 ⟨_, _, rfl, rfl, hk⟩
