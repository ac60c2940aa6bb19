def wp_Mod_perform_j163 (j1 : Int32) (j4 : Int32) (j5 : Int32) (μ : Mu)  (Q : Int32 → Mu → Prop) : Prop := (((j5 = 0) → (vp_in j1 4 ∧ (vp_in j1 4 ∧ ∀ μ14 : Mu, μ14 = setA μ 108 (Int32.toNatClampNeg j1) ((μ.2.1 108 (Int32.toNatClampNeg j1)) + (1 : Int32)) → Q (1 : Int32) μ14))) ∧ ((¬ j5 = 0) → (vp_in j1 4 ∧ ∀ μ16 : Mu, μ16 = setA μ 108 (Int32.toNatClampNeg j1) j4 → Q (1 : Int32) μ16)))
set_option maxRecDepth 100000 in
set_option maxHeartbeats 4000000 in
theorem g_Mod_perform_j163 {l : Launch} {j1 : Int32} {j4 : Int32} {j5 : Int32}   {Q : Int32 → Mu → Prop}  {μ : Mu} (hk : wp_Mod_perform_j163 j1 j4 j5 μ  Q) : Go (mE l) mt_Mod_perform false (rmd 6) 0 0 163 [some (.ref 91), some (.int j1), none, none, some (.int j4), some (.int j5), none] [] (lay μ) (PI Q) := by
  unfold wp_Mod_perform_j163 at hk
  refine go_aload_n (pc := 163) (i := 0) d_Mod_perform_163 rfl rfl ?_
  refine go_getR (pc := 164) (r := 108) sh_model rfl fl_Mod_59 d_Mod_perform_164 ?_
  refine go_iload_n (pc := 167) (i := 1) d_Mod_perform_167 rfl rfl ?_
  refine go_iload (pc := 168) d_Mod_perform_168 rfl ?_
  refine go_if_eq (pc := 170) (tgt := 178) d_Mod_perform_170 rfl (fun h170 => ?_) (fun h170 => ?_)
  · replace hk := hk.1 h170
    refine go_aload_n (pc := 178) (i := 0) d_Mod_perform_178 rfl rfl ?_
    refine go_getR (pc := 179) (r := 108) sh_model rfl fl_Mod_59 d_Mod_perform_179 ?_
    refine go_iload_n (pc := 182) (i := 1) d_Mod_perform_182 rfl rfl ?_
    obtain ⟨hi12, hk⟩ := hk
    refine go_aldI (pc := 183) sh_m_position hi12 d_Mod_perform_183 ?_
    refine go_iconst (pc := 184) (v := 1) d_Mod_perform_184 (by decide) ?_
    refine go_iadd (pc := 185) d_Mod_perform_185 ?_
    obtain ⟨hi13, hk⟩ := hk
    refine go_astIn (pc := 186) sh_m_position hi13 d_Mod_perform_186 (fun μ14 e14 => ?_)
    replace hk := hk μ14 e14
    refine go_iconst (pc := 187) (v := 1) d_Mod_perform_187 (by decide) ?_
    exact go_ret (pc := 188) (r := some (.int (1 : Int32))) ⟨nar_zv (by decide), d_Mod_perform_188⟩ ⟨_, _, rfl, rfl, hk⟩
  · replace hk := hk.2 h170
    refine go_iload (pc := 173) d_Mod_perform_173 rfl ?_
    refine go_goto (pc := 175) (tgt := 186) d_Mod_perform_175 rfl ?_
    obtain ⟨hi15, hk⟩ := hk
    refine go_astIn (pc := 186) sh_m_position hi15 d_Mod_perform_186 (fun μ16 e16 => ?_)
    replace hk := hk μ16 e16
    refine go_iconst (pc := 187) (v := 1) d_Mod_perform_187 (by decide) ?_
    exact go_ret (pc := 188) (r := some (.int (1 : Int32))) ⟨nar_zv (by decide), d_Mod_perform_188⟩ ⟨_, _, rfl, rfl, hk⟩
def wp_Mod_perform_j149 (j1 : Int32) (j4 : Int32) (j5 : Int32) (s0 : Int32) (μ : Mu)  (Q : Int32 → Mu → Prop) : Prop := (((s0 ≤ 0) → wp_Mod_perform_j163 j1 j4 j5 μ  Q) ∧ ((¬ s0 ≤ 0) → wp_Mod_end j1 s0 μ (fun μ17 => wp_Mod_perform_j163 j1 j4 j5 μ17  Q)))
set_option maxRecDepth 100000 in
set_option maxHeartbeats 4000000 in
theorem g_Mod_perform_j149 {l : Launch} {j1 : Int32} {j4 : Int32} {j5 : Int32} {s0 : Int32}   {Q : Int32 → Mu → Prop}  {μ : Mu} (hk : wp_Mod_perform_j149 j1 j4 j5 s0 μ  Q) : Go (mE l) mt_Mod_perform false (rmd 6) 0 0 149 [some (.ref 91), some (.int j1), none, none, some (.int j4), some (.int j5), none] [.int s0] (lay μ) (PI Q) := by
  unfold wp_Mod_perform_j149 at hk
  refine go_istore (pc := 149) (L' := [some (.ref 91), some (.int j1), none, none, some (.int j4), some (.int j5), some (.int s0)]) d_Mod_perform_149 (by decide) rfl ?_
  refine go_iload (pc := 151) d_Mod_perform_151 rfl ?_
  refine go_if_le (pc := 153) (tgt := 163) d_Mod_perform_153 rfl (fun h153 => ?_) (fun h153 => ?_)
  · replace hk := hk.1 h153
    refine go_weak (L' := [some (.ref 91), some (.int j1), none, none, some (.int j4), some (.int j5), none]) (lle_at (by simp [lle])) ?_
    exact g_Mod_perform_j163   hk
  · replace hk := hk.2 h153
    refine go_aload_n (pc := 156) (i := 0) d_Mod_perform_156 rfl rfl ?_
    refine go_iload_n (pc := 157) (i := 1) d_Mod_perform_157 rfl rfl ?_
    refine go_iload (pc := 158) d_Mod_perform_158 rfl ?_
    refine go_callV (pc := 160) (m_Mod_end  hk) cz_Mod_end cv_Mod_end (Or.inl lk_Mod_186) (lay_at sh_model) rfl rfl rfl (Nat.le_of_ble_eq_true rfl) ⟨by decide, by decide⟩ rfl rfl d_Mod_perform_160 (fun r M' hr => ?_)
    obtain ⟨μ17, rfl, rfl, hk⟩ := hr
    try dsimp only [Option.toList, List.cons_append, List.nil_append]
    refine go_weak (L' := [some (.ref 91), some (.int j1), none, none, some (.int j4), some (.int j5), none]) (lle_at (by simp [lle])) ?_
    exact g_Mod_perform_j163   hk
def wp_Mod_perform_j124 (j1 : Int32) (j3 : Int32) (j4 : Int32) (j5 : Int32) (μ : Mu)  (Q : Int32 → Mu → Prop) : Prop := (((j3 < (19 : Int32)) → wp_Mod_plain j1 j3 j4 μ (fun x11 μ10 => wp_Mod_perform_j149 j1 j4 j5 x11 μ10  Q)) ∧ ((¬ j3 < (19 : Int32)) → wp_Mod_traffic j1 j3 j4 μ (fun x19 μ18 => wp_Mod_perform_j149 j1 j4 j5 x19 μ18  Q)))
set_option maxRecDepth 100000 in
set_option maxHeartbeats 4000000 in
theorem g_Mod_perform_j124 {l : Launch} {j1 : Int32} {j3 : Int32} {j4 : Int32} {j5 : Int32}   {Q : Int32 → Mu → Prop}  {μ : Mu} (hk : wp_Mod_perform_j124 j1 j3 j4 j5 μ  Q) : Go (mE l) mt_Mod_perform false (rmd 6) 0 0 124 [some (.ref 91), some (.int j1), none, some (.int j3), some (.int j4), some (.int j5), none] [] (lay μ) (PI Q) := by
  unfold wp_Mod_perform_j124 at hk
  refine go_iload_n (pc := 124) (i := 3) d_Mod_perform_124 rfl rfl ?_
  refine go_bipush (pc := 125) (v := 19) d_Mod_perform_125 (by decide) ?_
  refine go_icmp_lt (pc := 127) (tgt := 141) d_Mod_perform_127 rfl (fun h127 => ?_) (fun h127 => ?_)
  · replace hk := hk.1 h127
    refine go_aload_n (pc := 141) (i := 0) d_Mod_perform_141 rfl rfl ?_
    refine go_iload_n (pc := 142) (i := 1) d_Mod_perform_142 rfl rfl ?_
    refine go_iload_n (pc := 143) (i := 3) d_Mod_perform_143 rfl rfl ?_
    refine go_iload (pc := 144) d_Mod_perform_144 rfl ?_
    refine go_callV (pc := 146) (m_Mod_plain  hk) cz_Mod_plain cv_Mod_plain (Or.inl lk_Mod_214) (lay_at sh_model) rfl rfl rfl (Nat.le_of_ble_eq_true rfl) ⟨by decide, by decide⟩ rfl rfl d_Mod_perform_146 (fun r M' hr => ?_)
    obtain ⟨x11, μ10, rfl, rfl, hk⟩ := hr
    try dsimp only [Option.toList, List.cons_append, List.nil_append]
    refine go_weak (L' := [some (.ref 91), some (.int j1), none, none, some (.int j4), some (.int j5), none]) (lle_at (by simp [lle])) ?_
    exact g_Mod_perform_j149   hk
  · replace hk := hk.2 h127
    refine go_aload_n (pc := 130) (i := 0) d_Mod_perform_130 rfl rfl ?_
    refine go_iload_n (pc := 131) (i := 1) d_Mod_perform_131 rfl rfl ?_
    refine go_iload_n (pc := 132) (i := 3) d_Mod_perform_132 rfl rfl ?_
    refine go_iload (pc := 133) d_Mod_perform_133 rfl ?_
    refine go_callV (pc := 135) (m_Mod_traffic  hk) cz_Mod_traffic cv_Mod_traffic (Or.inl lk_Mod_211) (lay_at sh_model) rfl rfl rfl (Nat.le_of_ble_eq_true rfl) ⟨by decide, by decide⟩ rfl rfl d_Mod_perform_135 (fun r M' hr => ?_)
    obtain ⟨x19, μ18, rfl, rfl, hk⟩ := hr
    try dsimp only [Option.toList, List.cons_append, List.nil_append]
    refine go_goto (pc := 138) (tgt := 149) d_Mod_perform_138 rfl ?_
    refine go_weak (L' := [some (.ref 91), some (.int j1), none, none, some (.int j4), some (.int j5), none]) (lle_at (by simp [lle])) ?_
    exact g_Mod_perform_j149   hk
def wp_Mod_perform_j99 (j1 : Int32) (j3 : Int32) (j4 : Int32) (s0 : Int32) (μ : Mu)  (Q : Int32 → Mu → Prop) : Prop := (((j3 < (11 : Int32)) → wp_Mod_perform_j124 j1 j3 j4 s0 μ  Q) ∧ ((¬ j3 < (11 : Int32)) → ((((13 : Int32) < j3) → wp_Mod_perform_j124 j1 j3 j4 s0 μ  Q) ∧ ((¬ (13 : Int32) < j3) → wp_Mod_cellOp j1 j3 j4 μ (fun x21 μ20 => wp_Mod_perform_j149 j1 j4 s0 x21 μ20  Q)))))
set_option maxRecDepth 100000 in
set_option maxHeartbeats 4000000 in
theorem g_Mod_perform_j99 {l : Launch} {j1 : Int32} {j3 : Int32} {j4 : Int32} {s0 : Int32}   {Q : Int32 → Mu → Prop}  {μ : Mu} (hk : wp_Mod_perform_j99 j1 j3 j4 s0 μ  Q) : Go (mE l) mt_Mod_perform false (rmd 6) 0 0 99 [some (.ref 91), some (.int j1), none, some (.int j3), some (.int j4), none, none] [.int s0] (lay μ) (PI Q) := by
  unfold wp_Mod_perform_j99 at hk
  refine go_istore (pc := 99) (L' := [some (.ref 91), some (.int j1), none, some (.int j3), some (.int j4), some (.int s0), none]) d_Mod_perform_99 (by decide) rfl ?_
  refine go_iload_n (pc := 101) (i := 3) d_Mod_perform_101 rfl rfl ?_
  refine go_bipush (pc := 102) (v := 11) d_Mod_perform_102 (by decide) ?_
  refine go_icmp_lt (pc := 104) (tgt := 124) d_Mod_perform_104 rfl (fun h104 => ?_) (fun h104 => ?_)
  · replace hk := hk.1 h104
    exact g_Mod_perform_j124   hk
  · replace hk := hk.2 h104
    refine go_iload_n (pc := 107) (i := 3) d_Mod_perform_107 rfl rfl ?_
    refine go_bipush (pc := 108) (v := 13) d_Mod_perform_108 (by decide) ?_
    refine go_icmp_gt (pc := 110) (tgt := 124) d_Mod_perform_110 rfl (fun h110 => ?_) (fun h110 => ?_)
    · replace hk := hk.1 h110
      exact g_Mod_perform_j124   hk
    · replace hk := hk.2 h110
      refine go_aload_n (pc := 113) (i := 0) d_Mod_perform_113 rfl rfl ?_
      refine go_iload_n (pc := 114) (i := 1) d_Mod_perform_114 rfl rfl ?_
      refine go_iload_n (pc := 115) (i := 3) d_Mod_perform_115 rfl rfl ?_
      refine go_iload (pc := 116) d_Mod_perform_116 rfl ?_
      refine go_callV (pc := 118) (m_Mod_cellOp  hk) cz_Mod_cellOp cv_Mod_cellOp (Or.inl lk_Mod_208) (lay_at sh_model) rfl rfl rfl (Nat.le_of_ble_eq_true rfl) ⟨by decide, by decide⟩ rfl rfl d_Mod_perform_118 (fun r M' hr => ?_)
      obtain ⟨x21, μ20, rfl, rfl, hk⟩ := hr
      try dsimp only [Option.toList, List.cons_append, List.nil_append]
      refine go_goto (pc := 121) (tgt := 149) d_Mod_perform_121 rfl ?_
      refine go_weak (L' := [some (.ref 91), some (.int j1), none, none, some (.int j4), some (.int s0), none]) (lle_at (by simp [lle])) ?_
      exact g_Mod_perform_j149   hk
def wp_Mod_perform_j94 (j1 : Int32) (j3 : Int32) (j4 : Int32) (μ : Mu)  (Q : Int32 → Mu → Prop) : Prop := wp_Mod_perform_j99 j1 j3 j4 (1 : Int32) μ  Q
set_option maxRecDepth 100000 in
set_option maxHeartbeats 4000000 in
theorem g_Mod_perform_j94 {l : Launch} {j1 : Int32} {j3 : Int32} {j4 : Int32}   {Q : Int32 → Mu → Prop}  {μ : Mu} (hk : wp_Mod_perform_j94 j1 j3 j4 μ  Q) : Go (mE l) mt_Mod_perform false (rmd 6) 0 0 94 [some (.ref 91), some (.int j1), none, some (.int j3), some (.int j4), none, none] [] (lay μ) (PI Q) := by
  unfold wp_Mod_perform_j94 at hk
  refine go_iconst (pc := 94) (v := 1) d_Mod_perform_94 (by decide) ?_
  refine go_goto (pc := 95) (tgt := 99) d_Mod_perform_95 rfl ?_
  exact g_Mod_perform_j99   hk
def wp_Mod_perform_j98 (j1 : Int32) (j3 : Int32) (j4 : Int32) (μ : Mu)  (Q : Int32 → Mu → Prop) : Prop := wp_Mod_perform_j99 j1 j3 j4 (0 : Int32) μ  Q
set_option maxRecDepth 100000 in
set_option maxHeartbeats 4000000 in
theorem g_Mod_perform_j98 {l : Launch} {j1 : Int32} {j3 : Int32} {j4 : Int32}   {Q : Int32 → Mu → Prop}  {μ : Mu} (hk : wp_Mod_perform_j98 j1 j3 j4 μ  Q) : Go (mE l) mt_Mod_perform false (rmd 6) 0 0 98 [some (.ref 91), some (.int j1), none, some (.int j3), some (.int j4), none, none] [] (lay μ) (PI Q) := by
  unfold wp_Mod_perform_j98 at hk
  refine go_iconst (pc := 98) (v := 0) d_Mod_perform_98 (by decide) ?_
  exact g_Mod_perform_j99   hk
def wp_Mod_perform_j56 (j1 : Int32) (j3 : Int32) (j4 : Int32) (μ : Mu)  (Q : Int32 → Mu → Prop) : Prop := (vp_in j1 4 ∧ ∀ μ6 : Mu, μ6 = setA μ 106 (Int32.toNatClampNeg j1) (1 : Int32) → (vp_in j1 4 ∧ (vp_in j1 4 ∧ ∀ μ9 : Mu, μ9 = setA μ6 109 (Int32.toNatClampNeg j1) ((μ6.2.1 109 (Int32.toNatClampNeg j1)) + (1 : Int32)) → (((j3 = (17 : Int32)) → wp_Mod_perform_j94 j1 j3 j4 μ9  Q) ∧ ((¬ j3 = (17 : Int32)) → (((¬ j3 = (18 : Int32)) → wp_Mod_perform_j98 j1 j3 j4 μ9  Q) ∧ ((j3 = (18 : Int32)) → wp_Mod_value j1 (0 : Int32) μ9 (fun x23 μ22 => (((¬ x23 = 0) → wp_Mod_perform_j98 j1 j3 j4 μ22  Q) ∧ ((x23 = 0) → wp_Mod_perform_j94 j1 j3 j4 μ22  Q))))))))))
set_option maxRecDepth 100000 in
set_option maxHeartbeats 4000000 in
theorem g_Mod_perform_j56 {l : Launch} {j1 : Int32} {j3 : Int32} {j4 : Int32}   {Q : Int32 → Mu → Prop}  {μ : Mu} (hk : wp_Mod_perform_j56 j1 j3 j4 μ  Q) : Go (mE l) mt_Mod_perform false (rmd 6) 0 0 56 [some (.ref 91), some (.int j1), none, some (.int j3), some (.int j4), none, none] [] (lay μ) (PI Q) := by
  unfold wp_Mod_perform_j56 at hk
  refine go_aload_n (pc := 56) (i := 0) d_Mod_perform_56 rfl rfl ?_
  refine go_getR (pc := 57) (r := 106) sh_model rfl fl_Mod_53 d_Mod_perform_57 ?_
  refine go_iload_n (pc := 60) (i := 1) d_Mod_perform_60 rfl rfl ?_
  refine go_iconst (pc := 61) (v := 1) d_Mod_perform_61 (by decide) ?_
  obtain ⟨hi5, hk⟩ := hk
  refine go_astIn (pc := 62) sh_m_states hi5 d_Mod_perform_62 (fun μ6 e6 => ?_)
  replace hk := hk μ6 e6
  refine go_aload_n (pc := 63) (i := 0) d_Mod_perform_63 rfl rfl ?_
  refine go_getR (pc := 64) (r := 109) sh_model rfl fl_Mod_62 d_Mod_perform_64 ?_
  refine go_iload_n (pc := 67) (i := 1) d_Mod_perform_67 rfl rfl ?_
  refine go_dup2 (pc := 68) d_Mod_perform_68 rfl rfl ?_
  obtain ⟨hi7, hk⟩ := hk
  refine go_aldI (pc := 69) sh_m_stepsOf hi7 d_Mod_perform_69 ?_
  refine go_iconst (pc := 70) (v := 1) d_Mod_perform_70 (by decide) ?_
  refine go_iadd (pc := 71) d_Mod_perform_71 ?_
  obtain ⟨hi8, hk⟩ := hk
  refine go_astIn (pc := 72) sh_m_stepsOf hi8 d_Mod_perform_72 (fun μ9 e9 => ?_)
  replace hk := hk μ9 e9
  refine go_iload_n (pc := 73) (i := 3) d_Mod_perform_73 rfl rfl ?_
  refine go_bipush (pc := 74) (v := 17) d_Mod_perform_74 (by decide) ?_
  refine go_icmp_eq (pc := 76) (tgt := 94) d_Mod_perform_76 rfl (fun h76 => ?_) (fun h76 => ?_)
  · replace hk := hk.1 h76
    exact g_Mod_perform_j94   hk
  · replace hk := hk.2 h76
    refine go_iload_n (pc := 79) (i := 3) d_Mod_perform_79 rfl rfl ?_
    refine go_bipush (pc := 80) (v := 18) d_Mod_perform_80 (by decide) ?_
    refine go_icmp_ne (pc := 82) (tgt := 98) d_Mod_perform_82 rfl (fun h82 => ?_) (fun h82 => ?_)
    · replace hk := hk.1 h82
      exact g_Mod_perform_j98   hk
    · replace hk := hk.2 h82
      refine go_aload_n (pc := 85) (i := 0) d_Mod_perform_85 rfl rfl ?_
      refine go_iload_n (pc := 86) (i := 1) d_Mod_perform_86 rfl rfl ?_
      refine go_iconst (pc := 87) (v := 0) d_Mod_perform_87 (by decide) ?_
      refine go_callV (pc := 88) (m_Mod_value  hk) cz_Mod_value cv_Mod_value (Or.inl lk_Mod_167) (lay_at sh_model) rfl rfl rfl (Nat.le_of_ble_eq_true rfl) ⟨by decide, by decide⟩ rfl rfl d_Mod_perform_88 (fun r M' hr => ?_)
      obtain ⟨x23, μ22, rfl, rfl, hk⟩ := hr
      try dsimp only [Option.toList, List.cons_append, List.nil_append]
      refine go_if_ne (pc := 91) (tgt := 98) d_Mod_perform_91 rfl (fun h91 => ?_) (fun h91 => ?_)
      · replace hk := hk.1 h91
        exact g_Mod_perform_j98   hk
      · replace hk := hk.2 h91
        exact g_Mod_perform_j94   hk
def wp_Mod_perform (a1 : Int32) (μ : Mu) (Q : Int32 → Mu → Prop) : Prop := (vp_in a1 4 ∧ (vp_in a1 4 ∧ (vp_in (((24 : Int32) * (μ.2.1 107 (Int32.toNatClampNeg a1))) + (μ.2.1 108 (Int32.toNatClampNeg a1))) 96 ∧ (vp_in (((24 : Int32) * (μ.2.1 107 (Int32.toNatClampNeg a1))) + (μ.2.1 108 (Int32.toNatClampNeg a1))) 96 ∧ (((¬ (μ.2.1 92 (Int32.toNatClampNeg (((24 : Int32) * (μ.2.1 107 (Int32.toNatClampNeg a1))) + (μ.2.1 108 (Int32.toNatClampNeg a1))))) = (22 : Int32)) → wp_Mod_perform_j56 a1 (μ.2.1 92 (Int32.toNatClampNeg (((24 : Int32) * (μ.2.1 107 (Int32.toNatClampNeg a1))) + (μ.2.1 108 (Int32.toNatClampNeg a1))))) (μ.2.1 93 (Int32.toNatClampNeg (((24 : Int32) * (μ.2.1 107 (Int32.toNatClampNeg a1))) + (μ.2.1 108 (Int32.toNatClampNeg a1))))) μ  Q) ∧ (((μ.2.1 92 (Int32.toNatClampNeg (((24 : Int32) * (μ.2.1 107 (Int32.toNatClampNeg a1))) + (μ.2.1 108 (Int32.toNatClampNeg a1))))) = (22 : Int32)) → (vp_in a1 4 ∧ (((¬ (μ.2.1 116 (Int32.toNatClampNeg a1)) = 0) → wp_Mod_perform_j56 a1 (μ.2.1 92 (Int32.toNatClampNeg (((24 : Int32) * (μ.2.1 107 (Int32.toNatClampNeg a1))) + (μ.2.1 108 (Int32.toNatClampNeg a1))))) (μ.2.1 93 (Int32.toNatClampNeg (((24 : Int32) * (μ.2.1 107 (Int32.toNatClampNeg a1))) + (μ.2.1 108 (Int32.toNatClampNeg a1))))) μ  Q) ∧ (((μ.2.1 116 (Int32.toNatClampNeg a1)) = 0) → (vp_in a1 4 ∧ ∀ μ26 : Mu, μ26 = setA μ 106 (Int32.toNatClampNeg a1) (2 : Int32) → Q (0 : Int32) μ26))))))))))
set_option maxRecDepth 100000 in
set_option maxHeartbeats 4000000 in
theorem m_Mod_perform {l : Launch} {a1 : Int32}  {μ : Mu} {Q : Int32 → Mu → Prop} (hk : wp_Mod_perform a1 μ Q) : Mets (mE l) mt_Mod_perform false (rmd 6) [.ref 91, .int a1] (lay μ) (PI Q) := by
  unfold wp_Mod_perform at hk
  refine mets_of (L := [some (.ref 91), some (.int a1), none, none, none, none, none]) (by decide) (Nat.le_of_ble_eq_true rfl) rfl ?_
  refine go_bipush (pc := 0) (v := 24) d_Mod_perform_0 (by decide) ?_
  refine go_aload_n (pc := 2) (i := 0) d_Mod_perform_2 rfl rfl ?_
  refine go_getR (pc := 3) (r := 107) sh_model rfl fl_Mod_56 d_Mod_perform_3 ?_
  refine go_iload_n (pc := 6) (i := 1) d_Mod_perform_6 rfl rfl ?_
  obtain ⟨hi1, hk⟩ := hk
  refine go_aldI (pc := 7) sh_m_program hi1 d_Mod_perform_7 ?_
  refine go_imul (pc := 8) d_Mod_perform_8 ?_
  refine go_aload_n (pc := 9) (i := 0) d_Mod_perform_9 rfl rfl ?_
  refine go_getR (pc := 10) (r := 108) sh_model rfl fl_Mod_59 d_Mod_perform_10 ?_
  refine go_iload_n (pc := 13) (i := 1) d_Mod_perform_13 rfl rfl ?_
  obtain ⟨hi2, hk⟩ := hk
  refine go_aldI (pc := 14) sh_m_position hi2 d_Mod_perform_14 ?_
  refine go_iadd (pc := 15) d_Mod_perform_15 ?_
  refine go_istore_n (pc := 16) (i := 2) (L' := [some (.ref 91), some (.int a1), some (.int (((24 : Int32) * (μ.2.1 107 (Int32.toNatClampNeg a1))) + (μ.2.1 108 (Int32.toNatClampNeg a1)))), none, none, none, none]) d_Mod_perform_16 rfl (by decide) rfl ?_
  refine go_aload_n (pc := 17) (i := 0) d_Mod_perform_17 rfl rfl ?_
  refine go_getR (pc := 18) (r := 92) sh_model rfl fl_Mod_7 d_Mod_perform_18 ?_
  refine go_iload_n (pc := 21) (i := 2) d_Mod_perform_21 rfl rfl ?_
  obtain ⟨hi3, hk⟩ := hk
  refine go_aldI (pc := 22) sh_m_ops hi3 d_Mod_perform_22 ?_
  refine go_istore_n (pc := 23) (i := 3) (L' := [some (.ref 91), some (.int a1), some (.int (((24 : Int32) * (μ.2.1 107 (Int32.toNatClampNeg a1))) + (μ.2.1 108 (Int32.toNatClampNeg a1)))), some (.int (μ.2.1 92 (Int32.toNatClampNeg (((24 : Int32) * (μ.2.1 107 (Int32.toNatClampNeg a1))) + (μ.2.1 108 (Int32.toNatClampNeg a1)))))), none, none, none]) d_Mod_perform_23 rfl (by decide) rfl ?_
  refine go_aload_n (pc := 24) (i := 0) d_Mod_perform_24 rfl rfl ?_
  refine go_getR (pc := 25) (r := 93) sh_model rfl fl_Mod_13 d_Mod_perform_25 ?_
  refine go_iload_n (pc := 28) (i := 2) d_Mod_perform_28 rfl rfl ?_
  obtain ⟨hi4, hk⟩ := hk
  refine go_aldI (pc := 29) sh_m_argOf hi4 d_Mod_perform_29 ?_
  refine go_istore (pc := 30) (L' := [some (.ref 91), some (.int a1), some (.int (((24 : Int32) * (μ.2.1 107 (Int32.toNatClampNeg a1))) + (μ.2.1 108 (Int32.toNatClampNeg a1)))), some (.int (μ.2.1 92 (Int32.toNatClampNeg (((24 : Int32) * (μ.2.1 107 (Int32.toNatClampNeg a1))) + (μ.2.1 108 (Int32.toNatClampNeg a1)))))), some (.int (μ.2.1 93 (Int32.toNatClampNeg (((24 : Int32) * (μ.2.1 107 (Int32.toNatClampNeg a1))) + (μ.2.1 108 (Int32.toNatClampNeg a1)))))), none, none]) d_Mod_perform_30 (by decide) rfl ?_
  refine go_iload_n (pc := 32) (i := 3) d_Mod_perform_32 rfl rfl ?_
  refine go_bipush (pc := 33) (v := 22) d_Mod_perform_33 (by decide) ?_
  refine go_icmp_ne (pc := 35) (tgt := 56) d_Mod_perform_35 rfl (fun h35 => ?_) (fun h35 => ?_)
  · replace hk := hk.1 h35
    refine go_weak (L' := [some (.ref 91), some (.int a1), none, some (.int (μ.2.1 92 (Int32.toNatClampNeg (((24 : Int32) * (μ.2.1 107 (Int32.toNatClampNeg a1))) + (μ.2.1 108 (Int32.toNatClampNeg a1)))))), some (.int (μ.2.1 93 (Int32.toNatClampNeg (((24 : Int32) * (μ.2.1 107 (Int32.toNatClampNeg a1))) + (μ.2.1 108 (Int32.toNatClampNeg a1)))))), none, none]) (lle_at (by simp [lle])) ?_
    exact g_Mod_perform_j56   hk
  · replace hk := hk.2 h35
    refine go_aload_n (pc := 38) (i := 0) d_Mod_perform_38 rfl rfl ?_
    refine go_getR (pc := 39) (r := 116) sh_model rfl fl_Mod_83 d_Mod_perform_39 ?_
    refine go_iload_n (pc := 42) (i := 1) d_Mod_perform_42 rfl rfl ?_
    obtain ⟨hi24, hk⟩ := hk
    refine go_aldI (pc := 43) sh_m_mails hi24 d_Mod_perform_43 ?_
    refine go_if_ne (pc := 44) (tgt := 56) d_Mod_perform_44 rfl (fun h44 => ?_) (fun h44 => ?_)
    · replace hk := hk.1 h44
      refine go_weak (L' := [some (.ref 91), some (.int a1), none, some (.int (μ.2.1 92 (Int32.toNatClampNeg (((24 : Int32) * (μ.2.1 107 (Int32.toNatClampNeg a1))) + (μ.2.1 108 (Int32.toNatClampNeg a1)))))), some (.int (μ.2.1 93 (Int32.toNatClampNeg (((24 : Int32) * (μ.2.1 107 (Int32.toNatClampNeg a1))) + (μ.2.1 108 (Int32.toNatClampNeg a1)))))), none, none]) (lle_at (by simp [lle])) ?_
      exact g_Mod_perform_j56   hk
    · replace hk := hk.2 h44
      refine go_aload_n (pc := 47) (i := 0) d_Mod_perform_47 rfl rfl ?_
      refine go_getR (pc := 48) (r := 106) sh_model rfl fl_Mod_53 d_Mod_perform_48 ?_
      refine go_iload_n (pc := 51) (i := 1) d_Mod_perform_51 rfl rfl ?_
      refine go_iconst (pc := 52) (v := 2) d_Mod_perform_52 (by decide) ?_
      obtain ⟨hi25, hk⟩ := hk
      refine go_astIn (pc := 53) sh_m_states hi25 d_Mod_perform_53 (fun μ26 e26 => ?_)
      replace hk := hk μ26 e26
      refine go_iconst (pc := 54) (v := 0) d_Mod_perform_54 (by decide) ?_
      exact go_ret (pc := 55) (r := some (.int (0 : Int32))) ⟨nar_zv (by decide), d_Mod_perform_55⟩ ⟨_, _, rfl, rfl, hk⟩
def wp_Mod_run_36 (w1 : Int32) (w2 : Int32) (w3 : Int32) (K0 : Int32 → Int32 → Mu → Prop) (Q : Int32 → Mu → Prop) : Nat → Int32 → Int32 → Mu → Prop
  | 0, _, _, _ => False
  | n36 + 1, v4, v5, μ => ((((μ.1 91 0) ≤ v5) → K0 v4 v5 μ) ∧ ((¬ (μ.1 91 0) ≤ v5) → (((v4 = 0) → K0 v4 v5 μ) ∧ ((¬ v4 = 0) → wp_Mod_alive w3 μ (fun x2 μ1 => (((x2 = 0) → (((x2 = 0) → wp_Mod_run_36 w1 w2 w3 K0 Q n36 x2 (v5 + 1) μ1) ∧ ((¬ x2 = 0) → wp_Mod_perform w3 μ1 (fun x4 μ3 => wp_Mod_run_36 w1 w2 w3 K0 Q n36 x4 (v5 + 1) μ3)))) ∧ ((¬ x2 = 0) → (vp_in w3 4 ∧ (vp_in w3 4 ∧ (((¬ (μ1.2.1 109 (Int32.toNatClampNeg w3)) = (μ1.2.1 105 (Int32.toNatClampNeg w3))) → (((x2 = 0) → wp_Mod_run_36 w1 w2 w3 K0 Q n36 x2 (v5 + 1) μ1) ∧ ((¬ x2 = 0) → wp_Mod_perform w3 μ1 (fun x8 μ7 => wp_Mod_run_36 w1 w2 w3 K0 Q n36 x8 (v5 + 1) μ7)))) ∧ (((μ1.2.1 109 (Int32.toNatClampNeg w3)) = (μ1.2.1 105 (Int32.toNatClampNeg w3))) → wp_Mod_end w3 (5 : Int32) μ1 (fun μ9 => wp_Mod_run_36 w1 w2 w3 K0 Q n36 x2 (v5 + 1) μ9))))))))))))
set_option maxRecDepth 100000 in
set_option maxHeartbeats 4000000 in
theorem g_Mod_run_36 {l : Launch} {w1 : Int32} {w2 : Int32} {w3 : Int32}  {K0 : Int32 → Int32 → Mu → Prop} {Q : Int32 → Mu → Prop} (hK0 : ∀ (v4 : Int32) (v5 : Int32) (μ : Mu), K0 v4 v5 μ → Go (mE l) mt_Mod_run false (rmd 7) 0 0 104 [some (.ref 91), some (.int w1), some (.int w2), some (.int w3), some (.int v4), some (.int v5)] [] (lay μ) (PI Q)) : ∀ (n : Nat) (v4 : Int32) (v5 : Int32) (μ : Mu), wp_Mod_run_36 w1 w2 w3 K0 Q n v4 v5 μ → Go (mE l) mt_Mod_run false (rmd 7) 0 0 36 [some (.ref 91), some (.int w1), some (.int w2), some (.int w3), some (.int v4), some (.int v5)] [] (lay μ) (PI Q) := by
  intro n
  induction n with
  | zero => intro v4 v5 μ hk; exact hk.elim
  | succ n ih =>
    intro v4 v5 μ hk
    unfold wp_Mod_run_36 at hk
    refine go_iload (pc := 36) d_Mod_run_36 rfl ?_
    refine go_aload_n (pc := 38) (i := 0) d_Mod_run_38 rfl rfl ?_
    refine go_getI (pc := 39) sh_model rfl fl_Mod_101 d_Mod_run_39 ?_
    refine go_icmp_ge (pc := 42) (tgt := 104) d_Mod_run_42 rfl (fun h42 => ?_) (fun h42 => ?_)
    · replace hk := hk.1 h42
      exact hK0 _ _ _ hk
    · replace hk := hk.2 h42
      refine go_iload (pc := 45) d_Mod_run_45 rfl ?_
      refine go_if_eq (pc := 47) (tgt := 104) d_Mod_run_47 rfl (fun h47 => ?_) (fun h47 => ?_)
      · replace hk := hk.1 h47
        exact hK0 _ _ _ hk
      · replace hk := hk.2 h47
        refine go_aload_n (pc := 50) (i := 0) d_Mod_run_50 rfl rfl ?_
        refine go_iload_n (pc := 51) (i := 3) d_Mod_run_51 rfl rfl ?_
        refine go_callV (pc := 52) (m_Mod_alive  hk) cz_Mod_alive cv_Mod_alive (Or.inl lk_Mod_174) (lay_at sh_model) rfl rfl rfl (Nat.le_of_ble_eq_true rfl) ⟨by decide, by decide⟩ rfl rfl d_Mod_run_52 (fun r M' hr => ?_)
        obtain ⟨x2, μ1, rfl, rfl, hk⟩ := hr
        try dsimp only [Option.toList, List.cons_append, List.nil_append]
        refine go_istore (pc := 55) (L' := [some (.ref 91), some (.int w1), some (.int w2), some (.int w3), some (.int x2), some (.int v5)]) d_Mod_run_55 (by decide) rfl ?_
        refine go_iload (pc := 57) d_Mod_run_57 rfl ?_
        refine go_if_eq (pc := 59) (tgt := 86) d_Mod_run_59 rfl (fun h59 => ?_) (fun h59 => ?_)
        · replace hk := hk.1 h59
          refine go_iload (pc := 86) d_Mod_run_86 rfl ?_
          refine go_if_eq (pc := 88) (tgt := 98) d_Mod_run_88 rfl (fun h88 => ?_) (fun h88 => ?_)
          · replace hk := hk.1 h88
            refine go_iinc (pc := 98) (v := (v5 + 1)) (L' := [some (.ref 91), some (.int w1), some (.int w2), some (.int w3), some (.int x2), some (.int (v5 + 1))]) d_Mod_run_98 rfl rfl (by decide) rfl ?_
            refine go_goto (pc := 101) (tgt := 36) d_Mod_run_101 rfl ?_
            exact ih _ _ _ hk
          · replace hk := hk.2 h88
            refine go_aload_n (pc := 91) (i := 0) d_Mod_run_91 rfl rfl ?_
            refine go_iload_n (pc := 92) (i := 3) d_Mod_run_92 rfl rfl ?_
            refine go_callV (pc := 93) (m_Mod_perform  hk) cz_Mod_perform cv_Mod_perform (Or.inl lk_Mod_217) (lay_at sh_model) rfl rfl rfl (Nat.le_of_ble_eq_true rfl) ⟨by decide, by decide⟩ rfl rfl d_Mod_run_93 (fun r M' hr => ?_)
            obtain ⟨x4, μ3, rfl, rfl, hk⟩ := hr
            try dsimp only [Option.toList, List.cons_append, List.nil_append]
            refine go_istore (pc := 96) (L' := [some (.ref 91), some (.int w1), some (.int w2), some (.int w3), some (.int x4), some (.int v5)]) d_Mod_run_96 (by decide) rfl ?_
            refine go_iinc (pc := 98) (v := (v5 + 1)) (L' := [some (.ref 91), some (.int w1), some (.int w2), some (.int w3), some (.int x4), some (.int (v5 + 1))]) d_Mod_run_98 rfl rfl (by decide) rfl ?_
            refine go_goto (pc := 101) (tgt := 36) d_Mod_run_101 rfl ?_
            exact ih _ _ _ hk
        · replace hk := hk.2 h59
          refine go_aload_n (pc := 62) (i := 0) d_Mod_run_62 rfl rfl ?_
          refine go_getR (pc := 63) (r := 109) sh_model rfl fl_Mod_62 d_Mod_run_63 ?_
          refine go_iload_n (pc := 66) (i := 3) d_Mod_run_66 rfl rfl ?_
          obtain ⟨hi5, hk⟩ := hk
          refine go_aldI (pc := 67) sh_m_stepsOf hi5 d_Mod_run_67 ?_
          refine go_aload_n (pc := 68) (i := 0) d_Mod_run_68 rfl rfl ?_
          refine go_getR (pc := 69) (r := 105) sh_model rfl fl_Mod_50 d_Mod_run_69 ?_
          refine go_iload_n (pc := 72) (i := 3) d_Mod_run_72 rfl rfl ?_
          obtain ⟨hi6, hk⟩ := hk
          refine go_aldI (pc := 73) sh_m_most hi6 d_Mod_run_73 ?_
          refine go_icmp_ne (pc := 74) (tgt := 86) d_Mod_run_74 rfl (fun h74 => ?_) (fun h74 => ?_)
          · replace hk := hk.1 h74
            refine go_iload (pc := 86) d_Mod_run_86 rfl ?_
            refine go_if_eq (pc := 88) (tgt := 98) d_Mod_run_88 rfl (fun h88 => ?_) (fun h88 => ?_)
            · replace hk := hk.1 h88
              refine go_iinc (pc := 98) (v := (v5 + 1)) (L' := [some (.ref 91), some (.int w1), some (.int w2), some (.int w3), some (.int x2), some (.int (v5 + 1))]) d_Mod_run_98 rfl rfl (by decide) rfl ?_
              refine go_goto (pc := 101) (tgt := 36) d_Mod_run_101 rfl ?_
              exact ih _ _ _ hk
            · replace hk := hk.2 h88
              refine go_aload_n (pc := 91) (i := 0) d_Mod_run_91 rfl rfl ?_
              refine go_iload_n (pc := 92) (i := 3) d_Mod_run_92 rfl rfl ?_
              refine go_callV (pc := 93) (m_Mod_perform  hk) cz_Mod_perform cv_Mod_perform (Or.inl lk_Mod_217) (lay_at sh_model) rfl rfl rfl (Nat.le_of_ble_eq_true rfl) ⟨by decide, by decide⟩ rfl rfl d_Mod_run_93 (fun r M' hr => ?_)
              obtain ⟨x8, μ7, rfl, rfl, hk⟩ := hr
              try dsimp only [Option.toList, List.cons_append, List.nil_append]
              refine go_istore (pc := 96) (L' := [some (.ref 91), some (.int w1), some (.int w2), some (.int w3), some (.int x8), some (.int v5)]) d_Mod_run_96 (by decide) rfl ?_
              refine go_iinc (pc := 98) (v := (v5 + 1)) (L' := [some (.ref 91), some (.int w1), some (.int w2), some (.int w3), some (.int x8), some (.int (v5 + 1))]) d_Mod_run_98 rfl rfl (by decide) rfl ?_
              refine go_goto (pc := 101) (tgt := 36) d_Mod_run_101 rfl ?_
              exact ih _ _ _ hk
          · replace hk := hk.2 h74
            refine go_aload_n (pc := 77) (i := 0) d_Mod_run_77 rfl rfl ?_
            refine go_iload_n (pc := 78) (i := 3) d_Mod_run_78 rfl rfl ?_
            refine go_iconst (pc := 79) (v := 5) d_Mod_run_79 (by decide) ?_
            refine go_callV (pc := 80) (m_Mod_end  hk) cz_Mod_end cv_Mod_end (Or.inl lk_Mod_186) (lay_at sh_model) rfl rfl rfl (Nat.le_of_ble_eq_true rfl) ⟨by decide, by decide⟩ rfl rfl d_Mod_run_80 (fun r M' hr => ?_)
            obtain ⟨μ9, rfl, rfl, hk⟩ := hr
            try dsimp only [Option.toList, List.cons_append, List.nil_append]
            refine go_goto (pc := 83) (tgt := 98) d_Mod_run_83 rfl ?_
            refine go_iinc (pc := 98) (v := (v5 + 1)) (L' := [some (.ref 91), some (.int w1), some (.int w2), some (.int w3), some (.int x2), some (.int (v5 + 1))]) d_Mod_run_98 rfl rfl (by decide) rfl ?_
            refine go_goto (pc := 101) (tgt := 36) d_Mod_run_101 rfl ?_
            exact ih _ _ _ hk
def wp_Mod_run_18 (w1 : Int32) (K0 : Int32 → Mu → Prop) (Q : Int32 → Mu → Prop) : Nat → Int32 → Mu → Prop
  | 0, _, _ => False
  | n18 + 1, v2, μ => (((w1 ≤ v2) → K0 v2 μ) ∧ ((¬ w1 ≤ v2) → (∃ n36, wp_Mod_run_36 w1 v2 ((μ.1 91 32) - (μ.1 91 32) / (4 : Int32) * (4 : Int32)) (fun v10 v11 μ12 => ∀ μ13 : Mu, μ13 = setF μ12 91 32 ((μ12.1 91 32) + (1 : Int32)) → wp_Mod_run_18 w1 K0 Q n18 (v2 + 1) μ13) Q n36 (1 : Int32) (0 : Int32) μ)))
set_option maxRecDepth 100000 in
set_option maxHeartbeats 4000000 in
theorem g_Mod_run_18 {l : Launch} {w1 : Int32}  {K0 : Int32 → Mu → Prop} {Q : Int32 → Mu → Prop} (hK0 : ∀ (v2 : Int32) (μ : Mu), K0 v2 μ → Go (mE l) mt_Mod_run false (rmd 7) 0 0 120 [some (.ref 91), some (.int w1), some (.int v2), none, none, none] [] (lay μ) (PI Q)) : ∀ (n : Nat) (v2 : Int32) (μ : Mu), wp_Mod_run_18 w1 K0 Q n v2 μ → Go (mE l) mt_Mod_run false (rmd 7) 0 0 18 [some (.ref 91), some (.int w1), some (.int v2), none, none, none] [] (lay μ) (PI Q) := by
  intro n
  induction n with
  | zero => intro v2 μ hk; exact hk.elim
  | succ n ih =>
    intro v2 μ hk
    unfold wp_Mod_run_18 at hk
    refine go_iload_n (pc := 18) (i := 2) d_Mod_run_18 rfl rfl ?_
    refine go_iload_n (pc := 19) (i := 1) d_Mod_run_19 rfl rfl ?_
    refine go_icmp_ge (pc := 20) (tgt := 120) d_Mod_run_20 rfl (fun h20 => ?_) (fun h20 => ?_)
    · replace hk := hk.1 h20
      exact hK0 _ _ hk
    · replace hk := hk.2 h20
      refine go_aload_n (pc := 23) (i := 0) d_Mod_run_23 rfl rfl ?_
      refine go_getI (pc := 24) sh_model rfl fl_Mod_161 d_Mod_run_24 ?_
      refine go_iconst (pc := 27) (v := 4) d_Mod_run_27 (by decide) ?_
      refine go_irem (pc := 28) d_Mod_run_28 (by decide) ?_
      refine go_istore_n (pc := 29) (i := 3) (L' := [some (.ref 91), some (.int w1), some (.int v2), some (.int ((μ.1 91 32) - (μ.1 91 32) / (4 : Int32) * (4 : Int32))), none, none]) d_Mod_run_29 rfl (by decide) rfl ?_
      refine go_iconst (pc := 30) (v := 1) d_Mod_run_30 (by decide) ?_
      refine go_istore (pc := 31) (L' := [some (.ref 91), some (.int w1), some (.int v2), some (.int ((μ.1 91 32) - (μ.1 91 32) / (4 : Int32) * (4 : Int32))), some (.int (1 : Int32)), none]) d_Mod_run_31 (by decide) rfl ?_
      refine go_iconst (pc := 33) (v := 0) d_Mod_run_33 (by decide) ?_
      refine go_istore (pc := 34) (L' := [some (.ref 91), some (.int w1), some (.int v2), some (.int ((μ.1 91 32) - (μ.1 91 32) / (4 : Int32) * (4 : Int32))), some (.int (1 : Int32)), some (.int (0 : Int32))]) d_Mod_run_34 (by decide) rfl ?_
      obtain ⟨n, hk⟩ := hk
      refine g_Mod_run_36  (fun v10 v11 μ12 hk => ?_) n _ _ _ hk
      · try dsimp only at hk
        refine go_aload_n (pc := 104) (i := 0) d_Mod_run_104 rfl rfl ?_
        refine go_dup (pc := 105) d_Mod_run_105 rfl ?_
        refine go_getI (pc := 106) sh_model rfl fl_Mod_161 d_Mod_run_106 ?_
        refine go_iconst (pc := 109) (v := 1) d_Mod_run_109 (by decide) ?_
        refine go_iadd (pc := 110) d_Mod_run_110 ?_
        refine go_putIn (pc := 111) sh_model rfl (fp_Mod_161 rfl) d_Mod_run_111 (fun μ13 e13 => ?_)
        replace hk := hk μ13 e13
        refine go_iinc (pc := 114) (v := (v2 + 1)) (L' := [some (.ref 91), some (.int w1), some (.int (v2 + 1)), some (.int ((μ.1 91 32) - (μ.1 91 32) / (4 : Int32) * (4 : Int32))), some (.int v10), some (.int v11)]) d_Mod_run_114 rfl rfl (by decide) rfl ?_
        refine go_goto (pc := 117) (tgt := 18) d_Mod_run_117 rfl ?_
        refine go_weak (L' := [some (.ref 91), some (.int w1), some (.int (v2 + 1)), none, none, none]) (lle_at (by simp [lle])) ?_
        exact ih _ _ hk
def wp_Mod_run (a1 : Int32) (μ : Mu) (Q : Int32 → Mu → Prop) : Prop := (((a1 < 0) → Q (μ.1 91 32) μ) ∧ ((¬ a1 < 0) → (((a1 ≤ (200 : Int32)) → (∃ n18, wp_Mod_run_18 a1 (fun v14 μ15 => Q (μ15.1 91 32) μ15) Q n18 (0 : Int32) μ)) ∧ ((¬ a1 ≤ (200 : Int32)) → Q (μ.1 91 32) μ))))
set_option maxRecDepth 100000 in
set_option maxHeartbeats 4000000 in
theorem m_Mod_run {l : Launch} {a1 : Int32}  {μ : Mu} {Q : Int32 → Mu → Prop} (hk : wp_Mod_run a1 μ Q) : Mets (mE l) mt_Mod_run false (rmd 7) [.ref 91, .int a1] (lay μ) (PI Q) := by
  unfold wp_Mod_run at hk
  refine mets_of (L := [some (.ref 91), some (.int a1), none, none, none, none]) (by decide) (Nat.le_of_ble_eq_true rfl) rfl ?_
  refine go_iload_n (pc := 0) (i := 1) d_Mod_run_0 rfl rfl ?_
  refine go_if_lt (pc := 1) (tgt := 11) d_Mod_run_1 rfl (fun h1 => ?_) (fun h1 => ?_)
  · replace hk := hk.1 h1
    refine go_aload_n (pc := 11) (i := 0) d_Mod_run_11 rfl rfl ?_
    refine go_getI (pc := 12) sh_model rfl fl_Mod_161 d_Mod_run_12 ?_
    exact go_ret (pc := 15) (r := some (.int (μ.1 91 32))) d_Mod_run_15 ⟨_, _, rfl, rfl, hk⟩
  · replace hk := hk.2 h1
    refine go_iload_n (pc := 4) (i := 1) d_Mod_run_4 rfl rfl ?_
    refine go_sipush (pc := 5) (v := 200) d_Mod_run_5 (by decide) ?_
    refine go_icmp_le (pc := 8) (tgt := 16) d_Mod_run_8 rfl (fun h8 => ?_) (fun h8 => ?_)
    · replace hk := hk.1 h8
      refine go_iconst (pc := 16) (v := 0) d_Mod_run_16 (by decide) ?_
      refine go_istore_n (pc := 17) (i := 2) (L' := [some (.ref 91), some (.int a1), some (.int (0 : Int32)), none, none, none]) d_Mod_run_17 rfl (by decide) rfl ?_
      obtain ⟨n, hk⟩ := hk
      refine g_Mod_run_18  (fun v14 μ15 hk => ?_) n _ _ hk
      · try dsimp only at hk
        refine go_aload_n (pc := 120) (i := 0) d_Mod_run_120 rfl rfl ?_
        refine go_getI (pc := 121) sh_model rfl fl_Mod_161 d_Mod_run_121 ?_
        exact go_ret (pc := 124) (r := some (.int (μ15.1 91 32))) d_Mod_run_124 ⟨_, _, rfl, rfl, hk⟩
    · replace hk := hk.2 h8
      refine go_aload_n (pc := 11) (i := 0) d_Mod_run_11 rfl rfl ?_
      refine go_getI (pc := 12) sh_model rfl fl_Mod_161 d_Mod_run_12 ?_
      exact go_ret (pc := 15) (r := some (.int (μ.1 91 32))) d_Mod_run_15 ⟨_, _, rfl, rfl, hk⟩
def wp_Mod_state (a1 : Int32) (μ : Mu) (Q : Int32 → Mu → Prop) : Prop := wp_Mod_four a1 μ (fun x2 μ1 => (((x2 = 0) → Q (-1 : Int32) μ1) ∧ ((¬ x2 = 0) → (vp_in a1 4 ∧ Q (μ1.2.1 106 (Int32.toNatClampNeg a1)) μ1))))
set_option maxRecDepth 100000 in
set_option maxHeartbeats 4000000 in
theorem m_Mod_state {l : Launch} {a1 : Int32}  {μ : Mu} {Q : Int32 → Mu → Prop} (hk : wp_Mod_state a1 μ Q) : Mets (mE l) mt_Mod_state false (rmd 1) [.ref 91, .int a1] (lay μ) (PI Q) := by
  unfold wp_Mod_state at hk
  refine mets_of (L := [some (.ref 91), some (.int a1)]) (by decide) (Nat.le_of_ble_eq_true rfl) rfl ?_
  refine go_iload_n (pc := 0) (i := 1) d_Mod_state_0 rfl rfl ?_
  refine go_callS (pc := 1) (m_Mod_four  hk) cz_Mod_four sm_Mod_four (Or.inl lk_Mod_105) rfl rfl (Nat.le_of_ble_eq_true rfl) ⟨by decide, by decide⟩ rfl rfl d_Mod_state_1 (fun r M' hr => ?_)
  obtain ⟨x2, μ1, rfl, rfl, hk⟩ := hr
  try dsimp only [Option.toList, List.cons_append, List.nil_append]
  refine go_if_eq (pc := 4) (tgt := 16) d_Mod_state_4 rfl (fun h4 => ?_) (fun h4 => ?_)
  · replace hk := hk.1 h4
    refine go_iconst (pc := 16) (v := (-1)) d_Mod_state_16 (by decide) ?_
    exact go_ret (pc := 17) (r := some (.int (-1 : Int32))) d_Mod_state_17 ⟨_, _, rfl, rfl, hk⟩
  · replace hk := hk.2 h4
    refine go_aload_n (pc := 7) (i := 0) d_Mod_state_7 rfl rfl ?_
    refine go_getR (pc := 8) (r := 106) sh_model rfl fl_Mod_53 d_Mod_state_8 ?_
    refine go_iload_n (pc := 11) (i := 1) d_Mod_state_11 rfl rfl ?_
    obtain ⟨hi3, hk⟩ := hk
    refine go_aldI (pc := 12) sh_m_states hi3 d_Mod_state_12 ?_
    refine go_goto (pc := 13) (tgt := 17) d_Mod_state_13 rfl ?_
    exact go_ret (pc := 17) (r := some (.int (μ1.2.1 106 (Int32.toNatClampNeg a1)))) d_Mod_state_17 ⟨_, _, rfl, rfl, hk⟩
def wp_Mod_steps (a1 : Int32) (μ : Mu) (Q : Int32 → Mu → Prop) : Prop := wp_Mod_four a1 μ (fun x2 μ1 => (((x2 = 0) → Q (-1 : Int32) μ1) ∧ ((¬ x2 = 0) → (vp_in a1 4 ∧ Q (μ1.2.1 109 (Int32.toNatClampNeg a1)) μ1))))
set_option maxRecDepth 100000 in
set_option maxHeartbeats 4000000 in
theorem m_Mod_steps {l : Launch} {a1 : Int32}  {μ : Mu} {Q : Int32 → Mu → Prop} (hk : wp_Mod_steps a1 μ Q) : Mets (mE l) mt_Mod_steps false (rmd 1) [.ref 91, .int a1] (lay μ) (PI Q) := by
  unfold wp_Mod_steps at hk
  refine mets_of (L := [some (.ref 91), some (.int a1)]) (by decide) (Nat.le_of_ble_eq_true rfl) rfl ?_
  refine go_iload_n (pc := 0) (i := 1) d_Mod_steps_0 rfl rfl ?_
  refine go_callS (pc := 1) (m_Mod_four  hk) cz_Mod_four sm_Mod_four (Or.inl lk_Mod_105) rfl rfl (Nat.le_of_ble_eq_true rfl) ⟨by decide, by decide⟩ rfl rfl d_Mod_steps_1 (fun r M' hr => ?_)
  obtain ⟨x2, μ1, rfl, rfl, hk⟩ := hr
  try dsimp only [Option.toList, List.cons_append, List.nil_append]
  refine go_if_eq (pc := 4) (tgt := 16) d_Mod_steps_4 rfl (fun h4 => ?_) (fun h4 => ?_)
  · replace hk := hk.1 h4
    refine go_iconst (pc := 16) (v := (-1)) d_Mod_steps_16 (by decide) ?_
    exact go_ret (pc := 17) (r := some (.int (-1 : Int32))) d_Mod_steps_17 ⟨_, _, rfl, rfl, hk⟩
  · replace hk := hk.2 h4
    refine go_aload_n (pc := 7) (i := 0) d_Mod_steps_7 rfl rfl ?_
    refine go_getR (pc := 8) (r := 109) sh_model rfl fl_Mod_62 d_Mod_steps_8 ?_
    refine go_iload_n (pc := 11) (i := 1) d_Mod_steps_11 rfl rfl ?_
    obtain ⟨hi3, hk⟩ := hk
    refine go_aldI (pc := 12) sh_m_stepsOf hi3 d_Mod_steps_12 ?_
    refine go_goto (pc := 13) (tgt := 17) d_Mod_steps_13 rfl ?_
    exact go_ret (pc := 17) (r := some (.int (μ1.2.1 109 (Int32.toNatClampNeg a1)))) d_Mod_steps_17 ⟨_, _, rfl, rfl, hk⟩
def wp_Mod_used (a1 : Int32) (μ : Mu) (Q : Int32 → Mu → Prop) : Prop := wp_Mod_four a1 μ (fun x2 μ1 => (((x2 = 0) → Q (-1 : Int32) μ1) ∧ ((¬ x2 = 0) → wp_Mod_counted a1 (0 : Int32) μ1 (fun x4 μ3 => Q x4 μ3))))
set_option maxRecDepth 100000 in
set_option maxHeartbeats 4000000 in
theorem m_Mod_used {l : Launch} {a1 : Int32}  {μ : Mu} {Q : Int32 → Mu → Prop} (hk : wp_Mod_used a1 μ Q) : Mets (mE l) mt_Mod_used false (rmd 1) [.ref 91, .int a1] (lay μ) (PI Q) := by
  unfold wp_Mod_used at hk
  refine mets_of (L := [some (.ref 91), some (.int a1)]) (by decide) (Nat.le_of_ble_eq_true rfl) rfl ?_
  refine go_iload_n (pc := 0) (i := 1) d_Mod_used_0 rfl rfl ?_
  refine go_callS (pc := 1) (m_Mod_four  hk) cz_Mod_four sm_Mod_four (Or.inl lk_Mod_105) rfl rfl (Nat.le_of_ble_eq_true rfl) ⟨by decide, by decide⟩ rfl rfl d_Mod_used_1 (fun r M' hr => ?_)
  obtain ⟨x2, μ1, rfl, rfl, hk⟩ := hr
  try dsimp only [Option.toList, List.cons_append, List.nil_append]
  refine go_if_eq (pc := 4) (tgt := 16) d_Mod_used_4 rfl (fun h4 => ?_) (fun h4 => ?_)
  · replace hk := hk.1 h4
    refine go_iconst (pc := 16) (v := (-1)) d_Mod_used_16 (by decide) ?_
    exact go_ret (pc := 17) (r := some (.int (-1 : Int32))) d_Mod_used_17 ⟨_, _, rfl, rfl, hk⟩
  · replace hk := hk.2 h4
    refine go_aload_n (pc := 7) (i := 0) d_Mod_used_7 rfl rfl ?_
    refine go_iload_n (pc := 8) (i := 1) d_Mod_used_8 rfl rfl ?_
    refine go_iconst (pc := 9) (v := 0) d_Mod_used_9 (by decide) ?_
    refine go_callV (pc := 10) (m_Mod_counted  hk) cz_Mod_counted cv_Mod_counted (Or.inl lk_Mod_147) (lay_at sh_model) rfl rfl rfl (Nat.le_of_ble_eq_true rfl) ⟨by decide, by decide⟩ rfl rfl d_Mod_used_10 (fun r M' hr => ?_)
    obtain ⟨x4, μ3, rfl, rfl, hk⟩ := hr
    try dsimp only [Option.toList, List.cons_append, List.nil_append]
    refine go_goto (pc := 13) (tgt := 17) d_Mod_used_13 rfl ?_
    exact go_ret (pc := 17) (r := some (.int x4)) d_Mod_used_17 ⟨_, _, rfl, rfl, hk⟩
def wp_Mod_live (a1 : Int32) (μ : Mu) (Q : Int32 → Mu → Prop) : Prop := wp_Mod_four a1 μ (fun x2 μ1 => (((¬ x2 = 0) → wp_Mod_markLive a1 μ1 (fun μ3 => wp_Mod_counted a1 (1 : Int32) μ3 (fun x5 μ4 => Q x5 μ4))) ∧ ((x2 = 0) → Q (-1 : Int32) μ1)))
set_option maxRecDepth 100000 in
set_option maxHeartbeats 4000000 in
theorem m_Mod_live {l : Launch} {a1 : Int32}  {μ : Mu} {Q : Int32 → Mu → Prop} (hk : wp_Mod_live a1 μ Q) : Mets (mE l) mt_Mod_live false (rmd 3) [.ref 91, .int a1] (lay μ) (PI Q) := by
  unfold wp_Mod_live at hk
  refine mets_of (L := [some (.ref 91), some (.int a1)]) (by decide) (Nat.le_of_ble_eq_true rfl) rfl ?_
  refine go_iload_n (pc := 0) (i := 1) d_Mod_live_0 rfl rfl ?_
  refine go_callS (pc := 1) (m_Mod_four  hk) cz_Mod_four sm_Mod_four (Or.inl lk_Mod_105) rfl rfl (Nat.le_of_ble_eq_true rfl) ⟨by decide, by decide⟩ rfl rfl d_Mod_live_1 (fun r M' hr => ?_)
  obtain ⟨x2, μ1, rfl, rfl, hk⟩ := hr
  try dsimp only [Option.toList, List.cons_append, List.nil_append]
  refine go_if_ne (pc := 4) (tgt := 9) d_Mod_live_4 rfl (fun h4 => ?_) (fun h4 => ?_)
  · replace hk := hk.1 h4
    refine go_aload_n (pc := 9) (i := 0) d_Mod_live_9 rfl rfl ?_
    refine go_iload_n (pc := 10) (i := 1) d_Mod_live_10 rfl rfl ?_
    refine go_callV (pc := 11) (m_Mod_markLive  hk) cz_Mod_markLive cv_Mod_markLive (Or.inl lk_Mod_151) (lay_at sh_model) rfl rfl rfl (Nat.le_of_ble_eq_true rfl) ⟨by decide, by decide⟩ rfl rfl d_Mod_live_11 (fun r M' hr => ?_)
    obtain ⟨μ3, rfl, rfl, hk⟩ := hr
    try dsimp only [Option.toList, List.cons_append, List.nil_append]
    refine go_aload_n (pc := 14) (i := 0) d_Mod_live_14 rfl rfl ?_
    refine go_iload_n (pc := 15) (i := 1) d_Mod_live_15 rfl rfl ?_
    refine go_iconst (pc := 16) (v := 1) d_Mod_live_16 (by decide) ?_
    refine go_callV (pc := 17) (m_Mod_counted  hk) cz_Mod_counted cv_Mod_counted (Or.inl lk_Mod_147) (lay_at sh_model) rfl rfl rfl (Nat.le_of_ble_eq_true rfl) ⟨by decide, by decide⟩ rfl rfl d_Mod_live_17 (fun r M' hr => ?_)
    obtain ⟨x5, μ4, rfl, rfl, hk⟩ := hr
    try dsimp only [Option.toList, List.cons_append, List.nil_append]
    exact go_ret (pc := 20) (r := some (.int x5)) d_Mod_live_20 ⟨_, _, rfl, rfl, hk⟩
  · replace hk := hk.2 h4
    refine go_iconst (pc := 7) (v := (-1)) d_Mod_live_7 (by decide) ?_
    exact go_ret (pc := 8) (r := some (.int (-1 : Int32))) d_Mod_live_8 ⟨_, _, rfl, rfl, hk⟩
def wp_Mod_collections (a1 : Int32) (μ : Mu) (Q : Int32 → Mu → Prop) : Prop := wp_Mod_four a1 μ (fun x2 μ1 => (((x2 = 0) → Q (-1 : Int32) μ1) ∧ ((¬ x2 = 0) → (vp_in a1 4 ∧ Q (μ1.2.1 110 (Int32.toNatClampNeg a1)) μ1))))
set_option maxRecDepth 100000 in
set_option maxHeartbeats 4000000 in
theorem m_Mod_collections {l : Launch} {a1 : Int32}  {μ : Mu} {Q : Int32 → Mu → Prop} (hk : wp_Mod_collections a1 μ Q) : Mets (mE l) mt_Mod_collections false (rmd 1) [.ref 91, .int a1] (lay μ) (PI Q) := by
  unfold wp_Mod_collections at hk
  refine mets_of (L := [some (.ref 91), some (.int a1)]) (by decide) (Nat.le_of_ble_eq_true rfl) rfl ?_
  refine go_iload_n (pc := 0) (i := 1) d_Mod_collections_0 rfl rfl ?_
  refine go_callS (pc := 1) (m_Mod_four  hk) cz_Mod_four sm_Mod_four (Or.inl lk_Mod_105) rfl rfl (Nat.le_of_ble_eq_true rfl) ⟨by decide, by decide⟩ rfl rfl d_Mod_collections_1 (fun r M' hr => ?_)
  obtain ⟨x2, μ1, rfl, rfl, hk⟩ := hr
  try dsimp only [Option.toList, List.cons_append, List.nil_append]
  refine go_if_eq (pc := 4) (tgt := 16) d_Mod_collections_4 rfl (fun h4 => ?_) (fun h4 => ?_)
  · replace hk := hk.1 h4
    refine go_iconst (pc := 16) (v := (-1)) d_Mod_collections_16 (by decide) ?_
    exact go_ret (pc := 17) (r := some (.int (-1 : Int32))) d_Mod_collections_17 ⟨_, _, rfl, rfl, hk⟩
  · replace hk := hk.2 h4
    refine go_aload_n (pc := 7) (i := 0) d_Mod_collections_7 rfl rfl ?_
    refine go_getR (pc := 8) (r := 110) sh_model rfl fl_Mod_65 d_Mod_collections_8 ?_
    refine go_iload_n (pc := 11) (i := 1) d_Mod_collections_11 rfl rfl ?_
    obtain ⟨hi3, hk⟩ := hk
    refine go_aldI (pc := 12) sh_m_collects hi3 d_Mod_collections_12 ?_
    refine go_goto (pc := 13) (tgt := 17) d_Mod_collections_13 rfl ?_
    exact go_ret (pc := 17) (r := some (.int (μ1.2.1 110 (Int32.toNatClampNeg a1)))) d_Mod_collections_17 ⟨_, _, rfl, rfl, hk⟩
def wp_Mod_ended (a1 : Int32) (μ : Mu) (Q : Int32 → Mu → Prop) : Prop := wp_Mod_four a1 μ (fun x2 μ1 => (((x2 = 0) → Q (-1 : Int32) μ1) ∧ ((¬ x2 = 0) → (vp_in a1 4 ∧ Q (μ1.2.1 111 (Int32.toNatClampNeg a1)) μ1))))
set_option maxRecDepth 100000 in
set_option maxHeartbeats 4000000 in
theorem m_Mod_ended {l : Launch} {a1 : Int32}  {μ : Mu} {Q : Int32 → Mu → Prop} (hk : wp_Mod_ended a1 μ Q) : Mets (mE l) mt_Mod_ended false (rmd 1) [.ref 91, .int a1] (lay μ) (PI Q) := by
  unfold wp_Mod_ended at hk
  refine mets_of (L := [some (.ref 91), some (.int a1)]) (by decide) (Nat.le_of_ble_eq_true rfl) rfl ?_
  refine go_iload_n (pc := 0) (i := 1) d_Mod_ended_0 rfl rfl ?_
  refine go_callS (pc := 1) (m_Mod_four  hk) cz_Mod_four sm_Mod_four (Or.inl lk_Mod_105) rfl rfl (Nat.le_of_ble_eq_true rfl) ⟨by decide, by decide⟩ rfl rfl d_Mod_ended_1 (fun r M' hr => ?_)
  obtain ⟨x2, μ1, rfl, rfl, hk⟩ := hr
  try dsimp only [Option.toList, List.cons_append, List.nil_append]
  refine go_if_eq (pc := 4) (tgt := 16) d_Mod_ended_4 rfl (fun h4 => ?_) (fun h4 => ?_)
  · replace hk := hk.1 h4
    refine go_iconst (pc := 16) (v := (-1)) d_Mod_ended_16 (by decide) ?_
    exact go_ret (pc := 17) (r := some (.int (-1 : Int32))) d_Mod_ended_17 ⟨_, _, rfl, rfl, hk⟩
  · replace hk := hk.2 h4
    refine go_aload_n (pc := 7) (i := 0) d_Mod_ended_7 rfl rfl ?_
    refine go_getR (pc := 8) (r := 111) sh_model rfl fl_Mod_68 d_Mod_ended_8 ?_
    refine go_iload_n (pc := 11) (i := 1) d_Mod_ended_11 rfl rfl ?_
    obtain ⟨hi3, hk⟩ := hk
    refine go_aldI (pc := 12) sh_m_endOf hi3 d_Mod_ended_12 ?_
    refine go_goto (pc := 13) (tgt := 17) d_Mod_ended_13 rfl ?_
    exact go_ret (pc := 17) (r := some (.int (μ1.2.1 111 (Int32.toNatClampNeg a1)))) d_Mod_ended_17 ⟨_, _, rfl, rfl, hk⟩
def wp_Mod_messages (a1 : Int32) (μ : Mu) (Q : Int32 → Mu → Prop) : Prop := wp_Mod_four a1 μ (fun x2 μ1 => (((x2 = 0) → Q (-1 : Int32) μ1) ∧ ((¬ x2 = 0) → (vp_in a1 4 ∧ Q (μ1.2.1 116 (Int32.toNatClampNeg a1)) μ1))))
set_option maxRecDepth 100000 in
set_option maxHeartbeats 4000000 in
theorem m_Mod_messages {l : Launch} {a1 : Int32}  {μ : Mu} {Q : Int32 → Mu → Prop} (hk : wp_Mod_messages a1 μ Q) : Mets (mE l) mt_Mod_messages false (rmd 1) [.ref 91, .int a1] (lay μ) (PI Q) := by
  unfold wp_Mod_messages at hk
  refine mets_of (L := [some (.ref 91), some (.int a1)]) (by decide) (Nat.le_of_ble_eq_true rfl) rfl ?_
  refine go_iload_n (pc := 0) (i := 1) d_Mod_messages_0 rfl rfl ?_
  refine go_callS (pc := 1) (m_Mod_four  hk) cz_Mod_four sm_Mod_four (Or.inl lk_Mod_105) rfl rfl (Nat.le_of_ble_eq_true rfl) ⟨by decide, by decide⟩ rfl rfl d_Mod_messages_1 (fun r M' hr => ?_)
  obtain ⟨x2, μ1, rfl, rfl, hk⟩ := hr
  try dsimp only [Option.toList, List.cons_append, List.nil_append]
  refine go_if_eq (pc := 4) (tgt := 16) d_Mod_messages_4 rfl (fun h4 => ?_) (fun h4 => ?_)
  · replace hk := hk.1 h4
    refine go_iconst (pc := 16) (v := (-1)) d_Mod_messages_16 (by decide) ?_
    exact go_ret (pc := 17) (r := some (.int (-1 : Int32))) d_Mod_messages_17 ⟨_, _, rfl, rfl, hk⟩
  · replace hk := hk.2 h4
    refine go_aload_n (pc := 7) (i := 0) d_Mod_messages_7 rfl rfl ?_
    refine go_getR (pc := 8) (r := 116) sh_model rfl fl_Mod_83 d_Mod_messages_8 ?_
    refine go_iload_n (pc := 11) (i := 1) d_Mod_messages_11 rfl rfl ?_
    obtain ⟨hi3, hk⟩ := hk
    refine go_aldI (pc := 12) sh_m_mails hi3 d_Mod_messages_12 ?_
    refine go_goto (pc := 13) (tgt := 17) d_Mod_messages_13 rfl ?_
    exact go_ret (pc := 17) (r := some (.int (μ1.2.1 116 (Int32.toNatClampNeg a1)))) d_Mod_messages_17 ⟨_, _, rfl, rfl, hk⟩
def wp_Mod_output (a1 : Int32) (a2 : Int32) (μ : Mu) (Q : Int32 → Mu → Prop) : Prop := wp_Mod_four a1 μ (fun x2 μ1 => (((x2 = 0) → Q (0 : Int32) μ1) ∧ ((¬ x2 = 0) → (((a2 < (-1 : Int32)) → Q (0 : Int32) μ1) ∧ ((¬ a2 < (-1 : Int32)) → (vp_in a1 4 ∧ (((a2 < (μ1.2.1 120 (Int32.toNatClampNeg a1))) → (((¬ a2 = (-1 : Int32)) → (vp_in (((16 : Int32) * a1) + a2) 64 ∧ Q (μ1.2.1 119 (Int32.toNatClampNeg (((16 : Int32) * a1) + a2))) μ1)) ∧ ((a2 = (-1 : Int32)) → (vp_in a1 4 ∧ Q (μ1.2.1 120 (Int32.toNatClampNeg a1)) μ1)))) ∧ ((¬ a2 < (μ1.2.1 120 (Int32.toNatClampNeg a1))) → Q (0 : Int32) μ1))))))))
set_option maxRecDepth 100000 in
set_option maxHeartbeats 4000000 in
theorem m_Mod_output {l : Launch} {a1 : Int32} {a2 : Int32}  {μ : Mu} {Q : Int32 → Mu → Prop} (hk : wp_Mod_output a1 a2 μ Q) : Mets (mE l) mt_Mod_output false (rmd 1) [.ref 91, .int a1, .int a2] (lay μ) (PI Q) := by
  unfold wp_Mod_output at hk
  refine mets_of (L := [some (.ref 91), some (.int a1), some (.int a2)]) (by decide) (Nat.le_of_ble_eq_true rfl) rfl ?_
  refine go_iload_n (pc := 0) (i := 1) d_Mod_output_0 rfl rfl ?_
  refine go_callS (pc := 1) (m_Mod_four  hk) cz_Mod_four sm_Mod_four (Or.inl lk_Mod_105) rfl rfl (Nat.le_of_ble_eq_true rfl) ⟨by decide, by decide⟩ rfl rfl d_Mod_output_1 (fun r M' hr => ?_)
  obtain ⟨x2, μ1, rfl, rfl, hk⟩ := hr
  try dsimp only [Option.toList, List.cons_append, List.nil_append]
  refine go_if_eq (pc := 4) (tgt := 22) d_Mod_output_4 rfl (fun h4 => ?_) (fun h4 => ?_)
  · replace hk := hk.1 h4
    refine go_iconst (pc := 22) (v := 0) d_Mod_output_22 (by decide) ?_
    refine go_goto (pc := 23) (tgt := 51) d_Mod_output_23 rfl ?_
    exact go_ret (pc := 51) (r := some (.int (0 : Int32))) d_Mod_output_51 ⟨_, _, rfl, rfl, hk⟩
  · replace hk := hk.2 h4
    refine go_iload_n (pc := 7) (i := 2) d_Mod_output_7 rfl rfl ?_
    refine go_iconst (pc := 8) (v := (-1)) d_Mod_output_8 (by decide) ?_
    refine go_icmp_lt (pc := 9) (tgt := 22) d_Mod_output_9 rfl (fun h9 => ?_) (fun h9 => ?_)
    · replace hk := hk.1 h9
      refine go_iconst (pc := 22) (v := 0) d_Mod_output_22 (by decide) ?_
      refine go_goto (pc := 23) (tgt := 51) d_Mod_output_23 rfl ?_
      exact go_ret (pc := 51) (r := some (.int (0 : Int32))) d_Mod_output_51 ⟨_, _, rfl, rfl, hk⟩
    · replace hk := hk.2 h9
      refine go_iload_n (pc := 12) (i := 2) d_Mod_output_12 rfl rfl ?_
      refine go_aload_n (pc := 13) (i := 0) d_Mod_output_13 rfl rfl ?_
      refine go_getR (pc := 14) (r := 120) sh_model rfl fl_Mod_95 d_Mod_output_14 ?_
      refine go_iload_n (pc := 17) (i := 1) d_Mod_output_17 rfl rfl ?_
      obtain ⟨hi3, hk⟩ := hk
      refine go_aldI (pc := 18) sh_m_outs hi3 d_Mod_output_18 ?_
      refine go_icmp_lt (pc := 19) (tgt := 26) d_Mod_output_19 rfl (fun h19 => ?_) (fun h19 => ?_)
      · replace hk := hk.1 h19
        refine go_iload_n (pc := 26) (i := 2) d_Mod_output_26 rfl rfl ?_
        refine go_iconst (pc := 27) (v := (-1)) d_Mod_output_27 (by decide) ?_
        refine go_icmp_ne (pc := 28) (tgt := 40) d_Mod_output_28 rfl (fun h28 => ?_) (fun h28 => ?_)
        · replace hk := hk.1 h28
          refine go_aload_n (pc := 40) (i := 0) d_Mod_output_40 rfl rfl ?_
          refine go_getR (pc := 41) (r := 119) sh_model rfl fl_Mod_92 d_Mod_output_41 ?_
          refine go_bipush (pc := 44) (v := 16) d_Mod_output_44 (by decide) ?_
          refine go_iload_n (pc := 46) (i := 1) d_Mod_output_46 rfl rfl ?_
          refine go_imul (pc := 47) d_Mod_output_47 ?_
          refine go_iload_n (pc := 48) (i := 2) d_Mod_output_48 rfl rfl ?_
          refine go_iadd (pc := 49) d_Mod_output_49 ?_
          obtain ⟨hi4, hk⟩ := hk
          refine go_aldI (pc := 50) sh_m_out hi4 d_Mod_output_50 ?_
          exact go_ret (pc := 51) (r := some (.int (μ1.2.1 119 (Int32.toNatClampNeg (((16 : Int32) * a1) + a2))))) d_Mod_output_51 ⟨_, _, rfl, rfl, hk⟩
        · replace hk := hk.2 h28
          refine go_aload_n (pc := 31) (i := 0) d_Mod_output_31 rfl rfl ?_
          refine go_getR (pc := 32) (r := 120) sh_model rfl fl_Mod_95 d_Mod_output_32 ?_
          refine go_iload_n (pc := 35) (i := 1) d_Mod_output_35 rfl rfl ?_
          obtain ⟨hi5, hk⟩ := hk
          refine go_aldI (pc := 36) sh_m_outs hi5 d_Mod_output_36 ?_
          refine go_goto (pc := 37) (tgt := 51) d_Mod_output_37 rfl ?_
          exact go_ret (pc := 51) (r := some (.int (μ1.2.1 120 (Int32.toNatClampNeg a1)))) d_Mod_output_51 ⟨_, _, rfl, rfl, hk⟩
      · replace hk := hk.2 h19
        refine go_iconst (pc := 22) (v := 0) d_Mod_output_22 (by decide) ?_
        refine go_goto (pc := 23) (tgt := 51) d_Mod_output_23 rfl ?_
        exact go_ret (pc := 51) (r := some (.int (0 : Int32))) d_Mod_output_51 ⟨_, _, rfl, rfl, hk⟩
def wp_Mod_local (a1 : Int32) (a2 : Int32) (μ : Mu) (Q : Int32 → Mu → Prop) : Prop := wp_Mod_four a1 μ (fun x2 μ1 => (((x2 = 0) → Q (0 : Int32) μ1) ∧ ((¬ x2 = 0) → (((a2 = 0) → (vp_in (((4 : Int32) * a1) + a2) 16 ∧ Q (μ1.2.1 114 (Int32.toNatClampNeg (((4 : Int32) * a1) + a2))) μ1)) ∧ ((¬ a2 = 0) → (((¬ a2 = (1 : Int32)) → Q (0 : Int32) μ1) ∧ ((a2 = (1 : Int32)) → (vp_in (((4 : Int32) * a1) + a2) 16 ∧ Q (μ1.2.1 114 (Int32.toNatClampNeg (((4 : Int32) * a1) + a2))) μ1))))))))
set_option maxRecDepth 100000 in
set_option maxHeartbeats 4000000 in
theorem m_Mod_local {l : Launch} {a1 : Int32} {a2 : Int32}  {μ : Mu} {Q : Int32 → Mu → Prop} (hk : wp_Mod_local a1 a2 μ Q) : Mets (mE l) mt_Mod_local false (rmd 1) [.ref 91, .int a1, .int a2] (lay μ) (PI Q) := by
  unfold wp_Mod_local at hk
  refine mets_of (L := [some (.ref 91), some (.int a1), some (.int a2)]) (by decide) (Nat.le_of_ble_eq_true rfl) rfl ?_
  refine go_iload_n (pc := 0) (i := 1) d_Mod_local_0 rfl rfl ?_
  refine go_callS (pc := 1) (m_Mod_four  hk) cz_Mod_four sm_Mod_four (Or.inl lk_Mod_105) rfl rfl (Nat.le_of_ble_eq_true rfl) ⟨by decide, by decide⟩ rfl rfl d_Mod_local_1 (fun r M' hr => ?_)
  obtain ⟨x2, μ1, rfl, rfl, hk⟩ := hr
  try dsimp only [Option.toList, List.cons_append, List.nil_append]
  refine go_if_eq (pc := 4) (tgt := 29) d_Mod_local_4 rfl (fun h4 => ?_) (fun h4 => ?_)
  · replace hk := hk.1 h4
    refine go_iconst (pc := 29) (v := 0) d_Mod_local_29 (by decide) ?_
    exact go_ret (pc := 30) (r := some (.int (0 : Int32))) d_Mod_local_30 ⟨_, _, rfl, rfl, hk⟩
  · replace hk := hk.2 h4
    refine go_iload_n (pc := 7) (i := 2) d_Mod_local_7 rfl rfl ?_
    refine go_if_eq (pc := 8) (tgt := 16) d_Mod_local_8 rfl (fun h8 => ?_) (fun h8 => ?_)
    · replace hk := hk.1 h8
      refine go_aload_n (pc := 16) (i := 0) d_Mod_local_16 rfl rfl ?_
      refine go_getR (pc := 17) (r := 114) sh_model rfl fl_Mod_77 d_Mod_local_17 ?_
      refine go_iconst (pc := 20) (v := 4) d_Mod_local_20 (by decide) ?_
      refine go_iload_n (pc := 21) (i := 1) d_Mod_local_21 rfl rfl ?_
      refine go_imul (pc := 22) d_Mod_local_22 ?_
      refine go_iload_n (pc := 23) (i := 2) d_Mod_local_23 rfl rfl ?_
      refine go_iadd (pc := 24) d_Mod_local_24 ?_
      obtain ⟨hi3, hk⟩ := hk
      refine go_aldI (pc := 25) sh_m_locals hi3 d_Mod_local_25 ?_
      refine go_goto (pc := 26) (tgt := 30) d_Mod_local_26 rfl ?_
      exact go_ret (pc := 30) (r := some (.int (μ1.2.1 114 (Int32.toNatClampNeg (((4 : Int32) * a1) + a2))))) d_Mod_local_30 ⟨_, _, rfl, rfl, hk⟩
    · replace hk := hk.2 h8
      refine go_iload_n (pc := 11) (i := 2) d_Mod_local_11 rfl rfl ?_
      refine go_iconst (pc := 12) (v := 1) d_Mod_local_12 (by decide) ?_
      refine go_icmp_ne (pc := 13) (tgt := 29) d_Mod_local_13 rfl (fun h13 => ?_) (fun h13 => ?_)
      · replace hk := hk.1 h13
        refine go_iconst (pc := 29) (v := 0) d_Mod_local_29 (by decide) ?_
        exact go_ret (pc := 30) (r := some (.int (0 : Int32))) d_Mod_local_30 ⟨_, _, rfl, rfl, hk⟩
      · replace hk := hk.2 h13
        refine go_aload_n (pc := 16) (i := 0) d_Mod_local_16 rfl rfl ?_
        refine go_getR (pc := 17) (r := 114) sh_model rfl fl_Mod_77 d_Mod_local_17 ?_
        refine go_iconst (pc := 20) (v := 4) d_Mod_local_20 (by decide) ?_
        refine go_iload_n (pc := 21) (i := 1) d_Mod_local_21 rfl rfl ?_
        refine go_imul (pc := 22) d_Mod_local_22 ?_
        refine go_iload_n (pc := 23) (i := 2) d_Mod_local_23 rfl rfl ?_
        refine go_iadd (pc := 24) d_Mod_local_24 ?_
        obtain ⟨hi4, hk⟩ := hk
        refine go_aldI (pc := 25) sh_m_locals hi4 d_Mod_local_25 ?_
        refine go_goto (pc := 26) (tgt := 30) d_Mod_local_26 rfl ?_
        exact go_ret (pc := 30) (r := some (.int (μ1.2.1 114 (Int32.toNatClampNeg (((4 : Int32) * a1) + a2))))) d_Mod_local_30 ⟨_, _, rfl, rfl, hk⟩
def wp_Mod_look_34 (w2 : Int32) (w3 : Int32) (K0 : Int32 → Int32 → Mu → Prop) (Q : Int32 → Mu → Prop) : Nat → Int32 → Int32 → Mu → Prop
  | 0, _, _, _ => False
  | n34 + 1, v4, v5, μ => (((w3 ≤ v5) → K0 v4 v5 μ) ∧ ((¬ w3 ≤ v5) → (((v4 < 0) → K0 v4 v5 μ) ∧ ((¬ v4 < 0) → (((¬ ((w2 >>> (v5 &&& 31)) &&& (1 : Int32)) = (1 : Int32)) → (vp_in v4 104 ∧ wp_Mod_look_34 w2 w3 K0 Q n34 (μ.2.1 99 (Int32.toNatClampNeg v4)) (v5 + 1) μ)) ∧ ((((w2 >>> (v5 &&& 31)) &&& (1 : Int32)) = (1 : Int32)) → (vp_in v4 104 ∧ wp_Mod_look_34 w2 w3 K0 Q n34 (μ.2.1 100 (Int32.toNatClampNeg v4)) (v5 + 1) μ)))))))
set_option maxRecDepth 100000 in
set_option maxHeartbeats 4000000 in
theorem g_Mod_look_34 {l : Launch} {w2 : Int32} {w3 : Int32}  {K0 : Int32 → Int32 → Mu → Prop} {Q : Int32 → Mu → Prop} (hK0 : ∀ (v4 : Int32) (v5 : Int32) (μ : Mu), K0 v4 v5 μ → Go (mE l) mt_Mod_look false (rmd 1) 0 0 80 [some (.ref 91), none, some (.int w2), some (.int w3), some (.int v4), some (.int v5)] [] (lay μ) (PI Q)) : ∀ (n : Nat) (v4 : Int32) (v5 : Int32) (μ : Mu), wp_Mod_look_34 w2 w3 K0 Q n v4 v5 μ → Go (mE l) mt_Mod_look false (rmd 1) 0 0 34 [some (.ref 91), none, some (.int w2), some (.int w3), some (.int v4), some (.int v5)] [] (lay μ) (PI Q) := by
  intro n
  induction n with
  | zero => intro v4 v5 μ hk; exact hk.elim
  | succ n ih =>
    intro v4 v5 μ hk
    unfold wp_Mod_look_34 at hk
    refine go_iload (pc := 34) d_Mod_look_34 rfl ?_
    refine go_iload_n (pc := 36) (i := 3) d_Mod_look_36 rfl rfl ?_
    refine go_icmp_ge (pc := 37) (tgt := 80) d_Mod_look_37 rfl (fun h37 => ?_) (fun h37 => ?_)
    · replace hk := hk.1 h37
      exact hK0 _ _ _ hk
    · replace hk := hk.2 h37
      refine go_iload (pc := 40) d_Mod_look_40 rfl ?_
      refine go_if_lt (pc := 42) (tgt := 80) d_Mod_look_42 rfl (fun h42 => ?_) (fun h42 => ?_)
      · replace hk := hk.1 h42
        exact hK0 _ _ _ hk
      · replace hk := hk.2 h42
        refine go_iload_n (pc := 45) (i := 2) d_Mod_look_45 rfl rfl ?_
        refine go_iload (pc := 46) d_Mod_look_46 rfl ?_
        refine go_ishr (pc := 48) d_Mod_look_48 ?_
        refine go_iconst (pc := 49) (v := 1) d_Mod_look_49 (by decide) ?_
        refine go_iand (pc := 50) d_Mod_look_50 ?_
        refine go_iconst (pc := 51) (v := 1) d_Mod_look_51 (by decide) ?_
        refine go_icmp_ne (pc := 52) (tgt := 65) d_Mod_look_52 rfl (fun h52 => ?_) (fun h52 => ?_)
        · replace hk := hk.1 h52
          refine go_aload_n (pc := 65) (i := 0) d_Mod_look_65 rfl rfl ?_
          refine go_getR (pc := 66) (r := 99) sh_model rfl fl_Mod_32 d_Mod_look_66 ?_
          refine go_iload (pc := 69) d_Mod_look_69 rfl ?_
          obtain ⟨hi4, hk⟩ := hk
          refine go_aldI (pc := 71) sh_m_left hi4 d_Mod_look_71 ?_
          refine go_istore (pc := 72) (L' := [some (.ref 91), none, some (.int w2), some (.int w3), some (.int (μ.2.1 99 (Int32.toNatClampNeg v4))), some (.int v5)]) d_Mod_look_72 (by decide) rfl ?_
          refine go_iinc (pc := 74) (v := (v5 + 1)) (L' := [some (.ref 91), none, some (.int w2), some (.int w3), some (.int (μ.2.1 99 (Int32.toNatClampNeg v4))), some (.int (v5 + 1))]) d_Mod_look_74 rfl rfl (by decide) rfl ?_
          refine go_goto (pc := 77) (tgt := 34) d_Mod_look_77 rfl ?_
          exact ih _ _ _ hk
        · replace hk := hk.2 h52
          refine go_aload_n (pc := 55) (i := 0) d_Mod_look_55 rfl rfl ?_
          refine go_getR (pc := 56) (r := 100) sh_model rfl fl_Mod_35 d_Mod_look_56 ?_
          refine go_iload (pc := 59) d_Mod_look_59 rfl ?_
          obtain ⟨hi5, hk⟩ := hk
          refine go_aldI (pc := 61) sh_m_right hi5 d_Mod_look_61 ?_
          refine go_goto (pc := 62) (tgt := 72) d_Mod_look_62 rfl ?_
          refine go_istore (pc := 72) (L' := [some (.ref 91), none, some (.int w2), some (.int w3), some (.int (μ.2.1 100 (Int32.toNatClampNeg v4))), some (.int v5)]) d_Mod_look_72 (by decide) rfl ?_
          refine go_iinc (pc := 74) (v := (v5 + 1)) (L' := [some (.ref 91), none, some (.int w2), some (.int w3), some (.int (μ.2.1 100 (Int32.toNatClampNeg v4))), some (.int (v5 + 1))]) d_Mod_look_74 rfl rfl (by decide) rfl ?_
          refine go_goto (pc := 77) (tgt := 34) d_Mod_look_77 rfl ?_
          exact ih _ _ _ hk
def wp_Mod_look (a1 : Int32) (a2 : Int32) (a3 : Int32) (μ : Mu) (Q : Int32 → Mu → Prop) : Prop := wp_Mod_four a1 μ (fun x2 μ1 => (((x2 = 0) → Q (0 : Int32) μ1) ∧ ((¬ x2 = 0) → (((a3 < 0) → Q (0 : Int32) μ1) ∧ ((¬ a3 < 0) → (((a3 ≤ (30 : Int32)) → (vp_in (((4 : Int32) * a1) + (2 : Int32)) 16 ∧ (∃ n34, wp_Mod_look_34 a2 a3 (fun v6 v7 μ8 => (((0 ≤ v6) → (vp_in v6 104 ∧ Q (μ8.2.1 98 (Int32.toNatClampNeg v6)) μ8)) ∧ ((¬ 0 ≤ v6) → Q (0 : Int32) μ8))) Q n34 (μ1.2.1 114 (Int32.toNatClampNeg (((4 : Int32) * a1) + (2 : Int32)))) (0 : Int32) μ1))) ∧ ((¬ a3 ≤ (30 : Int32)) → Q (0 : Int32) μ1)))))))
set_option maxRecDepth 100000 in
set_option maxHeartbeats 4000000 in
theorem m_Mod_look {l : Launch} {a1 : Int32} {a2 : Int32} {a3 : Int32}  {μ : Mu} {Q : Int32 → Mu → Prop} (hk : wp_Mod_look a1 a2 a3 μ Q) : Mets (mE l) mt_Mod_look false (rmd 1) [.ref 91, .int a1, .int a2, .int a3] (lay μ) (PI Q) := by
  unfold wp_Mod_look at hk
  refine mets_of (L := [some (.ref 91), some (.int a1), some (.int a2), some (.int a3), none, none]) (by decide) (Nat.le_of_ble_eq_true rfl) rfl ?_
  refine go_iload_n (pc := 0) (i := 1) d_Mod_look_0 rfl rfl ?_
  refine go_callS (pc := 1) (m_Mod_four  hk) cz_Mod_four sm_Mod_four (Or.inl lk_Mod_105) rfl rfl (Nat.le_of_ble_eq_true rfl) ⟨by decide, by decide⟩ rfl rfl d_Mod_look_1 (fun r M' hr => ?_)
  obtain ⟨x2, μ1, rfl, rfl, hk⟩ := hr
  try dsimp only [Option.toList, List.cons_append, List.nil_append]
  refine go_if_eq (pc := 4) (tgt := 17) d_Mod_look_4 rfl (fun h4 => ?_) (fun h4 => ?_)
  · replace hk := hk.1 h4
    refine go_iconst (pc := 17) (v := 0) d_Mod_look_17 (by decide) ?_
    exact go_ret (pc := 18) (r := some (.int (0 : Int32))) d_Mod_look_18 ⟨_, _, rfl, rfl, hk⟩
  · replace hk := hk.2 h4
    refine go_iload_n (pc := 7) (i := 3) d_Mod_look_7 rfl rfl ?_
    refine go_if_lt (pc := 8) (tgt := 17) d_Mod_look_8 rfl (fun h8 => ?_) (fun h8 => ?_)
    · replace hk := hk.1 h8
      refine go_iconst (pc := 17) (v := 0) d_Mod_look_17 (by decide) ?_
      exact go_ret (pc := 18) (r := some (.int (0 : Int32))) d_Mod_look_18 ⟨_, _, rfl, rfl, hk⟩
    · replace hk := hk.2 h8
      refine go_iload_n (pc := 11) (i := 3) d_Mod_look_11 rfl rfl ?_
      refine go_bipush (pc := 12) (v := 30) d_Mod_look_12 (by decide) ?_
      refine go_icmp_le (pc := 14) (tgt := 19) d_Mod_look_14 rfl (fun h14 => ?_) (fun h14 => ?_)
      · replace hk := hk.1 h14
        refine go_aload_n (pc := 19) (i := 0) d_Mod_look_19 rfl rfl ?_
        refine go_getR (pc := 20) (r := 114) sh_model rfl fl_Mod_77 d_Mod_look_20 ?_
        refine go_iconst (pc := 23) (v := 4) d_Mod_look_23 (by decide) ?_
        refine go_iload_n (pc := 24) (i := 1) d_Mod_look_24 rfl rfl ?_
        refine go_imul (pc := 25) d_Mod_look_25 ?_
        refine go_iconst (pc := 26) (v := 2) d_Mod_look_26 (by decide) ?_
        refine go_iadd (pc := 27) d_Mod_look_27 ?_
        obtain ⟨hi3, hk⟩ := hk
        refine go_aldI (pc := 28) sh_m_locals hi3 d_Mod_look_28 ?_
        refine go_istore (pc := 29) (L' := [some (.ref 91), some (.int a1), some (.int a2), some (.int a3), some (.int (μ1.2.1 114 (Int32.toNatClampNeg (((4 : Int32) * a1) + (2 : Int32))))), none]) d_Mod_look_29 (by decide) rfl ?_
        refine go_iconst (pc := 31) (v := 0) d_Mod_look_31 (by decide) ?_
        refine go_istore (pc := 32) (L' := [some (.ref 91), some (.int a1), some (.int a2), some (.int a3), some (.int (μ1.2.1 114 (Int32.toNatClampNeg (((4 : Int32) * a1) + (2 : Int32))))), some (.int (0 : Int32))]) d_Mod_look_32 (by decide) rfl ?_
        obtain ⟨n, hk⟩ := hk
        refine go_weak (L' := [some (.ref 91), none, some (.int a2), some (.int a3), some (.int (μ1.2.1 114 (Int32.toNatClampNeg (((4 : Int32) * a1) + (2 : Int32))))), some (.int (0 : Int32))]) (lle_at (by simp [lle])) ?_
        refine g_Mod_look_34  (fun v6 v7 μ8 hk => ?_) n _ _ _ hk
        · try dsimp only at hk
          refine go_iload (pc := 80) d_Mod_look_80 rfl ?_
          refine go_if_ge (pc := 82) (tgt := 89) d_Mod_look_82 rfl (fun h82 => ?_) (fun h82 => ?_)
          · replace hk := hk.1 h82
            refine go_aload_n (pc := 89) (i := 0) d_Mod_look_89 rfl rfl ?_
            refine go_getR (pc := 90) (r := 98) sh_model rfl fl_Mod_29 d_Mod_look_90 ?_
            refine go_iload (pc := 93) d_Mod_look_93 rfl ?_
            obtain ⟨hi9, hk⟩ := hk
            refine go_aldI (pc := 95) sh_m_num hi9 d_Mod_look_95 ?_
            exact go_ret (pc := 96) (r := some (.int (μ8.2.1 98 (Int32.toNatClampNeg v6)))) d_Mod_look_96 ⟨_, _, rfl, rfl, hk⟩
          · replace hk := hk.2 h82
            refine go_iconst (pc := 85) (v := 0) d_Mod_look_85 (by decide) ?_
            refine go_goto (pc := 86) (tgt := 96) d_Mod_look_86 rfl ?_
            exact go_ret (pc := 96) (r := some (.int (0 : Int32))) d_Mod_look_96 ⟨_, _, rfl, rfl, hk⟩
      · replace hk := hk.2 h14
        refine go_iconst (pc := 17) (v := 0) d_Mod_look_17 (by decide) ?_
        exact go_ret (pc := 18) (r := some (.int (0 : Int32))) d_Mod_look_18 ⟨_, _, rfl, rfl, hk⟩
