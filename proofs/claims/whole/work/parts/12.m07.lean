def wp_Mod_seal_29 (w1 : Int32) (K0 : Int32 → Mu → Prop) (Q : Int32 → Mu → Prop) : Nat → Int32 → Mu → Prop
  | 0, _, _ => False
  | n29 + 1, v2, μ => ((((24 : Int32) ≤ v2) → K0 v2 μ) ∧ ((¬ (24 : Int32) ≤ v2) → (vp_in (((24 : Int32) * w1) + v2) 96 ∧ ∀ μ6 : Mu, μ6 = setA μ 94 (Int32.toNatClampNeg (((24 : Int32) * w1) + v2)) (0 : Int32) → wp_Mod_seal_29 w1 K0 Q n29 (v2 + 1) μ6)))
set_option maxRecDepth 100000 in
set_option maxHeartbeats 4000000 in
theorem g_Mod_seal_29 {l : Launch} {w1 : Int32}  {K0 : Int32 → Mu → Prop} {Q : Int32 → Mu → Prop} (hK0 : ∀ (v2 : Int32) (μ : Mu), K0 v2 μ → Go (mE l) mt_Mod_seal false (rmd 3) 0 0 53 [some (.ref 91), some (.int w1), some (.int v2), none, none] [] (lay μ) (PI Q)) : ∀ (n : Nat) (v2 : Int32) (μ : Mu), wp_Mod_seal_29 w1 K0 Q n v2 μ → Go (mE l) mt_Mod_seal false (rmd 3) 0 0 29 [some (.ref 91), some (.int w1), some (.int v2), none, none] [] (lay μ) (PI Q) := by
  intro n
  induction n with
  | zero => intro v2 μ hk; exact hk.elim
  | succ n ih =>
    intro v2 μ hk
    unfold wp_Mod_seal_29 at hk
    refine go_iload_n (pc := 29) (i := 2) d_Mod_seal_29 rfl rfl ?_
    refine go_bipush (pc := 30) (v := 24) d_Mod_seal_30 (by decide) ?_
    refine go_icmp_ge (pc := 32) (tgt := 53) d_Mod_seal_32 rfl (fun h32 => ?_) (fun h32 => ?_)
    · replace hk := hk.1 h32
      exact hK0 _ _ hk
    · replace hk := hk.2 h32
      refine go_aload_n (pc := 35) (i := 0) d_Mod_seal_35 rfl rfl ?_
      refine go_getR (pc := 36) (r := 94) sh_model rfl fl_Mod_16 d_Mod_seal_36 ?_
      refine go_bipush (pc := 39) (v := 24) d_Mod_seal_39 (by decide) ?_
      refine go_iload_n (pc := 41) (i := 1) d_Mod_seal_41 rfl rfl ?_
      refine go_imul (pc := 42) d_Mod_seal_42 ?_
      refine go_iload_n (pc := 43) (i := 2) d_Mod_seal_43 rfl rfl ?_
      refine go_iadd (pc := 44) d_Mod_seal_44 ?_
      refine go_iconst (pc := 45) (v := 0) d_Mod_seal_45 (by decide) ?_
      obtain ⟨hi5, hk⟩ := hk
      refine go_astIn (pc := 46) sh_m_shapes hi5 d_Mod_seal_46 (fun μ6 e6 => ?_)
      replace hk := hk μ6 e6
      refine go_iinc (pc := 47) (v := (v2 + 1)) (L' := [some (.ref 91), some (.int w1), some (.int (v2 + 1)), none, none]) d_Mod_seal_47 rfl rfl (by decide) rfl ?_
      refine go_goto (pc := 50) (tgt := 29) d_Mod_seal_50 rfl ?_
      exact ih _ _ hk
def wp_Mod_seal_76 (w1 : Int32) (w3 : Int32) (K0 : Int32 → Int32 → Mu → Prop) (Q : Int32 → Mu → Prop) : Nat → Int32 → Int32 → Mu → Prop
  | 0, _, _, _ => False
  | n76 + 1, v2, v4, μ => (vp_in w1 4 ∧ ((((μ.2.1 95 (Int32.toNatClampNeg w1)) ≤ v4) → K0 v2 v4 μ) ∧ ((¬ (μ.2.1 95 (Int32.toNatClampNeg w1)) ≤ v4) → (((v2 = 0) → wp_Mod_seal_76 w1 w3 K0 Q n76 (0 : Int32) (v4 + 1) μ) ∧ ((¬ v2 = 0) → wp_Mod_flows w1 v4 μ (fun x13 μ12 => (((x13 = 0) → wp_Mod_seal_76 w1 w3 K0 Q n76 (0 : Int32) (v4 + 1) μ12) ∧ ((¬ x13 = 0) → wp_Mod_seal_76 w1 w3 K0 Q n76 (1 : Int32) (v4 + 1) μ12))))))))
set_option maxRecDepth 100000 in
set_option maxHeartbeats 4000000 in
theorem g_Mod_seal_76 {l : Launch} {w1 : Int32} {w3 : Int32}  {K0 : Int32 → Int32 → Mu → Prop} {Q : Int32 → Mu → Prop} (hK0 : ∀ (v2 : Int32) (v4 : Int32) (μ : Mu), K0 v2 v4 μ → Go (mE l) mt_Mod_seal false (rmd 3) 0 0 113 [some (.ref 91), some (.int w1), some (.int v2), some (.int w3), some (.int v4)] [] (lay μ) (PI Q)) : ∀ (n : Nat) (v2 : Int32) (v4 : Int32) (μ : Mu), wp_Mod_seal_76 w1 w3 K0 Q n v2 v4 μ → Go (mE l) mt_Mod_seal false (rmd 3) 0 0 76 [some (.ref 91), some (.int w1), some (.int v2), some (.int w3), some (.int v4)] [] (lay μ) (PI Q) := by
  intro n
  induction n with
  | zero => intro v2 v4 μ hk; exact hk.elim
  | succ n ih =>
    intro v2 v4 μ hk
    unfold wp_Mod_seal_76 at hk
    refine go_iload (pc := 76) d_Mod_seal_76 rfl ?_
    refine go_aload_n (pc := 78) (i := 0) d_Mod_seal_78 rfl rfl ?_
    refine go_getR (pc := 79) (r := 95) sh_model rfl fl_Mod_19 d_Mod_seal_79 ?_
    refine go_iload_n (pc := 82) (i := 1) d_Mod_seal_82 rfl rfl ?_
    obtain ⟨hi11, hk⟩ := hk
    refine go_aldI (pc := 83) sh_m_many hi11 d_Mod_seal_83 ?_
    refine go_icmp_ge (pc := 84) (tgt := 113) d_Mod_seal_84 rfl (fun h84 => ?_) (fun h84 => ?_)
    · replace hk := hk.1 h84
      exact hK0 _ _ _ hk
    · replace hk := hk.2 h84
      refine go_iload_n (pc := 87) (i := 2) d_Mod_seal_87 rfl rfl ?_
      refine go_if_eq (pc := 88) (tgt := 105) d_Mod_seal_88 rfl (fun h88 => ?_) (fun h88 => ?_)
      · replace hk := hk.1 h88
        refine go_iconst (pc := 105) (v := 0) d_Mod_seal_105 (by decide) ?_
        refine go_istore_n (pc := 106) (i := 2) (L' := [some (.ref 91), some (.int w1), some (.int (0 : Int32)), some (.int w3), some (.int v4)]) d_Mod_seal_106 rfl (by decide) rfl ?_
        refine go_iinc (pc := 107) (v := (v4 + 1)) (L' := [some (.ref 91), some (.int w1), some (.int (0 : Int32)), some (.int w3), some (.int (v4 + 1))]) d_Mod_seal_107 rfl rfl (by decide) rfl ?_
        refine go_goto (pc := 110) (tgt := 76) d_Mod_seal_110 rfl ?_
        exact ih _ _ _ hk
      · replace hk := hk.2 h88
        refine go_aload_n (pc := 91) (i := 0) d_Mod_seal_91 rfl rfl ?_
        refine go_iload_n (pc := 92) (i := 1) d_Mod_seal_92 rfl rfl ?_
        refine go_iload (pc := 93) d_Mod_seal_93 rfl ?_
        refine go_callV (pc := 95) (m_Mod_flows  hk) cz_Mod_flows cv_Mod_flows (Or.inl lk_Mod_130) (lay_at sh_model) rfl rfl rfl (Nat.le_of_ble_eq_true rfl) ⟨by decide, by decide⟩ rfl rfl d_Mod_seal_95 (fun r M' hr => ?_)
        obtain ⟨x13, μ12, rfl, rfl, hk⟩ := hr
        try dsimp only [Option.toList, List.cons_append, List.nil_append]
        refine go_if_eq (pc := 98) (tgt := 105) d_Mod_seal_98 rfl (fun h98 => ?_) (fun h98 => ?_)
        · replace hk := hk.1 h98
          refine go_iconst (pc := 105) (v := 0) d_Mod_seal_105 (by decide) ?_
          refine go_istore_n (pc := 106) (i := 2) (L' := [some (.ref 91), some (.int w1), some (.int (0 : Int32)), some (.int w3), some (.int v4)]) d_Mod_seal_106 rfl (by decide) rfl ?_
          refine go_iinc (pc := 107) (v := (v4 + 1)) (L' := [some (.ref 91), some (.int w1), some (.int (0 : Int32)), some (.int w3), some (.int (v4 + 1))]) d_Mod_seal_107 rfl rfl (by decide) rfl ?_
          refine go_goto (pc := 110) (tgt := 76) d_Mod_seal_110 rfl ?_
          exact ih _ _ _ hk
        · replace hk := hk.2 h98
          refine go_iconst (pc := 101) (v := 1) d_Mod_seal_101 (by decide) ?_
          refine go_goto (pc := 102) (tgt := 106) d_Mod_seal_102 rfl ?_
          refine go_istore_n (pc := 106) (i := 2) (L' := [some (.ref 91), some (.int w1), some (.int (1 : Int32)), some (.int w3), some (.int v4)]) d_Mod_seal_106 rfl (by decide) rfl ?_
          refine go_iinc (pc := 107) (v := (v4 + 1)) (L' := [some (.ref 91), some (.int w1), some (.int (1 : Int32)), some (.int w3), some (.int (v4 + 1))]) d_Mod_seal_107 rfl rfl (by decide) rfl ?_
          refine go_goto (pc := 110) (tgt := 76) d_Mod_seal_110 rfl ?_
          exact ih _ _ _ hk
def wp_Mod_seal_67 (w1 : Int32) (K0 : Int32 → Int32 → Mu → Prop) (Q : Int32 → Mu → Prop) : Nat → Int32 → Int32 → Mu → Prop
  | 0, _, _, _ => False
  | n67 + 1, v2, v3, μ => ((((25 : Int32) ≤ v3) → K0 v2 v3 μ) ∧ ((¬ (25 : Int32) ≤ v3) → (∃ n76, wp_Mod_seal_76 w1 v3 (fun v14 v15 μ16 => wp_Mod_seal_67 w1 K0 Q n67 v14 (v3 + 1) μ16) Q n76 v2 (0 : Int32) μ)))
set_option maxRecDepth 100000 in
set_option maxHeartbeats 4000000 in
theorem g_Mod_seal_67 {l : Launch} {w1 : Int32}  {K0 : Int32 → Int32 → Mu → Prop} {Q : Int32 → Mu → Prop} (hK0 : ∀ (v2 : Int32) (v3 : Int32) (μ : Mu), K0 v2 v3 μ → Go (mE l) mt_Mod_seal false (rmd 3) 0 0 119 [some (.ref 91), some (.int w1), some (.int v2), some (.int v3), none] [] (lay μ) (PI Q)) : ∀ (n : Nat) (v2 : Int32) (v3 : Int32) (μ : Mu), wp_Mod_seal_67 w1 K0 Q n v2 v3 μ → Go (mE l) mt_Mod_seal false (rmd 3) 0 0 67 [some (.ref 91), some (.int w1), some (.int v2), some (.int v3), none] [] (lay μ) (PI Q) := by
  intro n
  induction n with
  | zero => intro v2 v3 μ hk; exact hk.elim
  | succ n ih =>
    intro v2 v3 μ hk
    unfold wp_Mod_seal_67 at hk
    refine go_iload_n (pc := 67) (i := 3) d_Mod_seal_67 rfl rfl ?_
    refine go_bipush (pc := 68) (v := 25) d_Mod_seal_68 (by decide) ?_
    refine go_icmp_ge (pc := 70) (tgt := 119) d_Mod_seal_70 rfl (fun h70 => ?_) (fun h70 => ?_)
    · replace hk := hk.1 h70
      exact hK0 _ _ _ hk
    · replace hk := hk.2 h70
      refine go_iconst (pc := 73) (v := 0) d_Mod_seal_73 (by decide) ?_
      refine go_istore (pc := 74) (L' := [some (.ref 91), some (.int w1), some (.int v2), some (.int v3), some (.int (0 : Int32))]) d_Mod_seal_74 (by decide) rfl ?_
      obtain ⟨n, hk⟩ := hk
      refine g_Mod_seal_76  (fun v14 v15 μ16 hk => ?_) n _ _ _ hk
      · try dsimp only at hk
        refine go_iinc (pc := 113) (v := (v3 + 1)) (L' := [some (.ref 91), some (.int w1), some (.int v14), some (.int (v3 + 1)), some (.int v15)]) d_Mod_seal_113 rfl rfl (by decide) rfl ?_
        refine go_goto (pc := 116) (tgt := 67) d_Mod_seal_116 rfl ?_
        refine go_weak (L' := [some (.ref 91), some (.int w1), some (.int v14), some (.int (v3 + 1)), none]) (lle_at (by simp [lle])) ?_
        exact ih _ _ _ hk
def wp_Mod_seal (a1 : Int32) (μ : Mu) (Q : Int32 → Mu → Prop) : Prop := wp_Mod_four a1 μ (fun x2 μ1 => (((x2 = 0) → Q (0 : Int32) μ1) ∧ ((¬ x2 = 0) → (vp_in a1 4 ∧ (((¬ (μ1.2.1 96 (Int32.toNatClampNeg a1)) = 0) → Q (0 : Int32) μ1) ∧ (((μ1.2.1 96 (Int32.toNatClampNeg a1)) = 0) → (vp_in a1 4 ∧ (((¬ (μ1.2.1 95 (Int32.toNatClampNeg a1)) = 0) → (∃ n29, wp_Mod_seal_29 a1 (fun v7 μ8 => (vp_in ((24 : Int32) * a1) 96 ∧ ∀ μ10 : Mu, μ10 = setA μ8 94 (Int32.toNatClampNeg ((24 : Int32) * a1)) (1 : Int32) → (∃ n67, wp_Mod_seal_67 a1 (fun v17 v18 μ19 => (vp_in a1 4 ∧ ((v17 = 0 ∨ v17 = 1) ∧ ∀ μ22 : Mu, μ22 = setA μ19 96 (Int32.toNatClampNeg a1) v17 → ((v17 = 0 ∨ v17 = 1) ∧ Q v17 μ22)))) Q n67 (1 : Int32) (0 : Int32) μ10))) Q n29 (0 : Int32) μ1)) ∧ (((μ1.2.1 95 (Int32.toNatClampNeg a1)) = 0) → Q (0 : Int32) μ1)))))))))
set_option maxRecDepth 100000 in
set_option maxHeartbeats 4000000 in
theorem m_Mod_seal {l : Launch} {a1 : Int32}  {μ : Mu} {Q : Int32 → Mu → Prop} (hk : wp_Mod_seal a1 μ Q) : Mets (mE l) mt_Mod_seal false (rmd 3) [.ref 91, .int a1] (lay μ) (PI Q) := by
  unfold wp_Mod_seal at hk
  refine mets_of (L := [some (.ref 91), some (.int a1), none, none, none]) (by decide) (Nat.le_of_ble_eq_true rfl) rfl ?_
  refine go_iload_n (pc := 0) (i := 1) d_Mod_seal_0 rfl rfl ?_
  refine go_callS (pc := 1) (m_Mod_four  hk) cz_Mod_four sm_Mod_four (Or.inl lk_Mod_105) rfl rfl (Nat.le_of_ble_eq_true rfl) ⟨by decide, by decide⟩ rfl rfl d_Mod_seal_1 (fun r M' hr => ?_)
  obtain ⟨x2, μ1, rfl, rfl, hk⟩ := hr
  try dsimp only [Option.toList, List.cons_append, List.nil_append]
  refine go_if_eq (pc := 4) (tgt := 25) d_Mod_seal_4 rfl (fun h4 => ?_) (fun h4 => ?_)
  · replace hk := hk.1 h4
    refine go_iconst (pc := 25) (v := 0) d_Mod_seal_25 (by decide) ?_
    exact go_ret (pc := 26) (r := some (.int (0 : Int32))) ⟨nar_zv (by decide), d_Mod_seal_26⟩ ⟨_, _, rfl, rfl, hk⟩
  · replace hk := hk.2 h4
    refine go_aload_n (pc := 7) (i := 0) d_Mod_seal_7 rfl rfl ?_
    refine go_getR (pc := 8) (r := 96) sh_model rfl fl_Mod_22 d_Mod_seal_8 ?_
    refine go_iload_n (pc := 11) (i := 1) d_Mod_seal_11 rfl rfl ?_
    obtain ⟨hi3, hk⟩ := hk
    refine go_aldZ (pc := 12) sh_m_sealed hi3 d_Mod_seal_12 ?_
    refine go_if_ne (pc := 13) (tgt := 25) d_Mod_seal_13 rfl (fun h13 => ?_) (fun h13 => ?_)
    · replace hk := hk.1 h13
      refine go_iconst (pc := 25) (v := 0) d_Mod_seal_25 (by decide) ?_
      exact go_ret (pc := 26) (r := some (.int (0 : Int32))) ⟨nar_zv (by decide), d_Mod_seal_26⟩ ⟨_, _, rfl, rfl, hk⟩
    · replace hk := hk.2 h13
      refine go_aload_n (pc := 16) (i := 0) d_Mod_seal_16 rfl rfl ?_
      refine go_getR (pc := 17) (r := 95) sh_model rfl fl_Mod_19 d_Mod_seal_17 ?_
      refine go_iload_n (pc := 20) (i := 1) d_Mod_seal_20 rfl rfl ?_
      obtain ⟨hi4, hk⟩ := hk
      refine go_aldI (pc := 21) sh_m_many hi4 d_Mod_seal_21 ?_
      refine go_if_ne (pc := 22) (tgt := 27) d_Mod_seal_22 rfl (fun h22 => ?_) (fun h22 => ?_)
      · replace hk := hk.1 h22
        refine go_iconst (pc := 27) (v := 0) d_Mod_seal_27 (by decide) ?_
        refine go_istore_n (pc := 28) (i := 2) (L' := [some (.ref 91), some (.int a1), some (.int (0 : Int32)), none, none]) d_Mod_seal_28 rfl (by decide) rfl ?_
        obtain ⟨n, hk⟩ := hk
        refine g_Mod_seal_29  (fun v7 μ8 hk => ?_) n _ _ hk
        · try dsimp only at hk
          refine go_aload_n (pc := 53) (i := 0) d_Mod_seal_53 rfl rfl ?_
          refine go_getR (pc := 54) (r := 94) sh_model rfl fl_Mod_16 d_Mod_seal_54 ?_
          refine go_bipush (pc := 57) (v := 24) d_Mod_seal_57 (by decide) ?_
          refine go_iload_n (pc := 59) (i := 1) d_Mod_seal_59 rfl rfl ?_
          refine go_imul (pc := 60) d_Mod_seal_60 ?_
          refine go_iconst (pc := 61) (v := 1) d_Mod_seal_61 (by decide) ?_
          obtain ⟨hi9, hk⟩ := hk
          refine go_astIn (pc := 62) sh_m_shapes hi9 d_Mod_seal_62 (fun μ10 e10 => ?_)
          replace hk := hk μ10 e10
          refine go_iconst (pc := 63) (v := 1) d_Mod_seal_63 (by decide) ?_
          refine go_istore_n (pc := 64) (i := 2) (L' := [some (.ref 91), some (.int a1), some (.int (1 : Int32)), none, none]) d_Mod_seal_64 rfl (by decide) rfl ?_
          refine go_iconst (pc := 65) (v := 0) d_Mod_seal_65 (by decide) ?_
          refine go_istore_n (pc := 66) (i := 3) (L' := [some (.ref 91), some (.int a1), some (.int (1 : Int32)), some (.int (0 : Int32)), none]) d_Mod_seal_66 rfl (by decide) rfl ?_
          obtain ⟨n, hk⟩ := hk
          refine g_Mod_seal_67  (fun v17 v18 μ19 hk => ?_) n _ _ _ hk
          · try dsimp only at hk
            refine go_aload_n (pc := 119) (i := 0) d_Mod_seal_119 rfl rfl ?_
            refine go_getR (pc := 120) (r := 96) sh_model rfl fl_Mod_22 d_Mod_seal_120 ?_
            refine go_iload_n (pc := 123) (i := 1) d_Mod_seal_123 rfl rfl ?_
            refine go_iload_n (pc := 124) (i := 2) d_Mod_seal_124 rfl rfl ?_
            obtain ⟨hi20, hk⟩ := hk
            obtain ⟨hb21, hk⟩ := hk
            refine go_astZn (pc := 125) hb21 sh_m_sealed hi20 d_Mod_seal_125 (fun μ22 e22 => ?_)
            replace hk := hk μ22 e22
            refine go_iload_n (pc := 126) (i := 2) d_Mod_seal_126 rfl rfl ?_
            obtain ⟨hb23, hk⟩ := hk
            exact go_ret (pc := 127) (r := some (.int v17)) ⟨nar_zv hb23, d_Mod_seal_127⟩ ⟨_, _, rfl, rfl, hk⟩
      · replace hk := hk.2 h22
        refine go_iconst (pc := 25) (v := 0) d_Mod_seal_25 (by decide) ?_
        exact go_ret (pc := 26) (r := some (.int (0 : Int32))) ⟨nar_zv (by decide), d_Mod_seal_26⟩ ⟨_, _, rfl, rfl, hk⟩
def wp_Mod_shape (a1 : Int32) (a2 : Int32) (μ : Mu) (Q : Int32 → Mu → Prop) : Prop := wp_Mod_four a1 μ (fun x2 μ1 => (((x2 = 0) → Q (-1 : Int32) μ1) ∧ ((¬ x2 = 0) → (vp_in a1 4 ∧ ((((μ1.2.1 96 (Int32.toNatClampNeg a1)) = 0) → Q (-1 : Int32) μ1) ∧ ((¬ (μ1.2.1 96 (Int32.toNatClampNeg a1)) = 0) → (((a2 < 0) → Q (-1 : Int32) μ1) ∧ ((¬ a2 < 0) → (vp_in a1 4 ∧ (((a2 < (μ1.2.1 95 (Int32.toNatClampNeg a1))) → (vp_in (((24 : Int32) * a1) + a2) 96 ∧ Q (μ1.2.1 94 (Int32.toNatClampNeg (((24 : Int32) * a1) + a2))) μ1)) ∧ ((¬ a2 < (μ1.2.1 95 (Int32.toNatClampNeg a1))) → Q (-1 : Int32) μ1)))))))))))
set_option maxRecDepth 100000 in
set_option maxHeartbeats 4000000 in
theorem m_Mod_shape {l : Launch} {a1 : Int32} {a2 : Int32}  {μ : Mu} {Q : Int32 → Mu → Prop} (hk : wp_Mod_shape a1 a2 μ Q) : Mets (mE l) mt_Mod_shape false (rmd 1) [.ref 91, .int a1, .int a2] (lay μ) (PI Q) := by
  unfold wp_Mod_shape at hk
  refine mets_of (L := [some (.ref 91), some (.int a1), some (.int a2)]) (by decide) (Nat.le_of_ble_eq_true rfl) rfl ?_
  refine go_iload_n (pc := 0) (i := 1) d_Mod_shape_0 rfl rfl ?_
  refine go_callS (pc := 1) (m_Mod_four  hk) cz_Mod_four sm_Mod_four (Or.inl lk_Mod_105) rfl rfl (Nat.le_of_ble_eq_true rfl) ⟨by decide, by decide⟩ rfl rfl d_Mod_shape_1 (fun r M' hr => ?_)
  obtain ⟨x2, μ1, rfl, rfl, hk⟩ := hr
  try dsimp only [Option.toList, List.cons_append, List.nil_append]
  refine go_if_eq (pc := 4) (tgt := 30) d_Mod_shape_4 rfl (fun h4 => ?_) (fun h4 => ?_)
  · replace hk := hk.1 h4
    refine go_iconst (pc := 30) (v := (-1)) d_Mod_shape_30 (by decide) ?_
    refine go_goto (pc := 31) (tgt := 45) d_Mod_shape_31 rfl ?_
    exact go_ret (pc := 45) (r := some (.int (-1 : Int32))) d_Mod_shape_45 ⟨_, _, rfl, rfl, hk⟩
  · replace hk := hk.2 h4
    refine go_aload_n (pc := 7) (i := 0) d_Mod_shape_7 rfl rfl ?_
    refine go_getR (pc := 8) (r := 96) sh_model rfl fl_Mod_22 d_Mod_shape_8 ?_
    refine go_iload_n (pc := 11) (i := 1) d_Mod_shape_11 rfl rfl ?_
    obtain ⟨hi3, hk⟩ := hk
    refine go_aldZ (pc := 12) sh_m_sealed hi3 d_Mod_shape_12 ?_
    refine go_if_eq (pc := 13) (tgt := 30) d_Mod_shape_13 rfl (fun h13 => ?_) (fun h13 => ?_)
    · replace hk := hk.1 h13
      refine go_iconst (pc := 30) (v := (-1)) d_Mod_shape_30 (by decide) ?_
      refine go_goto (pc := 31) (tgt := 45) d_Mod_shape_31 rfl ?_
      exact go_ret (pc := 45) (r := some (.int (-1 : Int32))) d_Mod_shape_45 ⟨_, _, rfl, rfl, hk⟩
    · replace hk := hk.2 h13
      refine go_iload_n (pc := 16) (i := 2) d_Mod_shape_16 rfl rfl ?_
      refine go_if_lt (pc := 17) (tgt := 30) d_Mod_shape_17 rfl (fun h17 => ?_) (fun h17 => ?_)
      · replace hk := hk.1 h17
        refine go_iconst (pc := 30) (v := (-1)) d_Mod_shape_30 (by decide) ?_
        refine go_goto (pc := 31) (tgt := 45) d_Mod_shape_31 rfl ?_
        exact go_ret (pc := 45) (r := some (.int (-1 : Int32))) d_Mod_shape_45 ⟨_, _, rfl, rfl, hk⟩
      · replace hk := hk.2 h17
        refine go_iload_n (pc := 20) (i := 2) d_Mod_shape_20 rfl rfl ?_
        refine go_aload_n (pc := 21) (i := 0) d_Mod_shape_21 rfl rfl ?_
        refine go_getR (pc := 22) (r := 95) sh_model rfl fl_Mod_19 d_Mod_shape_22 ?_
        refine go_iload_n (pc := 25) (i := 1) d_Mod_shape_25 rfl rfl ?_
        obtain ⟨hi4, hk⟩ := hk
        refine go_aldI (pc := 26) sh_m_many hi4 d_Mod_shape_26 ?_
        refine go_icmp_lt (pc := 27) (tgt := 34) d_Mod_shape_27 rfl (fun h27 => ?_) (fun h27 => ?_)
        · replace hk := hk.1 h27
          refine go_aload_n (pc := 34) (i := 0) d_Mod_shape_34 rfl rfl ?_
          refine go_getR (pc := 35) (r := 94) sh_model rfl fl_Mod_16 d_Mod_shape_35 ?_
          refine go_bipush (pc := 38) (v := 24) d_Mod_shape_38 (by decide) ?_
          refine go_iload_n (pc := 40) (i := 1) d_Mod_shape_40 rfl rfl ?_
          refine go_imul (pc := 41) d_Mod_shape_41 ?_
          refine go_iload_n (pc := 42) (i := 2) d_Mod_shape_42 rfl rfl ?_
          refine go_iadd (pc := 43) d_Mod_shape_43 ?_
          obtain ⟨hi5, hk⟩ := hk
          refine go_aldI (pc := 44) sh_m_shapes hi5 d_Mod_shape_44 ?_
          exact go_ret (pc := 45) (r := some (.int (μ1.2.1 94 (Int32.toNatClampNeg (((24 : Int32) * a1) + a2))))) d_Mod_shape_45 ⟨_, _, rfl, rfl, hk⟩
        · replace hk := hk.2 h27
          refine go_iconst (pc := 30) (v := (-1)) d_Mod_shape_30 (by decide) ?_
          refine go_goto (pc := 31) (tgt := 45) d_Mod_shape_31 rfl ?_
          exact go_ret (pc := 45) (r := some (.int (-1 : Int32))) d_Mod_shape_45 ⟨_, _, rfl, rfl, hk⟩
def wp_Mod_isShared (a1 : Int32) (μ : Mu) (Q : Int32 → Mu → Prop) : Prop := (((a1 < 0) → Q (0 : Int32) μ) ∧ ((¬ a1 < 0) → ((((μ.1 91 10) ≤ a1) → Q (0 : Int32) μ) ∧ ((¬ (μ.1 91 10) ≤ a1) → Q (1 : Int32) μ))))
set_option maxRecDepth 100000 in
set_option maxHeartbeats 4000000 in
theorem m_Mod_isShared {l : Launch} {a1 : Int32}  {μ : Mu} {Q : Int32 → Mu → Prop} (hk : wp_Mod_isShared a1 μ Q) : Mets (mE l) mt_Mod_isShared false (rmd 0) [.ref 91, .int a1] (lay μ) (PI Q) := by
  unfold wp_Mod_isShared at hk
  refine mets_of (L := [some (.ref 91), some (.int a1)]) (by decide) (Nat.le_of_ble_eq_true rfl) rfl ?_
  refine go_iload_n (pc := 0) (i := 1) d_Mod_isShared_0 rfl rfl ?_
  refine go_if_lt (pc := 1) (tgt := 16) d_Mod_isShared_1 rfl (fun h1 => ?_) (fun h1 => ?_)
  · replace hk := hk.1 h1
    refine go_iconst (pc := 16) (v := 0) d_Mod_isShared_16 (by decide) ?_
    exact go_ret (pc := 17) (r := some (.int (0 : Int32))) ⟨nar_zv (by decide), d_Mod_isShared_17⟩ ⟨_, _, rfl, rfl, hk⟩
  · replace hk := hk.2 h1
    refine go_iload_n (pc := 4) (i := 1) d_Mod_isShared_4 rfl rfl ?_
    refine go_aload_n (pc := 5) (i := 0) d_Mod_isShared_5 rfl rfl ?_
    refine go_getI (pc := 6) sh_model rfl fl_Mod_134 d_Mod_isShared_6 ?_
    refine go_icmp_ge (pc := 9) (tgt := 16) d_Mod_isShared_9 rfl (fun h9 => ?_) (fun h9 => ?_)
    · replace hk := hk.1 h9
      refine go_iconst (pc := 16) (v := 0) d_Mod_isShared_16 (by decide) ?_
      exact go_ret (pc := 17) (r := some (.int (0 : Int32))) ⟨nar_zv (by decide), d_Mod_isShared_17⟩ ⟨_, _, rfl, rfl, hk⟩
    · replace hk := hk.2 h9
      refine go_iconst (pc := 12) (v := 1) d_Mod_isShared_12 (by decide) ?_
      refine go_goto (pc := 13) (tgt := 17) d_Mod_isShared_13 rfl ?_
      exact go_ret (pc := 17) (r := some (.int (1 : Int32))) ⟨nar_zv (by decide), d_Mod_isShared_17⟩ ⟨_, _, rfl, rfl, hk⟩
def wp_Mod_share_j99 (s0 : Int32) (s1 : Int32) (z2 : Nat) (μ : Mu)  (Q : Int32 → Mu → Prop) : Prop := (vp_in s1 104 ∧ ∀ μ6 : Mu, μ6 = setA μ z2 (Int32.toNatClampNeg s1) s0 → ∀ μ7 : Mu, μ7 = setF μ6 91 10 ((μ6.1 91 10) + (1 : Int32)) → Q ((μ7.1 91 10) - (1 : Int32)) μ7)
set_option maxRecDepth 100000 in
set_option maxHeartbeats 4000000 in
theorem g_Mod_share_j99 {l : Launch} {s0 : Int32} {s1 : Int32} {z2 : Nat} (hz2 : shapes[z2]? = some (.inl (0, 104, [])))  {Q : Int32 → Mu → Prop}  {μ : Mu} (hk : wp_Mod_share_j99 s0 s1 z2 μ  Q) : Go (mE l) mt_Mod_share false (rmd 1) 0 0 99 [some (.ref 91), none, none, none] [.int s0, .int s1, .ref z2] (lay μ) (PI Q) := by
  unfold wp_Mod_share_j99 at hk
  obtain ⟨hi5, hk⟩ := hk
  refine go_astIn (pc := 99) hz2 hi5 d_Mod_share_99 (fun μ6 e6 => ?_)
  replace hk := hk μ6 e6
  refine go_aload_n (pc := 100) (i := 0) d_Mod_share_100 rfl rfl ?_
  refine go_dup (pc := 101) d_Mod_share_101 rfl ?_
  refine go_getI (pc := 102) sh_model rfl fl_Mod_134 d_Mod_share_102 ?_
  refine go_iconst (pc := 105) (v := 1) d_Mod_share_105 (by decide) ?_
  refine go_iadd (pc := 106) d_Mod_share_106 ?_
  refine go_putIn (pc := 107) sh_model rfl (fp_Mod_134 rfl) d_Mod_share_107 (fun μ7 e7 => ?_)
  replace hk := hk μ7 e7
  refine go_aload_n (pc := 110) (i := 0) d_Mod_share_110 rfl rfl ?_
  refine go_getI (pc := 111) sh_model rfl fl_Mod_134 d_Mod_share_111 ?_
  refine go_iconst (pc := 114) (v := 1) d_Mod_share_114 (by decide) ?_
  refine go_isub (pc := 115) d_Mod_share_115 ?_
  exact go_ret (pc := 116) (r := some (.int ((μ7.1 91 10) - (1 : Int32)))) d_Mod_share_116 ⟨_, _, rfl, rfl, hk⟩
def wp_Mod_share_j74 (j3 : Int32) (s0 : Int32) (s1 : Int32) (z2 : Nat) (μ : Mu)  (Q : Int32 → Mu → Prop) : Prop := (vp_in s1 104 ∧ ∀ μ4 : Mu, μ4 = setA μ z2 (Int32.toNatClampNeg s1) s0 → (((¬ j3 = (-1 : Int32)) → wp_Mod_share_j99 ((96 : Int32) + j3) ((96 : Int32) + (μ4.1 91 10)) 100 μ4  Q) ∧ ((j3 = (-1 : Int32)) → wp_Mod_share_j99 (-1 : Int32) ((96 : Int32) + (μ4.1 91 10)) 100 μ4  Q)))
set_option maxRecDepth 100000 in
set_option maxHeartbeats 4000000 in
theorem g_Mod_share_j74 {l : Launch} {j3 : Int32} {s0 : Int32} {s1 : Int32} {z2 : Nat} (hz2 : shapes[z2]? = some (.inl (0, 104, [])))  {Q : Int32 → Mu → Prop}  {μ : Mu} (hk : wp_Mod_share_j74 j3 s0 s1 z2 μ  Q) : Go (mE l) mt_Mod_share false (rmd 1) 0 0 74 [some (.ref 91), none, none, some (.int j3)] [.int s0, .int s1, .ref z2] (lay μ) (PI Q) := by
  unfold wp_Mod_share_j74 at hk
  obtain ⟨hi3, hk⟩ := hk
  refine go_astIn (pc := 74) hz2 hi3 d_Mod_share_74 (fun μ4 e4 => ?_)
  replace hk := hk μ4 e4
  refine go_aload_n (pc := 75) (i := 0) d_Mod_share_75 rfl rfl ?_
  refine go_getR (pc := 76) (r := 100) sh_model rfl fl_Mod_35 d_Mod_share_76 ?_
  refine go_bipush (pc := 79) (v := 96) d_Mod_share_79 (by decide) ?_
  refine go_aload_n (pc := 81) (i := 0) d_Mod_share_81 rfl rfl ?_
  refine go_getI (pc := 82) sh_model rfl fl_Mod_134 d_Mod_share_82 ?_
  refine go_iadd (pc := 85) d_Mod_share_85 ?_
  refine go_iload_n (pc := 86) (i := 3) d_Mod_share_86 rfl rfl ?_
  refine go_iconst (pc := 87) (v := (-1)) d_Mod_share_87 (by decide) ?_
  refine go_icmp_ne (pc := 88) (tgt := 95) d_Mod_share_88 rfl (fun h88 => ?_) (fun h88 => ?_)
  · replace hk := hk.1 h88
    refine go_bipush (pc := 95) (v := 96) d_Mod_share_95 (by decide) ?_
    refine go_iload_n (pc := 97) (i := 3) d_Mod_share_97 rfl rfl ?_
    refine go_iadd (pc := 98) d_Mod_share_98 ?_
    refine go_weak (L' := [some (.ref 91), none, none, none]) (lle_at (by simp [lle])) ?_
    exact g_Mod_share_j99 sh_m_right  hk
  · replace hk := hk.2 h88
    refine go_iconst (pc := 91) (v := (-1)) d_Mod_share_91 (by decide) ?_
    refine go_goto (pc := 92) (tgt := 99) d_Mod_share_92 rfl ?_
    refine go_weak (L' := [some (.ref 91), none, none, none]) (lle_at (by simp [lle])) ?_
    exact g_Mod_share_j99 sh_m_right  hk
def wp_Mod_share_j37 (j1 : Int32) (j2 : Int32) (j3 : Int32) (μ : Mu)  (Q : Int32 → Mu → Prop) : Prop := (vp_in ((96 : Int32) + (μ.1 91 10)) 104 ∧ ∀ μ2 : Mu, μ2 = setA μ 98 (Int32.toNatClampNeg ((96 : Int32) + (μ.1 91 10))) j1 → (((¬ j2 = (-1 : Int32)) → wp_Mod_share_j74 j3 ((96 : Int32) + j2) ((96 : Int32) + (μ2.1 91 10)) 99 μ2  Q) ∧ ((j2 = (-1 : Int32)) → wp_Mod_share_j74 j3 (-1 : Int32) ((96 : Int32) + (μ2.1 91 10)) 99 μ2  Q)))
set_option maxRecDepth 100000 in
set_option maxHeartbeats 4000000 in
theorem g_Mod_share_j37 {l : Launch} {j1 : Int32} {j2 : Int32} {j3 : Int32}   {Q : Int32 → Mu → Prop}  {μ : Mu} (hk : wp_Mod_share_j37 j1 j2 j3 μ  Q) : Go (mE l) mt_Mod_share false (rmd 1) 0 0 37 [some (.ref 91), some (.int j1), some (.int j2), some (.int j3)] [] (lay μ) (PI Q) := by
  unfold wp_Mod_share_j37 at hk
  refine go_aload_n (pc := 37) (i := 0) d_Mod_share_37 rfl rfl ?_
  refine go_getR (pc := 38) (r := 98) sh_model rfl fl_Mod_29 d_Mod_share_38 ?_
  refine go_bipush (pc := 41) (v := 96) d_Mod_share_41 (by decide) ?_
  refine go_aload_n (pc := 43) (i := 0) d_Mod_share_43 rfl rfl ?_
  refine go_getI (pc := 44) sh_model rfl fl_Mod_134 d_Mod_share_44 ?_
  refine go_iadd (pc := 47) d_Mod_share_47 ?_
  refine go_iload_n (pc := 48) (i := 1) d_Mod_share_48 rfl rfl ?_
  obtain ⟨hi1, hk⟩ := hk
  refine go_astIn (pc := 49) sh_m_num hi1 d_Mod_share_49 (fun μ2 e2 => ?_)
  replace hk := hk μ2 e2
  refine go_aload_n (pc := 50) (i := 0) d_Mod_share_50 rfl rfl ?_
  refine go_getR (pc := 51) (r := 99) sh_model rfl fl_Mod_32 d_Mod_share_51 ?_
  refine go_bipush (pc := 54) (v := 96) d_Mod_share_54 (by decide) ?_
  refine go_aload_n (pc := 56) (i := 0) d_Mod_share_56 rfl rfl ?_
  refine go_getI (pc := 57) sh_model rfl fl_Mod_134 d_Mod_share_57 ?_
  refine go_iadd (pc := 60) d_Mod_share_60 ?_
  refine go_iload_n (pc := 61) (i := 2) d_Mod_share_61 rfl rfl ?_
  refine go_iconst (pc := 62) (v := (-1)) d_Mod_share_62 (by decide) ?_
  refine go_icmp_ne (pc := 63) (tgt := 70) d_Mod_share_63 rfl (fun h63 => ?_) (fun h63 => ?_)
  · replace hk := hk.1 h63
    refine go_bipush (pc := 70) (v := 96) d_Mod_share_70 (by decide) ?_
    refine go_iload_n (pc := 72) (i := 2) d_Mod_share_72 rfl rfl ?_
    refine go_iadd (pc := 73) d_Mod_share_73 ?_
    refine go_weak (L' := [some (.ref 91), none, none, some (.int j3)]) (lle_at (by simp [lle])) ?_
    exact g_Mod_share_j74 sh_m_left  hk
  · replace hk := hk.2 h63
    refine go_iconst (pc := 66) (v := (-1)) d_Mod_share_66 (by decide) ?_
    refine go_goto (pc := 67) (tgt := 74) d_Mod_share_67 rfl ?_
    refine go_weak (L' := [some (.ref 91), none, none, some (.int j3)]) (lle_at (by simp [lle])) ?_
    exact g_Mod_share_j74 sh_m_left  hk
def wp_Mod_share_j22 (j1 : Int32) (j2 : Int32) (j3 : Int32) (μ : Mu)  (Q : Int32 → Mu → Prop) : Prop := (((j3 = (-1 : Int32)) → wp_Mod_share_j37 j1 j2 j3 μ  Q) ∧ ((¬ j3 = (-1 : Int32)) → wp_Mod_isShared j3 μ (fun x9 μ8 => (((¬ x9 = 0) → wp_Mod_share_j37 j1 j2 j3 μ8  Q) ∧ ((x9 = 0) → Q (-1 : Int32) μ8)))))
set_option maxRecDepth 100000 in
set_option maxHeartbeats 4000000 in
theorem g_Mod_share_j22 {l : Launch} {j1 : Int32} {j2 : Int32} {j3 : Int32}   {Q : Int32 → Mu → Prop}  {μ : Mu} (hk : wp_Mod_share_j22 j1 j2 j3 μ  Q) : Go (mE l) mt_Mod_share false (rmd 1) 0 0 22 [some (.ref 91), some (.int j1), some (.int j2), some (.int j3)] [] (lay μ) (PI Q) := by
  unfold wp_Mod_share_j22 at hk
  refine go_iload_n (pc := 22) (i := 3) d_Mod_share_22 rfl rfl ?_
  refine go_iconst (pc := 23) (v := (-1)) d_Mod_share_23 (by decide) ?_
  refine go_icmp_eq (pc := 24) (tgt := 37) d_Mod_share_24 rfl (fun h24 => ?_) (fun h24 => ?_)
  · replace hk := hk.1 h24
    exact g_Mod_share_j37   hk
  · replace hk := hk.2 h24
    refine go_aload_n (pc := 27) (i := 0) d_Mod_share_27 rfl rfl ?_
    refine go_iload_n (pc := 28) (i := 3) d_Mod_share_28 rfl rfl ?_
    refine go_callV (pc := 29) (m_Mod_isShared  hk) cz_Mod_isShared cv_Mod_isShared (Or.inl lk_Mod_137) (lay_at sh_model) rfl rfl rfl (Nat.le_of_ble_eq_true rfl) ⟨by decide, by decide⟩ rfl rfl d_Mod_share_29 (fun r M' hr => ?_)
    obtain ⟨x9, μ8, rfl, rfl, hk⟩ := hr
    try dsimp only [Option.toList, List.cons_append, List.nil_append]
    refine go_if_ne (pc := 32) (tgt := 37) d_Mod_share_32 rfl (fun h32 => ?_) (fun h32 => ?_)
    · replace hk := hk.1 h32
      exact g_Mod_share_j37   hk
    · replace hk := hk.2 h32
      refine go_iconst (pc := 35) (v := (-1)) d_Mod_share_35 (by decide) ?_
      exact go_ret (pc := 36) (r := some (.int (-1 : Int32))) d_Mod_share_36 ⟨_, _, rfl, rfl, hk⟩
def wp_Mod_share (a1 : Int32) (a2 : Int32) (a3 : Int32) (μ : Mu) (Q : Int32 → Mu → Prop) : Prop := ((((μ.1 91 10) = (8 : Int32)) → Q (-1 : Int32) μ) ∧ ((¬ (μ.1 91 10) = (8 : Int32)) → (((a2 = (-1 : Int32)) → wp_Mod_share_j22 a1 a2 a3 μ  Q) ∧ ((¬ a2 = (-1 : Int32)) → wp_Mod_isShared a2 μ (fun x11 μ10 => (((x11 = 0) → Q (-1 : Int32) μ10) ∧ ((¬ x11 = 0) → wp_Mod_share_j22 a1 a2 a3 μ10  Q)))))))
set_option maxRecDepth 100000 in
set_option maxHeartbeats 4000000 in
theorem m_Mod_share {l : Launch} {a1 : Int32} {a2 : Int32} {a3 : Int32}  {μ : Mu} {Q : Int32 → Mu → Prop} (hk : wp_Mod_share a1 a2 a3 μ Q) : Mets (mE l) mt_Mod_share false (rmd 1) [.ref 91, .int a1, .int a2, .int a3] (lay μ) (PI Q) := by
  unfold wp_Mod_share at hk
  refine mets_of (L := [some (.ref 91), some (.int a1), some (.int a2), some (.int a3)]) (by decide) (Nat.le_of_ble_eq_true rfl) rfl ?_
  refine go_aload_n (pc := 0) (i := 0) d_Mod_share_0 rfl rfl ?_
  refine go_getI (pc := 1) sh_model rfl fl_Mod_134 d_Mod_share_1 ?_
  refine go_bipush (pc := 4) (v := 8) d_Mod_share_4 (by decide) ?_
  refine go_icmp_eq (pc := 6) (tgt := 35) d_Mod_share_6 rfl (fun h6 => ?_) (fun h6 => ?_)
  · replace hk := hk.1 h6
    refine go_iconst (pc := 35) (v := (-1)) d_Mod_share_35 (by decide) ?_
    exact go_ret (pc := 36) (r := some (.int (-1 : Int32))) d_Mod_share_36 ⟨_, _, rfl, rfl, hk⟩
  · replace hk := hk.2 h6
    refine go_iload_n (pc := 9) (i := 2) d_Mod_share_9 rfl rfl ?_
    refine go_iconst (pc := 10) (v := (-1)) d_Mod_share_10 (by decide) ?_
    refine go_icmp_eq (pc := 11) (tgt := 22) d_Mod_share_11 rfl (fun h11 => ?_) (fun h11 => ?_)
    · replace hk := hk.1 h11
      exact g_Mod_share_j22   hk
    · replace hk := hk.2 h11
      refine go_aload_n (pc := 14) (i := 0) d_Mod_share_14 rfl rfl ?_
      refine go_iload_n (pc := 15) (i := 2) d_Mod_share_15 rfl rfl ?_
      refine go_callV (pc := 16) (m_Mod_isShared  hk) cz_Mod_isShared cv_Mod_isShared (Or.inl lk_Mod_137) (lay_at sh_model) rfl rfl rfl (Nat.le_of_ble_eq_true rfl) ⟨by decide, by decide⟩ rfl rfl d_Mod_share_16 (fun r M' hr => ?_)
      obtain ⟨x11, μ10, rfl, rfl, hk⟩ := hr
      try dsimp only [Option.toList, List.cons_append, List.nil_append]
      refine go_if_eq (pc := 19) (tgt := 35) d_Mod_share_19 rfl (fun h19 => ?_) (fun h19 => ?_)
      · replace hk := hk.1 h19
        refine go_iconst (pc := 35) (v := (-1)) d_Mod_share_35 (by decide) ?_
        exact go_ret (pc := 36) (r := some (.int (-1 : Int32))) d_Mod_share_36 ⟨_, _, rfl, rfl, hk⟩
      · replace hk := hk.2 h19
        exact g_Mod_share_j22   hk
def wp_Mod_reserve (a1 : Int32) (a2 : Int32) (a3 : Int32) (μ : Mu) (Q : Int32 → Mu → Prop) : Prop := wp_Mod_four a1 μ (fun x2 μ1 => (((x2 = 0) → Q (0 : Int32) μ1) ∧ ((¬ x2 = 0) → (((a2 < (1 : Int32)) → Q (0 : Int32) μ1) ∧ ((¬ a2 < (1 : Int32)) → ((((24 : Int32) < a2) → Q (0 : Int32) μ1) ∧ ((¬ (24 : Int32) < a2) → (((a3 < (1 : Int32)) → Q (0 : Int32) μ1) ∧ ((¬ a3 < (1 : Int32)) → ((((3000 : Int32) < a3) → Q (0 : Int32) μ1) ∧ ((¬ (3000 : Int32) < a3) → (vp_in a1 4 ∧ ((((μ1.2.1 104 (Int32.toNatClampNeg a1)) ≤ 0) → ((((((((μ1.2.1 104 (Int32.toNatClampNeg (0 : Int32))) + (μ1.2.1 104 (Int32.toNatClampNeg (1 : Int32)))) + (μ1.2.1 104 (Int32.toNatClampNeg (2 : Int32)))) + (μ1.2.1 104 (Int32.toNatClampNeg (3 : Int32)))) + a2) ≤ (48 : Int32)) → (vp_in a1 4 ∧ ∀ μ5 : Mu, μ5 = setA μ1 104 (Int32.toNatClampNeg a1) a2 → (vp_in a1 4 ∧ ∀ μ7 : Mu, μ7 = setA μ5 105 (Int32.toNatClampNeg a1) a3 → Q (1 : Int32) μ7))) ∧ ((¬ (((((μ1.2.1 104 (Int32.toNatClampNeg (0 : Int32))) + (μ1.2.1 104 (Int32.toNatClampNeg (1 : Int32)))) + (μ1.2.1 104 (Int32.toNatClampNeg (2 : Int32)))) + (μ1.2.1 104 (Int32.toNatClampNeg (3 : Int32)))) + a2) ≤ (48 : Int32)) → Q (0 : Int32) μ1))) ∧ ((¬ (μ1.2.1 104 (Int32.toNatClampNeg a1)) ≤ 0) → Q (0 : Int32) μ1))))))))))))))
set_option maxRecDepth 100000 in
set_option maxHeartbeats 4000000 in
theorem m_Mod_reserve {l : Launch} {a1 : Int32} {a2 : Int32} {a3 : Int32}  {μ : Mu} {Q : Int32 → Mu → Prop} (hk : wp_Mod_reserve a1 a2 a3 μ Q) : Mets (mE l) mt_Mod_reserve false (rmd 1) [.ref 91, .int a1, .int a2, .int a3] (lay μ) (PI Q) := by
  unfold wp_Mod_reserve at hk
  refine mets_of (L := [some (.ref 91), some (.int a1), some (.int a2), some (.int a3)]) (by decide) (Nat.le_of_ble_eq_true rfl) rfl ?_
  refine go_iload_n (pc := 0) (i := 1) d_Mod_reserve_0 rfl rfl ?_
  refine go_callS (pc := 1) (m_Mod_four  hk) cz_Mod_four sm_Mod_four (Or.inl lk_Mod_105) rfl rfl (Nat.le_of_ble_eq_true rfl) ⟨by decide, by decide⟩ rfl rfl d_Mod_reserve_1 (fun r M' hr => ?_)
  obtain ⟨x2, μ1, rfl, rfl, hk⟩ := hr
  try dsimp only [Option.toList, List.cons_append, List.nil_append]
  refine go_if_eq (pc := 4) (tgt := 39) d_Mod_reserve_4 rfl (fun h4 => ?_) (fun h4 => ?_)
  · replace hk := hk.1 h4
    refine go_iconst (pc := 39) (v := 0) d_Mod_reserve_39 (by decide) ?_
    exact go_ret (pc := 40) (r := some (.int (0 : Int32))) ⟨nar_zv (by decide), d_Mod_reserve_40⟩ ⟨_, _, rfl, rfl, hk⟩
  · replace hk := hk.2 h4
    refine go_iload_n (pc := 7) (i := 2) d_Mod_reserve_7 rfl rfl ?_
    refine go_iconst (pc := 8) (v := 1) d_Mod_reserve_8 (by decide) ?_
    refine go_icmp_lt (pc := 9) (tgt := 39) d_Mod_reserve_9 rfl (fun h9 => ?_) (fun h9 => ?_)
    · replace hk := hk.1 h9
      refine go_iconst (pc := 39) (v := 0) d_Mod_reserve_39 (by decide) ?_
      exact go_ret (pc := 40) (r := some (.int (0 : Int32))) ⟨nar_zv (by decide), d_Mod_reserve_40⟩ ⟨_, _, rfl, rfl, hk⟩
    · replace hk := hk.2 h9
      refine go_iload_n (pc := 12) (i := 2) d_Mod_reserve_12 rfl rfl ?_
      refine go_bipush (pc := 13) (v := 24) d_Mod_reserve_13 (by decide) ?_
      refine go_icmp_gt (pc := 15) (tgt := 39) d_Mod_reserve_15 rfl (fun h15 => ?_) (fun h15 => ?_)
      · replace hk := hk.1 h15
        refine go_iconst (pc := 39) (v := 0) d_Mod_reserve_39 (by decide) ?_
        exact go_ret (pc := 40) (r := some (.int (0 : Int32))) ⟨nar_zv (by decide), d_Mod_reserve_40⟩ ⟨_, _, rfl, rfl, hk⟩
      · replace hk := hk.2 h15
        refine go_iload_n (pc := 18) (i := 3) d_Mod_reserve_18 rfl rfl ?_
        refine go_iconst (pc := 19) (v := 1) d_Mod_reserve_19 (by decide) ?_
        refine go_icmp_lt (pc := 20) (tgt := 39) d_Mod_reserve_20 rfl (fun h20 => ?_) (fun h20 => ?_)
        · replace hk := hk.1 h20
          refine go_iconst (pc := 39) (v := 0) d_Mod_reserve_39 (by decide) ?_
          exact go_ret (pc := 40) (r := some (.int (0 : Int32))) ⟨nar_zv (by decide), d_Mod_reserve_40⟩ ⟨_, _, rfl, rfl, hk⟩
        · replace hk := hk.2 h20
          refine go_iload_n (pc := 23) (i := 3) d_Mod_reserve_23 rfl rfl ?_
          refine go_sipush (pc := 24) (v := 3000) d_Mod_reserve_24 (by decide) ?_
          refine go_icmp_gt (pc := 27) (tgt := 39) d_Mod_reserve_27 rfl (fun h27 => ?_) (fun h27 => ?_)
          · replace hk := hk.1 h27
            refine go_iconst (pc := 39) (v := 0) d_Mod_reserve_39 (by decide) ?_
            exact go_ret (pc := 40) (r := some (.int (0 : Int32))) ⟨nar_zv (by decide), d_Mod_reserve_40⟩ ⟨_, _, rfl, rfl, hk⟩
          · replace hk := hk.2 h27
            refine go_aload_n (pc := 30) (i := 0) d_Mod_reserve_30 rfl rfl ?_
            refine go_getR (pc := 31) (r := 104) sh_model rfl fl_Mod_47 d_Mod_reserve_31 ?_
            refine go_iload_n (pc := 34) (i := 1) d_Mod_reserve_34 rfl rfl ?_
            obtain ⟨hi3, hk⟩ := hk
            refine go_aldI (pc := 35) sh_m_cells hi3 d_Mod_reserve_35 ?_
            refine go_if_le (pc := 36) (tgt := 41) d_Mod_reserve_36 rfl (fun h36 => ?_) (fun h36 => ?_)
            · replace hk := hk.1 h36
              refine go_aload_n (pc := 41) (i := 0) d_Mod_reserve_41 rfl rfl ?_
              refine go_getR (pc := 42) (r := 104) sh_model rfl fl_Mod_47 d_Mod_reserve_42 ?_
              refine go_iconst (pc := 45) (v := 0) d_Mod_reserve_45 (by decide) ?_
              refine go_aldI (pc := 46) sh_m_cells (in_c (by decide) (by decide)) d_Mod_reserve_46 ?_
              refine go_aload_n (pc := 47) (i := 0) d_Mod_reserve_47 rfl rfl ?_
              refine go_getR (pc := 48) (r := 104) sh_model rfl fl_Mod_47 d_Mod_reserve_48 ?_
              refine go_iconst (pc := 51) (v := 1) d_Mod_reserve_51 (by decide) ?_
              refine go_aldI (pc := 52) sh_m_cells (in_c (by decide) (by decide)) d_Mod_reserve_52 ?_
              refine go_iadd (pc := 53) d_Mod_reserve_53 ?_
              refine go_aload_n (pc := 54) (i := 0) d_Mod_reserve_54 rfl rfl ?_
              refine go_getR (pc := 55) (r := 104) sh_model rfl fl_Mod_47 d_Mod_reserve_55 ?_
              refine go_iconst (pc := 58) (v := 2) d_Mod_reserve_58 (by decide) ?_
              refine go_aldI (pc := 59) sh_m_cells (in_c (by decide) (by decide)) d_Mod_reserve_59 ?_
              refine go_iadd (pc := 60) d_Mod_reserve_60 ?_
              refine go_aload_n (pc := 61) (i := 0) d_Mod_reserve_61 rfl rfl ?_
              refine go_getR (pc := 62) (r := 104) sh_model rfl fl_Mod_47 d_Mod_reserve_62 ?_
              refine go_iconst (pc := 65) (v := 3) d_Mod_reserve_65 (by decide) ?_
              refine go_aldI (pc := 66) sh_m_cells (in_c (by decide) (by decide)) d_Mod_reserve_66 ?_
              refine go_iadd (pc := 67) d_Mod_reserve_67 ?_
              refine go_iload_n (pc := 68) (i := 2) d_Mod_reserve_68 rfl rfl ?_
              refine go_iadd (pc := 69) d_Mod_reserve_69 ?_
              refine go_bipush (pc := 70) (v := 48) d_Mod_reserve_70 (by decide) ?_
              refine go_icmp_le (pc := 72) (tgt := 77) d_Mod_reserve_72 rfl (fun h72 => ?_) (fun h72 => ?_)
              · replace hk := hk.1 h72
                refine go_aload_n (pc := 77) (i := 0) d_Mod_reserve_77 rfl rfl ?_
                refine go_getR (pc := 78) (r := 104) sh_model rfl fl_Mod_47 d_Mod_reserve_78 ?_
                refine go_iload_n (pc := 81) (i := 1) d_Mod_reserve_81 rfl rfl ?_
                refine go_iload_n (pc := 82) (i := 2) d_Mod_reserve_82 rfl rfl ?_
                obtain ⟨hi4, hk⟩ := hk
                refine go_astIn (pc := 83) sh_m_cells hi4 d_Mod_reserve_83 (fun μ5 e5 => ?_)
                replace hk := hk μ5 e5
                refine go_aload_n (pc := 84) (i := 0) d_Mod_reserve_84 rfl rfl ?_
                refine go_getR (pc := 85) (r := 105) sh_model rfl fl_Mod_50 d_Mod_reserve_85 ?_
                refine go_iload_n (pc := 88) (i := 1) d_Mod_reserve_88 rfl rfl ?_
                refine go_iload_n (pc := 89) (i := 3) d_Mod_reserve_89 rfl rfl ?_
                obtain ⟨hi6, hk⟩ := hk
                refine go_astIn (pc := 90) sh_m_most hi6 d_Mod_reserve_90 (fun μ7 e7 => ?_)
                replace hk := hk μ7 e7
                refine go_iconst (pc := 91) (v := 1) d_Mod_reserve_91 (by decide) ?_
                exact go_ret (pc := 92) (r := some (.int (1 : Int32))) ⟨nar_zv (by decide), d_Mod_reserve_92⟩ ⟨_, _, rfl, rfl, hk⟩
              · replace hk := hk.2 h72
                refine go_iconst (pc := 75) (v := 0) d_Mod_reserve_75 (by decide) ?_
                exact go_ret (pc := 76) (r := some (.int (0 : Int32))) ⟨nar_zv (by decide), d_Mod_reserve_76⟩ ⟨_, _, rfl, rfl, hk⟩
            · replace hk := hk.2 h36
              refine go_iconst (pc := 39) (v := 0) d_Mod_reserve_39 (by decide) ?_
              exact go_ret (pc := 40) (r := some (.int (0 : Int32))) ⟨nar_zv (by decide), d_Mod_reserve_40⟩ ⟨_, _, rfl, rfl, hk⟩
def wp_Mod_permit (a1 : Int32) (a2 : Int32) (a3 : Int32) (μ : Mu) (Q : Int32 → Mu → Prop) : Prop := wp_Mod_four a1 μ (fun x2 μ1 => (((x2 = 0) → Q (0 : Int32) μ1) ∧ ((¬ x2 = 0) → wp_Mod_four a2 μ1 (fun x4 μ3 => (((x4 = 0) → Q (0 : Int32) μ3) ∧ ((¬ x4 = 0) → (((a3 < 0) → Q (0 : Int32) μ3) ∧ ((¬ a3 < 0) → (((a3 ≤ (7 : Int32)) → (vp_in (((4 : Int32) * a1) + a2) 16 ∧ ∀ μ6 : Mu, μ6 = setA μ3 121 (Int32.toNatClampNeg (((4 : Int32) * a1) + a2)) a3 → Q (1 : Int32) μ6)) ∧ ((¬ a3 ≤ (7 : Int32)) → Q (0 : Int32) μ3))))))))))
set_option maxRecDepth 100000 in
set_option maxHeartbeats 4000000 in
theorem m_Mod_permit {l : Launch} {a1 : Int32} {a2 : Int32} {a3 : Int32}  {μ : Mu} {Q : Int32 → Mu → Prop} (hk : wp_Mod_permit a1 a2 a3 μ Q) : Mets (mE l) mt_Mod_permit false (rmd 1) [.ref 91, .int a1, .int a2, .int a3] (lay μ) (PI Q) := by
  unfold wp_Mod_permit at hk
  refine mets_of (L := [some (.ref 91), some (.int a1), some (.int a2), some (.int a3)]) (by decide) (Nat.le_of_ble_eq_true rfl) rfl ?_
  refine go_iload_n (pc := 0) (i := 1) d_Mod_permit_0 rfl rfl ?_
  refine go_callS (pc := 1) (m_Mod_four  hk) cz_Mod_four sm_Mod_four (Or.inl lk_Mod_105) rfl rfl (Nat.le_of_ble_eq_true rfl) ⟨by decide, by decide⟩ rfl rfl d_Mod_permit_1 (fun r M' hr => ?_)
  obtain ⟨x2, μ1, rfl, rfl, hk⟩ := hr
  try dsimp only [Option.toList, List.cons_append, List.nil_append]
  refine go_if_eq (pc := 4) (tgt := 24) d_Mod_permit_4 rfl (fun h4 => ?_) (fun h4 => ?_)
  · replace hk := hk.1 h4
    refine go_iconst (pc := 24) (v := 0) d_Mod_permit_24 (by decide) ?_
    exact go_ret (pc := 25) (r := some (.int (0 : Int32))) ⟨nar_zv (by decide), d_Mod_permit_25⟩ ⟨_, _, rfl, rfl, hk⟩
  · replace hk := hk.2 h4
    refine go_iload_n (pc := 7) (i := 2) d_Mod_permit_7 rfl rfl ?_
    refine go_callS (pc := 8) (m_Mod_four  hk) cz_Mod_four sm_Mod_four (Or.inl lk_Mod_105) rfl rfl (Nat.le_of_ble_eq_true rfl) ⟨by decide, by decide⟩ rfl rfl d_Mod_permit_8 (fun r M' hr => ?_)
    obtain ⟨x4, μ3, rfl, rfl, hk⟩ := hr
    try dsimp only [Option.toList, List.cons_append, List.nil_append]
    refine go_if_eq (pc := 11) (tgt := 24) d_Mod_permit_11 rfl (fun h11 => ?_) (fun h11 => ?_)
    · replace hk := hk.1 h11
      refine go_iconst (pc := 24) (v := 0) d_Mod_permit_24 (by decide) ?_
      exact go_ret (pc := 25) (r := some (.int (0 : Int32))) ⟨nar_zv (by decide), d_Mod_permit_25⟩ ⟨_, _, rfl, rfl, hk⟩
    · replace hk := hk.2 h11
      refine go_iload_n (pc := 14) (i := 3) d_Mod_permit_14 rfl rfl ?_
      refine go_if_lt (pc := 15) (tgt := 24) d_Mod_permit_15 rfl (fun h15 => ?_) (fun h15 => ?_)
      · replace hk := hk.1 h15
        refine go_iconst (pc := 24) (v := 0) d_Mod_permit_24 (by decide) ?_
        exact go_ret (pc := 25) (r := some (.int (0 : Int32))) ⟨nar_zv (by decide), d_Mod_permit_25⟩ ⟨_, _, rfl, rfl, hk⟩
      · replace hk := hk.2 h15
        refine go_iload_n (pc := 18) (i := 3) d_Mod_permit_18 rfl rfl ?_
        refine go_bipush (pc := 19) (v := 7) d_Mod_permit_19 (by decide) ?_
        refine go_icmp_le (pc := 21) (tgt := 26) d_Mod_permit_21 rfl (fun h21 => ?_) (fun h21 => ?_)
        · replace hk := hk.1 h21
          refine go_aload_n (pc := 26) (i := 0) d_Mod_permit_26 rfl rfl ?_
          refine go_getR (pc := 27) (r := 121) sh_model rfl fl_Mod_98 d_Mod_permit_27 ?_
          refine go_iconst (pc := 30) (v := 4) d_Mod_permit_30 (by decide) ?_
          refine go_iload_n (pc := 31) (i := 1) d_Mod_permit_31 rfl rfl ?_
          refine go_imul (pc := 32) d_Mod_permit_32 ?_
          refine go_iload_n (pc := 33) (i := 2) d_Mod_permit_33 rfl rfl ?_
          refine go_iadd (pc := 34) d_Mod_permit_34 ?_
          refine go_iload_n (pc := 35) (i := 3) d_Mod_permit_35 rfl rfl ?_
          obtain ⟨hi5, hk⟩ := hk
          refine go_astIn (pc := 36) sh_m_allowed hi5 d_Mod_permit_36 (fun μ6 e6 => ?_)
          replace hk := hk μ6 e6
          refine go_iconst (pc := 37) (v := 1) d_Mod_permit_37 (by decide) ?_
          exact go_ret (pc := 38) (r := some (.int (1 : Int32))) ⟨nar_zv (by decide), d_Mod_permit_38⟩ ⟨_, _, rfl, rfl, hk⟩
        · replace hk := hk.2 h21
          refine go_iconst (pc := 24) (v := 0) d_Mod_permit_24 (by decide) ?_
          exact go_ret (pc := 25) (r := some (.int (0 : Int32))) ⟨nar_zv (by decide), d_Mod_permit_25⟩ ⟨_, _, rfl, rfl, hk⟩
def wp_Mod_launch (a1 : Int32) (a2 : Int32) (μ : Mu) (Q : Int32 → Mu → Prop) : Prop := wp_Mod_four a1 μ (fun x2 μ1 => (((x2 = 0) → Q (0 : Int32) μ1) ∧ ((¬ x2 = 0) → wp_Mod_four a2 μ1 (fun x4 μ3 => (((x4 = 0) → Q (0 : Int32) μ3) ∧ ((¬ x4 = 0) → (vp_in a1 4 ∧ (((¬ (μ3.2.1 106 (Int32.toNatClampNeg a1)) = 0) → Q (0 : Int32) μ3) ∧ (((μ3.2.1 106 (Int32.toNatClampNeg a1)) = 0) → (vp_in a1 4 ∧ ((((μ3.2.1 104 (Int32.toNatClampNeg a1)) = 0) → Q (0 : Int32) μ3) ∧ ((¬ (μ3.2.1 104 (Int32.toNatClampNeg a1)) = 0) → (vp_in a2 4 ∧ (((¬ (μ3.2.1 96 (Int32.toNatClampNeg a2)) = 0) → (vp_in a1 4 ∧ ∀ μ9 : Mu, μ9 = setA μ3 106 (Int32.toNatClampNeg a1) (1 : Int32) → (vp_in a1 4 ∧ ∀ μ11 : Mu, μ11 = setA μ9 107 (Int32.toNatClampNeg a1) a2 → (vp_in a1 4 ∧ ∀ μ13 : Mu, μ13 = setA μ11 108 (Int32.toNatClampNeg a1) (0 : Int32) → Q (1 : Int32) μ13)))) ∧ (((μ3.2.1 96 (Int32.toNatClampNeg a2)) = 0) → Q (0 : Int32) μ3)))))))))))))))
set_option maxRecDepth 100000 in
set_option maxHeartbeats 4000000 in
theorem m_Mod_launch {l : Launch} {a1 : Int32} {a2 : Int32}  {μ : Mu} {Q : Int32 → Mu → Prop} (hk : wp_Mod_launch a1 a2 μ Q) : Mets (mE l) mt_Mod_launch false (rmd 1) [.ref 91, .int a1, .int a2] (lay μ) (PI Q) := by
  unfold wp_Mod_launch at hk
  refine mets_of (L := [some (.ref 91), some (.int a1), some (.int a2)]) (by decide) (Nat.le_of_ble_eq_true rfl) rfl ?_
  refine go_iload_n (pc := 0) (i := 1) d_Mod_launch_0 rfl rfl ?_
  refine go_callS (pc := 1) (m_Mod_four  hk) cz_Mod_four sm_Mod_four (Or.inl lk_Mod_105) rfl rfl (Nat.le_of_ble_eq_true rfl) ⟨by decide, by decide⟩ rfl rfl d_Mod_launch_1 (fun r M' hr => ?_)
  obtain ⟨x2, μ1, rfl, rfl, hk⟩ := hr
  try dsimp only [Option.toList, List.cons_append, List.nil_append]
  refine go_if_eq (pc := 4) (tgt := 41) d_Mod_launch_4 rfl (fun h4 => ?_) (fun h4 => ?_)
  · replace hk := hk.1 h4
    refine go_iconst (pc := 41) (v := 0) d_Mod_launch_41 (by decide) ?_
    exact go_ret (pc := 42) (r := some (.int (0 : Int32))) ⟨nar_zv (by decide), d_Mod_launch_42⟩ ⟨_, _, rfl, rfl, hk⟩
  · replace hk := hk.2 h4
    refine go_iload_n (pc := 7) (i := 2) d_Mod_launch_7 rfl rfl ?_
    refine go_callS (pc := 8) (m_Mod_four  hk) cz_Mod_four sm_Mod_four (Or.inl lk_Mod_105) rfl rfl (Nat.le_of_ble_eq_true rfl) ⟨by decide, by decide⟩ rfl rfl d_Mod_launch_8 (fun r M' hr => ?_)
    obtain ⟨x4, μ3, rfl, rfl, hk⟩ := hr
    try dsimp only [Option.toList, List.cons_append, List.nil_append]
    refine go_if_eq (pc := 11) (tgt := 41) d_Mod_launch_11 rfl (fun h11 => ?_) (fun h11 => ?_)
    · replace hk := hk.1 h11
      refine go_iconst (pc := 41) (v := 0) d_Mod_launch_41 (by decide) ?_
      exact go_ret (pc := 42) (r := some (.int (0 : Int32))) ⟨nar_zv (by decide), d_Mod_launch_42⟩ ⟨_, _, rfl, rfl, hk⟩
    · replace hk := hk.2 h11
      refine go_aload_n (pc := 14) (i := 0) d_Mod_launch_14 rfl rfl ?_
      refine go_getR (pc := 15) (r := 106) sh_model rfl fl_Mod_53 d_Mod_launch_15 ?_
      refine go_iload_n (pc := 18) (i := 1) d_Mod_launch_18 rfl rfl ?_
      obtain ⟨hi5, hk⟩ := hk
      refine go_aldI (pc := 19) sh_m_states hi5 d_Mod_launch_19 ?_
      refine go_if_ne (pc := 20) (tgt := 41) d_Mod_launch_20 rfl (fun h20 => ?_) (fun h20 => ?_)
      · replace hk := hk.1 h20
        refine go_iconst (pc := 41) (v := 0) d_Mod_launch_41 (by decide) ?_
        exact go_ret (pc := 42) (r := some (.int (0 : Int32))) ⟨nar_zv (by decide), d_Mod_launch_42⟩ ⟨_, _, rfl, rfl, hk⟩
      · replace hk := hk.2 h20
        refine go_aload_n (pc := 23) (i := 0) d_Mod_launch_23 rfl rfl ?_
        refine go_getR (pc := 24) (r := 104) sh_model rfl fl_Mod_47 d_Mod_launch_24 ?_
        refine go_iload_n (pc := 27) (i := 1) d_Mod_launch_27 rfl rfl ?_
        obtain ⟨hi6, hk⟩ := hk
        refine go_aldI (pc := 28) sh_m_cells hi6 d_Mod_launch_28 ?_
        refine go_if_eq (pc := 29) (tgt := 41) d_Mod_launch_29 rfl (fun h29 => ?_) (fun h29 => ?_)
        · replace hk := hk.1 h29
          refine go_iconst (pc := 41) (v := 0) d_Mod_launch_41 (by decide) ?_
          exact go_ret (pc := 42) (r := some (.int (0 : Int32))) ⟨nar_zv (by decide), d_Mod_launch_42⟩ ⟨_, _, rfl, rfl, hk⟩
        · replace hk := hk.2 h29
          refine go_aload_n (pc := 32) (i := 0) d_Mod_launch_32 rfl rfl ?_
          refine go_getR (pc := 33) (r := 96) sh_model rfl fl_Mod_22 d_Mod_launch_33 ?_
          refine go_iload_n (pc := 36) (i := 2) d_Mod_launch_36 rfl rfl ?_
          obtain ⟨hi7, hk⟩ := hk
          refine go_aldZ (pc := 37) sh_m_sealed hi7 d_Mod_launch_37 ?_
          refine go_if_ne (pc := 38) (tgt := 43) d_Mod_launch_38 rfl (fun h38 => ?_) (fun h38 => ?_)
          · replace hk := hk.1 h38
            refine go_aload_n (pc := 43) (i := 0) d_Mod_launch_43 rfl rfl ?_
            refine go_getR (pc := 44) (r := 106) sh_model rfl fl_Mod_53 d_Mod_launch_44 ?_
            refine go_iload_n (pc := 47) (i := 1) d_Mod_launch_47 rfl rfl ?_
            refine go_iconst (pc := 48) (v := 1) d_Mod_launch_48 (by decide) ?_
            obtain ⟨hi8, hk⟩ := hk
            refine go_astIn (pc := 49) sh_m_states hi8 d_Mod_launch_49 (fun μ9 e9 => ?_)
            replace hk := hk μ9 e9
            refine go_aload_n (pc := 50) (i := 0) d_Mod_launch_50 rfl rfl ?_
            refine go_getR (pc := 51) (r := 107) sh_model rfl fl_Mod_56 d_Mod_launch_51 ?_
            refine go_iload_n (pc := 54) (i := 1) d_Mod_launch_54 rfl rfl ?_
            refine go_iload_n (pc := 55) (i := 2) d_Mod_launch_55 rfl rfl ?_
            obtain ⟨hi10, hk⟩ := hk
            refine go_astIn (pc := 56) sh_m_program hi10 d_Mod_launch_56 (fun μ11 e11 => ?_)
            replace hk := hk μ11 e11
            refine go_aload_n (pc := 57) (i := 0) d_Mod_launch_57 rfl rfl ?_
            refine go_getR (pc := 58) (r := 108) sh_model rfl fl_Mod_59 d_Mod_launch_58 ?_
            refine go_iload_n (pc := 61) (i := 1) d_Mod_launch_61 rfl rfl ?_
            refine go_iconst (pc := 62) (v := 0) d_Mod_launch_62 (by decide) ?_
            obtain ⟨hi12, hk⟩ := hk
            refine go_astIn (pc := 63) sh_m_position hi12 d_Mod_launch_63 (fun μ13 e13 => ?_)
            replace hk := hk μ13 e13
            refine go_iconst (pc := 64) (v := 1) d_Mod_launch_64 (by decide) ?_
            exact go_ret (pc := 65) (r := some (.int (1 : Int32))) ⟨nar_zv (by decide), d_Mod_launch_65⟩ ⟨_, _, rfl, rfl, hk⟩
          · replace hk := hk.2 h38
            refine go_iconst (pc := 41) (v := 0) d_Mod_launch_41 (by decide) ?_
            exact go_ret (pc := 42) (r := some (.int (0 : Int32))) ⟨nar_zv (by decide), d_Mod_launch_42⟩ ⟨_, _, rfl, rfl, hk⟩
def wp_Mod_feed (a1 : Int32) (a2 : Int32) (μ : Mu) (Q : Int32 → Mu → Prop) : Prop := wp_Mod_four a1 μ (fun x2 μ1 => (((x2 = 0) → Q (0 : Int32) μ1) ∧ ((¬ x2 = 0) → (vp_in a1 4 ∧ (((¬ (μ1.2.1 118 (Int32.toNatClampNeg a1)) = (8 : Int32)) → (vp_in a1 4 ∧ (vp_in (((8 : Int32) * a1) + (μ1.2.1 118 (Int32.toNatClampNeg a1))) 32 ∧ ∀ μ6 : Mu, μ6 = setA μ1 117 (Int32.toNatClampNeg (((8 : Int32) * a1) + (μ1.2.1 118 (Int32.toNatClampNeg a1)))) a2 → (vp_in a1 4 ∧ (vp_in a1 4 ∧ ∀ μ9 : Mu, μ9 = setA μ6 118 (Int32.toNatClampNeg a1) ((μ6.2.1 118 (Int32.toNatClampNeg a1)) + (1 : Int32)) → Q (1 : Int32) μ9))))) ∧ (((μ1.2.1 118 (Int32.toNatClampNeg a1)) = (8 : Int32)) → Q (0 : Int32) μ1))))))
set_option maxRecDepth 100000 in
set_option maxHeartbeats 4000000 in
theorem m_Mod_feed {l : Launch} {a1 : Int32} {a2 : Int32}  {μ : Mu} {Q : Int32 → Mu → Prop} (hk : wp_Mod_feed a1 a2 μ Q) : Mets (mE l) mt_Mod_feed false (rmd 1) [.ref 91, .int a1, .int a2] (lay μ) (PI Q) := by
  unfold wp_Mod_feed at hk
  refine mets_of (L := [some (.ref 91), some (.int a1), some (.int a2)]) (by decide) (Nat.le_of_ble_eq_true rfl) rfl ?_
  refine go_iload_n (pc := 0) (i := 1) d_Mod_feed_0 rfl rfl ?_
  refine go_callS (pc := 1) (m_Mod_four  hk) cz_Mod_four sm_Mod_four (Or.inl lk_Mod_105) rfl rfl (Nat.le_of_ble_eq_true rfl) ⟨by decide, by decide⟩ rfl rfl d_Mod_feed_1 (fun r M' hr => ?_)
  obtain ⟨x2, μ1, rfl, rfl, hk⟩ := hr
  try dsimp only [Option.toList, List.cons_append, List.nil_append]
  refine go_if_eq (pc := 4) (tgt := 18) d_Mod_feed_4 rfl (fun h4 => ?_) (fun h4 => ?_)
  · replace hk := hk.1 h4
    refine go_iconst (pc := 18) (v := 0) d_Mod_feed_18 (by decide) ?_
    exact go_ret (pc := 19) (r := some (.int (0 : Int32))) ⟨nar_zv (by decide), d_Mod_feed_19⟩ ⟨_, _, rfl, rfl, hk⟩
  · replace hk := hk.2 h4
    refine go_aload_n (pc := 7) (i := 0) d_Mod_feed_7 rfl rfl ?_
    refine go_getR (pc := 8) (r := 118) sh_model rfl fl_Mod_89 d_Mod_feed_8 ?_
    refine go_iload_n (pc := 11) (i := 1) d_Mod_feed_11 rfl rfl ?_
    obtain ⟨hi3, hk⟩ := hk
    refine go_aldI (pc := 12) sh_m_inputs hi3 d_Mod_feed_12 ?_
    refine go_bipush (pc := 13) (v := 8) d_Mod_feed_13 (by decide) ?_
    refine go_icmp_ne (pc := 15) (tgt := 20) d_Mod_feed_15 rfl (fun h15 => ?_) (fun h15 => ?_)
    · replace hk := hk.1 h15
      refine go_aload_n (pc := 20) (i := 0) d_Mod_feed_20 rfl rfl ?_
      refine go_getR (pc := 21) (r := 117) sh_model rfl fl_Mod_86 d_Mod_feed_21 ?_
      refine go_bipush (pc := 24) (v := 8) d_Mod_feed_24 (by decide) ?_
      refine go_iload_n (pc := 26) (i := 1) d_Mod_feed_26 rfl rfl ?_
      refine go_imul (pc := 27) d_Mod_feed_27 ?_
      refine go_aload_n (pc := 28) (i := 0) d_Mod_feed_28 rfl rfl ?_
      refine go_getR (pc := 29) (r := 118) sh_model rfl fl_Mod_89 d_Mod_feed_29 ?_
      refine go_iload_n (pc := 32) (i := 1) d_Mod_feed_32 rfl rfl ?_
      obtain ⟨hi4, hk⟩ := hk
      refine go_aldI (pc := 33) sh_m_inputs hi4 d_Mod_feed_33 ?_
      refine go_iadd (pc := 34) d_Mod_feed_34 ?_
      refine go_iload_n (pc := 35) (i := 2) d_Mod_feed_35 rfl rfl ?_
      obtain ⟨hi5, hk⟩ := hk
      refine go_astIn (pc := 36) sh_m_input hi5 d_Mod_feed_36 (fun μ6 e6 => ?_)
      replace hk := hk μ6 e6
      refine go_aload_n (pc := 37) (i := 0) d_Mod_feed_37 rfl rfl ?_
      refine go_getR (pc := 38) (r := 118) sh_model rfl fl_Mod_89 d_Mod_feed_38 ?_
      refine go_iload_n (pc := 41) (i := 1) d_Mod_feed_41 rfl rfl ?_
      refine go_dup2 (pc := 42) d_Mod_feed_42 rfl rfl ?_
      obtain ⟨hi7, hk⟩ := hk
      refine go_aldI (pc := 43) sh_m_inputs hi7 d_Mod_feed_43 ?_
      refine go_iconst (pc := 44) (v := 1) d_Mod_feed_44 (by decide) ?_
      refine go_iadd (pc := 45) d_Mod_feed_45 ?_
      obtain ⟨hi8, hk⟩ := hk
      refine go_astIn (pc := 46) sh_m_inputs hi8 d_Mod_feed_46 (fun μ9 e9 => ?_)
      replace hk := hk μ9 e9
      refine go_iconst (pc := 47) (v := 1) d_Mod_feed_47 (by decide) ?_
      exact go_ret (pc := 48) (r := some (.int (1 : Int32))) ⟨nar_zv (by decide), d_Mod_feed_48⟩ ⟨_, _, rfl, rfl, hk⟩
    · replace hk := hk.2 h15
      refine go_iconst (pc := 18) (v := 0) d_Mod_feed_18 (by decide) ?_
      exact go_ret (pc := 19) (r := some (.int (0 : Int32))) ⟨nar_zv (by decide), d_Mod_feed_19⟩ ⟨_, _, rfl, rfl, hk⟩
def wp_Mod_alive (a1 : Int32) (μ : Mu) (Q : Int32 → Mu → Prop) : Prop := (vp_in a1 4 ∧ ((((μ.2.1 106 (Int32.toNatClampNeg a1)) = (1 : Int32)) → Q (1 : Int32) μ) ∧ ((¬ (μ.2.1 106 (Int32.toNatClampNeg a1)) = (1 : Int32)) → (vp_in a1 4 ∧ (((¬ (μ.2.1 106 (Int32.toNatClampNeg a1)) = (2 : Int32)) → Q (0 : Int32) μ) ∧ (((μ.2.1 106 (Int32.toNatClampNeg a1)) = (2 : Int32)) → Q (1 : Int32) μ))))))
set_option maxRecDepth 100000 in
set_option maxHeartbeats 4000000 in
theorem m_Mod_alive {l : Launch} {a1 : Int32}  {μ : Mu} {Q : Int32 → Mu → Prop} (hk : wp_Mod_alive a1 μ Q) : Mets (mE l) mt_Mod_alive false (rmd 0) [.ref 91, .int a1] (lay μ) (PI Q) := by
  unfold wp_Mod_alive at hk
  refine mets_of (L := [some (.ref 91), some (.int a1)]) (by decide) (Nat.le_of_ble_eq_true rfl) rfl ?_
  refine go_aload_n (pc := 0) (i := 0) d_Mod_alive_0 rfl rfl ?_
  refine go_getR (pc := 1) (r := 106) sh_model rfl fl_Mod_53 d_Mod_alive_1 ?_
  refine go_iload_n (pc := 4) (i := 1) d_Mod_alive_4 rfl rfl ?_
  obtain ⟨hi1, hk⟩ := hk
  refine go_aldI (pc := 5) sh_m_states hi1 d_Mod_alive_5 ?_
  refine go_iconst (pc := 6) (v := 1) d_Mod_alive_6 (by decide) ?_
  refine go_icmp_eq (pc := 7) (tgt := 20) d_Mod_alive_7 rfl (fun h7 => ?_) (fun h7 => ?_)
  · replace hk := hk.1 h7
    refine go_iconst (pc := 20) (v := 1) d_Mod_alive_20 (by decide) ?_
    refine go_goto (pc := 21) (tgt := 25) d_Mod_alive_21 rfl ?_
    exact go_ret (pc := 25) (r := some (.int (1 : Int32))) ⟨nar_zv (by decide), d_Mod_alive_25⟩ ⟨_, _, rfl, rfl, hk⟩
  · replace hk := hk.2 h7
    refine go_aload_n (pc := 10) (i := 0) d_Mod_alive_10 rfl rfl ?_
    refine go_getR (pc := 11) (r := 106) sh_model rfl fl_Mod_53 d_Mod_alive_11 ?_
    refine go_iload_n (pc := 14) (i := 1) d_Mod_alive_14 rfl rfl ?_
    obtain ⟨hi2, hk⟩ := hk
    refine go_aldI (pc := 15) sh_m_states hi2 d_Mod_alive_15 ?_
    refine go_iconst (pc := 16) (v := 2) d_Mod_alive_16 (by decide) ?_
    refine go_icmp_ne (pc := 17) (tgt := 24) d_Mod_alive_17 rfl (fun h17 => ?_) (fun h17 => ?_)
    · replace hk := hk.1 h17
      refine go_iconst (pc := 24) (v := 0) d_Mod_alive_24 (by decide) ?_
      exact go_ret (pc := 25) (r := some (.int (0 : Int32))) ⟨nar_zv (by decide), d_Mod_alive_25⟩ ⟨_, _, rfl, rfl, hk⟩
    · replace hk := hk.2 h17
      refine go_iconst (pc := 20) (v := 1) d_Mod_alive_20 (by decide) ?_
      refine go_goto (pc := 21) (tgt := 25) d_Mod_alive_21 rfl ?_
      exact go_ret (pc := 25) (r := some (.int (1 : Int32))) ⟨nar_zv (by decide), d_Mod_alive_25⟩ ⟨_, _, rfl, rfl, hk⟩
def wp_Mod_end_33 (w1 : Int32) (K0 : Int32 → Mu → Prop) (Q : Mu → Prop) : Nat → Int32 → Mu → Prop
  | 0, _, _ => False
  | n33 + 1, v3, μ => ((((4 : Int32) ≤ v3) → K0 v3 μ) ∧ ((¬ (4 : Int32) ≤ v3) → ((((2 : Int32) ≤ v3) → (vp_in (((4 : Int32) * w1) + v3) 16 ∧ ∀ μ10 : Mu, μ10 = setA μ 114 (Int32.toNatClampNeg (((4 : Int32) * w1) + v3)) (-1 : Int32) → wp_Mod_end_33 w1 K0 Q n33 (v3 + 1) μ10)) ∧ ((¬ (2 : Int32) ≤ v3) → (vp_in (((4 : Int32) * w1) + v3) 16 ∧ ∀ μ12 : Mu, μ12 = setA μ 114 (Int32.toNatClampNeg (((4 : Int32) * w1) + v3)) (0 : Int32) → wp_Mod_end_33 w1 K0 Q n33 (v3 + 1) μ12)))))
set_option maxRecDepth 100000 in
set_option maxHeartbeats 4000000 in
theorem g_Mod_end_33 {l : Launch} {w1 : Int32}  {K0 : Int32 → Mu → Prop} {Q : Mu → Prop} (hK0 : ∀ (v3 : Int32) (μ : Mu), K0 v3 μ → Go (mE l) mt_Mod_end false (rmd 0) 0 0 64 [some (.ref 91), some (.int w1), none, some (.int v3)] [] (lay μ) (PV Q)) : ∀ (n : Nat) (v3 : Int32) (μ : Mu), wp_Mod_end_33 w1 K0 Q n v3 μ → Go (mE l) mt_Mod_end false (rmd 0) 0 0 33 [some (.ref 91), some (.int w1), none, some (.int v3)] [] (lay μ) (PV Q) := by
  intro n
  induction n with
  | zero => intro v3 μ hk; exact hk.elim
  | succ n ih =>
    intro v3 μ hk
    unfold wp_Mod_end_33 at hk
    refine go_iload_n (pc := 33) (i := 3) d_Mod_end_33 rfl rfl ?_
    refine go_iconst (pc := 34) (v := 4) d_Mod_end_34 (by decide) ?_
    refine go_icmp_ge (pc := 35) (tgt := 64) d_Mod_end_35 rfl (fun h35 => ?_) (fun h35 => ?_)
    · replace hk := hk.1 h35
      exact hK0 _ _ hk
    · replace hk := hk.2 h35
      refine go_aload_n (pc := 38) (i := 0) d_Mod_end_38 rfl rfl ?_
      refine go_getR (pc := 39) (r := 114) sh_model rfl fl_Mod_77 d_Mod_end_39 ?_
      refine go_iconst (pc := 42) (v := 4) d_Mod_end_42 (by decide) ?_
      refine go_iload_n (pc := 43) (i := 1) d_Mod_end_43 rfl rfl ?_
      refine go_imul (pc := 44) d_Mod_end_44 ?_
      refine go_iload_n (pc := 45) (i := 3) d_Mod_end_45 rfl rfl ?_
      refine go_iadd (pc := 46) d_Mod_end_46 ?_
      refine go_iload_n (pc := 47) (i := 3) d_Mod_end_47 rfl rfl ?_
      refine go_iconst (pc := 48) (v := 2) d_Mod_end_48 (by decide) ?_
      refine go_icmp_ge (pc := 49) (tgt := 56) d_Mod_end_49 rfl (fun h49 => ?_) (fun h49 => ?_)
      · replace hk := hk.1 h49
        refine go_iconst (pc := 56) (v := (-1)) d_Mod_end_56 (by decide) ?_
        obtain ⟨hi9, hk⟩ := hk
        refine go_astIn (pc := 57) sh_m_locals hi9 d_Mod_end_57 (fun μ10 e10 => ?_)
        replace hk := hk μ10 e10
        refine go_iinc (pc := 58) (v := (v3 + 1)) (L' := [some (.ref 91), some (.int w1), none, some (.int (v3 + 1))]) d_Mod_end_58 rfl rfl (by decide) rfl ?_
        refine go_goto (pc := 61) (tgt := 33) d_Mod_end_61 rfl ?_
        exact ih _ _ hk
      · replace hk := hk.2 h49
        refine go_iconst (pc := 52) (v := 0) d_Mod_end_52 (by decide) ?_
        refine go_goto (pc := 53) (tgt := 57) d_Mod_end_53 rfl ?_
        obtain ⟨hi11, hk⟩ := hk
        refine go_astIn (pc := 57) sh_m_locals hi11 d_Mod_end_57 (fun μ12 e12 => ?_)
        replace hk := hk μ12 e12
        refine go_iinc (pc := 58) (v := (v3 + 1)) (L' := [some (.ref 91), some (.int w1), none, some (.int (v3 + 1))]) d_Mod_end_58 rfl rfl (by decide) rfl ?_
        refine go_goto (pc := 61) (tgt := 33) d_Mod_end_61 rfl ?_
        exact ih _ _ hk
def wp_Mod_end_69 (w1 : Int32) (K0 : Int32 → Mu → Prop) (Q : Mu → Prop) : Nat → Int32 → Mu → Prop
  | 0, _, _ => False
  | n69 + 1, v3, μ => ((((((24 : Int32) * w1) + (24 : Int32)) ≤ v3) → K0 v3 μ) ∧ ((¬ (((24 : Int32) * w1) + (24 : Int32)) ≤ v3) → (vp_in v3 104 ∧ ∀ μ16 : Mu, μ16 = setA μ 97 (Int32.toNatClampNeg v3) (0 : Int32) → wp_Mod_end_69 w1 K0 Q n69 (v3 + 1) μ16)))
set_option maxRecDepth 100000 in
set_option maxHeartbeats 4000000 in
theorem g_Mod_end_69 {l : Launch} {w1 : Int32}  {K0 : Int32 → Mu → Prop} {Q : Mu → Prop} (hK0 : ∀ (v3 : Int32) (μ : Mu), K0 v3 μ → Go (mE l) mt_Mod_end false (rmd 0) 0 0 93 [some (.ref 91), some (.int w1), none, some (.int v3)] [] (lay μ) (PV Q)) : ∀ (n : Nat) (v3 : Int32) (μ : Mu), wp_Mod_end_69 w1 K0 Q n v3 μ → Go (mE l) mt_Mod_end false (rmd 0) 0 0 69 [some (.ref 91), some (.int w1), none, some (.int v3)] [] (lay μ) (PV Q) := by
  intro n
  induction n with
  | zero => intro v3 μ hk; exact hk.elim
  | succ n ih =>
    intro v3 μ hk
    unfold wp_Mod_end_69 at hk
    refine go_iload_n (pc := 69) (i := 3) d_Mod_end_69 rfl rfl ?_
    refine go_bipush (pc := 70) (v := 24) d_Mod_end_70 (by decide) ?_
    refine go_iload_n (pc := 72) (i := 1) d_Mod_end_72 rfl rfl ?_
    refine go_imul (pc := 73) d_Mod_end_73 ?_
    refine go_bipush (pc := 74) (v := 24) d_Mod_end_74 (by decide) ?_
    refine go_iadd (pc := 76) d_Mod_end_76 ?_
    refine go_icmp_ge (pc := 77) (tgt := 93) d_Mod_end_77 rfl (fun h77 => ?_) (fun h77 => ?_)
    · replace hk := hk.1 h77
      exact hK0 _ _ hk
    · replace hk := hk.2 h77
      refine go_aload_n (pc := 80) (i := 0) d_Mod_end_80 rfl rfl ?_
      refine go_getR (pc := 81) (r := 97) sh_model rfl fl_Mod_26 d_Mod_end_81 ?_
      refine go_iload_n (pc := 84) (i := 3) d_Mod_end_84 rfl rfl ?_
      refine go_iconst (pc := 85) (v := 0) d_Mod_end_85 (by decide) ?_
      obtain ⟨hi15, hk⟩ := hk
      refine go_astZn (pc := 86) (by decide) sh_m_there hi15 d_Mod_end_86 (fun μ16 e16 => ?_)
      replace hk := hk μ16 e16
      refine go_iinc (pc := 87) (v := (v3 + 1)) (L' := [some (.ref 91), some (.int w1), none, some (.int (v3 + 1))]) d_Mod_end_87 rfl rfl (by decide) rfl ?_
      refine go_goto (pc := 90) (tgt := 69) d_Mod_end_90 rfl ?_
      exact ih _ _ hk
def wp_Mod_end (a1 : Int32) (a2 : Int32) (μ : Mu) (Q : Mu → Prop) : Prop := (vp_in a1 4 ∧ ∀ μ2 : Mu, μ2 = setA μ 106 (Int32.toNatClampNeg a1) a2 → (vp_in a1 4 ∧ ∀ μ4 : Mu, μ4 = setA μ2 111 (Int32.toNatClampNeg a1) (μ2.1 91 32) → (vp_in a1 4 ∧ ∀ μ6 : Mu, μ6 = setA μ4 112 (Int32.toNatClampNeg a1) (0 : Int32) → (vp_in a1 4 ∧ ∀ μ8 : Mu, μ8 = setA μ6 116 (Int32.toNatClampNeg a1) (0 : Int32) → (∃ n33, wp_Mod_end_33 a1 (fun v13 μ14 => (∃ n69, wp_Mod_end_69 a1 (fun v17 μ18 => Q μ18) Q n69 ((24 : Int32) * a1) μ14)) Q n33 (0 : Int32) μ8)))))
set_option maxRecDepth 100000 in
set_option maxHeartbeats 4000000 in
theorem m_Mod_end {l : Launch} {a1 : Int32} {a2 : Int32}  {μ : Mu} {Q : Mu → Prop} (hk : wp_Mod_end a1 a2 μ Q) : Mets (mE l) mt_Mod_end false (rmd 0) [.ref 91, .int a1, .int a2] (lay μ) (PV Q) := by
  unfold wp_Mod_end at hk
  refine mets_of (L := [some (.ref 91), some (.int a1), some (.int a2), none]) (by decide) (Nat.le_of_ble_eq_true rfl) rfl ?_
  refine go_aload_n (pc := 0) (i := 0) d_Mod_end_0 rfl rfl ?_
  refine go_getR (pc := 1) (r := 106) sh_model rfl fl_Mod_53 d_Mod_end_1 ?_
  refine go_iload_n (pc := 4) (i := 1) d_Mod_end_4 rfl rfl ?_
  refine go_iload_n (pc := 5) (i := 2) d_Mod_end_5 rfl rfl ?_
  obtain ⟨hi1, hk⟩ := hk
  refine go_astIn (pc := 6) sh_m_states hi1 d_Mod_end_6 (fun μ2 e2 => ?_)
  replace hk := hk μ2 e2
  refine go_aload_n (pc := 7) (i := 0) d_Mod_end_7 rfl rfl ?_
  refine go_getR (pc := 8) (r := 111) sh_model rfl fl_Mod_68 d_Mod_end_8 ?_
  refine go_iload_n (pc := 11) (i := 1) d_Mod_end_11 rfl rfl ?_
  refine go_aload_n (pc := 12) (i := 0) d_Mod_end_12 rfl rfl ?_
  refine go_getI (pc := 13) sh_model rfl fl_Mod_161 d_Mod_end_13 ?_
  obtain ⟨hi3, hk⟩ := hk
  refine go_astIn (pc := 16) sh_m_endOf hi3 d_Mod_end_16 (fun μ4 e4 => ?_)
  replace hk := hk μ4 e4
  refine go_aload_n (pc := 17) (i := 0) d_Mod_end_17 rfl rfl ?_
  refine go_getR (pc := 18) (r := 112) sh_model rfl fl_Mod_71 d_Mod_end_18 ?_
  refine go_iload_n (pc := 21) (i := 1) d_Mod_end_21 rfl rfl ?_
  refine go_iconst (pc := 22) (v := 0) d_Mod_end_22 (by decide) ?_
  obtain ⟨hi5, hk⟩ := hk
  refine go_astIn (pc := 23) sh_m_height hi5 d_Mod_end_23 (fun μ6 e6 => ?_)
  replace hk := hk μ6 e6
  refine go_aload_n (pc := 24) (i := 0) d_Mod_end_24 rfl rfl ?_
  refine go_getR (pc := 25) (r := 116) sh_model rfl fl_Mod_83 d_Mod_end_25 ?_
  refine go_iload_n (pc := 28) (i := 1) d_Mod_end_28 rfl rfl ?_
  refine go_iconst (pc := 29) (v := 0) d_Mod_end_29 (by decide) ?_
  obtain ⟨hi7, hk⟩ := hk
  refine go_astIn (pc := 30) sh_m_mails hi7 d_Mod_end_30 (fun μ8 e8 => ?_)
  replace hk := hk μ8 e8
  refine go_iconst (pc := 31) (v := 0) d_Mod_end_31 (by decide) ?_
  refine go_istore_n (pc := 32) (i := 3) (L' := [some (.ref 91), some (.int a1), some (.int a2), some (.int (0 : Int32))]) d_Mod_end_32 rfl (by decide) rfl ?_
  obtain ⟨n, hk⟩ := hk
  refine go_weak (L' := [some (.ref 91), some (.int a1), none, some (.int (0 : Int32))]) (lle_at (by simp [lle])) ?_
  refine g_Mod_end_33  (fun v13 μ14 hk => ?_) n _ _ hk
  · try dsimp only at hk
    refine go_bipush (pc := 64) (v := 24) d_Mod_end_64 (by decide) ?_
    refine go_iload_n (pc := 66) (i := 1) d_Mod_end_66 rfl rfl ?_
    refine go_imul (pc := 67) d_Mod_end_67 ?_
    refine go_istore_n (pc := 68) (i := 3) (L' := [some (.ref 91), some (.int a1), none, some (.int ((24 : Int32) * a1))]) d_Mod_end_68 rfl (by decide) rfl ?_
    obtain ⟨n, hk⟩ := hk
    refine g_Mod_end_69  (fun v17 μ18 hk => ?_) n _ _ hk
    · try dsimp only at hk
      exact go_ret (pc := 93) (r := none) d_Mod_end_93 ⟨_, rfl, rfl, hk⟩
