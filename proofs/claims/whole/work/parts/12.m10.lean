def wp_Mod_toCopy_2 (w1 : Int32) (K0 : Int32 → Mu → Prop) (Q : Int32 → Mu → Prop) : Nat → Int32 → Mu → Prop
  | 0, _, _ => False
  | n2 + 1, v2, μ => ((((104 : Int32) ≤ v2) → K0 v2 μ) ∧ ((¬ (104 : Int32) ≤ v2) → (((¬ v2 = w1) → (vp_in v2 104 ∧ ∀ μ2 : Mu, μ2 = setA μ 101 (Int32.toNatClampNeg v2) (0 : Int32) → wp_Mod_toCopy_2 w1 K0 Q n2 (v2 + 1) μ2)) ∧ ((v2 = w1) → (vp_in v2 104 ∧ ∀ μ4 : Mu, μ4 = setA μ 101 (Int32.toNatClampNeg v2) (1 : Int32) → wp_Mod_toCopy_2 w1 K0 Q n2 (v2 + 1) μ4)))))
set_option maxRecDepth 100000 in
set_option maxHeartbeats 4000000 in
theorem g_Mod_toCopy_2 {l : Launch} {w1 : Int32}  {K0 : Int32 → Mu → Prop} {Q : Int32 → Mu → Prop} (hK0 : ∀ (v2 : Int32) (μ : Mu), K0 v2 μ → Go (mE l) mt_Mod_toCopy false (rmd 2) 0 0 30 [some (.ref 91), some (.int w1), some (.int v2), none] [] (lay μ) (PI Q)) : ∀ (n : Nat) (v2 : Int32) (μ : Mu), wp_Mod_toCopy_2 w1 K0 Q n v2 μ → Go (mE l) mt_Mod_toCopy false (rmd 2) 0 0 2 [some (.ref 91), some (.int w1), some (.int v2), none] [] (lay μ) (PI Q) := by
  intro n
  induction n with
  | zero => intro v2 μ hk; exact hk.elim
  | succ n ih =>
    intro v2 μ hk
    unfold wp_Mod_toCopy_2 at hk
    refine go_iload_n (pc := 2) (i := 2) d_Mod_toCopy_2 rfl rfl ?_
    refine go_bipush (pc := 3) (v := 104) d_Mod_toCopy_3 (by decide) ?_
    refine go_icmp_ge (pc := 5) (tgt := 30) d_Mod_toCopy_5 rfl (fun h5 => ?_) (fun h5 => ?_)
    · replace hk := hk.1 h5
      exact hK0 _ _ hk
    · replace hk := hk.2 h5
      refine go_aload_n (pc := 8) (i := 0) d_Mod_toCopy_8 rfl rfl ?_
      refine go_getR (pc := 9) (r := 101) sh_model rfl fl_Mod_38 d_Mod_toCopy_9 ?_
      refine go_iload_n (pc := 12) (i := 2) d_Mod_toCopy_12 rfl rfl ?_
      refine go_iload_n (pc := 13) (i := 2) d_Mod_toCopy_13 rfl rfl ?_
      refine go_iload_n (pc := 14) (i := 1) d_Mod_toCopy_14 rfl rfl ?_
      refine go_icmp_ne (pc := 15) (tgt := 22) d_Mod_toCopy_15 rfl (fun h15 => ?_) (fun h15 => ?_)
      · replace hk := hk.1 h15
        refine go_iconst (pc := 22) (v := 0) d_Mod_toCopy_22 (by decide) ?_
        obtain ⟨hi1, hk⟩ := hk
        refine go_astZn (pc := 23) (by decide) sh_m_mark hi1 d_Mod_toCopy_23 (fun μ2 e2 => ?_)
        replace hk := hk μ2 e2
        refine go_iinc (pc := 24) (v := (v2 + 1)) (L' := [some (.ref 91), some (.int w1), some (.int (v2 + 1)), none]) d_Mod_toCopy_24 rfl rfl (by decide) rfl ?_
        refine go_goto (pc := 27) (tgt := 2) d_Mod_toCopy_27 rfl ?_
        exact ih _ _ hk
      · replace hk := hk.2 h15
        refine go_iconst (pc := 18) (v := 1) d_Mod_toCopy_18 (by decide) ?_
        refine go_goto (pc := 19) (tgt := 23) d_Mod_toCopy_19 rfl ?_
        obtain ⟨hi3, hk⟩ := hk
        refine go_astZn (pc := 23) (by decide) sh_m_mark hi3 d_Mod_toCopy_23 (fun μ4 e4 => ?_)
        replace hk := hk μ4 e4
        refine go_iinc (pc := 24) (v := (v2 + 1)) (L' := [some (.ref 91), some (.int w1), some (.int (v2 + 1)), none]) d_Mod_toCopy_24 rfl rfl (by decide) rfl ?_
        refine go_goto (pc := 27) (tgt := 2) d_Mod_toCopy_27 rfl ?_
        exact ih _ _ hk
def wp_Mod_toCopy_j69_38 (j2 : Int32) (j3 : Int32) (s0 : Int32) (s1 : Int32) (z2 : Nat) (μ : Mu) (Rec : Int32 → Int32 → Mu → Prop) (K0 : Int32 → Int32 → Mu → Prop) (Q : Int32 → Mu → Prop) : Prop := (vp_in s1 104 ∧ ((s0 = 0 ∨ s0 = 1) ∧ ∀ μ11 : Mu, μ11 = setA μ z2 (Int32.toNatClampNeg s1) s0 → (vp_in j3 104 ∧ ((((μ11.2.1 102 (Int32.toNatClampNeg j3)) = 0) → Rec (j2 + (0 : Int32)) (j3 + 1) μ11) ∧ ((¬ (μ11.2.1 102 (Int32.toNatClampNeg j3)) = 0) → Rec (j2 + (1 : Int32)) (j3 + 1) μ11)))))
set_option maxRecDepth 100000 in
set_option maxHeartbeats 4000000 in
theorem g_Mod_toCopy_j69_38 {l : Launch} {j2 : Int32} {j3 : Int32} {s0 : Int32} {s1 : Int32} {z2 : Nat} (hz2 : shapes[z2]? = some (.inl (1, 104, []))) {Rec : Int32 → Int32 → Mu → Prop} {K0 : Int32 → Int32 → Mu → Prop} {Q : Int32 → Mu → Prop} (hRec : ∀ (v2 : Int32) (v3 : Int32) (μ : Mu), Rec v2 v3 μ → Go (mE l) mt_Mod_toCopy false (rmd 2) 0 0 38 [some (.ref 91), none, some (.int v2), some (.int v3)] [] (lay μ) (PI Q)) (hK0 : ∀ (v2 : Int32) (v3 : Int32) (μ : Mu), K0 v2 v3 μ → Go (mE l) mt_Mod_toCopy false (rmd 2) 0 0 93 [some (.ref 91), none, some (.int v2), some (.int v3)] [] (lay μ) (PI Q)) {μ : Mu} (hk : wp_Mod_toCopy_j69_38 j2 j3 s0 s1 z2 μ Rec K0 Q) : Go (mE l) mt_Mod_toCopy false (rmd 2) 0 0 69 [some (.ref 91), none, some (.int j2), some (.int j3)] [.int s0, .int s1, .ref z2] (lay μ) (PI Q) := by
  unfold wp_Mod_toCopy_j69_38 at hk
  obtain ⟨hi9, hk⟩ := hk
  obtain ⟨hb10, hk⟩ := hk
  refine go_astZn (pc := 69) hb10 hz2 hi9 d_Mod_toCopy_69 (fun μ11 e11 => ?_)
  replace hk := hk μ11 e11
  refine go_iload_n (pc := 70) (i := 2) d_Mod_toCopy_70 rfl rfl ?_
  refine go_aload_n (pc := 71) (i := 0) d_Mod_toCopy_71 rfl rfl ?_
  refine go_getR (pc := 72) (r := 102) sh_model rfl fl_Mod_41 d_Mod_toCopy_72 ?_
  refine go_iload_n (pc := 75) (i := 3) d_Mod_toCopy_75 rfl rfl ?_
  obtain ⟨hi12, hk⟩ := hk
  refine go_aldZ (pc := 76) sh_m_reached hi12 d_Mod_toCopy_76 ?_
  refine go_if_eq (pc := 77) (tgt := 84) d_Mod_toCopy_77 rfl (fun h77 => ?_) (fun h77 => ?_)
  · replace hk := hk.1 h77
    refine go_iconst (pc := 84) (v := 0) d_Mod_toCopy_84 (by decide) ?_
    refine go_iadd (pc := 85) d_Mod_toCopy_85 ?_
    refine go_istore_n (pc := 86) (i := 2) (L' := [some (.ref 91), none, some (.int (j2 + (0 : Int32))), some (.int j3)]) d_Mod_toCopy_86 rfl (by decide) rfl ?_
    refine go_iinc (pc := 87) (v := (j3 + 1)) (L' := [some (.ref 91), none, some (.int (j2 + (0 : Int32))), some (.int (j3 + 1))]) d_Mod_toCopy_87 rfl rfl (by decide) rfl ?_
    refine go_goto (pc := 90) (tgt := 38) d_Mod_toCopy_90 rfl ?_
    exact hRec _ _ _ hk
  · replace hk := hk.2 h77
    refine go_iconst (pc := 80) (v := 1) d_Mod_toCopy_80 (by decide) ?_
    refine go_goto (pc := 81) (tgt := 85) d_Mod_toCopy_81 rfl ?_
    refine go_iadd (pc := 85) d_Mod_toCopy_85 ?_
    refine go_istore_n (pc := 86) (i := 2) (L' := [some (.ref 91), none, some (.int (j2 + (1 : Int32))), some (.int j3)]) d_Mod_toCopy_86 rfl (by decide) rfl ?_
    refine go_iinc (pc := 87) (v := (j3 + 1)) (L' := [some (.ref 91), none, some (.int (j2 + (1 : Int32))), some (.int (j3 + 1))]) d_Mod_toCopy_87 rfl rfl (by decide) rfl ?_
    refine go_goto (pc := 90) (tgt := 38) d_Mod_toCopy_90 rfl ?_
    exact hRec _ _ _ hk
def wp_Mod_toCopy_j68_38 (j2 : Int32) (j3 : Int32) (s0 : Int32) (z1 : Nat) (μ : Mu) (Rec : Int32 → Int32 → Mu → Prop) (K0 : Int32 → Int32 → Mu → Prop) (Q : Int32 → Mu → Prop) : Prop := wp_Mod_toCopy_j69_38 j2 j3 (0 : Int32) s0 z1 μ (Rec) K0 Q
set_option maxRecDepth 100000 in
set_option maxHeartbeats 4000000 in
theorem g_Mod_toCopy_j68_38 {l : Launch} {j2 : Int32} {j3 : Int32} {s0 : Int32} {z1 : Nat} (hz1 : shapes[z1]? = some (.inl (1, 104, []))) {Rec : Int32 → Int32 → Mu → Prop} {K0 : Int32 → Int32 → Mu → Prop} {Q : Int32 → Mu → Prop} (hRec : ∀ (v2 : Int32) (v3 : Int32) (μ : Mu), Rec v2 v3 μ → Go (mE l) mt_Mod_toCopy false (rmd 2) 0 0 38 [some (.ref 91), none, some (.int v2), some (.int v3)] [] (lay μ) (PI Q)) (hK0 : ∀ (v2 : Int32) (v3 : Int32) (μ : Mu), K0 v2 v3 μ → Go (mE l) mt_Mod_toCopy false (rmd 2) 0 0 93 [some (.ref 91), none, some (.int v2), some (.int v3)] [] (lay μ) (PI Q)) {μ : Mu} (hk : wp_Mod_toCopy_j68_38 j2 j3 s0 z1 μ Rec K0 Q) : Go (mE l) mt_Mod_toCopy false (rmd 2) 0 0 68 [some (.ref 91), none, some (.int j2), some (.int j3)] [.int s0, .ref z1] (lay μ) (PI Q) := by
  unfold wp_Mod_toCopy_j68_38 at hk
  refine go_iconst (pc := 68) (v := 0) d_Mod_toCopy_68 (by decide) ?_
  exact g_Mod_toCopy_j69_38 hz1 hRec hK0 hk
def wp_Mod_toCopy_38  (K0 : Int32 → Int32 → Mu → Prop) (Q : Int32 → Mu → Prop) : Nat → Int32 → Int32 → Mu → Prop
  | 0, _, _, _ => False
  | n38 + 1, v2, v3, μ => ((((104 : Int32) ≤ v3) → K0 v2 v3 μ) ∧ ((¬ (104 : Int32) ≤ v3) → (vp_in v3 104 ∧ ((((μ.2.1 101 (Int32.toNatClampNeg v3)) = 0) → wp_Mod_toCopy_j68_38 v2 v3 v3 102 μ (wp_Mod_toCopy_38  K0 Q n38) K0 Q) ∧ ((¬ (μ.2.1 101 (Int32.toNatClampNeg v3)) = 0) → ((((96 : Int32) ≤ v3) → wp_Mod_toCopy_j68_38 v2 v3 v3 102 μ (wp_Mod_toCopy_38  K0 Q n38) K0 Q) ∧ ((¬ (96 : Int32) ≤ v3) → wp_Mod_toCopy_j69_38 v2 v3 (1 : Int32) v3 102 μ (wp_Mod_toCopy_38  K0 Q n38) K0 Q)))))))
set_option maxRecDepth 100000 in
set_option maxHeartbeats 4000000 in
theorem g_Mod_toCopy_38 {l : Launch}   {K0 : Int32 → Int32 → Mu → Prop} {Q : Int32 → Mu → Prop} (hK0 : ∀ (v2 : Int32) (v3 : Int32) (μ : Mu), K0 v2 v3 μ → Go (mE l) mt_Mod_toCopy false (rmd 2) 0 0 93 [some (.ref 91), none, some (.int v2), some (.int v3)] [] (lay μ) (PI Q)) : ∀ (n : Nat) (v2 : Int32) (v3 : Int32) (μ : Mu), wp_Mod_toCopy_38  K0 Q n v2 v3 μ → Go (mE l) mt_Mod_toCopy false (rmd 2) 0 0 38 [some (.ref 91), none, some (.int v2), some (.int v3)] [] (lay μ) (PI Q) := by
  intro n
  induction n with
  | zero => intro v2 v3 μ hk; exact hk.elim
  | succ n ih =>
    intro v2 v3 μ hk
    unfold wp_Mod_toCopy_38 at hk
    refine go_iload_n (pc := 38) (i := 3) d_Mod_toCopy_38 rfl rfl ?_
    refine go_bipush (pc := 39) (v := 104) d_Mod_toCopy_39 (by decide) ?_
    refine go_icmp_ge (pc := 41) (tgt := 93) d_Mod_toCopy_41 rfl (fun h41 => ?_) (fun h41 => ?_)
    · replace hk := hk.1 h41
      exact hK0 _ _ _ hk
    · replace hk := hk.2 h41
      refine go_aload_n (pc := 44) (i := 0) d_Mod_toCopy_44 rfl rfl ?_
      refine go_getR (pc := 45) (r := 102) sh_model rfl fl_Mod_41 d_Mod_toCopy_45 ?_
      refine go_iload_n (pc := 48) (i := 3) d_Mod_toCopy_48 rfl rfl ?_
      refine go_aload_n (pc := 49) (i := 0) d_Mod_toCopy_49 rfl rfl ?_
      refine go_getR (pc := 50) (r := 101) sh_model rfl fl_Mod_38 d_Mod_toCopy_50 ?_
      refine go_iload_n (pc := 53) (i := 3) d_Mod_toCopy_53 rfl rfl ?_
      obtain ⟨hi8, hk⟩ := hk
      refine go_aldZ (pc := 54) sh_m_mark hi8 d_Mod_toCopy_54 ?_
      refine go_if_eq (pc := 55) (tgt := 68) d_Mod_toCopy_55 rfl (fun h55 => ?_) (fun h55 => ?_)
      · replace hk := hk.1 h55
        exact g_Mod_toCopy_j68_38 sh_m_reached ih hK0 hk
      · replace hk := hk.2 h55
        refine go_iload_n (pc := 58) (i := 3) d_Mod_toCopy_58 rfl rfl ?_
        refine go_bipush (pc := 59) (v := 96) d_Mod_toCopy_59 (by decide) ?_
        refine go_icmp_ge (pc := 61) (tgt := 68) d_Mod_toCopy_61 rfl (fun h61 => ?_) (fun h61 => ?_)
        · replace hk := hk.1 h61
          exact g_Mod_toCopy_j68_38 sh_m_reached ih hK0 hk
        · replace hk := hk.2 h61
          refine go_iconst (pc := 64) (v := 1) d_Mod_toCopy_64 (by decide) ?_
          refine go_goto (pc := 65) (tgt := 69) d_Mod_toCopy_65 rfl ?_
          exact g_Mod_toCopy_j69_38 sh_m_reached ih hK0 hk
def wp_Mod_toCopy (a1 : Int32) (μ : Mu) (Q : Int32 → Mu → Prop) : Prop := (∃ n2, wp_Mod_toCopy_2 a1 (fun v5 μ6 => wp_Mod_markAll  μ6 (fun μ7 => (∃ n38, wp_Mod_toCopy_38  (fun v13 v14 μ15 => Q v13 μ15) Q n38 (0 : Int32) (0 : Int32) μ7))) Q n2 (0 : Int32) μ)
set_option maxRecDepth 100000 in
set_option maxHeartbeats 4000000 in
theorem m_Mod_toCopy {l : Launch} {a1 : Int32}  {μ : Mu} {Q : Int32 → Mu → Prop} (hk : wp_Mod_toCopy a1 μ Q) : Mets (mE l) mt_Mod_toCopy false (rmd 2) [.ref 91, .int a1] (lay μ) (PI Q) := by
  unfold wp_Mod_toCopy at hk
  refine mets_of (L := [some (.ref 91), some (.int a1), none, none]) (by decide) (Nat.le_of_ble_eq_true rfl) rfl ?_
  refine go_iconst (pc := 0) (v := 0) d_Mod_toCopy_0 (by decide) ?_
  refine go_istore_n (pc := 1) (i := 2) (L' := [some (.ref 91), some (.int a1), some (.int (0 : Int32)), none]) d_Mod_toCopy_1 rfl (by decide) rfl ?_
  obtain ⟨n, hk⟩ := hk
  refine g_Mod_toCopy_2  (fun v5 μ6 hk => ?_) n _ _ hk
  · try dsimp only at hk
    refine go_aload_n (pc := 30) (i := 0) d_Mod_toCopy_30 rfl rfl ?_
    refine go_callV (pc := 31) (m_Mod_markAll  hk) cz_Mod_markAll cv_Mod_markAll (Or.inl lk_Mod_144) (lay_at sh_model) rfl rfl rfl (Nat.le_of_ble_eq_true rfl) ⟨by decide, by decide⟩ rfl rfl d_Mod_toCopy_31 (fun r M' hr => ?_)
    obtain ⟨μ7, rfl, rfl, hk⟩ := hr
    try dsimp only [Option.toList, List.cons_append, List.nil_append]
    refine go_iconst (pc := 34) (v := 0) d_Mod_toCopy_34 (by decide) ?_
    refine go_istore_n (pc := 35) (i := 2) (L' := [some (.ref 91), some (.int a1), some (.int (0 : Int32)), none]) d_Mod_toCopy_35 rfl (by decide) rfl ?_
    refine go_iconst (pc := 36) (v := 0) d_Mod_toCopy_36 (by decide) ?_
    refine go_istore_n (pc := 37) (i := 3) (L' := [some (.ref 91), some (.int a1), some (.int (0 : Int32)), some (.int (0 : Int32))]) d_Mod_toCopy_37 rfl (by decide) rfl ?_
    obtain ⟨n, hk⟩ := hk
    refine go_weak (L' := [some (.ref 91), none, some (.int (0 : Int32)), some (.int (0 : Int32))]) (lle_at (by simp [lle])) ?_
    refine g_Mod_toCopy_38  (fun v13 v14 μ15 hk => ?_) n _ _ _ hk
    · try dsimp only at hk
      refine go_iload_n (pc := 93) (i := 2) d_Mod_toCopy_93 rfl rfl ?_
      exact go_ret (pc := 94) (r := some (.int v13)) d_Mod_toCopy_94 ⟨_, _, rfl, rfl, hk⟩
def wp_Mod_send_j71 (j1 : Int32) (j2 : Int32) (j3 : Int32) (j4 : Int32) (μ : Mu)  (Q : Int32 → Mu → Prop) : Prop := (((j4 = 0) → (((j4 = 0) → wp_Mod_become j1 (1 : Int32) (0 : Int32) μ (fun μ8 => Q (0 : Int32) μ8)) ∧ ((¬ j4 = 0) → wp_Mod_become j1 (1 : Int32) (1 : Int32) μ (fun μ9 => Q (0 : Int32) μ9)))) ∧ ((¬ j4 = 0) → (vp_in j2 4 ∧ wp_Mod_copy j3 j2 μ (fun x12 μ11 => (vp_in (((4 : Int32) * j2) + (μ.2.1 116 (Int32.toNatClampNeg j2))) 16 ∧ ∀ μ14 : Mu, μ14 = setA μ11 115 (Int32.toNatClampNeg (((4 : Int32) * j2) + (μ.2.1 116 (Int32.toNatClampNeg j2)))) x12 → (vp_in j2 4 ∧ (vp_in j2 4 ∧ ∀ μ17 : Mu, μ17 = setA μ14 116 (Int32.toNatClampNeg j2) ((μ14.2.1 116 (Int32.toNatClampNeg j2)) + (1 : Int32)) → (((j4 = 0) → wp_Mod_become j1 (1 : Int32) (0 : Int32) μ17 (fun μ18 => Q (0 : Int32) μ18)) ∧ ((¬ j4 = 0) → wp_Mod_become j1 (1 : Int32) (1 : Int32) μ17 (fun μ19 => Q (0 : Int32) μ19))))))))))
set_option maxRecDepth 100000 in
set_option maxHeartbeats 4000000 in
theorem g_Mod_send_j71 {l : Launch} {j1 : Int32} {j2 : Int32} {j3 : Int32} {j4 : Int32}   {Q : Int32 → Mu → Prop}  {μ : Mu} (hk : wp_Mod_send_j71 j1 j2 j3 j4 μ  Q) : Go (mE l) mt_Mod_send false (rmd 4) 0 0 71 [some (.ref 91), some (.int j1), some (.int j2), some (.int j3), some (.int j4), none] [] (lay μ) (PI Q) := by
  unfold wp_Mod_send_j71 at hk
  refine go_iload (pc := 71) d_Mod_send_71 rfl ?_
  refine go_if_eq (pc := 73) (tgt := 107) d_Mod_send_73 rfl (fun h73 => ?_) (fun h73 => ?_)
  · replace hk := hk.1 h73
    refine go_aload_n (pc := 107) (i := 0) d_Mod_send_107 rfl rfl ?_
    refine go_iload_n (pc := 108) (i := 1) d_Mod_send_108 rfl rfl ?_
    refine go_iconst (pc := 109) (v := 1) d_Mod_send_109 (by decide) ?_
    refine go_iload (pc := 110) d_Mod_send_110 rfl ?_
    refine go_if_eq (pc := 112) (tgt := 119) d_Mod_send_112 rfl (fun h112 => ?_) (fun h112 => ?_)
    · replace hk := hk.1 h112
      refine go_iconst (pc := 119) (v := 0) d_Mod_send_119 (by decide) ?_
      refine go_callV (pc := 120) (m_Mod_become  hk) cz_Mod_become cv_Mod_become (Or.inl lk_Mod_170) (lay_at sh_model) rfl rfl rfl (Nat.le_of_ble_eq_true rfl) ⟨by decide, by decide⟩ rfl rfl d_Mod_send_120 (fun r M' hr => ?_)
      obtain ⟨μ8, rfl, rfl, hk⟩ := hr
      try dsimp only [Option.toList, List.cons_append, List.nil_append]
      refine go_iconst (pc := 123) (v := 0) d_Mod_send_123 (by decide) ?_
      exact go_ret (pc := 124) (r := some (.int (0 : Int32))) d_Mod_send_124 ⟨_, _, rfl, rfl, hk⟩
    · replace hk := hk.2 h112
      refine go_iconst (pc := 115) (v := 1) d_Mod_send_115 (by decide) ?_
      refine go_goto (pc := 116) (tgt := 120) d_Mod_send_116 rfl ?_
      refine go_callV (pc := 120) (m_Mod_become  hk) cz_Mod_become cv_Mod_become (Or.inl lk_Mod_170) (lay_at sh_model) rfl rfl rfl (Nat.le_of_ble_eq_true rfl) ⟨by decide, by decide⟩ rfl rfl d_Mod_send_120 (fun r M' hr => ?_)
      obtain ⟨μ9, rfl, rfl, hk⟩ := hr
      try dsimp only [Option.toList, List.cons_append, List.nil_append]
      refine go_iconst (pc := 123) (v := 0) d_Mod_send_123 (by decide) ?_
      exact go_ret (pc := 124) (r := some (.int (0 : Int32))) d_Mod_send_124 ⟨_, _, rfl, rfl, hk⟩
  · replace hk := hk.2 h73
    refine go_aload_n (pc := 76) (i := 0) d_Mod_send_76 rfl rfl ?_
    refine go_getR (pc := 77) (r := 115) sh_model rfl fl_Mod_80 d_Mod_send_77 ?_
    refine go_iconst (pc := 80) (v := 4) d_Mod_send_80 (by decide) ?_
    refine go_iload_n (pc := 81) (i := 2) d_Mod_send_81 rfl rfl ?_
    refine go_imul (pc := 82) d_Mod_send_82 ?_
    refine go_aload_n (pc := 83) (i := 0) d_Mod_send_83 rfl rfl ?_
    refine go_getR (pc := 84) (r := 116) sh_model rfl fl_Mod_83 d_Mod_send_84 ?_
    refine go_iload_n (pc := 87) (i := 2) d_Mod_send_87 rfl rfl ?_
    obtain ⟨hi10, hk⟩ := hk
    refine go_aldI (pc := 88) sh_m_mails hi10 d_Mod_send_88 ?_
    refine go_iadd (pc := 89) d_Mod_send_89 ?_
    refine go_aload_n (pc := 90) (i := 0) d_Mod_send_90 rfl rfl ?_
    refine go_iload_n (pc := 91) (i := 3) d_Mod_send_91 rfl rfl ?_
    refine go_iload_n (pc := 92) (i := 2) d_Mod_send_92 rfl rfl ?_
    refine go_callV (pc := 93) (m_Mod_copy  hk) cz_Mod_copy cv_Mod_copy (Or.inl lk_Mod_180) (lay_at sh_model) rfl rfl rfl (Nat.le_of_ble_eq_true rfl) ⟨by decide, by decide⟩ rfl rfl d_Mod_send_93 (fun r M' hr => ?_)
    obtain ⟨x12, μ11, rfl, rfl, hk⟩ := hr
    try dsimp only [Option.toList, List.cons_append, List.nil_append]
    obtain ⟨hi13, hk⟩ := hk
    refine go_astIn (pc := 96) sh_m_mail hi13 d_Mod_send_96 (fun μ14 e14 => ?_)
    replace hk := hk μ14 e14
    refine go_aload_n (pc := 97) (i := 0) d_Mod_send_97 rfl rfl ?_
    refine go_getR (pc := 98) (r := 116) sh_model rfl fl_Mod_83 d_Mod_send_98 ?_
    refine go_iload_n (pc := 101) (i := 2) d_Mod_send_101 rfl rfl ?_
    refine go_dup2 (pc := 102) d_Mod_send_102 rfl rfl ?_
    obtain ⟨hi15, hk⟩ := hk
    refine go_aldI (pc := 103) sh_m_mails hi15 d_Mod_send_103 ?_
    refine go_iconst (pc := 104) (v := 1) d_Mod_send_104 (by decide) ?_
    refine go_iadd (pc := 105) d_Mod_send_105 ?_
    obtain ⟨hi16, hk⟩ := hk
    refine go_astIn (pc := 106) sh_m_mails hi16 d_Mod_send_106 (fun μ17 e17 => ?_)
    replace hk := hk μ17 e17
    refine go_aload_n (pc := 107) (i := 0) d_Mod_send_107 rfl rfl ?_
    refine go_iload_n (pc := 108) (i := 1) d_Mod_send_108 rfl rfl ?_
    refine go_iconst (pc := 109) (v := 1) d_Mod_send_109 (by decide) ?_
    refine go_iload (pc := 110) d_Mod_send_110 rfl ?_
    refine go_if_eq (pc := 112) (tgt := 119) d_Mod_send_112 rfl (fun h112 => ?_) (fun h112 => ?_)
    · replace hk := hk.1 h112
      refine go_iconst (pc := 119) (v := 0) d_Mod_send_119 (by decide) ?_
      refine go_callV (pc := 120) (m_Mod_become  hk) cz_Mod_become cv_Mod_become (Or.inl lk_Mod_170) (lay_at sh_model) rfl rfl rfl (Nat.le_of_ble_eq_true rfl) ⟨by decide, by decide⟩ rfl rfl d_Mod_send_120 (fun r M' hr => ?_)
      obtain ⟨μ18, rfl, rfl, hk⟩ := hr
      try dsimp only [Option.toList, List.cons_append, List.nil_append]
      refine go_iconst (pc := 123) (v := 0) d_Mod_send_123 (by decide) ?_
      exact go_ret (pc := 124) (r := some (.int (0 : Int32))) d_Mod_send_124 ⟨_, _, rfl, rfl, hk⟩
    · replace hk := hk.2 h112
      refine go_iconst (pc := 115) (v := 1) d_Mod_send_115 (by decide) ?_
      refine go_goto (pc := 116) (tgt := 120) d_Mod_send_116 rfl ?_
      refine go_callV (pc := 120) (m_Mod_become  hk) cz_Mod_become cv_Mod_become (Or.inl lk_Mod_170) (lay_at sh_model) rfl rfl rfl (Nat.le_of_ble_eq_true rfl) ⟨by decide, by decide⟩ rfl rfl d_Mod_send_120 (fun r M' hr => ?_)
      obtain ⟨μ19, rfl, rfl, hk⟩ := hr
      try dsimp only [Option.toList, List.cons_append, List.nil_append]
      refine go_iconst (pc := 123) (v := 0) d_Mod_send_123 (by decide) ?_
      exact go_ret (pc := 124) (r := some (.int (0 : Int32))) d_Mod_send_124 ⟨_, _, rfl, rfl, hk⟩
def wp_Mod_send_j48 (j1 : Int32) (j2 : Int32) (j3 : Int32) (s0 : Int32) (μ : Mu)  (Q : Int32 → Mu → Prop) : Prop := wp_Mod_toCopy j3 μ (fun x7 μ6 => (((s0 = 0) → wp_Mod_send_j71 j1 j2 j3 s0 μ6  Q) ∧ ((¬ s0 = 0) → wp_Mod_room j2 x7 μ6 (fun x21 μ20 => wp_Mod_send_j71 j1 j2 j3 x21 μ20  Q))))
set_option maxRecDepth 100000 in
set_option maxHeartbeats 4000000 in
theorem g_Mod_send_j48 {l : Launch} {j1 : Int32} {j2 : Int32} {j3 : Int32} {s0 : Int32}   {Q : Int32 → Mu → Prop}  {μ : Mu} (hk : wp_Mod_send_j48 j1 j2 j3 s0 μ  Q) : Go (mE l) mt_Mod_send false (rmd 4) 0 0 48 [some (.ref 91), some (.int j1), some (.int j2), some (.int j3), none, none] [.int s0] (lay μ) (PI Q) := by
  unfold wp_Mod_send_j48 at hk
  refine go_istore (pc := 48) (L' := [some (.ref 91), some (.int j1), some (.int j2), some (.int j3), some (.int s0), none]) d_Mod_send_48 (by decide) rfl ?_
  refine go_aload_n (pc := 50) (i := 0) d_Mod_send_50 rfl rfl ?_
  refine go_iload_n (pc := 51) (i := 3) d_Mod_send_51 rfl rfl ?_
  refine go_callV (pc := 52) (m_Mod_toCopy  hk) cz_Mod_toCopy cv_Mod_toCopy (Or.inl lk_Mod_177) (lay_at sh_model) rfl rfl rfl (Nat.le_of_ble_eq_true rfl) ⟨by decide, by decide⟩ rfl rfl d_Mod_send_52 (fun r M' hr => ?_)
  obtain ⟨x7, μ6, rfl, rfl, hk⟩ := hr
  try dsimp only [Option.toList, List.cons_append, List.nil_append]
  refine go_istore (pc := 55) (L' := [some (.ref 91), some (.int j1), some (.int j2), some (.int j3), some (.int s0), some (.int x7)]) d_Mod_send_55 (by decide) rfl ?_
  refine go_iload (pc := 57) d_Mod_send_57 rfl ?_
  refine go_if_eq (pc := 59) (tgt := 71) d_Mod_send_59 rfl (fun h59 => ?_) (fun h59 => ?_)
  · replace hk := hk.1 h59
    refine go_weak (L' := [some (.ref 91), some (.int j1), some (.int j2), some (.int j3), some (.int s0), none]) (lle_at (by simp [lle])) ?_
    exact g_Mod_send_j71   hk
  · replace hk := hk.2 h59
    refine go_aload_n (pc := 62) (i := 0) d_Mod_send_62 rfl rfl ?_
    refine go_iload_n (pc := 63) (i := 2) d_Mod_send_63 rfl rfl ?_
    refine go_iload (pc := 64) d_Mod_send_64 rfl ?_
    refine go_callV (pc := 66) (m_Mod_room  hk) cz_Mod_room cv_Mod_room (Or.inl lk_Mod_164) (lay_at sh_model) rfl rfl rfl (Nat.le_of_ble_eq_true rfl) ⟨by decide, by decide⟩ rfl rfl d_Mod_send_66 (fun r M' hr => ?_)
    obtain ⟨x21, μ20, rfl, rfl, hk⟩ := hr
    try dsimp only [Option.toList, List.cons_append, List.nil_append]
    refine go_istore (pc := 69) (L' := [some (.ref 91), some (.int j1), some (.int j2), some (.int j3), some (.int x21), some (.int x7)]) d_Mod_send_69 (by decide) rfl ?_
    refine go_weak (L' := [some (.ref 91), some (.int j1), some (.int j2), some (.int j3), some (.int x21), none]) (lle_at (by simp [lle])) ?_
    exact g_Mod_send_j71   hk
def wp_Mod_send_j47 (j1 : Int32) (j2 : Int32) (j3 : Int32) (μ : Mu)  (Q : Int32 → Mu → Prop) : Prop := wp_Mod_send_j48 j1 j2 j3 (0 : Int32) μ  Q
set_option maxRecDepth 100000 in
set_option maxHeartbeats 4000000 in
theorem g_Mod_send_j47 {l : Launch} {j1 : Int32} {j2 : Int32} {j3 : Int32}   {Q : Int32 → Mu → Prop}  {μ : Mu} (hk : wp_Mod_send_j47 j1 j2 j3 μ  Q) : Go (mE l) mt_Mod_send false (rmd 4) 0 0 47 [some (.ref 91), some (.int j1), some (.int j2), some (.int j3), none, none] [] (lay μ) (PI Q) := by
  unfold wp_Mod_send_j47 at hk
  refine go_iconst (pc := 47) (v := 0) d_Mod_send_47 (by decide) ?_
  exact g_Mod_send_j48   hk
def wp_Mod_send (a1 : Int32) (a2 : Int32) (μ : Mu) (Q : Int32 → Mu → Prop) : Prop := (vp_in (((4 : Int32) * a1) + a2) 16 ∧ (((¬ ((μ.2.1 121 (Int32.toNatClampNeg (((4 : Int32) * a1) + a2))) - (μ.2.1 121 (Int32.toNatClampNeg (((4 : Int32) * a1) + a2))) / (2 : Int32) * (2 : Int32)) = 0) → wp_Mod_value a1 (0 : Int32) μ (fun x3 μ2 => wp_Mod_alive a2 μ2 (fun x5 μ4 => (((x5 = 0) → wp_Mod_send_j47 a1 a2 x3 μ4  Q) ∧ ((¬ x5 = 0) → (vp_in a2 4 ∧ ((((4 : Int32) ≤ (μ4.2.1 116 (Int32.toNatClampNeg a2))) → wp_Mod_send_j47 a1 a2 x3 μ4  Q) ∧ ((¬ (4 : Int32) ≤ (μ4.2.1 116 (Int32.toNatClampNeg a2))) → wp_Mod_send_j48 a1 a2 x3 (1 : Int32) μ4  Q)))))))) ∧ ((((μ.2.1 121 (Int32.toNatClampNeg (((4 : Int32) * a1) + a2))) - (μ.2.1 121 (Int32.toNatClampNeg (((4 : Int32) * a1) + a2))) / (2 : Int32) * (2 : Int32)) = 0) → Q (10 : Int32) μ)))
set_option maxRecDepth 100000 in
set_option maxHeartbeats 4000000 in
theorem m_Mod_send {l : Launch} {a1 : Int32} {a2 : Int32}  {μ : Mu} {Q : Int32 → Mu → Prop} (hk : wp_Mod_send a1 a2 μ Q) : Mets (mE l) mt_Mod_send false (rmd 4) [.ref 91, .int a1, .int a2] (lay μ) (PI Q) := by
  unfold wp_Mod_send at hk
  refine mets_of (L := [some (.ref 91), some (.int a1), some (.int a2), none, none, none]) (by decide) (Nat.le_of_ble_eq_true rfl) rfl ?_
  refine go_aload_n (pc := 0) (i := 0) d_Mod_send_0 rfl rfl ?_
  refine go_getR (pc := 1) (r := 121) sh_model rfl fl_Mod_98 d_Mod_send_1 ?_
  refine go_iconst (pc := 4) (v := 4) d_Mod_send_4 (by decide) ?_
  refine go_iload_n (pc := 5) (i := 1) d_Mod_send_5 rfl rfl ?_
  refine go_imul (pc := 6) d_Mod_send_6 ?_
  refine go_iload_n (pc := 7) (i := 2) d_Mod_send_7 rfl rfl ?_
  refine go_iadd (pc := 8) d_Mod_send_8 ?_
  obtain ⟨hi1, hk⟩ := hk
  refine go_aldI (pc := 9) sh_m_allowed hi1 d_Mod_send_9 ?_
  refine go_iconst (pc := 10) (v := 2) d_Mod_send_10 (by decide) ?_
  refine go_irem (pc := 11) d_Mod_send_11 (by decide) ?_
  refine go_if_ne (pc := 12) (tgt := 18) d_Mod_send_12 rfl (fun h12 => ?_) (fun h12 => ?_)
  · replace hk := hk.1 h12
    refine go_aload_n (pc := 18) (i := 0) d_Mod_send_18 rfl rfl ?_
    refine go_iload_n (pc := 19) (i := 1) d_Mod_send_19 rfl rfl ?_
    refine go_iconst (pc := 20) (v := 0) d_Mod_send_20 (by decide) ?_
    refine go_callV (pc := 21) (m_Mod_value  hk) cz_Mod_value cv_Mod_value (Or.inl lk_Mod_167) (lay_at sh_model) rfl rfl rfl (Nat.le_of_ble_eq_true rfl) ⟨by decide, by decide⟩ rfl rfl d_Mod_send_21 (fun r M' hr => ?_)
    obtain ⟨x3, μ2, rfl, rfl, hk⟩ := hr
    try dsimp only [Option.toList, List.cons_append, List.nil_append]
    refine go_istore_n (pc := 24) (i := 3) (L' := [some (.ref 91), some (.int a1), some (.int a2), some (.int x3), none, none]) d_Mod_send_24 rfl (by decide) rfl ?_
    refine go_aload_n (pc := 25) (i := 0) d_Mod_send_25 rfl rfl ?_
    refine go_iload_n (pc := 26) (i := 2) d_Mod_send_26 rfl rfl ?_
    refine go_callV (pc := 27) (m_Mod_alive  hk) cz_Mod_alive cv_Mod_alive (Or.inl lk_Mod_174) (lay_at sh_model) rfl rfl rfl (Nat.le_of_ble_eq_true rfl) ⟨by decide, by decide⟩ rfl rfl d_Mod_send_27 (fun r M' hr => ?_)
    obtain ⟨x5, μ4, rfl, rfl, hk⟩ := hr
    try dsimp only [Option.toList, List.cons_append, List.nil_append]
    refine go_if_eq (pc := 30) (tgt := 47) d_Mod_send_30 rfl (fun h30 => ?_) (fun h30 => ?_)
    · replace hk := hk.1 h30
      exact g_Mod_send_j47   hk
    · replace hk := hk.2 h30
      refine go_aload_n (pc := 33) (i := 0) d_Mod_send_33 rfl rfl ?_
      refine go_getR (pc := 34) (r := 116) sh_model rfl fl_Mod_83 d_Mod_send_34 ?_
      refine go_iload_n (pc := 37) (i := 2) d_Mod_send_37 rfl rfl ?_
      obtain ⟨hi22, hk⟩ := hk
      refine go_aldI (pc := 38) sh_m_mails hi22 d_Mod_send_38 ?_
      refine go_iconst (pc := 39) (v := 4) d_Mod_send_39 (by decide) ?_
      refine go_icmp_ge (pc := 40) (tgt := 47) d_Mod_send_40 rfl (fun h40 => ?_) (fun h40 => ?_)
      · replace hk := hk.1 h40
        exact g_Mod_send_j47   hk
      · replace hk := hk.2 h40
        refine go_iconst (pc := 43) (v := 1) d_Mod_send_43 (by decide) ?_
        refine go_goto (pc := 44) (tgt := 48) d_Mod_send_44 rfl ?_
        exact g_Mod_send_j48   hk
  · replace hk := hk.2 h12
    refine go_bipush (pc := 15) (v := 10) d_Mod_send_15 (by decide) ?_
    exact go_ret (pc := 17) (r := some (.int (10 : Int32))) d_Mod_send_17 ⟨_, _, rfl, rfl, hk⟩
def wp_Mod_shiftInput_5 (w1 : Int32) (K0 : Int32 → Mu → Prop) (Q : Mu → Prop) : Nat → Int32 → Mu → Prop
  | 0, _, _ => False
  | n5 + 1, v2, μ => ((((((8 : Int32) * w1) + (7 : Int32)) ≤ v2) → K0 v2 μ) ∧ ((¬ (((8 : Int32) * w1) + (7 : Int32)) ≤ v2) → (vp_in (v2 + (1 : Int32)) 32 ∧ (vp_in v2 32 ∧ ∀ μ3 : Mu, μ3 = setA μ 117 (Int32.toNatClampNeg v2) (μ.2.1 117 (Int32.toNatClampNeg (v2 + (1 : Int32)))) → wp_Mod_shiftInput_5 w1 K0 Q n5 (v2 + 1) μ3))))
set_option maxRecDepth 100000 in
set_option maxHeartbeats 4000000 in
theorem g_Mod_shiftInput_5 {l : Launch} {w1 : Int32}  {K0 : Int32 → Mu → Prop} {Q : Mu → Prop} (hK0 : ∀ (v2 : Int32) (μ : Mu), K0 v2 μ → Go (mE l) mt_Mod_shiftInput false (rmd 0) 0 0 36 [some (.ref 91), some (.int w1), some (.int v2)] [] (lay μ) (PV Q)) : ∀ (n : Nat) (v2 : Int32) (μ : Mu), wp_Mod_shiftInput_5 w1 K0 Q n v2 μ → Go (mE l) mt_Mod_shiftInput false (rmd 0) 0 0 5 [some (.ref 91), some (.int w1), some (.int v2)] [] (lay μ) (PV Q) := by
  intro n
  induction n with
  | zero => intro v2 μ hk; exact hk.elim
  | succ n ih =>
    intro v2 μ hk
    unfold wp_Mod_shiftInput_5 at hk
    refine go_iload_n (pc := 5) (i := 2) d_Mod_shiftInput_5 rfl rfl ?_
    refine go_bipush (pc := 6) (v := 8) d_Mod_shiftInput_6 (by decide) ?_
    refine go_iload_n (pc := 8) (i := 1) d_Mod_shiftInput_8 rfl rfl ?_
    refine go_imul (pc := 9) d_Mod_shiftInput_9 ?_
    refine go_bipush (pc := 10) (v := 7) d_Mod_shiftInput_10 (by decide) ?_
    refine go_iadd (pc := 12) d_Mod_shiftInput_12 ?_
    refine go_icmp_ge (pc := 13) (tgt := 36) d_Mod_shiftInput_13 rfl (fun h13 => ?_) (fun h13 => ?_)
    · replace hk := hk.1 h13
      exact hK0 _ _ hk
    · replace hk := hk.2 h13
      refine go_aload_n (pc := 16) (i := 0) d_Mod_shiftInput_16 rfl rfl ?_
      refine go_getR (pc := 17) (r := 117) sh_model rfl fl_Mod_86 d_Mod_shiftInput_17 ?_
      refine go_iload_n (pc := 20) (i := 2) d_Mod_shiftInput_20 rfl rfl ?_
      refine go_aload_n (pc := 21) (i := 0) d_Mod_shiftInput_21 rfl rfl ?_
      refine go_getR (pc := 22) (r := 117) sh_model rfl fl_Mod_86 d_Mod_shiftInput_22 ?_
      refine go_iload_n (pc := 25) (i := 2) d_Mod_shiftInput_25 rfl rfl ?_
      refine go_iconst (pc := 26) (v := 1) d_Mod_shiftInput_26 (by decide) ?_
      refine go_iadd (pc := 27) d_Mod_shiftInput_27 ?_
      obtain ⟨hi1, hk⟩ := hk
      refine go_aldI (pc := 28) sh_m_input hi1 d_Mod_shiftInput_28 ?_
      obtain ⟨hi2, hk⟩ := hk
      refine go_astIn (pc := 29) sh_m_input hi2 d_Mod_shiftInput_29 (fun μ3 e3 => ?_)
      replace hk := hk μ3 e3
      refine go_iinc (pc := 30) (v := (v2 + 1)) (L' := [some (.ref 91), some (.int w1), some (.int (v2 + 1))]) d_Mod_shiftInput_30 rfl rfl (by decide) rfl ?_
      refine go_goto (pc := 33) (tgt := 5) d_Mod_shiftInput_33 rfl ?_
      exact ih _ _ hk
def wp_Mod_shiftInput (a1 : Int32) (μ : Mu) (Q : Mu → Prop) : Prop := (∃ n5, wp_Mod_shiftInput_5 a1 (fun v4 μ5 => (vp_in a1 4 ∧ (vp_in a1 4 ∧ ∀ μ8 : Mu, μ8 = setA μ5 118 (Int32.toNatClampNeg a1) ((μ5.2.1 118 (Int32.toNatClampNeg a1)) - (1 : Int32)) → Q μ8))) Q n5 ((8 : Int32) * a1) μ)
set_option maxRecDepth 100000 in
set_option maxHeartbeats 4000000 in
theorem m_Mod_shiftInput {l : Launch} {a1 : Int32}  {μ : Mu} {Q : Mu → Prop} (hk : wp_Mod_shiftInput a1 μ Q) : Mets (mE l) mt_Mod_shiftInput false (rmd 0) [.ref 91, .int a1] (lay μ) (PV Q) := by
  unfold wp_Mod_shiftInput at hk
  refine mets_of (L := [some (.ref 91), some (.int a1), none]) (by decide) (Nat.le_of_ble_eq_true rfl) rfl ?_
  refine go_bipush (pc := 0) (v := 8) d_Mod_shiftInput_0 (by decide) ?_
  refine go_iload_n (pc := 2) (i := 1) d_Mod_shiftInput_2 rfl rfl ?_
  refine go_imul (pc := 3) d_Mod_shiftInput_3 ?_
  refine go_istore_n (pc := 4) (i := 2) (L' := [some (.ref 91), some (.int a1), some (.int ((8 : Int32) * a1))]) d_Mod_shiftInput_4 rfl (by decide) rfl ?_
  obtain ⟨n, hk⟩ := hk
  refine g_Mod_shiftInput_5  (fun v4 μ5 hk => ?_) n _ _ hk
  · try dsimp only at hk
    refine go_aload_n (pc := 36) (i := 0) d_Mod_shiftInput_36 rfl rfl ?_
    refine go_getR (pc := 37) (r := 118) sh_model rfl fl_Mod_89 d_Mod_shiftInput_37 ?_
    refine go_iload_n (pc := 40) (i := 1) d_Mod_shiftInput_40 rfl rfl ?_
    refine go_dup2 (pc := 41) d_Mod_shiftInput_41 rfl rfl ?_
    obtain ⟨hi6, hk⟩ := hk
    refine go_aldI (pc := 42) sh_m_inputs hi6 d_Mod_shiftInput_42 ?_
    refine go_iconst (pc := 43) (v := 1) d_Mod_shiftInput_43 (by decide) ?_
    refine go_isub (pc := 44) d_Mod_shiftInput_44 ?_
    obtain ⟨hi7, hk⟩ := hk
    refine go_astIn (pc := 45) sh_m_inputs hi7 d_Mod_shiftInput_45 (fun μ8 e8 => ?_)
    replace hk := hk μ8 e8
    exact go_ret (pc := 46) (r := none) d_Mod_shiftInput_46 ⟨_, rfl, rfl, hk⟩
def wp_Mod_shiftMail_4 (w1 : Int32) (K0 : Int32 → Mu → Prop) (Q : Mu → Prop) : Nat → Int32 → Mu → Prop
  | 0, _, _ => False
  | n4 + 1, v2, μ => ((((((4 : Int32) * w1) + (3 : Int32)) ≤ v2) → K0 v2 μ) ∧ ((¬ (((4 : Int32) * w1) + (3 : Int32)) ≤ v2) → (vp_in (v2 + (1 : Int32)) 16 ∧ (vp_in v2 16 ∧ ∀ μ3 : Mu, μ3 = setA μ 115 (Int32.toNatClampNeg v2) (μ.2.1 115 (Int32.toNatClampNeg (v2 + (1 : Int32)))) → wp_Mod_shiftMail_4 w1 K0 Q n4 (v2 + 1) μ3))))
set_option maxRecDepth 100000 in
set_option maxHeartbeats 4000000 in
theorem g_Mod_shiftMail_4 {l : Launch} {w1 : Int32}  {K0 : Int32 → Mu → Prop} {Q : Mu → Prop} (hK0 : ∀ (v2 : Int32) (μ : Mu), K0 v2 μ → Go (mE l) mt_Mod_shiftMail false (rmd 0) 0 0 33 [some (.ref 91), some (.int w1), some (.int v2)] [] (lay μ) (PV Q)) : ∀ (n : Nat) (v2 : Int32) (μ : Mu), wp_Mod_shiftMail_4 w1 K0 Q n v2 μ → Go (mE l) mt_Mod_shiftMail false (rmd 0) 0 0 4 [some (.ref 91), some (.int w1), some (.int v2)] [] (lay μ) (PV Q) := by
  intro n
  induction n with
  | zero => intro v2 μ hk; exact hk.elim
  | succ n ih =>
    intro v2 μ hk
    unfold wp_Mod_shiftMail_4 at hk
    refine go_iload_n (pc := 4) (i := 2) d_Mod_shiftMail_4 rfl rfl ?_
    refine go_iconst (pc := 5) (v := 4) d_Mod_shiftMail_5 (by decide) ?_
    refine go_iload_n (pc := 6) (i := 1) d_Mod_shiftMail_6 rfl rfl ?_
    refine go_imul (pc := 7) d_Mod_shiftMail_7 ?_
    refine go_iconst (pc := 8) (v := 3) d_Mod_shiftMail_8 (by decide) ?_
    refine go_iadd (pc := 9) d_Mod_shiftMail_9 ?_
    refine go_icmp_ge (pc := 10) (tgt := 33) d_Mod_shiftMail_10 rfl (fun h10 => ?_) (fun h10 => ?_)
    · replace hk := hk.1 h10
      exact hK0 _ _ hk
    · replace hk := hk.2 h10
      refine go_aload_n (pc := 13) (i := 0) d_Mod_shiftMail_13 rfl rfl ?_
      refine go_getR (pc := 14) (r := 115) sh_model rfl fl_Mod_80 d_Mod_shiftMail_14 ?_
      refine go_iload_n (pc := 17) (i := 2) d_Mod_shiftMail_17 rfl rfl ?_
      refine go_aload_n (pc := 18) (i := 0) d_Mod_shiftMail_18 rfl rfl ?_
      refine go_getR (pc := 19) (r := 115) sh_model rfl fl_Mod_80 d_Mod_shiftMail_19 ?_
      refine go_iload_n (pc := 22) (i := 2) d_Mod_shiftMail_22 rfl rfl ?_
      refine go_iconst (pc := 23) (v := 1) d_Mod_shiftMail_23 (by decide) ?_
      refine go_iadd (pc := 24) d_Mod_shiftMail_24 ?_
      obtain ⟨hi1, hk⟩ := hk
      refine go_aldI (pc := 25) sh_m_mail hi1 d_Mod_shiftMail_25 ?_
      obtain ⟨hi2, hk⟩ := hk
      refine go_astIn (pc := 26) sh_m_mail hi2 d_Mod_shiftMail_26 (fun μ3 e3 => ?_)
      replace hk := hk μ3 e3
      refine go_iinc (pc := 27) (v := (v2 + 1)) (L' := [some (.ref 91), some (.int w1), some (.int (v2 + 1))]) d_Mod_shiftMail_27 rfl rfl (by decide) rfl ?_
      refine go_goto (pc := 30) (tgt := 4) d_Mod_shiftMail_30 rfl ?_
      exact ih _ _ hk
def wp_Mod_shiftMail (a1 : Int32) (μ : Mu) (Q : Mu → Prop) : Prop := (∃ n4, wp_Mod_shiftMail_4 a1 (fun v4 μ5 => (vp_in a1 4 ∧ (vp_in a1 4 ∧ ∀ μ8 : Mu, μ8 = setA μ5 116 (Int32.toNatClampNeg a1) ((μ5.2.1 116 (Int32.toNatClampNeg a1)) - (1 : Int32)) → Q μ8))) Q n4 ((4 : Int32) * a1) μ)
set_option maxRecDepth 100000 in
set_option maxHeartbeats 4000000 in
theorem m_Mod_shiftMail {l : Launch} {a1 : Int32}  {μ : Mu} {Q : Mu → Prop} (hk : wp_Mod_shiftMail a1 μ Q) : Mets (mE l) mt_Mod_shiftMail false (rmd 0) [.ref 91, .int a1] (lay μ) (PV Q) := by
  unfold wp_Mod_shiftMail at hk
  refine mets_of (L := [some (.ref 91), some (.int a1), none]) (by decide) (Nat.le_of_ble_eq_true rfl) rfl ?_
  refine go_iconst (pc := 0) (v := 4) d_Mod_shiftMail_0 (by decide) ?_
  refine go_iload_n (pc := 1) (i := 1) d_Mod_shiftMail_1 rfl rfl ?_
  refine go_imul (pc := 2) d_Mod_shiftMail_2 ?_
  refine go_istore_n (pc := 3) (i := 2) (L' := [some (.ref 91), some (.int a1), some (.int ((4 : Int32) * a1))]) d_Mod_shiftMail_3 rfl (by decide) rfl ?_
  obtain ⟨n, hk⟩ := hk
  refine g_Mod_shiftMail_4  (fun v4 μ5 hk => ?_) n _ _ hk
  · try dsimp only at hk
    refine go_aload_n (pc := 33) (i := 0) d_Mod_shiftMail_33 rfl rfl ?_
    refine go_getR (pc := 34) (r := 116) sh_model rfl fl_Mod_83 d_Mod_shiftMail_34 ?_
    refine go_iload_n (pc := 37) (i := 1) d_Mod_shiftMail_37 rfl rfl ?_
    refine go_dup2 (pc := 38) d_Mod_shiftMail_38 rfl rfl ?_
    obtain ⟨hi6, hk⟩ := hk
    refine go_aldI (pc := 39) sh_m_mails hi6 d_Mod_shiftMail_39 ?_
    refine go_iconst (pc := 40) (v := 1) d_Mod_shiftMail_40 (by decide) ?_
    refine go_isub (pc := 41) d_Mod_shiftMail_41 ?_
    obtain ⟨hi7, hk⟩ := hk
    refine go_astIn (pc := 42) sh_m_mails hi7 d_Mod_shiftMail_42 (fun μ8 e8 => ?_)
    replace hk := hk μ8 e8
    exact go_ret (pc := 43) (r := none) d_Mod_shiftMail_43 ⟨_, rfl, rfl, hk⟩
def wp_Mod_start (a1 : Int32) (a2 : Int32) (μ : Mu) (Q : Int32 → Mu → Prop) : Prop := (vp_in (((4 : Int32) * a1) + a2) 16 ∧ (((¬ (((μ.2.1 121 (Int32.toNatClampNeg (((4 : Int32) * a1) + a2))) / (2 : Int32)) - ((μ.2.1 121 (Int32.toNatClampNeg (((4 : Int32) * a1) + a2))) / (2 : Int32)) / (2 : Int32) * (2 : Int32)) = 0) → wp_Mod_value a1 (0 : Int32) μ (fun x3 μ2 => wp_Mod_launch a2 x3 μ2 (fun x5 μ4 => (((x5 = 0) → wp_Mod_become a1 (1 : Int32) (0 : Int32) μ4 (fun μ6 => Q (0 : Int32) μ6)) ∧ ((¬ x5 = 0) → wp_Mod_become a1 (1 : Int32) (1 : Int32) μ4 (fun μ7 => Q (0 : Int32) μ7)))))) ∧ (((((μ.2.1 121 (Int32.toNatClampNeg (((4 : Int32) * a1) + a2))) / (2 : Int32)) - ((μ.2.1 121 (Int32.toNatClampNeg (((4 : Int32) * a1) + a2))) / (2 : Int32)) / (2 : Int32) * (2 : Int32)) = 0) → Q (10 : Int32) μ)))
set_option maxRecDepth 100000 in
set_option maxHeartbeats 4000000 in
theorem m_Mod_start {l : Launch} {a1 : Int32} {a2 : Int32}  {μ : Mu} {Q : Int32 → Mu → Prop} (hk : wp_Mod_start a1 a2 μ Q) : Mets (mE l) mt_Mod_start false (rmd 2) [.ref 91, .int a1, .int a2] (lay μ) (PI Q) := by
  unfold wp_Mod_start at hk
  refine mets_of (L := [some (.ref 91), some (.int a1), some (.int a2), none, none]) (by decide) (Nat.le_of_ble_eq_true rfl) rfl ?_
  refine go_aload_n (pc := 0) (i := 0) d_Mod_start_0 rfl rfl ?_
  refine go_getR (pc := 1) (r := 121) sh_model rfl fl_Mod_98 d_Mod_start_1 ?_
  refine go_iconst (pc := 4) (v := 4) d_Mod_start_4 (by decide) ?_
  refine go_iload_n (pc := 5) (i := 1) d_Mod_start_5 rfl rfl ?_
  refine go_imul (pc := 6) d_Mod_start_6 ?_
  refine go_iload_n (pc := 7) (i := 2) d_Mod_start_7 rfl rfl ?_
  refine go_iadd (pc := 8) d_Mod_start_8 ?_
  obtain ⟨hi1, hk⟩ := hk
  refine go_aldI (pc := 9) sh_m_allowed hi1 d_Mod_start_9 ?_
  refine go_iconst (pc := 10) (v := 2) d_Mod_start_10 (by decide) ?_
  refine go_idiv (pc := 11) d_Mod_start_11 (by decide) ?_
  refine go_iconst (pc := 12) (v := 2) d_Mod_start_12 (by decide) ?_
  refine go_irem (pc := 13) d_Mod_start_13 (by decide) ?_
  refine go_if_ne (pc := 14) (tgt := 20) d_Mod_start_14 rfl (fun h14 => ?_) (fun h14 => ?_)
  · replace hk := hk.1 h14
    refine go_aload_n (pc := 20) (i := 0) d_Mod_start_20 rfl rfl ?_
    refine go_iload_n (pc := 21) (i := 1) d_Mod_start_21 rfl rfl ?_
    refine go_iconst (pc := 22) (v := 0) d_Mod_start_22 (by decide) ?_
    refine go_callV (pc := 23) (m_Mod_value  hk) cz_Mod_value cv_Mod_value (Or.inl lk_Mod_167) (lay_at sh_model) rfl rfl rfl (Nat.le_of_ble_eq_true rfl) ⟨by decide, by decide⟩ rfl rfl d_Mod_start_23 (fun r M' hr => ?_)
    obtain ⟨x3, μ2, rfl, rfl, hk⟩ := hr
    try dsimp only [Option.toList, List.cons_append, List.nil_append]
    refine go_istore_n (pc := 26) (i := 3) (L' := [some (.ref 91), some (.int a1), some (.int a2), some (.int x3), none]) d_Mod_start_26 rfl (by decide) rfl ?_
    refine go_aload_n (pc := 27) (i := 0) d_Mod_start_27 rfl rfl ?_
    refine go_iload_n (pc := 28) (i := 2) d_Mod_start_28 rfl rfl ?_
    refine go_iload_n (pc := 29) (i := 3) d_Mod_start_29 rfl rfl ?_
    refine go_callV (pc := 30) (m_Mod_launch  hk) cz_Mod_launch cv_Mod_launch (Or.inl lk_Mod_183) (lay_at sh_model) rfl rfl rfl (Nat.le_of_ble_eq_true rfl) ⟨by decide, by decide⟩ rfl rfl d_Mod_start_30 (fun r M' hr => ?_)
    obtain ⟨x5, μ4, rfl, rfl, hk⟩ := hr
    try dsimp only [Option.toList, List.cons_append, List.nil_append]
    refine go_istore (pc := 33) (L' := [some (.ref 91), some (.int a1), some (.int a2), some (.int x3), some (.int x5)]) d_Mod_start_33 (by decide) rfl ?_
    refine go_aload_n (pc := 35) (i := 0) d_Mod_start_35 rfl rfl ?_
    refine go_iload_n (pc := 36) (i := 1) d_Mod_start_36 rfl rfl ?_
    refine go_iconst (pc := 37) (v := 1) d_Mod_start_37 (by decide) ?_
    refine go_iload (pc := 38) d_Mod_start_38 rfl ?_
    refine go_if_eq (pc := 40) (tgt := 47) d_Mod_start_40 rfl (fun h40 => ?_) (fun h40 => ?_)
    · replace hk := hk.1 h40
      refine go_iconst (pc := 47) (v := 0) d_Mod_start_47 (by decide) ?_
      refine go_callV (pc := 48) (m_Mod_become  hk) cz_Mod_become cv_Mod_become (Or.inl lk_Mod_170) (lay_at sh_model) rfl rfl rfl (Nat.le_of_ble_eq_true rfl) ⟨by decide, by decide⟩ rfl rfl d_Mod_start_48 (fun r M' hr => ?_)
      obtain ⟨μ6, rfl, rfl, hk⟩ := hr
      try dsimp only [Option.toList, List.cons_append, List.nil_append]
      refine go_iconst (pc := 51) (v := 0) d_Mod_start_51 (by decide) ?_
      exact go_ret (pc := 52) (r := some (.int (0 : Int32))) d_Mod_start_52 ⟨_, _, rfl, rfl, hk⟩
    · replace hk := hk.2 h40
      refine go_iconst (pc := 43) (v := 1) d_Mod_start_43 (by decide) ?_
      refine go_goto (pc := 44) (tgt := 48) d_Mod_start_44 rfl ?_
      refine go_callV (pc := 48) (m_Mod_become  hk) cz_Mod_become cv_Mod_become (Or.inl lk_Mod_170) (lay_at sh_model) rfl rfl rfl (Nat.le_of_ble_eq_true rfl) ⟨by decide, by decide⟩ rfl rfl d_Mod_start_48 (fun r M' hr => ?_)
      obtain ⟨μ7, rfl, rfl, hk⟩ := hr
      try dsimp only [Option.toList, List.cons_append, List.nil_append]
      refine go_iconst (pc := 51) (v := 0) d_Mod_start_51 (by decide) ?_
      exact go_ret (pc := 52) (r := some (.int (0 : Int32))) d_Mod_start_52 ⟨_, _, rfl, rfl, hk⟩
  · replace hk := hk.2 h14
    refine go_bipush (pc := 17) (v := 10) d_Mod_start_17 (by decide) ?_
    exact go_ret (pc := 19) (r := some (.int (10 : Int32))) d_Mod_start_19 ⟨_, _, rfl, rfl, hk⟩
def wp_Mod_stop_j33 (j1 : Int32) (j3 : Int32) (μ : Mu)  (Q : Int32 → Mu → Prop) : Prop := wp_Mod_alive j1 μ (fun x5 μ4 => (((x5 = 0) → Q (0 : Int32) μ4) ∧ ((¬ x5 = 0) → (((j3 = 0) → wp_Mod_become j1 (0 : Int32) (0 : Int32) μ4 (fun μ6 => Q (0 : Int32) μ6)) ∧ ((¬ j3 = 0) → wp_Mod_become j1 (0 : Int32) (1 : Int32) μ4 (fun μ7 => Q (0 : Int32) μ7))))))
set_option maxRecDepth 100000 in
set_option maxHeartbeats 4000000 in
theorem g_Mod_stop_j33 {l : Launch} {j1 : Int32} {j3 : Int32}   {Q : Int32 → Mu → Prop}  {μ : Mu} (hk : wp_Mod_stop_j33 j1 j3 μ  Q) : Go (mE l) mt_Mod_stop false (rmd 1) 0 0 33 [some (.ref 91), some (.int j1), none, some (.int j3)] [] (lay μ) (PI Q) := by
  unfold wp_Mod_stop_j33 at hk
  refine go_aload_n (pc := 33) (i := 0) d_Mod_stop_33 rfl rfl ?_
  refine go_iload_n (pc := 34) (i := 1) d_Mod_stop_34 rfl rfl ?_
  refine go_callV (pc := 35) (m_Mod_alive  hk) cz_Mod_alive cv_Mod_alive (Or.inl lk_Mod_174) (lay_at sh_model) rfl rfl rfl (Nat.le_of_ble_eq_true rfl) ⟨by decide, by decide⟩ rfl rfl d_Mod_stop_35 (fun r M' hr => ?_)
  obtain ⟨x5, μ4, rfl, rfl, hk⟩ := hr
  try dsimp only [Option.toList, List.cons_append, List.nil_append]
  refine go_if_eq (pc := 38) (tgt := 56) d_Mod_stop_38 rfl (fun h38 => ?_) (fun h38 => ?_)
  · replace hk := hk.1 h38
    refine go_iconst (pc := 56) (v := 0) d_Mod_stop_56 (by decide) ?_
    exact go_ret (pc := 57) (r := some (.int (0 : Int32))) d_Mod_stop_57 ⟨_, _, rfl, rfl, hk⟩
  · replace hk := hk.2 h38
    refine go_aload_n (pc := 41) (i := 0) d_Mod_stop_41 rfl rfl ?_
    refine go_iload_n (pc := 42) (i := 1) d_Mod_stop_42 rfl rfl ?_
    refine go_iconst (pc := 43) (v := 0) d_Mod_stop_43 (by decide) ?_
    refine go_iload_n (pc := 44) (i := 3) d_Mod_stop_44 rfl rfl ?_
    refine go_if_eq (pc := 45) (tgt := 52) d_Mod_stop_45 rfl (fun h45 => ?_) (fun h45 => ?_)
    · replace hk := hk.1 h45
      refine go_iconst (pc := 52) (v := 0) d_Mod_stop_52 (by decide) ?_
      refine go_callV (pc := 53) (m_Mod_become  hk) cz_Mod_become cv_Mod_become (Or.inl lk_Mod_170) (lay_at sh_model) rfl rfl rfl (Nat.le_of_ble_eq_true rfl) ⟨by decide, by decide⟩ rfl rfl d_Mod_stop_53 (fun r M' hr => ?_)
      obtain ⟨μ6, rfl, rfl, hk⟩ := hr
      try dsimp only [Option.toList, List.cons_append, List.nil_append]
      refine go_iconst (pc := 56) (v := 0) d_Mod_stop_56 (by decide) ?_
      exact go_ret (pc := 57) (r := some (.int (0 : Int32))) d_Mod_stop_57 ⟨_, _, rfl, rfl, hk⟩
    · replace hk := hk.2 h45
      refine go_iconst (pc := 48) (v := 1) d_Mod_stop_48 (by decide) ?_
      refine go_goto (pc := 49) (tgt := 53) d_Mod_stop_49 rfl ?_
      refine go_callV (pc := 53) (m_Mod_become  hk) cz_Mod_become cv_Mod_become (Or.inl lk_Mod_170) (lay_at sh_model) rfl rfl rfl (Nat.le_of_ble_eq_true rfl) ⟨by decide, by decide⟩ rfl rfl d_Mod_stop_53 (fun r M' hr => ?_)
      obtain ⟨μ7, rfl, rfl, hk⟩ := hr
      try dsimp only [Option.toList, List.cons_append, List.nil_append]
      refine go_iconst (pc := 56) (v := 0) d_Mod_stop_56 (by decide) ?_
      exact go_ret (pc := 57) (r := some (.int (0 : Int32))) d_Mod_stop_57 ⟨_, _, rfl, rfl, hk⟩
def wp_Mod_stop (a1 : Int32) (a2 : Int32) (μ : Mu) (Q : Int32 → Mu → Prop) : Prop := (vp_in (((4 : Int32) * a1) + a2) 16 ∧ ((((4 : Int32) ≤ (μ.2.1 121 (Int32.toNatClampNeg (((4 : Int32) * a1) + a2)))) → wp_Mod_alive a2 μ (fun x3 μ2 => (((x3 = 0) → wp_Mod_stop_j33 a1 x3 μ2  Q) ∧ ((¬ x3 = 0) → wp_Mod_end a2 (4 : Int32) μ2 (fun μ8 => wp_Mod_stop_j33 a1 x3 μ8  Q))))) ∧ ((¬ (4 : Int32) ≤ (μ.2.1 121 (Int32.toNatClampNeg (((4 : Int32) * a1) + a2)))) → Q (10 : Int32) μ)))
set_option maxRecDepth 100000 in
set_option maxHeartbeats 4000000 in
theorem m_Mod_stop {l : Launch} {a1 : Int32} {a2 : Int32}  {μ : Mu} {Q : Int32 → Mu → Prop} (hk : wp_Mod_stop a1 a2 μ Q) : Mets (mE l) mt_Mod_stop false (rmd 1) [.ref 91, .int a1, .int a2] (lay μ) (PI Q) := by
  unfold wp_Mod_stop at hk
  refine mets_of (L := [some (.ref 91), some (.int a1), some (.int a2), none]) (by decide) (Nat.le_of_ble_eq_true rfl) rfl ?_
  refine go_aload_n (pc := 0) (i := 0) d_Mod_stop_0 rfl rfl ?_
  refine go_getR (pc := 1) (r := 121) sh_model rfl fl_Mod_98 d_Mod_stop_1 ?_
  refine go_iconst (pc := 4) (v := 4) d_Mod_stop_4 (by decide) ?_
  refine go_iload_n (pc := 5) (i := 1) d_Mod_stop_5 rfl rfl ?_
  refine go_imul (pc := 6) d_Mod_stop_6 ?_
  refine go_iload_n (pc := 7) (i := 2) d_Mod_stop_7 rfl rfl ?_
  refine go_iadd (pc := 8) d_Mod_stop_8 ?_
  obtain ⟨hi1, hk⟩ := hk
  refine go_aldI (pc := 9) sh_m_allowed hi1 d_Mod_stop_9 ?_
  refine go_iconst (pc := 10) (v := 4) d_Mod_stop_10 (by decide) ?_
  refine go_icmp_ge (pc := 11) (tgt := 17) d_Mod_stop_11 rfl (fun h11 => ?_) (fun h11 => ?_)
  · replace hk := hk.1 h11
    refine go_aload_n (pc := 17) (i := 0) d_Mod_stop_17 rfl rfl ?_
    refine go_iload_n (pc := 18) (i := 2) d_Mod_stop_18 rfl rfl ?_
    refine go_callV (pc := 19) (m_Mod_alive  hk) cz_Mod_alive cv_Mod_alive (Or.inl lk_Mod_174) (lay_at sh_model) rfl rfl rfl (Nat.le_of_ble_eq_true rfl) ⟨by decide, by decide⟩ rfl rfl d_Mod_stop_19 (fun r M' hr => ?_)
    obtain ⟨x3, μ2, rfl, rfl, hk⟩ := hr
    try dsimp only [Option.toList, List.cons_append, List.nil_append]
    refine go_istore_n (pc := 22) (i := 3) (L' := [some (.ref 91), some (.int a1), some (.int a2), some (.int x3)]) d_Mod_stop_22 rfl (by decide) rfl ?_
    refine go_iload_n (pc := 23) (i := 3) d_Mod_stop_23 rfl rfl ?_
    refine go_if_eq (pc := 24) (tgt := 33) d_Mod_stop_24 rfl (fun h24 => ?_) (fun h24 => ?_)
    · replace hk := hk.1 h24
      refine go_weak (L' := [some (.ref 91), some (.int a1), none, some (.int x3)]) (lle_at (by simp [lle])) ?_
      exact g_Mod_stop_j33   hk
    · replace hk := hk.2 h24
      refine go_aload_n (pc := 27) (i := 0) d_Mod_stop_27 rfl rfl ?_
      refine go_iload_n (pc := 28) (i := 2) d_Mod_stop_28 rfl rfl ?_
      refine go_iconst (pc := 29) (v := 4) d_Mod_stop_29 (by decide) ?_
      refine go_callV (pc := 30) (m_Mod_end  hk) cz_Mod_end cv_Mod_end (Or.inl lk_Mod_186) (lay_at sh_model) rfl rfl rfl (Nat.le_of_ble_eq_true rfl) ⟨by decide, by decide⟩ rfl rfl d_Mod_stop_30 (fun r M' hr => ?_)
      obtain ⟨μ8, rfl, rfl, hk⟩ := hr
      try dsimp only [Option.toList, List.cons_append, List.nil_append]
      refine go_weak (L' := [some (.ref 91), some (.int a1), none, some (.int x3)]) (lle_at (by simp [lle])) ?_
      exact g_Mod_stop_j33   hk
  · replace hk := hk.2 h11
    refine go_bipush (pc := 14) (v := 10) d_Mod_stop_14 (by decide) ?_
    exact go_ret (pc := 16) (r := some (.int (10 : Int32))) d_Mod_stop_16 ⟨_, _, rfl, rfl, hk⟩
def wp_Mod_traffic_j98 (j1 : Int32) (s0 : Int32) (s1 : Int32) (s2 : Int32) (μ : Mu)  (Q : Int32 → Mu → Prop) : Prop := wp_Mod_become s2 s1 s0 μ (fun μ14 => (vp_in j1 4 ∧ ((((μ14.2.1 118 (Int32.toNatClampNeg j1)) ≤ 0) → Q (0 : Int32) μ14) ∧ ((¬ (μ14.2.1 118 (Int32.toNatClampNeg j1)) ≤ 0) → wp_Mod_shiftInput j1 μ14 (fun μ16 => Q (0 : Int32) μ16)))))
set_option maxRecDepth 100000 in
set_option maxHeartbeats 4000000 in
theorem g_Mod_traffic_j98 {l : Launch} {j1 : Int32} {s0 : Int32} {s1 : Int32} {s2 : Int32}   {Q : Int32 → Mu → Prop}  {μ : Mu} (hk : wp_Mod_traffic_j98 j1 s0 s1 s2 μ  Q) : Go (mE l) mt_Mod_traffic false (rmd 5) 0 0 98 [some (.ref 91), some (.int j1), none, none] [.int s0, .int s1, .int s2, .ref 91] (lay μ) (PI Q) := by
  unfold wp_Mod_traffic_j98 at hk
  refine go_callV (pc := 98) (m_Mod_become  hk) cz_Mod_become cv_Mod_become (Or.inl lk_Mod_170) (lay_at sh_model) rfl rfl rfl (Nat.le_of_ble_eq_true rfl) ⟨by decide, by decide⟩ rfl rfl d_Mod_traffic_98 (fun r M' hr => ?_)
  obtain ⟨μ14, rfl, rfl, hk⟩ := hr
  try dsimp only [Option.toList, List.cons_append, List.nil_append]
  refine go_aload_n (pc := 101) (i := 0) d_Mod_traffic_101 rfl rfl ?_
  refine go_getR (pc := 102) (r := 118) sh_model rfl fl_Mod_89 d_Mod_traffic_102 ?_
  refine go_iload_n (pc := 105) (i := 1) d_Mod_traffic_105 rfl rfl ?_
  obtain ⟨hi15, hk⟩ := hk
  refine go_aldI (pc := 106) sh_m_inputs hi15 d_Mod_traffic_106 ?_
  refine go_if_le (pc := 107) (tgt := 174) d_Mod_traffic_107 rfl (fun h107 => ?_) (fun h107 => ?_)
  · replace hk := hk.1 h107
    refine go_iconst (pc := 174) (v := 0) d_Mod_traffic_174 (by decide) ?_
    exact go_ret (pc := 175) (r := some (.int (0 : Int32))) d_Mod_traffic_175 ⟨_, _, rfl, rfl, hk⟩
  · replace hk := hk.2 h107
    refine go_aload_n (pc := 110) (i := 0) d_Mod_traffic_110 rfl rfl ?_
    refine go_iload_n (pc := 111) (i := 1) d_Mod_traffic_111 rfl rfl ?_
    refine go_callV (pc := 112) (m_Mod_shiftInput  hk) cz_Mod_shiftInput cv_Mod_shiftInput (Or.inl lk_Mod_202) (lay_at sh_model) rfl rfl rfl (Nat.le_of_ble_eq_true rfl) ⟨by decide, by decide⟩ rfl rfl d_Mod_traffic_112 (fun r M' hr => ?_)
    obtain ⟨μ16, rfl, rfl, hk⟩ := hr
    try dsimp only [Option.toList, List.cons_append, List.nil_append]
    refine go_goto (pc := 115) (tgt := 174) d_Mod_traffic_115 rfl ?_
    refine go_iconst (pc := 174) (v := 0) d_Mod_traffic_174 (by decide) ?_
    exact go_ret (pc := 175) (r := some (.int (0 : Int32))) d_Mod_traffic_175 ⟨_, _, rfl, rfl, hk⟩
def wp_Mod_traffic (a1 : Int32) (a2 : Int32) (a3 : Int32) (μ : Mu) (Q : Int32 → Mu → Prop) : Prop := (((¬ a2 = (21 : Int32)) → (((¬ a2 = (23 : Int32)) → (((¬ a2 = (24 : Int32)) → (((¬ a2 = (22 : Int32)) → (((¬ a2 = (20 : Int32)) → (vp_in a1 4 ∧ (((¬ (μ.2.1 120 (Int32.toNatClampNeg a1)) = (16 : Int32)) → (vp_in a1 4 ∧ wp_Mod_value a1 (0 : Int32) μ (fun x4 μ3 => (vp_in (((16 : Int32) * a1) + (μ.2.1 120 (Int32.toNatClampNeg a1))) 64 ∧ ∀ μ6 : Mu, μ6 = setA μ3 119 (Int32.toNatClampNeg (((16 : Int32) * a1) + (μ.2.1 120 (Int32.toNatClampNeg a1)))) x4 → (vp_in a1 4 ∧ (vp_in a1 4 ∧ ∀ μ9 : Mu, μ9 = setA μ6 120 (Int32.toNatClampNeg a1) ((μ6.2.1 120 (Int32.toNatClampNeg a1)) + (1 : Int32)) → (vp_in a1 4 ∧ (vp_in a1 4 ∧ ∀ μ12 : Mu, μ12 = setA μ9 112 (Int32.toNatClampNeg a1) ((μ9.2.1 112 (Int32.toNatClampNeg a1)) - (1 : Int32)) → Q (0 : Int32) μ12)))))))) ∧ (((μ.2.1 120 (Int32.toNatClampNeg a1)) = (16 : Int32)) → Q (11 : Int32) μ)))) ∧ ((a2 = (20 : Int32)) → (vp_in a1 4 ∧ ((((μ.2.1 118 (Int32.toNatClampNeg a1)) ≤ 0) → wp_Mod_traffic_j98 a1 (0 : Int32) (0 : Int32) a1 μ  Q) ∧ ((¬ (μ.2.1 118 (Int32.toNatClampNeg a1)) ≤ 0) → (vp_in ((8 : Int32) * a1) 32 ∧ wp_Mod_traffic_j98 a1 (μ.2.1 117 (Int32.toNatClampNeg ((8 : Int32) * a1))) (0 : Int32) a1 μ  Q))))))) ∧ ((a2 = (22 : Int32)) → (vp_in ((4 : Int32) * a1) 16 ∧ wp_Mod_become a1 (0 : Int32) (μ.2.1 115 (Int32.toNatClampNeg ((4 : Int32) * a1))) μ (fun μ19 => wp_Mod_shiftMail a1 μ19 (fun μ20 => Q (0 : Int32) μ20)))))) ∧ ((a2 = (24 : Int32)) → wp_Mod_stop a1 a3 μ (fun x22 μ21 => Q x22 μ21)))) ∧ ((a2 = (23 : Int32)) → wp_Mod_start a1 a3 μ (fun x24 μ23 => Q x24 μ23)))) ∧ ((a2 = (21 : Int32)) → wp_Mod_send a1 a3 μ (fun x26 μ25 => Q x26 μ25)))
set_option maxRecDepth 100000 in
set_option maxHeartbeats 4000000 in
theorem m_Mod_traffic {l : Launch} {a1 : Int32} {a2 : Int32} {a3 : Int32}  {μ : Mu} {Q : Int32 → Mu → Prop} (hk : wp_Mod_traffic a1 a2 a3 μ Q) : Mets (mE l) mt_Mod_traffic false (rmd 5) [.ref 91, .int a1, .int a2, .int a3] (lay μ) (PI Q) := by
  unfold wp_Mod_traffic at hk
  refine mets_of (L := [some (.ref 91), some (.int a1), some (.int a2), some (.int a3)]) (by decide) (Nat.le_of_ble_eq_true rfl) rfl ?_
  refine go_iload_n (pc := 0) (i := 2) d_Mod_traffic_0 rfl rfl ?_
  refine go_bipush (pc := 1) (v := 21) d_Mod_traffic_1 (by decide) ?_
  refine go_icmp_ne (pc := 3) (tgt := 13) d_Mod_traffic_3 rfl (fun h3 => ?_) (fun h3 => ?_)
  · replace hk := hk.1 h3
    refine go_iload_n (pc := 13) (i := 2) d_Mod_traffic_13 rfl rfl ?_
    refine go_bipush (pc := 14) (v := 23) d_Mod_traffic_14 (by decide) ?_
    refine go_icmp_ne (pc := 16) (tgt := 26) d_Mod_traffic_16 rfl (fun h16 => ?_) (fun h16 => ?_)
    · replace hk := hk.1 h16
      refine go_iload_n (pc := 26) (i := 2) d_Mod_traffic_26 rfl rfl ?_
      refine go_bipush (pc := 27) (v := 24) d_Mod_traffic_27 (by decide) ?_
      refine go_icmp_ne (pc := 29) (tgt := 39) d_Mod_traffic_29 rfl (fun h29 => ?_) (fun h29 => ?_)
      · replace hk := hk.1 h29
        refine go_iload_n (pc := 39) (i := 2) d_Mod_traffic_39 rfl rfl ?_
        refine go_bipush (pc := 40) (v := 22) d_Mod_traffic_40 (by decide) ?_
        refine go_icmp_ne (pc := 42) (tgt := 67) d_Mod_traffic_42 rfl (fun h42 => ?_) (fun h42 => ?_)
        · replace hk := hk.1 h42
          refine go_iload_n (pc := 67) (i := 2) d_Mod_traffic_67 rfl rfl ?_
          refine go_bipush (pc := 68) (v := 20) d_Mod_traffic_68 (by decide) ?_
          refine go_icmp_ne (pc := 70) (tgt := 118) d_Mod_traffic_70 rfl (fun h70 => ?_) (fun h70 => ?_)
          · replace hk := hk.1 h70
            refine go_aload_n (pc := 118) (i := 0) d_Mod_traffic_118 rfl rfl ?_
            refine go_getR (pc := 119) (r := 120) sh_model rfl fl_Mod_95 d_Mod_traffic_119 ?_
            refine go_iload_n (pc := 122) (i := 1) d_Mod_traffic_122 rfl rfl ?_
            obtain ⟨hi1, hk⟩ := hk
            refine go_aldI (pc := 123) sh_m_outs hi1 d_Mod_traffic_123 ?_
            refine go_bipush (pc := 124) (v := 16) d_Mod_traffic_124 (by decide) ?_
            refine go_icmp_ne (pc := 126) (tgt := 132) d_Mod_traffic_126 rfl (fun h126 => ?_) (fun h126 => ?_)
            · replace hk := hk.1 h126
              refine go_aload_n (pc := 132) (i := 0) d_Mod_traffic_132 rfl rfl ?_
              refine go_getR (pc := 133) (r := 119) sh_model rfl fl_Mod_92 d_Mod_traffic_133 ?_
              refine go_bipush (pc := 136) (v := 16) d_Mod_traffic_136 (by decide) ?_
              refine go_iload_n (pc := 138) (i := 1) d_Mod_traffic_138 rfl rfl ?_
              refine go_imul (pc := 139) d_Mod_traffic_139 ?_
              refine go_aload_n (pc := 140) (i := 0) d_Mod_traffic_140 rfl rfl ?_
              refine go_getR (pc := 141) (r := 120) sh_model rfl fl_Mod_95 d_Mod_traffic_141 ?_
              refine go_iload_n (pc := 144) (i := 1) d_Mod_traffic_144 rfl rfl ?_
              obtain ⟨hi2, hk⟩ := hk
              refine go_aldI (pc := 145) sh_m_outs hi2 d_Mod_traffic_145 ?_
              refine go_iadd (pc := 146) d_Mod_traffic_146 ?_
              refine go_aload_n (pc := 147) (i := 0) d_Mod_traffic_147 rfl rfl ?_
              refine go_iload_n (pc := 148) (i := 1) d_Mod_traffic_148 rfl rfl ?_
              refine go_iconst (pc := 149) (v := 0) d_Mod_traffic_149 (by decide) ?_
              refine go_callV (pc := 150) (m_Mod_value  hk) cz_Mod_value cv_Mod_value (Or.inl lk_Mod_167) (lay_at sh_model) rfl rfl rfl (Nat.le_of_ble_eq_true rfl) ⟨by decide, by decide⟩ rfl rfl d_Mod_traffic_150 (fun r M' hr => ?_)
              obtain ⟨x4, μ3, rfl, rfl, hk⟩ := hr
              try dsimp only [Option.toList, List.cons_append, List.nil_append]
              obtain ⟨hi5, hk⟩ := hk
              refine go_astIn (pc := 153) sh_m_out hi5 d_Mod_traffic_153 (fun μ6 e6 => ?_)
              replace hk := hk μ6 e6
              refine go_aload_n (pc := 154) (i := 0) d_Mod_traffic_154 rfl rfl ?_
              refine go_getR (pc := 155) (r := 120) sh_model rfl fl_Mod_95 d_Mod_traffic_155 ?_
              refine go_iload_n (pc := 158) (i := 1) d_Mod_traffic_158 rfl rfl ?_
              refine go_dup2 (pc := 159) d_Mod_traffic_159 rfl rfl ?_
              obtain ⟨hi7, hk⟩ := hk
              refine go_aldI (pc := 160) sh_m_outs hi7 d_Mod_traffic_160 ?_
              refine go_iconst (pc := 161) (v := 1) d_Mod_traffic_161 (by decide) ?_
              refine go_iadd (pc := 162) d_Mod_traffic_162 ?_
              obtain ⟨hi8, hk⟩ := hk
              refine go_astIn (pc := 163) sh_m_outs hi8 d_Mod_traffic_163 (fun μ9 e9 => ?_)
              replace hk := hk μ9 e9
              refine go_aload_n (pc := 164) (i := 0) d_Mod_traffic_164 rfl rfl ?_
              refine go_getR (pc := 165) (r := 112) sh_model rfl fl_Mod_71 d_Mod_traffic_165 ?_
              refine go_iload_n (pc := 168) (i := 1) d_Mod_traffic_168 rfl rfl ?_
              refine go_dup2 (pc := 169) d_Mod_traffic_169 rfl rfl ?_
              obtain ⟨hi10, hk⟩ := hk
              refine go_aldI (pc := 170) sh_m_height hi10 d_Mod_traffic_170 ?_
              refine go_iconst (pc := 171) (v := 1) d_Mod_traffic_171 (by decide) ?_
              refine go_isub (pc := 172) d_Mod_traffic_172 ?_
              obtain ⟨hi11, hk⟩ := hk
              refine go_astIn (pc := 173) sh_m_height hi11 d_Mod_traffic_173 (fun μ12 e12 => ?_)
              replace hk := hk μ12 e12
              refine go_iconst (pc := 174) (v := 0) d_Mod_traffic_174 (by decide) ?_
              exact go_ret (pc := 175) (r := some (.int (0 : Int32))) d_Mod_traffic_175 ⟨_, _, rfl, rfl, hk⟩
            · replace hk := hk.2 h126
              refine go_bipush (pc := 129) (v := 11) d_Mod_traffic_129 (by decide) ?_
              exact go_ret (pc := 131) (r := some (.int (11 : Int32))) d_Mod_traffic_131 ⟨_, _, rfl, rfl, hk⟩
          · replace hk := hk.2 h70
            refine go_aload_n (pc := 73) (i := 0) d_Mod_traffic_73 rfl rfl ?_
            refine go_iload_n (pc := 74) (i := 1) d_Mod_traffic_74 rfl rfl ?_
            refine go_iconst (pc := 75) (v := 0) d_Mod_traffic_75 (by decide) ?_
            refine go_aload_n (pc := 76) (i := 0) d_Mod_traffic_76 rfl rfl ?_
            refine go_getR (pc := 77) (r := 118) sh_model rfl fl_Mod_89 d_Mod_traffic_77 ?_
            refine go_iload_n (pc := 80) (i := 1) d_Mod_traffic_80 rfl rfl ?_
            obtain ⟨hi13, hk⟩ := hk
            refine go_aldI (pc := 81) sh_m_inputs hi13 d_Mod_traffic_81 ?_
            refine go_if_le (pc := 82) (tgt := 97) d_Mod_traffic_82 rfl (fun h82 => ?_) (fun h82 => ?_)
            · replace hk := hk.1 h82
              refine go_iconst (pc := 97) (v := 0) d_Mod_traffic_97 (by decide) ?_
              refine go_weak (L' := [some (.ref 91), some (.int a1), none, none]) (lle_at (by simp [lle])) ?_
              exact g_Mod_traffic_j98   hk
            · replace hk := hk.2 h82
              refine go_aload_n (pc := 85) (i := 0) d_Mod_traffic_85 rfl rfl ?_
              refine go_getR (pc := 86) (r := 117) sh_model rfl fl_Mod_86 d_Mod_traffic_86 ?_
              refine go_bipush (pc := 89) (v := 8) d_Mod_traffic_89 (by decide) ?_
              refine go_iload_n (pc := 91) (i := 1) d_Mod_traffic_91 rfl rfl ?_
              refine go_imul (pc := 92) d_Mod_traffic_92 ?_
              obtain ⟨hi17, hk⟩ := hk
              refine go_aldI (pc := 93) sh_m_input hi17 d_Mod_traffic_93 ?_
              refine go_goto (pc := 94) (tgt := 98) d_Mod_traffic_94 rfl ?_
              refine go_weak (L' := [some (.ref 91), some (.int a1), none, none]) (lle_at (by simp [lle])) ?_
              exact g_Mod_traffic_j98   hk
        · replace hk := hk.2 h42
          refine go_aload_n (pc := 45) (i := 0) d_Mod_traffic_45 rfl rfl ?_
          refine go_iload_n (pc := 46) (i := 1) d_Mod_traffic_46 rfl rfl ?_
          refine go_iconst (pc := 47) (v := 0) d_Mod_traffic_47 (by decide) ?_
          refine go_aload_n (pc := 48) (i := 0) d_Mod_traffic_48 rfl rfl ?_
          refine go_getR (pc := 49) (r := 115) sh_model rfl fl_Mod_80 d_Mod_traffic_49 ?_
          refine go_iconst (pc := 52) (v := 4) d_Mod_traffic_52 (by decide) ?_
          refine go_iload_n (pc := 53) (i := 1) d_Mod_traffic_53 rfl rfl ?_
          refine go_imul (pc := 54) d_Mod_traffic_54 ?_
          obtain ⟨hi18, hk⟩ := hk
          refine go_aldI (pc := 55) sh_m_mail hi18 d_Mod_traffic_55 ?_
          refine go_callV (pc := 56) (m_Mod_become  hk) cz_Mod_become cv_Mod_become (Or.inl lk_Mod_170) (lay_at sh_model) rfl rfl rfl (Nat.le_of_ble_eq_true rfl) ⟨by decide, by decide⟩ rfl rfl d_Mod_traffic_56 (fun r M' hr => ?_)
          obtain ⟨μ19, rfl, rfl, hk⟩ := hr
          try dsimp only [Option.toList, List.cons_append, List.nil_append]
          refine go_aload_n (pc := 59) (i := 0) d_Mod_traffic_59 rfl rfl ?_
          refine go_iload_n (pc := 60) (i := 1) d_Mod_traffic_60 rfl rfl ?_
          refine go_callV (pc := 61) (m_Mod_shiftMail  hk) cz_Mod_shiftMail cv_Mod_shiftMail (Or.inl lk_Mod_199) (lay_at sh_model) rfl rfl rfl (Nat.le_of_ble_eq_true rfl) ⟨by decide, by decide⟩ rfl rfl d_Mod_traffic_61 (fun r M' hr => ?_)
          obtain ⟨μ20, rfl, rfl, hk⟩ := hr
          try dsimp only [Option.toList, List.cons_append, List.nil_append]
          refine go_goto (pc := 64) (tgt := 174) d_Mod_traffic_64 rfl ?_
          refine go_iconst (pc := 174) (v := 0) d_Mod_traffic_174 (by decide) ?_
          exact go_ret (pc := 175) (r := some (.int (0 : Int32))) d_Mod_traffic_175 ⟨_, _, rfl, rfl, hk⟩
      · replace hk := hk.2 h29
        refine go_aload_n (pc := 32) (i := 0) d_Mod_traffic_32 rfl rfl ?_
        refine go_iload_n (pc := 33) (i := 1) d_Mod_traffic_33 rfl rfl ?_
        refine go_iload_n (pc := 34) (i := 3) d_Mod_traffic_34 rfl rfl ?_
        refine go_callV (pc := 35) (m_Mod_stop  hk) cz_Mod_stop cv_Mod_stop (Or.inl lk_Mod_196) (lay_at sh_model) rfl rfl rfl (Nat.le_of_ble_eq_true rfl) ⟨by decide, by decide⟩ rfl rfl d_Mod_traffic_35 (fun r M' hr => ?_)
        obtain ⟨x22, μ21, rfl, rfl, hk⟩ := hr
        try dsimp only [Option.toList, List.cons_append, List.nil_append]
        exact go_ret (pc := 38) (r := some (.int x22)) d_Mod_traffic_38 ⟨_, _, rfl, rfl, hk⟩
    · replace hk := hk.2 h16
      refine go_aload_n (pc := 19) (i := 0) d_Mod_traffic_19 rfl rfl ?_
      refine go_iload_n (pc := 20) (i := 1) d_Mod_traffic_20 rfl rfl ?_
      refine go_iload_n (pc := 21) (i := 3) d_Mod_traffic_21 rfl rfl ?_
      refine go_callV (pc := 22) (m_Mod_start  hk) cz_Mod_start cv_Mod_start (Or.inl lk_Mod_193) (lay_at sh_model) rfl rfl rfl (Nat.le_of_ble_eq_true rfl) ⟨by decide, by decide⟩ rfl rfl d_Mod_traffic_22 (fun r M' hr => ?_)
      obtain ⟨x24, μ23, rfl, rfl, hk⟩ := hr
      try dsimp only [Option.toList, List.cons_append, List.nil_append]
      exact go_ret (pc := 25) (r := some (.int x24)) d_Mod_traffic_25 ⟨_, _, rfl, rfl, hk⟩
  · replace hk := hk.2 h3
    refine go_aload_n (pc := 6) (i := 0) d_Mod_traffic_6 rfl rfl ?_
    refine go_iload_n (pc := 7) (i := 1) d_Mod_traffic_7 rfl rfl ?_
    refine go_iload_n (pc := 8) (i := 3) d_Mod_traffic_8 rfl rfl ?_
    refine go_callV (pc := 9) (m_Mod_send  hk) cz_Mod_send cv_Mod_send (Or.inl lk_Mod_190) (lay_at sh_model) rfl rfl rfl (Nat.le_of_ble_eq_true rfl) ⟨by decide, by decide⟩ rfl rfl d_Mod_traffic_9 (fun r M' hr => ?_)
    obtain ⟨x26, μ25, rfl, rfl, hk⟩ := hr
    try dsimp only [Option.toList, List.cons_append, List.nil_append]
    exact go_ret (pc := 12) (r := some (.int x26)) d_Mod_traffic_12 ⟨_, _, rfl, rfl, hk⟩
