def wp_Mod_become (a1 : Int32) (a2 : Int32) (a3 : Int32) (μ : Mu) (Q : Mu → Prop) : Prop := (vp_in a1 4 ∧ (vp_in a1 4 ∧ ∀ μ3 : Mu, μ3 = setA μ 112 (Int32.toNatClampNeg a1) ((μ.2.1 112 (Int32.toNatClampNeg a1)) - a2) → (vp_in a1 4 ∧ (vp_in (((6 : Int32) * a1) + (μ3.2.1 112 (Int32.toNatClampNeg a1))) 24 ∧ ∀ μ6 : Mu, μ6 = setA μ3 113 (Int32.toNatClampNeg (((6 : Int32) * a1) + (μ3.2.1 112 (Int32.toNatClampNeg a1)))) a3 → (vp_in a1 4 ∧ (vp_in a1 4 ∧ ∀ μ9 : Mu, μ9 = setA μ6 112 (Int32.toNatClampNeg a1) ((μ6.2.1 112 (Int32.toNatClampNeg a1)) + (1 : Int32)) → Q μ9))))))
set_option maxRecDepth 100000 in
set_option maxHeartbeats 4000000 in
theorem m_Mod_become {l : Launch} {a1 : Int32} {a2 : Int32} {a3 : Int32}  {μ : Mu} {Q : Mu → Prop} (hk : wp_Mod_become a1 a2 a3 μ Q) : Mets (mE l) mt_Mod_become false (rmd 0) [.ref 91, .int a1, .int a2, .int a3] (lay μ) (PV Q) := by
  unfold wp_Mod_become at hk
  refine mets_of (L := [some (.ref 91), some (.int a1), some (.int a2), some (.int a3)]) (by decide) (Nat.le_of_ble_eq_true rfl) rfl ?_
  refine go_aload_n (pc := 0) (i := 0) d_Mod_become_0 rfl rfl ?_
  refine go_getR (pc := 1) (r := 112) sh_model rfl fl_Mod_71 d_Mod_become_1 ?_
  refine go_iload_n (pc := 4) (i := 1) d_Mod_become_4 rfl rfl ?_
  refine go_dup2 (pc := 5) d_Mod_become_5 rfl rfl ?_
  obtain ⟨hi1, hk⟩ := hk
  refine go_aldI (pc := 6) sh_m_height hi1 d_Mod_become_6 ?_
  refine go_iload_n (pc := 7) (i := 2) d_Mod_become_7 rfl rfl ?_
  refine go_isub (pc := 8) d_Mod_become_8 ?_
  obtain ⟨hi2, hk⟩ := hk
  refine go_astIn (pc := 9) sh_m_height hi2 d_Mod_become_9 (fun μ3 e3 => ?_)
  replace hk := hk μ3 e3
  refine go_aload_n (pc := 10) (i := 0) d_Mod_become_10 rfl rfl ?_
  refine go_getR (pc := 11) (r := 113) sh_model rfl fl_Mod_74 d_Mod_become_11 ?_
  refine go_bipush (pc := 14) (v := 6) d_Mod_become_14 (by decide) ?_
  refine go_iload_n (pc := 16) (i := 1) d_Mod_become_16 rfl rfl ?_
  refine go_imul (pc := 17) d_Mod_become_17 ?_
  refine go_aload_n (pc := 18) (i := 0) d_Mod_become_18 rfl rfl ?_
  refine go_getR (pc := 19) (r := 112) sh_model rfl fl_Mod_71 d_Mod_become_19 ?_
  refine go_iload_n (pc := 22) (i := 1) d_Mod_become_22 rfl rfl ?_
  obtain ⟨hi4, hk⟩ := hk
  refine go_aldI (pc := 23) sh_m_height hi4 d_Mod_become_23 ?_
  refine go_iadd (pc := 24) d_Mod_become_24 ?_
  refine go_iload_n (pc := 25) (i := 3) d_Mod_become_25 rfl rfl ?_
  obtain ⟨hi5, hk⟩ := hk
  refine go_astIn (pc := 26) sh_m_stack hi5 d_Mod_become_26 (fun μ6 e6 => ?_)
  replace hk := hk μ6 e6
  refine go_aload_n (pc := 27) (i := 0) d_Mod_become_27 rfl rfl ?_
  refine go_getR (pc := 28) (r := 112) sh_model rfl fl_Mod_71 d_Mod_become_28 ?_
  refine go_iload_n (pc := 31) (i := 1) d_Mod_become_31 rfl rfl ?_
  refine go_dup2 (pc := 32) d_Mod_become_32 rfl rfl ?_
  obtain ⟨hi7, hk⟩ := hk
  refine go_aldI (pc := 33) sh_m_height hi7 d_Mod_become_33 ?_
  refine go_iconst (pc := 34) (v := 1) d_Mod_become_34 (by decide) ?_
  refine go_iadd (pc := 35) d_Mod_become_35 ?_
  obtain ⟨hi8, hk⟩ := hk
  refine go_astIn (pc := 36) sh_m_height hi8 d_Mod_become_36 (fun μ9 e9 => ?_)
  replace hk := hk μ9 e9
  exact go_ret (pc := 37) (r := none) d_Mod_become_37 ⟨_, rfl, rfl, hk⟩
def wp_Mod_make_5 (w1 : Int32) (w2 : Int32) (K0 : Int32 → Mu → Prop) (Q : Int32 → Mu → Prop) : Nat → Int32 → Mu → Prop
  | 0, _, _ => False
  | n5 + 1, v3, μ => ((((((24 : Int32) * w1) + (23 : Int32)) ≤ v3) → K0 v3 μ) ∧ ((¬ (((24 : Int32) * w1) + (23 : Int32)) ≤ v3) → (vp_in v3 104 ∧ ((((μ.2.1 97 (Int32.toNatClampNeg v3)) = 0) → K0 v3 μ) ∧ ((¬ (μ.2.1 97 (Int32.toNatClampNeg v3)) = 0) → wp_Mod_make_5 w1 w2 K0 Q n5 (v3 + 1) μ)))))
set_option maxRecDepth 100000 in
set_option maxHeartbeats 4000000 in
theorem g_Mod_make_5 {l : Launch} {w1 : Int32} {w2 : Int32}  {K0 : Int32 → Mu → Prop} {Q : Int32 → Mu → Prop} (hK0 : ∀ (v3 : Int32) (μ : Mu), K0 v3 μ → Go (mE l) mt_Mod_make false (rmd 0) 0 0 31 [some (.ref 91), some (.int w1), some (.int w2), some (.int v3)] [] (lay μ) (PI Q)) : ∀ (n : Nat) (v3 : Int32) (μ : Mu), wp_Mod_make_5 w1 w2 K0 Q n v3 μ → Go (mE l) mt_Mod_make false (rmd 0) 0 0 5 [some (.ref 91), some (.int w1), some (.int w2), some (.int v3)] [] (lay μ) (PI Q) := by
  intro n
  induction n with
  | zero => intro v3 μ hk; exact hk.elim
  | succ n ih =>
    intro v3 μ hk
    unfold wp_Mod_make_5 at hk
    refine go_iload_n (pc := 5) (i := 3) d_Mod_make_5 rfl rfl ?_
    refine go_bipush (pc := 6) (v := 24) d_Mod_make_6 (by decide) ?_
    refine go_iload_n (pc := 8) (i := 1) d_Mod_make_8 rfl rfl ?_
    refine go_imul (pc := 9) d_Mod_make_9 ?_
    refine go_bipush (pc := 10) (v := 23) d_Mod_make_10 (by decide) ?_
    refine go_iadd (pc := 12) d_Mod_make_12 ?_
    refine go_icmp_ge (pc := 13) (tgt := 31) d_Mod_make_13 rfl (fun h13 => ?_) (fun h13 => ?_)
    · replace hk := hk.1 h13
      exact hK0 _ _ hk
    · replace hk := hk.2 h13
      refine go_aload_n (pc := 16) (i := 0) d_Mod_make_16 rfl rfl ?_
      refine go_getR (pc := 17) (r := 97) sh_model rfl fl_Mod_26 d_Mod_make_17 ?_
      refine go_iload_n (pc := 20) (i := 3) d_Mod_make_20 rfl rfl ?_
      obtain ⟨hi1, hk⟩ := hk
      refine go_aldZ (pc := 21) sh_m_there hi1 d_Mod_make_21 ?_
      refine go_if_eq (pc := 22) (tgt := 31) d_Mod_make_22 rfl (fun h22 => ?_) (fun h22 => ?_)
      · replace hk := hk.1 h22
        exact hK0 _ _ hk
      · replace hk := hk.2 h22
        refine go_iinc (pc := 25) (v := (v3 + 1)) (L' := [some (.ref 91), some (.int w1), some (.int w2), some (.int (v3 + 1))]) d_Mod_make_25 rfl rfl (by decide) rfl ?_
        refine go_goto (pc := 28) (tgt := 5) d_Mod_make_28 rfl ?_
        exact ih _ _ hk
def wp_Mod_make_j31 (j2 : Int32) (j3 : Int32) (μ : Mu)  (Q : Int32 → Mu → Prop) : Prop := (vp_in j3 104 ∧ ∀ μ5 : Mu, μ5 = setA μ 97 (Int32.toNatClampNeg j3) (1 : Int32) → (vp_in j3 104 ∧ ∀ μ7 : Mu, μ7 = setA μ5 98 (Int32.toNatClampNeg j3) j2 → (vp_in j3 104 ∧ ∀ μ9 : Mu, μ9 = setA μ7 99 (Int32.toNatClampNeg j3) (-1 : Int32) → (vp_in j3 104 ∧ ∀ μ11 : Mu, μ11 = setA μ9 100 (Int32.toNatClampNeg j3) (-1 : Int32) → Q j3 μ11))))
set_option maxRecDepth 100000 in
set_option maxHeartbeats 4000000 in
theorem g_Mod_make_j31 {l : Launch} {j2 : Int32} {j3 : Int32}   {Q : Int32 → Mu → Prop}  {μ : Mu} (hk : wp_Mod_make_j31 j2 j3 μ  Q) : Go (mE l) mt_Mod_make false (rmd 0) 0 0 31 [some (.ref 91), none, some (.int j2), some (.int j3)] [] (lay μ) (PI Q) := by
  unfold wp_Mod_make_j31 at hk
  refine go_aload_n (pc := 31) (i := 0) d_Mod_make_31 rfl rfl ?_
  refine go_getR (pc := 32) (r := 97) sh_model rfl fl_Mod_26 d_Mod_make_32 ?_
  refine go_iload_n (pc := 35) (i := 3) d_Mod_make_35 rfl rfl ?_
  refine go_iconst (pc := 36) (v := 1) d_Mod_make_36 (by decide) ?_
  obtain ⟨hi4, hk⟩ := hk
  refine go_astZn (pc := 37) (by decide) sh_m_there hi4 d_Mod_make_37 (fun μ5 e5 => ?_)
  replace hk := hk μ5 e5
  refine go_aload_n (pc := 38) (i := 0) d_Mod_make_38 rfl rfl ?_
  refine go_getR (pc := 39) (r := 98) sh_model rfl fl_Mod_29 d_Mod_make_39 ?_
  refine go_iload_n (pc := 42) (i := 3) d_Mod_make_42 rfl rfl ?_
  refine go_iload_n (pc := 43) (i := 2) d_Mod_make_43 rfl rfl ?_
  obtain ⟨hi6, hk⟩ := hk
  refine go_astIn (pc := 44) sh_m_num hi6 d_Mod_make_44 (fun μ7 e7 => ?_)
  replace hk := hk μ7 e7
  refine go_aload_n (pc := 45) (i := 0) d_Mod_make_45 rfl rfl ?_
  refine go_getR (pc := 46) (r := 99) sh_model rfl fl_Mod_32 d_Mod_make_46 ?_
  refine go_iload_n (pc := 49) (i := 3) d_Mod_make_49 rfl rfl ?_
  refine go_iconst (pc := 50) (v := (-1)) d_Mod_make_50 (by decide) ?_
  obtain ⟨hi8, hk⟩ := hk
  refine go_astIn (pc := 51) sh_m_left hi8 d_Mod_make_51 (fun μ9 e9 => ?_)
  replace hk := hk μ9 e9
  refine go_aload_n (pc := 52) (i := 0) d_Mod_make_52 rfl rfl ?_
  refine go_getR (pc := 53) (r := 100) sh_model rfl fl_Mod_35 d_Mod_make_53 ?_
  refine go_iload_n (pc := 56) (i := 3) d_Mod_make_56 rfl rfl ?_
  refine go_iconst (pc := 57) (v := (-1)) d_Mod_make_57 (by decide) ?_
  obtain ⟨hi10, hk⟩ := hk
  refine go_astIn (pc := 58) sh_m_right hi10 d_Mod_make_58 (fun μ11 e11 => ?_)
  replace hk := hk μ11 e11
  refine go_iload_n (pc := 59) (i := 3) d_Mod_make_59 rfl rfl ?_
  exact go_ret (pc := 60) (r := some (.int j3)) d_Mod_make_60 ⟨_, _, rfl, rfl, hk⟩
def wp_Mod_make (a1 : Int32) (a2 : Int32) (μ : Mu) (Q : Int32 → Mu → Prop) : Prop := (∃ n5, wp_Mod_make_5 a1 a2 (fun v2 μ3 => wp_Mod_make_j31 a2 v2 μ3  Q) Q n5 ((24 : Int32) * a1) μ)
set_option maxRecDepth 100000 in
set_option maxHeartbeats 4000000 in
theorem m_Mod_make {l : Launch} {a1 : Int32} {a2 : Int32}  {μ : Mu} {Q : Int32 → Mu → Prop} (hk : wp_Mod_make a1 a2 μ Q) : Mets (mE l) mt_Mod_make false (rmd 0) [.ref 91, .int a1, .int a2] (lay μ) (PI Q) := by
  unfold wp_Mod_make at hk
  refine mets_of (L := [some (.ref 91), some (.int a1), some (.int a2), none]) (by decide) (Nat.le_of_ble_eq_true rfl) rfl ?_
  refine go_bipush (pc := 0) (v := 24) d_Mod_make_0 (by decide) ?_
  refine go_iload_n (pc := 2) (i := 1) d_Mod_make_2 rfl rfl ?_
  refine go_imul (pc := 3) d_Mod_make_3 ?_
  refine go_istore_n (pc := 4) (i := 3) (L' := [some (.ref 91), some (.int a1), some (.int a2), some (.int ((24 : Int32) * a1))]) d_Mod_make_4 rfl (by decide) rfl ?_
  obtain ⟨n, hk⟩ := hk
  refine g_Mod_make_5  (fun v2 μ3 hk => ?_) n _ _ hk
  · try dsimp only at hk
    refine go_weak (L' := [some (.ref 91), none, some (.int a2), some (.int v2)]) (lle_at (by simp [lle])) ?_
    exact g_Mod_make_j31   hk
def wp_Mod_counted_8 (w1 : Int32) (w2 : Int32) (K0 : Int32 → Int32 → Mu → Prop) (Q : Int32 → Mu → Prop) : Nat → Int32 → Int32 → Mu → Prop
  | 0, _, _, _ => False
  | n8 + 1, v3, v4, μ => ((((((24 : Int32) * w1) + (24 : Int32)) ≤ v4) → K0 v3 v4 μ) ∧ ((¬ (((24 : Int32) * w1) + (24 : Int32)) ≤ v4) → (vp_in v4 104 ∧ ((((μ.2.1 97 (Int32.toNatClampNeg v4)) = 0) → wp_Mod_counted_8 w1 w2 K0 Q n8 (v3 + (0 : Int32)) (v4 + 1) μ) ∧ ((¬ (μ.2.1 97 (Int32.toNatClampNeg v4)) = 0) → (vp_in v4 104 ∧ (((¬ (μ.2.1 101 (Int32.toNatClampNeg v4)) = 0) → wp_Mod_counted_8 w1 w2 K0 Q n8 (v3 + (1 : Int32)) (v4 + 1) μ) ∧ (((μ.2.1 101 (Int32.toNatClampNeg v4)) = 0) → (((¬ w2 = 0) → wp_Mod_counted_8 w1 w2 K0 Q n8 (v3 + (0 : Int32)) (v4 + 1) μ) ∧ ((w2 = 0) → wp_Mod_counted_8 w1 w2 K0 Q n8 (v3 + (1 : Int32)) (v4 + 1) μ))))))))))
set_option maxRecDepth 100000 in
set_option maxHeartbeats 4000000 in
theorem g_Mod_counted_8 {l : Launch} {w1 : Int32} {w2 : Int32}  {K0 : Int32 → Int32 → Mu → Prop} {Q : Int32 → Mu → Prop} (hK0 : ∀ (v3 : Int32) (v4 : Int32) (μ : Mu), K0 v3 v4 μ → Go (mE l) mt_Mod_counted false (rmd 0) 0 0 58 [some (.ref 91), some (.int w1), some (.int w2), some (.int v3), some (.int v4)] [] (lay μ) (PI Q)) : ∀ (n : Nat) (v3 : Int32) (v4 : Int32) (μ : Mu), wp_Mod_counted_8 w1 w2 K0 Q n v3 v4 μ → Go (mE l) mt_Mod_counted false (rmd 0) 0 0 8 [some (.ref 91), some (.int w1), some (.int w2), some (.int v3), some (.int v4)] [] (lay μ) (PI Q) := by
  intro n
  induction n with
  | zero => intro v3 v4 μ hk; exact hk.elim
  | succ n ih =>
    intro v3 v4 μ hk
    unfold wp_Mod_counted_8 at hk
    refine go_iload (pc := 8) d_Mod_counted_8 rfl ?_
    refine go_bipush (pc := 10) (v := 24) d_Mod_counted_10 (by decide) ?_
    refine go_iload_n (pc := 12) (i := 1) d_Mod_counted_12 rfl rfl ?_
    refine go_imul (pc := 13) d_Mod_counted_13 ?_
    refine go_bipush (pc := 14) (v := 24) d_Mod_counted_14 (by decide) ?_
    refine go_iadd (pc := 16) d_Mod_counted_16 ?_
    refine go_icmp_ge (pc := 17) (tgt := 58) d_Mod_counted_17 rfl (fun h17 => ?_) (fun h17 => ?_)
    · replace hk := hk.1 h17
      exact hK0 _ _ _ hk
    · replace hk := hk.2 h17
      refine go_iload_n (pc := 20) (i := 3) d_Mod_counted_20 rfl rfl ?_
      refine go_aload_n (pc := 21) (i := 0) d_Mod_counted_21 rfl rfl ?_
      refine go_getR (pc := 22) (r := 97) sh_model rfl fl_Mod_26 d_Mod_counted_22 ?_
      refine go_iload (pc := 25) d_Mod_counted_25 rfl ?_
      obtain ⟨hi1, hk⟩ := hk
      refine go_aldZ (pc := 27) sh_m_there hi1 d_Mod_counted_27 ?_
      refine go_if_eq (pc := 28) (tgt := 49) d_Mod_counted_28 rfl (fun h28 => ?_) (fun h28 => ?_)
      · replace hk := hk.1 h28
        refine go_iconst (pc := 49) (v := 0) d_Mod_counted_49 (by decide) ?_
        refine go_iadd (pc := 50) d_Mod_counted_50 ?_
        refine go_istore_n (pc := 51) (i := 3) (L' := [some (.ref 91), some (.int w1), some (.int w2), some (.int (v3 + (0 : Int32))), some (.int v4)]) d_Mod_counted_51 rfl (by decide) rfl ?_
        refine go_iinc (pc := 52) (v := (v4 + 1)) (L' := [some (.ref 91), some (.int w1), some (.int w2), some (.int (v3 + (0 : Int32))), some (.int (v4 + 1))]) d_Mod_counted_52 rfl rfl (by decide) rfl ?_
        refine go_goto (pc := 55) (tgt := 8) d_Mod_counted_55 rfl ?_
        exact ih _ _ _ hk
      · replace hk := hk.2 h28
        refine go_aload_n (pc := 31) (i := 0) d_Mod_counted_31 rfl rfl ?_
        refine go_getR (pc := 32) (r := 101) sh_model rfl fl_Mod_38 d_Mod_counted_32 ?_
        refine go_iload (pc := 35) d_Mod_counted_35 rfl ?_
        obtain ⟨hi2, hk⟩ := hk
        refine go_aldZ (pc := 37) sh_m_mark hi2 d_Mod_counted_37 ?_
        refine go_if_ne (pc := 38) (tgt := 45) d_Mod_counted_38 rfl (fun h38 => ?_) (fun h38 => ?_)
        · replace hk := hk.1 h38
          refine go_iconst (pc := 45) (v := 1) d_Mod_counted_45 (by decide) ?_
          refine go_goto (pc := 46) (tgt := 50) d_Mod_counted_46 rfl ?_
          refine go_iadd (pc := 50) d_Mod_counted_50 ?_
          refine go_istore_n (pc := 51) (i := 3) (L' := [some (.ref 91), some (.int w1), some (.int w2), some (.int (v3 + (1 : Int32))), some (.int v4)]) d_Mod_counted_51 rfl (by decide) rfl ?_
          refine go_iinc (pc := 52) (v := (v4 + 1)) (L' := [some (.ref 91), some (.int w1), some (.int w2), some (.int (v3 + (1 : Int32))), some (.int (v4 + 1))]) d_Mod_counted_52 rfl rfl (by decide) rfl ?_
          refine go_goto (pc := 55) (tgt := 8) d_Mod_counted_55 rfl ?_
          exact ih _ _ _ hk
        · replace hk := hk.2 h38
          refine go_iload_n (pc := 41) (i := 2) d_Mod_counted_41 rfl rfl ?_
          refine go_if_ne (pc := 42) (tgt := 49) d_Mod_counted_42 rfl (fun h42 => ?_) (fun h42 => ?_)
          · replace hk := hk.1 h42
            refine go_iconst (pc := 49) (v := 0) d_Mod_counted_49 (by decide) ?_
            refine go_iadd (pc := 50) d_Mod_counted_50 ?_
            refine go_istore_n (pc := 51) (i := 3) (L' := [some (.ref 91), some (.int w1), some (.int w2), some (.int (v3 + (0 : Int32))), some (.int v4)]) d_Mod_counted_51 rfl (by decide) rfl ?_
            refine go_iinc (pc := 52) (v := (v4 + 1)) (L' := [some (.ref 91), some (.int w1), some (.int w2), some (.int (v3 + (0 : Int32))), some (.int (v4 + 1))]) d_Mod_counted_52 rfl rfl (by decide) rfl ?_
            refine go_goto (pc := 55) (tgt := 8) d_Mod_counted_55 rfl ?_
            exact ih _ _ _ hk
          · replace hk := hk.2 h42
            refine go_iconst (pc := 45) (v := 1) d_Mod_counted_45 (by decide) ?_
            refine go_goto (pc := 46) (tgt := 50) d_Mod_counted_46 rfl ?_
            refine go_iadd (pc := 50) d_Mod_counted_50 ?_
            refine go_istore_n (pc := 51) (i := 3) (L' := [some (.ref 91), some (.int w1), some (.int w2), some (.int (v3 + (1 : Int32))), some (.int v4)]) d_Mod_counted_51 rfl (by decide) rfl ?_
            refine go_iinc (pc := 52) (v := (v4 + 1)) (L' := [some (.ref 91), some (.int w1), some (.int w2), some (.int (v3 + (1 : Int32))), some (.int (v4 + 1))]) d_Mod_counted_52 rfl rfl (by decide) rfl ?_
            refine go_goto (pc := 55) (tgt := 8) d_Mod_counted_55 rfl ?_
            exact ih _ _ _ hk
def wp_Mod_counted (a1 : Int32) (a2 : Int32) (μ : Mu) (Q : Int32 → Mu → Prop) : Prop := (∃ n8, wp_Mod_counted_8 a1 a2 (fun v3 v4 μ5 => Q v3 μ5) Q n8 (0 : Int32) ((24 : Int32) * a1) μ)
set_option maxRecDepth 100000 in
set_option maxHeartbeats 4000000 in
theorem m_Mod_counted {l : Launch} {a1 : Int32} {a2 : Int32}  {μ : Mu} {Q : Int32 → Mu → Prop} (hk : wp_Mod_counted a1 a2 μ Q) : Mets (mE l) mt_Mod_counted false (rmd 0) [.ref 91, .int a1, .int a2] (lay μ) (PI Q) := by
  unfold wp_Mod_counted at hk
  refine mets_of (L := [some (.ref 91), some (.int a1), some (.int a2), none, none]) (by decide) (Nat.le_of_ble_eq_true rfl) rfl ?_
  refine go_iconst (pc := 0) (v := 0) d_Mod_counted_0 (by decide) ?_
  refine go_istore_n (pc := 1) (i := 3) (L' := [some (.ref 91), some (.int a1), some (.int a2), some (.int (0 : Int32)), none]) d_Mod_counted_1 rfl (by decide) rfl ?_
  refine go_bipush (pc := 2) (v := 24) d_Mod_counted_2 (by decide) ?_
  refine go_iload_n (pc := 4) (i := 1) d_Mod_counted_4 rfl rfl ?_
  refine go_imul (pc := 5) d_Mod_counted_5 ?_
  refine go_istore (pc := 6) (L' := [some (.ref 91), some (.int a1), some (.int a2), some (.int (0 : Int32)), some (.int ((24 : Int32) * a1))]) d_Mod_counted_6 (by decide) rfl ?_
  obtain ⟨n, hk⟩ := hk
  refine g_Mod_counted_8  (fun v3 v4 μ5 hk => ?_) n _ _ _ hk
  · try dsimp only at hk
    refine go_iload_n (pc := 58) (i := 3) d_Mod_counted_58 rfl rfl ?_
    exact go_ret (pc := 59) (r := some (.int v3)) d_Mod_counted_59 ⟨_, _, rfl, rfl, hk⟩
def wp_Mod_markRoot (a1 : Int32) (μ : Mu) (Q : Mu → Prop) : Prop := (((a1 < 0) → Q μ) ∧ ((¬ a1 < 0) → (vp_in a1 104 ∧ ∀ μ2 : Mu, μ2 = setA μ 101 (Int32.toNatClampNeg a1) (1 : Int32) → Q μ2)))
set_option maxRecDepth 100000 in
set_option maxHeartbeats 4000000 in
theorem m_Mod_markRoot {l : Launch} {a1 : Int32}  {μ : Mu} {Q : Mu → Prop} (hk : wp_Mod_markRoot a1 μ Q) : Mets (mE l) mt_Mod_markRoot false (rmd 0) [.ref 91, .int a1] (lay μ) (PV Q) := by
  unfold wp_Mod_markRoot at hk
  refine mets_of (L := [some (.ref 91), some (.int a1)]) (by decide) (Nat.le_of_ble_eq_true rfl) rfl ?_
  refine go_iload_n (pc := 0) (i := 1) d_Mod_markRoot_0 rfl rfl ?_
  refine go_if_lt (pc := 1) (tgt := 11) d_Mod_markRoot_1 rfl (fun h1 => ?_) (fun h1 => ?_)
  · replace hk := hk.1 h1
    exact go_ret (pc := 11) (r := none) d_Mod_markRoot_11 ⟨_, rfl, rfl, hk⟩
  · replace hk := hk.2 h1
    refine go_aload_n (pc := 4) (i := 0) d_Mod_markRoot_4 rfl rfl ?_
    refine go_getR (pc := 5) (r := 101) sh_model rfl fl_Mod_38 d_Mod_markRoot_5 ?_
    refine go_iload_n (pc := 8) (i := 1) d_Mod_markRoot_8 rfl rfl ?_
    refine go_iconst (pc := 9) (v := 1) d_Mod_markRoot_9 (by decide) ?_
    obtain ⟨hi1, hk⟩ := hk
    refine go_astZn (pc := 10) (by decide) sh_m_mark hi1 d_Mod_markRoot_10 (fun μ2 e2 => ?_)
    replace hk := hk μ2 e2
    exact go_ret (pc := 11) (r := none) d_Mod_markRoot_11 ⟨_, rfl, rfl, hk⟩
def wp_Mod_markAll_j85_18 (w2 : Int32) (j3 : Int32) (j4 : Int32) (j5 : Int32) (μ : Mu) (Rec : Int32 → Int32 → Mu → Prop) (K0 : Int32 → Int32 → Mu → Prop) (Q : Mu → Prop) : Prop := (((j5 < 0) → wp_Mod_markRoot j4 μ (fun μ5 => wp_Mod_markRoot j5 μ5 (fun μ6 => Rec (0 : Int32) (j3 + 1) μ6))) ∧ ((¬ j5 < 0) → (vp_in j5 104 ∧ (((¬ (μ.2.1 101 (Int32.toNatClampNeg j5)) = 0) → wp_Mod_markRoot j4 μ (fun μ8 => wp_Mod_markRoot j5 μ8 (fun μ9 => Rec (0 : Int32) (j3 + 1) μ9))) ∧ (((μ.2.1 101 (Int32.toNatClampNeg j5)) = 0) → wp_Mod_markRoot j4 μ (fun μ10 => wp_Mod_markRoot j5 μ10 (fun μ11 => Rec (1 : Int32) (j3 + 1) μ11)))))))
set_option maxRecDepth 100000 in
set_option maxHeartbeats 4000000 in
theorem g_Mod_markAll_j85_18 {l : Launch} {w2 : Int32} {j3 : Int32} {j4 : Int32} {j5 : Int32}  {Rec : Int32 → Int32 → Mu → Prop} {K0 : Int32 → Int32 → Mu → Prop} {Q : Mu → Prop} (hRec : ∀ (v1 : Int32) (v3 : Int32) (μ : Mu), Rec v1 v3 μ → Go (mE l) mt_Mod_markAll false (rmd 1) 0 0 18 [some (.ref 91), some (.int v1), some (.int w2), some (.int v3), none, none] [] (lay μ) (PV Q)) (hK0 : ∀ (v1 : Int32) (v3 : Int32) (μ : Mu), K0 v1 v3 μ → Go (mE l) mt_Mod_markAll false (rmd 1) 0 0 124 [some (.ref 91), some (.int v1), some (.int w2), some (.int v3), none, none] [] (lay μ) (PV Q)) {μ : Mu} (hk : wp_Mod_markAll_j85_18 w2 j3 j4 j5 μ Rec K0 Q) : Go (mE l) mt_Mod_markAll false (rmd 1) 0 0 85 [some (.ref 91), none, some (.int w2), some (.int j3), some (.int j4), some (.int j5)] [] (lay μ) (PV Q) := by
  unfold wp_Mod_markAll_j85_18 at hk
  refine go_iload (pc := 85) d_Mod_markAll_85 rfl ?_
  refine go_if_lt (pc := 87) (tgt := 104) d_Mod_markAll_87 rfl (fun h87 => ?_) (fun h87 => ?_)
  · replace hk := hk.1 h87
    refine go_iconst (pc := 104) (v := 0) d_Mod_markAll_104 (by decide) ?_
    refine go_istore_n (pc := 105) (i := 1) (L' := [some (.ref 91), some (.int (0 : Int32)), some (.int w2), some (.int j3), some (.int j4), some (.int j5)]) d_Mod_markAll_105 rfl (by decide) rfl ?_
    refine go_aload_n (pc := 106) (i := 0) d_Mod_markAll_106 rfl rfl ?_
    refine go_iload (pc := 107) d_Mod_markAll_107 rfl ?_
    refine go_callV (pc := 109) (m_Mod_markRoot  hk) cz_Mod_markRoot cv_Mod_markRoot (Or.inl lk_Mod_140) (lay_at sh_model) rfl rfl rfl (Nat.le_of_ble_eq_true rfl) ⟨by decide, by decide⟩ rfl rfl d_Mod_markAll_109 (fun r M' hr => ?_)
    obtain ⟨μ5, rfl, rfl, hk⟩ := hr
    try dsimp only [Option.toList, List.cons_append, List.nil_append]
    refine go_aload_n (pc := 112) (i := 0) d_Mod_markAll_112 rfl rfl ?_
    refine go_iload (pc := 113) d_Mod_markAll_113 rfl ?_
    refine go_callV (pc := 115) (m_Mod_markRoot  hk) cz_Mod_markRoot cv_Mod_markRoot (Or.inl lk_Mod_140) (lay_at sh_model) rfl rfl rfl (Nat.le_of_ble_eq_true rfl) ⟨by decide, by decide⟩ rfl rfl d_Mod_markAll_115 (fun r M' hr => ?_)
    obtain ⟨μ6, rfl, rfl, hk⟩ := hr
    try dsimp only [Option.toList, List.cons_append, List.nil_append]
    refine go_iinc (pc := 118) (v := (j3 + 1)) (L' := [some (.ref 91), some (.int (0 : Int32)), some (.int w2), some (.int (j3 + 1)), some (.int j4), some (.int j5)]) d_Mod_markAll_118 rfl rfl (by decide) rfl ?_
    refine go_goto (pc := 121) (tgt := 18) d_Mod_markAll_121 rfl ?_
    refine go_weak (L' := [some (.ref 91), some (.int (0 : Int32)), some (.int w2), some (.int (j3 + 1)), none, none]) (lle_at (by simp [lle])) ?_
    exact hRec _ _ _ hk
  · replace hk := hk.2 h87
    refine go_aload_n (pc := 90) (i := 0) d_Mod_markAll_90 rfl rfl ?_
    refine go_getR (pc := 91) (r := 101) sh_model rfl fl_Mod_38 d_Mod_markAll_91 ?_
    refine go_iload (pc := 94) d_Mod_markAll_94 rfl ?_
    obtain ⟨hi7, hk⟩ := hk
    refine go_aldZ (pc := 96) sh_m_mark hi7 d_Mod_markAll_96 ?_
    refine go_if_ne (pc := 97) (tgt := 104) d_Mod_markAll_97 rfl (fun h97 => ?_) (fun h97 => ?_)
    · replace hk := hk.1 h97
      refine go_iconst (pc := 104) (v := 0) d_Mod_markAll_104 (by decide) ?_
      refine go_istore_n (pc := 105) (i := 1) (L' := [some (.ref 91), some (.int (0 : Int32)), some (.int w2), some (.int j3), some (.int j4), some (.int j5)]) d_Mod_markAll_105 rfl (by decide) rfl ?_
      refine go_aload_n (pc := 106) (i := 0) d_Mod_markAll_106 rfl rfl ?_
      refine go_iload (pc := 107) d_Mod_markAll_107 rfl ?_
      refine go_callV (pc := 109) (m_Mod_markRoot  hk) cz_Mod_markRoot cv_Mod_markRoot (Or.inl lk_Mod_140) (lay_at sh_model) rfl rfl rfl (Nat.le_of_ble_eq_true rfl) ⟨by decide, by decide⟩ rfl rfl d_Mod_markAll_109 (fun r M' hr => ?_)
      obtain ⟨μ8, rfl, rfl, hk⟩ := hr
      try dsimp only [Option.toList, List.cons_append, List.nil_append]
      refine go_aload_n (pc := 112) (i := 0) d_Mod_markAll_112 rfl rfl ?_
      refine go_iload (pc := 113) d_Mod_markAll_113 rfl ?_
      refine go_callV (pc := 115) (m_Mod_markRoot  hk) cz_Mod_markRoot cv_Mod_markRoot (Or.inl lk_Mod_140) (lay_at sh_model) rfl rfl rfl (Nat.le_of_ble_eq_true rfl) ⟨by decide, by decide⟩ rfl rfl d_Mod_markAll_115 (fun r M' hr => ?_)
      obtain ⟨μ9, rfl, rfl, hk⟩ := hr
      try dsimp only [Option.toList, List.cons_append, List.nil_append]
      refine go_iinc (pc := 118) (v := (j3 + 1)) (L' := [some (.ref 91), some (.int (0 : Int32)), some (.int w2), some (.int (j3 + 1)), some (.int j4), some (.int j5)]) d_Mod_markAll_118 rfl rfl (by decide) rfl ?_
      refine go_goto (pc := 121) (tgt := 18) d_Mod_markAll_121 rfl ?_
      refine go_weak (L' := [some (.ref 91), some (.int (0 : Int32)), some (.int w2), some (.int (j3 + 1)), none, none]) (lle_at (by simp [lle])) ?_
      exact hRec _ _ _ hk
    · replace hk := hk.2 h97
      refine go_iconst (pc := 100) (v := 1) d_Mod_markAll_100 (by decide) ?_
      refine go_goto (pc := 101) (tgt := 105) d_Mod_markAll_101 rfl ?_
      refine go_istore_n (pc := 105) (i := 1) (L' := [some (.ref 91), some (.int (1 : Int32)), some (.int w2), some (.int j3), some (.int j4), some (.int j5)]) d_Mod_markAll_105 rfl (by decide) rfl ?_
      refine go_aload_n (pc := 106) (i := 0) d_Mod_markAll_106 rfl rfl ?_
      refine go_iload (pc := 107) d_Mod_markAll_107 rfl ?_
      refine go_callV (pc := 109) (m_Mod_markRoot  hk) cz_Mod_markRoot cv_Mod_markRoot (Or.inl lk_Mod_140) (lay_at sh_model) rfl rfl rfl (Nat.le_of_ble_eq_true rfl) ⟨by decide, by decide⟩ rfl rfl d_Mod_markAll_109 (fun r M' hr => ?_)
      obtain ⟨μ10, rfl, rfl, hk⟩ := hr
      try dsimp only [Option.toList, List.cons_append, List.nil_append]
      refine go_aload_n (pc := 112) (i := 0) d_Mod_markAll_112 rfl rfl ?_
      refine go_iload (pc := 113) d_Mod_markAll_113 rfl ?_
      refine go_callV (pc := 115) (m_Mod_markRoot  hk) cz_Mod_markRoot cv_Mod_markRoot (Or.inl lk_Mod_140) (lay_at sh_model) rfl rfl rfl (Nat.le_of_ble_eq_true rfl) ⟨by decide, by decide⟩ rfl rfl d_Mod_markAll_115 (fun r M' hr => ?_)
      obtain ⟨μ11, rfl, rfl, hk⟩ := hr
      try dsimp only [Option.toList, List.cons_append, List.nil_append]
      refine go_iinc (pc := 118) (v := (j3 + 1)) (L' := [some (.ref 91), some (.int (1 : Int32)), some (.int w2), some (.int (j3 + 1)), some (.int j4), some (.int j5)]) d_Mod_markAll_118 rfl rfl (by decide) rfl ?_
      refine go_goto (pc := 121) (tgt := 18) d_Mod_markAll_121 rfl ?_
      refine go_weak (L' := [some (.ref 91), some (.int (1 : Int32)), some (.int w2), some (.int (j3 + 1)), none, none]) (lle_at (by simp [lle])) ?_
      exact hRec _ _ _ hk
def wp_Mod_markAll_j64_18 (w2 : Int32) (j1 : Int32) (j3 : Int32) (j4 : Int32) (s0 : Int32) (μ : Mu) (Rec : Int32 → Int32 → Mu → Prop) (K0 : Int32 → Int32 → Mu → Prop) (Q : Mu → Prop) : Prop := (((¬ j1 = 0) → wp_Mod_markRoot j4 μ (fun μ3 => wp_Mod_markRoot s0 μ3 (fun μ4 => Rec (1 : Int32) (j3 + 1) μ4))) ∧ ((j1 = 0) → (((j4 < 0) → wp_Mod_markAll_j85_18 w2 j3 j4 s0 μ (Rec) K0 Q) ∧ ((¬ j4 < 0) → (vp_in j4 104 ∧ ((((μ.2.1 101 (Int32.toNatClampNeg j4)) = 0) → wp_Mod_markRoot j4 μ (fun μ13 => wp_Mod_markRoot s0 μ13 (fun μ14 => Rec (1 : Int32) (j3 + 1) μ14))) ∧ ((¬ (μ.2.1 101 (Int32.toNatClampNeg j4)) = 0) → wp_Mod_markAll_j85_18 w2 j3 j4 s0 μ (Rec) K0 Q)))))))
set_option maxRecDepth 100000 in
set_option maxHeartbeats 4000000 in
theorem g_Mod_markAll_j64_18 {l : Launch} {w2 : Int32} {j1 : Int32} {j3 : Int32} {j4 : Int32} {s0 : Int32}  {Rec : Int32 → Int32 → Mu → Prop} {K0 : Int32 → Int32 → Mu → Prop} {Q : Mu → Prop} (hRec : ∀ (v1 : Int32) (v3 : Int32) (μ : Mu), Rec v1 v3 μ → Go (mE l) mt_Mod_markAll false (rmd 1) 0 0 18 [some (.ref 91), some (.int v1), some (.int w2), some (.int v3), none, none] [] (lay μ) (PV Q)) (hK0 : ∀ (v1 : Int32) (v3 : Int32) (μ : Mu), K0 v1 v3 μ → Go (mE l) mt_Mod_markAll false (rmd 1) 0 0 124 [some (.ref 91), some (.int v1), some (.int w2), some (.int v3), none, none] [] (lay μ) (PV Q)) {μ : Mu} (hk : wp_Mod_markAll_j64_18 w2 j1 j3 j4 s0 μ Rec K0 Q) : Go (mE l) mt_Mod_markAll false (rmd 1) 0 0 64 [some (.ref 91), some (.int j1), some (.int w2), some (.int j3), some (.int j4), none] [.int s0] (lay μ) (PV Q) := by
  unfold wp_Mod_markAll_j64_18 at hk
  refine go_istore (pc := 64) (L' := [some (.ref 91), some (.int j1), some (.int w2), some (.int j3), some (.int j4), some (.int s0)]) d_Mod_markAll_64 (by decide) rfl ?_
  refine go_iload_n (pc := 66) (i := 1) d_Mod_markAll_66 rfl rfl ?_
  refine go_if_ne (pc := 67) (tgt := 100) d_Mod_markAll_67 rfl (fun h67 => ?_) (fun h67 => ?_)
  · replace hk := hk.1 h67
    refine go_iconst (pc := 100) (v := 1) d_Mod_markAll_100 (by decide) ?_
    refine go_goto (pc := 101) (tgt := 105) d_Mod_markAll_101 rfl ?_
    refine go_istore_n (pc := 105) (i := 1) (L' := [some (.ref 91), some (.int (1 : Int32)), some (.int w2), some (.int j3), some (.int j4), some (.int s0)]) d_Mod_markAll_105 rfl (by decide) rfl ?_
    refine go_aload_n (pc := 106) (i := 0) d_Mod_markAll_106 rfl rfl ?_
    refine go_iload (pc := 107) d_Mod_markAll_107 rfl ?_
    refine go_callV (pc := 109) (m_Mod_markRoot  hk) cz_Mod_markRoot cv_Mod_markRoot (Or.inl lk_Mod_140) (lay_at sh_model) rfl rfl rfl (Nat.le_of_ble_eq_true rfl) ⟨by decide, by decide⟩ rfl rfl d_Mod_markAll_109 (fun r M' hr => ?_)
    obtain ⟨μ3, rfl, rfl, hk⟩ := hr
    try dsimp only [Option.toList, List.cons_append, List.nil_append]
    refine go_aload_n (pc := 112) (i := 0) d_Mod_markAll_112 rfl rfl ?_
    refine go_iload (pc := 113) d_Mod_markAll_113 rfl ?_
    refine go_callV (pc := 115) (m_Mod_markRoot  hk) cz_Mod_markRoot cv_Mod_markRoot (Or.inl lk_Mod_140) (lay_at sh_model) rfl rfl rfl (Nat.le_of_ble_eq_true rfl) ⟨by decide, by decide⟩ rfl rfl d_Mod_markAll_115 (fun r M' hr => ?_)
    obtain ⟨μ4, rfl, rfl, hk⟩ := hr
    try dsimp only [Option.toList, List.cons_append, List.nil_append]
    refine go_iinc (pc := 118) (v := (j3 + 1)) (L' := [some (.ref 91), some (.int (1 : Int32)), some (.int w2), some (.int (j3 + 1)), some (.int j4), some (.int s0)]) d_Mod_markAll_118 rfl rfl (by decide) rfl ?_
    refine go_goto (pc := 121) (tgt := 18) d_Mod_markAll_121 rfl ?_
    refine go_weak (L' := [some (.ref 91), some (.int (1 : Int32)), some (.int w2), some (.int (j3 + 1)), none, none]) (lle_at (by simp [lle])) ?_
    exact hRec _ _ _ hk
  · replace hk := hk.2 h67
    refine go_iload (pc := 70) d_Mod_markAll_70 rfl ?_
    refine go_if_lt (pc := 72) (tgt := 85) d_Mod_markAll_72 rfl (fun h72 => ?_) (fun h72 => ?_)
    · replace hk := hk.1 h72
      refine go_weak (L' := [some (.ref 91), none, some (.int w2), some (.int j3), some (.int j4), some (.int s0)]) (lle_at (by simp [lle])) ?_
      exact g_Mod_markAll_j85_18  hRec hK0 hk
    · replace hk := hk.2 h72
      refine go_aload_n (pc := 75) (i := 0) d_Mod_markAll_75 rfl rfl ?_
      refine go_getR (pc := 76) (r := 101) sh_model rfl fl_Mod_38 d_Mod_markAll_76 ?_
      refine go_iload (pc := 79) d_Mod_markAll_79 rfl ?_
      obtain ⟨hi12, hk⟩ := hk
      refine go_aldZ (pc := 81) sh_m_mark hi12 d_Mod_markAll_81 ?_
      refine go_if_eq (pc := 82) (tgt := 100) d_Mod_markAll_82 rfl (fun h82 => ?_) (fun h82 => ?_)
      · replace hk := hk.1 h82
        refine go_iconst (pc := 100) (v := 1) d_Mod_markAll_100 (by decide) ?_
        refine go_goto (pc := 101) (tgt := 105) d_Mod_markAll_101 rfl ?_
        refine go_istore_n (pc := 105) (i := 1) (L' := [some (.ref 91), some (.int (1 : Int32)), some (.int w2), some (.int j3), some (.int j4), some (.int s0)]) d_Mod_markAll_105 rfl (by decide) rfl ?_
        refine go_aload_n (pc := 106) (i := 0) d_Mod_markAll_106 rfl rfl ?_
        refine go_iload (pc := 107) d_Mod_markAll_107 rfl ?_
        refine go_callV (pc := 109) (m_Mod_markRoot  hk) cz_Mod_markRoot cv_Mod_markRoot (Or.inl lk_Mod_140) (lay_at sh_model) rfl rfl rfl (Nat.le_of_ble_eq_true rfl) ⟨by decide, by decide⟩ rfl rfl d_Mod_markAll_109 (fun r M' hr => ?_)
        obtain ⟨μ13, rfl, rfl, hk⟩ := hr
        try dsimp only [Option.toList, List.cons_append, List.nil_append]
        refine go_aload_n (pc := 112) (i := 0) d_Mod_markAll_112 rfl rfl ?_
        refine go_iload (pc := 113) d_Mod_markAll_113 rfl ?_
        refine go_callV (pc := 115) (m_Mod_markRoot  hk) cz_Mod_markRoot cv_Mod_markRoot (Or.inl lk_Mod_140) (lay_at sh_model) rfl rfl rfl (Nat.le_of_ble_eq_true rfl) ⟨by decide, by decide⟩ rfl rfl d_Mod_markAll_115 (fun r M' hr => ?_)
        obtain ⟨μ14, rfl, rfl, hk⟩ := hr
        try dsimp only [Option.toList, List.cons_append, List.nil_append]
        refine go_iinc (pc := 118) (v := (j3 + 1)) (L' := [some (.ref 91), some (.int (1 : Int32)), some (.int w2), some (.int (j3 + 1)), some (.int j4), some (.int s0)]) d_Mod_markAll_118 rfl rfl (by decide) rfl ?_
        refine go_goto (pc := 121) (tgt := 18) d_Mod_markAll_121 rfl ?_
        refine go_weak (L' := [some (.ref 91), some (.int (1 : Int32)), some (.int w2), some (.int (j3 + 1)), none, none]) (lle_at (by simp [lle])) ?_
        exact hRec _ _ _ hk
      · replace hk := hk.2 h82
        refine go_weak (L' := [some (.ref 91), none, some (.int w2), some (.int j3), some (.int j4), some (.int s0)]) (lle_at (by simp [lle])) ?_
        exact g_Mod_markAll_j85_18  hRec hK0 hk
def wp_Mod_markAll_j43_18 (w2 : Int32) (j1 : Int32) (j3 : Int32) (s0 : Int32) (μ : Mu) (Rec : Int32 → Int32 → Mu → Prop) (K0 : Int32 → Int32 → Mu → Prop) (Q : Mu → Prop) : Prop := (vp_in j3 104 ∧ ((((μ.2.1 101 (Int32.toNatClampNeg j3)) = 0) → wp_Mod_markAll_j64_18 w2 j1 j3 s0 (-1 : Int32) μ (Rec) K0 Q) ∧ ((¬ (μ.2.1 101 (Int32.toNatClampNeg j3)) = 0) → (vp_in j3 104 ∧ wp_Mod_markAll_j64_18 w2 j1 j3 s0 (μ.2.1 100 (Int32.toNatClampNeg j3)) μ (Rec) K0 Q))))
set_option maxRecDepth 100000 in
set_option maxHeartbeats 4000000 in
theorem g_Mod_markAll_j43_18 {l : Launch} {w2 : Int32} {j1 : Int32} {j3 : Int32} {s0 : Int32}  {Rec : Int32 → Int32 → Mu → Prop} {K0 : Int32 → Int32 → Mu → Prop} {Q : Mu → Prop} (hRec : ∀ (v1 : Int32) (v3 : Int32) (μ : Mu), Rec v1 v3 μ → Go (mE l) mt_Mod_markAll false (rmd 1) 0 0 18 [some (.ref 91), some (.int v1), some (.int w2), some (.int v3), none, none] [] (lay μ) (PV Q)) (hK0 : ∀ (v1 : Int32) (v3 : Int32) (μ : Mu), K0 v1 v3 μ → Go (mE l) mt_Mod_markAll false (rmd 1) 0 0 124 [some (.ref 91), some (.int v1), some (.int w2), some (.int v3), none, none] [] (lay μ) (PV Q)) {μ : Mu} (hk : wp_Mod_markAll_j43_18 w2 j1 j3 s0 μ Rec K0 Q) : Go (mE l) mt_Mod_markAll false (rmd 1) 0 0 43 [some (.ref 91), some (.int j1), some (.int w2), some (.int j3), none, none] [.int s0] (lay μ) (PV Q) := by
  unfold wp_Mod_markAll_j43_18 at hk
  refine go_istore (pc := 43) (L' := [some (.ref 91), some (.int j1), some (.int w2), some (.int j3), some (.int s0), none]) d_Mod_markAll_43 (by decide) rfl ?_
  refine go_aload_n (pc := 45) (i := 0) d_Mod_markAll_45 rfl rfl ?_
  refine go_getR (pc := 46) (r := 101) sh_model rfl fl_Mod_38 d_Mod_markAll_46 ?_
  refine go_iload_n (pc := 49) (i := 3) d_Mod_markAll_49 rfl rfl ?_
  obtain ⟨hi2, hk⟩ := hk
  refine go_aldZ (pc := 50) sh_m_mark hi2 d_Mod_markAll_50 ?_
  refine go_if_eq (pc := 51) (tgt := 63) d_Mod_markAll_51 rfl (fun h51 => ?_) (fun h51 => ?_)
  · replace hk := hk.1 h51
    refine go_iconst (pc := 63) (v := (-1)) d_Mod_markAll_63 (by decide) ?_
    exact g_Mod_markAll_j64_18  hRec hK0 hk
  · replace hk := hk.2 h51
    refine go_aload_n (pc := 54) (i := 0) d_Mod_markAll_54 rfl rfl ?_
    refine go_getR (pc := 55) (r := 100) sh_model rfl fl_Mod_35 d_Mod_markAll_55 ?_
    refine go_iload_n (pc := 58) (i := 3) d_Mod_markAll_58 rfl rfl ?_
    obtain ⟨hi15, hk⟩ := hk
    refine go_aldI (pc := 59) sh_m_right hi15 d_Mod_markAll_59 ?_
    refine go_goto (pc := 60) (tgt := 64) d_Mod_markAll_60 rfl ?_
    exact g_Mod_markAll_j64_18  hRec hK0 hk
def wp_Mod_markAll_18 (w2 : Int32) (K0 : Int32 → Int32 → Mu → Prop) (Q : Mu → Prop) : Nat → Int32 → Int32 → Mu → Prop
  | 0, _, _, _ => False
  | n18 + 1, v1, v3, μ => ((((104 : Int32) ≤ v3) → K0 v1 v3 μ) ∧ ((¬ (104 : Int32) ≤ v3) → (vp_in v3 104 ∧ ((((μ.2.1 101 (Int32.toNatClampNeg v3)) = 0) → wp_Mod_markAll_j43_18 w2 v1 v3 (-1 : Int32) μ (wp_Mod_markAll_18 w2 K0 Q n18) K0 Q) ∧ ((¬ (μ.2.1 101 (Int32.toNatClampNeg v3)) = 0) → (vp_in v3 104 ∧ wp_Mod_markAll_j43_18 w2 v1 v3 (μ.2.1 99 (Int32.toNatClampNeg v3)) μ (wp_Mod_markAll_18 w2 K0 Q n18) K0 Q))))))
set_option maxRecDepth 100000 in
set_option maxHeartbeats 4000000 in
theorem g_Mod_markAll_18 {l : Launch} {w2 : Int32}  {K0 : Int32 → Int32 → Mu → Prop} {Q : Mu → Prop} (hK0 : ∀ (v1 : Int32) (v3 : Int32) (μ : Mu), K0 v1 v3 μ → Go (mE l) mt_Mod_markAll false (rmd 1) 0 0 124 [some (.ref 91), some (.int v1), some (.int w2), some (.int v3), none, none] [] (lay μ) (PV Q)) : ∀ (n : Nat) (v1 : Int32) (v3 : Int32) (μ : Mu), wp_Mod_markAll_18 w2 K0 Q n v1 v3 μ → Go (mE l) mt_Mod_markAll false (rmd 1) 0 0 18 [some (.ref 91), some (.int v1), some (.int w2), some (.int v3), none, none] [] (lay μ) (PV Q) := by
  intro n
  induction n with
  | zero => intro v1 v3 μ hk; exact hk.elim
  | succ n ih =>
    intro v1 v3 μ hk
    unfold wp_Mod_markAll_18 at hk
    refine go_iload_n (pc := 18) (i := 3) d_Mod_markAll_18 rfl rfl ?_
    refine go_bipush (pc := 19) (v := 104) d_Mod_markAll_19 (by decide) ?_
    refine go_icmp_ge (pc := 21) (tgt := 124) d_Mod_markAll_21 rfl (fun h21 => ?_) (fun h21 => ?_)
    · replace hk := hk.1 h21
      exact hK0 _ _ _ hk
    · replace hk := hk.2 h21
      refine go_aload_n (pc := 24) (i := 0) d_Mod_markAll_24 rfl rfl ?_
      refine go_getR (pc := 25) (r := 101) sh_model rfl fl_Mod_38 d_Mod_markAll_25 ?_
      refine go_iload_n (pc := 28) (i := 3) d_Mod_markAll_28 rfl rfl ?_
      obtain ⟨hi1, hk⟩ := hk
      refine go_aldZ (pc := 29) sh_m_mark hi1 d_Mod_markAll_29 ?_
      refine go_if_eq (pc := 30) (tgt := 42) d_Mod_markAll_30 rfl (fun h30 => ?_) (fun h30 => ?_)
      · replace hk := hk.1 h30
        refine go_iconst (pc := 42) (v := (-1)) d_Mod_markAll_42 (by decide) ?_
        exact g_Mod_markAll_j43_18  ih hK0 hk
      · replace hk := hk.2 h30
        refine go_aload_n (pc := 33) (i := 0) d_Mod_markAll_33 rfl rfl ?_
        refine go_getR (pc := 34) (r := 99) sh_model rfl fl_Mod_32 d_Mod_markAll_34 ?_
        refine go_iload_n (pc := 37) (i := 3) d_Mod_markAll_37 rfl rfl ?_
        obtain ⟨hi16, hk⟩ := hk
        refine go_aldI (pc := 38) sh_m_left hi16 d_Mod_markAll_38 ?_
        refine go_goto (pc := 39) (tgt := 43) d_Mod_markAll_39 rfl ?_
        exact g_Mod_markAll_j43_18  ih hK0 hk
def wp_Mod_markAll_4  (K0 : Int32 → Int32 → Mu → Prop) (Q : Mu → Prop) : Nat → Int32 → Int32 → Mu → Prop
  | 0, _, _, _ => False
  | n4 + 1, v1, v2, μ => ((((105 : Int32) ≤ v2) → K0 v1 v2 μ) ∧ ((¬ (105 : Int32) ≤ v2) → (((v1 = 0) → K0 v1 v2 μ) ∧ ((¬ v1 = 0) → (∃ n18, wp_Mod_markAll_18 v2 (fun v17 v18 μ19 => wp_Mod_markAll_4  K0 Q n4 v17 (v2 + 1) μ19) Q n18 (0 : Int32) (0 : Int32) μ)))))
set_option maxRecDepth 100000 in
set_option maxHeartbeats 4000000 in
theorem g_Mod_markAll_4 {l : Launch}   {K0 : Int32 → Int32 → Mu → Prop} {Q : Mu → Prop} (hK0 : ∀ (v1 : Int32) (v2 : Int32) (μ : Mu), K0 v1 v2 μ → Go (mE l) mt_Mod_markAll false (rmd 1) 0 0 130 [some (.ref 91), some (.int v1), some (.int v2), none, none, none] [] (lay μ) (PV Q)) : ∀ (n : Nat) (v1 : Int32) (v2 : Int32) (μ : Mu), wp_Mod_markAll_4  K0 Q n v1 v2 μ → Go (mE l) mt_Mod_markAll false (rmd 1) 0 0 4 [some (.ref 91), some (.int v1), some (.int v2), none, none, none] [] (lay μ) (PV Q) := by
  intro n
  induction n with
  | zero => intro v1 v2 μ hk; exact hk.elim
  | succ n ih =>
    intro v1 v2 μ hk
    unfold wp_Mod_markAll_4 at hk
    refine go_iload_n (pc := 4) (i := 2) d_Mod_markAll_4 rfl rfl ?_
    refine go_bipush (pc := 5) (v := 105) d_Mod_markAll_5 (by decide) ?_
    refine go_icmp_ge (pc := 7) (tgt := 130) d_Mod_markAll_7 rfl (fun h7 => ?_) (fun h7 => ?_)
    · replace hk := hk.1 h7
      exact hK0 _ _ _ hk
    · replace hk := hk.2 h7
      refine go_iload_n (pc := 10) (i := 1) d_Mod_markAll_10 rfl rfl ?_
      refine go_if_eq (pc := 11) (tgt := 130) d_Mod_markAll_11 rfl (fun h11 => ?_) (fun h11 => ?_)
      · replace hk := hk.1 h11
        exact hK0 _ _ _ hk
      · replace hk := hk.2 h11
        refine go_iconst (pc := 14) (v := 0) d_Mod_markAll_14 (by decide) ?_
        refine go_istore_n (pc := 15) (i := 1) (L' := [some (.ref 91), some (.int (0 : Int32)), some (.int v2), none, none, none]) d_Mod_markAll_15 rfl (by decide) rfl ?_
        refine go_iconst (pc := 16) (v := 0) d_Mod_markAll_16 (by decide) ?_
        refine go_istore_n (pc := 17) (i := 3) (L' := [some (.ref 91), some (.int (0 : Int32)), some (.int v2), some (.int (0 : Int32)), none, none]) d_Mod_markAll_17 rfl (by decide) rfl ?_
        obtain ⟨n, hk⟩ := hk
        refine g_Mod_markAll_18  (fun v17 v18 μ19 hk => ?_) n _ _ _ hk
        · try dsimp only at hk
          refine go_iinc (pc := 124) (v := (v2 + 1)) (L' := [some (.ref 91), some (.int v17), some (.int (v2 + 1)), some (.int v18), none, none]) d_Mod_markAll_124 rfl rfl (by decide) rfl ?_
          refine go_goto (pc := 127) (tgt := 4) d_Mod_markAll_127 rfl ?_
          refine go_weak (L' := [some (.ref 91), some (.int v17), some (.int (v2 + 1)), none, none, none]) (lle_at (by simp [lle])) ?_
          exact ih _ _ _ hk
def wp_Mod_markAll  (μ : Mu) (Q : Mu → Prop) : Prop := (∃ n4, wp_Mod_markAll_4  (fun v20 v21 μ22 => Q μ22) Q n4 (1 : Int32) (0 : Int32) μ)
set_option maxRecDepth 100000 in
set_option maxHeartbeats 4000000 in
theorem m_Mod_markAll {l : Launch}   {μ : Mu} {Q : Mu → Prop} (hk : wp_Mod_markAll  μ Q) : Mets (mE l) mt_Mod_markAll false (rmd 1) [.ref 91] (lay μ) (PV Q) := by
  unfold wp_Mod_markAll at hk
  refine mets_of (L := [some (.ref 91), none, none, none, none, none]) (by decide) (Nat.le_of_ble_eq_true rfl) rfl ?_
  refine go_iconst (pc := 0) (v := 1) d_Mod_markAll_0 (by decide) ?_
  refine go_istore_n (pc := 1) (i := 1) (L' := [some (.ref 91), some (.int (1 : Int32)), none, none, none, none]) d_Mod_markAll_1 rfl (by decide) rfl ?_
  refine go_iconst (pc := 2) (v := 0) d_Mod_markAll_2 (by decide) ?_
  refine go_istore_n (pc := 3) (i := 2) (L' := [some (.ref 91), some (.int (1 : Int32)), some (.int (0 : Int32)), none, none, none]) d_Mod_markAll_3 rfl (by decide) rfl ?_
  obtain ⟨n, hk⟩ := hk
  refine g_Mod_markAll_4  (fun v20 v21 μ22 hk => ?_) n _ _ _ hk
  · try dsimp only at hk
    exact go_ret (pc := 130) (r := none) d_Mod_markAll_130 ⟨_, rfl, rfl, hk⟩
def wp_Mod_markLive_2 (w1 : Int32) (K0 : Int32 → Mu → Prop) (Q : Mu → Prop) : Nat → Int32 → Mu → Prop
  | 0, _, _ => False
  | n2 + 1, v2, μ => ((((104 : Int32) ≤ v2) → K0 v2 μ) ∧ ((¬ (104 : Int32) ≤ v2) → (vp_in v2 104 ∧ ∀ μ2 : Mu, μ2 = setA μ 101 (Int32.toNatClampNeg v2) (0 : Int32) → wp_Mod_markLive_2 w1 K0 Q n2 (v2 + 1) μ2)))
set_option maxRecDepth 100000 in
set_option maxHeartbeats 4000000 in
theorem g_Mod_markLive_2 {l : Launch} {w1 : Int32}  {K0 : Int32 → Mu → Prop} {Q : Mu → Prop} (hK0 : ∀ (v2 : Int32) (μ : Mu), K0 v2 μ → Go (mE l) mt_Mod_markLive false (rmd 2) 0 0 21 [some (.ref 91), some (.int w1), some (.int v2), none] [] (lay μ) (PV Q)) : ∀ (n : Nat) (v2 : Int32) (μ : Mu), wp_Mod_markLive_2 w1 K0 Q n v2 μ → Go (mE l) mt_Mod_markLive false (rmd 2) 0 0 2 [some (.ref 91), some (.int w1), some (.int v2), none] [] (lay μ) (PV Q) := by
  intro n
  induction n with
  | zero => intro v2 μ hk; exact hk.elim
  | succ n ih =>
    intro v2 μ hk
    unfold wp_Mod_markLive_2 at hk
    refine go_iload_n (pc := 2) (i := 2) d_Mod_markLive_2 rfl rfl ?_
    refine go_bipush (pc := 3) (v := 104) d_Mod_markLive_3 (by decide) ?_
    refine go_icmp_ge (pc := 5) (tgt := 21) d_Mod_markLive_5 rfl (fun h5 => ?_) (fun h5 => ?_)
    · replace hk := hk.1 h5
      exact hK0 _ _ hk
    · replace hk := hk.2 h5
      refine go_aload_n (pc := 8) (i := 0) d_Mod_markLive_8 rfl rfl ?_
      refine go_getR (pc := 9) (r := 101) sh_model rfl fl_Mod_38 d_Mod_markLive_9 ?_
      refine go_iload_n (pc := 12) (i := 2) d_Mod_markLive_12 rfl rfl ?_
      refine go_iconst (pc := 13) (v := 0) d_Mod_markLive_13 (by decide) ?_
      obtain ⟨hi1, hk⟩ := hk
      refine go_astZn (pc := 14) (by decide) sh_m_mark hi1 d_Mod_markLive_14 (fun μ2 e2 => ?_)
      replace hk := hk μ2 e2
      refine go_iinc (pc := 15) (v := (v2 + 1)) (L' := [some (.ref 91), some (.int w1), some (.int (v2 + 1)), none]) d_Mod_markLive_15 rfl rfl (by decide) rfl ?_
      refine go_goto (pc := 18) (tgt := 2) d_Mod_markLive_18 rfl ?_
      exact ih _ _ hk
def wp_Mod_markLive_23 (w1 : Int32) (K0 : Int32 → Mu → Prop) (Q : Mu → Prop) : Nat → Int32 → Mu → Prop
  | 0, _, _ => False
  | n23 + 1, v2, μ => ((((4 : Int32) ≤ v2) → K0 v2 μ) ∧ ((¬ (4 : Int32) ≤ v2) → (vp_in (((4 : Int32) * w1) + v2) 16 ∧ wp_Mod_markRoot (μ.2.1 114 (Int32.toNatClampNeg (((4 : Int32) * w1) + v2))) μ (fun μ6 => wp_Mod_markLive_23 w1 K0 Q n23 (v2 + 1) μ6))))
set_option maxRecDepth 100000 in
set_option maxHeartbeats 4000000 in
theorem g_Mod_markLive_23 {l : Launch} {w1 : Int32}  {K0 : Int32 → Mu → Prop} {Q : Mu → Prop} (hK0 : ∀ (v2 : Int32) (μ : Mu), K0 v2 μ → Go (mE l) mt_Mod_markLive false (rmd 2) 0 0 48 [some (.ref 91), some (.int w1), some (.int v2), none] [] (lay μ) (PV Q)) : ∀ (n : Nat) (v2 : Int32) (μ : Mu), wp_Mod_markLive_23 w1 K0 Q n v2 μ → Go (mE l) mt_Mod_markLive false (rmd 2) 0 0 23 [some (.ref 91), some (.int w1), some (.int v2), none] [] (lay μ) (PV Q) := by
  intro n
  induction n with
  | zero => intro v2 μ hk; exact hk.elim
  | succ n ih =>
    intro v2 μ hk
    unfold wp_Mod_markLive_23 at hk
    refine go_iload_n (pc := 23) (i := 2) d_Mod_markLive_23 rfl rfl ?_
    refine go_iconst (pc := 24) (v := 4) d_Mod_markLive_24 (by decide) ?_
    refine go_icmp_ge (pc := 25) (tgt := 48) d_Mod_markLive_25 rfl (fun h25 => ?_) (fun h25 => ?_)
    · replace hk := hk.1 h25
      exact hK0 _ _ hk
    · replace hk := hk.2 h25
      refine go_aload_n (pc := 28) (i := 0) d_Mod_markLive_28 rfl rfl ?_
      refine go_aload_n (pc := 29) (i := 0) d_Mod_markLive_29 rfl rfl ?_
      refine go_getR (pc := 30) (r := 114) sh_model rfl fl_Mod_77 d_Mod_markLive_30 ?_
      refine go_iconst (pc := 33) (v := 4) d_Mod_markLive_33 (by decide) ?_
      refine go_iload_n (pc := 34) (i := 1) d_Mod_markLive_34 rfl rfl ?_
      refine go_imul (pc := 35) d_Mod_markLive_35 ?_
      refine go_iload_n (pc := 36) (i := 2) d_Mod_markLive_36 rfl rfl ?_
      refine go_iadd (pc := 37) d_Mod_markLive_37 ?_
      obtain ⟨hi5, hk⟩ := hk
      refine go_aldI (pc := 38) sh_m_locals hi5 d_Mod_markLive_38 ?_
      refine go_callV (pc := 39) (m_Mod_markRoot  hk) cz_Mod_markRoot cv_Mod_markRoot (Or.inl lk_Mod_140) (lay_at sh_model) rfl rfl rfl (Nat.le_of_ble_eq_true rfl) ⟨by decide, by decide⟩ rfl rfl d_Mod_markLive_39 (fun r M' hr => ?_)
      obtain ⟨μ6, rfl, rfl, hk⟩ := hr
      try dsimp only [Option.toList, List.cons_append, List.nil_append]
      refine go_iinc (pc := 42) (v := (v2 + 1)) (L' := [some (.ref 91), some (.int w1), some (.int (v2 + 1)), none]) d_Mod_markLive_42 rfl rfl (by decide) rfl ?_
      refine go_goto (pc := 45) (tgt := 23) d_Mod_markLive_45 rfl ?_
      exact ih _ _ hk
def wp_Mod_markLive_50 (w1 : Int32) (K0 : Int32 → Mu → Prop) (Q : Mu → Prop) : Nat → Int32 → Mu → Prop
  | 0, _, _ => False
  | n50 + 1, v2, μ => (vp_in w1 4 ∧ ((((μ.2.1 116 (Int32.toNatClampNeg w1)) ≤ v2) → K0 v2 μ) ∧ ((¬ (μ.2.1 116 (Int32.toNatClampNeg w1)) ≤ v2) → (vp_in (((4 : Int32) * w1) + v2) 16 ∧ wp_Mod_markRoot (μ.2.1 115 (Int32.toNatClampNeg (((4 : Int32) * w1) + v2))) μ (fun μ11 => wp_Mod_markLive_50 w1 K0 Q n50 (v2 + 1) μ11)))))
set_option maxRecDepth 100000 in
set_option maxHeartbeats 4000000 in
theorem g_Mod_markLive_50 {l : Launch} {w1 : Int32}  {K0 : Int32 → Mu → Prop} {Q : Mu → Prop} (hK0 : ∀ (v2 : Int32) (μ : Mu), K0 v2 μ → Go (mE l) mt_Mod_markLive false (rmd 2) 0 0 80 [some (.ref 91), some (.int w1), some (.int v2), none] [] (lay μ) (PV Q)) : ∀ (n : Nat) (v2 : Int32) (μ : Mu), wp_Mod_markLive_50 w1 K0 Q n v2 μ → Go (mE l) mt_Mod_markLive false (rmd 2) 0 0 50 [some (.ref 91), some (.int w1), some (.int v2), none] [] (lay μ) (PV Q) := by
  intro n
  induction n with
  | zero => intro v2 μ hk; exact hk.elim
  | succ n ih =>
    intro v2 μ hk
    unfold wp_Mod_markLive_50 at hk
    refine go_iload_n (pc := 50) (i := 2) d_Mod_markLive_50 rfl rfl ?_
    refine go_aload_n (pc := 51) (i := 0) d_Mod_markLive_51 rfl rfl ?_
    refine go_getR (pc := 52) (r := 116) sh_model rfl fl_Mod_83 d_Mod_markLive_52 ?_
    refine go_iload_n (pc := 55) (i := 1) d_Mod_markLive_55 rfl rfl ?_
    obtain ⟨hi9, hk⟩ := hk
    refine go_aldI (pc := 56) sh_m_mails hi9 d_Mod_markLive_56 ?_
    refine go_icmp_ge (pc := 57) (tgt := 80) d_Mod_markLive_57 rfl (fun h57 => ?_) (fun h57 => ?_)
    · replace hk := hk.1 h57
      exact hK0 _ _ hk
    · replace hk := hk.2 h57
      refine go_aload_n (pc := 60) (i := 0) d_Mod_markLive_60 rfl rfl ?_
      refine go_aload_n (pc := 61) (i := 0) d_Mod_markLive_61 rfl rfl ?_
      refine go_getR (pc := 62) (r := 115) sh_model rfl fl_Mod_80 d_Mod_markLive_62 ?_
      refine go_iconst (pc := 65) (v := 4) d_Mod_markLive_65 (by decide) ?_
      refine go_iload_n (pc := 66) (i := 1) d_Mod_markLive_66 rfl rfl ?_
      refine go_imul (pc := 67) d_Mod_markLive_67 ?_
      refine go_iload_n (pc := 68) (i := 2) d_Mod_markLive_68 rfl rfl ?_
      refine go_iadd (pc := 69) d_Mod_markLive_69 ?_
      obtain ⟨hi10, hk⟩ := hk
      refine go_aldI (pc := 70) sh_m_mail hi10 d_Mod_markLive_70 ?_
      refine go_callV (pc := 71) (m_Mod_markRoot  hk) cz_Mod_markRoot cv_Mod_markRoot (Or.inl lk_Mod_140) (lay_at sh_model) rfl rfl rfl (Nat.le_of_ble_eq_true rfl) ⟨by decide, by decide⟩ rfl rfl d_Mod_markLive_71 (fun r M' hr => ?_)
      obtain ⟨μ11, rfl, rfl, hk⟩ := hr
      try dsimp only [Option.toList, List.cons_append, List.nil_append]
      refine go_iinc (pc := 74) (v := (v2 + 1)) (L' := [some (.ref 91), some (.int w1), some (.int (v2 + 1)), none]) d_Mod_markLive_74 rfl rfl (by decide) rfl ?_
      refine go_goto (pc := 77) (tgt := 50) d_Mod_markLive_77 rfl ?_
      exact ih _ _ hk
def wp_Mod_markLive_124 (w1 : Int32) (K0 : Int32 → Int32 → Mu → Prop) (Q : Mu → Prop) : Nat → Int32 → Int32 → Mu → Prop
  | 0, _, _, _ => False
  | n124 + 1, v2, v3, μ => (((v3 < 0) → K0 v2 v3 μ) ∧ ((¬ v3 < 0) → (((¬ (v2 - v2 / (2 : Int32) * (2 : Int32)) = (1 : Int32)) → wp_Mod_markLive_124 w1 K0 Q n124 (v2 / (2 : Int32)) (v3 + (-1)) μ) ∧ (((v2 - v2 / (2 : Int32) * (2 : Int32)) = (1 : Int32)) → (vp_in (((6 : Int32) * w1) + v3) 24 ∧ wp_Mod_markRoot (μ.2.1 113 (Int32.toNatClampNeg (((6 : Int32) * w1) + v3))) μ (fun μ20 => wp_Mod_markLive_124 w1 K0 Q n124 (v2 / (2 : Int32)) (v3 + (-1)) μ20))))))
set_option maxRecDepth 100000 in
set_option maxHeartbeats 4000000 in
theorem g_Mod_markLive_124 {l : Launch} {w1 : Int32}  {K0 : Int32 → Int32 → Mu → Prop} {Q : Mu → Prop} (hK0 : ∀ (v2 : Int32) (v3 : Int32) (μ : Mu), K0 v2 v3 μ → Go (mE l) mt_Mod_markLive false (rmd 2) 0 0 160 [some (.ref 91), some (.int w1), some (.int v2), some (.int v3)] [] (lay μ) (PV Q)) : ∀ (n : Nat) (v2 : Int32) (v3 : Int32) (μ : Mu), wp_Mod_markLive_124 w1 K0 Q n v2 v3 μ → Go (mE l) mt_Mod_markLive false (rmd 2) 0 0 124 [some (.ref 91), some (.int w1), some (.int v2), some (.int v3)] [] (lay μ) (PV Q) := by
  intro n
  induction n with
  | zero => intro v2 v3 μ hk; exact hk.elim
  | succ n ih =>
    intro v2 v3 μ hk
    unfold wp_Mod_markLive_124 at hk
    refine go_iload_n (pc := 124) (i := 3) d_Mod_markLive_124 rfl rfl ?_
    refine go_if_lt (pc := 125) (tgt := 160) d_Mod_markLive_125 rfl (fun h125 => ?_) (fun h125 => ?_)
    · replace hk := hk.1 h125
      exact hK0 _ _ _ hk
    · replace hk := hk.2 h125
      refine go_iload_n (pc := 128) (i := 2) d_Mod_markLive_128 rfl rfl ?_
      refine go_iconst (pc := 129) (v := 2) d_Mod_markLive_129 (by decide) ?_
      refine go_irem (pc := 130) d_Mod_markLive_130 (by decide) ?_
      refine go_iconst (pc := 131) (v := 1) d_Mod_markLive_131 (by decide) ?_
      refine go_icmp_ne (pc := 132) (tgt := 150) d_Mod_markLive_132 rfl (fun h132 => ?_) (fun h132 => ?_)
      · replace hk := hk.1 h132
        refine go_iload_n (pc := 150) (i := 2) d_Mod_markLive_150 rfl rfl ?_
        refine go_iconst (pc := 151) (v := 2) d_Mod_markLive_151 (by decide) ?_
        refine go_idiv (pc := 152) d_Mod_markLive_152 (by decide) ?_
        refine go_istore_n (pc := 153) (i := 2) (L' := [some (.ref 91), some (.int w1), some (.int (v2 / (2 : Int32))), some (.int v3)]) d_Mod_markLive_153 rfl (by decide) rfl ?_
        refine go_iinc (pc := 154) (v := (v3 + (-1))) (L' := [some (.ref 91), some (.int w1), some (.int (v2 / (2 : Int32))), some (.int (v3 + (-1)))]) d_Mod_markLive_154 rfl rfl (by decide) rfl ?_
        refine go_goto (pc := 157) (tgt := 124) d_Mod_markLive_157 rfl ?_
        exact ih _ _ _ hk
      · replace hk := hk.2 h132
        refine go_aload_n (pc := 135) (i := 0) d_Mod_markLive_135 rfl rfl ?_
        refine go_aload_n (pc := 136) (i := 0) d_Mod_markLive_136 rfl rfl ?_
        refine go_getR (pc := 137) (r := 113) sh_model rfl fl_Mod_74 d_Mod_markLive_137 ?_
        refine go_bipush (pc := 140) (v := 6) d_Mod_markLive_140 (by decide) ?_
        refine go_iload_n (pc := 142) (i := 1) d_Mod_markLive_142 rfl rfl ?_
        refine go_imul (pc := 143) d_Mod_markLive_143 ?_
        refine go_iload_n (pc := 144) (i := 3) d_Mod_markLive_144 rfl rfl ?_
        refine go_iadd (pc := 145) d_Mod_markLive_145 ?_
        obtain ⟨hi19, hk⟩ := hk
        refine go_aldI (pc := 146) sh_m_stack hi19 d_Mod_markLive_146 ?_
        refine go_callV (pc := 147) (m_Mod_markRoot  hk) cz_Mod_markRoot cv_Mod_markRoot (Or.inl lk_Mod_140) (lay_at sh_model) rfl rfl rfl (Nat.le_of_ble_eq_true rfl) ⟨by decide, by decide⟩ rfl rfl d_Mod_markLive_147 (fun r M' hr => ?_)
        obtain ⟨μ20, rfl, rfl, hk⟩ := hr
        try dsimp only [Option.toList, List.cons_append, List.nil_append]
        refine go_iload_n (pc := 150) (i := 2) d_Mod_markLive_150 rfl rfl ?_
        refine go_iconst (pc := 151) (v := 2) d_Mod_markLive_151 (by decide) ?_
        refine go_idiv (pc := 152) d_Mod_markLive_152 (by decide) ?_
        refine go_istore_n (pc := 153) (i := 2) (L' := [some (.ref 91), some (.int w1), some (.int (v2 / (2 : Int32))), some (.int v3)]) d_Mod_markLive_153 rfl (by decide) rfl ?_
        refine go_iinc (pc := 154) (v := (v3 + (-1))) (L' := [some (.ref 91), some (.int w1), some (.int (v2 / (2 : Int32))), some (.int (v3 + (-1)))]) d_Mod_markLive_154 rfl rfl (by decide) rfl ?_
        refine go_goto (pc := 157) (tgt := 124) d_Mod_markLive_157 rfl ?_
        exact ih _ _ _ hk
def wp_Mod_markLive_j114 (j1 : Int32) (s0 : Int32) (μ : Mu)  (Q : Mu → Prop) : Prop := (vp_in j1 4 ∧ (∃ n124, wp_Mod_markLive_124 j1 (fun v21 v22 μ23 => wp_Mod_markAll  μ23 (fun μ24 => Q μ24)) Q n124 s0 ((μ.2.1 112 (Int32.toNatClampNeg j1)) - (1 : Int32)) μ))
set_option maxRecDepth 100000 in
set_option maxHeartbeats 4000000 in
theorem g_Mod_markLive_j114 {l : Launch} {j1 : Int32} {s0 : Int32}   {Q : Mu → Prop}  {μ : Mu} (hk : wp_Mod_markLive_j114 j1 s0 μ  Q) : Go (mE l) mt_Mod_markLive false (rmd 2) 0 0 114 [some (.ref 91), some (.int j1), none, none] [.int s0] (lay μ) (PV Q) := by
  unfold wp_Mod_markLive_j114 at hk
  refine go_istore_n (pc := 114) (i := 2) (L' := [some (.ref 91), some (.int j1), some (.int s0), none]) d_Mod_markLive_114 rfl (by decide) rfl ?_
  refine go_aload_n (pc := 115) (i := 0) d_Mod_markLive_115 rfl rfl ?_
  refine go_getR (pc := 116) (r := 112) sh_model rfl fl_Mod_71 d_Mod_markLive_116 ?_
  refine go_iload_n (pc := 119) (i := 1) d_Mod_markLive_119 rfl rfl ?_
  obtain ⟨hi18, hk⟩ := hk
  refine go_aldI (pc := 120) sh_m_height hi18 d_Mod_markLive_120 ?_
  refine go_iconst (pc := 121) (v := 1) d_Mod_markLive_121 (by decide) ?_
  refine go_isub (pc := 122) d_Mod_markLive_122 ?_
  refine go_istore_n (pc := 123) (i := 3) (L' := [some (.ref 91), some (.int j1), some (.int s0), some (.int ((μ.2.1 112 (Int32.toNatClampNeg j1)) - (1 : Int32)))]) d_Mod_markLive_123 rfl (by decide) rfl ?_
  obtain ⟨n, hk⟩ := hk
  refine g_Mod_markLive_124  (fun v21 v22 μ23 hk => ?_) n _ _ _ hk
  · try dsimp only at hk
    refine go_aload_n (pc := 160) (i := 0) d_Mod_markLive_160 rfl rfl ?_
    refine go_callV (pc := 161) (m_Mod_markAll  hk) cz_Mod_markAll cv_Mod_markAll (Or.inl lk_Mod_144) (lay_at sh_model) rfl rfl rfl (Nat.le_of_ble_eq_true rfl) ⟨by decide, by decide⟩ rfl rfl d_Mod_markLive_161 (fun r M' hr => ?_)
    obtain ⟨μ24, rfl, rfl, hk⟩ := hr
    try dsimp only [Option.toList, List.cons_append, List.nil_append]
    exact go_ret (pc := 164) (r := none) d_Mod_markLive_164 ⟨_, rfl, rfl, hk⟩
def wp_Mod_markLive (a1 : Int32) (μ : Mu) (Q : Mu → Prop) : Prop := (∃ n2, wp_Mod_markLive_2 a1 (fun v3 μ4 => (∃ n23, wp_Mod_markLive_23 a1 (fun v7 μ8 => (∃ n50, wp_Mod_markLive_50 a1 (fun v12 μ13 => (vp_in a1 4 ∧ (((¬ (μ13.2.1 112 (Int32.toNatClampNeg a1)) = 0) → (vp_in a1 4 ∧ (vp_in a1 4 ∧ (vp_in (((24 : Int32) * (μ13.2.1 107 (Int32.toNatClampNeg a1))) + (μ13.2.1 108 (Int32.toNatClampNeg a1))) 96 ∧ wp_Mod_markLive_j114 a1 (μ13.2.1 94 (Int32.toNatClampNeg (((24 : Int32) * (μ13.2.1 107 (Int32.toNatClampNeg a1))) + (μ13.2.1 108 (Int32.toNatClampNeg a1))))) μ13  Q)))) ∧ (((μ13.2.1 112 (Int32.toNatClampNeg a1)) = 0) → wp_Mod_markLive_j114 a1 (1 : Int32) μ13  Q)))) Q n50 (0 : Int32) μ8)) Q n23 (2 : Int32) μ4)) Q n2 (0 : Int32) μ)
set_option maxRecDepth 100000 in
set_option maxHeartbeats 4000000 in
theorem m_Mod_markLive {l : Launch} {a1 : Int32}  {μ : Mu} {Q : Mu → Prop} (hk : wp_Mod_markLive a1 μ Q) : Mets (mE l) mt_Mod_markLive false (rmd 2) [.ref 91, .int a1] (lay μ) (PV Q) := by
  unfold wp_Mod_markLive at hk
  refine mets_of (L := [some (.ref 91), some (.int a1), none, none]) (by decide) (Nat.le_of_ble_eq_true rfl) rfl ?_
  refine go_iconst (pc := 0) (v := 0) d_Mod_markLive_0 (by decide) ?_
  refine go_istore_n (pc := 1) (i := 2) (L' := [some (.ref 91), some (.int a1), some (.int (0 : Int32)), none]) d_Mod_markLive_1 rfl (by decide) rfl ?_
  obtain ⟨n, hk⟩ := hk
  refine g_Mod_markLive_2  (fun v3 μ4 hk => ?_) n _ _ hk
  · try dsimp only at hk
    refine go_iconst (pc := 21) (v := 2) d_Mod_markLive_21 (by decide) ?_
    refine go_istore_n (pc := 22) (i := 2) (L' := [some (.ref 91), some (.int a1), some (.int (2 : Int32)), none]) d_Mod_markLive_22 rfl (by decide) rfl ?_
    obtain ⟨n, hk⟩ := hk
    refine g_Mod_markLive_23  (fun v7 μ8 hk => ?_) n _ _ hk
    · try dsimp only at hk
      refine go_iconst (pc := 48) (v := 0) d_Mod_markLive_48 (by decide) ?_
      refine go_istore_n (pc := 49) (i := 2) (L' := [some (.ref 91), some (.int a1), some (.int (0 : Int32)), none]) d_Mod_markLive_49 rfl (by decide) rfl ?_
      obtain ⟨n, hk⟩ := hk
      refine g_Mod_markLive_50  (fun v12 μ13 hk => ?_) n _ _ hk
      · try dsimp only at hk
        refine go_aload_n (pc := 80) (i := 0) d_Mod_markLive_80 rfl rfl ?_
        refine go_getR (pc := 81) (r := 112) sh_model rfl fl_Mod_71 d_Mod_markLive_81 ?_
        refine go_iload_n (pc := 84) (i := 1) d_Mod_markLive_84 rfl rfl ?_
        obtain ⟨hi14, hk⟩ := hk
        refine go_aldI (pc := 85) sh_m_height hi14 d_Mod_markLive_85 ?_
        refine go_if_ne (pc := 86) (tgt := 93) d_Mod_markLive_86 rfl (fun h86 => ?_) (fun h86 => ?_)
        · replace hk := hk.1 h86
          refine go_aload_n (pc := 93) (i := 0) d_Mod_markLive_93 rfl rfl ?_
          refine go_getR (pc := 94) (r := 94) sh_model rfl fl_Mod_16 d_Mod_markLive_94 ?_
          refine go_bipush (pc := 97) (v := 24) d_Mod_markLive_97 (by decide) ?_
          refine go_aload_n (pc := 99) (i := 0) d_Mod_markLive_99 rfl rfl ?_
          refine go_getR (pc := 100) (r := 107) sh_model rfl fl_Mod_56 d_Mod_markLive_100 ?_
          refine go_iload_n (pc := 103) (i := 1) d_Mod_markLive_103 rfl rfl ?_
          obtain ⟨hi15, hk⟩ := hk
          refine go_aldI (pc := 104) sh_m_program hi15 d_Mod_markLive_104 ?_
          refine go_imul (pc := 105) d_Mod_markLive_105 ?_
          refine go_aload_n (pc := 106) (i := 0) d_Mod_markLive_106 rfl rfl ?_
          refine go_getR (pc := 107) (r := 108) sh_model rfl fl_Mod_59 d_Mod_markLive_107 ?_
          refine go_iload_n (pc := 110) (i := 1) d_Mod_markLive_110 rfl rfl ?_
          obtain ⟨hi16, hk⟩ := hk
          refine go_aldI (pc := 111) sh_m_position hi16 d_Mod_markLive_111 ?_
          refine go_iadd (pc := 112) d_Mod_markLive_112 ?_
          obtain ⟨hi17, hk⟩ := hk
          refine go_aldI (pc := 113) sh_m_shapes hi17 d_Mod_markLive_113 ?_
          refine go_weak (L' := [some (.ref 91), some (.int a1), none, none]) (lle_at (by simp [lle])) ?_
          exact g_Mod_markLive_j114   hk
        · replace hk := hk.2 h86
          refine go_iconst (pc := 89) (v := 1) d_Mod_markLive_89 (by decide) ?_
          refine go_goto (pc := 90) (tgt := 114) d_Mod_markLive_90 rfl ?_
          refine go_weak (L' := [some (.ref 91), some (.int a1), none, none]) (lle_at (by simp [lle])) ?_
          exact g_Mod_markLive_j114   hk
def wp_Mod_room_39 (w1 : Int32) (w2 : Int32) (K0 : Int32 → Mu → Prop) (Q : Int32 → Mu → Prop) : Nat → Int32 → Mu → Prop
  | 0, _, _ => False
  | n39 + 1, v3, μ => ((((((24 : Int32) * w1) + (24 : Int32)) ≤ v3) → K0 v3 μ) ∧ ((¬ (((24 : Int32) * w1) + (24 : Int32)) ≤ v3) → (vp_in v3 104 ∧ ((((μ.2.1 97 (Int32.toNatClampNeg v3)) = 0) → (vp_in v3 104 ∧ ∀ μ10 : Mu, μ10 = setA μ 97 (Int32.toNatClampNeg v3) (0 : Int32) → wp_Mod_room_39 w1 w2 K0 Q n39 (v3 + 1) μ10)) ∧ ((¬ (μ.2.1 97 (Int32.toNatClampNeg v3)) = 0) → (vp_in v3 104 ∧ ((((μ.2.1 101 (Int32.toNatClampNeg v3)) = 0) → (vp_in v3 104 ∧ ∀ μ13 : Mu, μ13 = setA μ 97 (Int32.toNatClampNeg v3) (0 : Int32) → wp_Mod_room_39 w1 w2 K0 Q n39 (v3 + 1) μ13)) ∧ ((¬ (μ.2.1 101 (Int32.toNatClampNeg v3)) = 0) → (vp_in v3 104 ∧ ∀ μ15 : Mu, μ15 = setA μ 97 (Int32.toNatClampNeg v3) (1 : Int32) → wp_Mod_room_39 w1 w2 K0 Q n39 (v3 + 1) μ15)))))))))
set_option maxRecDepth 100000 in
set_option maxHeartbeats 4000000 in
theorem g_Mod_room_39 {l : Launch} {w1 : Int32} {w2 : Int32}  {K0 : Int32 → Mu → Prop} {Q : Int32 → Mu → Prop} (hK0 : ∀ (v3 : Int32) (μ : Mu), K0 v3 μ → Go (mE l) mt_Mod_room false (rmd 3) 0 0 85 [some (.ref 91), some (.int w1), some (.int w2), some (.int v3)] [] (lay μ) (PI Q)) : ∀ (n : Nat) (v3 : Int32) (μ : Mu), wp_Mod_room_39 w1 w2 K0 Q n v3 μ → Go (mE l) mt_Mod_room false (rmd 3) 0 0 39 [some (.ref 91), some (.int w1), some (.int w2), some (.int v3)] [] (lay μ) (PI Q) := by
  intro n
  induction n with
  | zero => intro v3 μ hk; exact hk.elim
  | succ n ih =>
    intro v3 μ hk
    unfold wp_Mod_room_39 at hk
    refine go_iload_n (pc := 39) (i := 3) d_Mod_room_39 rfl rfl ?_
    refine go_bipush (pc := 40) (v := 24) d_Mod_room_40 (by decide) ?_
    refine go_iload_n (pc := 42) (i := 1) d_Mod_room_42 rfl rfl ?_
    refine go_imul (pc := 43) d_Mod_room_43 ?_
    refine go_bipush (pc := 44) (v := 24) d_Mod_room_44 (by decide) ?_
    refine go_iadd (pc := 46) d_Mod_room_46 ?_
    refine go_icmp_ge (pc := 47) (tgt := 85) d_Mod_room_47 rfl (fun h47 => ?_) (fun h47 => ?_)
    · replace hk := hk.1 h47
      exact hK0 _ _ hk
    · replace hk := hk.2 h47
      refine go_aload_n (pc := 50) (i := 0) d_Mod_room_50 rfl rfl ?_
      refine go_getR (pc := 51) (r := 97) sh_model rfl fl_Mod_26 d_Mod_room_51 ?_
      refine go_iload_n (pc := 54) (i := 3) d_Mod_room_54 rfl rfl ?_
      refine go_aload_n (pc := 55) (i := 0) d_Mod_room_55 rfl rfl ?_
      refine go_getR (pc := 56) (r := 97) sh_model rfl fl_Mod_26 d_Mod_room_56 ?_
      refine go_iload_n (pc := 59) (i := 3) d_Mod_room_59 rfl rfl ?_
      obtain ⟨hi8, hk⟩ := hk
      refine go_aldZ (pc := 60) sh_m_there hi8 d_Mod_room_60 ?_
      refine go_if_eq (pc := 61) (tgt := 77) d_Mod_room_61 rfl (fun h61 => ?_) (fun h61 => ?_)
      · replace hk := hk.1 h61
        refine go_iconst (pc := 77) (v := 0) d_Mod_room_77 (by decide) ?_
        obtain ⟨hi9, hk⟩ := hk
        refine go_astZn (pc := 78) (by decide) sh_m_there hi9 d_Mod_room_78 (fun μ10 e10 => ?_)
        replace hk := hk μ10 e10
        refine go_iinc (pc := 79) (v := (v3 + 1)) (L' := [some (.ref 91), some (.int w1), some (.int w2), some (.int (v3 + 1))]) d_Mod_room_79 rfl rfl (by decide) rfl ?_
        refine go_goto (pc := 82) (tgt := 39) d_Mod_room_82 rfl ?_
        exact ih _ _ hk
      · replace hk := hk.2 h61
        refine go_aload_n (pc := 64) (i := 0) d_Mod_room_64 rfl rfl ?_
        refine go_getR (pc := 65) (r := 101) sh_model rfl fl_Mod_38 d_Mod_room_65 ?_
        refine go_iload_n (pc := 68) (i := 3) d_Mod_room_68 rfl rfl ?_
        obtain ⟨hi11, hk⟩ := hk
        refine go_aldZ (pc := 69) sh_m_mark hi11 d_Mod_room_69 ?_
        refine go_if_eq (pc := 70) (tgt := 77) d_Mod_room_70 rfl (fun h70 => ?_) (fun h70 => ?_)
        · replace hk := hk.1 h70
          refine go_iconst (pc := 77) (v := 0) d_Mod_room_77 (by decide) ?_
          obtain ⟨hi12, hk⟩ := hk
          refine go_astZn (pc := 78) (by decide) sh_m_there hi12 d_Mod_room_78 (fun μ13 e13 => ?_)
          replace hk := hk μ13 e13
          refine go_iinc (pc := 79) (v := (v3 + 1)) (L' := [some (.ref 91), some (.int w1), some (.int w2), some (.int (v3 + 1))]) d_Mod_room_79 rfl rfl (by decide) rfl ?_
          refine go_goto (pc := 82) (tgt := 39) d_Mod_room_82 rfl ?_
          exact ih _ _ hk
        · replace hk := hk.2 h70
          refine go_iconst (pc := 73) (v := 1) d_Mod_room_73 (by decide) ?_
          refine go_goto (pc := 74) (tgt := 78) d_Mod_room_74 rfl ?_
          obtain ⟨hi14, hk⟩ := hk
          refine go_astZn (pc := 78) (by decide) sh_m_there hi14 d_Mod_room_78 (fun μ15 e15 => ?_)
          replace hk := hk μ15 e15
          refine go_iinc (pc := 79) (v := (v3 + 1)) (L' := [some (.ref 91), some (.int w1), some (.int w2), some (.int (v3 + 1))]) d_Mod_room_79 rfl rfl (by decide) rfl ?_
          refine go_goto (pc := 82) (tgt := 39) d_Mod_room_82 rfl ?_
          exact ih _ _ hk
def wp_Mod_room (a1 : Int32) (a2 : Int32) (μ : Mu) (Q : Int32 → Mu → Prop) : Prop := wp_Mod_counted a1 (0 : Int32) μ (fun x2 μ1 => (vp_in a1 4 ∧ ((((μ1.2.1 104 (Int32.toNatClampNeg a1)) < (x2 + a2)) → wp_Mod_markLive a1 μ1 (fun μ4 => (vp_in a1 4 ∧ (vp_in a1 4 ∧ ∀ μ7 : Mu, μ7 = setA μ4 110 (Int32.toNatClampNeg a1) ((μ4.2.1 110 (Int32.toNatClampNeg a1)) + (1 : Int32)) → (∃ n39, wp_Mod_room_39 a1 a2 (fun v16 μ17 => wp_Mod_counted a1 (0 : Int32) μ17 (fun x19 μ18 => (vp_in a1 4 ∧ ((((μ18.2.1 104 (Int32.toNatClampNeg a1)) < (x19 + a2)) → Q (0 : Int32) μ18) ∧ ((¬ (μ18.2.1 104 (Int32.toNatClampNeg a1)) < (x19 + a2)) → Q (1 : Int32) μ18))))) Q n39 ((24 : Int32) * a1) μ7))))) ∧ ((¬ (μ1.2.1 104 (Int32.toNatClampNeg a1)) < (x2 + a2)) → Q (1 : Int32) μ1))))
set_option maxRecDepth 100000 in
set_option maxHeartbeats 4000000 in
theorem m_Mod_room {l : Launch} {a1 : Int32} {a2 : Int32}  {μ : Mu} {Q : Int32 → Mu → Prop} (hk : wp_Mod_room a1 a2 μ Q) : Mets (mE l) mt_Mod_room false (rmd 3) [.ref 91, .int a1, .int a2] (lay μ) (PI Q) := by
  unfold wp_Mod_room at hk
  refine mets_of (L := [some (.ref 91), some (.int a1), some (.int a2), none]) (by decide) (Nat.le_of_ble_eq_true rfl) rfl ?_
  refine go_aload_n (pc := 0) (i := 0) d_Mod_room_0 rfl rfl ?_
  refine go_iload_n (pc := 1) (i := 1) d_Mod_room_1 rfl rfl ?_
  refine go_iconst (pc := 2) (v := 0) d_Mod_room_2 (by decide) ?_
  refine go_callV (pc := 3) (m_Mod_counted  hk) cz_Mod_counted cv_Mod_counted (Or.inl lk_Mod_147) (lay_at sh_model) rfl rfl rfl (Nat.le_of_ble_eq_true rfl) ⟨by decide, by decide⟩ rfl rfl d_Mod_room_3 (fun r M' hr => ?_)
  obtain ⟨x2, μ1, rfl, rfl, hk⟩ := hr
  try dsimp only [Option.toList, List.cons_append, List.nil_append]
  refine go_iload_n (pc := 6) (i := 2) d_Mod_room_6 rfl rfl ?_
  refine go_iadd (pc := 7) d_Mod_room_7 ?_
  refine go_aload_n (pc := 8) (i := 0) d_Mod_room_8 rfl rfl ?_
  refine go_getR (pc := 9) (r := 104) sh_model rfl fl_Mod_47 d_Mod_room_9 ?_
  refine go_iload_n (pc := 12) (i := 1) d_Mod_room_12 rfl rfl ?_
  obtain ⟨hi3, hk⟩ := hk
  refine go_aldI (pc := 13) sh_m_cells hi3 d_Mod_room_13 ?_
  refine go_icmp_gt (pc := 14) (tgt := 19) d_Mod_room_14 rfl (fun h14 => ?_) (fun h14 => ?_)
  · replace hk := hk.1 h14
    refine go_aload_n (pc := 19) (i := 0) d_Mod_room_19 rfl rfl ?_
    refine go_iload_n (pc := 20) (i := 1) d_Mod_room_20 rfl rfl ?_
    refine go_callV (pc := 21) (m_Mod_markLive  hk) cz_Mod_markLive cv_Mod_markLive (Or.inl lk_Mod_151) (lay_at sh_model) rfl rfl rfl (Nat.le_of_ble_eq_true rfl) ⟨by decide, by decide⟩ rfl rfl d_Mod_room_21 (fun r M' hr => ?_)
    obtain ⟨μ4, rfl, rfl, hk⟩ := hr
    try dsimp only [Option.toList, List.cons_append, List.nil_append]
    refine go_aload_n (pc := 24) (i := 0) d_Mod_room_24 rfl rfl ?_
    refine go_getR (pc := 25) (r := 110) sh_model rfl fl_Mod_65 d_Mod_room_25 ?_
    refine go_iload_n (pc := 28) (i := 1) d_Mod_room_28 rfl rfl ?_
    refine go_dup2 (pc := 29) d_Mod_room_29 rfl rfl ?_
    obtain ⟨hi5, hk⟩ := hk
    refine go_aldI (pc := 30) sh_m_collects hi5 d_Mod_room_30 ?_
    refine go_iconst (pc := 31) (v := 1) d_Mod_room_31 (by decide) ?_
    refine go_iadd (pc := 32) d_Mod_room_32 ?_
    obtain ⟨hi6, hk⟩ := hk
    refine go_astIn (pc := 33) sh_m_collects hi6 d_Mod_room_33 (fun μ7 e7 => ?_)
    replace hk := hk μ7 e7
    refine go_bipush (pc := 34) (v := 24) d_Mod_room_34 (by decide) ?_
    refine go_iload_n (pc := 36) (i := 1) d_Mod_room_36 rfl rfl ?_
    refine go_imul (pc := 37) d_Mod_room_37 ?_
    refine go_istore_n (pc := 38) (i := 3) (L' := [some (.ref 91), some (.int a1), some (.int a2), some (.int ((24 : Int32) * a1))]) d_Mod_room_38 rfl (by decide) rfl ?_
    obtain ⟨n, hk⟩ := hk
    refine g_Mod_room_39  (fun v16 μ17 hk => ?_) n _ _ hk
    · try dsimp only at hk
      refine go_aload_n (pc := 85) (i := 0) d_Mod_room_85 rfl rfl ?_
      refine go_iload_n (pc := 86) (i := 1) d_Mod_room_86 rfl rfl ?_
      refine go_iconst (pc := 87) (v := 0) d_Mod_room_87 (by decide) ?_
      refine go_callV (pc := 88) (m_Mod_counted  hk) cz_Mod_counted cv_Mod_counted (Or.inl lk_Mod_147) (lay_at sh_model) rfl rfl rfl (Nat.le_of_ble_eq_true rfl) ⟨by decide, by decide⟩ rfl rfl d_Mod_room_88 (fun r M' hr => ?_)
      obtain ⟨x19, μ18, rfl, rfl, hk⟩ := hr
      try dsimp only [Option.toList, List.cons_append, List.nil_append]
      refine go_iload_n (pc := 91) (i := 2) d_Mod_room_91 rfl rfl ?_
      refine go_iadd (pc := 92) d_Mod_room_92 ?_
      refine go_aload_n (pc := 93) (i := 0) d_Mod_room_93 rfl rfl ?_
      refine go_getR (pc := 94) (r := 104) sh_model rfl fl_Mod_47 d_Mod_room_94 ?_
      refine go_iload_n (pc := 97) (i := 1) d_Mod_room_97 rfl rfl ?_
      obtain ⟨hi20, hk⟩ := hk
      refine go_aldI (pc := 98) sh_m_cells hi20 d_Mod_room_98 ?_
      refine go_icmp_gt (pc := 99) (tgt := 106) d_Mod_room_99 rfl (fun h99 => ?_) (fun h99 => ?_)
      · replace hk := hk.1 h99
        refine go_iconst (pc := 106) (v := 0) d_Mod_room_106 (by decide) ?_
        exact go_ret (pc := 107) (r := some (.int (0 : Int32))) ⟨nar_zv (by decide), d_Mod_room_107⟩ ⟨_, _, rfl, rfl, hk⟩
      · replace hk := hk.2 h99
        refine go_iconst (pc := 102) (v := 1) d_Mod_room_102 (by decide) ?_
        refine go_goto (pc := 103) (tgt := 107) d_Mod_room_103 rfl ?_
        exact go_ret (pc := 107) (r := some (.int (1 : Int32))) ⟨nar_zv (by decide), d_Mod_room_107⟩ ⟨_, _, rfl, rfl, hk⟩
  · replace hk := hk.2 h14
    refine go_iconst (pc := 17) (v := 1) d_Mod_room_17 (by decide) ?_
    exact go_ret (pc := 18) (r := some (.int (1 : Int32))) ⟨nar_zv (by decide), d_Mod_room_18⟩ ⟨_, _, rfl, rfl, hk⟩
