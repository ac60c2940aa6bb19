def wp_Heap_fits (k0 : Nat) (a1 : Int32) (μ : Mu) (Q : Int32 → Mu → Prop) : Prop := wp_JL_bitCount (μ.2.2 (24 + 17 * k0)) μ (fun x2 μ1 => ((((μ1.1 (24 + 17 * k0) 5) < (x2 + a1)) → Q (0 : Int32) μ1) ∧ ((¬ (μ1.1 (24 + 17 * k0) 5) < (x2 + a1)) → Q (1 : Int32) μ1)))
set_option maxRecDepth 100000 in
set_option maxHeartbeats 4000000 in
theorem m_Heap_fits {l : Launch} {k0 : Nat} {a1 : Int32} (hk0 : k0 < 4) {μ : Mu} {Q : Int32 → Mu → Prop} (hk : wp_Heap_fits k0 a1 μ Q) : Mets (mE l) mt_Heap_fits false (rmd 1) [.ref (24 + 17 * k0), .int a1] (lay μ) (PI Q) := by
  unfold wp_Heap_fits at hk
  refine mets_of (L := [some (.ref (24 + 17 * k0)), some (.int a1)]) (by decide) (Nat.le_of_ble_eq_true rfl) rfl ?_
  refine go_aload_n (pc := 0) (i := 0) d_Heap_fits_0 rfl rfl ?_
  refine go_getJ (pc := 1) (sh_heap hk0) rfl fl_Heap_24 d_Heap_fits_1 ?_
  refine go_callS (pc := 4) (m_JL_bitCount  hk) cz_JL_bitCount sm_JL_bitCount (Or.inl lk_Heap_35) rfl rfl (Nat.le_of_ble_eq_true rfl) ⟨by decide, by decide⟩ rfl rfl d_Heap_fits_4 (fun r M' hr => ?_)
  obtain ⟨x2, μ1, rfl, rfl, hk⟩ := hr
  try dsimp only [Option.toList, List.cons_append, List.nil_append]
  refine go_iload_n (pc := 7) (i := 1) d_Heap_fits_7 rfl rfl ?_
  refine go_iadd (pc := 8) d_Heap_fits_8 ?_
  refine go_aload_n (pc := 9) (i := 0) d_Heap_fits_9 rfl rfl ?_
  refine go_getI (pc := 10) (sh_heap hk0) rfl fl_Heap_28 d_Heap_fits_10 ?_
  refine go_icmp_gt (pc := 13) (tgt := 20) d_Heap_fits_13 rfl (fun h13 => ?_) (fun h13 => ?_)
  · replace hk := hk.1 h13
    refine go_iconst (pc := 20) (v := 0) d_Heap_fits_20 (by decide) ?_
    exact go_ret (pc := 21) (r := some (.int (0 : Int32))) ⟨nar_zv (by decide), d_Heap_fits_21⟩ ⟨_, _, rfl, rfl, hk⟩
  · replace hk := hk.2 h13
    refine go_iconst (pc := 16) (v := 1) d_Heap_fits_16 (by decide) ?_
    refine go_goto (pc := 17) (tgt := 21) d_Heap_fits_17 rfl ?_
    exact go_ret (pc := 21) (r := some (.int (1 : Int32))) ⟨nar_zv (by decide), d_Heap_fits_21⟩ ⟨_, _, rfl, rfl, hk⟩
def wp_Heap_keepOnly (k0 : Nat) (a1 : Int64) (μ : Mu) (Q : Mu → Prop) : Prop := ∀ μ1 : Mu, μ1 = setJ μ (24 + 17 * k0) ((μ.2.2 (24 + 17 * k0)) &&& a1) → ∀ μ2 : Mu, μ2 = setF μ1 (24 + 17 * k0) 6 ((μ1.1 (24 + 17 * k0) 6) + (1 : Int32)) → Q μ2
set_option maxRecDepth 100000 in
set_option maxHeartbeats 4000000 in
theorem m_Heap_keepOnly {l : Launch} {k0 : Nat} {a1 : Int64} (hk0 : k0 < 4) {μ : Mu} {Q : Mu → Prop} (hk : wp_Heap_keepOnly k0 a1 μ Q) : Mets (mE l) mt_Heap_keepOnly false (rmd 0) [.ref (24 + 17 * k0), .long a1] (lay μ) (PV Q) := by
  unfold wp_Heap_keepOnly at hk
  refine mets_of (L := [some (.ref (24 + 17 * k0)), some (.long a1), none]) (by decide) (Nat.le_of_ble_eq_true rfl) rfl ?_
  refine go_aload_n (pc := 0) (i := 0) d_Heap_keepOnly_0 rfl rfl ?_
  refine go_dup (pc := 1) d_Heap_keepOnly_1 rfl ?_
  refine go_getJ (pc := 2) (sh_heap hk0) rfl fl_Heap_24 d_Heap_keepOnly_2 ?_
  refine go_lload_n (pc := 5) (i := 1) d_Heap_keepOnly_5 rfl rfl ?_
  refine go_land (pc := 6) d_Heap_keepOnly_6 ?_
  refine go_putM (pc := 7) hk0 (fp_Heap_24 rfl) d_Heap_keepOnly_7 (fun μ1 e1 => ?_)
  replace hk := hk μ1 e1
  refine go_aload_n (pc := 10) (i := 0) d_Heap_keepOnly_10 rfl rfl ?_
  refine go_dup (pc := 11) d_Heap_keepOnly_11 rfl ?_
  refine go_getI (pc := 12) (sh_heap hk0) rfl fl_Heap_32 d_Heap_keepOnly_12 ?_
  refine go_iconst (pc := 15) (v := 1) d_Heap_keepOnly_15 (by decide) ?_
  refine go_iadd (pc := 16) d_Heap_keepOnly_16 ?_
  refine go_putIn (pc := 17) (sh_heap hk0) rfl (fp_Heap_32 rfl) d_Heap_keepOnly_17 (fun μ2 e2 => ?_)
  replace hk := hk μ2 e2
  exact go_ret (pc := 20) (r := none) d_Heap_keepOnly_20 ⟨_, rfl, rfl, hk⟩
def wp_Heap_reachedFrom_33 (u0 : Nat) (w5 : Int64) (w7 : Int32) (K0 : Int64 → Int32 → Mu → Prop) (Q : Int64 → Mu → Prop) : Nat → Int64 → Int32 → Mu → Prop
  | 0, _, _, _ => False
  | n33 + 1, v3, v8, μ => ((((33 : Int32) ≤ v8) → K0 v3 v8 μ) ∧ ((¬ (33 : Int32) ≤ v8) → wp_Heap_isIn v3 v8 μ (fun x2 μ1 => (((x2 = 0) → wp_Heap_reachedFrom_33 u0 w5 w7 K0 Q n33 v3 (v8 + 1) μ1) ∧ ((¬ x2 = 0) → (vp_in v8 33 ∧ (vp_in v8 33 ∧ wp_Heap_reachedFrom_33 u0 w5 w7 K0 Q n33 (v3 ||| ((((1 : Int64) <<< (Int32.toInt64 (μ1.2.1 (26 + 17 * u0) (Int32.toNatClampNeg v8)) &&& 63)) ||| ((1 : Int64) <<< (Int32.toInt64 (μ1.2.1 (27 + 17 * u0) (Int32.toNatClampNeg v8)) &&& 63))) &&& (8589934080 : Int64))) (v8 + 1) μ1)))))))
set_option maxRecDepth 100000 in
set_option maxHeartbeats 4000000 in
theorem g_Heap_reachedFrom_33 {l : Launch} {u0 : Nat} {w5 : Int64} {w7 : Int32} (hu0 : u0 < 4) {K0 : Int64 → Int32 → Mu → Prop} {Q : Int64 → Mu → Prop} (hK0 : ∀ (v3 : Int64) (v8 : Int32) (μ : Mu), K0 v3 v8 μ → Go (mE l) mt_Heap_reachedFrom false (rmd 1) 0 0 81 [some (.ref (24 + 17 * u0)), none, none, some (.long v3), none, some (.long w5), none, some (.int w7), some (.int v8)] [] (lay μ) (PJ Q)) : ∀ (n : Nat) (v3 : Int64) (v8 : Int32) (μ : Mu), wp_Heap_reachedFrom_33 u0 w5 w7 K0 Q n v3 v8 μ → Go (mE l) mt_Heap_reachedFrom false (rmd 1) 0 0 33 [some (.ref (24 + 17 * u0)), none, none, some (.long v3), none, some (.long w5), none, some (.int w7), some (.int v8)] [] (lay μ) (PJ Q) := by
  intro n
  induction n with
  | zero => intro v3 v8 μ hk; exact hk.elim
  | succ n ih =>
    intro v3 v8 μ hk
    unfold wp_Heap_reachedFrom_33 at hk
    refine go_iload (pc := 33) d_Heap_reachedFrom_33 rfl ?_
    refine go_bipush (pc := 35) (v := 33) d_Heap_reachedFrom_35 (by decide) ?_
    refine go_icmp_ge (pc := 37) (tgt := 81) d_Heap_reachedFrom_37 rfl (fun h37 => ?_) (fun h37 => ?_)
    · replace hk := hk.1 h37
      exact hK0 _ _ _ hk
    · replace hk := hk.2 h37
      refine go_lload_n (pc := 40) (i := 3) d_Heap_reachedFrom_40 rfl rfl ?_
      refine go_iload (pc := 41) d_Heap_reachedFrom_41 rfl ?_
      refine go_callS (pc := 43) (m_Heap_isIn  hk) cz_Heap_isIn sm_Heap_isIn (Or.inl lk_Heap_41) rfl rfl (Nat.le_of_ble_eq_true rfl) ⟨by decide, by decide⟩ rfl rfl d_Heap_reachedFrom_43 (fun r M' hr => ?_)
      obtain ⟨x2, μ1, rfl, rfl, hk⟩ := hr
      try dsimp only [Option.toList, List.cons_append, List.nil_append]
      refine go_if_eq (pc := 46) (tgt := 75) d_Heap_reachedFrom_46 rfl (fun h46 => ?_) (fun h46 => ?_)
      · replace hk := hk.1 h46
        refine go_iinc (pc := 75) (v := (v8 + 1)) (L' := [some (.ref (24 + 17 * u0)), none, none, some (.long v3), none, some (.long w5), none, some (.int w7), some (.int (v8 + 1))]) d_Heap_reachedFrom_75 rfl rfl (by decide) rfl ?_
        refine go_goto (pc := 78) (tgt := 33) d_Heap_reachedFrom_78 rfl ?_
        exact ih _ _ _ hk
      · replace hk := hk.2 h46
        refine go_lload_n (pc := 49) (i := 3) d_Heap_reachedFrom_49 rfl rfl ?_
        refine go_lconst (pc := 50) (v := 1) d_Heap_reachedFrom_50 (by decide) ?_
        refine go_aload_n (pc := 51) (i := 0) d_Heap_reachedFrom_51 rfl rfl ?_
        refine go_getR (pc := 52) (r := 26 + 17 * u0) (sh_heap hu0) rfl fl_Heap_15 d_Heap_reachedFrom_52 ?_
        refine go_iload (pc := 55) d_Heap_reachedFrom_55 rfl ?_
        obtain ⟨hi3, hk⟩ := hk
        refine go_aldI (pc := 57) (sh_lefts hu0) hi3 d_Heap_reachedFrom_57 ?_
        refine go_lshl (pc := 58) d_Heap_reachedFrom_58 ?_
        refine go_lconst (pc := 59) (v := 1) d_Heap_reachedFrom_59 (by decide) ?_
        refine go_aload_n (pc := 60) (i := 0) d_Heap_reachedFrom_60 rfl rfl ?_
        refine go_getR (pc := 61) (r := 27 + 17 * u0) (sh_heap hu0) rfl fl_Heap_18 d_Heap_reachedFrom_61 ?_
        refine go_iload (pc := 64) d_Heap_reachedFrom_64 rfl ?_
        obtain ⟨hi4, hk⟩ := hk
        refine go_aldI (pc := 66) (sh_rights hu0) hi4 d_Heap_reachedFrom_66 ?_
        refine go_lshl (pc := 67) d_Heap_reachedFrom_67 ?_
        refine go_lor (pc := 68) d_Heap_reachedFrom_68 ?_
        refine go_ldc2 (pc := 69) (v := 8589934080) kc_Heap_49 d_Heap_reachedFrom_69 ?_
        refine go_land (pc := 72) d_Heap_reachedFrom_72 ?_
        refine go_lor (pc := 73) d_Heap_reachedFrom_73 ?_
        refine go_lstore_n (pc := 74) (i := 3) (L' := [some (.ref (24 + 17 * u0)), none, none, some (.long (v3 ||| ((((1 : Int64) <<< (Int32.toInt64 (μ1.2.1 (26 + 17 * u0) (Int32.toNatClampNeg v8)) &&& 63)) ||| ((1 : Int64) <<< (Int32.toInt64 (μ1.2.1 (27 + 17 * u0) (Int32.toNatClampNeg v8)) &&& 63))) &&& (8589934080 : Int64)))), none, some (.long w5), none, some (.int w7), some (.int v8)]) d_Heap_reachedFrom_74 rfl (by decide) rfl ?_
        refine go_iinc (pc := 75) (v := (v8 + 1)) (L' := [some (.ref (24 + 17 * u0)), none, none, some (.long (v3 ||| ((((1 : Int64) <<< (Int32.toInt64 (μ1.2.1 (26 + 17 * u0) (Int32.toNatClampNeg v8)) &&& 63)) ||| ((1 : Int64) <<< (Int32.toInt64 (μ1.2.1 (27 + 17 * u0) (Int32.toNatClampNeg v8)) &&& 63))) &&& (8589934080 : Int64)))), none, some (.long w5), none, some (.int w7), some (.int (v8 + 1))]) d_Heap_reachedFrom_75 rfl rfl (by decide) rfl ?_
        refine go_goto (pc := 78) (tgt := 33) d_Heap_reachedFrom_78 rfl ?_
        exact ih _ _ _ hk
def wp_Heap_reachedFrom_12 (u0 : Nat) (K0 : Int64 → Int64 → Int32 → Mu → Prop) (Q : Int64 → Mu → Prop) : Nat → Int64 → Int64 → Int32 → Mu → Prop
  | 0, _, _, _, _ => False
  | n12 + 1, v3, v5, v7, μ => ((((24 : Int32) < v7) → K0 v3 v5 v7 μ) ∧ ((¬ (24 : Int32) < v7) → ((((lg_cmp v3 v5) = 0) → K0 v3 v5 v7 μ) ∧ ((¬ (lg_cmp v3 v5) = 0) → (∃ n33, wp_Heap_reachedFrom_33 u0 v3 v7 (fun v5 v6 μ7 => wp_Heap_reachedFrom_12 u0 K0 Q n12 v5 v3 (v7 + 1) μ7) Q n33 v3 (9 : Int32) μ)))))
set_option maxRecDepth 100000 in
set_option maxHeartbeats 4000000 in
theorem g_Heap_reachedFrom_12 {l : Launch} {u0 : Nat} (hu0 : u0 < 4) {K0 : Int64 → Int64 → Int32 → Mu → Prop} {Q : Int64 → Mu → Prop} (hK0 : ∀ (v3 : Int64) (v5 : Int64) (v7 : Int32) (μ : Mu), K0 v3 v5 v7 μ → Go (mE l) mt_Heap_reachedFrom false (rmd 1) 0 0 87 [some (.ref (24 + 17 * u0)), none, none, some (.long v3), none, some (.long v5), none, some (.int v7), none] [] (lay μ) (PJ Q)) : ∀ (n : Nat) (v3 : Int64) (v5 : Int64) (v7 : Int32) (μ : Mu), wp_Heap_reachedFrom_12 u0 K0 Q n v3 v5 v7 μ → Go (mE l) mt_Heap_reachedFrom false (rmd 1) 0 0 12 [some (.ref (24 + 17 * u0)), none, none, some (.long v3), none, some (.long v5), none, some (.int v7), none] [] (lay μ) (PJ Q) := by
  intro n
  induction n with
  | zero => intro v3 v5 v7 μ hk; exact hk.elim
  | succ n ih =>
    intro v3 v5 v7 μ hk
    unfold wp_Heap_reachedFrom_12 at hk
    refine go_iload (pc := 12) d_Heap_reachedFrom_12 rfl ?_
    refine go_bipush (pc := 14) (v := 24) d_Heap_reachedFrom_14 (by decide) ?_
    refine go_icmp_gt (pc := 16) (tgt := 87) d_Heap_reachedFrom_16 rfl (fun h16 => ?_) (fun h16 => ?_)
    · replace hk := hk.1 h16
      exact hK0 _ _ _ _ hk
    · replace hk := hk.2 h16
      refine go_lload_n (pc := 19) (i := 3) d_Heap_reachedFrom_19 rfl rfl ?_
      refine go_lload (pc := 20) d_Heap_reachedFrom_20 rfl ?_
      refine go_lcmp (pc := 22) d_Heap_reachedFrom_22 ?_
      refine go_if_eq (pc := 23) (tgt := 87) d_Heap_reachedFrom_23 rfl (fun h23 => ?_) (fun h23 => ?_)
      · replace hk := hk.1 h23
        exact hK0 _ _ _ _ hk
      · replace hk := hk.2 h23
        refine go_lload_n (pc := 26) (i := 3) d_Heap_reachedFrom_26 rfl rfl ?_
        refine go_lstore (pc := 27) (L' := [some (.ref (24 + 17 * u0)), none, none, some (.long v3), none, some (.long v3), none, some (.int v7), none]) d_Heap_reachedFrom_27 (by decide) rfl ?_
        refine go_bipush (pc := 29) (v := 9) d_Heap_reachedFrom_29 (by decide) ?_
        refine go_istore (pc := 31) (L' := [some (.ref (24 + 17 * u0)), none, none, some (.long v3), none, some (.long v3), none, some (.int v7), some (.int (9 : Int32))]) d_Heap_reachedFrom_31 (by decide) rfl ?_
        obtain ⟨n, hk⟩ := hk
        refine g_Heap_reachedFrom_33 hu0 (fun v5 v6 μ7 hk => ?_) n _ _ _ hk
        · try dsimp only at hk
          refine go_iinc (pc := 81) (v := (v7 + 1)) (L' := [some (.ref (24 + 17 * u0)), none, none, some (.long v5), none, some (.long v3), none, some (.int (v7 + 1)), some (.int v6)]) d_Heap_reachedFrom_81 rfl rfl (by decide) rfl ?_
          refine go_goto (pc := 84) (tgt := 12) d_Heap_reachedFrom_84 rfl ?_
          refine go_weak (L' := [some (.ref (24 + 17 * u0)), none, none, some (.long v5), none, some (.long v3), none, some (.int (v7 + 1)), none]) (lle_at (by simp [lle])) ?_
          exact ih _ _ _ _ hk
def wp_Heap_reachedFrom (k0 : Nat) (a1 : Int64) (μ : Mu) (Q : Int64 → Mu → Prop) : Prop := (∃ n12, wp_Heap_reachedFrom_12 k0 (fun v8 v9 v10 μ11 => Q v8 μ11) Q n12 (a1 &&& (8589934080 : Int64)) (0 : Int64) (0 : Int32) μ)
set_option maxRecDepth 100000 in
set_option maxHeartbeats 4000000 in
theorem m_Heap_reachedFrom {l : Launch} {k0 : Nat} {a1 : Int64} (hk0 : k0 < 4) {μ : Mu} {Q : Int64 → Mu → Prop} (hk : wp_Heap_reachedFrom k0 a1 μ Q) : Mets (mE l) mt_Heap_reachedFrom false (rmd 1) [.ref (24 + 17 * k0), .long a1] (lay μ) (PJ Q) := by
  unfold wp_Heap_reachedFrom at hk
  refine mets_of (L := [some (.ref (24 + 17 * k0)), some (.long a1), none, none, none, none, none, none, none]) (by decide) (Nat.le_of_ble_eq_true rfl) rfl ?_
  refine go_lload_n (pc := 0) (i := 1) d_Heap_reachedFrom_0 rfl rfl ?_
  refine go_ldc2 (pc := 1) (v := 8589934080) kc_Heap_49 d_Heap_reachedFrom_1 ?_
  refine go_land (pc := 4) d_Heap_reachedFrom_4 ?_
  refine go_lstore_n (pc := 5) (i := 3) (L' := [some (.ref (24 + 17 * k0)), some (.long a1), none, some (.long (a1 &&& (8589934080 : Int64))), none, none, none, none, none]) d_Heap_reachedFrom_5 rfl (by decide) rfl ?_
  refine go_lconst (pc := 6) (v := 0) d_Heap_reachedFrom_6 (by decide) ?_
  refine go_lstore (pc := 7) (L' := [some (.ref (24 + 17 * k0)), some (.long a1), none, some (.long (a1 &&& (8589934080 : Int64))), none, some (.long (0 : Int64)), none, none, none]) d_Heap_reachedFrom_7 (by decide) rfl ?_
  refine go_iconst (pc := 9) (v := 0) d_Heap_reachedFrom_9 (by decide) ?_
  refine go_istore (pc := 10) (L' := [some (.ref (24 + 17 * k0)), some (.long a1), none, some (.long (a1 &&& (8589934080 : Int64))), none, some (.long (0 : Int64)), none, some (.int (0 : Int32)), none]) d_Heap_reachedFrom_10 (by decide) rfl ?_
  obtain ⟨n, hk⟩ := hk
  refine go_weak (L' := [some (.ref (24 + 17 * k0)), none, none, some (.long (a1 &&& (8589934080 : Int64))), none, some (.long (0 : Int64)), none, some (.int (0 : Int32)), none]) (lle_at (by simp [lle])) ?_
  refine g_Heap_reachedFrom_12 hk0 (fun v8 v9 v10 μ11 hk => ?_) n _ _ _ _ hk
  · try dsimp only at hk
    refine go_lload_n (pc := 87) (i := 3) d_Heap_reachedFrom_87 rfl rfl ?_
    exact go_ret (pc := 88) (r := some (.long v8)) d_Heap_reachedFrom_88 ⟨_, _, rfl, rfl, hk⟩
def wp_Line_itemAt (k0 : Nat) (k0n : Nat) (a1 : Int32) (μ : Mu) (Q : Int32 → Mu → Prop) : Prop := (((a1 < 0) → Q (0 : Int32) μ) ∧ ((¬ a1 < 0) → ((((μ.1 k0 1) ≤ a1) → Q (0 : Int32) μ) ∧ ((¬ (μ.1 k0 1) ≤ a1) → (vp_in a1 k0n ∧ Q (μ.2.1 (k0 + 1) (Int32.toNatClampNeg a1)) μ)))))
set_option maxRecDepth 100000 in
set_option maxHeartbeats 4000000 in
theorem m_Line_itemAt {l : Launch} {k0 : Nat} {k0n : Nat} {a1 : Int32} (hk0 : IsLine k0 k0n) {μ : Mu} {Q : Int32 → Mu → Prop} (hk : wp_Line_itemAt k0 k0n a1 μ Q) : Mets (mE l) mt_Line_itemAt false (rmd 0) [.ref k0, .int a1] (lay μ) (PI Q) := by
  unfold wp_Line_itemAt at hk
  refine mets_of (L := [some (.ref k0), some (.int a1)]) (by decide) (Nat.le_of_ble_eq_true rfl) rfl ?_
  refine go_iload_n (pc := 0) (i := 1) d_Line_itemAt_0 rfl rfl ?_
  refine go_if_lt (pc := 1) (tgt := 21) d_Line_itemAt_1 rfl (fun h1 => ?_) (fun h1 => ?_)
  · replace hk := hk.1 h1
    refine go_iconst (pc := 21) (v := 0) d_Line_itemAt_21 (by decide) ?_
    exact go_ret (pc := 22) (r := some (.int (0 : Int32))) d_Line_itemAt_22 ⟨_, _, rfl, rfl, hk⟩
  · replace hk := hk.2 h1
    refine go_iload_n (pc := 4) (i := 1) d_Line_itemAt_4 rfl rfl ?_
    refine go_aload_n (pc := 5) (i := 0) d_Line_itemAt_5 rfl rfl ?_
    refine go_getI (pc := 6) hk0.1 rfl fl_Line_7 d_Line_itemAt_6 ?_
    refine go_icmp_ge (pc := 9) (tgt := 21) d_Line_itemAt_9 rfl (fun h9 => ?_) (fun h9 => ?_)
    · replace hk := hk.1 h9
      refine go_iconst (pc := 21) (v := 0) d_Line_itemAt_21 (by decide) ?_
      exact go_ret (pc := 22) (r := some (.int (0 : Int32))) d_Line_itemAt_22 ⟨_, _, rfl, rfl, hk⟩
    · replace hk := hk.2 h9
      refine go_aload_n (pc := 12) (i := 0) d_Line_itemAt_12 rfl rfl ?_
      refine go_getR (pc := 13) (r := k0 + 1) hk0.1 rfl fl_Line_13 d_Line_itemAt_13 ?_
      refine go_iload_n (pc := 16) (i := 1) d_Line_itemAt_16 rfl rfl ?_
      obtain ⟨hi1, hk⟩ := hk
      refine go_aldI (pc := 17) hk0.2 hi1 d_Line_itemAt_17 ?_
      refine go_goto (pc := 18) (tgt := 22) d_Line_itemAt_18 rfl ?_
      exact go_ret (pc := 22) (r := some (.int (μ.2.1 (k0 + 1) (Int32.toNatClampNeg a1)))) d_Line_itemAt_22 ⟨_, _, rfl, rfl, hk⟩
def wp_Stk_cells_4 (u0 : Nat) (K0 : Int64 → Int32 → Mu → Prop) (Q : Int64 → Mu → Prop) : Nat → Int64 → Int32 → Mu → Prop
  | 0, _, _, _ => False
  | n4 + 1, v1, v3, μ => ((((μ.1 (29 + 17 * u0) 2) ≤ v3) → K0 v1 v3 μ) ∧ ((¬ (μ.1 (29 + 17 * u0) 2) ≤ v3) → (vp_in v3 6 ∧ ((((μ.2.1 (31 + 17 * u0) (Int32.toNatClampNeg v3)) = 0) → wp_Stk_cells_4 u0 K0 Q n4 v1 (v3 + 1) μ) ∧ ((¬ (μ.2.1 (31 + 17 * u0) (Int32.toNatClampNeg v3)) = 0) → (vp_in v3 6 ∧ wp_Stk_cells_4 u0 K0 Q n4 (v1 ||| ((1 : Int64) <<< (Int32.toInt64 (μ.2.1 (30 + 17 * u0) (Int32.toNatClampNeg v3)) &&& 63))) (v3 + 1) μ))))))
set_option maxRecDepth 100000 in
set_option maxHeartbeats 4000000 in
theorem g_Stk_cells_4 {l : Launch} {u0 : Nat} (hu0 : u0 < 4) {K0 : Int64 → Int32 → Mu → Prop} {Q : Int64 → Mu → Prop} (hK0 : ∀ (v1 : Int64) (v3 : Int32) (μ : Mu), K0 v1 v3 μ → Go (mE l) mt_Stk_cells false (rmd 0) 0 0 38 [some (.ref (29 + 17 * u0)), some (.long v1), none, some (.int v3)] [] (lay μ) (PJ Q)) : ∀ (n : Nat) (v1 : Int64) (v3 : Int32) (μ : Mu), wp_Stk_cells_4 u0 K0 Q n v1 v3 μ → Go (mE l) mt_Stk_cells false (rmd 0) 0 0 4 [some (.ref (29 + 17 * u0)), some (.long v1), none, some (.int v3)] [] (lay μ) (PJ Q) := by
  intro n
  induction n with
  | zero => intro v1 v3 μ hk; exact hk.elim
  | succ n ih =>
    intro v1 v3 μ hk
    unfold wp_Stk_cells_4 at hk
    refine go_iload_n (pc := 4) (i := 3) d_Stk_cells_4 rfl rfl ?_
    refine go_aload_n (pc := 5) (i := 0) d_Stk_cells_5 rfl rfl ?_
    refine go_getI (pc := 6) (sh_stack hu0) rfl fl_Stk_19 d_Stk_cells_6 ?_
    refine go_icmp_ge (pc := 9) (tgt := 38) d_Stk_cells_9 rfl (fun h9 => ?_) (fun h9 => ?_)
    · replace hk := hk.1 h9
      exact hK0 _ _ _ hk
    · replace hk := hk.2 h9
      refine go_aload_n (pc := 12) (i := 0) d_Stk_cells_12 rfl rfl ?_
      refine go_getR (pc := 13) (r := 31 + 17 * u0) (sh_stack hu0) rfl fl_Stk_15 d_Stk_cells_13 ?_
      refine go_iload_n (pc := 16) (i := 3) d_Stk_cells_16 rfl rfl ?_
      obtain ⟨hi1, hk⟩ := hk
      refine go_aldZ (pc := 17) (sh_arerefs hu0) hi1 d_Stk_cells_17 ?_
      refine go_if_eq (pc := 18) (tgt := 32) d_Stk_cells_18 rfl (fun h18 => ?_) (fun h18 => ?_)
      · replace hk := hk.1 h18
        refine go_iinc (pc := 32) (v := (v3 + 1)) (L' := [some (.ref (29 + 17 * u0)), some (.long v1), none, some (.int (v3 + 1))]) d_Stk_cells_32 rfl rfl (by decide) rfl ?_
        refine go_goto (pc := 35) (tgt := 4) d_Stk_cells_35 rfl ?_
        exact ih _ _ _ hk
      · replace hk := hk.2 h18
        refine go_lload_n (pc := 21) (i := 1) d_Stk_cells_21 rfl rfl ?_
        refine go_lconst (pc := 22) (v := 1) d_Stk_cells_22 (by decide) ?_
        refine go_aload_n (pc := 23) (i := 0) d_Stk_cells_23 rfl rfl ?_
        refine go_getR (pc := 24) (r := 30 + 17 * u0) (sh_stack hu0) rfl fl_Stk_9 d_Stk_cells_24 ?_
        refine go_iload_n (pc := 27) (i := 3) d_Stk_cells_27 rfl rfl ?_
        obtain ⟨hi2, hk⟩ := hk
        refine go_aldI (pc := 28) (sh_values hu0) hi2 d_Stk_cells_28 ?_
        refine go_lshl (pc := 29) d_Stk_cells_29 ?_
        refine go_lor (pc := 30) d_Stk_cells_30 ?_
        refine go_lstore_n (pc := 31) (i := 1) (L' := [some (.ref (29 + 17 * u0)), some (.long (v1 ||| ((1 : Int64) <<< (Int32.toInt64 (μ.2.1 (30 + 17 * u0) (Int32.toNatClampNeg v3)) &&& 63)))), none, some (.int v3)]) d_Stk_cells_31 rfl (by decide) rfl ?_
        refine go_iinc (pc := 32) (v := (v3 + 1)) (L' := [some (.ref (29 + 17 * u0)), some (.long (v1 ||| ((1 : Int64) <<< (Int32.toInt64 (μ.2.1 (30 + 17 * u0) (Int32.toNatClampNeg v3)) &&& 63)))), none, some (.int (v3 + 1))]) d_Stk_cells_32 rfl rfl (by decide) rfl ?_
        refine go_goto (pc := 35) (tgt := 4) d_Stk_cells_35 rfl ?_
        exact ih _ _ _ hk
def wp_Stk_cells (k0 : Nat) (μ : Mu) (Q : Int64 → Mu → Prop) : Prop := (∃ n4, wp_Stk_cells_4 k0 (fun v3 v4 μ5 => Q v3 μ5) Q n4 (0 : Int64) (0 : Int32) μ)
set_option maxRecDepth 100000 in
set_option maxHeartbeats 4000000 in
theorem m_Stk_cells {l : Launch} {k0 : Nat} (hk0 : k0 < 4) {μ : Mu} {Q : Int64 → Mu → Prop} (hk : wp_Stk_cells k0 μ Q) : Mets (mE l) mt_Stk_cells false (rmd 0) [.ref (29 + 17 * k0)] (lay μ) (PJ Q) := by
  unfold wp_Stk_cells at hk
  refine mets_of (L := [some (.ref (29 + 17 * k0)), none, none, none]) (by decide) (Nat.le_of_ble_eq_true rfl) rfl ?_
  refine go_lconst (pc := 0) (v := 0) d_Stk_cells_0 (by decide) ?_
  refine go_lstore_n (pc := 1) (i := 1) (L' := [some (.ref (29 + 17 * k0)), some (.long (0 : Int64)), none, none]) d_Stk_cells_1 rfl (by decide) rfl ?_
  refine go_iconst (pc := 2) (v := 0) d_Stk_cells_2 (by decide) ?_
  refine go_istore_n (pc := 3) (i := 3) (L' := [some (.ref (29 + 17 * k0)), some (.long (0 : Int64)), none, some (.int (0 : Int32))]) d_Stk_cells_3 rfl (by decide) rfl ?_
  obtain ⟨n, hk⟩ := hk
  refine g_Stk_cells_4 hk0 (fun v3 v4 μ5 hk => ?_) n _ _ _ hk
  · try dsimp only at hk
    refine go_lload_n (pc := 38) (i := 1) d_Stk_cells_38 rfl rfl ?_
    exact go_ret (pc := 39) (r := some (.long v3)) d_Stk_cells_39 ⟨_, _, rfl, rfl, hk⟩
def wp_Ten_liveCells_10 (u0 : Nat) (K0 : Int64 → Int32 → Mu → Prop) (Q : Int64 → Mu → Prop) : Nat → Int64 → Int32 → Mu → Prop
  | 0, _, _, _ => False
  | n10 + 1, v1, v3, μ => ((((4 : Int32) ≤ v3) → K0 v1 v3 μ) ∧ ((¬ (4 : Int32) ≤ v3) → (vp_in v3 4 ∧ wp_Ten_liveCells_10 u0 K0 Q n10 (v1 ||| ((1 : Int64) <<< (Int32.toInt64 (μ.2.1 (32 + 17 * u0) (Int32.toNatClampNeg v3)) &&& 63))) (v3 + 1) μ)))
set_option maxRecDepth 100000 in
set_option maxHeartbeats 4000000 in
theorem g_Ten_liveCells_10 {l : Launch} {u0 : Nat} (hu0 : u0 < 4) {K0 : Int64 → Int32 → Mu → Prop} {Q : Int64 → Mu → Prop} (hK0 : ∀ (v1 : Int64) (v3 : Int32) (μ : Mu), K0 v1 v3 μ → Go (mE l) mt_Ten_liveCells false (rmd 2) 0 0 32 [some (.ref (23 + 17 * u0)), some (.long v1), none, some (.int v3)] [] (lay μ) (PJ Q)) : ∀ (n : Nat) (v1 : Int64) (v3 : Int32) (μ : Mu), wp_Ten_liveCells_10 u0 K0 Q n v1 v3 μ → Go (mE l) mt_Ten_liveCells false (rmd 2) 0 0 10 [some (.ref (23 + 17 * u0)), some (.long v1), none, some (.int v3)] [] (lay μ) (PJ Q) := by
  intro n
  induction n with
  | zero => intro v1 v3 μ hk; exact hk.elim
  | succ n ih =>
    intro v1 v3 μ hk
    unfold wp_Ten_liveCells_10 at hk
    refine go_iload_n (pc := 10) (i := 3) d_Ten_liveCells_10 rfl rfl ?_
    refine go_iconst (pc := 11) (v := 4) d_Ten_liveCells_11 (by decide) ?_
    refine go_icmp_ge (pc := 12) (tgt := 32) d_Ten_liveCells_12 rfl (fun h12 => ?_) (fun h12 => ?_)
    · replace hk := hk.1 h12
      exact hK0 _ _ _ hk
    · replace hk := hk.2 h12
      refine go_lload_n (pc := 15) (i := 1) d_Ten_liveCells_15 rfl rfl ?_
      refine go_lconst (pc := 16) (v := 1) d_Ten_liveCells_16 (by decide) ?_
      refine go_aload_n (pc := 17) (i := 0) d_Ten_liveCells_17 rfl rfl ?_
      refine go_getR (pc := 18) (r := 32 + 17 * u0) (sh_ten hu0) rfl fl_Ten_25 d_Ten_liveCells_18 ?_
      refine go_iload_n (pc := 21) (i := 3) d_Ten_liveCells_21 rfl rfl ?_
      obtain ⟨hi3, hk⟩ := hk
      refine go_aldI (pc := 22) (sh_locs hu0) hi3 d_Ten_liveCells_22 ?_
      refine go_lshl (pc := 23) d_Ten_liveCells_23 ?_
      refine go_lor (pc := 24) d_Ten_liveCells_24 ?_
      refine go_lstore_n (pc := 25) (i := 1) (L' := [some (.ref (23 + 17 * u0)), some (.long (v1 ||| ((1 : Int64) <<< (Int32.toInt64 (μ.2.1 (32 + 17 * u0) (Int32.toNatClampNeg v3)) &&& 63)))), none, some (.int v3)]) d_Ten_liveCells_25 rfl (by decide) rfl ?_
      refine go_iinc (pc := 26) (v := (v3 + 1)) (L' := [some (.ref (23 + 17 * u0)), some (.long (v1 ||| ((1 : Int64) <<< (Int32.toInt64 (μ.2.1 (32 + 17 * u0) (Int32.toNatClampNeg v3)) &&& 63)))), none, some (.int (v3 + 1))]) d_Ten_liveCells_26 rfl rfl (by decide) rfl ?_
      refine go_goto (pc := 29) (tgt := 10) d_Ten_liveCells_29 rfl ?_
      exact ih _ _ _ hk
def wp_Ten_liveCells_34 (u0 : Nat) (K0 : Int64 → Int32 → Mu → Prop) (Q : Int64 → Mu → Prop) : Nat → Int64 → Int32 → Mu → Prop
  | 0, _, _, _ => False
  | n34 + 1, v1, v3, μ => ((((μ.1 (33 + 17 * u0) 1) ≤ v3) → K0 v1 v3 μ) ∧ ((¬ (μ.1 (33 + 17 * u0) 1) ≤ v3) → wp_Line_itemAt (33 + 17 * u0) 4 v3 μ (fun x8 μ7 => wp_Ten_liveCells_34 u0 K0 Q n34 (v1 ||| ((1 : Int64) <<< (Int32.toInt64 x8 &&& 63))) (v3 + 1) μ7)))
set_option maxRecDepth 100000 in
set_option maxHeartbeats 4000000 in
theorem g_Ten_liveCells_34 {l : Launch} {u0 : Nat} (hu0 : u0 < 4) {K0 : Int64 → Int32 → Mu → Prop} {Q : Int64 → Mu → Prop} (hK0 : ∀ (v1 : Int64) (v3 : Int32) (μ : Mu), K0 v1 v3 μ → Go (mE l) mt_Ten_liveCells false (rmd 2) 0 0 64 [some (.ref (23 + 17 * u0)), some (.long v1), none, some (.int v3)] [] (lay μ) (PJ Q)) : ∀ (n : Nat) (v1 : Int64) (v3 : Int32) (μ : Mu), wp_Ten_liveCells_34 u0 K0 Q n v1 v3 μ → Go (mE l) mt_Ten_liveCells false (rmd 2) 0 0 34 [some (.ref (23 + 17 * u0)), some (.long v1), none, some (.int v3)] [] (lay μ) (PJ Q) := by
  intro n
  induction n with
  | zero => intro v1 v3 μ hk; exact hk.elim
  | succ n ih =>
    intro v1 v3 μ hk
    unfold wp_Ten_liveCells_34 at hk
    refine go_iload_n (pc := 34) (i := 3) d_Ten_liveCells_34 rfl rfl ?_
    refine go_aload_n (pc := 35) (i := 0) d_Ten_liveCells_35 rfl rfl ?_
    refine go_getR (pc := 36) (r := 33 + 17 * u0) (sh_ten hu0) rfl fl_Ten_34 d_Ten_liveCells_36 ?_
    refine go_getI (pc := 39) (isl_mail hu0).1 rfl fl_Ten_70 d_Ten_liveCells_39 ?_
    refine go_icmp_ge (pc := 42) (tgt := 64) d_Ten_liveCells_42 rfl (fun h42 => ?_) (fun h42 => ?_)
    · replace hk := hk.1 h42
      exact hK0 _ _ _ hk
    · replace hk := hk.2 h42
      refine go_lload_n (pc := 45) (i := 1) d_Ten_liveCells_45 rfl rfl ?_
      refine go_lconst (pc := 46) (v := 1) d_Ten_liveCells_46 (by decide) ?_
      refine go_aload_n (pc := 47) (i := 0) d_Ten_liveCells_47 rfl rfl ?_
      refine go_getR (pc := 48) (r := 33 + 17 * u0) (sh_ten hu0) rfl fl_Ten_34 d_Ten_liveCells_48 ?_
      refine go_iload_n (pc := 51) (i := 3) d_Ten_liveCells_51 rfl rfl ?_
      refine go_callV (pc := 52) (m_Line_itemAt (isl_mail hu0) hk) cz_Line_itemAt cv_Line_itemAt (Or.inl lk_Ten_73) (lay_at (isl_mail hu0).1) rfl rfl rfl (Nat.le_of_ble_eq_true rfl) ⟨by decide, by decide⟩ rfl rfl d_Ten_liveCells_52 (fun r M' hr => ?_)
      obtain ⟨x8, μ7, rfl, rfl, hk⟩ := hr
      try dsimp only [Option.toList, List.cons_append, List.nil_append]
      refine go_lshl (pc := 55) d_Ten_liveCells_55 ?_
      refine go_lor (pc := 56) d_Ten_liveCells_56 ?_
      refine go_lstore_n (pc := 57) (i := 1) (L' := [some (.ref (23 + 17 * u0)), some (.long (v1 ||| ((1 : Int64) <<< (Int32.toInt64 x8 &&& 63)))), none, some (.int v3)]) d_Ten_liveCells_57 rfl (by decide) rfl ?_
      refine go_iinc (pc := 58) (v := (v3 + 1)) (L' := [some (.ref (23 + 17 * u0)), some (.long (v1 ||| ((1 : Int64) <<< (Int32.toInt64 x8 &&& 63)))), none, some (.int (v3 + 1))]) d_Ten_liveCells_58 rfl rfl (by decide) rfl ?_
      refine go_goto (pc := 61) (tgt := 34) d_Ten_liveCells_61 rfl ?_
      exact ih _ _ _ hk
def wp_Ten_liveCells (k0 : Nat) (μ : Mu) (Q : Int64 → Mu → Prop) : Prop := wp_Stk_cells k0 μ (fun x2 μ1 => (∃ n10, wp_Ten_liveCells_10 k0 (fun v4 v5 μ6 => (∃ n34, wp_Ten_liveCells_34 k0 (fun v9 v10 μ11 => wp_Heap_reachedFrom k0 v9 μ11 (fun x13 μ12 => Q x13 μ12)) Q n34 v4 (0 : Int32) μ6)) Q n10 x2 (2 : Int32) μ1))
set_option maxRecDepth 100000 in
set_option maxHeartbeats 4000000 in
theorem m_Ten_liveCells {l : Launch} {k0 : Nat} (hk0 : k0 < 4) {μ : Mu} {Q : Int64 → Mu → Prop} (hk : wp_Ten_liveCells k0 μ Q) : Mets (mE l) mt_Ten_liveCells false (rmd 2) [.ref (23 + 17 * k0)] (lay μ) (PJ Q) := by
  unfold wp_Ten_liveCells at hk
  refine mets_of (L := [some (.ref (23 + 17 * k0)), none, none, none]) (by decide) (Nat.le_of_ble_eq_true rfl) rfl ?_
  refine go_aload_n (pc := 0) (i := 0) d_Ten_liveCells_0 rfl rfl ?_
  refine go_getR (pc := 1) (r := 29 + 17 * k0) (sh_ten hk0) rfl fl_Ten_21 d_Ten_liveCells_1 ?_
  refine go_callV (pc := 4) (m_Stk_cells hk0 hk) cz_Stk_cells cv_Stk_cells (Or.inl lk_Ten_66) (lay_at (sh_stack hk0)) rfl rfl rfl (Nat.le_of_ble_eq_true rfl) ⟨by decide, by decide⟩ rfl rfl d_Ten_liveCells_4 (fun r M' hr => ?_)
  obtain ⟨x2, μ1, rfl, rfl, hk⟩ := hr
  try dsimp only [Option.toList, List.cons_append, List.nil_append]
  refine go_lstore_n (pc := 7) (i := 1) (L' := [some (.ref (23 + 17 * k0)), some (.long x2), none, none]) d_Ten_liveCells_7 rfl (by decide) rfl ?_
  refine go_iconst (pc := 8) (v := 2) d_Ten_liveCells_8 (by decide) ?_
  refine go_istore_n (pc := 9) (i := 3) (L' := [some (.ref (23 + 17 * k0)), some (.long x2), none, some (.int (2 : Int32))]) d_Ten_liveCells_9 rfl (by decide) rfl ?_
  obtain ⟨n, hk⟩ := hk
  refine g_Ten_liveCells_10 hk0 (fun v4 v5 μ6 hk => ?_) n _ _ _ hk
  · try dsimp only at hk
    refine go_iconst (pc := 32) (v := 0) d_Ten_liveCells_32 (by decide) ?_
    refine go_istore_n (pc := 33) (i := 3) (L' := [some (.ref (23 + 17 * k0)), some (.long v4), none, some (.int (0 : Int32))]) d_Ten_liveCells_33 rfl (by decide) rfl ?_
    obtain ⟨n, hk⟩ := hk
    refine g_Ten_liveCells_34 hk0 (fun v9 v10 μ11 hk => ?_) n _ _ _ hk
    · try dsimp only at hk
      refine go_aload_n (pc := 64) (i := 0) d_Ten_liveCells_64 rfl rfl ?_
      refine go_getR (pc := 65) (r := 24 + 17 * k0) (sh_ten hk0) rfl fl_Ten_12 d_Ten_liveCells_65 ?_
      refine go_lload_n (pc := 68) (i := 1) d_Ten_liveCells_68 rfl rfl ?_
      refine go_callV (pc := 69) (m_Heap_reachedFrom hk0 hk) cz_Heap_reachedFrom cv_Heap_reachedFrom (Or.inl lk_Ten_77) (lay_at (sh_heap hk0)) rfl rfl rfl (Nat.le_of_ble_eq_true rfl) ⟨by decide, by decide⟩ rfl rfl d_Ten_liveCells_69 (fun r M' hr => ?_)
      obtain ⟨x13, μ12, rfl, rfl, hk⟩ := hr
      try dsimp only [Option.toList, List.cons_append, List.nil_append]
      exact go_ret (pc := 72) (r := some (.long x13)) d_Ten_liveCells_72 ⟨_, _, rfl, rfl, hk⟩
def wp_Ten_hasRoom (k0 : Nat) (a1 : Int32) (μ : Mu) (Q : Int32 → Mu → Prop) : Prop := wp_Heap_fits k0 a1 μ (fun x2 μ1 => (((¬ x2 = 0) → wp_Heap_fits k0 a1 μ1 (fun x4 μ3 => ((x4 = 0 ∨ x4 = 1) ∧ Q x4 μ3))) ∧ ((x2 = 0) → wp_Ten_liveCells k0 μ1 (fun x7 μ6 => wp_Heap_keepOnly k0 x7 μ6 (fun μ8 => wp_Heap_fits k0 a1 μ8 (fun x10 μ9 => ((x10 = 0 ∨ x10 = 1) ∧ Q x10 μ9)))))))
set_option maxRecDepth 100000 in
set_option maxHeartbeats 4000000 in
theorem m_Ten_hasRoom {l : Launch} {k0 : Nat} {a1 : Int32} (hk0 : k0 < 4) {μ : Mu} {Q : Int32 → Mu → Prop} (hk : wp_Ten_hasRoom k0 a1 μ Q) : Mets (mE l) mt_Ten_hasRoom false (rmd 3) [.ref (23 + 17 * k0), .int a1] (lay μ) (PI Q) := by
  unfold wp_Ten_hasRoom at hk
  refine mets_of (L := [some (.ref (23 + 17 * k0)), some (.int a1)]) (by decide) (Nat.le_of_ble_eq_true rfl) rfl ?_
  refine go_aload_n (pc := 0) (i := 0) d_Ten_hasRoom_0 rfl rfl ?_
  refine go_getR (pc := 1) (r := 24 + 17 * k0) (sh_ten hk0) rfl fl_Ten_12 d_Ten_hasRoom_1 ?_
  refine go_iload_n (pc := 4) (i := 1) d_Ten_hasRoom_4 rfl rfl ?_
  refine go_callV (pc := 5) (m_Heap_fits hk0 hk) cz_Heap_fits cv_Heap_fits (Or.inl lk_Ten_81) (lay_at (sh_heap hk0)) rfl rfl rfl (Nat.le_of_ble_eq_true rfl) ⟨by decide, by decide⟩ rfl rfl d_Ten_hasRoom_5 (fun r M' hr => ?_)
  obtain ⟨x2, μ1, rfl, rfl, hk⟩ := hr
  try dsimp only [Option.toList, List.cons_append, List.nil_append]
  refine go_if_ne (pc := 8) (tgt := 22) d_Ten_hasRoom_8 rfl (fun h8 => ?_) (fun h8 => ?_)
  · replace hk := hk.1 h8
    refine go_aload_n (pc := 22) (i := 0) d_Ten_hasRoom_22 rfl rfl ?_
    refine go_getR (pc := 23) (r := 24 + 17 * k0) (sh_ten hk0) rfl fl_Ten_12 d_Ten_hasRoom_23 ?_
    refine go_iload_n (pc := 26) (i := 1) d_Ten_hasRoom_26 rfl rfl ?_
    refine go_callV (pc := 27) (m_Heap_fits hk0 hk) cz_Heap_fits cv_Heap_fits (Or.inl lk_Ten_81) (lay_at (sh_heap hk0)) rfl rfl rfl (Nat.le_of_ble_eq_true rfl) ⟨by decide, by decide⟩ rfl rfl d_Ten_hasRoom_27 (fun r M' hr => ?_)
    obtain ⟨x4, μ3, rfl, rfl, hk⟩ := hr
    try dsimp only [Option.toList, List.cons_append, List.nil_append]
    obtain ⟨hb5, hk⟩ := hk
    exact go_ret (pc := 30) (r := some (.int x4)) ⟨nar_zv hb5, d_Ten_hasRoom_30⟩ ⟨_, _, rfl, rfl, hk⟩
  · replace hk := hk.2 h8
    refine go_aload_n (pc := 11) (i := 0) d_Ten_hasRoom_11 rfl rfl ?_
    refine go_getR (pc := 12) (r := 24 + 17 * k0) (sh_ten hk0) rfl fl_Ten_12 d_Ten_hasRoom_12 ?_
    refine go_aload_n (pc := 15) (i := 0) d_Ten_hasRoom_15 rfl rfl ?_
    refine go_callV (pc := 16) (m_Ten_liveCells hk0 hk) cz_Ten_liveCells cv_Ten_liveCells (Or.inl lk_Ten_85) (lay_at (sh_ten hk0)) rfl rfl rfl (Nat.le_of_ble_eq_true rfl) ⟨by decide, by decide⟩ rfl rfl d_Ten_hasRoom_16 (fun r M' hr => ?_)
    obtain ⟨x7, μ6, rfl, rfl, hk⟩ := hr
    try dsimp only [Option.toList, List.cons_append, List.nil_append]
    refine go_callV (pc := 19) (m_Heap_keepOnly hk0 hk) cz_Heap_keepOnly cv_Heap_keepOnly (Or.inl lk_Ten_88) (lay_at (sh_heap hk0)) rfl rfl rfl (Nat.le_of_ble_eq_true rfl) ⟨by decide, by decide⟩ rfl rfl d_Ten_hasRoom_19 (fun r M' hr => ?_)
    obtain ⟨μ8, rfl, rfl, hk⟩ := hr
    try dsimp only [Option.toList, List.cons_append, List.nil_append]
    refine go_aload_n (pc := 22) (i := 0) d_Ten_hasRoom_22 rfl rfl ?_
    refine go_getR (pc := 23) (r := 24 + 17 * k0) (sh_ten hk0) rfl fl_Ten_12 d_Ten_hasRoom_23 ?_
    refine go_iload_n (pc := 26) (i := 1) d_Ten_hasRoom_26 rfl rfl ?_
    refine go_callV (pc := 27) (m_Heap_fits hk0 hk) cz_Heap_fits cv_Heap_fits (Or.inl lk_Ten_81) (lay_at (sh_heap hk0)) rfl rfl rfl (Nat.le_of_ble_eq_true rfl) ⟨by decide, by decide⟩ rfl rfl d_Ten_hasRoom_27 (fun r M' hr => ?_)
    obtain ⟨x10, μ9, rfl, rfl, hk⟩ := hr
    try dsimp only [Option.toList, List.cons_append, List.nil_append]
    obtain ⟨hb11, hk⟩ := hk
    exact go_ret (pc := 30) (r := some (.int x10)) ⟨nar_zv hb11, d_Ten_hasRoom_30⟩ ⟨_, _, rfl, rfl, hk⟩
def wp_Host_makeCell (k1 : Nat) (μ : Mu) (Q : Mu → Prop) : Prop := wp_Ten_hasRoom k1 (1 : Int32) μ (fun x2 μ1 => (((x2 = 0) → wp_Host_end k1 (9 : Int32) μ1 (fun μ3 => Q μ3)) ∧ ((¬ x2 = 0) → wp_Stk_take k1 μ1 (fun x5 μ4 => wp_Heap_make k1 x5 μ4 (fun x7 μ6 => wp_Stk_putReference k1 x7 μ6 (fun μ8 => Q μ8))))))
set_option maxRecDepth 100000 in
set_option maxHeartbeats 4000000 in
theorem m_Host_makeCell {l : Launch} {k1 : Nat} (hk1 : k1 < 4) {μ : Mu} {Q : Mu → Prop} (hk : wp_Host_makeCell k1 μ Q) : Mets (mE l) mt_Host_makeCell false (rmd 4) [.ref 0, .ref (23 + 17 * k1)] (lay μ) (PV Q) := by
  unfold wp_Host_makeCell at hk
  refine mets_of (L := [some (.ref 0), some (.ref (23 + 17 * k1)), none]) (by decide) (Nat.le_of_ble_eq_true rfl) rfl ?_
  refine go_aload_n (pc := 0) (i := 1) d_Host_makeCell_0 rfl rfl ?_
  refine go_iconst (pc := 1) (v := 1) d_Host_makeCell_1 (by decide) ?_
  refine go_callV (pc := 2) (m_Ten_hasRoom hk1 hk) cz_Ten_hasRoom cv_Ten_hasRoom (Or.inl lk_Host_270) (lay_at (sh_ten hk1)) rfl rfl rfl (Nat.le_of_ble_eq_true rfl) ⟨by decide, by decide⟩ rfl rfl d_Host_makeCell_2 (fun r M' hr => ?_)
  obtain ⟨x2, μ1, rfl, rfl, hk⟩ := hr
  try dsimp only [Option.toList, List.cons_append, List.nil_append]
  refine go_if_eq (pc := 5) (tgt := 34) d_Host_makeCell_5 rfl (fun h5 => ?_) (fun h5 => ?_)
  · replace hk := hk.1 h5
    refine go_aload_n (pc := 34) (i := 0) d_Host_makeCell_34 rfl rfl ?_
    refine go_aload_n (pc := 35) (i := 1) d_Host_makeCell_35 rfl rfl ?_
    refine go_bipush (pc := 36) (v := 9) d_Host_makeCell_36 (by decide) ?_
    refine go_callV (pc := 38) (m_Host_end hk1 hk) cz_Host_end cv_Host_end (Or.inl lk_Host_185) (lay_at sh_host) rfl rfl rfl (Nat.le_of_ble_eq_true rfl) ⟨by decide, by decide⟩ rfl rfl d_Host_makeCell_38 (fun r M' hr => ?_)
    obtain ⟨μ3, rfl, rfl, hk⟩ := hr
    try dsimp only [Option.toList, List.cons_append, List.nil_append]
    exact go_ret (pc := 41) (r := none) d_Host_makeCell_41 ⟨_, rfl, rfl, hk⟩
  · replace hk := hk.2 h5
    refine go_aload_n (pc := 8) (i := 1) d_Host_makeCell_8 rfl rfl ?_
    refine go_getR (pc := 9) (r := 29 + 17 * k1) (sh_ten hk1) rfl fl_Host_205 d_Host_makeCell_9 ?_
    refine go_callV (pc := 12) (m_Stk_take hk1 hk) cz_Stk_take cv_Stk_take (Or.inl lk_Host_226) (lay_at (sh_stack hk1)) rfl rfl rfl (Nat.le_of_ble_eq_true rfl) ⟨by decide, by decide⟩ rfl rfl d_Host_makeCell_12 (fun r M' hr => ?_)
    obtain ⟨x5, μ4, rfl, rfl, hk⟩ := hr
    try dsimp only [Option.toList, List.cons_append, List.nil_append]
    refine go_istore_n (pc := 15) (i := 2) (L' := [some (.ref 0), some (.ref (23 + 17 * k1)), some (.int x5)]) d_Host_makeCell_15 rfl (by decide) rfl ?_
    refine go_aload_n (pc := 16) (i := 1) d_Host_makeCell_16 rfl rfl ?_
    refine go_getR (pc := 17) (r := 29 + 17 * k1) (sh_ten hk1) rfl fl_Host_205 d_Host_makeCell_17 ?_
    refine go_aload_n (pc := 20) (i := 1) d_Host_makeCell_20 rfl rfl ?_
    refine go_getR (pc := 21) (r := 24 + 17 * k1) (sh_ten hk1) rfl fl_Host_69 d_Host_makeCell_21 ?_
    refine go_iload_n (pc := 24) (i := 2) d_Host_makeCell_24 rfl rfl ?_
    refine go_callV (pc := 25) (m_Heap_make hk1 hk) cz_Heap_make cv_Heap_make (Or.inl lk_Host_273) (lay_at (sh_heap hk1)) rfl rfl rfl (Nat.le_of_ble_eq_true rfl) ⟨by decide, by decide⟩ rfl rfl d_Host_makeCell_25 (fun r M' hr => ?_)
    obtain ⟨x7, μ6, rfl, rfl, hk⟩ := hr
    try dsimp only [Option.toList, List.cons_append, List.nil_append]
    refine go_callV (pc := 28) (m_Stk_putReference hk1 hk) cz_Stk_putReference cv_Stk_putReference (Or.inl lk_Host_245) (lay_at (sh_stack hk1)) rfl rfl rfl (Nat.le_of_ble_eq_true rfl) ⟨by decide, by decide⟩ rfl rfl d_Host_makeCell_28 (fun r M' hr => ?_)
    obtain ⟨μ8, rfl, rfl, hk⟩ := hr
    try dsimp only [Option.toList, List.cons_append, List.nil_append]
    refine go_goto (pc := 31) (tgt := 41) d_Host_makeCell_31 rfl ?_
    exact go_ret (pc := 41) (r := none) d_Host_makeCell_41 ⟨_, rfl, rfl, hk⟩
def wp_Host_putOut (k1 : Nat) (μ : Mu) (Q : Mu → Prop) : Prop := wp_Stk_take k1 μ (fun x2 μ1 => wp_Line_add (37 + 17 * k1) 16 x2 μ1 (fun x4 μ3 => (((¬ x4 = 0) → Q μ3) ∧ ((x4 = 0) → wp_Host_end k1 (11 : Int32) μ3 (fun μ5 => Q μ5)))))
set_option maxRecDepth 100000 in
set_option maxHeartbeats 4000000 in
theorem m_Host_putOut {l : Launch} {k1 : Nat} (hk1 : k1 < 4) {μ : Mu} {Q : Mu → Prop} (hk : wp_Host_putOut k1 μ Q) : Mets (mE l) mt_Host_putOut false (rmd 3) [.ref 0, .ref (23 + 17 * k1)] (lay μ) (PV Q) := by
  unfold wp_Host_putOut at hk
  refine mets_of (L := [some (.ref 0), some (.ref (23 + 17 * k1))]) (by decide) (Nat.le_of_ble_eq_true rfl) rfl ?_
  refine go_aload_n (pc := 0) (i := 1) d_Host_putOut_0 rfl rfl ?_
  refine go_getR (pc := 1) (r := 37 + 17 * k1) (sh_ten hk1) rfl fl_Host_154 d_Host_putOut_1 ?_
  refine go_aload_n (pc := 4) (i := 1) d_Host_putOut_4 rfl rfl ?_
  refine go_getR (pc := 5) (r := 29 + 17 * k1) (sh_ten hk1) rfl fl_Host_205 d_Host_putOut_5 ?_
  refine go_callV (pc := 8) (m_Stk_take hk1 hk) cz_Stk_take cv_Stk_take (Or.inl lk_Host_226) (lay_at (sh_stack hk1)) rfl rfl rfl (Nat.le_of_ble_eq_true rfl) ⟨by decide, by decide⟩ rfl rfl d_Host_putOut_8 (fun r M' hr => ?_)
  obtain ⟨x2, μ1, rfl, rfl, hk⟩ := hr
  try dsimp only [Option.toList, List.cons_append, List.nil_append]
  refine go_callV (pc := 11) (m_Line_add (isl_outputs hk1) hk) cz_Line_add cv_Line_add (Or.inl lk_Host_110) (lay_at (isl_outputs hk1).1) rfl rfl rfl (Nat.le_of_ble_eq_true rfl) ⟨by decide, by decide⟩ rfl rfl d_Host_putOut_11 (fun r M' hr => ?_)
  obtain ⟨x4, μ3, rfl, rfl, hk⟩ := hr
  try dsimp only [Option.toList, List.cons_append, List.nil_append]
  refine go_if_ne (pc := 14) (tgt := 24) d_Host_putOut_14 rfl (fun h14 => ?_) (fun h14 => ?_)
  · replace hk := hk.1 h14
    exact go_ret (pc := 24) (r := none) d_Host_putOut_24 ⟨_, rfl, rfl, hk⟩
  · replace hk := hk.2 h14
    refine go_aload_n (pc := 17) (i := 0) d_Host_putOut_17 rfl rfl ?_
    refine go_aload_n (pc := 18) (i := 1) d_Host_putOut_18 rfl rfl ?_
    refine go_bipush (pc := 19) (v := 11) d_Host_putOut_19 (by decide) ?_
    refine go_callV (pc := 21) (m_Host_end hk1 hk) cz_Host_end cv_Host_end (Or.inl lk_Host_185) (lay_at sh_host) rfl rfl rfl (Nat.le_of_ble_eq_true rfl) ⟨by decide, by decide⟩ rfl rfl d_Host_putOut_21 (fun r M' hr => ?_)
    obtain ⟨μ5, rfl, rfl, hk⟩ := hr
    try dsimp only [Option.toList, List.cons_append, List.nil_append]
    exact go_ret (pc := 24) (r := none) d_Host_putOut_24 ⟨_, rfl, rfl, hk⟩
def wp_Heap_copyFrom_4 (u0 : Nat) (u1 : Nat) (w2 : Int64) (w4 : Int32) (K0 : Int32 → Mu → Prop) (Q : Int32 → Mu → Prop) : Nat → Int32 → Mu → Prop
  | 0, _, _ => False
  | n4 + 1, v5, μ => ((((33 : Int32) ≤ v5) → K0 v5 μ) ∧ ((¬ (33 : Int32) ≤ v5) → wp_Heap_isIn w2 v5 μ (fun x2 μ1 => (((x2 = 0) → wp_Heap_copyFrom_4 u0 u1 w2 w4 K0 Q n4 (v5 + 1) μ1) ∧ ((¬ x2 = 0) → (vp_in v5 33 ∧ wp_Heap_make u0 (μ1.2.1 (25 + 17 * u1) (Int32.toNatClampNeg v5)) μ1 (fun x5 μ4 => (vp_in v5 33 ∧ ∀ μ7 : Mu, μ7 = setA μ4 (28 + 17 * u0) (Int32.toNatClampNeg v5) x5 → wp_Heap_copyFrom_4 u0 u1 w2 w4 K0 Q n4 (v5 + 1) μ7))))))))
set_option maxRecDepth 100000 in
set_option maxHeartbeats 4000000 in
theorem g_Heap_copyFrom_4 {l : Launch} {u0 : Nat} {u1 : Nat} {w2 : Int64} {w4 : Int32} (hu0 : u0 < 4) (hu1 : u1 < 4) {K0 : Int32 → Mu → Prop} {Q : Int32 → Mu → Prop} (hK0 : ∀ (v5 : Int32) (μ : Mu), K0 v5 μ → Go (mE l) mt_Heap_copyFrom false (rmd 2) 0 0 44 [some (.ref (24 + 17 * u0)), some (.ref (24 + 17 * u1)), some (.long w2), none, some (.int w4), some (.int v5)] [] (lay μ) (PI Q)) : ∀ (n : Nat) (v5 : Int32) (μ : Mu), wp_Heap_copyFrom_4 u0 u1 w2 w4 K0 Q n v5 μ → Go (mE l) mt_Heap_copyFrom false (rmd 2) 0 0 4 [some (.ref (24 + 17 * u0)), some (.ref (24 + 17 * u1)), some (.long w2), none, some (.int w4), some (.int v5)] [] (lay μ) (PI Q) := by
  intro n
  induction n with
  | zero => intro v5 μ hk; exact hk.elim
  | succ n ih =>
    intro v5 μ hk
    unfold wp_Heap_copyFrom_4 at hk
    refine go_iload (pc := 4) d_Heap_copyFrom_4 rfl ?_
    refine go_bipush (pc := 6) (v := 33) d_Heap_copyFrom_6 (by decide) ?_
    refine go_icmp_ge (pc := 8) (tgt := 44) d_Heap_copyFrom_8 rfl (fun h8 => ?_) (fun h8 => ?_)
    · replace hk := hk.1 h8
      exact hK0 _ _ hk
    · replace hk := hk.2 h8
      refine go_lload_n (pc := 11) (i := 2) d_Heap_copyFrom_11 rfl rfl ?_
      refine go_iload (pc := 12) d_Heap_copyFrom_12 rfl ?_
      refine go_callS (pc := 14) (m_Heap_isIn  hk) cz_Heap_isIn sm_Heap_isIn (Or.inl lk_Heap_41) rfl rfl (Nat.le_of_ble_eq_true rfl) ⟨by decide, by decide⟩ rfl rfl d_Heap_copyFrom_14 (fun r M' hr => ?_)
      obtain ⟨x2, μ1, rfl, rfl, hk⟩ := hr
      try dsimp only [Option.toList, List.cons_append, List.nil_append]
      refine go_if_eq (pc := 17) (tgt := 38) d_Heap_copyFrom_17 rfl (fun h17 => ?_) (fun h17 => ?_)
      · replace hk := hk.1 h17
        refine go_iinc (pc := 38) (v := (v5 + 1)) (L' := [some (.ref (24 + 17 * u0)), some (.ref (24 + 17 * u1)), some (.long w2), none, some (.int w4), some (.int (v5 + 1))]) d_Heap_copyFrom_38 rfl rfl (by decide) rfl ?_
        refine go_goto (pc := 41) (tgt := 4) d_Heap_copyFrom_41 rfl ?_
        exact ih _ _ hk
      · replace hk := hk.2 h17
        refine go_aload_n (pc := 20) (i := 0) d_Heap_copyFrom_20 rfl rfl ?_
        refine go_getR (pc := 21) (r := 28 + 17 * u0) (sh_heap hu0) rfl fl_Heap_21 d_Heap_copyFrom_21 ?_
        refine go_iload (pc := 24) d_Heap_copyFrom_24 rfl ?_
        refine go_aload_n (pc := 26) (i := 0) d_Heap_copyFrom_26 rfl rfl ?_
        refine go_aload_n (pc := 27) (i := 1) d_Heap_copyFrom_27 rfl rfl ?_
        refine go_getR (pc := 28) (r := 25 + 17 * u1) (sh_heap hu1) rfl fl_Heap_9 d_Heap_copyFrom_28 ?_
        refine go_iload (pc := 31) d_Heap_copyFrom_31 rfl ?_
        obtain ⟨hi3, hk⟩ := hk
        refine go_aldI (pc := 33) (sh_nums hu1) hi3 d_Heap_copyFrom_33 ?_
        refine go_callV (pc := 34) (m_Heap_make hu0 hk) cz_Heap_make cv_Heap_make (Or.inl lk_Heap_51) (lay_at (sh_heap hu0)) rfl rfl rfl (Nat.le_of_ble_eq_true rfl) ⟨by decide, by decide⟩ rfl rfl d_Heap_copyFrom_34 (fun r M' hr => ?_)
        obtain ⟨x5, μ4, rfl, rfl, hk⟩ := hr
        try dsimp only [Option.toList, List.cons_append, List.nil_append]
        obtain ⟨hi6, hk⟩ := hk
        refine go_astIn (pc := 37) (sh_copies hu0) hi6 d_Heap_copyFrom_37 (fun μ7 e7 => ?_)
        replace hk := hk μ7 e7
        refine go_iinc (pc := 38) (v := (v5 + 1)) (L' := [some (.ref (24 + 17 * u0)), some (.ref (24 + 17 * u1)), some (.long w2), none, some (.int w4), some (.int (v5 + 1))]) d_Heap_copyFrom_38 rfl rfl (by decide) rfl ?_
        refine go_goto (pc := 41) (tgt := 4) d_Heap_copyFrom_41 rfl ?_
        exact ih _ _ hk
def wp_Heap_copyFrom_48 (u0 : Nat) (u1 : Nat) (w2 : Int64) (w4 : Int32) (K0 : Int32 → Mu → Prop) (Q : Int32 → Mu → Prop) : Nat → Int32 → Mu → Prop
  | 0, _, _ => False
  | n48 + 1, v5, μ => ((((33 : Int32) ≤ v5) → K0 v5 μ) ∧ ((¬ (33 : Int32) ≤ v5) → wp_Heap_isIn w2 v5 μ (fun x11 μ10 => (((x11 = 0) → wp_Heap_copyFrom_48 u0 u1 w2 w4 K0 Q n48 (v5 + 1) μ10) ∧ ((¬ x11 = 0) → (vp_in v5 33 ∧ (vp_in v5 33 ∧ (vp_in (μ10.2.1 (26 + 17 * u1) (Int32.toNatClampNeg v5)) 33 ∧ (vp_in (μ10.2.1 (28 + 17 * u0) (Int32.toNatClampNeg v5)) 33 ∧ ∀ μ16 : Mu, μ16 = setA μ10 (26 + 17 * u0) (Int32.toNatClampNeg (μ10.2.1 (28 + 17 * u0) (Int32.toNatClampNeg v5))) (μ10.2.1 (28 + 17 * u0) (Int32.toNatClampNeg (μ10.2.1 (26 + 17 * u1) (Int32.toNatClampNeg v5)))) → (vp_in v5 33 ∧ (vp_in v5 33 ∧ (vp_in (μ16.2.1 (27 + 17 * u1) (Int32.toNatClampNeg v5)) 33 ∧ (vp_in (μ16.2.1 (28 + 17 * u0) (Int32.toNatClampNeg v5)) 33 ∧ ∀ μ21 : Mu, μ21 = setA μ16 (27 + 17 * u0) (Int32.toNatClampNeg (μ16.2.1 (28 + 17 * u0) (Int32.toNatClampNeg v5))) (μ16.2.1 (28 + 17 * u0) (Int32.toNatClampNeg (μ16.2.1 (27 + 17 * u1) (Int32.toNatClampNeg v5)))) → wp_Heap_copyFrom_48 u0 u1 w2 w4 K0 Q n48 (v5 + 1) μ21)))))))))))))
set_option maxRecDepth 100000 in
set_option maxHeartbeats 4000000 in
theorem g_Heap_copyFrom_48 {l : Launch} {u0 : Nat} {u1 : Nat} {w2 : Int64} {w4 : Int32} (hu0 : u0 < 4) (hu1 : u1 < 4) {K0 : Int32 → Mu → Prop} {Q : Int32 → Mu → Prop} (hK0 : ∀ (v5 : Int32) (μ : Mu), K0 v5 μ → Go (mE l) mt_Heap_copyFrom false (rmd 2) 0 0 118 [some (.ref (24 + 17 * u0)), some (.ref (24 + 17 * u1)), some (.long w2), none, some (.int w4), some (.int v5)] [] (lay μ) (PI Q)) : ∀ (n : Nat) (v5 : Int32) (μ : Mu), wp_Heap_copyFrom_48 u0 u1 w2 w4 K0 Q n v5 μ → Go (mE l) mt_Heap_copyFrom false (rmd 2) 0 0 48 [some (.ref (24 + 17 * u0)), some (.ref (24 + 17 * u1)), some (.long w2), none, some (.int w4), some (.int v5)] [] (lay μ) (PI Q) := by
  intro n
  induction n with
  | zero => intro v5 μ hk; exact hk.elim
  | succ n ih =>
    intro v5 μ hk
    unfold wp_Heap_copyFrom_48 at hk
    refine go_iload (pc := 48) d_Heap_copyFrom_48 rfl ?_
    refine go_bipush (pc := 50) (v := 33) d_Heap_copyFrom_50 (by decide) ?_
    refine go_icmp_ge (pc := 52) (tgt := 118) d_Heap_copyFrom_52 rfl (fun h52 => ?_) (fun h52 => ?_)
    · replace hk := hk.1 h52
      exact hK0 _ _ hk
    · replace hk := hk.2 h52
      refine go_lload_n (pc := 55) (i := 2) d_Heap_copyFrom_55 rfl rfl ?_
      refine go_iload (pc := 56) d_Heap_copyFrom_56 rfl ?_
      refine go_callS (pc := 58) (m_Heap_isIn  hk) cz_Heap_isIn sm_Heap_isIn (Or.inl lk_Heap_41) rfl rfl (Nat.le_of_ble_eq_true rfl) ⟨by decide, by decide⟩ rfl rfl d_Heap_copyFrom_58 (fun r M' hr => ?_)
      obtain ⟨x11, μ10, rfl, rfl, hk⟩ := hr
      try dsimp only [Option.toList, List.cons_append, List.nil_append]
      refine go_if_eq (pc := 61) (tgt := 112) d_Heap_copyFrom_61 rfl (fun h61 => ?_) (fun h61 => ?_)
      · replace hk := hk.1 h61
        refine go_iinc (pc := 112) (v := (v5 + 1)) (L' := [some (.ref (24 + 17 * u0)), some (.ref (24 + 17 * u1)), some (.long w2), none, some (.int w4), some (.int (v5 + 1))]) d_Heap_copyFrom_112 rfl rfl (by decide) rfl ?_
        refine go_goto (pc := 115) (tgt := 48) d_Heap_copyFrom_115 rfl ?_
        exact ih _ _ hk
      · replace hk := hk.2 h61
        refine go_aload_n (pc := 64) (i := 0) d_Heap_copyFrom_64 rfl rfl ?_
        refine go_getR (pc := 65) (r := 26 + 17 * u0) (sh_heap hu0) rfl fl_Heap_15 d_Heap_copyFrom_65 ?_
        refine go_aload_n (pc := 68) (i := 0) d_Heap_copyFrom_68 rfl rfl ?_
        refine go_getR (pc := 69) (r := 28 + 17 * u0) (sh_heap hu0) rfl fl_Heap_21 d_Heap_copyFrom_69 ?_
        refine go_iload (pc := 72) d_Heap_copyFrom_72 rfl ?_
        obtain ⟨hi12, hk⟩ := hk
        refine go_aldI (pc := 74) (sh_copies hu0) hi12 d_Heap_copyFrom_74 ?_
        refine go_aload_n (pc := 75) (i := 0) d_Heap_copyFrom_75 rfl rfl ?_
        refine go_getR (pc := 76) (r := 28 + 17 * u0) (sh_heap hu0) rfl fl_Heap_21 d_Heap_copyFrom_76 ?_
        refine go_aload_n (pc := 79) (i := 1) d_Heap_copyFrom_79 rfl rfl ?_
        refine go_getR (pc := 80) (r := 26 + 17 * u1) (sh_heap hu1) rfl fl_Heap_15 d_Heap_copyFrom_80 ?_
        refine go_iload (pc := 83) d_Heap_copyFrom_83 rfl ?_
        obtain ⟨hi13, hk⟩ := hk
        refine go_aldI (pc := 85) (sh_lefts hu1) hi13 d_Heap_copyFrom_85 ?_
        obtain ⟨hi14, hk⟩ := hk
        refine go_aldI (pc := 86) (sh_copies hu0) hi14 d_Heap_copyFrom_86 ?_
        obtain ⟨hi15, hk⟩ := hk
        refine go_astIn (pc := 87) (sh_lefts hu0) hi15 d_Heap_copyFrom_87 (fun μ16 e16 => ?_)
        replace hk := hk μ16 e16
        refine go_aload_n (pc := 88) (i := 0) d_Heap_copyFrom_88 rfl rfl ?_
        refine go_getR (pc := 89) (r := 27 + 17 * u0) (sh_heap hu0) rfl fl_Heap_18 d_Heap_copyFrom_89 ?_
        refine go_aload_n (pc := 92) (i := 0) d_Heap_copyFrom_92 rfl rfl ?_
        refine go_getR (pc := 93) (r := 28 + 17 * u0) (sh_heap hu0) rfl fl_Heap_21 d_Heap_copyFrom_93 ?_
        refine go_iload (pc := 96) d_Heap_copyFrom_96 rfl ?_
        obtain ⟨hi17, hk⟩ := hk
        refine go_aldI (pc := 98) (sh_copies hu0) hi17 d_Heap_copyFrom_98 ?_
        refine go_aload_n (pc := 99) (i := 0) d_Heap_copyFrom_99 rfl rfl ?_
        refine go_getR (pc := 100) (r := 28 + 17 * u0) (sh_heap hu0) rfl fl_Heap_21 d_Heap_copyFrom_100 ?_
        refine go_aload_n (pc := 103) (i := 1) d_Heap_copyFrom_103 rfl rfl ?_
        refine go_getR (pc := 104) (r := 27 + 17 * u1) (sh_heap hu1) rfl fl_Heap_18 d_Heap_copyFrom_104 ?_
        refine go_iload (pc := 107) d_Heap_copyFrom_107 rfl ?_
        obtain ⟨hi18, hk⟩ := hk
        refine go_aldI (pc := 109) (sh_rights hu1) hi18 d_Heap_copyFrom_109 ?_
        obtain ⟨hi19, hk⟩ := hk
        refine go_aldI (pc := 110) (sh_copies hu0) hi19 d_Heap_copyFrom_110 ?_
        obtain ⟨hi20, hk⟩ := hk
        refine go_astIn (pc := 111) (sh_rights hu0) hi20 d_Heap_copyFrom_111 (fun μ21 e21 => ?_)
        replace hk := hk μ21 e21
        refine go_iinc (pc := 112) (v := (v5 + 1)) (L' := [some (.ref (24 + 17 * u0)), some (.ref (24 + 17 * u1)), some (.long w2), none, some (.int w4), some (.int (v5 + 1))]) d_Heap_copyFrom_112 rfl rfl (by decide) rfl ?_
        refine go_goto (pc := 115) (tgt := 48) d_Heap_copyFrom_115 rfl ?_
        exact ih _ _ hk
def wp_Heap_copyFrom (k0 : Nat) (k1 : Nat) (a2 : Int64) (a3 : Int32) (μ : Mu) (Q : Int32 → Mu → Prop) : Prop := (∃ n4, wp_Heap_copyFrom_4 k0 k1 a2 a3 (fun v8 μ9 => (∃ n48, wp_Heap_copyFrom_48 k0 k1 a2 a3 (fun v22 μ23 => (vp_in a3 33 ∧ Q (μ23.2.1 (28 + 17 * k0) (Int32.toNatClampNeg a3)) μ23)) Q n48 (9 : Int32) μ9)) Q n4 (9 : Int32) μ)
set_option maxRecDepth 100000 in
set_option maxHeartbeats 4000000 in
theorem m_Heap_copyFrom {l : Launch} {k0 : Nat} {k1 : Nat} {a2 : Int64} {a3 : Int32} (hk0 : k0 < 4) (hk1 : k1 < 4) {μ : Mu} {Q : Int32 → Mu → Prop} (hk : wp_Heap_copyFrom k0 k1 a2 a3 μ Q) : Mets (mE l) mt_Heap_copyFrom false (rmd 2) [.ref (24 + 17 * k0), .ref (24 + 17 * k1), .long a2, .int a3] (lay μ) (PI Q) := by
  unfold wp_Heap_copyFrom at hk
  refine mets_of (L := [some (.ref (24 + 17 * k0)), some (.ref (24 + 17 * k1)), some (.long a2), none, some (.int a3), none]) (by decide) (Nat.le_of_ble_eq_true rfl) rfl ?_
  refine go_bipush (pc := 0) (v := 9) d_Heap_copyFrom_0 (by decide) ?_
  refine go_istore (pc := 2) (L' := [some (.ref (24 + 17 * k0)), some (.ref (24 + 17 * k1)), some (.long a2), none, some (.int a3), some (.int (9 : Int32))]) d_Heap_copyFrom_2 (by decide) rfl ?_
  obtain ⟨n, hk⟩ := hk
  refine g_Heap_copyFrom_4 hk0 hk1 (fun v8 μ9 hk => ?_) n _ _ hk
  · try dsimp only at hk
    refine go_bipush (pc := 44) (v := 9) d_Heap_copyFrom_44 (by decide) ?_
    refine go_istore (pc := 46) (L' := [some (.ref (24 + 17 * k0)), some (.ref (24 + 17 * k1)), some (.long a2), none, some (.int a3), some (.int (9 : Int32))]) d_Heap_copyFrom_46 (by decide) rfl ?_
    obtain ⟨n, hk⟩ := hk
    refine g_Heap_copyFrom_48 hk0 hk1 (fun v22 μ23 hk => ?_) n _ _ hk
    · try dsimp only at hk
      refine go_aload_n (pc := 118) (i := 0) d_Heap_copyFrom_118 rfl rfl ?_
      refine go_getR (pc := 119) (r := 28 + 17 * k0) (sh_heap hk0) rfl fl_Heap_21 d_Heap_copyFrom_119 ?_
      refine go_iload (pc := 122) d_Heap_copyFrom_122 rfl ?_
      obtain ⟨hi24, hk⟩ := hk
      refine go_aldI (pc := 124) (sh_copies hk0) hi24 d_Heap_copyFrom_124 ?_
      exact go_ret (pc := 125) (r := some (.int (μ23.2.1 (28 + 17 * k0) (Int32.toNatClampNeg a3)))) d_Heap_copyFrom_125 ⟨_, _, rfl, rfl, hk⟩
def wp_Ten_isAlive (k0 : Nat) (μ : Mu) (Q : Int32 → Mu → Prop) : Prop := ((((μ.1 (23 + 17 * k0) 7) = (1 : Int32)) → Q (1 : Int32) μ) ∧ ((¬ (μ.1 (23 + 17 * k0) 7) = (1 : Int32)) → (((¬ (μ.1 (23 + 17 * k0) 7) = (2 : Int32)) → Q (0 : Int32) μ) ∧ (((μ.1 (23 + 17 * k0) 7) = (2 : Int32)) → Q (1 : Int32) μ))))
set_option maxRecDepth 100000 in
set_option maxHeartbeats 4000000 in
theorem m_Ten_isAlive {l : Launch} {k0 : Nat} (hk0 : k0 < 4) {μ : Mu} {Q : Int32 → Mu → Prop} (hk : wp_Ten_isAlive k0 μ Q) : Mets (mE l) mt_Ten_isAlive false (rmd 0) [.ref (23 + 17 * k0)] (lay μ) (PI Q) := by
  unfold wp_Ten_isAlive at hk
  refine mets_of (L := [some (.ref (23 + 17 * k0))]) (by decide) (Nat.le_of_ble_eq_true rfl) rfl ?_
  refine go_aload_n (pc := 0) (i := 0) d_Ten_isAlive_0 rfl rfl ?_
  refine go_getI (pc := 1) (sh_ten hk0) rfl fl_Ten_47 d_Ten_isAlive_1 ?_
  refine go_iconst (pc := 4) (v := 1) d_Ten_isAlive_4 (by decide) ?_
  refine go_icmp_eq (pc := 5) (tgt := 16) d_Ten_isAlive_5 rfl (fun h5 => ?_) (fun h5 => ?_)
  · replace hk := hk.1 h5
    refine go_iconst (pc := 16) (v := 1) d_Ten_isAlive_16 (by decide) ?_
    refine go_goto (pc := 17) (tgt := 21) d_Ten_isAlive_17 rfl ?_
    exact go_ret (pc := 21) (r := some (.int (1 : Int32))) ⟨nar_zv (by decide), d_Ten_isAlive_21⟩ ⟨_, _, rfl, rfl, hk⟩
  · replace hk := hk.2 h5
    refine go_aload_n (pc := 8) (i := 0) d_Ten_isAlive_8 rfl rfl ?_
    refine go_getI (pc := 9) (sh_ten hk0) rfl fl_Ten_47 d_Ten_isAlive_9 ?_
    refine go_iconst (pc := 12) (v := 2) d_Ten_isAlive_12 (by decide) ?_
    refine go_icmp_ne (pc := 13) (tgt := 20) d_Ten_isAlive_13 rfl (fun h13 => ?_) (fun h13 => ?_)
    · replace hk := hk.1 h13
      refine go_iconst (pc := 20) (v := 0) d_Ten_isAlive_20 (by decide) ?_
      exact go_ret (pc := 21) (r := some (.int (0 : Int32))) ⟨nar_zv (by decide), d_Ten_isAlive_21⟩ ⟨_, _, rfl, rfl, hk⟩
    · replace hk := hk.2 h13
      refine go_iconst (pc := 16) (v := 1) d_Ten_isAlive_16 (by decide) ?_
      refine go_goto (pc := 17) (tgt := 21) d_Ten_isAlive_17 rfl ?_
      exact go_ret (pc := 21) (r := some (.int (1 : Int32))) ⟨nar_zv (by decide), d_Ten_isAlive_21⟩ ⟨_, _, rfl, rfl, hk⟩
def wp_Ten_may (k0 : Nat) (a1 : Int32) (a2 : Int32) (μ : Mu) (Q : Int32 → Mu → Prop) : Prop := (vp_in a2 4 ∧ (((((μ.2.1 (39 + 17 * k0) (Int32.toNatClampNeg a2)) &&& a1) = 0) → Q (0 : Int32) μ) ∧ ((¬ ((μ.2.1 (39 + 17 * k0) (Int32.toNatClampNeg a2)) &&& a1) = 0) → Q (1 : Int32) μ)))
set_option maxRecDepth 100000 in
set_option maxHeartbeats 4000000 in
theorem m_Ten_may {l : Launch} {k0 : Nat} {a1 : Int32} {a2 : Int32} (hk0 : k0 < 4) {μ : Mu} {Q : Int32 → Mu → Prop} (hk : wp_Ten_may k0 a1 a2 μ Q) : Mets (mE l) mt_Ten_may false (rmd 0) [.ref (23 + 17 * k0), .int a1, .int a2] (lay μ) (PI Q) := by
  unfold wp_Ten_may at hk
  refine mets_of (L := [some (.ref (23 + 17 * k0)), some (.int a1), some (.int a2)]) (by decide) (Nat.le_of_ble_eq_true rfl) rfl ?_
  refine go_aload_n (pc := 0) (i := 0) d_Ten_may_0 rfl rfl ?_
  refine go_getR (pc := 1) (r := 39 + 17 * k0) (sh_ten hk0) rfl fl_Ten_44 d_Ten_may_1 ?_
  refine go_iload_n (pc := 4) (i := 2) d_Ten_may_4 rfl rfl ?_
  obtain ⟨hi1, hk⟩ := hk
  refine go_aldI (pc := 5) (sh_perm hk0) hi1 d_Ten_may_5 ?_
  refine go_iload_n (pc := 6) (i := 1) d_Ten_may_6 rfl rfl ?_
  refine go_iand (pc := 7) d_Ten_may_7 ?_
  refine go_if_eq (pc := 8) (tgt := 15) d_Ten_may_8 rfl (fun h8 => ?_) (fun h8 => ?_)
  · replace hk := hk.1 h8
    refine go_iconst (pc := 15) (v := 0) d_Ten_may_15 (by decide) ?_
    exact go_ret (pc := 16) (r := some (.int (0 : Int32))) ⟨nar_zv (by decide), d_Ten_may_16⟩ ⟨_, _, rfl, rfl, hk⟩
  · replace hk := hk.2 h8
    refine go_iconst (pc := 11) (v := 1) d_Ten_may_11 (by decide) ?_
    refine go_goto (pc := 12) (tgt := 16) d_Ten_may_12 rfl ?_
    exact go_ret (pc := 16) (r := some (.int (1 : Int32))) ⟨nar_zv (by decide), d_Ten_may_16⟩ ⟨_, _, rfl, rfl, hk⟩
def wp_Host_sendTo_j80 (j1 : Nat) (j3 : Nat) (j4 : Int32) (j5 : Int64) (s0 : Int32) (μ : Mu)  (Q : Mu → Prop) : Prop := (((s0 = 0) → wp_Stk_take j1 μ (fun x12 μ11 => wp_Stk_putTruth j1 s0 μ11 (fun μ13 => Q μ13))) ∧ ((¬ s0 = 0) → wp_Heap_copyFrom j3 j1 j5 j4 μ (fun x15 μ14 => wp_Line_add (33 + 17 * j3) 4 x15 μ14 (fun x17 μ16 => wp_Stk_take j1 μ16 (fun x19 μ18 => wp_Stk_putTruth j1 s0 μ18 (fun μ20 => Q μ20))))))
set_option maxRecDepth 100000 in
set_option maxHeartbeats 4000000 in
theorem g_Host_sendTo_j80 {l : Launch} {j1 : Nat} {j3 : Nat} {j4 : Int32} {j5 : Int64} {s0 : Int32} (hj1 : j1 < 4) (hj3 : j3 < 4)  {Q : Mu → Prop}  {μ : Mu} (hk : wp_Host_sendTo_j80 j1 j3 j4 j5 s0 μ  Q) : Go (mE l) mt_Host_sendTo false (rmd 4) 0 0 80 [none, some (.ref (23 + 17 * j1)), none, some (.ref (23 + 17 * j3)), some (.int j4), some (.long j5), none, none] [.int s0] (lay μ) (PV Q) := by
  unfold wp_Host_sendTo_j80 at hk
  refine go_istore (pc := 80) (L' := [none, some (.ref (23 + 17 * j1)), none, some (.ref (23 + 17 * j3)), some (.int j4), some (.long j5), none, some (.int s0)]) d_Host_sendTo_80 (by decide) rfl ?_
  refine go_iload (pc := 82) d_Host_sendTo_82 rfl ?_
  refine go_if_eq (pc := 84) (tgt := 110) d_Host_sendTo_84 rfl (fun h84 => ?_) (fun h84 => ?_)
  · replace hk := hk.1 h84
    refine go_aload_n (pc := 110) (i := 1) d_Host_sendTo_110 rfl rfl ?_
    refine go_getR (pc := 111) (r := 29 + 17 * j1) (sh_ten hj1) rfl fl_Host_205 d_Host_sendTo_111 ?_
    refine go_callV (pc := 114) (m_Stk_take hj1 hk) cz_Stk_take cv_Stk_take (Or.inl lk_Host_226) (lay_at (sh_stack hj1)) rfl rfl rfl (Nat.le_of_ble_eq_true rfl) ⟨by decide, by decide⟩ rfl rfl d_Host_sendTo_114 (fun r M' hr => ?_)
    obtain ⟨x12, μ11, rfl, rfl, hk⟩ := hr
    try dsimp only [Option.toList, List.cons_append, List.nil_append]
    refine go_pop (pc := 117) d_Host_sendTo_117 rfl ?_
    refine go_aload_n (pc := 118) (i := 1) d_Host_sendTo_118 rfl rfl ?_
    refine go_getR (pc := 119) (r := 29 + 17 * j1) (sh_ten hj1) rfl fl_Host_205 d_Host_sendTo_119 ?_
    refine go_iload (pc := 122) d_Host_sendTo_122 rfl ?_
    refine go_callV (pc := 124) (m_Stk_putTruth hj1 hk) cz_Stk_putTruth cv_Stk_putTruth (Or.inl lk_Host_266) (lay_at (sh_stack hj1)) rfl rfl rfl (Nat.le_of_ble_eq_true rfl) ⟨by decide, by decide⟩ rfl rfl d_Host_sendTo_124 (fun r M' hr => ?_)
    obtain ⟨μ13, rfl, rfl, hk⟩ := hr
    try dsimp only [Option.toList, List.cons_append, List.nil_append]
    exact go_ret (pc := 127) (r := none) d_Host_sendTo_127 ⟨_, rfl, rfl, hk⟩
  · replace hk := hk.2 h84
    refine go_aload_n (pc := 87) (i := 3) d_Host_sendTo_87 rfl rfl ?_
    refine go_getR (pc := 88) (r := 33 + 17 * j3) (sh_ten hj3) rfl fl_Host_148 d_Host_sendTo_88 ?_
    refine go_aload_n (pc := 91) (i := 3) d_Host_sendTo_91 rfl rfl ?_
    refine go_getR (pc := 92) (r := 24 + 17 * j3) (sh_ten hj3) rfl fl_Host_69 d_Host_sendTo_92 ?_
    refine go_aload_n (pc := 95) (i := 1) d_Host_sendTo_95 rfl rfl ?_
    refine go_getR (pc := 96) (r := 24 + 17 * j1) (sh_ten hj1) rfl fl_Host_69 d_Host_sendTo_96 ?_
    refine go_lload (pc := 99) d_Host_sendTo_99 rfl ?_
    refine go_iload (pc := 101) d_Host_sendTo_101 rfl ?_
    refine go_callV (pc := 103) (m_Heap_copyFrom hj3 hj1 hk) cz_Heap_copyFrom cv_Heap_copyFrom (Or.inl lk_Host_293) (lay_at (sh_heap hj3)) rfl rfl rfl (Nat.le_of_ble_eq_true rfl) ⟨by decide, by decide⟩ rfl rfl d_Host_sendTo_103 (fun r M' hr => ?_)
    obtain ⟨x15, μ14, rfl, rfl, hk⟩ := hr
    try dsimp only [Option.toList, List.cons_append, List.nil_append]
    refine go_callV (pc := 106) (m_Line_add (isl_mail hj3) hk) cz_Line_add cv_Line_add (Or.inl lk_Host_110) (lay_at (isl_mail hj3).1) rfl rfl rfl (Nat.le_of_ble_eq_true rfl) ⟨by decide, by decide⟩ rfl rfl d_Host_sendTo_106 (fun r M' hr => ?_)
    obtain ⟨x17, μ16, rfl, rfl, hk⟩ := hr
    try dsimp only [Option.toList, List.cons_append, List.nil_append]
    refine go_pop (pc := 109) d_Host_sendTo_109 rfl ?_
    refine go_aload_n (pc := 110) (i := 1) d_Host_sendTo_110 rfl rfl ?_
    refine go_getR (pc := 111) (r := 29 + 17 * j1) (sh_ten hj1) rfl fl_Host_205 d_Host_sendTo_111 ?_
    refine go_callV (pc := 114) (m_Stk_take hj1 hk) cz_Stk_take cv_Stk_take (Or.inl lk_Host_226) (lay_at (sh_stack hj1)) rfl rfl rfl (Nat.le_of_ble_eq_true rfl) ⟨by decide, by decide⟩ rfl rfl d_Host_sendTo_114 (fun r M' hr => ?_)
    obtain ⟨x19, μ18, rfl, rfl, hk⟩ := hr
    try dsimp only [Option.toList, List.cons_append, List.nil_append]
    refine go_pop (pc := 117) d_Host_sendTo_117 rfl ?_
    refine go_aload_n (pc := 118) (i := 1) d_Host_sendTo_118 rfl rfl ?_
    refine go_getR (pc := 119) (r := 29 + 17 * j1) (sh_ten hj1) rfl fl_Host_205 d_Host_sendTo_119 ?_
    refine go_iload (pc := 122) d_Host_sendTo_122 rfl ?_
    refine go_callV (pc := 124) (m_Stk_putTruth hj1 hk) cz_Stk_putTruth cv_Stk_putTruth (Or.inl lk_Host_266) (lay_at (sh_stack hj1)) rfl rfl rfl (Nat.le_of_ble_eq_true rfl) ⟨by decide, by decide⟩ rfl rfl d_Host_sendTo_124 (fun r M' hr => ?_)
    obtain ⟨μ20, rfl, rfl, hk⟩ := hr
    try dsimp only [Option.toList, List.cons_append, List.nil_append]
    exact go_ret (pc := 127) (r := none) d_Host_sendTo_127 ⟨_, rfl, rfl, hk⟩
def wp_Host_sendTo_j79 (j1 : Nat) (j3 : Nat) (j4 : Int32) (j5 : Int64) (μ : Mu)  (Q : Mu → Prop) : Prop := wp_Host_sendTo_j80 j1 j3 j4 j5 (0 : Int32) μ  Q
set_option maxRecDepth 100000 in
set_option maxHeartbeats 4000000 in
theorem g_Host_sendTo_j79 {l : Launch} {j1 : Nat} {j3 : Nat} {j4 : Int32} {j5 : Int64} (hj1 : j1 < 4) (hj3 : j3 < 4)  {Q : Mu → Prop}  {μ : Mu} (hk : wp_Host_sendTo_j79 j1 j3 j4 j5 μ  Q) : Go (mE l) mt_Host_sendTo false (rmd 4) 0 0 79 [none, some (.ref (23 + 17 * j1)), none, some (.ref (23 + 17 * j3)), some (.int j4), some (.long j5), none, none] [] (lay μ) (PV Q) := by
  unfold wp_Host_sendTo_j79 at hk
  refine go_iconst (pc := 79) (v := 0) d_Host_sendTo_79 (by decide) ?_
  exact g_Host_sendTo_j80 hj1 hj3  hk
def wp_Host_sendTo (k1 : Nat) (a2 : Int32) (μ : Mu) (Q : Mu → Prop) : Prop := wp_Ten_may k1 (1 : Int32) a2 μ (fun x2 μ1 => (((¬ x2 = 0) → (vp_in a2 4 ∧ wp_Stk_top k1 μ1 (fun x6 μ5 => wp_Heap_reachedFrom k1 ((1 : Int64) <<< (Int32.toInt64 x6 &&& 63)) μ5 (fun x8 μ7 => wp_Ten_isAlive (Int32.toNatClampNeg a2) μ7 (fun x10 μ9 => (((x10 = 0) → wp_Host_sendTo_j79 k1 (Int32.toNatClampNeg a2) x6 x8 μ9  Q) ∧ ((¬ x10 = 0) → wp_Line_isFull (33 + 17 * (Int32.toNatClampNeg a2)) 4 μ9 (fun x22 μ21 => (((¬ x22 = 0) → wp_Host_sendTo_j79 k1 (Int32.toNatClampNeg a2) x6 x8 μ21  Q) ∧ ((x22 = 0) → wp_JL_bitCount x8 μ21 (fun x24 μ23 => wp_Ten_hasRoom (Int32.toNatClampNeg a2) x24 μ23 (fun x26 μ25 => (((x26 = 0) → wp_Host_sendTo_j79 k1 (Int32.toNatClampNeg a2) x6 x8 μ25  Q) ∧ ((¬ x26 = 0) → wp_Host_sendTo_j80 k1 (Int32.toNatClampNeg a2) x6 x8 (1 : Int32) μ25  Q)))))))))))))) ∧ ((x2 = 0) → wp_Host_end k1 (10 : Int32) μ1 (fun μ27 => Q μ27))))
set_option maxRecDepth 100000 in
set_option maxHeartbeats 4000000 in
theorem m_Host_sendTo {l : Launch} {k1 : Nat} {a2 : Int32} (hk1 : k1 < 4) {μ : Mu} {Q : Mu → Prop} (hk : wp_Host_sendTo k1 a2 μ Q) : Mets (mE l) mt_Host_sendTo false (rmd 4) [.ref 0, .ref (23 + 17 * k1), .int a2] (lay μ) (PV Q) := by
  unfold wp_Host_sendTo at hk
  refine mets_of (L := [some (.ref 0), some (.ref (23 + 17 * k1)), some (.int a2), none, none, none, none, none]) (by decide) (Nat.le_of_ble_eq_true rfl) rfl ?_
  refine go_aload_n (pc := 0) (i := 1) d_Host_sendTo_0 rfl rfl ?_
  refine go_iconst (pc := 1) (v := 1) d_Host_sendTo_1 (by decide) ?_
  refine go_iload_n (pc := 2) (i := 2) d_Host_sendTo_2 rfl rfl ?_
  refine go_callV (pc := 3) (m_Ten_may hk1 hk) cz_Ten_may cv_Ten_may (Or.inl lk_Host_280) (lay_at (sh_ten hk1)) rfl rfl rfl (Nat.le_of_ble_eq_true rfl) ⟨by decide, by decide⟩ rfl rfl d_Host_sendTo_3 (fun r M' hr => ?_)
  obtain ⟨x2, μ1, rfl, rfl, hk⟩ := hr
  try dsimp only [Option.toList, List.cons_append, List.nil_append]
  refine go_if_ne (pc := 6) (tgt := 17) d_Host_sendTo_6 rfl (fun h6 => ?_) (fun h6 => ?_)
  · replace hk := hk.1 h6
    refine go_aload_n (pc := 17) (i := 0) d_Host_sendTo_17 rfl rfl ?_
    refine go_getR (pc := 18) (r := 2) sh_host rfl fl_Host_17 d_Host_sendTo_18 ?_
    refine go_iload_n (pc := 21) (i := 2) d_Host_sendTo_21 rfl rfl ?_
    obtain ⟨hi3, hk⟩ := hk
    have ht4 : (Int32.toNatClampNeg a2) < 4 := in_lt (n := 4) hi3
    refine go_aldR (pc := 22) (r := 23 + 17 * (Int32.toNatClampNeg a2)) sh_tenants rfl hi3 (ten_at ht4) d_Host_sendTo_22 ?_
    refine go_astore_n (pc := 23) (i := 3) (L' := [some (.ref 0), some (.ref (23 + 17 * k1)), some (.int a2), some (.ref (23 + 17 * (Int32.toNatClampNeg a2))), none, none, none, none]) d_Host_sendTo_23 rfl (by decide) rfl ?_
    refine go_aload_n (pc := 24) (i := 1) d_Host_sendTo_24 rfl rfl ?_
    refine go_getR (pc := 25) (r := 29 + 17 * k1) (sh_ten hk1) rfl fl_Host_205 d_Host_sendTo_25 ?_
    refine go_callV (pc := 28) (m_Stk_top hk1 hk) cz_Stk_top cv_Stk_top (Or.inl lk_Host_283) (lay_at (sh_stack hk1)) rfl rfl rfl (Nat.le_of_ble_eq_true rfl) ⟨by decide, by decide⟩ rfl rfl d_Host_sendTo_28 (fun r M' hr => ?_)
    obtain ⟨x6, μ5, rfl, rfl, hk⟩ := hr
    try dsimp only [Option.toList, List.cons_append, List.nil_append]
    refine go_istore (pc := 31) (L' := [some (.ref 0), some (.ref (23 + 17 * k1)), some (.int a2), some (.ref (23 + 17 * (Int32.toNatClampNeg a2))), some (.int x6), none, none, none]) d_Host_sendTo_31 (by decide) rfl ?_
    refine go_aload_n (pc := 33) (i := 1) d_Host_sendTo_33 rfl rfl ?_
    refine go_getR (pc := 34) (r := 24 + 17 * k1) (sh_ten hk1) rfl fl_Host_69 d_Host_sendTo_34 ?_
    refine go_lconst (pc := 37) (v := 1) d_Host_sendTo_37 (by decide) ?_
    refine go_iload (pc := 38) d_Host_sendTo_38 rfl ?_
    refine go_lshl (pc := 40) d_Host_sendTo_40 ?_
    refine go_callV (pc := 41) (m_Heap_reachedFrom hk1 hk) cz_Heap_reachedFrom cv_Heap_reachedFrom (Or.inl lk_Host_286) (lay_at (sh_heap hk1)) rfl rfl rfl (Nat.le_of_ble_eq_true rfl) ⟨by decide, by decide⟩ rfl rfl d_Host_sendTo_41 (fun r M' hr => ?_)
    obtain ⟨x8, μ7, rfl, rfl, hk⟩ := hr
    try dsimp only [Option.toList, List.cons_append, List.nil_append]
    refine go_lstore (pc := 44) (L' := [some (.ref 0), some (.ref (23 + 17 * k1)), some (.int a2), some (.ref (23 + 17 * (Int32.toNatClampNeg a2))), some (.int x6), some (.long x8), none, none]) d_Host_sendTo_44 (by decide) rfl ?_
    refine go_aload_n (pc := 46) (i := 3) d_Host_sendTo_46 rfl rfl ?_
    refine go_callV (pc := 47) (m_Ten_isAlive ht4 hk) cz_Ten_isAlive cv_Ten_isAlive (Or.inl lk_Host_182) (lay_at (sh_ten ht4)) rfl rfl rfl (Nat.le_of_ble_eq_true rfl) ⟨by decide, by decide⟩ rfl rfl d_Host_sendTo_47 (fun r M' hr => ?_)
    obtain ⟨x10, μ9, rfl, rfl, hk⟩ := hr
    try dsimp only [Option.toList, List.cons_append, List.nil_append]
    refine go_if_eq (pc := 50) (tgt := 79) d_Host_sendTo_50 rfl (fun h50 => ?_) (fun h50 => ?_)
    · replace hk := hk.1 h50
      refine go_weak (L' := [none, some (.ref (23 + 17 * k1)), none, some (.ref (23 + 17 * (Int32.toNatClampNeg a2))), some (.int x6), some (.long x8), none, none]) (lle_at (by simp [lle])) ?_
      exact g_Host_sendTo_j79 hk1 ht4  hk
    · replace hk := hk.2 h50
      refine go_aload_n (pc := 53) (i := 3) d_Host_sendTo_53 rfl rfl ?_
      refine go_getR (pc := 54) (r := 33 + 17 * (Int32.toNatClampNeg a2)) (sh_ten ht4) rfl fl_Host_148 d_Host_sendTo_54 ?_
      refine go_callV (pc := 57) (m_Line_isFull (isl_mail ht4) hk) cz_Line_isFull cv_Line_isFull (Or.inl lk_Host_290) (lay_at (isl_mail ht4).1) rfl rfl rfl (Nat.le_of_ble_eq_true rfl) ⟨by decide, by decide⟩ rfl rfl d_Host_sendTo_57 (fun r M' hr => ?_)
      obtain ⟨x22, μ21, rfl, rfl, hk⟩ := hr
      try dsimp only [Option.toList, List.cons_append, List.nil_append]
      refine go_if_ne (pc := 60) (tgt := 79) d_Host_sendTo_60 rfl (fun h60 => ?_) (fun h60 => ?_)
      · replace hk := hk.1 h60
        refine go_weak (L' := [none, some (.ref (23 + 17 * k1)), none, some (.ref (23 + 17 * (Int32.toNatClampNeg a2))), some (.int x6), some (.long x8), none, none]) (lle_at (by simp [lle])) ?_
        exact g_Host_sendTo_j79 hk1 ht4  hk
      · replace hk := hk.2 h60
        refine go_aload_n (pc := 63) (i := 3) d_Host_sendTo_63 rfl rfl ?_
        refine go_lload (pc := 64) d_Host_sendTo_64 rfl ?_
        refine go_callS (pc := 66) (m_JL_bitCount  hk) cz_JL_bitCount sm_JL_bitCount (Or.inl lk_Host_132) rfl rfl (Nat.le_of_ble_eq_true rfl) ⟨by decide, by decide⟩ rfl rfl d_Host_sendTo_66 (fun r M' hr => ?_)
        obtain ⟨x24, μ23, rfl, rfl, hk⟩ := hr
        try dsimp only [Option.toList, List.cons_append, List.nil_append]
        refine go_callV (pc := 69) (m_Ten_hasRoom ht4 hk) cz_Ten_hasRoom cv_Ten_hasRoom (Or.inl lk_Host_270) (lay_at (sh_ten ht4)) rfl rfl rfl (Nat.le_of_ble_eq_true rfl) ⟨by decide, by decide⟩ rfl rfl d_Host_sendTo_69 (fun r M' hr => ?_)
        obtain ⟨x26, μ25, rfl, rfl, hk⟩ := hr
        try dsimp only [Option.toList, List.cons_append, List.nil_append]
        refine go_if_eq (pc := 72) (tgt := 79) d_Host_sendTo_72 rfl (fun h72 => ?_) (fun h72 => ?_)
        · replace hk := hk.1 h72
          refine go_weak (L' := [none, some (.ref (23 + 17 * k1)), none, some (.ref (23 + 17 * (Int32.toNatClampNeg a2))), some (.int x6), some (.long x8), none, none]) (lle_at (by simp [lle])) ?_
          exact g_Host_sendTo_j79 hk1 ht4  hk
        · replace hk := hk.2 h72
          refine go_iconst (pc := 75) (v := 1) d_Host_sendTo_75 (by decide) ?_
          refine go_goto (pc := 76) (tgt := 80) d_Host_sendTo_76 rfl ?_
          refine go_weak (L' := [none, some (.ref (23 + 17 * k1)), none, some (.ref (23 + 17 * (Int32.toNatClampNeg a2))), some (.int x6), some (.long x8), none, none]) (lle_at (by simp [lle])) ?_
          exact g_Host_sendTo_j80 hk1 ht4  hk
  · replace hk := hk.2 h6
    refine go_aload_n (pc := 9) (i := 0) d_Host_sendTo_9 rfl rfl ?_
    refine go_aload_n (pc := 10) (i := 1) d_Host_sendTo_10 rfl rfl ?_
    refine go_bipush (pc := 11) (v := 10) d_Host_sendTo_11 (by decide) ?_
    refine go_callV (pc := 13) (m_Host_end hk1 hk) cz_Host_end cv_Host_end (Or.inl lk_Host_185) (lay_at sh_host) rfl rfl rfl (Nat.le_of_ble_eq_true rfl) ⟨by decide, by decide⟩ rfl rfl d_Host_sendTo_13 (fun r M' hr => ?_)
    obtain ⟨μ27, rfl, rfl, hk⟩ := hr
    try dsimp only [Option.toList, List.cons_append, List.nil_append]
    exact go_ret (pc := 16) (r := none) d_Host_sendTo_16 ⟨_, rfl, rfl, hk⟩
