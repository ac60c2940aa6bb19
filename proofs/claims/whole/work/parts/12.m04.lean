def wp_Host_setPart (k1 : Nat) (a2 : Int32) (μ : Mu) (Q : Mu → Prop) : Prop := wp_Stk_take k1 μ (fun x2 μ1 => wp_Stk_take k1 μ1 (fun x4 μ3 => (((¬ x4 = 0) → ((((9 : Int32) ≤ x4) → wp_Heap_rowOf k1 a2 μ3 (fun x6 μ5 => (shapes[x6]? = some (.inl (0, 33, [])) ∧ (vp_in x4 33 ∧ ∀ μ9 : Mu, μ9 = setA μ5 x6 (Int32.toNatClampNeg x4) x2 → Q μ9)))) ∧ ((¬ (9 : Int32) ≤ x4) → wp_Host_end k1 (8 : Int32) μ3 (fun μ10 => Q μ10)))) ∧ ((x4 = 0) → wp_Host_end k1 (7 : Int32) μ3 (fun μ11 => Q μ11)))))
set_option maxRecDepth 100000 in
set_option maxHeartbeats 4000000 in
theorem m_Host_setPart {l : Launch} {k1 : Nat} {a2 : Int32} (hk1 : k1 < 4) {μ : Mu} {Q : Mu → Prop} (hk : wp_Host_setPart k1 a2 μ Q) : Mets (mE l) mt_Host_setPart false (rmd 3) [.ref 0, .ref (23 + 17 * k1), .int a2] (lay μ) (PV Q) := by
  unfold wp_Host_setPart at hk
  refine mets_of (L := [some (.ref 0), some (.ref (23 + 17 * k1)), some (.int a2), none, none]) (by decide) (Nat.le_of_ble_eq_true rfl) rfl ?_
  refine go_aload_n (pc := 0) (i := 1) d_Host_setPart_0 rfl rfl ?_
  refine go_getR (pc := 1) (r := 29 + 17 * k1) (sh_ten hk1) rfl fl_Host_205 d_Host_setPart_1 ?_
  refine go_callV (pc := 4) (m_Stk_take hk1 hk) cz_Stk_take cv_Stk_take (Or.inl lk_Host_226) (lay_at (sh_stack hk1)) rfl rfl rfl (Nat.le_of_ble_eq_true rfl) ⟨by decide, by decide⟩ rfl rfl d_Host_setPart_4 (fun r M' hr => ?_)
  obtain ⟨x2, μ1, rfl, rfl, hk⟩ := hr
  try dsimp only [Option.toList, List.cons_append, List.nil_append]
  refine go_istore_n (pc := 7) (i := 3) (L' := [some (.ref 0), some (.ref (23 + 17 * k1)), some (.int a2), some (.int x2), none]) d_Host_setPart_7 rfl (by decide) rfl ?_
  refine go_aload_n (pc := 8) (i := 1) d_Host_setPart_8 rfl rfl ?_
  refine go_getR (pc := 9) (r := 29 + 17 * k1) (sh_ten hk1) rfl fl_Host_205 d_Host_setPart_9 ?_
  refine go_callV (pc := 12) (m_Stk_take hk1 hk) cz_Stk_take cv_Stk_take (Or.inl lk_Host_226) (lay_at (sh_stack hk1)) rfl rfl rfl (Nat.le_of_ble_eq_true rfl) ⟨by decide, by decide⟩ rfl rfl d_Host_setPart_12 (fun r M' hr => ?_)
  obtain ⟨x4, μ3, rfl, rfl, hk⟩ := hr
  try dsimp only [Option.toList, List.cons_append, List.nil_append]
  refine go_istore (pc := 15) (L' := [some (.ref 0), some (.ref (23 + 17 * k1)), some (.int a2), some (.int x2), some (.int x4)]) d_Host_setPart_15 (by decide) rfl ?_
  refine go_iload (pc := 17) d_Host_setPart_17 rfl ?_
  refine go_if_ne (pc := 19) (tgt := 32) d_Host_setPart_19 rfl (fun h19 => ?_) (fun h19 => ?_)
  · replace hk := hk.1 h19
    refine go_iload (pc := 32) d_Host_setPart_32 rfl ?_
    refine go_bipush (pc := 34) (v := 9) d_Host_setPart_34 (by decide) ?_
    refine go_icmp_ge (pc := 36) (tgt := 49) d_Host_setPart_36 rfl (fun h36 => ?_) (fun h36 => ?_)
    · replace hk := hk.1 h36
      refine go_aload_n (pc := 49) (i := 1) d_Host_setPart_49 rfl rfl ?_
      refine go_getR (pc := 50) (r := 24 + 17 * k1) (sh_ten hk1) rfl fl_Host_69 d_Host_setPart_50 ?_
      refine go_iload_n (pc := 53) (i := 2) d_Host_setPart_53 rfl rfl ?_
      refine go_callV (pc := 54) (m_Heap_rowOf hk1 hk) cz_Heap_rowOf cv_Heap_rowOf (Or.inl lk_Host_276) (lay_at (sh_heap hk1)) rfl rfl rfl (Nat.le_of_ble_eq_true rfl) ⟨by decide, by decide⟩ rfl rfl d_Host_setPart_54 (fun r M' hr => ?_)
      obtain ⟨x6, μ5, rfl, rfl, hk⟩ := hr
      try dsimp only [Option.toList, List.cons_append, List.nil_append]
      refine go_iload (pc := 57) d_Host_setPart_57 rfl ?_
      refine go_iload_n (pc := 59) (i := 3) d_Host_setPart_59 rfl rfl ?_
      obtain ⟨hr7, hk⟩ := hk
      obtain ⟨hi8, hk⟩ := hk
      refine go_astIn (pc := 60) hr7 hi8 d_Host_setPart_60 (fun μ9 e9 => ?_)
      replace hk := hk μ9 e9
      exact go_ret (pc := 61) (r := none) d_Host_setPart_61 ⟨_, rfl, rfl, hk⟩
    · replace hk := hk.2 h36
      refine go_aload_n (pc := 39) (i := 0) d_Host_setPart_39 rfl rfl ?_
      refine go_aload_n (pc := 40) (i := 1) d_Host_setPart_40 rfl rfl ?_
      refine go_bipush (pc := 41) (v := 8) d_Host_setPart_41 (by decide) ?_
      refine go_callV (pc := 43) (m_Host_end hk1 hk) cz_Host_end cv_Host_end (Or.inl lk_Host_185) (lay_at sh_host) rfl rfl rfl (Nat.le_of_ble_eq_true rfl) ⟨by decide, by decide⟩ rfl rfl d_Host_setPart_43 (fun r M' hr => ?_)
      obtain ⟨μ10, rfl, rfl, hk⟩ := hr
      try dsimp only [Option.toList, List.cons_append, List.nil_append]
      refine go_goto (pc := 46) (tgt := 61) d_Host_setPart_46 rfl ?_
      exact go_ret (pc := 61) (r := none) d_Host_setPart_61 ⟨_, rfl, rfl, hk⟩
  · replace hk := hk.2 h19
    refine go_aload_n (pc := 22) (i := 0) d_Host_setPart_22 rfl rfl ?_
    refine go_aload_n (pc := 23) (i := 1) d_Host_setPart_23 rfl rfl ?_
    refine go_bipush (pc := 24) (v := 7) d_Host_setPart_24 (by decide) ?_
    refine go_callV (pc := 26) (m_Host_end hk1 hk) cz_Host_end cv_Host_end (Or.inl lk_Host_185) (lay_at sh_host) rfl rfl rfl (Nat.le_of_ble_eq_true rfl) ⟨by decide, by decide⟩ rfl rfl d_Host_setPart_26 (fun r M' hr => ?_)
    obtain ⟨μ11, rfl, rfl, hk⟩ := hr
    try dsimp only [Option.toList, List.cons_append, List.nil_append]
    refine go_goto (pc := 29) (tgt := 61) d_Host_setPart_29 rfl ?_
    exact go_ret (pc := 61) (r := none) d_Host_setPart_61 ⟨_, rfl, rfl, hk⟩
def wp_Host_startOther (k1 : Nat) (a2 : Int32) (μ : Mu) (Q : Mu → Prop) : Prop := wp_Ten_may k1 (2 : Int32) a2 μ (fun x2 μ1 => (((x2 = 0) → wp_Host_end k1 (10 : Int32) μ1 (fun μ3 => Q μ3)) ∧ ((¬ x2 = 0) → wp_Stk_take k1 μ1 (fun x5 μ4 => (vp_in a2 4 ∧ wp_Host_begin (Int32.toNatClampNeg a2) x5 μ4 (fun x9 μ8 => wp_Stk_putTruth k1 x9 μ8 (fun μ10 => Q μ10)))))))
set_option maxRecDepth 100000 in
set_option maxHeartbeats 4000000 in
theorem m_Host_startOther {l : Launch} {k1 : Nat} {a2 : Int32} (hk1 : k1 < 4) {μ : Mu} {Q : Mu → Prop} (hk : wp_Host_startOther k1 a2 μ Q) : Mets (mE l) mt_Host_startOther false (rmd 3) [.ref 0, .ref (23 + 17 * k1), .int a2] (lay μ) (PV Q) := by
  unfold wp_Host_startOther at hk
  refine mets_of (L := [some (.ref 0), some (.ref (23 + 17 * k1)), some (.int a2), none]) (by decide) (Nat.le_of_ble_eq_true rfl) rfl ?_
  refine go_aload_n (pc := 0) (i := 1) d_Host_startOther_0 rfl rfl ?_
  refine go_iconst (pc := 1) (v := 2) d_Host_startOther_1 (by decide) ?_
  refine go_iload_n (pc := 2) (i := 2) d_Host_startOther_2 rfl rfl ?_
  refine go_callV (pc := 3) (m_Ten_may hk1 hk) cz_Ten_may cv_Ten_may (Or.inl lk_Host_280) (lay_at (sh_ten hk1)) rfl rfl rfl (Nat.le_of_ble_eq_true rfl) ⟨by decide, by decide⟩ rfl rfl d_Host_startOther_3 (fun r M' hr => ?_)
  obtain ⟨x2, μ1, rfl, rfl, hk⟩ := hr
  try dsimp only [Option.toList, List.cons_append, List.nil_append]
  refine go_if_eq (pc := 6) (tgt := 38) d_Host_startOther_6 rfl (fun h6 => ?_) (fun h6 => ?_)
  · replace hk := hk.1 h6
    refine go_aload_n (pc := 38) (i := 0) d_Host_startOther_38 rfl rfl ?_
    refine go_aload_n (pc := 39) (i := 1) d_Host_startOther_39 rfl rfl ?_
    refine go_bipush (pc := 40) (v := 10) d_Host_startOther_40 (by decide) ?_
    refine go_callV (pc := 42) (m_Host_end hk1 hk) cz_Host_end cv_Host_end (Or.inl lk_Host_185) (lay_at sh_host) rfl rfl rfl (Nat.le_of_ble_eq_true rfl) ⟨by decide, by decide⟩ rfl rfl d_Host_startOther_42 (fun r M' hr => ?_)
    obtain ⟨μ3, rfl, rfl, hk⟩ := hr
    try dsimp only [Option.toList, List.cons_append, List.nil_append]
    exact go_ret (pc := 45) (r := none) d_Host_startOther_45 ⟨_, rfl, rfl, hk⟩
  · replace hk := hk.2 h6
    refine go_aload_n (pc := 9) (i := 1) d_Host_startOther_9 rfl rfl ?_
    refine go_getR (pc := 10) (r := 29 + 17 * k1) (sh_ten hk1) rfl fl_Host_205 d_Host_startOther_10 ?_
    refine go_callV (pc := 13) (m_Stk_take hk1 hk) cz_Stk_take cv_Stk_take (Or.inl lk_Host_226) (lay_at (sh_stack hk1)) rfl rfl rfl (Nat.le_of_ble_eq_true rfl) ⟨by decide, by decide⟩ rfl rfl d_Host_startOther_13 (fun r M' hr => ?_)
    obtain ⟨x5, μ4, rfl, rfl, hk⟩ := hr
    try dsimp only [Option.toList, List.cons_append, List.nil_append]
    refine go_istore_n (pc := 16) (i := 3) (L' := [some (.ref 0), some (.ref (23 + 17 * k1)), some (.int a2), some (.int x5)]) d_Host_startOther_16 rfl (by decide) rfl ?_
    refine go_aload_n (pc := 17) (i := 1) d_Host_startOther_17 rfl rfl ?_
    refine go_getR (pc := 18) (r := 29 + 17 * k1) (sh_ten hk1) rfl fl_Host_205 d_Host_startOther_18 ?_
    refine go_aload_n (pc := 21) (i := 0) d_Host_startOther_21 rfl rfl ?_
    refine go_aload_n (pc := 22) (i := 0) d_Host_startOther_22 rfl rfl ?_
    refine go_getR (pc := 23) (r := 2) sh_host rfl fl_Host_17 d_Host_startOther_23 ?_
    refine go_iload_n (pc := 26) (i := 2) d_Host_startOther_26 rfl rfl ?_
    obtain ⟨hi6, hk⟩ := hk
    have ht7 : (Int32.toNatClampNeg a2) < 4 := in_lt (n := 4) hi6
    refine go_aldR (pc := 27) (r := 23 + 17 * (Int32.toNatClampNeg a2)) sh_tenants rfl hi6 (ten_at ht7) d_Host_startOther_27 ?_
    refine go_iload_n (pc := 28) (i := 3) d_Host_startOther_28 rfl rfl ?_
    refine go_callV (pc := 29) (m_Host_begin ht7 hk) cz_Host_begin cv_Host_begin (Or.inl lk_Host_102) (lay_at sh_host) rfl rfl rfl (Nat.le_of_ble_eq_true rfl) ⟨by decide, by decide⟩ rfl rfl d_Host_startOther_29 (fun r M' hr => ?_)
    obtain ⟨x9, μ8, rfl, rfl, hk⟩ := hr
    try dsimp only [Option.toList, List.cons_append, List.nil_append]
    refine go_callV (pc := 32) (m_Stk_putTruth hk1 hk) cz_Stk_putTruth cv_Stk_putTruth (Or.inl lk_Host_266) (lay_at (sh_stack hk1)) rfl rfl rfl (Nat.le_of_ble_eq_true rfl) ⟨by decide, by decide⟩ rfl rfl d_Host_startOther_32 (fun r M' hr => ?_)
    obtain ⟨μ10, rfl, rfl, hk⟩ := hr
    try dsimp only [Option.toList, List.cons_append, List.nil_append]
    refine go_goto (pc := 35) (tgt := 45) d_Host_startOther_35 rfl ?_
    exact go_ret (pc := 45) (r := none) d_Host_startOther_45 ⟨_, rfl, rfl, hk⟩
def wp_Host_stopOther (k1 : Nat) (a2 : Int32) (μ : Mu) (Q : Mu → Prop) : Prop := wp_Ten_may k1 (4 : Int32) a2 μ (fun x2 μ1 => (((¬ x2 = 0) → (vp_in a2 4 ∧ wp_Ten_isAlive (Int32.toNatClampNeg a2) μ1 (fun x6 μ5 => (((x6 = 0) → wp_Ten_isAlive k1 μ5 (fun x8 μ7 => (((x8 = 0) → Q μ7) ∧ ((¬ x8 = 0) → wp_Stk_putTruth k1 x6 μ7 (fun μ9 => Q μ9))))) ∧ ((¬ x6 = 0) → wp_Host_end (Int32.toNatClampNeg a2) (4 : Int32) μ5 (fun μ10 => wp_Ten_isAlive k1 μ10 (fun x12 μ11 => (((x12 = 0) → Q μ11) ∧ ((¬ x12 = 0) → wp_Stk_putTruth k1 x6 μ11 (fun μ13 => Q μ13)))))))))) ∧ ((x2 = 0) → wp_Host_end k1 (10 : Int32) μ1 (fun μ14 => Q μ14))))
set_option maxRecDepth 100000 in
set_option maxHeartbeats 4000000 in
theorem m_Host_stopOther {l : Launch} {k1 : Nat} {a2 : Int32} (hk1 : k1 < 4) {μ : Mu} {Q : Mu → Prop} (hk : wp_Host_stopOther k1 a2 μ Q) : Mets (mE l) mt_Host_stopOther false (rmd 3) [.ref 0, .ref (23 + 17 * k1), .int a2] (lay μ) (PV Q) := by
  unfold wp_Host_stopOther at hk
  refine mets_of (L := [some (.ref 0), some (.ref (23 + 17 * k1)), some (.int a2), none, none]) (by decide) (Nat.le_of_ble_eq_true rfl) rfl ?_
  refine go_aload_n (pc := 0) (i := 1) d_Host_stopOther_0 rfl rfl ?_
  refine go_iconst (pc := 1) (v := 4) d_Host_stopOther_1 (by decide) ?_
  refine go_iload_n (pc := 2) (i := 2) d_Host_stopOther_2 rfl rfl ?_
  refine go_callV (pc := 3) (m_Ten_may hk1 hk) cz_Ten_may cv_Ten_may (Or.inl lk_Host_280) (lay_at (sh_ten hk1)) rfl rfl rfl (Nat.le_of_ble_eq_true rfl) ⟨by decide, by decide⟩ rfl rfl d_Host_stopOther_3 (fun r M' hr => ?_)
  obtain ⟨x2, μ1, rfl, rfl, hk⟩ := hr
  try dsimp only [Option.toList, List.cons_append, List.nil_append]
  refine go_if_ne (pc := 6) (tgt := 17) d_Host_stopOther_6 rfl (fun h6 => ?_) (fun h6 => ?_)
  · replace hk := hk.1 h6
    refine go_aload_n (pc := 17) (i := 0) d_Host_stopOther_17 rfl rfl ?_
    refine go_getR (pc := 18) (r := 2) sh_host rfl fl_Host_17 d_Host_stopOther_18 ?_
    refine go_iload_n (pc := 21) (i := 2) d_Host_stopOther_21 rfl rfl ?_
    obtain ⟨hi3, hk⟩ := hk
    have ht4 : (Int32.toNatClampNeg a2) < 4 := in_lt (n := 4) hi3
    refine go_aldR (pc := 22) (r := 23 + 17 * (Int32.toNatClampNeg a2)) sh_tenants rfl hi3 (ten_at ht4) d_Host_stopOther_22 ?_
    refine go_astore_n (pc := 23) (i := 3) (L' := [some (.ref 0), some (.ref (23 + 17 * k1)), some (.int a2), some (.ref (23 + 17 * (Int32.toNatClampNeg a2))), none]) d_Host_stopOther_23 rfl (by decide) rfl ?_
    refine go_aload_n (pc := 24) (i := 3) d_Host_stopOther_24 rfl rfl ?_
    refine go_callV (pc := 25) (m_Ten_isAlive ht4 hk) cz_Ten_isAlive cv_Ten_isAlive (Or.inl lk_Host_182) (lay_at (sh_ten ht4)) rfl rfl rfl (Nat.le_of_ble_eq_true rfl) ⟨by decide, by decide⟩ rfl rfl d_Host_stopOther_25 (fun r M' hr => ?_)
    obtain ⟨x6, μ5, rfl, rfl, hk⟩ := hr
    try dsimp only [Option.toList, List.cons_append, List.nil_append]
    refine go_istore (pc := 28) (L' := [some (.ref 0), some (.ref (23 + 17 * k1)), some (.int a2), some (.ref (23 + 17 * (Int32.toNatClampNeg a2))), some (.int x6)]) d_Host_stopOther_28 (by decide) rfl ?_
    refine go_iload (pc := 30) d_Host_stopOther_30 rfl ?_
    refine go_if_eq (pc := 32) (tgt := 41) d_Host_stopOther_32 rfl (fun h32 => ?_) (fun h32 => ?_)
    · replace hk := hk.1 h32
      refine go_aload_n (pc := 41) (i := 1) d_Host_stopOther_41 rfl rfl ?_
      refine go_callV (pc := 42) (m_Ten_isAlive hk1 hk) cz_Ten_isAlive cv_Ten_isAlive (Or.inl lk_Host_182) (lay_at (sh_ten hk1)) rfl rfl rfl (Nat.le_of_ble_eq_true rfl) ⟨by decide, by decide⟩ rfl rfl d_Host_stopOther_42 (fun r M' hr => ?_)
      obtain ⟨x8, μ7, rfl, rfl, hk⟩ := hr
      try dsimp only [Option.toList, List.cons_append, List.nil_append]
      refine go_if_eq (pc := 45) (tgt := 57) d_Host_stopOther_45 rfl (fun h45 => ?_) (fun h45 => ?_)
      · replace hk := hk.1 h45
        exact go_ret (pc := 57) (r := none) d_Host_stopOther_57 ⟨_, rfl, rfl, hk⟩
      · replace hk := hk.2 h45
        refine go_aload_n (pc := 48) (i := 1) d_Host_stopOther_48 rfl rfl ?_
        refine go_getR (pc := 49) (r := 29 + 17 * k1) (sh_ten hk1) rfl fl_Host_205 d_Host_stopOther_49 ?_
        refine go_iload (pc := 52) d_Host_stopOther_52 rfl ?_
        refine go_callV (pc := 54) (m_Stk_putTruth hk1 hk) cz_Stk_putTruth cv_Stk_putTruth (Or.inl lk_Host_266) (lay_at (sh_stack hk1)) rfl rfl rfl (Nat.le_of_ble_eq_true rfl) ⟨by decide, by decide⟩ rfl rfl d_Host_stopOther_54 (fun r M' hr => ?_)
        obtain ⟨μ9, rfl, rfl, hk⟩ := hr
        try dsimp only [Option.toList, List.cons_append, List.nil_append]
        exact go_ret (pc := 57) (r := none) d_Host_stopOther_57 ⟨_, rfl, rfl, hk⟩
    · replace hk := hk.2 h32
      refine go_aload_n (pc := 35) (i := 0) d_Host_stopOther_35 rfl rfl ?_
      refine go_aload_n (pc := 36) (i := 3) d_Host_stopOther_36 rfl rfl ?_
      refine go_iconst (pc := 37) (v := 4) d_Host_stopOther_37 (by decide) ?_
      refine go_callV (pc := 38) (m_Host_end ht4 hk) cz_Host_end cv_Host_end (Or.inl lk_Host_185) (lay_at sh_host) rfl rfl rfl (Nat.le_of_ble_eq_true rfl) ⟨by decide, by decide⟩ rfl rfl d_Host_stopOther_38 (fun r M' hr => ?_)
      obtain ⟨μ10, rfl, rfl, hk⟩ := hr
      try dsimp only [Option.toList, List.cons_append, List.nil_append]
      refine go_aload_n (pc := 41) (i := 1) d_Host_stopOther_41 rfl rfl ?_
      refine go_callV (pc := 42) (m_Ten_isAlive hk1 hk) cz_Ten_isAlive cv_Ten_isAlive (Or.inl lk_Host_182) (lay_at (sh_ten hk1)) rfl rfl rfl (Nat.le_of_ble_eq_true rfl) ⟨by decide, by decide⟩ rfl rfl d_Host_stopOther_42 (fun r M' hr => ?_)
      obtain ⟨x12, μ11, rfl, rfl, hk⟩ := hr
      try dsimp only [Option.toList, List.cons_append, List.nil_append]
      refine go_if_eq (pc := 45) (tgt := 57) d_Host_stopOther_45 rfl (fun h45 => ?_) (fun h45 => ?_)
      · replace hk := hk.1 h45
        exact go_ret (pc := 57) (r := none) d_Host_stopOther_57 ⟨_, rfl, rfl, hk⟩
      · replace hk := hk.2 h45
        refine go_aload_n (pc := 48) (i := 1) d_Host_stopOther_48 rfl rfl ?_
        refine go_getR (pc := 49) (r := 29 + 17 * k1) (sh_ten hk1) rfl fl_Host_205 d_Host_stopOther_49 ?_
        refine go_iload (pc := 52) d_Host_stopOther_52 rfl ?_
        refine go_callV (pc := 54) (m_Stk_putTruth hk1 hk) cz_Stk_putTruth cv_Stk_putTruth (Or.inl lk_Host_266) (lay_at (sh_stack hk1)) rfl rfl rfl (Nat.le_of_ble_eq_true rfl) ⟨by decide, by decide⟩ rfl rfl d_Host_stopOther_54 (fun r M' hr => ?_)
        obtain ⟨μ13, rfl, rfl, hk⟩ := hr
        try dsimp only [Option.toList, List.cons_append, List.nil_append]
        exact go_ret (pc := 57) (r := none) d_Host_stopOther_57 ⟨_, rfl, rfl, hk⟩
  · replace hk := hk.2 h6
    refine go_aload_n (pc := 9) (i := 0) d_Host_stopOther_9 rfl rfl ?_
    refine go_aload_n (pc := 10) (i := 1) d_Host_stopOther_10 rfl rfl ?_
    refine go_bipush (pc := 11) (v := 10) d_Host_stopOther_11 (by decide) ?_
    refine go_callV (pc := 13) (m_Host_end hk1 hk) cz_Host_end cv_Host_end (Or.inl lk_Host_185) (lay_at sh_host) rfl rfl rfl (Nat.le_of_ble_eq_true rfl) ⟨by decide, by decide⟩ rfl rfl d_Host_stopOther_13 (fun r M' hr => ?_)
    obtain ⟨μ14, rfl, rfl, hk⟩ := hr
    try dsimp only [Option.toList, List.cons_append, List.nil_append]
    exact go_ret (pc := 16) (r := none) d_Host_stopOther_16 ⟨_, rfl, rfl, hk⟩
def wp_Line_takeFirst (k0 : Nat) (k0n : Nat) (μ : Mu) (Q : Int32 → Mu → Prop) : Prop := wp_Line_itemAt k0 k0n (0 : Int32) μ (fun x2 μ1 => ((((μ1.1 k0 1) ≤ 0) → Q x2 μ1) ∧ ((¬ (μ1.1 k0 1) ≤ 0) → ∀ μ3 : Mu, μ3 = setF μ1 k0 1 ((μ1.1 k0 1) - (1 : Int32)) → ((¬ (1 : Int32) < 0 ∧ ¬ (0 : Int32) < 0 ∧ ¬ (μ3.1 k0 1) < 0 ∧ Int32.toNatClampNeg (1 : Int32) + Int32.toNatClampNeg (μ3.1 k0 1) ≤ k0n ∧ Int32.toNatClampNeg (0 : Int32) + Int32.toNatClampNeg (μ3.1 k0 1) ≤ k0n) ∧ ∀ μ4 : Mu, μ4 = setG μ3 (k0 + 1) (va_cpy (μ3.2.1 (k0 + 1)) (μ3.2.1 (k0 + 1)) (Int32.toNatClampNeg (1 : Int32)) (Int32.toNatClampNeg (0 : Int32)) (Int32.toNatClampNeg (μ3.1 k0 1))) → Q x2 μ4))))
set_option maxRecDepth 100000 in
set_option maxHeartbeats 4000000 in
theorem m_Line_takeFirst {l : Launch} {k0 : Nat} {k0n : Nat} (hk0 : IsLine k0 k0n) {μ : Mu} {Q : Int32 → Mu → Prop} (hk : wp_Line_takeFirst k0 k0n μ Q) : Mets (mE l) mt_Line_takeFirst false (rmd 1) [.ref k0] (lay μ) (PI Q) := by
  unfold wp_Line_takeFirst at hk
  refine mets_of (L := [some (.ref k0), none]) (by decide) (Nat.le_of_ble_eq_true rfl) rfl ?_
  refine go_aload_n (pc := 0) (i := 0) d_Line_takeFirst_0 rfl rfl ?_
  refine go_iconst (pc := 1) (v := 0) d_Line_takeFirst_1 (by decide) ?_
  refine go_callV (pc := 2) (m_Line_itemAt hk0 hk) cz_Line_itemAt cv_Line_itemAt (Or.inl lk_Line_21) (lay_at hk0.1) rfl rfl rfl (Nat.le_of_ble_eq_true rfl) ⟨by decide, by decide⟩ rfl rfl d_Line_takeFirst_2 (fun r M' hr => ?_)
  obtain ⟨x2, μ1, rfl, rfl, hk⟩ := hr
  try dsimp only [Option.toList, List.cons_append, List.nil_append]
  refine go_istore_n (pc := 5) (i := 1) (L' := [some (.ref k0), some (.int x2)]) d_Line_takeFirst_5 rfl (by decide) rfl ?_
  refine go_aload_n (pc := 6) (i := 0) d_Line_takeFirst_6 rfl rfl ?_
  refine go_getI (pc := 7) hk0.1 rfl fl_Line_7 d_Line_takeFirst_7 ?_
  refine go_if_le (pc := 10) (tgt := 40) d_Line_takeFirst_10 rfl (fun h10 => ?_) (fun h10 => ?_)
  · replace hk := hk.1 h10
    refine go_iload_n (pc := 40) (i := 1) d_Line_takeFirst_40 rfl rfl ?_
    exact go_ret (pc := 41) (r := some (.int x2)) d_Line_takeFirst_41 ⟨_, _, rfl, rfl, hk⟩
  · replace hk := hk.2 h10
    refine go_aload_n (pc := 13) (i := 0) d_Line_takeFirst_13 rfl rfl ?_
    refine go_dup (pc := 14) d_Line_takeFirst_14 rfl ?_
    refine go_getI (pc := 15) hk0.1 rfl fl_Line_7 d_Line_takeFirst_15 ?_
    refine go_iconst (pc := 18) (v := 1) d_Line_takeFirst_18 (by decide) ?_
    refine go_isub (pc := 19) d_Line_takeFirst_19 ?_
    refine go_putIn (pc := 20) hk0.1 rfl (fp_Line_7 rfl) d_Line_takeFirst_20 (fun μ3 e3 => ?_)
    replace hk := hk μ3 e3
    refine go_aload_n (pc := 23) (i := 0) d_Line_takeFirst_23 rfl rfl ?_
    refine go_getR (pc := 24) (r := k0 + 1) hk0.1 rfl fl_Line_13 d_Line_takeFirst_24 ?_
    refine go_iconst (pc := 27) (v := 1) d_Line_takeFirst_27 (by decide) ?_
    refine go_aload_n (pc := 28) (i := 0) d_Line_takeFirst_28 rfl rfl ?_
    refine go_getR (pc := 29) (r := k0 + 1) hk0.1 rfl fl_Line_13 d_Line_takeFirst_29 ?_
    refine go_iconst (pc := 32) (v := 0) d_Line_takeFirst_32 (by decide) ?_
    refine go_aload_n (pc := 33) (i := 0) d_Line_takeFirst_33 rfl rfl ?_
    refine go_getI (pc := 34) hk0.1 rfl fl_Line_7 d_Line_takeFirst_34 ?_
    obtain ⟨hc5, hk⟩ := hk
    refine go_copyin (pc := 37) aw_Line_25 hk0.2 hk0.2 hc5.1 hc5.2.1 hc5.2.2.1 hc5.2.2.2.1 hc5.2.2.2.2 (Nat.le_of_ble_eq_true rfl) (Nat.le_of_ble_eq_true rfl) d_Line_takeFirst_37 (fun μ4 e4 => ?_)
    replace hk := hk μ4 e4
    refine go_iload_n (pc := 40) (i := 1) d_Line_takeFirst_40 rfl rfl ?_
    exact go_ret (pc := 41) (r := some (.int x2)) d_Line_takeFirst_41 ⟨_, _, rfl, rfl, hk⟩
def wp_Prog_argAt (k0 : Nat) (a1 : Int32) (μ : Mu) (Q : Int32 → Mu → Prop) : Prop := wp_Prog_has k0 a1 μ (fun x2 μ1 => (((x2 = 0) → Q (0 : Int32) μ1) ∧ ((¬ x2 = 0) → (vp_in a1 24 ∧ Q (μ1.2.1 (5 + 5 * k0) (Int32.toNatClampNeg a1)) μ1))))
set_option maxRecDepth 100000 in
set_option maxHeartbeats 4000000 in
theorem m_Prog_argAt {l : Launch} {k0 : Nat} {a1 : Int32} (hk0 : k0 < 4) {μ : Mu} {Q : Int32 → Mu → Prop} (hk : wp_Prog_argAt k0 a1 μ Q) : Mets (mE l) mt_Prog_argAt false (rmd 1) [.ref (3 + 5 * k0), .int a1] (lay μ) (PI Q) := by
  unfold wp_Prog_argAt at hk
  refine mets_of (L := [some (.ref (3 + 5 * k0)), some (.int a1)]) (by decide) (Nat.le_of_ble_eq_true rfl) rfl ?_
  refine go_aload_n (pc := 0) (i := 0) d_Prog_argAt_0 rfl rfl ?_
  refine go_iload_n (pc := 1) (i := 1) d_Prog_argAt_1 rfl rfl ?_
  refine go_callV (pc := 2) (m_Prog_has hk0 hk) cz_Prog_has cv_Prog_has (Or.inl lk_Prog_39) (lay_at (sh_prog hk0)) rfl rfl rfl (Nat.le_of_ble_eq_true rfl) ⟨by decide, by decide⟩ rfl rfl d_Prog_argAt_2 (fun r M' hr => ?_)
  obtain ⟨x2, μ1, rfl, rfl, hk⟩ := hr
  try dsimp only [Option.toList, List.cons_append, List.nil_append]
  refine go_if_eq (pc := 5) (tgt := 17) d_Prog_argAt_5 rfl (fun h5 => ?_) (fun h5 => ?_)
  · replace hk := hk.1 h5
    refine go_iconst (pc := 17) (v := 0) d_Prog_argAt_17 (by decide) ?_
    exact go_ret (pc := 18) (r := some (.int (0 : Int32))) d_Prog_argAt_18 ⟨_, _, rfl, rfl, hk⟩
  · replace hk := hk.2 h5
    refine go_aload_n (pc := 8) (i := 0) d_Prog_argAt_8 rfl rfl ?_
    refine go_getR (pc := 9) (r := 5 + 5 * k0) (sh_prog hk0) rfl fl_Prog_15 d_Prog_argAt_9 ?_
    refine go_iload_n (pc := 12) (i := 1) d_Prog_argAt_12 rfl rfl ?_
    obtain ⟨hi3, hk⟩ := hk
    refine go_aldI (pc := 13) (sh_pargs hk0) hi3 d_Prog_argAt_13 ?_
    refine go_goto (pc := 14) (tgt := 18) d_Prog_argAt_14 rfl ?_
    exact go_ret (pc := 18) (r := some (.int (μ1.2.1 (5 + 5 * k0) (Int32.toNatClampNeg a1)))) d_Prog_argAt_18 ⟨_, _, rfl, rfl, hk⟩
def wp_Prog_opAt (k0 : Nat) (a1 : Int32) (μ : Mu) (Q : Int32 → Mu → Prop) : Prop := wp_Prog_has k0 a1 μ (fun x2 μ1 => (((x2 = 0) → Q (0 : Int32) μ1) ∧ ((¬ x2 = 0) → (vp_in a1 24 ∧ Q (μ1.2.1 (4 + 5 * k0) (Int32.toNatClampNeg a1)) μ1))))
set_option maxRecDepth 100000 in
set_option maxHeartbeats 4000000 in
theorem m_Prog_opAt {l : Launch} {k0 : Nat} {a1 : Int32} (hk0 : k0 < 4) {μ : Mu} {Q : Int32 → Mu → Prop} (hk : wp_Prog_opAt k0 a1 μ Q) : Mets (mE l) mt_Prog_opAt false (rmd 1) [.ref (3 + 5 * k0), .int a1] (lay μ) (PI Q) := by
  unfold wp_Prog_opAt at hk
  refine mets_of (L := [some (.ref (3 + 5 * k0)), some (.int a1)]) (by decide) (Nat.le_of_ble_eq_true rfl) rfl ?_
  refine go_aload_n (pc := 0) (i := 0) d_Prog_opAt_0 rfl rfl ?_
  refine go_iload_n (pc := 1) (i := 1) d_Prog_opAt_1 rfl rfl ?_
  refine go_callV (pc := 2) (m_Prog_has hk0 hk) cz_Prog_has cv_Prog_has (Or.inl lk_Prog_39) (lay_at (sh_prog hk0)) rfl rfl rfl (Nat.le_of_ble_eq_true rfl) ⟨by decide, by decide⟩ rfl rfl d_Prog_opAt_2 (fun r M' hr => ?_)
  obtain ⟨x2, μ1, rfl, rfl, hk⟩ := hr
  try dsimp only [Option.toList, List.cons_append, List.nil_append]
  refine go_if_eq (pc := 5) (tgt := 17) d_Prog_opAt_5 rfl (fun h5 => ?_) (fun h5 => ?_)
  · replace hk := hk.1 h5
    refine go_iconst (pc := 17) (v := 0) d_Prog_opAt_17 (by decide) ?_
    exact go_ret (pc := 18) (r := some (.int (0 : Int32))) d_Prog_opAt_18 ⟨_, _, rfl, rfl, hk⟩
  · replace hk := hk.2 h5
    refine go_aload_n (pc := 8) (i := 0) d_Prog_opAt_8 rfl rfl ?_
    refine go_getR (pc := 9) (r := 4 + 5 * k0) (sh_prog hk0) rfl fl_Prog_9 d_Prog_opAt_9 ?_
    refine go_iload_n (pc := 12) (i := 1) d_Prog_opAt_12 rfl rfl ?_
    obtain ⟨hi3, hk⟩ := hk
    refine go_aldI (pc := 13) (sh_pops hk0) hi3 d_Prog_opAt_13 ?_
    refine go_goto (pc := 14) (tgt := 18) d_Prog_opAt_14 rfl ?_
    exact go_ret (pc := 18) (r := some (.int (μ1.2.1 (4 + 5 * k0) (Int32.toNatClampNeg a1)))) d_Prog_opAt_18 ⟨_, _, rfl, rfl, hk⟩
def wp_Stk_putTopAgain (k0 : Nat) (μ : Mu) (Q : Mu → Prop) : Prop := ((((μ.1 (29 + 17 * k0) 2) ≤ 0) → Q μ) ∧ ((¬ (μ.1 (29 + 17 * k0) 2) ≤ 0) → (vp_in ((μ.1 (29 + 17 * k0) 2) - (1 : Int32)) 6 ∧ (vp_in ((μ.1 (29 + 17 * k0) 2) - (1 : Int32)) 6 ∧ wp_Stk_put k0 (μ.2.1 (30 + 17 * k0) (Int32.toNatClampNeg ((μ.1 (29 + 17 * k0) 2) - (1 : Int32)))) (μ.2.1 (31 + 17 * k0) (Int32.toNatClampNeg ((μ.1 (29 + 17 * k0) 2) - (1 : Int32)))) μ (fun μ3 => Q μ3)))))
set_option maxRecDepth 100000 in
set_option maxHeartbeats 4000000 in
theorem m_Stk_putTopAgain {l : Launch} {k0 : Nat} (hk0 : k0 < 4) {μ : Mu} {Q : Mu → Prop} (hk : wp_Stk_putTopAgain k0 μ Q) : Mets (mE l) mt_Stk_putTopAgain false (rmd 1) [.ref (29 + 17 * k0)] (lay μ) (PV Q) := by
  unfold wp_Stk_putTopAgain at hk
  refine mets_of (L := [some (.ref (29 + 17 * k0))]) (by decide) (Nat.le_of_ble_eq_true rfl) rfl ?_
  refine go_aload_n (pc := 0) (i := 0) d_Stk_putTopAgain_0 rfl rfl ?_
  refine go_getI (pc := 1) (sh_stack hk0) rfl fl_Stk_19 d_Stk_putTopAgain_1 ?_
  refine go_if_le (pc := 4) (tgt := 33) d_Stk_putTopAgain_4 rfl (fun h4 => ?_) (fun h4 => ?_)
  · replace hk := hk.1 h4
    exact go_ret (pc := 33) (r := none) d_Stk_putTopAgain_33 ⟨_, rfl, rfl, hk⟩
  · replace hk := hk.2 h4
    refine go_aload_n (pc := 7) (i := 0) d_Stk_putTopAgain_7 rfl rfl ?_
    refine go_aload_n (pc := 8) (i := 0) d_Stk_putTopAgain_8 rfl rfl ?_
    refine go_getR (pc := 9) (r := 30 + 17 * k0) (sh_stack hk0) rfl fl_Stk_9 d_Stk_putTopAgain_9 ?_
    refine go_aload_n (pc := 12) (i := 0) d_Stk_putTopAgain_12 rfl rfl ?_
    refine go_getI (pc := 13) (sh_stack hk0) rfl fl_Stk_19 d_Stk_putTopAgain_13 ?_
    refine go_iconst (pc := 16) (v := 1) d_Stk_putTopAgain_16 (by decide) ?_
    refine go_isub (pc := 17) d_Stk_putTopAgain_17 ?_
    obtain ⟨hi1, hk⟩ := hk
    refine go_aldI (pc := 18) (sh_values hk0) hi1 d_Stk_putTopAgain_18 ?_
    refine go_aload_n (pc := 19) (i := 0) d_Stk_putTopAgain_19 rfl rfl ?_
    refine go_getR (pc := 20) (r := 31 + 17 * k0) (sh_stack hk0) rfl fl_Stk_15 d_Stk_putTopAgain_20 ?_
    refine go_aload_n (pc := 23) (i := 0) d_Stk_putTopAgain_23 rfl rfl ?_
    refine go_getI (pc := 24) (sh_stack hk0) rfl fl_Stk_19 d_Stk_putTopAgain_24 ?_
    refine go_iconst (pc := 27) (v := 1) d_Stk_putTopAgain_27 (by decide) ?_
    refine go_isub (pc := 28) d_Stk_putTopAgain_28 ?_
    obtain ⟨hi2, hk⟩ := hk
    refine go_aldZ (pc := 29) (sh_arerefs hk0) hi2 d_Stk_putTopAgain_29 ?_
    refine go_callV (pc := 30) (m_Stk_put hk0 hk) cz_Stk_put cv_Stk_put (Or.inl lk_Stk_23) (lay_at (sh_stack hk0)) rfl rfl rfl (Nat.le_of_ble_eq_true rfl) ⟨by decide, by decide⟩ rfl rfl d_Stk_putTopAgain_30 (fun r M' hr => ?_)
    obtain ⟨μ3, rfl, rfl, hk⟩ := hr
    try dsimp only [Option.toList, List.cons_append, List.nil_append]
    exact go_ret (pc := 33) (r := none) d_Stk_putTopAgain_33 ⟨_, rfl, rfl, hk⟩
def wp_Host_doInstruction (k1 : Nat) (μ : Mu) (Q : Mu → Prop) : Prop := (vp_in (μ.1 (23 + 17 * k1) 8) 4 ∧ wp_Prog_opAt (Int32.toNatClampNeg (μ.1 (23 + 17 * k1) 8)) (μ.1 (23 + 17 * k1) 9) μ (fun x4 μ3 => (vp_in (μ3.1 (23 + 17 * k1) 8) 4 ∧ wp_Prog_argAt (Int32.toNatClampNeg (μ3.1 (23 + 17 * k1) 8)) (μ3.1 (23 + 17 * k1) 9) μ3 (fun x8 μ7 => ∀ μ9 : Mu, μ9 = setF μ7 (23 + 17 * k1) 7 (1 : Int32) → ∀ μ10 : Mu, μ10 = setF μ9 (23 + 17 * k1) 11 ((μ9.1 (23 + 17 * k1) 11) + (1 : Int32)) → ∀ μ11 : Mu, μ11 = setF μ10 (23 + 17 * k1) 9 ((μ10.1 (23 + 17 * k1) 9) + (1 : Int32)) → ((((Int32.toInt x4) < 0 ∨ 24 < (Int32.toInt x4)) → Q μ11) ∧ (((Int32.toInt x4) = 0) → wp_Host_end k1 (3 : Int32) μ11 (fun μ12 => Q μ12)) ∧ (((Int32.toInt x4) = 1) → wp_Stk_putNumber k1 x8 μ11 (fun μ13 => Q μ13)) ∧ (((Int32.toInt x4) = 2) → wp_Host_calculate k1 x4 μ11 (fun μ14 => Q μ14)) ∧ (((Int32.toInt x4) = 3) → wp_Host_calculate k1 x4 μ11 (fun μ15 => Q μ15)) ∧ (((Int32.toInt x4) = 4) → wp_Host_calculate k1 x4 μ11 (fun μ16 => Q μ16)) ∧ (((Int32.toInt x4) = 5) → wp_Host_divide k1 μ11 (fun μ17 => Q μ17)) ∧ (((Int32.toInt x4) = 6) → wp_Host_calculate k1 x4 μ11 (fun μ18 => Q μ18)) ∧ (((Int32.toInt x4) = 7) → (vp_in x8 4 ∧ (((x8 < (2 : Int32)) → wp_Stk_put k1 (μ11.2.1 (32 + 17 * k1) (Int32.toNatClampNeg x8)) (0 : Int32) μ11 (fun μ20 => Q μ20)) ∧ ((¬ x8 < (2 : Int32)) → wp_Stk_put k1 (μ11.2.1 (32 + 17 * k1) (Int32.toNatClampNeg x8)) (1 : Int32) μ11 (fun μ21 => Q μ21))))) ∧ (((Int32.toInt x4) = 8) → wp_Stk_take k1 μ11 (fun x23 μ22 => (vp_in x8 4 ∧ ∀ μ25 : Mu, μ25 = setA μ22 (32 + 17 * k1) (Int32.toNatClampNeg x8) x23 → Q μ25))) ∧ (((Int32.toInt x4) = 9) → wp_Stk_putTopAgain k1 μ11 (fun μ26 => Q μ26)) ∧ (((Int32.toInt x4) = 10) → wp_Stk_take k1 μ11 (fun x28 μ27 => Q μ27)) ∧ (((Int32.toInt x4) = 11) → wp_Host_makeCell k1 μ11 (fun μ29 => Q μ29)) ∧ (((Int32.toInt x4) = 12) → wp_Host_getPart k1 x8 μ11 (fun μ30 => Q μ30)) ∧ (((Int32.toInt x4) = 13) → wp_Host_setPart k1 x8 μ11 (fun μ31 => Q μ31)) ∧ (((Int32.toInt x4) = 14) → wp_Host_compare k1 μ11 (fun μ32 => Q μ32)) ∧ (((Int32.toInt x4) = 15) → wp_Stk_putReference k1 (0 : Int32) μ11 (fun μ33 => Q μ33)) ∧ (((Int32.toInt x4) = 16) → ((((μ11.1 0 3) ≤ x8) → wp_Stk_putReference k1 (0 : Int32) μ11 (fun μ34 => Q μ34)) ∧ ((¬ (μ11.1 0 3) ≤ x8) → wp_Host_sharedReference x8 μ11 (fun x36 μ35 => wp_Stk_putReference k1 x36 μ35 (fun μ37 => Q μ37))))) ∧ (((Int32.toInt x4) = 17) → ∀ μ38 : Mu, μ38 = setF μ11 (23 + 17 * k1) 9 x8 → Q μ38) ∧ (((Int32.toInt x4) = 18) → wp_Host_jumpIfZero k1 x8 μ11 (fun μ39 => Q μ39)) ∧ (((Int32.toInt x4) = 19) → wp_Host_putOut k1 μ11 (fun μ40 => Q μ40)) ∧ (((Int32.toInt x4) = 20) → wp_Line_takeFirst (35 + 17 * k1) 8 μ11 (fun x42 μ41 => wp_Stk_putNumber k1 x42 μ41 (fun μ43 => Q μ43))) ∧ (((Int32.toInt x4) = 21) → wp_Host_sendTo k1 x8 μ11 (fun μ44 => Q μ44)) ∧ (((Int32.toInt x4) = 22) → wp_Line_takeFirst (33 + 17 * k1) 4 μ11 (fun x46 μ45 => wp_Stk_putReference k1 x46 μ45 (fun μ47 => Q μ47))) ∧ (((Int32.toInt x4) = 23) → wp_Host_startOther k1 x8 μ11 (fun μ48 => Q μ48)) ∧ (((Int32.toInt x4) = 24) → wp_Host_stopOther k1 x8 μ11 (fun μ49 => Q μ49)))))))
set_option maxRecDepth 100000 in
set_option maxHeartbeats 4000000 in
theorem m_Host_doInstruction {l : Launch} {k1 : Nat} (hk1 : k1 < 4) {μ : Mu} {Q : Mu → Prop} (hk : wp_Host_doInstruction k1 μ Q) : Mets (mE l) mt_Host_doInstruction false (rmd 5) [.ref 0, .ref (23 + 17 * k1)] (lay μ) (PV Q) := by
  unfold wp_Host_doInstruction at hk
  refine mets_of (L := [some (.ref 0), some (.ref (23 + 17 * k1)), none, none]) (by decide) (Nat.le_of_ble_eq_true rfl) rfl ?_
  refine go_aload_n (pc := 0) (i := 0) d_Host_doInstruction_0 rfl rfl ?_
  refine go_getR (pc := 1) (r := 1) sh_host rfl fl_Host_11 d_Host_doInstruction_1 ?_
  refine go_aload_n (pc := 4) (i := 1) d_Host_doInstruction_4 rfl rfl ?_
  refine go_getI (pc := 5) (sh_ten hk1) rfl fl_Host_176 d_Host_doInstruction_5 ?_
  obtain ⟨hi1, hk⟩ := hk
  have ht2 : (Int32.toNatClampNeg (μ.1 (23 + 17 * k1) 8)) < 4 := in_lt (n := 4) hi1
  refine go_aldR (pc := 8) (r := 3 + 5 * (Int32.toNatClampNeg (μ.1 (23 + 17 * k1) 8))) sh_programs rfl hi1 (prog_at ht2) d_Host_doInstruction_8 ?_
  refine go_aload_n (pc := 9) (i := 1) d_Host_doInstruction_9 rfl rfl ?_
  refine go_getI (pc := 10) (sh_ten hk1) rfl fl_Host_196 d_Host_doInstruction_10 ?_
  refine go_callV (pc := 13) (m_Prog_opAt ht2 hk) cz_Prog_opAt cv_Prog_opAt (Or.inl lk_Host_199) (lay_at (sh_prog ht2)) rfl rfl rfl (Nat.le_of_ble_eq_true rfl) ⟨by decide, by decide⟩ rfl rfl d_Host_doInstruction_13 (fun r M' hr => ?_)
  obtain ⟨x4, μ3, rfl, rfl, hk⟩ := hr
  try dsimp only [Option.toList, List.cons_append, List.nil_append]
  refine go_istore_n (pc := 16) (i := 2) (L' := [some (.ref 0), some (.ref (23 + 17 * k1)), some (.int x4), none]) d_Host_doInstruction_16 rfl (by decide) rfl ?_
  refine go_aload_n (pc := 17) (i := 0) d_Host_doInstruction_17 rfl rfl ?_
  refine go_getR (pc := 18) (r := 1) sh_host rfl fl_Host_11 d_Host_doInstruction_18 ?_
  refine go_aload_n (pc := 21) (i := 1) d_Host_doInstruction_21 rfl rfl ?_
  refine go_getI (pc := 22) (sh_ten hk1) rfl fl_Host_176 d_Host_doInstruction_22 ?_
  obtain ⟨hi5, hk⟩ := hk
  have ht6 : (Int32.toNatClampNeg (μ3.1 (23 + 17 * k1) 8)) < 4 := in_lt (n := 4) hi5
  refine go_aldR (pc := 25) (r := 3 + 5 * (Int32.toNatClampNeg (μ3.1 (23 + 17 * k1) 8))) sh_programs rfl hi5 (prog_at ht6) d_Host_doInstruction_25 ?_
  refine go_aload_n (pc := 26) (i := 1) d_Host_doInstruction_26 rfl rfl ?_
  refine go_getI (pc := 27) (sh_ten hk1) rfl fl_Host_196 d_Host_doInstruction_27 ?_
  refine go_callV (pc := 30) (m_Prog_argAt ht6 hk) cz_Prog_argAt cv_Prog_argAt (Or.inl lk_Host_202) (lay_at (sh_prog ht6)) rfl rfl rfl (Nat.le_of_ble_eq_true rfl) ⟨by decide, by decide⟩ rfl rfl d_Host_doInstruction_30 (fun r M' hr => ?_)
  obtain ⟨x8, μ7, rfl, rfl, hk⟩ := hr
  try dsimp only [Option.toList, List.cons_append, List.nil_append]
  refine go_istore_n (pc := 33) (i := 3) (L' := [some (.ref 0), some (.ref (23 + 17 * k1)), some (.int x4), some (.int x8)]) d_Host_doInstruction_33 rfl (by decide) rfl ?_
  refine go_aload_n (pc := 34) (i := 1) d_Host_doInstruction_34 rfl rfl ?_
  refine go_iconst (pc := 35) (v := 1) d_Host_doInstruction_35 (by decide) ?_
  refine go_putIn (pc := 36) (sh_ten hk1) rfl (fp_Host_122 rfl) d_Host_doInstruction_36 (fun μ9 e9 => ?_)
  replace hk := hk μ9 e9
  refine go_aload_n (pc := 39) (i := 1) d_Host_doInstruction_39 rfl rfl ?_
  refine go_dup (pc := 40) d_Host_doInstruction_40 rfl ?_
  refine go_getI (pc := 41) (sh_ten hk1) rfl fl_Host_125 d_Host_doInstruction_41 ?_
  refine go_iconst (pc := 44) (v := 1) d_Host_doInstruction_44 (by decide) ?_
  refine go_iadd (pc := 45) d_Host_doInstruction_45 ?_
  refine go_putIn (pc := 46) (sh_ten hk1) rfl (fp_Host_125 rfl) d_Host_doInstruction_46 (fun μ10 e10 => ?_)
  replace hk := hk μ10 e10
  refine go_aload_n (pc := 49) (i := 1) d_Host_doInstruction_49 rfl rfl ?_
  refine go_dup (pc := 50) d_Host_doInstruction_50 rfl ?_
  refine go_getI (pc := 51) (sh_ten hk1) rfl fl_Host_196 d_Host_doInstruction_51 ?_
  refine go_iconst (pc := 54) (v := 1) d_Host_doInstruction_54 (by decide) ?_
  refine go_iadd (pc := 55) d_Host_doInstruction_55 ?_
  refine go_putIn (pc := 56) (sh_ten hk1) rfl (fp_Host_196 rfl) d_Host_doInstruction_56 (fun μ11 e11 => ?_)
  replace hk := hk μ11 e11
  refine go_iload_n (pc := 59) (i := 2) d_Host_doInstruction_59 rfl rfl ?_
  by_cases hsw : (Int32.toInt x4) < 0 ∨ 24 < (Int32.toInt x4)
  · replace hk := hk.1 hsw
    refine go_tableOut (pc := 60) (tgt := 436) d_Host_doInstruction_60 hsw rfl ?_
    exact go_ret (pc := 436) (r := none) d_Host_doInstruction_436 ⟨_, rfl, rfl, hk⟩
  replace hk := hk.2
  have hsx : (Int32.toInt x4) = 0 ∨ (Int32.toInt x4) = 1 ∨ (Int32.toInt x4) = 2 ∨ (Int32.toInt x4) = 3 ∨ (Int32.toInt x4) = 4 ∨ (Int32.toInt x4) = 5 ∨ (Int32.toInt x4) = 6 ∨ (Int32.toInt x4) = 7 ∨ (Int32.toInt x4) = 8 ∨ (Int32.toInt x4) = 9 ∨ (Int32.toInt x4) = 10 ∨ (Int32.toInt x4) = 11 ∨ (Int32.toInt x4) = 12 ∨ (Int32.toInt x4) = 13 ∨ (Int32.toInt x4) = 14 ∨ (Int32.toInt x4) = 15 ∨ (Int32.toInt x4) = 16 ∨ (Int32.toInt x4) = 17 ∨ (Int32.toInt x4) = 18 ∨ (Int32.toInt x4) = 19 ∨ (Int32.toInt x4) = 20 ∨ (Int32.toInt x4) = 21 ∨ (Int32.toInt x4) = 22 ∨ (Int32.toInt x4) = 23 ∨ (Int32.toInt x4) = 24 := by omega
  rcases hsx with hsx | hsx | hsx | hsx | hsx | hsx | hsx | hsx | hsx | hsx | hsx | hsx | hsx | hsx | hsx | hsx | hsx | hsx | hsx | hsx | hsx | hsx | hsx | hsx | hsx
  · replace hk := hk.1 hsx
    refine go_tableIn (pc := 60) (tgt := 176) d_Host_doInstruction_60 (by omega) (by omega) (by rw [hsx]; rfl) rfl ?_
    refine go_aload_n (pc := 176) (i := 0) d_Host_doInstruction_176 rfl rfl ?_
    refine go_aload_n (pc := 177) (i := 1) d_Host_doInstruction_177 rfl rfl ?_
    refine go_iconst (pc := 178) (v := 3) d_Host_doInstruction_178 (by decide) ?_
    refine go_callV (pc := 179) (m_Host_end hk1 hk) cz_Host_end cv_Host_end (Or.inl lk_Host_185) (lay_at sh_host) rfl rfl rfl (Nat.le_of_ble_eq_true rfl) ⟨by decide, by decide⟩ rfl rfl d_Host_doInstruction_179 (fun r M' hr => ?_)
    obtain ⟨μ12, rfl, rfl, hk⟩ := hr
    try dsimp only [Option.toList, List.cons_append, List.nil_append]
    refine go_goto (pc := 182) (tgt := 436) d_Host_doInstruction_182 rfl ?_
    exact go_ret (pc := 436) (r := none) d_Host_doInstruction_436 ⟨_, rfl, rfl, hk⟩
  · replace hk := hk.2.1 hsx
    refine go_tableIn (pc := 60) (tgt := 185) d_Host_doInstruction_60 (by omega) (by omega) (by rw [hsx]; rfl) rfl ?_
    refine go_aload_n (pc := 185) (i := 1) d_Host_doInstruction_185 rfl rfl ?_
    refine go_getR (pc := 186) (r := 29 + 17 * k1) (sh_ten hk1) rfl fl_Host_205 d_Host_doInstruction_186 ?_
    refine go_iload_n (pc := 189) (i := 3) d_Host_doInstruction_189 rfl rfl ?_
    refine go_callV (pc := 190) (m_Stk_putNumber hk1 hk) cz_Stk_putNumber cv_Stk_putNumber (Or.inl lk_Host_209) (lay_at (sh_stack hk1)) rfl rfl rfl (Nat.le_of_ble_eq_true rfl) ⟨by decide, by decide⟩ rfl rfl d_Host_doInstruction_190 (fun r M' hr => ?_)
    obtain ⟨μ13, rfl, rfl, hk⟩ := hr
    try dsimp only [Option.toList, List.cons_append, List.nil_append]
    refine go_goto (pc := 193) (tgt := 436) d_Host_doInstruction_193 rfl ?_
    exact go_ret (pc := 436) (r := none) d_Host_doInstruction_436 ⟨_, rfl, rfl, hk⟩
  · replace hk := hk.2.2.1 hsx
    refine go_tableIn (pc := 60) (tgt := 196) d_Host_doInstruction_60 (by omega) (by omega) (by rw [hsx]; rfl) rfl ?_
    refine go_aload_n (pc := 196) (i := 1) d_Host_doInstruction_196 rfl rfl ?_
    refine go_getR (pc := 197) (r := 29 + 17 * k1) (sh_ten hk1) rfl fl_Host_205 d_Host_doInstruction_197 ?_
    refine go_iload_n (pc := 200) (i := 2) d_Host_doInstruction_200 rfl rfl ?_
    refine go_callS (pc := 201) (m_Host_calculate hk1 hk) cz_Host_calculate sm_Host_calculate (Or.inl lk_Host_215) rfl rfl (Nat.le_of_ble_eq_true rfl) ⟨by decide, by decide⟩ rfl rfl d_Host_doInstruction_201 (fun r M' hr => ?_)
    obtain ⟨μ14, rfl, rfl, hk⟩ := hr
    try dsimp only [Option.toList, List.cons_append, List.nil_append]
    refine go_goto (pc := 204) (tgt := 436) d_Host_doInstruction_204 rfl ?_
    exact go_ret (pc := 436) (r := none) d_Host_doInstruction_436 ⟨_, rfl, rfl, hk⟩
  · replace hk := hk.2.2.2.1 hsx
    refine go_tableIn (pc := 60) (tgt := 196) d_Host_doInstruction_60 (by omega) (by omega) (by rw [hsx]; rfl) rfl ?_
    refine go_aload_n (pc := 196) (i := 1) d_Host_doInstruction_196 rfl rfl ?_
    refine go_getR (pc := 197) (r := 29 + 17 * k1) (sh_ten hk1) rfl fl_Host_205 d_Host_doInstruction_197 ?_
    refine go_iload_n (pc := 200) (i := 2) d_Host_doInstruction_200 rfl rfl ?_
    refine go_callS (pc := 201) (m_Host_calculate hk1 hk) cz_Host_calculate sm_Host_calculate (Or.inl lk_Host_215) rfl rfl (Nat.le_of_ble_eq_true rfl) ⟨by decide, by decide⟩ rfl rfl d_Host_doInstruction_201 (fun r M' hr => ?_)
    obtain ⟨μ15, rfl, rfl, hk⟩ := hr
    try dsimp only [Option.toList, List.cons_append, List.nil_append]
    refine go_goto (pc := 204) (tgt := 436) d_Host_doInstruction_204 rfl ?_
    exact go_ret (pc := 436) (r := none) d_Host_doInstruction_436 ⟨_, rfl, rfl, hk⟩
  · replace hk := hk.2.2.2.2.1 hsx
    refine go_tableIn (pc := 60) (tgt := 196) d_Host_doInstruction_60 (by omega) (by omega) (by rw [hsx]; rfl) rfl ?_
    refine go_aload_n (pc := 196) (i := 1) d_Host_doInstruction_196 rfl rfl ?_
    refine go_getR (pc := 197) (r := 29 + 17 * k1) (sh_ten hk1) rfl fl_Host_205 d_Host_doInstruction_197 ?_
    refine go_iload_n (pc := 200) (i := 2) d_Host_doInstruction_200 rfl rfl ?_
    refine go_callS (pc := 201) (m_Host_calculate hk1 hk) cz_Host_calculate sm_Host_calculate (Or.inl lk_Host_215) rfl rfl (Nat.le_of_ble_eq_true rfl) ⟨by decide, by decide⟩ rfl rfl d_Host_doInstruction_201 (fun r M' hr => ?_)
    obtain ⟨μ16, rfl, rfl, hk⟩ := hr
    try dsimp only [Option.toList, List.cons_append, List.nil_append]
    refine go_goto (pc := 204) (tgt := 436) d_Host_doInstruction_204 rfl ?_
    exact go_ret (pc := 436) (r := none) d_Host_doInstruction_436 ⟨_, rfl, rfl, hk⟩
  · replace hk := hk.2.2.2.2.2.1 hsx
    refine go_tableIn (pc := 60) (tgt := 207) d_Host_doInstruction_60 (by omega) (by omega) (by rw [hsx]; rfl) rfl ?_
    refine go_aload_n (pc := 207) (i := 0) d_Host_doInstruction_207 rfl rfl ?_
    refine go_aload_n (pc := 208) (i := 1) d_Host_doInstruction_208 rfl rfl ?_
    refine go_callV (pc := 209) (m_Host_divide hk1 hk) cz_Host_divide cv_Host_divide (Or.inl lk_Host_219) (lay_at sh_host) rfl rfl rfl (Nat.le_of_ble_eq_true rfl) ⟨by decide, by decide⟩ rfl rfl d_Host_doInstruction_209 (fun r M' hr => ?_)
    obtain ⟨μ17, rfl, rfl, hk⟩ := hr
    try dsimp only [Option.toList, List.cons_append, List.nil_append]
    refine go_goto (pc := 212) (tgt := 436) d_Host_doInstruction_212 rfl ?_
    exact go_ret (pc := 436) (r := none) d_Host_doInstruction_436 ⟨_, rfl, rfl, hk⟩
  · replace hk := hk.2.2.2.2.2.2.1 hsx
    refine go_tableIn (pc := 60) (tgt := 196) d_Host_doInstruction_60 (by omega) (by omega) (by rw [hsx]; rfl) rfl ?_
    refine go_aload_n (pc := 196) (i := 1) d_Host_doInstruction_196 rfl rfl ?_
    refine go_getR (pc := 197) (r := 29 + 17 * k1) (sh_ten hk1) rfl fl_Host_205 d_Host_doInstruction_197 ?_
    refine go_iload_n (pc := 200) (i := 2) d_Host_doInstruction_200 rfl rfl ?_
    refine go_callS (pc := 201) (m_Host_calculate hk1 hk) cz_Host_calculate sm_Host_calculate (Or.inl lk_Host_215) rfl rfl (Nat.le_of_ble_eq_true rfl) ⟨by decide, by decide⟩ rfl rfl d_Host_doInstruction_201 (fun r M' hr => ?_)
    obtain ⟨μ18, rfl, rfl, hk⟩ := hr
    try dsimp only [Option.toList, List.cons_append, List.nil_append]
    refine go_goto (pc := 204) (tgt := 436) d_Host_doInstruction_204 rfl ?_
    exact go_ret (pc := 436) (r := none) d_Host_doInstruction_436 ⟨_, rfl, rfl, hk⟩
  · replace hk := hk.2.2.2.2.2.2.2.1 hsx
    refine go_tableIn (pc := 60) (tgt := 215) d_Host_doInstruction_60 (by omega) (by omega) (by rw [hsx]; rfl) rfl ?_
    refine go_aload_n (pc := 215) (i := 1) d_Host_doInstruction_215 rfl rfl ?_
    refine go_getR (pc := 216) (r := 29 + 17 * k1) (sh_ten hk1) rfl fl_Host_205 d_Host_doInstruction_216 ?_
    refine go_aload_n (pc := 219) (i := 1) d_Host_doInstruction_219 rfl rfl ?_
    refine go_getR (pc := 220) (r := 32 + 17 * k1) (sh_ten hk1) rfl fl_Host_160 d_Host_doInstruction_220 ?_
    refine go_iload_n (pc := 223) (i := 3) d_Host_doInstruction_223 rfl rfl ?_
    obtain ⟨hi19, hk⟩ := hk
    refine go_aldI (pc := 224) (sh_locs hk1) hi19 d_Host_doInstruction_224 ?_
    refine go_iload_n (pc := 225) (i := 3) d_Host_doInstruction_225 rfl rfl ?_
    refine go_iconst (pc := 226) (v := 2) d_Host_doInstruction_226 (by decide) ?_
    refine go_icmp_lt (pc := 227) (tgt := 234) d_Host_doInstruction_227 rfl (fun h227 => ?_) (fun h227 => ?_)
    · replace hk := hk.1 h227
      refine go_iconst (pc := 234) (v := 0) d_Host_doInstruction_234 (by decide) ?_
      refine go_callV (pc := 235) (m_Stk_put hk1 hk) cz_Stk_put cv_Stk_put (Or.inl lk_Host_222) (lay_at (sh_stack hk1)) rfl rfl rfl (Nat.le_of_ble_eq_true rfl) ⟨by decide, by decide⟩ rfl rfl d_Host_doInstruction_235 (fun r M' hr => ?_)
      obtain ⟨μ20, rfl, rfl, hk⟩ := hr
      try dsimp only [Option.toList, List.cons_append, List.nil_append]
      refine go_goto (pc := 238) (tgt := 436) d_Host_doInstruction_238 rfl ?_
      exact go_ret (pc := 436) (r := none) d_Host_doInstruction_436 ⟨_, rfl, rfl, hk⟩
    · replace hk := hk.2 h227
      refine go_iconst (pc := 230) (v := 1) d_Host_doInstruction_230 (by decide) ?_
      refine go_goto (pc := 231) (tgt := 235) d_Host_doInstruction_231 rfl ?_
      refine go_callV (pc := 235) (m_Stk_put hk1 hk) cz_Stk_put cv_Stk_put (Or.inl lk_Host_222) (lay_at (sh_stack hk1)) rfl rfl rfl (Nat.le_of_ble_eq_true rfl) ⟨by decide, by decide⟩ rfl rfl d_Host_doInstruction_235 (fun r M' hr => ?_)
      obtain ⟨μ21, rfl, rfl, hk⟩ := hr
      try dsimp only [Option.toList, List.cons_append, List.nil_append]
      refine go_goto (pc := 238) (tgt := 436) d_Host_doInstruction_238 rfl ?_
      exact go_ret (pc := 436) (r := none) d_Host_doInstruction_436 ⟨_, rfl, rfl, hk⟩
  · replace hk := hk.2.2.2.2.2.2.2.2.1 hsx
    refine go_tableIn (pc := 60) (tgt := 241) d_Host_doInstruction_60 (by omega) (by omega) (by rw [hsx]; rfl) rfl ?_
    refine go_aload_n (pc := 241) (i := 1) d_Host_doInstruction_241 rfl rfl ?_
    refine go_getR (pc := 242) (r := 32 + 17 * k1) (sh_ten hk1) rfl fl_Host_160 d_Host_doInstruction_242 ?_
    refine go_iload_n (pc := 245) (i := 3) d_Host_doInstruction_245 rfl rfl ?_
    refine go_aload_n (pc := 246) (i := 1) d_Host_doInstruction_246 rfl rfl ?_
    refine go_getR (pc := 247) (r := 29 + 17 * k1) (sh_ten hk1) rfl fl_Host_205 d_Host_doInstruction_247 ?_
    refine go_callV (pc := 250) (m_Stk_take hk1 hk) cz_Stk_take cv_Stk_take (Or.inl lk_Host_226) (lay_at (sh_stack hk1)) rfl rfl rfl (Nat.le_of_ble_eq_true rfl) ⟨by decide, by decide⟩ rfl rfl d_Host_doInstruction_250 (fun r M' hr => ?_)
    obtain ⟨x23, μ22, rfl, rfl, hk⟩ := hr
    try dsimp only [Option.toList, List.cons_append, List.nil_append]
    obtain ⟨hi24, hk⟩ := hk
    refine go_astIn (pc := 253) (sh_locs hk1) hi24 d_Host_doInstruction_253 (fun μ25 e25 => ?_)
    replace hk := hk μ25 e25
    refine go_goto (pc := 254) (tgt := 436) d_Host_doInstruction_254 rfl ?_
    exact go_ret (pc := 436) (r := none) d_Host_doInstruction_436 ⟨_, rfl, rfl, hk⟩
  · replace hk := hk.2.2.2.2.2.2.2.2.2.1 hsx
    refine go_tableIn (pc := 60) (tgt := 257) d_Host_doInstruction_60 (by omega) (by omega) (by rw [hsx]; rfl) rfl ?_
    refine go_aload_n (pc := 257) (i := 1) d_Host_doInstruction_257 rfl rfl ?_
    refine go_getR (pc := 258) (r := 29 + 17 * k1) (sh_ten hk1) rfl fl_Host_205 d_Host_doInstruction_258 ?_
    refine go_callV (pc := 261) (m_Stk_putTopAgain hk1 hk) cz_Stk_putTopAgain cv_Stk_putTopAgain (Or.inl lk_Host_229) (lay_at (sh_stack hk1)) rfl rfl rfl (Nat.le_of_ble_eq_true rfl) ⟨by decide, by decide⟩ rfl rfl d_Host_doInstruction_261 (fun r M' hr => ?_)
    obtain ⟨μ26, rfl, rfl, hk⟩ := hr
    try dsimp only [Option.toList, List.cons_append, List.nil_append]
    refine go_goto (pc := 264) (tgt := 436) d_Host_doInstruction_264 rfl ?_
    exact go_ret (pc := 436) (r := none) d_Host_doInstruction_436 ⟨_, rfl, rfl, hk⟩
  · replace hk := hk.2.2.2.2.2.2.2.2.2.2.1 hsx
    refine go_tableIn (pc := 60) (tgt := 267) d_Host_doInstruction_60 (by omega) (by omega) (by rw [hsx]; rfl) rfl ?_
    refine go_aload_n (pc := 267) (i := 1) d_Host_doInstruction_267 rfl rfl ?_
    refine go_getR (pc := 268) (r := 29 + 17 * k1) (sh_ten hk1) rfl fl_Host_205 d_Host_doInstruction_268 ?_
    refine go_callV (pc := 271) (m_Stk_take hk1 hk) cz_Stk_take cv_Stk_take (Or.inl lk_Host_226) (lay_at (sh_stack hk1)) rfl rfl rfl (Nat.le_of_ble_eq_true rfl) ⟨by decide, by decide⟩ rfl rfl d_Host_doInstruction_271 (fun r M' hr => ?_)
    obtain ⟨x28, μ27, rfl, rfl, hk⟩ := hr
    try dsimp only [Option.toList, List.cons_append, List.nil_append]
    refine go_pop (pc := 274) d_Host_doInstruction_274 rfl ?_
    refine go_goto (pc := 275) (tgt := 436) d_Host_doInstruction_275 rfl ?_
    exact go_ret (pc := 436) (r := none) d_Host_doInstruction_436 ⟨_, rfl, rfl, hk⟩
  · replace hk := hk.2.2.2.2.2.2.2.2.2.2.2.1 hsx
    refine go_tableIn (pc := 60) (tgt := 278) d_Host_doInstruction_60 (by omega) (by omega) (by rw [hsx]; rfl) rfl ?_
    refine go_aload_n (pc := 278) (i := 0) d_Host_doInstruction_278 rfl rfl ?_
    refine go_aload_n (pc := 279) (i := 1) d_Host_doInstruction_279 rfl rfl ?_
    refine go_callV (pc := 280) (m_Host_makeCell hk1 hk) cz_Host_makeCell cv_Host_makeCell (Or.inl lk_Host_232) (lay_at sh_host) rfl rfl rfl (Nat.le_of_ble_eq_true rfl) ⟨by decide, by decide⟩ rfl rfl d_Host_doInstruction_280 (fun r M' hr => ?_)
    obtain ⟨μ29, rfl, rfl, hk⟩ := hr
    try dsimp only [Option.toList, List.cons_append, List.nil_append]
    refine go_goto (pc := 283) (tgt := 436) d_Host_doInstruction_283 rfl ?_
    exact go_ret (pc := 436) (r := none) d_Host_doInstruction_436 ⟨_, rfl, rfl, hk⟩
  · replace hk := hk.2.2.2.2.2.2.2.2.2.2.2.2.1 hsx
    refine go_tableIn (pc := 60) (tgt := 286) d_Host_doInstruction_60 (by omega) (by omega) (by rw [hsx]; rfl) rfl ?_
    refine go_aload_n (pc := 286) (i := 0) d_Host_doInstruction_286 rfl rfl ?_
    refine go_aload_n (pc := 287) (i := 1) d_Host_doInstruction_287 rfl rfl ?_
    refine go_iload_n (pc := 288) (i := 3) d_Host_doInstruction_288 rfl rfl ?_
    refine go_callV (pc := 289) (m_Host_getPart hk1 hk) cz_Host_getPart cv_Host_getPart (Or.inl lk_Host_235) (lay_at sh_host) rfl rfl rfl (Nat.le_of_ble_eq_true rfl) ⟨by decide, by decide⟩ rfl rfl d_Host_doInstruction_289 (fun r M' hr => ?_)
    obtain ⟨μ30, rfl, rfl, hk⟩ := hr
    try dsimp only [Option.toList, List.cons_append, List.nil_append]
    refine go_goto (pc := 292) (tgt := 436) d_Host_doInstruction_292 rfl ?_
    exact go_ret (pc := 436) (r := none) d_Host_doInstruction_436 ⟨_, rfl, rfl, hk⟩
  · replace hk := hk.2.2.2.2.2.2.2.2.2.2.2.2.2.1 hsx
    refine go_tableIn (pc := 60) (tgt := 295) d_Host_doInstruction_60 (by omega) (by omega) (by rw [hsx]; rfl) rfl ?_
    refine go_aload_n (pc := 295) (i := 0) d_Host_doInstruction_295 rfl rfl ?_
    refine go_aload_n (pc := 296) (i := 1) d_Host_doInstruction_296 rfl rfl ?_
    refine go_iload_n (pc := 297) (i := 3) d_Host_doInstruction_297 rfl rfl ?_
    refine go_callV (pc := 298) (m_Host_setPart hk1 hk) cz_Host_setPart cv_Host_setPart (Or.inl lk_Host_238) (lay_at sh_host) rfl rfl rfl (Nat.le_of_ble_eq_true rfl) ⟨by decide, by decide⟩ rfl rfl d_Host_doInstruction_298 (fun r M' hr => ?_)
    obtain ⟨μ31, rfl, rfl, hk⟩ := hr
    try dsimp only [Option.toList, List.cons_append, List.nil_append]
    refine go_goto (pc := 301) (tgt := 436) d_Host_doInstruction_301 rfl ?_
    exact go_ret (pc := 436) (r := none) d_Host_doInstruction_436 ⟨_, rfl, rfl, hk⟩
  · replace hk := hk.2.2.2.2.2.2.2.2.2.2.2.2.2.2.1 hsx
    refine go_tableIn (pc := 60) (tgt := 304) d_Host_doInstruction_60 (by omega) (by omega) (by rw [hsx]; rfl) rfl ?_
    refine go_aload_n (pc := 304) (i := 1) d_Host_doInstruction_304 rfl rfl ?_
    refine go_getR (pc := 305) (r := 29 + 17 * k1) (sh_ten hk1) rfl fl_Host_205 d_Host_doInstruction_305 ?_
    refine go_callS (pc := 308) (m_Host_compare hk1 hk) cz_Host_compare sm_Host_compare (Or.inl lk_Host_241) rfl rfl (Nat.le_of_ble_eq_true rfl) ⟨by decide, by decide⟩ rfl rfl d_Host_doInstruction_308 (fun r M' hr => ?_)
    obtain ⟨μ32, rfl, rfl, hk⟩ := hr
    try dsimp only [Option.toList, List.cons_append, List.nil_append]
    refine go_goto (pc := 311) (tgt := 436) d_Host_doInstruction_311 rfl ?_
    exact go_ret (pc := 436) (r := none) d_Host_doInstruction_436 ⟨_, rfl, rfl, hk⟩
  · replace hk := hk.2.2.2.2.2.2.2.2.2.2.2.2.2.2.2.1 hsx
    refine go_tableIn (pc := 60) (tgt := 314) d_Host_doInstruction_60 (by omega) (by omega) (by rw [hsx]; rfl) rfl ?_
    refine go_aload_n (pc := 314) (i := 1) d_Host_doInstruction_314 rfl rfl ?_
    refine go_getR (pc := 315) (r := 29 + 17 * k1) (sh_ten hk1) rfl fl_Host_205 d_Host_doInstruction_315 ?_
    refine go_iconst (pc := 318) (v := 0) d_Host_doInstruction_318 (by decide) ?_
    refine go_callV (pc := 319) (m_Stk_putReference hk1 hk) cz_Stk_putReference cv_Stk_putReference (Or.inl lk_Host_245) (lay_at (sh_stack hk1)) rfl rfl rfl (Nat.le_of_ble_eq_true rfl) ⟨by decide, by decide⟩ rfl rfl d_Host_doInstruction_319 (fun r M' hr => ?_)
    obtain ⟨μ33, rfl, rfl, hk⟩ := hr
    try dsimp only [Option.toList, List.cons_append, List.nil_append]
    refine go_goto (pc := 322) (tgt := 436) d_Host_doInstruction_322 rfl ?_
    exact go_ret (pc := 436) (r := none) d_Host_doInstruction_436 ⟨_, rfl, rfl, hk⟩
  · replace hk := hk.2.2.2.2.2.2.2.2.2.2.2.2.2.2.2.2.1 hsx
    refine go_tableIn (pc := 60) (tgt := 325) d_Host_doInstruction_60 (by omega) (by omega) (by rw [hsx]; rfl) rfl ?_
    refine go_aload_n (pc := 325) (i := 1) d_Host_doInstruction_325 rfl rfl ?_
    refine go_getR (pc := 326) (r := 29 + 17 * k1) (sh_ten hk1) rfl fl_Host_205 d_Host_doInstruction_326 ?_
    refine go_iload_n (pc := 329) (i := 3) d_Host_doInstruction_329 rfl rfl ?_
    refine go_aload_n (pc := 330) (i := 0) d_Host_doInstruction_330 rfl rfl ?_
    refine go_getI (pc := 331) sh_host rfl fl_Host_21 d_Host_doInstruction_331 ?_
    refine go_icmp_ge (pc := 334) (tgt := 344) d_Host_doInstruction_334 rfl (fun h334 => ?_) (fun h334 => ?_)
    · replace hk := hk.1 h334
      refine go_iconst (pc := 344) (v := 0) d_Host_doInstruction_344 (by decide) ?_
      refine go_callV (pc := 345) (m_Stk_putReference hk1 hk) cz_Stk_putReference cv_Stk_putReference (Or.inl lk_Host_245) (lay_at (sh_stack hk1)) rfl rfl rfl (Nat.le_of_ble_eq_true rfl) ⟨by decide, by decide⟩ rfl rfl d_Host_doInstruction_345 (fun r M' hr => ?_)
      obtain ⟨μ34, rfl, rfl, hk⟩ := hr
      try dsimp only [Option.toList, List.cons_append, List.nil_append]
      refine go_goto (pc := 348) (tgt := 436) d_Host_doInstruction_348 rfl ?_
      exact go_ret (pc := 436) (r := none) d_Host_doInstruction_436 ⟨_, rfl, rfl, hk⟩
    · replace hk := hk.2 h334
      refine go_iload_n (pc := 337) (i := 3) d_Host_doInstruction_337 rfl rfl ?_
      refine go_callS (pc := 338) (m_Host_sharedReference  hk) cz_Host_sharedReference sm_Host_sharedReference (Or.inl lk_Host_73) rfl rfl (Nat.le_of_ble_eq_true rfl) ⟨by decide, by decide⟩ rfl rfl d_Host_doInstruction_338 (fun r M' hr => ?_)
      obtain ⟨x36, μ35, rfl, rfl, hk⟩ := hr
      try dsimp only [Option.toList, List.cons_append, List.nil_append]
      refine go_goto (pc := 341) (tgt := 345) d_Host_doInstruction_341 rfl ?_
      refine go_callV (pc := 345) (m_Stk_putReference hk1 hk) cz_Stk_putReference cv_Stk_putReference (Or.inl lk_Host_245) (lay_at (sh_stack hk1)) rfl rfl rfl (Nat.le_of_ble_eq_true rfl) ⟨by decide, by decide⟩ rfl rfl d_Host_doInstruction_345 (fun r M' hr => ?_)
      obtain ⟨μ37, rfl, rfl, hk⟩ := hr
      try dsimp only [Option.toList, List.cons_append, List.nil_append]
      refine go_goto (pc := 348) (tgt := 436) d_Host_doInstruction_348 rfl ?_
      exact go_ret (pc := 436) (r := none) d_Host_doInstruction_436 ⟨_, rfl, rfl, hk⟩
  · replace hk := hk.2.2.2.2.2.2.2.2.2.2.2.2.2.2.2.2.2.1 hsx
    refine go_tableIn (pc := 60) (tgt := 351) d_Host_doInstruction_60 (by omega) (by omega) (by rw [hsx]; rfl) rfl ?_
    refine go_aload_n (pc := 351) (i := 1) d_Host_doInstruction_351 rfl rfl ?_
    refine go_iload_n (pc := 352) (i := 3) d_Host_doInstruction_352 rfl rfl ?_
    refine go_putIn (pc := 353) (sh_ten hk1) rfl (fp_Host_196 rfl) d_Host_doInstruction_353 (fun μ38 e38 => ?_)
    replace hk := hk μ38 e38
    refine go_goto (pc := 356) (tgt := 436) d_Host_doInstruction_356 rfl ?_
    exact go_ret (pc := 436) (r := none) d_Host_doInstruction_436 ⟨_, rfl, rfl, hk⟩
  · replace hk := hk.2.2.2.2.2.2.2.2.2.2.2.2.2.2.2.2.2.2.1 hsx
    refine go_tableIn (pc := 60) (tgt := 359) d_Host_doInstruction_60 (by omega) (by omega) (by rw [hsx]; rfl) rfl ?_
    refine go_aload_n (pc := 359) (i := 1) d_Host_doInstruction_359 rfl rfl ?_
    refine go_iload_n (pc := 360) (i := 3) d_Host_doInstruction_360 rfl rfl ?_
    refine go_callS (pc := 361) (m_Host_jumpIfZero hk1 hk) cz_Host_jumpIfZero sm_Host_jumpIfZero (Or.inl lk_Host_248) rfl rfl (Nat.le_of_ble_eq_true rfl) ⟨by decide, by decide⟩ rfl rfl d_Host_doInstruction_361 (fun r M' hr => ?_)
    obtain ⟨μ39, rfl, rfl, hk⟩ := hr
    try dsimp only [Option.toList, List.cons_append, List.nil_append]
    refine go_goto (pc := 364) (tgt := 436) d_Host_doInstruction_364 rfl ?_
    exact go_ret (pc := 436) (r := none) d_Host_doInstruction_436 ⟨_, rfl, rfl, hk⟩
  · replace hk := hk.2.2.2.2.2.2.2.2.2.2.2.2.2.2.2.2.2.2.2.1 hsx
    refine go_tableIn (pc := 60) (tgt := 367) d_Host_doInstruction_60 (by omega) (by omega) (by rw [hsx]; rfl) rfl ?_
    refine go_aload_n (pc := 367) (i := 0) d_Host_doInstruction_367 rfl rfl ?_
    refine go_aload_n (pc := 368) (i := 1) d_Host_doInstruction_368 rfl rfl ?_
    refine go_callV (pc := 369) (m_Host_putOut hk1 hk) cz_Host_putOut cv_Host_putOut (Or.inl lk_Host_251) (lay_at sh_host) rfl rfl rfl (Nat.le_of_ble_eq_true rfl) ⟨by decide, by decide⟩ rfl rfl d_Host_doInstruction_369 (fun r M' hr => ?_)
    obtain ⟨μ40, rfl, rfl, hk⟩ := hr
    try dsimp only [Option.toList, List.cons_append, List.nil_append]
    refine go_goto (pc := 372) (tgt := 436) d_Host_doInstruction_372 rfl ?_
    exact go_ret (pc := 436) (r := none) d_Host_doInstruction_436 ⟨_, rfl, rfl, hk⟩
  · replace hk := hk.2.2.2.2.2.2.2.2.2.2.2.2.2.2.2.2.2.2.2.2.1 hsx
    refine go_tableIn (pc := 60) (tgt := 375) d_Host_doInstruction_60 (by omega) (by omega) (by rw [hsx]; rfl) rfl ?_
    refine go_aload_n (pc := 375) (i := 1) d_Host_doInstruction_375 rfl rfl ?_
    refine go_getR (pc := 376) (r := 29 + 17 * k1) (sh_ten hk1) rfl fl_Host_205 d_Host_doInstruction_376 ?_
    refine go_aload_n (pc := 379) (i := 1) d_Host_doInstruction_379 rfl rfl ?_
    refine go_getR (pc := 380) (r := 35 + 17 * k1) (sh_ten hk1) rfl fl_Host_106 d_Host_doInstruction_380 ?_
    refine go_callV (pc := 383) (m_Line_takeFirst (isl_inputs hk1) hk) cz_Line_takeFirst cv_Line_takeFirst (Or.inl lk_Host_254) (lay_at (isl_inputs hk1).1) rfl rfl rfl (Nat.le_of_ble_eq_true rfl) ⟨by decide, by decide⟩ rfl rfl d_Host_doInstruction_383 (fun r M' hr => ?_)
    obtain ⟨x42, μ41, rfl, rfl, hk⟩ := hr
    try dsimp only [Option.toList, List.cons_append, List.nil_append]
    refine go_callV (pc := 386) (m_Stk_putNumber hk1 hk) cz_Stk_putNumber cv_Stk_putNumber (Or.inl lk_Host_209) (lay_at (sh_stack hk1)) rfl rfl rfl (Nat.le_of_ble_eq_true rfl) ⟨by decide, by decide⟩ rfl rfl d_Host_doInstruction_386 (fun r M' hr => ?_)
    obtain ⟨μ43, rfl, rfl, hk⟩ := hr
    try dsimp only [Option.toList, List.cons_append, List.nil_append]
    refine go_goto (pc := 389) (tgt := 436) d_Host_doInstruction_389 rfl ?_
    exact go_ret (pc := 436) (r := none) d_Host_doInstruction_436 ⟨_, rfl, rfl, hk⟩
  · replace hk := hk.2.2.2.2.2.2.2.2.2.2.2.2.2.2.2.2.2.2.2.2.2.1 hsx
    refine go_tableIn (pc := 60) (tgt := 392) d_Host_doInstruction_60 (by omega) (by omega) (by rw [hsx]; rfl) rfl ?_
    refine go_aload_n (pc := 392) (i := 0) d_Host_doInstruction_392 rfl rfl ?_
    refine go_aload_n (pc := 393) (i := 1) d_Host_doInstruction_393 rfl rfl ?_
    refine go_iload_n (pc := 394) (i := 3) d_Host_doInstruction_394 rfl rfl ?_
    refine go_callV (pc := 395) (m_Host_sendTo hk1 hk) cz_Host_sendTo cv_Host_sendTo (Or.inl lk_Host_257) (lay_at sh_host) rfl rfl rfl (Nat.le_of_ble_eq_true rfl) ⟨by decide, by decide⟩ rfl rfl d_Host_doInstruction_395 (fun r M' hr => ?_)
    obtain ⟨μ44, rfl, rfl, hk⟩ := hr
    try dsimp only [Option.toList, List.cons_append, List.nil_append]
    refine go_goto (pc := 398) (tgt := 436) d_Host_doInstruction_398 rfl ?_
    exact go_ret (pc := 436) (r := none) d_Host_doInstruction_436 ⟨_, rfl, rfl, hk⟩
  · replace hk := hk.2.2.2.2.2.2.2.2.2.2.2.2.2.2.2.2.2.2.2.2.2.2.1 hsx
    refine go_tableIn (pc := 60) (tgt := 401) d_Host_doInstruction_60 (by omega) (by omega) (by rw [hsx]; rfl) rfl ?_
    refine go_aload_n (pc := 401) (i := 1) d_Host_doInstruction_401 rfl rfl ?_
    refine go_getR (pc := 402) (r := 29 + 17 * k1) (sh_ten hk1) rfl fl_Host_205 d_Host_doInstruction_402 ?_
    refine go_aload_n (pc := 405) (i := 1) d_Host_doInstruction_405 rfl rfl ?_
    refine go_getR (pc := 406) (r := 33 + 17 * k1) (sh_ten hk1) rfl fl_Host_148 d_Host_doInstruction_406 ?_
    refine go_callV (pc := 409) (m_Line_takeFirst (isl_mail hk1) hk) cz_Line_takeFirst cv_Line_takeFirst (Or.inl lk_Host_254) (lay_at (isl_mail hk1).1) rfl rfl rfl (Nat.le_of_ble_eq_true rfl) ⟨by decide, by decide⟩ rfl rfl d_Host_doInstruction_409 (fun r M' hr => ?_)
    obtain ⟨x46, μ45, rfl, rfl, hk⟩ := hr
    try dsimp only [Option.toList, List.cons_append, List.nil_append]
    refine go_callV (pc := 412) (m_Stk_putReference hk1 hk) cz_Stk_putReference cv_Stk_putReference (Or.inl lk_Host_245) (lay_at (sh_stack hk1)) rfl rfl rfl (Nat.le_of_ble_eq_true rfl) ⟨by decide, by decide⟩ rfl rfl d_Host_doInstruction_412 (fun r M' hr => ?_)
    obtain ⟨μ47, rfl, rfl, hk⟩ := hr
    try dsimp only [Option.toList, List.cons_append, List.nil_append]
    refine go_goto (pc := 415) (tgt := 436) d_Host_doInstruction_415 rfl ?_
    exact go_ret (pc := 436) (r := none) d_Host_doInstruction_436 ⟨_, rfl, rfl, hk⟩
  · replace hk := hk.2.2.2.2.2.2.2.2.2.2.2.2.2.2.2.2.2.2.2.2.2.2.2.1 hsx
    refine go_tableIn (pc := 60) (tgt := 418) d_Host_doInstruction_60 (by omega) (by omega) (by rw [hsx]; rfl) rfl ?_
    refine go_aload_n (pc := 418) (i := 0) d_Host_doInstruction_418 rfl rfl ?_
    refine go_aload_n (pc := 419) (i := 1) d_Host_doInstruction_419 rfl rfl ?_
    refine go_iload_n (pc := 420) (i := 3) d_Host_doInstruction_420 rfl rfl ?_
    refine go_callV (pc := 421) (m_Host_startOther hk1 hk) cz_Host_startOther cv_Host_startOther (Or.inl lk_Host_260) (lay_at sh_host) rfl rfl rfl (Nat.le_of_ble_eq_true rfl) ⟨by decide, by decide⟩ rfl rfl d_Host_doInstruction_421 (fun r M' hr => ?_)
    obtain ⟨μ48, rfl, rfl, hk⟩ := hr
    try dsimp only [Option.toList, List.cons_append, List.nil_append]
    refine go_goto (pc := 424) (tgt := 436) d_Host_doInstruction_424 rfl ?_
    exact go_ret (pc := 436) (r := none) d_Host_doInstruction_436 ⟨_, rfl, rfl, hk⟩
  · replace hk := hk.2.2.2.2.2.2.2.2.2.2.2.2.2.2.2.2.2.2.2.2.2.2.2.2 hsx
    refine go_tableIn (pc := 60) (tgt := 427) d_Host_doInstruction_60 (by omega) (by omega) (by rw [hsx]; rfl) rfl ?_
    refine go_aload_n (pc := 427) (i := 0) d_Host_doInstruction_427 rfl rfl ?_
    refine go_aload_n (pc := 428) (i := 1) d_Host_doInstruction_428 rfl rfl ?_
    refine go_iload_n (pc := 429) (i := 3) d_Host_doInstruction_429 rfl rfl ?_
    refine go_callV (pc := 430) (m_Host_stopOther hk1 hk) cz_Host_stopOther cv_Host_stopOther (Or.inl lk_Host_263) (lay_at sh_host) rfl rfl rfl (Nat.le_of_ble_eq_true rfl) ⟨by decide, by decide⟩ rfl rfl d_Host_doInstruction_430 (fun r M' hr => ?_)
    obtain ⟨μ49, rfl, rfl, hk⟩ := hr
    try dsimp only [Option.toList, List.cons_append, List.nil_append]
    refine go_goto (pc := 433) (tgt := 436) d_Host_doInstruction_433 rfl ?_
    exact go_ret (pc := 436) (r := none) d_Host_doInstruction_436 ⟨_, rfl, rfl, hk⟩
