/-! The law: every call of the script, in both. -/
theorem Sim.two {wc wr : Mu → (Int32 → Mu → Prop) → Prop} {c c' : Nat} {μ : Mu} (hs : Sim c' μ wc wr) (h : Rel c μ) : ∃ x μ1 μ2, (∀ Q : Int32 → Mu → Prop, Q x μ1 → wc μ Q) ∧ (∀ Q : Int32 → Mu → Prop, Q x μ2 → wr μ1 Q) ∧ Rel c' μ2 := by
  obtain ⟨x, μ1, h1, h2, h3, h4⟩ := hs
  obtain ⟨μ2, g1, g2, g3⟩ := h4 μ1 (h.2.ref h2)
  exact ⟨x, μ1, μ2, h1, g1, ⟨h3.cls g2, g3.cls g2⟩⟩
theorem law_loop {sn : Nat} {sx : Nat → Int32} (hsn : sn ≤ 2049) {K0 K1 K2 K3 K4 K5 K6 K7 K8 K9 K10 K11 K12 K13 K14 K15 K16 K17 K18 K19 K20 : Int32 → Mu → Prop} {Q : Int32 → Mu → Prop} (hK : ∀ v μ, K20 v μ) :
    ∀ (f i c : Nat) (μ : Mu), sn < i + 4 + 4 * f → i ≤ 2060 → c + 200 * f < 2 ^ 20 → Rel c μ → wp_Law_law_28 sn sx K0 K1 K2 K3 K4 K5 K6 K7 K8 K9 K10 K11 K12 K13 K14 K15 K16 K17 K18 K19 K20 Q (f + 1) (nI i) μ := by
  intro f
  induction f with
  | zero =>
    intro i c μ hi h60 hc hR
    refine ⟨fun _ => hK _ _, fun h => absurd ?_ h⟩
    rw [Int32.lt_iff_toInt_lt, show (Int32.ofNat sn - (4 : Int32)).toInt = (sn : Int) - (4 : Nat) from pk_sub_toInt (a := sn) (b := 4) (by omega) (by omega), nI_toInt (by omega)]
    omega
  | succ f ih =>
    intro i c μ hi h60 hc hR
    refine ⟨fun _ => hK _ _, fun h => ?_⟩
    have h4 : i + 4 ≤ sn := by
      rw [Int32.lt_iff_toInt_lt, show (Int32.ofNat sn - (4 : Int32)).toInt = (sn : Int) - (4 : Nat) from pk_sub_toInt (a := sn) (b := 4) (by omega) (by omega), nI_toInt (by omega)] at h
      omega
    have b0 : vp_in (nI i) sn := vp_in_nI (by omega) (by omega)
    have b1 : vp_in (nI i + (1 : Int32)) sn := by rw [show nI i + (1 : Int32) = nI (i + 1) from nI_add i 1]; exact vp_in_nI (by omega) (by omega)
    have b2 : vp_in (nI i + (2 : Int32)) sn := by rw [show nI i + (2 : Int32) = nI (i + 2) from nI_add i 2]; exact vp_in_nI (by omega) (by omega)
    have b3 : vp_in (nI i + (3 : Int32)) sn := by rw [show nI i + (3 : Int32) = nI (i + 3) from nI_add i 3]; exact vp_in_nI (by omega) (by omega)
    have e4 : nI i + 4 = nI (i + 4) := nI_add i 4
    have hn : ∀ μ', Rel c μ' → wp_Law_law_28 sn sx K0 K1 K2 K3 K4 K5 K6 K7 K8 K9 K10 K11 K12 K13 K14 K15 K16 K17 K18 K19 K20 Q (f + 1) (nI i + 4) μ' := fun μ' h' => by
      rw [e4]; exact ih (i + 4) c μ' (by omega) (by omega) (by omega) h'
    have hn2 : ∀ μ', Rel (c + 200) μ' → wp_Law_law_28 sn sx K0 K1 K2 K3 K4 K5 K6 K7 K8 K9 K10 K11 K12 K13 K14 K15 K16 K17 K18 K19 K20 Q (f + 1) (nI i + 4) μ' := fun μ' h' => by
      rw [e4]; exact ih (i + 4) (c + 200) μ' (by omega) (by omega) (by omega) h'
    refine ⟨b0, fun _ => hn μ hR, fun _ => ?_, fun _ => ?_, fun _ => ?_, fun _ => ?_, fun _ => ?_, fun _ => ?_, fun _ => ?_, fun _ => ?_, fun _ => ?_, fun _ => ?_, fun _ => ?_, fun _ => ?_, fun _ => ?_, fun _ => ?_, fun _ => ?_, fun _ => ?_, fun _ => ?_, fun _ => ?_, fun _ => ?_, fun _ => ?_⟩
    · obtain ⟨x, μ1, μ2, w1, w2, hR2⟩ := Sim.two (sim_code hR.1) hR
      exact ⟨b1, b2, b3, w1 _ ⟨b1, b2, b3, w2 _ ⟨fun _ => hn μ2 hR2, fun h => absurd rfl h⟩⟩⟩
    · obtain ⟨x, μ1, μ2, w1, w2, hR2⟩ := Sim.two (sim_clear hR.1) hR
      exact ⟨b1, w1 _ ⟨b1, w2 _ ⟨fun _ => hn μ2 hR2, fun h => absurd rfl h⟩⟩⟩
    · obtain ⟨x, μ1, μ2, w1, w2, hR2⟩ := Sim.two (sim_seal hR.1) hR
      exact ⟨b1, w1 _ ⟨b1, w2 _ ⟨fun _ => hn μ2 hR2, fun h => absurd rfl h⟩⟩⟩
    · obtain ⟨x, μ1, μ2, w1, w2, hR2⟩ := Sim.two (sim_shape hR.1) hR
      exact ⟨b1, b2, w1 _ ⟨b1, b2, w2 _ ⟨fun _ => hn μ2 hR2, fun h => absurd rfl h⟩⟩⟩
    · obtain ⟨x, μ1, μ2, w1, w2, hR2⟩ := Sim.two (sim_share hR.1) hR
      exact ⟨b1, b2, b3, w1 _ ⟨b1, b2, b3, w2 _ ⟨fun _ => hn μ2 hR2, fun h => absurd rfl h⟩⟩⟩
    · obtain ⟨x, μ1, μ2, w1, w2, hR2⟩ := Sim.two (sim_reserve hR.1) hR
      exact ⟨b1, b2, b3, w1 _ ⟨b1, b2, b3, w2 _ ⟨fun _ => hn μ2 hR2, fun h => absurd rfl h⟩⟩⟩
    · obtain ⟨x, μ1, μ2, w1, w2, hR2⟩ := Sim.two (sim_permit hR.1) hR
      exact ⟨b1, b2, b3, w1 _ ⟨b1, b2, b3, w2 _ ⟨fun _ => hn μ2 hR2, fun h => absurd rfl h⟩⟩⟩
    · obtain ⟨x, μ1, μ2, w1, w2, hR2⟩ := Sim.two (sim_launch hR.1) hR
      exact ⟨b1, b2, w1 _ ⟨b1, b2, w2 _ ⟨fun _ => hn μ2 hR2, fun h => absurd rfl h⟩⟩⟩
    · obtain ⟨x, μ1, μ2, w1, w2, hR2⟩ := Sim.two (sim_feed hR.1) hR
      exact ⟨b1, b2, w1 _ ⟨b1, b2, w2 _ ⟨fun _ => hn μ2 hR2, fun h => absurd rfl h⟩⟩⟩
    · obtain ⟨x, μ1, μ2, w1, w2, hR2⟩ := Sim.two (sim_run hR.1 (by omega)) hR
      exact ⟨b1, w1 _ ⟨b1, w2 _ ⟨fun _ => hn2 μ2 hR2, fun h => absurd rfl h⟩⟩⟩
    · obtain ⟨x, μ1, μ2, w1, w2, hR2⟩ := Sim.two (sim_state hR.1) hR
      exact ⟨b1, w1 _ ⟨b1, w2 _ ⟨fun _ => hn μ2 hR2, fun h => absurd rfl h⟩⟩⟩
    · obtain ⟨x, μ1, μ2, w1, w2, hR2⟩ := Sim.two (sim_steps hR.1) hR
      exact ⟨b1, w1 _ ⟨b1, w2 _ ⟨fun _ => hn μ2 hR2, fun h => absurd rfl h⟩⟩⟩
    · obtain ⟨x, μ1, μ2, w1, w2, hR2⟩ := Sim.two (sim_used hR.1) hR
      exact ⟨b1, w1 _ ⟨b1, w2 _ ⟨fun _ => hn μ2 hR2, fun h => absurd rfl h⟩⟩⟩
    · obtain ⟨x, μ1, μ2, w1, w2, hR2⟩ := Sim.two (sim_live hR.1) hR
      exact ⟨b1, w1 _ ⟨b1, w2 _ ⟨fun _ => hn μ2 hR2, fun h => absurd rfl h⟩⟩⟩
    · obtain ⟨x, μ1, μ2, w1, w2, hR2⟩ := Sim.two (sim_collections hR.1) hR
      exact ⟨b1, w1 _ ⟨b1, w2 _ ⟨fun _ => hn μ2 hR2, fun h => absurd rfl h⟩⟩⟩
    · obtain ⟨x, μ1, μ2, w1, w2, hR2⟩ := Sim.two (sim_ended hR.1) hR
      exact ⟨b1, w1 _ ⟨b1, w2 _ ⟨fun _ => hn μ2 hR2, fun h => absurd rfl h⟩⟩⟩
    · obtain ⟨x, μ1, μ2, w1, w2, hR2⟩ := Sim.two (sim_messages hR.1) hR
      exact ⟨b1, w1 _ ⟨b1, w2 _ ⟨fun _ => hn μ2 hR2, fun h => absurd rfl h⟩⟩⟩
    · obtain ⟨x, μ1, μ2, w1, w2, hR2⟩ := Sim.two (sim_output hR.1) hR
      exact ⟨b1, b2, w1 _ ⟨b1, b2, w2 _ ⟨fun _ => hn μ2 hR2, fun h => absurd rfl h⟩⟩⟩
    · obtain ⟨x, μ1, μ2, w1, w2, hR2⟩ := Sim.two (sim_local hR.1) hR
      exact ⟨b1, b2, w1 _ ⟨b1, b2, w2 _ ⟨fun _ => hn μ2 hR2, fun h => absurd rfl h⟩⟩⟩
    · obtain ⟨x, μ1, μ2, w1, w2, hR2⟩ := Sim.two (sim_look hR.1) hR
      exact ⟨b1, b2, b3, w1 _ ⟨b1, b2, b3, w2 _ ⟨fun _ => hn μ2 hR2, fun h => absurd rfl h⟩⟩⟩
/-! The start. -/
theorem clM_ok (a : Int32) : ∃ len, 1 ≤ len ∧ len ≤ 8 ∧ clM a = nI len ∧ (if (1 : Int32) < (if a < (8 : Int32) then a else (8 : Int32)) then (if a < (8 : Int32) then a else (8 : Int32)) else (1 : Int32)) = nI len := by
  unfold clM
  by_cases h8 : a < (8 : Int32)
  · by_cases h1 : (1 : Int32) < a
    · obtain ⟨j, hj, rfl⟩ := nI_of (x := a) (fun h => by rw [Int32.lt_iff_toInt_lt] at h h1; have e0 : (0 : Int32).toInt = 0 := by decide
                                                         have e1 : (1 : Int32).toInt = 1 := by decide
                                                         omega)
      have j8 : j < 8 := (nI_ltI (b := 8) hj (by decide)).mp h8
      have j1 : 1 < j := (nI_ltI (a := 1) (by decide) hj).mp h1
      refine ⟨j, by omega, by omega, ?_, ?_⟩
      · rw [if_pos (show (1 : Int32) ≤ nI j from nI_le (a := 1) (by omega) (by omega)), if_pos (show nI j ≤ (8 : Int32) from nI_le (b := 8) (by omega) (by decide))]
      · rw [if_pos h8, if_pos h1]
    · refine ⟨1, by omega, by omega, ?_, ?_⟩
      · by_cases h2 : (1 : Int32) ≤ a
        · have e : a = 1 := by
            rw [Int32.lt_iff_toInt_lt] at h1
            rw [Int32.le_iff_toInt_le] at h2
            exact Int32.toInt_inj.mp (by omega)
          rw [if_pos h2, e, if_pos (by decide)]; rfl
        · rw [if_neg h2]; rfl
      · rw [if_pos h8, if_neg h1]; rfl
  · refine ⟨8, by omega, by omega, ?_, ?_⟩
    · have h2 : (8 : Int32) ≤ a := by
        rw [Int32.lt_iff_toInt_lt] at h8
        rw [Int32.le_iff_toInt_le]
        omega
      rw [if_pos (show (1 : Int32) ≤ a by
        rw [Int32.le_iff_toInt_le] at h2 ⊢
        have e8 : (8 : Int32).toInt = 8 := by decide
        have e1 : (1 : Int32).toInt = 1 := by decide
        omega)]
      by_cases h3 : a ≤ (8 : Int32)
      · rw [if_pos h3]
        rw [Int32.le_iff_toInt_le] at h2 h3
        exact Int32.toInt_inj.mp (show a.toInt = (8 : Int32).toInt by omega)
      · rw [if_neg h3]; rfl
    · rw [if_neg h8, if_pos (by decide)]; rfl
theorem m0F {a : Int32} {t k j : Nat} (ht : t < 4) (h : ¬ (k = 0 ∧ j = 12)) : (cT (mu0 a) t).1 k j = 0 := by
  show (if k < 17 then mu0F a (23 + k + 17 * t) j else 0) = 0
  by_cases hk : k < 17
  · rw [if_pos hk]
    unfold mu0F
    rw [if_neg (show ¬ (23 + k + 17 * t = 0 ∧ j = 0) by omega), if_neg (show ¬ (23 + k + 17 * t = 23 ∧ j = 12) by omega), if_neg (show ¬ (23 + k + 17 * t = 40 ∧ j = 12) by omega), if_neg (show ¬ (23 + k + 17 * t = 57 ∧ j = 12) by omega), if_neg (show ¬ (23 + k + 17 * t = 74 ∧ j = 12) by omega), if_neg (show ¬ (23 + k + 17 * t = 91 ∧ j = 0) by omega)]
  · rw [if_neg hk]
theorem m0F12 {a : Int32} : ∀ t, t < 4 → (cT (mu0 a) t).1 0 12 = -1
  | 0, _ => rfl
  | 1, _ => rfl
  | 2, _ => rfl
  | 3, _ => rfl
theorem m0A {a : Int32} {t k i : Nat} (ht : t < 4) (h : k ≠ 5) : (cT (mu0 a) t).2.1 k i = 0 := by
  show (if k < 17 then mu0A (23 + k + 17 * t) i else 0) = 0
  by_cases hk : k < 17
  · rw [if_pos hk]
    unfold mu0A
    rw [if_neg (show ¬ (23 + k + 17 * t = 28) by omega), if_neg (show ¬ (23 + k + 17 * t = 45) by omega), if_neg (show ¬ (23 + k + 17 * t = 62) by omega), if_neg (show ¬ (23 + k + 17 * t = 79) by omega), if_neg (show ¬ (23 + k + 17 * t = 111) by omega), if_neg (show ¬ (23 + k + 17 * t = 114) by omega)]
  · rw [if_neg hk]
theorem m0A5 {a : Int32} : ∀ t, t < 4 → ∀ r, r < 9 → (cT (mu0 a) t).2.1 5 r = nI r
  | 0, _ => (by decide +kernel : ∀ r, r < 9 → mu0A 28 r = nI r)
  | 1, _ => (by decide +kernel : ∀ r, r < 9 → mu0A 45 r = nI r)
  | 2, _ => (by decide +kernel : ∀ r, r < 9 → mu0A 62 r = nI r)
  | 3, _ => (by decide +kernel : ∀ r, r < 9 → mu0A 79 r = nI r)
theorem m0P {a : Int32} {p j : Nat} (hp : p < 4) : (cP (mu0 a) p).1 j = 0 := by
  show mu0F a (3 + 5 * p) j = 0
  unfold mu0F
  rw [if_neg (show ¬ (3 + 5 * p = 0 ∧ j = 0) by omega), if_neg (show ¬ (3 + 5 * p = 23 ∧ j = 12) by omega), if_neg (show ¬ (3 + 5 * p = 40 ∧ j = 12) by omega), if_neg (show ¬ (3 + 5 * p = 57 ∧ j = 12) by omega), if_neg (show ¬ (3 + 5 * p = 74 ∧ j = 12) by omega), if_neg (show ¬ (3 + 5 * p = 91 ∧ j = 0) by omega)]
theorem tb0 (r : Nat) : ¬ tb 0 r = true := by
  unfold tb
  have : (0 : Int64).toBitVec = 0#64 := rfl
  rw [this]
  simp
theorem m0_inv (a : Int32) : Inv 0 (mu0 a) := by
  obtain ⟨len, h1, h8, -, he⟩ := clM_ok a
  have z0 : (0 : Int32) = nI 0 := rfl
  have hr0 : ∀ m, isR 0 m 0 := fun m => ⟨0, Or.inl rfl, rfl⟩
  refine ⟨len, 0, 0, ⟨h1, h8, ?_⟩, ⟨by omega, ?_⟩, ⟨by omega, ?_⟩, fun t ht => ⟨?_, ?_⟩, fun p hp => ?_, 0, 0, 0, 0, ?_, ?_, ?_, ?_, by omega⟩
  · exact he
  · exact rfl
  · exact rfl
  · have hF : ∀ k j, ¬ (k = 0 ∧ j = 12) → (cT (mu0 a) t).1 k j = 0 := fun k j h => m0F ht h
    have hA : ∀ k i, k ≠ 5 → (cT (mu0 a) t).2.1 k i = 0 := fun k i h => m0A ht h
    have hA5 := m0A5 (a := a) t ht
    have hJ : (cT (mu0 a) t).2.2 = 0 := rfl
    generalize cT (mu0 a) t = B at *
    refine ⟨⟨?_, ?_, ?_, ?_⟩, ⟨0, 0, 0, by omega, by omega, by omega, by omega, ?_, ?_, ?_⟩, ?_, fun _ => ?_, fun i hi => ?_, ⟨?_, ?_⟩, fun i hi => ?_, fun r hr => ?_, ⟨hA5, fun k hk => by omega⟩, fun u hu => ?_⟩
    · rw [hF 6 2 (by omega)]; exact ⟨0, by omega, rfl⟩
    · rw [hF 10 1 (by omega)]; exact ⟨0, by omega, rfl⟩
    · rw [hF 12 1 (by omega)]; exact ⟨0, by omega, rfl⟩
    · rw [hF 14 1 (by omega)]; exact ⟨0, by omega, rfl⟩
    · exact hF 0 10 (by omega)
    · exact hF 0 11 (by omega)
    · exact hF 1 5 (by omega)
    · rw [hF 0 8 (by omega)]; exact ⟨0, by omega, rfl⟩
    · exact hF 0 9 (by omega)
    · rw [hF 6 2 (by omega)] at hi; exact absurd hi (Nat.not_lt_zero _)
    · rw [hA 9 2 (by omega)]; exact hr0 _
    · rw [hA 9 3 (by omega)]; exact hr0 _
    · rw [hF 10 1 (by omega)] at hi; exact absurd hi (Nat.not_lt_zero _)
    · rw [hJ] at hr; exact absurd hr (tb0 r)
    · rw [hA 16 u (by omega)]; exact ⟨0, by omega, rfl⟩
  · have h7 := m0F (a := a) (k := 0) (j := 7) ht (by omega)
    refine ⟨fun h => ?_, fun _ => ⟨m0F ht (by omega), m0F ht (by omega), rfl⟩⟩
    rw [h7] at h
    rcases h with h | h <;> exact absurd h (by decide)
  · refine ⟨0, by omega, m0P hp, Or.inl (m0P hp), fun i hi => by omega, fun h => ?_⟩
    rw [m0P hp] at h
    exact absurd h (by decide)
  · exact m0F (by omega) (by omega)
  · exact m0F (by omega) (by omega)
  · exact m0F (by omega) (by omega)
  · exact m0F (by omega) (by omega)
theorem m0R {a : Int32} {t k : Nat} (h : 91 ≤ k) (h1 : k ≠ 111) (h2 : k ≠ 114) (i : Nat) : (mu0 a).2.1 k i = 0 := by
  show mu0A k i = 0
  unfold mu0A
  rw [if_neg (show ¬ (k = 28) by omega), if_neg (show ¬ (k = 45) by omega), if_neg (show ¬ (k = 62) by omega), if_neg (show ¬ (k = 79) by omega), if_neg h1, if_neg h2]
theorem m0S {a : Int32} {t k : Nat} (h : 91 ≤ k) (h1 : k ≠ 111) (h2 : k ≠ 114) : (rV (mu0 a) t).1 k = 0 := by
  show (if isS k = true then (mu0 a).2.1 k t else 0) = 0
  rw [m0R (t := t) h h1 h2]
  split <;> rfl
theorem m0V {a : Int32} {t k i : Nat} (h : 91 ≤ k) (h1 : k ≠ 111) (h2 : k ≠ 114) : (rV (mu0 a) t).2 k i = 0 := by
  show (if i < wd k then (mu0 a).2.1 k (wd k * t + i) else 0) = 0
  rw [m0R (t := t) h h1 h2]
  split <;> rfl
theorem m0S111 {a : Int32} : ∀ t, t < 4 → (rV (mu0 a) t).1 111 = -1
  | 0, _ => rfl
  | 1, _ => rfl
  | 2, _ => rfl
  | 3, _ => rfl
theorem m0V114 {a : Int32} : ∀ t, t < 4 → (rV (mu0 a) t).2 114 0 = 0 ∧ (rV (mu0 a) t).2 114 1 = 0 ∧ (rV (mu0 a) t).2 114 2 = -1 ∧ (rV (mu0 a) t).2 114 3 = -1
  | 0, _ => ⟨rfl, rfl, rfl, rfl⟩
  | 1, _ => ⟨rfl, rfl, rfl, rfl⟩
  | 2, _ => ⟨rfl, rfl, rfl, rfl⟩
  | 3, _ => ⟨rfl, rfl, rfl, rfl⟩
theorem m0_r2 (a : Int32) : R2 (mu0 a) (mu0 a) := by
  obtain ⟨len, -, -, hc, he⟩ := clM_ok a
  refine ⟨⟨?_, rfl, rfl⟩, fun t ht => ⟨?_, fun k hk => absurd hk (Nat.not_lt_zero _)⟩, fun p hp => ?_⟩
  · show mu0F a 0 0 = mu0F a 91 0
    exact (he : mu0F a 0 0 = nI len).trans (hc : mu0F a 91 0 = nI len).symm
  · have hF : ∀ k j, ¬ (k = 0 ∧ j = 12) → (cT (mu0 a) t).1 k j = 0 := fun k j h => m0F ht h
    have hA : ∀ k i, k ≠ 5 → (cT (mu0 a) t).2.1 k i = 0 := fun k i h => m0A ht h
    have h12 := m0F12 (a := a) t ht
    have hJ : (cT (mu0 a) t).2.2 = 0 := rfl
    have hS : ∀ k, 91 ≤ k → k ≠ 111 → k ≠ 114 → (rV (mu0 a) t).1 k = 0 := fun k h h1 h2 => m0S h h1 h2
    have hV : ∀ k i, 91 ≤ k → k ≠ 111 → k ≠ 114 → (rV (mu0 a) t).2 k i = 0 := fun k i h h1 h2 => m0V h h1 h2
    have h111 := m0S111 (a := a) t ht
    have h114 := m0V114 (a := a) t ht
    generalize cT (mu0 a) t = B at *
    generalize rV (mu0 a) t = S at *
    have hn6 : ¬ ∃ i, i < (B.1 6 2).toNatClampNeg := fun ⟨i, hi⟩ => by rw [hF 6 2 (by omega)] at hi; exact absurd hi (Nat.not_lt_zero _)
    have hn10 : ¬ ∃ i, i < (B.1 10 1).toNatClampNeg := fun ⟨i, hi⟩ => by rw [hF 10 1 (by omega)] at hi; exact absurd hi (Nat.not_lt_zero _)
    have hn12 : ¬ ∃ i, i < (B.1 12 1).toNatClampNeg := fun ⟨i, hi⟩ => by rw [hF 12 1 (by omega)] at hi; exact absurd hi (Nat.not_lt_zero _)
    have hn14 : ¬ ∃ i, i < (B.1 14 1).toNatClampNeg := fun ⟨i, hi⟩ => by rw [hF 14 1 (by omega)] at hi; exact absurd hi (Nat.not_lt_zero _)
    have hB : ∀ k j s, ¬ (k = 0 ∧ j = 12) → 91 ≤ s → s ≠ 111 → s ≠ 114 → B.1 k j = S.1 s := fun k j s h a1 a2 a3 => (hF k j h).trans (hS s a1 a2 a3).symm
    refine ⟨⟨hB _ _ _ (by omega) (by omega) (by omega) (by omega), hB _ _ _ (by omega) (by omega) (by omega) (by omega), hB _ _ _ (by omega) (by omega) (by omega) (by omega), hB _ _ _ (by omega) (by omega) (by omega) (by omega), hB _ _ _ (by omega) (by omega) (by omega) (by omega), h12.trans h111.symm⟩, ⟨hB _ _ _ (by omega) (by omega) (by omega) (by omega), hB _ _ _ (by omega) (by omega) (by omega) (by omega), hB _ _ _ (by omega) (by omega) (by omega) (by omega), hB _ _ _ (by omega) (by omega) (by omega) (by omega), hB _ _ _ (by omega) (by omega) (by omega) (by omega), hB _ _ _ (by omega) (by omega) (by omega) (by omega)⟩, fun u hu => ?_, ⟨?_, ?_, ?_, ?_⟩, fun i hi => absurd ⟨i, hi⟩ hn6, fun i hi => absurd ⟨i, hi⟩ hn10, fun i hi => absurd ⟨i, hi⟩ hn12, fun i hi => absurd ⟨i, hi⟩ hn14, fun c hc => ?_, fun c hc h => ?_⟩
    · rw [hA 16 u (by omega), hV 121 u (by omega) (by omega) (by omega)]
    · rw [hA 9 0 (by omega), h114.1]
    · rw [hA 9 1 (by omega), h114.2.1]
    · rw [hA 9 2 (by omega), h114.2.2.1]; rfl
    · rw [hA 9 3 (by omega), h114.2.2.2]; rfl
    · rw [hV 97 c (by omega) (by omega) (by omega), hJ, if_neg (tb0 _)]
    · rw [hJ] at h; exact absurd h (tb0 _)
  · refine ⟨(m0P hp).trans (m0S (by omega) (by omega) (by omega)).symm, (m0P hp).trans (m0S (by omega) (by omega) (by omega)).symm, fun i hi => ?_, fun h => ?_⟩
    · rw [m0P hp] at hi; exact absurd hi (Nat.not_lt_zero _)
    · rw [m0P hp] at h; exact absurd h (by decide)
theorem pure_main (sn : Nat) (sx : Nat → Int32) (h : sn ≤ 2049) : wp_Law_main sn sx (mu0 (c0 sn sx)) (fun x _ => x = 1) :=
  ⟨512 + 1, law_loop h (fun _ _ => rfl) 512 1 0 _ (by omega) (by omega) (by omega) ⟨m0_inv _, m0_r2 _⟩⟩
