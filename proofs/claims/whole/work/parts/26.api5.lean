/-! launch and reserve. -/
def Bg (μ : Mu) (t : Nat) (a : Int32) : Prop := μ.1 (23 + 17 * t) 7 = 0 ∧ ¬ μ.1 (23 + 17 * t) 10 ≤ 0 ∧ ∃ p, p < 4 ∧ a = nI p ∧ ¬ μ.1 (3 + 5 * p) 6 = 0
theorem begin_yes {μ : Mu} {t : Nat} {a : Int32} {Q : Int32 → Mu → Prop} (h : Bg μ t a) (hq : Q 1 (setF (setF μ (23 + 17 * t) 8 a) (23 + 17 * t) 7 1)) : wp_Host_begin t a μ Q := by
  obtain ⟨h1, h2, p, hp, rfl, h3⟩ := h
  refine ⟨fun h => absurd h1 h, fun _ => ⟨fun h => absurd h h2, fun _ => ⟨fun h => absurd h z1, fun _ => prg_ok hp ⟨fun h => absurd h z1, fun _ => ⟨in4 hp, fun _ μ7 e7 μ8 e8 => ?_, fun h => ?_⟩⟩⟩⟩⟩
  · subst e7 e8; exact hq
  · rw [cl4 hp] at h; exact absurd h h3
theorem begin_no {μ : Mu} {t : Nat} {a : Int32} {Q : Int32 → Mu → Prop} (h : ¬ Bg μ t a) (hq : Q 0 μ) : wp_Host_begin t a μ Q := by
  refine ⟨fun _ => hq, fun h1 => ⟨fun _ => ⟨fun _ => hq, fun h => absurd rfl h⟩, fun h2 => ⟨fun h => absurd h z1, fun _ => ?_⟩⟩⟩
  rcases arg4 a with hb | ⟨p, hp, rfl⟩
  · exact prg_bad hb ⟨fun _ => hq, fun h => absurd rfl h⟩
  · refine prg_ok hp ⟨fun h => absurd h z1, fun _ => ⟨in4 hp, fun h3 => ?_, fun _ => hq⟩⟩
    rw [cl4 hp] at h3
    exact absurd ⟨h1, h2, p, hp, rfl, h3⟩ h
theorem le0_iff {r : Nat} (hr : r < 2 ^ 31) : nI r ≤ 0 ↔ r = 0 := by
  constructor
  · intro h
    exact Nat.eq_zero_of_not_pos fun h0 => nI_nle h0 hr h
  · rintro rfl
    decide
theorem ne0_iff {r : Nat} (hr : r < 2 ^ 31) : nI r = 0 ↔ r = 0 := by
  constructor
  · intro h
    exact Nat.eq_zero_of_not_pos fun h0 => nI_ne0 h0 hr h
  · rintro rfl
    decide
/-- what launch asks, in the reference -/
theorem launch_fact {c : Nat} {μ μr : Mu} (hi : Inv c μ) (hr : R2 μ μr) {t : Nat} (ht : t < 4) : μr.2.1 106 t = μ.1 (23 + 17 * t) 7 ∧ (μr.2.1 104 t = 0 ↔ μ.1 (23 + 17 * t) 10 ≤ 0) ∧ ∀ p, p < 4 → μr.2.1 96 p = μ.1 (3 + 5 * p) 6 := by
  obtain ⟨len, sc, s, -, -, -, hT, -⟩ := id hi
  obtain ⟨r, s2, c2, hr1, hs1, hc1, hc0, e1, e2, e3⟩ := (hT t ht).1.2.1
  refine ⟨?_, ?_, fun p hp => ?_⟩
  · rw [rVs (k := 106) rfl, ← (hr.2.1 t ht).1.1.1, cTF (by omega) (by omega)]
  · rw [rVs (k := 104) rfl, ← (hr.2.1 t ht).1.2.1.1, e3, cTF (by omega) (by omega)]
    show nI c2 = 0 ↔ (cT μ t).1 0 10 ≤ 0
    rw [e1, le0_iff (by omega), ne0_iff (by omega)]
    exact hc0
  · rw [rVs (k := 96) rfl, ← (hr.2.2 p hp).2.1]; rfl
theorem launch_yes {c : Nat} {μ μr : Mu} (hi : Inv c μ) (hr : R2 μ μr) {t : Nat} (ht : t < 4) {a : Int32} {Q : Int32 → Mu → Prop} (h : Bg μ t a) (hq : Q 1 (setA (setA (setA μr 106 t 1) 107 t a) 108 t 0)) : wp_Mod_launch (nI t) a μr Q := by
  obtain ⟨f1, f2, f3⟩ := launch_fact hi hr ht
  obtain ⟨h1, h2, p, hp, rfl, h3⟩ := h
  refine fou_ok ht ⟨fun h => absurd h z1, fun _ => fou_ok hp ⟨fun h => absurd h z1, fun _ => ⟨in4 ht, fun h => ?_, fun _ => ⟨in4 ht, fun h => ?_, fun _ => ⟨in4 hp, fun _ => ⟨in4 ht, fun μ9 e9 => ⟨in4 ht, fun μ11 e11 => ⟨in4 ht, fun μ13 e13 => ?_⟩⟩⟩, fun h => ?_⟩⟩⟩⟩⟩
  · rw [cl4 ht, f1] at h; exact absurd h1 h
  · rw [cl4 ht] at h; exact absurd (f2.mp h) h2
  · subst e9 e11 e13; rw [cl4 ht]; exact hq
  · rw [cl4 hp, f3 p hp] at h; exact absurd h h3
theorem launch_no {c : Nat} {μ μr : Mu} (hi : Inv c μ) (hr : R2 μ μr) {t : Nat} (ht : t < 4) {a : Int32} {Q : Int32 → Mu → Prop} (h : ¬ Bg μ t a) (hq : Q 0 μr) : wp_Mod_launch (nI t) a μr Q := by
  obtain ⟨f1, f2, f3⟩ := launch_fact hi hr ht
  refine fou_ok ht ⟨fun h => absurd h z1, fun _ => ?_⟩
  rcases arg4 a with hb | ⟨p, hp, rfl⟩
  · exact fou_bad hb ⟨fun _ => hq, fun h => absurd rfl h⟩
  · refine fou_ok hp ⟨fun h => absurd h z1, fun _ => ⟨in4 ht, fun _ => hq, fun h1 => ⟨in4 ht, fun _ => hq, fun h2 => ⟨in4 hp, fun h3 => ?_, fun _ => hq⟩⟩⟩⟩
    rw [cl4 ht] at h1 h2
    rw [cl4 hp] at h3
    exact absurd ⟨by rw [← f1]; exact h1, fun h4 => h2 (f2.mpr h4), p, hp, rfl, by rw [← f3 p hp]; exact h3⟩ h
/-- a tenant begins -/
theorem begin_inv {c : Nat} {μ : Mu} (hi : Inv c μ) {t : Nat} (ht : t < 4) {a : Int32} (h : Bg μ t a) : Inv c (setF (setF μ (23 + 17 * t) 8 a) (23 + 17 * t) 7 1) ∧ ∀ μr, R2 μ μr → R2 (setF (setF μ (23 + 17 * t) 8 a) (23 + 17 * t) 7 1) (setA (setA (setA μr 106 t 1) 107 t a) 108 t 0) := by
  obtain ⟨h1, h2, p, hp, rfl, h3⟩ := h
  have h8 := bound_sc hi
  have hB : cT (setF (setF μ (23 + 17 * t) 8 (nI p)) (23 + 17 * t) 7 1) t = bF (bF (cT μ t) 0 8 (nI p)) 0 7 1 := by rw [cT_F (by omega) (by omega), cT_F (by omega) (by omega)]
  have hBn : ∀ t', t' < 4 → t' ≠ t → cT (setF (setF μ (23 + 17 * t) 8 (nI p)) (23 + 17 * t) 7 1) t' = cT μ t' := fun t' _ h => by rw [cT_Fn h (by omega) (by omega), cT_Fn h (by omega) (by omega)]
  have hG : cG (setF (setF μ (23 + 17 * t) 8 (nI p)) (23 + 17 * t) 7 1) = cG μ := by rw [cG_F (by omega), cG_F (by omega)]
  have hP : ∀ q, q < 4 → cP (setF (setF μ (23 + 17 * t) 8 (nI p)) (23 + 17 * t) 7 1) q = cP μ q := fun q hq => by rw [cP_Fn (by omega), cP_Fn (by omega)]
  obtain ⟨len, sc, s, -, -, -, hT, hPr, -⟩ := id hi
  have hst : (cT μ t).1 0 7 = 0 := (cTF (μ := μ) (t := t) (k := 23) (j := 7) (by omega) (by omega)).symm.trans h1
  have hpos : (cT μ t).1 0 9 = 0 := (hT t ht).1.2.2.2.1 hst
  have hidle := (hT t ht).2.2 (by rw [hst]; decide)
  obtain ⟨n, hn, hne, h01, hops, hsnd⟩ := hPr p hp
  have hc1 : (cP μ p).1 6 = 1 := h01.resolve_left h3
  obtain ⟨hn0, hs0, -⟩ := hsnd hc1
  refine ⟨hi.ten ht hG hP hBn (fun sc _ _ hI => ?_) (fun hY => ?_) (by rw [hB]; rfl), fun μr hr => ?_⟩
  · rw [hB]
    exact ⟨hI.1, hI.2.1, ⟨p, by omega, rfl⟩, fun h => absurd h (show ¬ (1 : Int32) = 0 by decide), hI.2.2.2.2⟩
  · rw [hB]
    refine ⟨fun _ => ⟨p, 0, n, hp, rfl, hc1, hne, ⟨hn0, hn⟩, hpos, ?_⟩, fun h => absurd (Or.inl rfl) h⟩
    show (cP μ p).2 2 0 = nI (codeL (tys ((cT μ t).2.1 8) ((cT μ t).1 6 2).toNatClampNeg))
    rw [hidle.1, hs0]
    rfl
  · have hV : rV (setA (setA (setA μr 106 t 1) 107 t (nI p)) 108 t 0) t = pF (pF (pF (rV μr t) 106 1) 107 (nI p)) 108 0 := by rw [rV_s rfl rfl, rV_s rfl rfl, rV_s rfl rfl]
    have hVn : ∀ t', t' < 4 → t' ≠ t → rV (setA (setA (setA μr 106 t 1) 107 t (nI p)) 108 t 0) t' = rV μr t' := fun t' _ h => by rw [rV_sn h rfl, rV_sn h rfl, rV_sn h rfl]
    refine hr.ten hG rfl (fun a _ _ => by rw [rS_A (by omega), rS_A (by omega), rS_A (by omega)]) hP hBn hVn (fun h => by rw [hV]; exact h) (fun h => ?_) (fun sc S _ h => by rw [hB]; exact h) h8
    rw [hB, hV]
    exact ⟨⟨rfl, rfl, hpos, h.1.2.2.2.1, h.1.2.2.2.2.1, h.1.2.2.2.2.2⟩, h.2⟩
theorem sim_launch {c : Nat} {μ : Mu} {a b : Int32} (hi : Inv c μ) : Sim c μ (wp_Host_launch a b) (wp_Mod_launch a b) := by
  rcases arg4 a with hb | ⟨t, ht, rfl⟩
  · exact Sim.get hi 0 (fun Q hq => ten_bad hb ⟨fun _ => hq, fun h => absurd rfl h⟩) (fun μr _ Q hq => fou_bad hb ⟨fun _ => hq, fun h => absurd rfl h⟩)
  rcases Classical.em (Bg μ t b) with hg | hg
  · obtain ⟨i1, i2⟩ := begin_inv hi ht hg
    refine ⟨1, _, fun Q hq => ten_ok ht ⟨fun h => absurd h z1, fun _ => ⟨in4 ht, ?_⟩⟩, (refEq.rf.F (by omega)).F (by omega), i1, fun μr hr => ⟨_, fun Q hq => launch_yes hi hr ht hg hq, ((clsEq.rf.A (by omega)).A (by omega)).A (by omega), i2 μr hr⟩⟩
    rw [cl4 ht]
    exact begin_yes hg ⟨fun h => absurd h z1, fun _ => hq⟩
  · refine Sim.get hi 0 (fun Q hq => ten_ok ht ⟨fun h => absurd h z1, fun _ => ⟨in4 ht, ?_⟩⟩) (fun μr hr Q hq => launch_no hi hr ht hg hq)
    rw [cl4 ht]
    exact begin_no hg ⟨fun _ => hq, fun h => absurd rfl h⟩
theorem resv_sum {c0 c1 c2 c3 : Nat} {μ : Mu} {Q : Int32 → Mu → Prop} (e0 : μ.1 24 5 = nI c0) (e1 : μ.1 41 5 = nI c1) (e2 : μ.1 58 5 = nI c2) (e3 : μ.1 75 5 = nI c3) (hq : Q (nI (c0 + c1 + c2 + c3)) μ) : wp_Host_reservedCells μ Q := by
  refine ⟨5, ?_⟩
  have z0 : (0 : Int32) + nI c0 + nI c1 + nI c2 + nI c3 = nI (c0 + c1 + c2 + c3) := by
    rw [show (0 : Int32) = nI 0 from rfl, nI_add, nI_add, nI_add, nI_add, Nat.zero_add]
  refine ⟨fun h => absurd h (by decide), fun _ => ⟨in_c (by decide) (by decide), fun h => absurd h (by decide), fun _ => ⟨in_c (by decide) (by decide), fun h => absurd h (by decide), fun _ => ⟨in_c (by decide) (by decide), fun h => absurd h (by decide), fun _ => ⟨in_c (by decide) (by decide), fun _ => ?_, fun h => absurd (by decide) h⟩⟩⟩⟩⟩
  show Q ((0 : Int32) + μ.1 24 5 + μ.1 41 5 + μ.1 58 5 + μ.1 75 5) μ
  rw [e0, e1, e2, e3, z0]
  exact hq
theorem sim_reserve {c : Nat} {μ : Mu} {a b d : Int32} (hi : Inv c μ) : Sim c μ (wp_Host_reserve a b d) (wp_Mod_reserve a b d) := by
  have j34 : ∀ {Q : Int32 → Mu → Prop} {x y z : Int32}, Q 0 μ → wp_Host_reserve_j34 x y z μ Q := fun hq => ⟨fun _ => hq, fun h => absurd rfl h⟩
  rcases arg4 a with hb | ⟨t, ht, rfl⟩
  · exact Sim.get hi 0 (fun Q hq => ten_bad hb ⟨fun _ => j34 hq, fun h => absurd rfl h⟩) (fun μr _ Q hq => fou_bad hb ⟨fun _ => hq, fun h => absurd rfl h⟩)
  rcases Classical.em (b < (1 : Int32)) with hb1 | hb1
  · exact Sim.get hi 0 (fun Q hq => ten_ok ht ⟨fun h => absurd h z1, fun _ => ⟨fun _ => j34 hq, fun h => absurd hb1 h⟩⟩) (fun μr _ Q hq => fou_ok ht ⟨fun h => absurd h z1, fun _ => ⟨fun _ => hq, fun h => absurd hb1 h⟩⟩)
  rcases Classical.em ((24 : Int32) < b) with hb2 | hb2
  · exact Sim.get hi 0 (fun Q hq => ten_ok ht ⟨fun h => absurd h z1, fun _ => ⟨fun _ => j34 hq, fun _ => ⟨fun _ => j34 hq, fun h => absurd hb2 h⟩⟩⟩) (fun μr _ Q hq => fou_ok ht ⟨fun h => absurd h z1, fun _ => ⟨fun _ => hq, fun _ => ⟨fun _ => hq, fun h => absurd hb2 h⟩⟩⟩)
  rcases Classical.em (d < (1 : Int32)) with hd1 | hd1
  · exact Sim.get hi 0 (fun Q hq => ten_ok ht ⟨fun h => absurd h z1, fun _ => ⟨fun _ => j34 hq, fun _ => ⟨fun _ => j34 hq, fun _ => ⟨fun _ => j34 hq, fun h => absurd hd1 h⟩⟩⟩⟩) (fun μr _ Q hq => fou_ok ht ⟨fun h => absurd h z1, fun _ => ⟨fun _ => hq, fun _ => ⟨fun _ => hq, fun _ => ⟨fun _ => hq, fun h => absurd hd1 h⟩⟩⟩⟩)
  rcases Classical.em ((3000 : Int32) < d) with hd2 | hd2
  · exact Sim.get hi 0 (fun Q hq => ten_ok ht ⟨fun h => absurd h z1, fun _ => ⟨fun _ => j34 hq, fun _ => ⟨fun _ => j34 hq, fun _ => ⟨fun _ => j34 hq, fun _ => ⟨fun _ => j34 hq, fun h => absurd hd2 h⟩⟩⟩⟩⟩) (fun μr _ Q hq => fou_ok ht ⟨fun h => absurd h z1, fun _ => ⟨fun _ => hq, fun _ => ⟨fun _ => hq, fun _ => ⟨fun _ => hq, fun _ => ⟨fun _ => hq, fun h => absurd hd2 h⟩⟩⟩⟩⟩)
  have num : ∀ {x : Int32} {M : Nat}, M < 2 ^ 31 → ¬ x < (1 : Int32) → ¬ nI M < x → ∃ k, 1 ≤ k ∧ k ≤ M ∧ x = nI k := by
    intro x M hM h1 h2
    have h3 : ¬ x < 0 := fun h => h1 (by
      rw [Int32.lt_iff_toInt_lt] at h ⊢
      have a1 : (0 : Int32).toInt = 0 := by decide
      have a2 : (1 : Int32).toInt = 1 := by decide
      omega)
    obtain ⟨k, hk, rfl⟩ := nI_of h3
    refine ⟨k, ?_, Nat.le_of_not_lt fun h => h2 (nI_lt h hk), rfl⟩
    rcases Nat.eq_zero_or_pos k with rfl | h
    · exact absurd (by decide) h1
    · exact h
  obtain ⟨cc, hc1, hc2, rfl⟩ := num (M := 24) (by decide) hb1 hb2
  obtain ⟨ss, hs1, hs2, rfl⟩ := num (M := 3000) (by decide) hd1 hd2
  have h8 := bound_sc hi
  obtain ⟨len, sc, s, hlen, hsc, hsl, hT, hPr, c0, c1, c2, c3, e0, e1, e2, e3, hsum⟩ := id hi
  obtain ⟨r, s2, cr, hr1, hsr, hcr, hc0, er, es, ec⟩ := (hT t ht).1.2.1
  have fr : μ.1 (23 + 17 * t) 10 = nI r := (cTF (by omega) (by omega)).trans er
  have f0 : μ.1 24 5 = nI c0 := e0
  have f1 : μ.1 41 5 = nI c1 := e1
  have f2 : μ.1 58 5 = nI c2 := e2
  have f3 : μ.1 75 5 = nI c3 := e3
  have g104 : ∀ μr, R2 μ μr → ∀ t', t' < 4 → μr.2.1 104 t' = (cT μ t').1 1 5 := fun μr hr t' ht' => by rw [rVs (k := 104) rfl, ← (hr.2.1 t' ht').1.2.1.1]
  -- the sum, as the reference writes it
  have gsum : ∀ μr, R2 μ μr → μr.2.1 104 (Int32.toNatClampNeg (0 : Int32)) + μr.2.1 104 (Int32.toNatClampNeg (1 : Int32)) + μr.2.1 104 (Int32.toNatClampNeg (2 : Int32)) + μr.2.1 104 (Int32.toNatClampNeg (3 : Int32)) + nI cc = nI (c0 + c1 + c2 + c3 + cc) := fun μr hr => by
    show μr.2.1 104 0 + μr.2.1 104 1 + μr.2.1 104 2 + μr.2.1 104 3 + nI cc = _
    rw [g104 μr hr 0 (by omega), g104 μr hr 1 (by omega), g104 μr hr 2 (by omega), g104 μr hr 3 (by omega), e0, e1, e2, e3, nI_add, nI_add, nI_add, nI_add]
  have hT2 : ∀ {Q : Int32 → Mu → Prop}, wp_Host_reserve_j35 (nI t) (nI cc) (nI ss) 1 μ Q → wp_Host_reserve (nI t) (nI cc) (nI ss) μ Q := fun hj => ten_ok ht ⟨fun h => absurd h z1, fun _ => ⟨fun h => absurd h hb1, fun _ => ⟨fun h => absurd h hb2, fun _ => ⟨fun h => absurd h hd1, fun _ => ⟨fun h => absurd h hd2, fun _ => hj⟩⟩⟩⟩⟩
  have hle : ∀ {x : Nat}, x ≤ 48 → nI x ≤ (48 : Int32) := fun h => nI_le (b := 48) h (by decide)
  have hnle : ∀ {x : Nat}, x < 1000 → ¬ x ≤ 48 → ¬ nI x ≤ (48 : Int32) := fun {x} hx h => nI_ge (a := 48) (by omega) (by omega)
  rcases (Classical.em (r = 0)).symm with hr0 | hr0
  · refine Sim.get hi 0 (fun Q hq => hT2 ⟨fun h => absurd h z1, fun _ => ⟨in4 ht, ?_⟩⟩) (fun μr hr Q hq => fou_ok ht ⟨fun h => absurd h z1, fun _ => ⟨fun h => absurd h hb1, fun _ => ⟨fun h => absurd h hb2, fun _ => ⟨fun h => absurd h hd1, fun _ => ⟨fun h => absurd h hd2, fun _ => ⟨in4 ht, fun h => ?_, fun _ => hq⟩⟩⟩⟩⟩⟩)
    · rw [cl4 ht]
      refine ⟨fun h => ?_, fun _ => ⟨fun _ => hq, fun h => absurd h z1⟩⟩
      rw [fr] at h; exact absurd ((le0_iff (by omega)).mp h) hr0
    · rw [cl4 ht, g104 μr hr t ht, ec] at h
      exact absurd (hc0.mp ((le0_iff (by omega)).mp h)) hr0
  have hcr0 : cr = 0 := hc0.mpr hr0
  subst hr0
  subst hcr0
  have hres : ∀ {Q : Int32 → Mu → Prop}, (((nI (c0 + c1 + c2 + c3) + nI cc ≤ (48 : Int32)) → Q 1 (setF (setF μ (24 + 17 * t) 5 (nI cc)) (23 + 17 * t) 10 (nI ss))) ∧ ((¬ nI (c0 + c1 + c2 + c3) + nI cc ≤ (48 : Int32)) → Q 0 μ)) → wp_Host_reserve_j35 (nI t) (nI cc) (nI ss) 1 μ Q := by
    intro Q hq
    refine ⟨fun h => absurd h z1, fun _ => ⟨in4 ht, ?_⟩⟩
    rw [cl4 ht]
    refine ⟨fun _ => ⟨fun h => absurd rfl h, fun _ => resv_sum f0 f1 f2 f3 ⟨fun h => ⟨in4 ht, fun μ11 e11 => ⟨in4 ht, fun μ14 e14 => ?_⟩⟩, hq.2⟩⟩, fun h => ?_⟩
    · subst e11 e14; exact hq.1 h
    · rw [fr] at h; exact absurd (by decide) h
  rcases (Classical.em (c0 + c1 + c2 + c3 + cc ≤ 48)).symm with h48 | h48
  · refine Sim.get hi 0 (fun Q hq => hT2 (hres ⟨fun h => ?_, fun _ => hq⟩)) (fun μr hr Q hq => fou_ok ht ⟨fun h => absurd h z1, fun _ => ⟨fun h => absurd h hb1, fun _ => ⟨fun h => absurd h hb2, fun _ => ⟨fun h => absurd h hd1, fun _ => ⟨fun h => absurd h hd2, fun _ => ⟨in4 ht, fun _ => ⟨fun h => ?_, fun _ => hq⟩, fun h => ?_⟩⟩⟩⟩⟩⟩)
    · rw [nI_add] at h; exact absurd h (hnle (by omega) h48)
    · rw [gsum μr hr] at h; exact absurd h (hnle (by omega) h48)
    · rw [cl4 ht, g104 μr hr t ht, ec] at h; exact absurd (by decide) h
  have hB : cT (setF (setF μ (24 + 17 * t) 5 (nI cc)) (23 + 17 * t) 10 (nI ss)) t = bF (bF (cT μ t) 1 5 (nI cc)) 0 10 (nI ss) := by rw [cT_F (by omega) (by omega), cT_F (by omega) (by omega)]
  have hBn : ∀ t', t' < 4 → t' ≠ t → cT (setF (setF μ (24 + 17 * t) 5 (nI cc)) (23 + 17 * t) 10 (nI ss)) t' = cT μ t' := fun t' _ h => by rw [cT_Fn h (by omega) (by omega), cT_Fn h (by omega) (by omega)]
  have hG : cG (setF (setF μ (24 + 17 * t) 5 (nI cc)) (23 + 17 * t) 10 (nI ss)) = cG μ := by rw [cG_F (by omega), cG_F (by omega)]
  have hP : ∀ q, q < 4 → cP (setF (setF μ (24 + 17 * t) 5 (nI cc)) (23 + 17 * t) 10 (nI ss)) q = cP μ q := fun q hq => by rw [cP_Fn (by omega), cP_Fn (by omega)]
  have hs0 : s2 = 0 := by omega
  subst hs0
  have hcn : (cT (setF (setF μ (24 + 17 * t) 5 (nI cc)) (23 + 17 * t) 10 (nI ss)) t).1 1 5 = nI cc := by rw [hB]; rfl
  have hnew : ∃ c0 c1 c2 c3, (cT (setF (setF μ (24 + 17 * t) 5 (nI cc)) (23 + 17 * t) 10 (nI ss)) 0).1 1 5 = nI c0 ∧ (cT (setF (setF μ (24 + 17 * t) 5 (nI cc)) (23 + 17 * t) 10 (nI ss)) 1).1 1 5 = nI c1 ∧ (cT (setF (setF μ (24 + 17 * t) 5 (nI cc)) (23 + 17 * t) 10 (nI ss)) 2).1 1 5 = nI c2 ∧ (cT (setF (setF μ (24 + 17 * t) 5 (nI cc)) (23 + 17 * t) 10 (nI ss)) 3).1 1 5 = nI c3 ∧ c0 + c1 + c2 + c3 ≤ 48 := by
    match t, ht with
    | 0, _ => exact ⟨cc, c1, c2, c3, hcn, (congrArg (fun z : TB => z.1 1 5) (hBn 1 (by omega) (by omega))).trans e1, (congrArg (fun z : TB => z.1 1 5) (hBn 2 (by omega) (by omega))).trans e2, (congrArg (fun z : TB => z.1 1 5) (hBn 3 (by omega) (by omega))).trans e3, by omega⟩
    | 1, _ => exact ⟨c0, cc, c2, c3, (congrArg (fun z : TB => z.1 1 5) (hBn 0 (by omega) (by omega))).trans e0, hcn, (congrArg (fun z : TB => z.1 1 5) (hBn 2 (by omega) (by omega))).trans e2, (congrArg (fun z : TB => z.1 1 5) (hBn 3 (by omega) (by omega))).trans e3, by omega⟩
    | 2, _ => exact ⟨c0, c1, cc, c3, (congrArg (fun z : TB => z.1 1 5) (hBn 0 (by omega) (by omega))).trans e0, (congrArg (fun z : TB => z.1 1 5) (hBn 1 (by omega) (by omega))).trans e1, hcn, (congrArg (fun z : TB => z.1 1 5) (hBn 3 (by omega) (by omega))).trans e3, by omega⟩
    | 3, _ => exact ⟨c0, c1, c2, cc, (congrArg (fun z : TB => z.1 1 5) (hBn 0 (by omega) (by omega))).trans e0, (congrArg (fun z : TB => z.1 1 5) (hBn 1 (by omega) (by omega))).trans e1, (congrArg (fun z : TB => z.1 1 5) (hBn 2 (by omega) (by omega))).trans e2, hcn, by omega⟩
  refine ⟨1, setF (setF μ (24 + 17 * t) 5 (nI cc)) (23 + 17 * t) 10 (nI ss), fun Q hq => hT2 (hres ⟨fun _ => hq, fun h => ?_⟩), (refEq.rf.F (by omega)).F (by omega), ?_, fun μr hr => ⟨setA (setA μr 104 t (nI cc)) 105 t (nI ss), fun Q hq => fou_ok ht ⟨fun h => absurd h z1, fun _ => ⟨fun h => absurd h hb1, fun _ => ⟨fun h => absurd h hb2, fun _ => ⟨fun h => absurd h hd1, fun _ => ⟨fun h => absurd h hd2, fun _ => ⟨in4 ht, fun _ => ⟨fun _ => ⟨in4 ht, fun μ5 e5 => ⟨in4 ht, fun μ7 e7 => ?_⟩⟩, fun h => ?_⟩, fun h => ?_⟩⟩⟩⟩⟩⟩, (clsEq.rf.A (by omega)).A (by omega), ?_⟩⟩
  · rw [nI_add] at h; exact absurd (hle h48) h
  · refine ⟨len, sc, s, by rw [hG]; exact hlen, by rw [hG]; exact hsc, by rw [hG]; exact hsl, fun t' ht' => ?_, fun p hp => by rw [hP p hp]; exact hPr p hp, hnew⟩
    have hYP : ∀ B, IY B (cP μ) → IY B (cP (setF (setF μ (24 + 17 * t) 5 (nI cc)) (23 + 17 * t) 10 (nI ss))) := by
      intro B hB
      refine ⟨fun ha => ?_, hB.2⟩
      obtain ⟨p, pos, n, hp, hh⟩ := hB.1 ha
      refine ⟨p, pos, n, hp, ?_⟩
      rw [hP p hp]
      exact hh
    by_cases htt : t' = t
    · subst htt
      rw [hB]
      have hI := (hT t' ht').1
      exact ⟨⟨hI.1, ⟨ss, 0, cc, by omega, by omega, by omega, by omega, rfl, es, rfl⟩, hI.2.2⟩, hYP _ (hT t' ht').2⟩
    · rw [hBn t' ht' htt]
      exact ⟨(hT t' ht').1, hYP _ (hT t' ht').2⟩
  · subst e5 e7; rw [cl4 ht]; exact hq
  · rw [gsum μr hr] at h; exact absurd (hle h48) h
  · rw [cl4 ht, g104 μr hr t ht, ec] at h; exact absurd (by decide) h
  · have hV : rV (setA (setA μr 104 t (nI cc)) 105 t (nI ss)) t = pF (pF (rV μr t) 104 (nI cc)) 105 (nI ss) := by rw [rV_s rfl rfl, rV_s rfl rfl]
    have hVn : ∀ t', t' < 4 → t' ≠ t → rV (setA (setA μr 104 t (nI cc)) 105 t (nI ss)) t' = rV μr t' := fun t' _ h => by rw [rV_sn h rfl, rV_sn h rfl]
    refine hr.ten hG rfl (fun a _ _ => by rw [rS_A (by omega), rS_A (by omega)]) hP hBn hVn (fun h => by rw [hV]; exact h) (fun h => ?_) (fun sc S _ h => by rw [hB]; exact h) h8
    rw [hB, hV]
    exact ⟨⟨h.1.1, h.1.2.1, h.1.2.2.1, rfl, h.1.2.2.2.2.1, h.1.2.2.2.2.2⟩, ⟨rfl, h.2.1.2⟩, h.2.2⟩
