theorem sim_permit {c : Nat} {μ : Mu} {a b w : Int32} (hi : Inv c μ) : Sim c μ (wp_Host_permit a b w) (wp_Mod_permit a b w) := by
  rcases arg4 a with hb | ⟨t, ht, rfl⟩
  · exact Sim.get hi 0 (fun Q hq => ten_bad hb ⟨fun _ => hq, fun h => absurd rfl h⟩) (fun μr _ Q hq => fou_bad hb ⟨fun _ => hq, fun h => absurd rfl h⟩)
  rcases arg4 b with hb | ⟨u, hu, rfl⟩
  · exact Sim.get hi 0 (fun Q hq => ten_ok ht ⟨fun h => absurd h z1, fun _ => ten_bad hb ⟨fun _ => hq, fun h => absurd rfl h⟩⟩) (fun μr _ Q hq => fou_ok ht ⟨fun h => absurd h z1, fun _ => fou_bad hb ⟨fun _ => hq, fun h => absurd rfl h⟩⟩)
  rcases pk_ix w (n := 8) (by decide) with hb | hb | ⟨x, hx, rfl⟩
  · exact Sim.get hi 0 (fun Q hq => ten_ok ht ⟨fun h => absurd h z1, fun _ => ten_ok hu ⟨fun h => absurd h z1, fun _ => ⟨fun _ => hq, fun h => absurd hb h⟩⟩⟩) (fun μr _ Q hq => fou_ok ht ⟨fun h => absurd h z1, fun _ => fou_ok hu ⟨fun h => absurd h z1, fun _ => ⟨fun _ => hq, fun h => absurd hb h⟩⟩⟩)
  · have h7 : ¬ w ≤ (7 : Int32) := fun h => by
      rw [Int32.le_iff_toInt_le] at h hb
      have h1 : (7 : Int32).toInt = 7 := by decide
      have h2 : (nI 8).toInt = 8 := by decide
      omega
    exact Sim.get hi 0 (fun Q hq => ten_ok ht ⟨fun h => absurd h z1, fun _ => ten_ok hu ⟨fun h => absurd h z1, fun _ => ⟨fun _ => hq, fun _ => ⟨fun h => absurd h h7, fun _ => hq⟩⟩⟩⟩) (fun μr _ Q hq => fou_ok ht ⟨fun h => absurd h z1, fun _ => fou_ok hu ⟨fun h => absurd h z1, fun _ => ⟨fun _ => hq, fun _ => ⟨fun h => absurd h h7, fun _ => hq⟩⟩⟩⟩)
  have h8 := bound_sc hi
  have hp0 : ¬ nI x < 0 := nI_pos (by omega)
  have h7 : nI x ≤ (7 : Int32) := nI_le (b := 7) (by omega) (by decide)
  have hB : cT (setA μ (39 + 17 * t) u (nI x)) t = bA (cT μ t) 16 u (nI x) := by rw [cT_A (by omega) (by omega)]
  have hBn : ∀ t', t' < 4 → t' ≠ t → cT (setA μ (39 + 17 * t) u (nI x)) t' = cT μ t' := fun t' _ h => by rw [cT_An h (by omega) (by omega)]
  have hP : ∀ p, p < 4 → cP (setA μ (39 + 17 * t) u (nI x)) p = cP μ p := fun p hp => by rw [cP_An (by omega)]
  refine ⟨1, setA μ (39 + 17 * t) u (nI x), fun Q hq => ten_ok ht ⟨fun h => absurd h z1, fun _ => ten_ok hu ⟨fun h => absurd h z1, fun _ => ⟨fun h => absurd h hp0, fun _ => ⟨fun _ => ⟨in4 ht, in4 hu, fun μ8 e8 => ?_⟩, fun h => absurd h7 h⟩⟩⟩⟩, refEq.rf.A (by omega), hi.ten ht rfl hP hBn (fun sc _ _ hI => ?_) (fun hY => ?_) (by rw [hB]; rfl), fun μr hr => ⟨setA μr 121 (4 * t + u) (nI x), fun Q hq => fou_ok ht ⟨fun h => absurd h z1, fun _ => fou_ok hu ⟨fun h => absurd h z1, fun _ => ⟨fun h => absurd h hp0, fun _ => ⟨fun _ => ⟨ix_le (w := 4) ht hu rfl (by omega), fun μ6 e6 => ?_⟩, fun h => absurd h7 h⟩⟩⟩⟩, clsEq.rf.A (by omega), ?_⟩⟩
  · subst e8; rw [cl4 ht, cl4 hu]; exact hq
  · rw [hB]
    refine ⟨hI.1, hI.2.1, hI.2.2.1, hI.2.2.2.1, hI.2.2.2.2.1, hI.2.2.2.2.2.1, hI.2.2.2.2.2.2.1, hI.2.2.2.2.2.2.2.1, hI.2.2.2.2.2.2.2.2.1, fun v hv => ?_⟩
    show isN (if 16 = 16 ∧ v = u then nI x else (cT μ t).2.1 16 v) 7
    by_cases hvu : v = u
    · rw [if_pos ⟨rfl, hvu⟩]; exact ⟨x, by omega, rfl⟩
    · rw [if_neg fun h => hvu h.2]; exact hI.2.2.2.2.2.2.2.2.2 v hv
  · rw [hB]; exact hY
  · subst e6
    rw [show ((4 : Int32) * nI t + nI u).toNatClampNeg = 4 * t + u from ix_cl (w := 4) ht hu (by omega)]
    exact hq
  · have hV : rV (setA μr 121 (4 * t + u) (nI x)) t = pA (rV μr t) 121 u (nI x) := rV_a (k := 121) rfl hu
    have hVn : ∀ t', t' < 4 → t' ≠ t → rV (setA μr 121 (4 * t + u) (nI x)) t' = rV μr t' := fun t' _ h => rV_an (k := 121) h rfl hu
    refine hr.ten rfl rfl (fun a _ _ => by rw [rS_A (by omega)]) hP hBn hVn (fun h => by rw [hV]; exact h) (fun h => ?_) (fun sc S _ h => by rw [hB]; exact h) h8
    rw [hB, hV]
    refine ⟨h.1, h.2.1, fun v hv => ?_, h.2.2.2.1, h.2.2.2.2.1, h.2.2.2.2.2.1, h.2.2.2.2.2.2.1, h.2.2.2.2.2.2.2.1, h.2.2.2.2.2.2.2.2⟩
    show (if 16 = 16 ∧ v = u then nI x else (cT μ t).2.1 16 v) = if 121 = 121 ∧ v = u then nI x else (rV μr t).2 121 v
    by_cases hvu : v = u
    · rw [if_pos ⟨rfl, hvu⟩, if_pos ⟨rfl, hvu⟩]
    · rw [if_neg fun h => hvu h.2, if_neg fun h => hvu h.2]; exact h.2.2.1 v hv
theorem Inv.prg {c p0 : Nat} {μ μ' : Mu} (h : Inv c μ) (hG : cG μ' = cG μ) (hT : ∀ t, t < 4 → cT μ' t = cT μ t) (hP : ∀ p, p < 4 → p ≠ p0 → cP μ' p = cP μ p) (hI : IP (cP μ p0) → IP (cP μ' p0)) (h0 : ¬ (cP μ p0).1 6 = 1) : Inv c μ' := by
  obtain ⟨len, sc, s, h1, h2, h3, h4, h5, h6⟩ := h
  refine ⟨len, sc, s, by rw [hG]; exact h1, by rw [hG]; exact h2, by rw [hG]; exact h3, fun t ht => ?_, fun p hp => ?_, ?_⟩
  · rw [hT t ht]
    refine ⟨(h4 t ht).1, fun ha => ?_, (h4 t ht).2.2⟩
    obtain ⟨p, pos, n, hp, hh⟩ := (h4 t ht).2.1 ha
    refine ⟨p, pos, n, hp, ?_⟩
    rw [hP p hp (fun e => h0 (by rw [← e]; exact hh.2.1))]
    exact hh
  · by_cases hpp : p = p0
    · subst hpp; exact hI (h5 p hp)
    · rw [hP p hp hpp]; exact h5 p hp
  · rw [hT 0 (by omega), hT 1 (by omega), hT 2 (by omega), hT 3 (by omega)]
    exact h6
theorem R2.prg {p0 : Nat} {μ μ' μr μr' : Mu} (h : R2 μ μr) (g1 : cG μ' = cG μ) (g2 : rG μr' = rG μr) (g3 : ∀ a, 98 ≤ a → a ≤ 100 → rS μr' a = rS μr a) (t1 : ∀ t, t < 4 → cT μ' t = cT μ t) (p1 : ∀ p, p < 4 → p ≠ p0 → cP μ' p = cP μ p) (v1 : ∀ t, t < 4 → t ≠ p0 → rV μr' t = rV μr t)
    (v2 : RT p0 (cT μ p0) (rV μr p0) → RT p0 (cT μ p0) (rV μr' p0)) (hP : RP (cP μ p0) (rV μr p0) → RP (cP μ' p0) (rV μr' p0)) : R2 μ' μr' := by
  obtain ⟨h1, h2, h3⟩ := h
  refine ⟨by rw [g1, g2]; exact h1, fun t ht => ⟨?_, fun k hk => ?_⟩, fun p hp => ?_⟩
  · rw [t1 t ht]
    by_cases htt : t = p0
    · subst htt; exact v2 (h2 t ht).1
    · rw [v1 t ht htt]; exact (h2 t ht).1
  · rw [g1] at hk
    have := (h2 t ht).2 k hk
    rw [t1 t ht, g3 98 (by omega) (by omega), g3 99 (by omega) (by omega), g3 100 (by omega) (by omega)]
    exact this
  · by_cases hpp : p = p0
    · subst hpp; exact hP (h3 p hp)
    · rw [p1 p hp hpp, v1 p hp hpp]; exact h3 p hp
theorem cPF {μ : Mu} {p j : Nat} : μ.1 (3 + 5 * p) j = (cP μ p).1 j := rfl
theorem cPA {μ : Mu} {p k i : Nat} (h1 : 4 ≤ k) (h2 : k < 8) : μ.2.1 (k + 5 * p) i = (cP μ p).2 (k - 4) i := by
  show _ = if k - 4 < 4 then μ.2.1 (4 + (k - 4) + 5 * p) i else 0
  rw [if_pos (by omega), show 4 + (k - 4) = k by omega]
theorem sim_clear {c : Nat} {μ : Mu} {a : Int32} (hi : Inv c μ) : Sim c μ (wp_Host_clear a) (wp_Mod_clear a) := by
  rcases arg4 a with hb | ⟨p, hp, rfl⟩
  · exact Sim.get hi 0 (fun Q hq => prg_bad hb ⟨fun _ => hq, fun h => absurd rfl h⟩) (fun μr _ Q hq => fou_bad hb ⟨fun _ => hq, fun h => absurd rfl h⟩)
  have hre : ∀ μr, R2 μ μr → μr.2.1 96 p = μ.1 (3 + 5 * p) 6 := fun μr hr => by
    rw [rVs (k := 96) rfl, ← (hr.2.2 p hp).2.1]; rfl
  by_cases h0 : μ.1 (3 + 5 * p) 6 = 0
  · have hG : cG (setF μ (3 + 5 * p) 5 0) = cG μ := cG_F (by omega)
    have hT : ∀ t, t < 4 → cT (setF μ (3 + 5 * p) 5 0) t = cT μ t := fun t ht => cT_Fo (by omega) ht
    have hPn : ∀ q, q < 4 → q ≠ p → cP (setF μ (3 + 5 * p) 5 0) q = cP μ q := fun q _ h => cP_Fn (by omega)
    refine ⟨1, setF μ (3 + 5 * p) 5 0, fun Q hq => prg_ok hp ⟨fun h => absurd h z1, fun _ => ⟨in4 hp, ?_⟩⟩, refEq.rf.F (by omega), hi.prg hG hT hPn (fun hI => ?_) (by rw [← cPF, h0]; decide), fun μr hr => ⟨setA μr 95 p 0, fun Q hq => fou_ok hp ⟨fun h => absurd h z1, fun _ => ⟨in4 hp, fun _ => ⟨in4 hp, fun μ5 e5 => ?_⟩, fun h => ?_⟩⟩, clsEq.rf.A (by omega), ?_⟩⟩
    · rw [cl4 hp]
      refine ⟨fun _ μ1 e1 => ⟨fun h => absurd h z1, fun _ => ?_⟩, fun h => absurd h0 h⟩
      subst e1; exact hq
    · rw [cP_F]
      have h6 : (cP μ p).1 6 = 0 := h0
      refine ⟨0, by omega, rfl, Or.inl h6, fun i hi => absurd hi (by omega), fun h => ?_⟩
      have : (cP μ p).1 6 = 1 := h
      rw [h6] at this
      exact absurd this (by decide)
    · subst e5; rw [cl4 hp]; exact hq
    · rw [cl4 hp, hre μr hr] at h; exact absurd h0 h
    · refine hr.prg hG rfl (fun a _ _ => by rw [rS_A (by omega)]) hT hPn (fun t _ h => rV_sn h rfl) (fun h => by rw [rV_s rfl rfl]; exact h) (fun h => ?_)
      rw [cP_F, rV_s rfl rfl]
      exact ⟨rfl, h.2.1, fun i hi => absurd hi (Nat.not_lt_zero _), fun _ i hi => absurd hi (Nat.not_lt_zero _)⟩
  · refine Sim.get hi 0 (fun Q hq => prg_ok hp ⟨fun h => absurd h z1, fun _ => ⟨in4 hp, ?_⟩⟩) (fun μr hr Q hq => fou_ok hp ⟨fun h => absurd h z1, fun _ => ⟨in4 hp, fun h => ?_, fun _ => hq⟩⟩)
    · rw [cl4 hp]
      exact ⟨fun h => absurd h h0, fun _ => ⟨fun _ => hq, fun h => absurd rfl h⟩⟩
    · rw [cl4 hp, hre μr hr] at h; exact absurd h h0
theorem sim_shape {c : Nat} {μ : Mu} {a b : Int32} (hi : Inv c μ) : Sim c μ (wp_Host_shape a b) (wp_Mod_shape a b) := by
  rcases arg4 a with hb | ⟨p, hp, rfl⟩
  · exact Sim.get hi (-1) (fun Q hq => prg_bad hb ⟨fun _ => hq, fun h => absurd rfl h⟩) (fun μr _ Q hq => fou_bad hb ⟨fun _ => hq, fun h => absurd rfl h⟩)
  have hre : ∀ μr, R2 μ μr → μr.2.1 96 p = μ.1 (3 + 5 * p) 6 := fun μr hr => by
    rw [rVs (k := 96) rfl, ← (hr.2.2 p hp).2.1]; rfl
  obtain ⟨len, sc, s, -, -, -, -, hPr, -⟩ := id hi
  obtain ⟨n, hn, hne, h01, -, -⟩ := hPr p hp
  have hce : μ.1 (3 + 5 * p) 5 = nI n := hne
  have hrn : ∀ μr, R2 μ μr → μr.2.1 95 p = nI n := fun μr hr => by
    rw [rVs (k := 95) rfl, ← (hr.2.2 p hp).1]; exact hne
  by_cases h0 : μ.1 (3 + 5 * p) 6 = 0
  · refine Sim.get hi (-1) (fun Q hq => prg_ok hp ⟨fun h => absurd h z1, fun _ => ⟨in4 hp, ?_⟩⟩) (fun μr hr Q hq => fou_ok hp ⟨fun h => absurd h z1, fun _ => ⟨in4 hp, fun _ => hq, fun h => ?_⟩⟩)
    · rw [cl4 hp]; exact ⟨fun _ => hq, fun h => absurd h0 h⟩
    · rw [cl4 hp, hre μr hr] at h; exact absurd h0 h
  have h1 : (cP μ p).1 6 = 1 := h01.resolve_left h0
  rcases pk_ix b (n := n) (by omega) with hb | hb | ⟨i, hi2, rfl⟩
  · refine Sim.get hi (-1) (fun Q hq => prg_ok hp ⟨fun h => absurd h z1, fun _ => ⟨in4 hp, ?_⟩⟩) (fun μr hr Q hq => fou_ok hp ⟨fun h => absurd h z1, fun _ => ⟨in4 hp, fun h => hq, fun _ => ⟨fun _ => hq, fun h => absurd hb h⟩⟩⟩)
    rw [cl4 hp]; exact ⟨fun h => absurd h h0, fun _ => ⟨fun _ => ⟨fun _ => hq, fun h => absurd rfl h⟩, fun h => absurd hb h⟩⟩
  · have hnl : ¬ b < nI n := fun h => by
      rw [Int32.lt_iff_toInt_lt] at h
      rw [Int32.le_iff_toInt_le] at hb
      omega
    refine Sim.get hi (-1) (fun Q hq => prg_ok hp ⟨fun h => absurd h z1, fun _ => ⟨in4 hp, ?_⟩⟩) (fun μr hr Q hq => fou_ok hp ⟨fun h => absurd h z1, fun _ => ⟨in4 hp, fun h => hq, fun _ => ⟨fun _ => hq, fun _ => ⟨in4 hp, fun h => ?_, fun _ => hq⟩⟩⟩⟩)
    · rw [cl4 hp]; exact ⟨fun h => absurd h h0, fun _ => ⟨fun _ => ⟨fun _ => hq, fun h => absurd rfl h⟩, fun _ => ⟨fun _ => ⟨fun _ => hq, fun h => absurd rfl h⟩, fun h => absurd (by rw [hce]; exact hb) h⟩⟩⟩
    · rw [cl4 hp, hrn μr hr] at h; exact absurd h hnl
  · refine Sim.get hi (μ.2.1 (6 + 5 * p) i) (fun Q hq => prg_ok hp ⟨fun h => absurd h z1, fun _ => ⟨in4 hp, ?_⟩⟩) (fun μr hr Q hq => fou_ok hp ⟨fun h => absurd h z1, fun _ => ⟨in4 hp, fun h => ?_, fun _ => ⟨fun h => absurd h (nI_pos (by omega)), fun _ => ⟨in4 hp, fun _ => ⟨ix_le (w := 24) hp (by omega) rfl (by omega), ?_⟩, fun h => ?_⟩⟩⟩⟩)
    · rw [cl4 hp]; refine ⟨fun h => absurd h h0, fun _ => ⟨fun h => absurd h (nI_pos (by omega)), fun _ => ⟨fun h => ?_, fun _ => ⟨fun h => absurd h z1, fun _ => ⟨vp_in_nI (by omega) (by decide), ?_⟩⟩⟩⟩⟩
      · rw [hce] at h; exact absurd h (nI_ge hi2 (by omega))
      · rw [nI_clamp (by omega)]; exact hq
    · rw [cl4 hp, hre μr hr] at h; exact absurd h h0
    · have e1 : μr.2.1 94 (24 * p + i) = (rV μr p).2 94 i := rVa (k := 94) (show i < 24 by omega)
      rw [show ((24 : Int32) * nI p + nI i).toNatClampNeg = 24 * p + i from ix_cl (w := 24) hp (by omega) (by omega), e1, ← (hr.2.2 p hp).2.2.2 h1 i (by rw [hne, nI_clamp (by omega)]; exact hi2)]
      rw [cPA (by omega) (by omega)] at hq
      exact hq
    · rw [cl4 hp, hrn μr hr] at h; exact absurd (nI_lt hi2 (by omega)) h
