theorem greatest_ok {k : Nat} (hk : k < 25) {μ : Mu} {Q : Int32 → Mu → Prop} (hq : Q (if k = 1 then -1 else sta_v 2 k) μ) : wp_Mod_greatest (nI k) μ Q := by
  unfold wp_Mod_greatest
  rw [nI_toInt (by omega)]
  refine ⟨fun h => ?_, fun h => ?_, fun h => ?_, fun h => ?_, fun h => ?_, fun h => ?_, fun h => ?_, fun h => ?_, fun h => ?_, fun h => ?_, fun h => ?_, fun h => ?_, fun h => ?_, fun h => ?_, fun h => ?_, fun h => ?_, fun h => ?_, fun h => ?_, fun h => ?_, fun h => ?_, fun h => ?_, fun h => ?_, fun h => ?_, fun h => ?_, fun h => ?_⟩
  · obtain rfl : k = 0 := by omega
    exact hq
  · obtain rfl : k = 1 := by omega
    exact hq
  · obtain rfl : k = 2 := by omega
    exact hq
  · obtain rfl : k = 3 := by omega
    exact hq
  · obtain rfl : k = 4 := by omega
    exact hq
  · obtain rfl : k = 5 := by omega
    exact hq
  · obtain rfl : k = 6 := by omega
    exact hq
  · obtain rfl : k = 7 := by omega
    exact hq
  · obtain rfl : k = 8 := by omega
    exact hq
  · obtain rfl : k = 9 := by omega
    exact hq
  · obtain rfl : k = 10 := by omega
    exact hq
  · obtain rfl : k = 11 := by omega
    exact hq
  · obtain rfl : k = 12 := by omega
    exact hq
  · obtain rfl : k = 13 := by omega
    exact hq
  · obtain rfl : k = 14 := by omega
    exact hq
  · obtain rfl : k = 15 := by omega
    exact hq
  · obtain rfl : k = 16 := by omega
    exact hq
  · obtain rfl : k = 17 := by omega
    exact hq
  · obtain rfl : k = 18 := by omega
    exact hq
  · obtain rfl : k = 19 := by omega
    exact hq
  · obtain rfl : k = 20 := by omega
    exact hq
  · obtain rfl : k = 21 := by omega
    exact hq
  · obtain rfl : k = 22 := by omega
    exact hq
  · obtain rfl : k = 23 := by omega
    exact hq
  · obtain rfl : k = 24 := by omega
    exact hq
/-- an op, and an arg that it takes -/
def gd (op arg : Int32) : Prop := ∃ k, k < 25 ∧ op = nI k ∧ (k = 1 ∨ ∃ a, a ≤ hiA k ∧ arg = nI a)
theorem hiA_ok : ∀ k, k < 25 → sta_v 2 k = nI (hiA k) ∧ hiA k ≤ 23 := by decide +kernel
theorem one_yes {op arg : Int32} (h : gd op arg) {μ : Mu} {Q : Int32 → Mu → Prop} (hq : Q 1 μ) : wp_Ins_isOne op arg μ Q := by
  obtain ⟨k, hk, rfl, h⟩ := h
  refine ⟨fun h => absurd h (nI_pos (by omega)), fun _ => ⟨fun _ => ⟨fun _ => hq, fun h1 => ?_⟩, fun h => absurd (nI_le (b := 24) (by omega) (by decide)) h⟩⟩
  rcases h with rfl | ⟨a, ha, rfl⟩
  · exact absurd rfl h1
  · have h2 := hiA_ok k hk
    refine ⟨fun h => absurd h (nI_pos (by omega)), fun _ => ⟨vp_in_nI hk (by decide), fun h => ?_, fun _ => hq⟩⟩
    rw [nI_clamp (by omega), h2.1] at h
    exact absurd h (nI_nlt ha (by omega))
theorem one_no {op arg : Int32} (h : ¬ gd op arg) {μ : Mu} {Q : Int32 → Mu → Prop} (hq : Q 0 μ) : wp_Ins_isOne op arg μ Q := by
  refine ⟨fun _ => hq, fun h1 => ⟨fun h2 => ⟨fun h3 => ?_, fun h3 => ⟨fun _ => hq, fun h4 => ?_⟩⟩, fun _ => hq⟩⟩
  · exact absurd ⟨1, by omega, h3, Or.inl rfl⟩ h
  · obtain ⟨k, hk, rfl⟩ := nI_of2 (M := 24) (n := 24) (by decide) h1 h2
    have h5 := hiA_ok k (by omega)
    refine ⟨vp_in_nI (by omega) (by decide), fun _ => hq, fun h6 => ?_⟩
    rw [nI_clamp (by omega), h5.1] at h6
    obtain ⟨a, ha, rfl⟩ := nI_of h4
    exact absurd ⟨k, by omega, rfl, Or.inr ⟨a, Nat.le_of_not_lt fun h7 => h6 (nI_lt h7 ha), rfl⟩⟩ h
theorem sim_code {c : Nat} {μ : Mu} {a op arg : Int32} (hi : Inv c μ) : Sim c μ (wp_Host_code a op arg) (wp_Mod_code a op arg) := by
  rcases arg4 a with hb | ⟨p, hp, rfl⟩
  · exact Sim.get hi (-1) (fun Q hq => prg_bad hb ⟨fun _ => hq, fun h => absurd rfl h⟩) (fun μr _ Q hq => fou_bad hb ⟨fun _ => hq, fun h => absurd rfl h⟩)
  have hre : ∀ μr, R2 μ μr → μr.2.1 96 p = μ.1 (3 + 5 * p) 6 := fun μr hr => by
    rw [rVs (k := 96) rfl, ← (hr.2.2 p hp).2.1]; rfl
  obtain ⟨len, sc, s, -, -, -, -, hPr, -⟩ := id hi
  obtain ⟨n, hn, hne, h01, hops, -⟩ := hPr p hp
  have hce : μ.1 (3 + 5 * p) 5 = nI n := hne
  have hrn : ∀ μr, R2 μ μr → μr.2.1 95 p = nI n := fun μr hr => by
    rw [rVs (k := 95) rfl, ← (hr.2.2 p hp).1]; exact hne
  -- the reference, where the instruction isn't one
  have rno : ¬ gd op arg → ∀ μr, R2 μ μr → ∀ Q : Int32 → Mu → Prop, Q (-1) μr → wp_Mod_code (nI p) op arg μr Q := by
    intro hg μr hr Q hq
    refine fou_ok hp ⟨fun h => absurd h z1, fun _ => ⟨in4 hp, fun _ => hq, fun _ => ⟨in4 hp, fun _ => hq, fun _ => ⟨fun _ => hq, fun h1 => ⟨fun h2 => ?_, fun _ => hq⟩⟩⟩⟩⟩
    obtain ⟨k, hk, rfl⟩ := nI_of2 (M := 24) (n := 24) (by decide) h1 h2
    have h5 := hiA_ok k (by omega)
    refine greatest_ok (by omega) ⟨fun h3 => ?_, fun h3 => ⟨fun _ => hq, fun h4 => ⟨fun h6 => ?_, fun _ => hq⟩⟩⟩
    · by_cases hk1 : k = 1
      · exact absurd ⟨k, by omega, rfl, Or.inl hk1⟩ hg
      · rw [if_neg hk1, h5.1] at h3
        exact absurd h3 (nI_pos (by omega))
    · by_cases hk1 : k = 1
      · exact absurd ⟨k, by omega, rfl, Or.inl hk1⟩ hg
      · rw [if_neg hk1, h5.1] at h6
        obtain ⟨b, hb, rfl⟩ := nI_of h4
        exact absurd ⟨k, by omega, rfl, Or.inr ⟨b, Nat.le_of_not_lt fun h7 => nI_ge h7 (by omega) h6, rfl⟩⟩ hg
  rcases (Classical.em (gd op arg)).symm with hg | hg
  · exact Sim.get hi (-1) (fun Q hq => prg_ok hp ⟨fun h => absurd h z1, fun _ => one_no hg ⟨fun _ => hq, fun h => absurd rfl h⟩⟩) (rno hg)
  rcases (Classical.em (μ.1 (3 + 5 * p) 6 = 0)).symm with h0 | h0
  · refine Sim.get hi (-1) (fun Q hq => prg_ok hp ⟨fun h => absurd h z1, fun _ => one_yes hg ⟨fun h => absurd h z1, fun _ => ⟨in4 hp, ?_⟩⟩⟩) (fun μr hr Q hq => fou_ok hp ⟨fun h => absurd h z1, fun _ => ⟨in4 hp, fun _ => hq, fun h => ?_⟩⟩)
    · rw [cl4 hp]; exact ⟨fun _ => hq, fun h => absurd h h0⟩
    · rw [cl4 hp, hre μr hr] at h; exact absurd h h0
  by_cases hf : n = 24
  · subst hf
    refine Sim.get hi (-1) (fun Q hq => prg_ok hp ⟨fun h => absurd h z1, fun _ => one_yes hg ⟨fun h => absurd h z1, fun _ => ⟨in4 hp, ?_⟩⟩⟩) (fun μr hr Q hq => fou_ok hp ⟨fun h => absurd h z1, fun _ => ⟨in4 hp, fun _ => hq, fun _ => ⟨in4 hp, fun _ => hq, fun h => ?_⟩⟩⟩)
    · rw [cl4 hp]; refine ⟨fun h => absurd h0 h, fun _ => ⟨fun h => ?_, fun _ => hq⟩⟩
      rw [hce] at h; exact absurd h (by decide)
    · rw [cl4 hp, hrn μr hr] at h; exact absurd rfl h
  have hn24 : n < 24 := by omega
  obtain ⟨k, hk, rfl, hka⟩ := id hg
  have hT : ∀ t, t < 4 → cT (setF (setA (setA μ (4 + 5 * p) n (nI k)) (5 + 5 * p) n arg) (3 + 5 * p) 5 (nI (n + 1))) t = cT μ t := fun t ht => by rw [cT_Fo (by omega) ht, cT_Ao (by omega) ht, cT_Ao (by omega) ht]
  have hPn : ∀ q, q < 4 → q ≠ p → cP (setF (setA (setA μ (4 + 5 * p) n (nI k)) (5 + 5 * p) n arg) (3 + 5 * p) 5 (nI (n + 1))) q = cP μ q := fun q _ h => by rw [cP_Fn (by omega), cP_An (by omega), cP_An (by omega)]
  have hPp : cP (setF (setA (setA μ (4 + 5 * p) n (nI k)) (5 + 5 * p) n arg) (3 + 5 * p) 5 (nI (n + 1))) p = pF (pA (pA (cP μ p) 0 n (nI k)) 1 n arg) 5 (nI (n + 1)) := by rw [cP_F, cP_A (by omega) (by omega), cP_A (by omega) (by omega)]
  have hG : cG (setF (setA (setA μ (4 + 5 * p) n (nI k)) (5 + 5 * p) n arg) (3 + 5 * p) 5 (nI (n + 1))) = cG μ := cG_F (by omega)
  have h6 : (cP μ p).1 6 = 0 := h0
  have hs1 : nI (n + 1) - 1 = nI n := nI_pred n
  refine ⟨nI n, setF (setA (setA μ (4 + 5 * p) n (nI k)) (5 + 5 * p) n arg) (3 + 5 * p) 5 (nI (n + 1)), fun Q hq => prg_ok hp ⟨fun h => absurd h z1, fun _ => one_yes hg ⟨fun h => absurd h z1, fun _ => ⟨in4 hp, ?_⟩⟩⟩, ((refEq.rf.A (by omega)).A (by omega)).F (by omega), hi.prg hG hT hPn (fun hI => ?_) (by rw [h6]; decide), fun μr hr => ⟨setA (setA (setA μr 92 (24 * p + n) (nI k)) 93 (24 * p + n) arg) 95 p (nI (n + 1)), fun Q hq => ?_, ((clsEq.rf.A (by omega)).A (by omega)).A (by omega), ?_⟩⟩
  · rw [cl4 hp]
    refine ⟨fun h => absurd h0 h, fun _ => ⟨fun _ => ⟨by rw [hce]; exact vp_in_nI (by omega) (by decide), fun μ2 e2 => ⟨?_, fun μ4 e4 μ5 e5 => ?_⟩⟩, fun h => ?_⟩⟩
    · subst e2
      show vp_in (μ.1 (3 + 5 * p) 5) 24
      rw [hce]; exact vp_in_nI (by omega) (by decide)
    · subst e2 e4 e5
      show Q ((if 3 + 5 * p = 3 + 5 * p ∧ 5 = 5 then μ.1 (3 + 5 * p) 5 + 1 else μ.1 (3 + 5 * p) 5) - 1) (setF (setA (setA μ (4 + 5 * p) (μ.1 (3 + 5 * p) 5).toNatClampNeg (nI k)) (5 + 5 * p) (μ.1 (3 + 5 * p) 5).toNatClampNeg arg) (3 + 5 * p) 5 (μ.1 (3 + 5 * p) 5 + 1))
      rw [if_pos ⟨rfl, rfl⟩, hce, nI_clamp (by omega), nI_1, hs1]
      exact hq
    · rw [hce] at h; exact absurd (nI_lt (b := 24) (by omega) (by decide)) h
  · rw [hPp]
    refine ⟨n + 1, by omega, rfl, Or.inl h6, fun i hi2 => ?_, fun h => ?_⟩
    · by_cases hin : i = n
      · subst hin
        refine ⟨k, by omega, if_pos ⟨rfl, rfl⟩, ?_⟩
        rcases hka with h | ⟨b, hb, rfl⟩
        · exact Or.inl h
        · exact Or.inr ⟨b, hb, if_pos ⟨rfl, rfl⟩⟩
      · obtain ⟨o, ho, ho1, ho2⟩ := hops i (by omega)
        refine ⟨o, ho, (if_neg fun h => hin h.2).trans ho1, ho2.imp id ?_⟩
        rintro ⟨b, hb, hb2⟩
        exact ⟨b, hb, (if_neg fun h => hin h.2).trans hb2⟩
    · have h7 : (cP μ p).1 6 = 1 := h
      rw [h6] at h7; exact absurd h7 (by decide)
  · have j62 : wp_Mod_code_j62 (nI p) (nI k) arg μr Q := by
      refine ⟨in4 hp, ?_, fun μ9 e9 => ⟨in4 hp, ?_, fun μ12 e12 => ⟨in4 hp, in4 hp, fun μ15 e15 => ⟨in4 hp, ?_⟩⟩⟩⟩
      · rw [cl4 hp, hrn μr hr]; exact ix_le (w := 24) hp (by omega) rfl (by omega)
      · subst e9
        show vp_in ((24 : Int32) * nI p + μr.2.1 95 (nI p).toNatClampNeg) 96
        rw [cl4 hp, hrn μr hr]; exact ix_le (w := 24) hp (by omega) rfl (by omega)
      · have ix : ((24 : Int32) * nI p + nI n).toNatClampNeg = 24 * p + n := ix_cl (w := 24) hp (by omega) (by omega)
        rw [cl4 hp, hrn μr hr, ix] at e9
        subst e9
        rw [cl4 hp, show (setA μr 92 (24 * p + n) (nI k)).2.1 95 p = μr.2.1 95 p from rfl, hrn μr hr, ix] at e12
        subst e12
        rw [cl4 hp, show (setA (setA μr 92 (24 * p + n) (nI k)) 93 (24 * p + n) arg).2.1 95 p = μr.2.1 95 p from rfl, hrn μr hr, nI_1] at e15
        subst e15
        rw [cl4 hp, show (setA (setA (setA μr 92 (24 * p + n) (nI k)) 93 (24 * p + n) arg) 95 p (nI (n + 1))).2.1 95 p = nI (n + 1) from if_pos ⟨rfl, rfl⟩, hs1]
        exact hq
    have h5 := hiA_ok k hk
    refine fou_ok hp ⟨fun h => absurd h z1, fun _ => ⟨in4 hp, fun h => ?_, fun _ => ⟨in4 hp, fun h => ?_, fun _ => ⟨fun h => absurd h (nI_pos (by omega)), fun _ => ⟨fun _ => greatest_ok hk ⟨fun _ => j62, fun h3 => ?_⟩, fun h => absurd (nI_le (b := 24) (by omega) (by decide)) h⟩⟩⟩⟩⟩
    · rw [cl4 hp, hre μr hr] at h; exact absurd h0 h
    · rw [cl4 hp, hrn μr hr] at h
      exact absurd ((nI_eq (b := 24) (by omega) (by decide)).mp h) hf
    · rcases hka with rfl | ⟨b, hb, rfl⟩
      · exact absurd (by decide : (-1 : Int32) < 0) h3
      · refine ⟨fun h => absurd h (nI_pos (by omega)), fun _ => ⟨fun _ => j62, fun h => ?_⟩⟩
        by_cases hk1 : k = 1
        · rw [if_pos hk1] at h3; exact absurd (by decide : (-1 : Int32) < 0) h3
        · rw [if_neg hk1, h5.1] at h
          exact absurd (nI_le hb (by omega)) h
  · have hV : rV (setA (setA (setA μr 92 (24 * p + n) (nI k)) 93 (24 * p + n) arg) 95 p (nI (n + 1))) p = pF (pA (pA (rV μr p) 92 n (nI k)) 93 n arg) 95 (nI (n + 1)) := by
      rw [rV_s rfl rfl]
      have e1 : rV (setA (setA μr 92 (24 * p + n) (nI k)) 93 (24 * p + n) arg) p = pA (rV (setA μr 92 (24 * p + n) (nI k)) p) 93 n arg := rV_a (k := 93) rfl hn24
      have e2 : rV (setA μr 92 (24 * p + n) (nI k)) p = pA (rV μr p) 92 n (nI k) := rV_a (k := 92) rfl hn24
      rw [e1, e2]
    have hVn : ∀ t', t' < 4 → t' ≠ p → rV (setA (setA (setA μr 92 (24 * p + n) (nI k)) 93 (24 * p + n) arg) 95 p (nI (n + 1))) t' = rV μr t' := fun t' _ h => by
      rw [rV_sn h rfl]
      exact (rV_an (k := 93) h rfl hn24).trans (rV_an (k := 92) h rfl hn24)
    refine hr.prg hG rfl (fun a _ _ => by rw [rS_A (by omega), rS_A (by omega), rS_A (by omega)]) hT hPn hVn (fun h => by rw [hV]; exact h) (fun h => ?_)
    rw [hPp, hV]
    refine ⟨rfl, h.2.1, fun i hi2 => ?_, fun h7 => ?_⟩
    · have hi3 : i < n + 1 := by
        have : (nI (n + 1)).toNatClampNeg = n + 1 := nI_clamp (by omega)
        rw [← this]; exact hi2
      by_cases hin : i = n
      · exact ⟨(if_pos ⟨rfl, hin⟩ : (if 0 = 0 ∧ i = n then nI k else (cP μ p).2 0 i) = nI k).trans (if_pos ⟨rfl, hin⟩ : (if 92 = 92 ∧ i = n then nI k else (rV μr p).2 92 i) = nI k).symm, (if_pos ⟨rfl, hin⟩ : (if 1 = 1 ∧ i = n then arg else (cP μ p).2 1 i) = arg).trans (if_pos ⟨rfl, hin⟩ : (if 93 = 93 ∧ i = n then arg else (rV μr p).2 93 i) = arg).symm⟩
      · have := h.2.2.1 i (by rw [hne, nI_clamp (by omega)]; omega)
        exact ⟨(if_neg (fun h => hin h.2) : (if 0 = 0 ∧ i = n then nI k else (cP μ p).2 0 i) = (cP μ p).2 0 i).trans (this.1.trans (if_neg (fun h => hin h.2) : (if 92 = 92 ∧ i = n then nI k else (rV μr p).2 92 i) = (rV μr p).2 92 i).symm), (if_neg (fun h => hin h.2) : (if 1 = 1 ∧ i = n then arg else (cP μ p).2 1 i) = (cP μ p).2 1 i).trans (this.2.trans (if_neg (fun h => hin h.2) : (if 93 = 93 ∧ i = n then arg else (rV μr p).2 93 i) = (rV μr p).2 93 i).symm)⟩
    · have h8 : (cP μ p).1 6 = 1 := h7
      rw [h6] at h8; exact absurd h8 (by decide)
