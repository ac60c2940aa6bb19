/-! A slice, in both; run. -/
def SliceR (c t m i : Nat) (μ : Mu) : Prop := ∃ μ1, (∀ Q : Mu → Prop, Q μ1 → wp_Host_doSlice_2 t (fun v7 μ8 => ∀ μ9 : Mu, μ9 = setF μ8 (23 + 17 * t) 7 (2 : Int32) → Q μ9) (fun v10 μ11 => Q μ11) Q (m + 1) (nI i) μ) ∧ refEq μ μ1 ∧ Inv c μ1 ∧ cG μ1 = cG μ ∧
  ∀ μr, R2 μ μr → ∃ μ2, (∀ (w1 w2 : Int32) (K : Int32 → Int32 → Mu → Prop) (Q : Int32 → Mu → Prop), (∀ v4 v5, K v4 v5 μ2) → wp_Mod_run_36 w1 w2 (nI t) K Q (m + 1 + 1) 1 (nI i) μr) ∧ clsEq μr μ2 ∧ R2 μ1 μ2
theorem len_r {μ μr : Mu} (hr : R2 μ μr) : μr.1 91 0 = cG μ 0 := hr.1.1.symm
theorem Dat_op {t p pos n d op p' pos' n' d' op' : Nat} {arg arg' : Int32} {l l' : List Bool} {μ : Mu} (D : Dat t p pos n d op arg l μ) (D' : Dat t p' pos' n' d' op' arg' l' μ) : op = op' := by
  obtain ⟨⟨hp, hpos, hn, -, hop⟩, ⟨e8, e9, -⟩, ⟨eo, -⟩, -⟩ := D
  obtain ⟨⟨hp', hpos', hn', -, hop'⟩, ⟨e8', e9', -⟩, ⟨eo', -⟩, -⟩ := D'
  have h1 : p = p' := (nI_eq (by omega) (by omega)).mp (e8.symm.trans e8')
  have h2 : pos = pos' := (nI_eq (by omega) (by omega)).mp (e9.symm.trans e9')
  subst h1 h2
  exact (nI_eq (by omega) (by omega)).mp (eo.symm.trans eo')
theorem slice_ok {c t len : Nat} (ht : t < 4) (hlen : len ≤ 8) : ∀ (m i : Nat) (μ : Mu), i + m = len → Inv c μ → cG μ 0 = nI len → SliceR c t m i μ := by
  intro m
  induction m with
  | zero =>
    intro i μ hi hI hl
    obtain rfl : i = len := by omega
    refine ⟨μ, fun Q hq => ⟨fun _ => hq, fun h => absurd ?_ h⟩, refEq.rf, hI, rfl, fun μr hr => ⟨μr, fun w1 w2 K Q hK => ⟨fun _ => hK _ _, fun h => absurd ?_ h⟩, clsEq.rf, hr⟩⟩
    · rw [show μ.1 0 0 = nI i from hl]; exact nI_le (Nat.le_refl _) (by omega)
    · rw [len_r hr, hl]; exact nI_le (Nat.le_refl _) (by omega)
  | succ m ih =>
    intro i μ hi hI hl
    have hng : ¬ μ.1 0 0 ≤ nI i := by rw [show μ.1 0 0 = nI len from hl]; exact nI_ge (by omega) (by omega)
    have hngr : ∀ μr, R2 μ μr → ¬ μr.1 91 0 ≤ nI i := fun μr hr => by rw [len_r hr, hl]; exact nI_ge (by omega) (by omega)
    have st : ∀ μr, R2 μ μr → μr.2.1 106 t = (cT μ t).1 0 7 := fun μr hr => st_r (R2X.of (t := t) hr) ht
    have stop0 : ∀ {w1 w2 : Int32} {K : Int32 → Int32 → Mu → Prop} {Q : Int32 → Mu → Prop} {n : Nat} {v : Int32} {ν : Mu}, (∀ v4 v5, K v4 v5 ν) → wp_Mod_run_36 w1 w2 (nI t) K Q (n + 1) 0 v ν := fun hK => ⟨fun _ => hK _ _, fun _ => ⟨fun _ => hK _ _, fun h => absurd rfl h⟩⟩
    by_cases hal : (cT μ t).1 0 7 = 1 ∨ (cT μ t).1 0 7 = 2
    · obtain ⟨len', sc, s', h1, h2, h3, hT, hP, h6⟩ := id hI
      obtain ⟨rr, s, cc, b1, b2, b3, b4, b5, b6, b7⟩ := (hT t ht).1.2.1
      have f10 : μ.1 (23 + 17 * t) 10 = nI rr := (cTF (by omega) (by omega)).trans b5
      have f11 : μ.1 (23 + 17 * t) 11 = nI s := (cTF (by omega) (by omega)).trans b6
      have g105 : ∀ μr, R2 μ μr → μr.2.1 105 t = nI rr := fun μr hr => by rw [rVs (k := 105) rfl, ← (hr.2.1 t ht).1.1.2.2.2.1]; exact b5
      have g109 : ∀ μr, R2 μ μr → μr.2.1 109 t = nI s := fun μr hr => by rw [rVs (k := 109) rfl, ← (hr.2.1 t ht).1.1.2.2.2.2.1]; exact b6
      -- the reference's way, alive
      have rgo : ∀ {μr : Mu} {w1 w2 : Int32} {K : Int32 → Int32 → Mu → Prop} {Q : Int32 → Mu → Prop}, R2 μ μr → ((¬ s = rr → wp_Mod_perform (nI t) μr (fun x8 μ7 => wp_Mod_run_36 w1 w2 (nI t) K Q (m + 1 + 1) x8 (nI (i + 1)) μ7)) ∧ (s = rr → wp_Mod_end (nI t) (5 : Int32) μr (fun μ9 => wp_Mod_run_36 w1 w2 (nI t) K Q (m + 1 + 1) 1 (nI (i + 1)) μ9))) → wp_Mod_run_36 w1 w2 (nI t) K Q (m + 1 + 1 + 1) 1 (nI i) μr := by
        intro μr w1 w2 K Q hr hq
        refine ⟨fun h => absurd h (hngr μr hr), fun _ => ⟨fun h => absurd h z1, fun _ => alive_r ht (st μr hr) (fun _ => ⟨fun h => absurd h z1, fun _ => ⟨in4 ht, in4 ht, fun hne => ⟨fun h => absurd h z1, fun _ => ?_⟩, fun he => ?_⟩⟩) (fun h => absurd hal h)⟩⟩
        · rw [cl4 ht, g105 μr hr, g109 μr hr, nI_eq (by omega) (by omega)] at hne
          rw [nI_1]; exact hq.1 hne
        · rw [cl4 ht, g105 μr hr, g109 μr hr, nI_eq (by omega) (by omega)] at he
          rw [nI_1]; exact hq.2 he
      by_cases hsp : s = rr
      · -- its steps are spent
        obtain ⟨oo, hIX, hRX⟩ : oneC t (endB (cT μ t) 5 (cG μ 4)) μ (endM μ t 5) ∧ Inv c (endM μ t 5) ∧ ∀ μr, R2 μ μr → ∃ μr', (∀ Q : Mu → Prop, Q μr' → wp_Mod_end (nI t) 5 μr Q) ∧ clsEq μr μr' ∧ R2 (endM μ t 5) μr' := by
          -- as another tenant's end, in the midst of a tenant that isn't t
          obtain ⟨u, hu, hut⟩ : ∃ u, u < 4 ∧ t ≠ u := by
            by_cases h0 : t = 0
            · exact ⟨1, by omega, by omega⟩
            · exact ⟨0, by omega, h0⟩
          obtain ⟨oo, hIX, hRX⟩ := end_X (c := c) (t := u) (k := t) (e := 5) (InvX.of hI) ht hut (by decide) (by decide) (by decide)
          have eu := oo.2.2.1 u hu (Ne.symm hut)
          refine ⟨oo, hIX.to ?_, fun μr hr => ?_⟩
          · rw [eu]; exact IY.prg oo.2.1 (hT u hu).2
          · obtain ⟨μr', a1, a2, a3⟩ := hRX μr (R2X.of hr)
            refine ⟨μr', a1, a2.2.2.2.2, a3.to ?_⟩
            rw [eu, a2.2.2.1 u hu (Ne.symm hut)]
            exact (hr.2.1 u hu).1
        obtain ⟨μ1, c1, c2, c3, c4, c5⟩ := ih (i + 1) (endM μ t 5) (by omega) hIX (by rw [oo.1]; exact hl)
        refine ⟨μ1, fun Q hq => ⟨fun h => absurd h hng, fun _ => alive_c (fun _ => ⟨fun h => absurd h z1, fun _ => ⟨fun h => ?_, fun _ => end_cls ?_⟩⟩) (fun h => absurd hal h)⟩, oo.2.2.2.2.tr c2, c3, c4.trans oo.1, fun μr hr => ?_⟩
        · rw [f10, f11, nI_ltI (by omega) (by omega)] at h; omega
        · rw [nI_1]; exact c1 Q hq
        · obtain ⟨μr', d1, d2, d3⟩ := hRX μr hr
          obtain ⟨μ2, e1, e2, e3⟩ := c5 μr' d3
          exact ⟨μ2, fun w1 w2 K Q hK => rgo hr ⟨fun h => absurd hsp h, fun _ => d1 _ (e1 w1 w2 K Q hK)⟩, d2.tr e2, e3⟩
      · have hlt : μ.1 (23 + 17 * t) 11 < μ.1 (23 + 17 * t) 10 := by rw [f10, f11]; exact nI_lt (by omega) (by omega)
        obtain ⟨p, pos, n, d, op, arg, l', D⟩ := step_data hI ht hal
        obtain ⟨⟨hp, hpos, hn, hd, hop⟩, ⟨e8, e9, e5, e6, ed⟩, ⟨eo, ea⟩, -⟩ := id D
        have f33 : μ.1 (33 + 17 * t) 1 = (cT μ t).1 10 1 := cTF (by omega) (by omega)
        have f8 : μ.1 (23 + 17 * t) 8 = nI p := (cTF (by omega) (by omega)).trans e8
        have f9 : μ.1 (23 + 17 * t) 9 = nI pos := (cTF (by omega) (by omega)).trans e9
        have mw : ∀ {Q : Int32 → Mu → Prop}, ((¬ ((cT μ t).1 10 1 = 0 ∧ op = 22) → Q 0 μ) ∧ (((cT μ t).1 10 1 = 0 ∧ op = 22) → Q 1 μ)) → wp_Host_mustWait t μ Q := by
          intro Q hq
          unfold wp_Host_mustWait
          rw [f33, f8, f9, cl4 hp]
          refine ⟨fun h => hq.1 (fun z => h z.1), fun h => ⟨in4 hp, opAt_ok hp e5 hpos hn ?_⟩⟩
          rw [eo]
          exact ⟨fun z => hq.1 (fun y => z (by rw [y.2]; rfl)), fun z => hq.2 ⟨h, (nI_eq (b := 22) (by omega) (by omega)).mp z⟩⟩
        by_cases hwt : (cT μ t).1 10 1 = 0 ∧ op = 22
        · -- it waits
          have oo := oneC_F (μ := μ) (k := 23) (j := 7) (v := 2) ht (by omega) (by omega)
          have hIw : Inv c (setF μ (23 + 17 * t) 7 2) := by
            refine hI.ten ht oo.1 oo.2.1 oo.2.2.1 (fun sc _ _ hI' => ?_) (fun hY => ?_) (by rw [oo.2.2.2.1]; rfl)
            · rw [oo.2.2.2.1]
              exact ⟨hI'.1, hI'.2.1, hI'.2.2.1, fun h => absurd h (show ¬ (2 : Int32) = 0 by decide), hI'.2.2.2.2⟩
            · rw [oo.2.2.2.1]
              exact ⟨fun _ => hY.1 hal, fun h => absurd (Or.inr rfl) h⟩
          refine ⟨setF μ (23 + 17 * t) 7 2, fun Q hq => ⟨fun h => absurd h hng, fun _ => alive_c (fun _ => ⟨fun h => absurd h z1, fun _ => ⟨fun _ => mw ⟨fun h => absurd hwt h, fun _ => ⟨fun h => absurd h z1, fun _ μ9 e9' => by rw [e9']; exact hq⟩⟩, fun h => absurd hlt h⟩⟩) (fun h => absurd hal h)⟩, oo.2.2.2.2, hIw, oo.1, fun μr hr => ?_⟩
          have oR := oneR_s (μ := μr) (t := t) (k := 106) (v := 2) rfl rfl (by omega)
          have hRT : RT t (bF (cT μ t) 0 7 2) (rV (setA μr 106 t 2) t) := by
            rw [rV_s (k := 106) rfl rfl]
            have h := (hr.2.1 t ht).1
            exact ⟨⟨rfl, h.1.2⟩, h.2⟩
          refine ⟨setA μr 106 t 2, fun w1 w2 K Q hK => rgo hr ⟨fun _ => ?_, fun h => absurd h hsp⟩, clsEq.rf.A (by omega), ((R2X.of (t := t) hr).one (InvX.of hI) ht oo oR ⟨fun h => absurd rfl h, RTg.of hRT⟩ (fun _ _ _ _ _ _ => rfl)).to (by rw [oo.2.2.2.1]; exact hRT)⟩
          -- the reference waits
          have g7 : μr.2.1 107 t = nI p := by rw [rVs (k := 107) rfl, ← (hr.2.1 t ht).1.1.2.1]; exact e8
          have g8 : μr.2.1 108 t = nI pos := by rw [rVs (k := 108) rfl, ← (hr.2.1 t ht).1.1.2.2.1]; exact e9
          have hc := (hr.2.2 p hp).2.2.1 pos (by rw [e5, nI_clamp (by omega)]; exact hpos)
          have g92 : μr.2.1 92 (24 * p + pos) = nI op := by rw [show μr.2.1 92 (24 * p + pos) = (rV μr p).2 92 pos from rVa (k := 92) (show pos < 24 by omega), ← hc.1]; exact eo
          have f116 : μr.2.1 116 t = 0 := by rw [rVs (k := 116) rfl, ← (hr.2.1 t ht).1.2.1.2.2.2.1]; exact hwt.1
          have hix : ((24 : Int32) * nI p + nI pos).toNatClampNeg = 24 * p + pos := ix_cl (w := 24) hp (by omega) (by omega)
          have hin : vp_in ((24 : Int32) * nI p + nI pos) 96 := ix_le (w := 24) hp (by omega) rfl (by omega)
          unfold wp_Mod_perform
          rw [cl4 ht, g7, g8, hix, g92, f116, hwt.2]
          exact ⟨in4 ht, in4 ht, hin, hin, fun h => absurd rfl h, fun _ => ⟨in4 ht, fun h => absurd rfl h, fun _ => ⟨in4 ht, fun μ26 e26 => by rw [e26]; exact stop0 hK⟩⟩⟩
        · obtain ⟨μa, a1, a2, a3, a4, a5⟩ := step_all hI ht hal b6 b5 b1 (by omega) (fun p' pos' n' d' arg' l'' D' h0 => hwt ⟨h0, Dat_op D D'⟩)
          obtain ⟨μ1, c1, c2, c3, c4, c5⟩ := ih (i + 1) μa (by omega) a3 (by rw [a4]; exact hl)
          refine ⟨μ1, fun Q hq => ⟨fun h => absurd h hng, fun _ => alive_c (fun _ => ⟨fun h => absurd h z1, fun _ => ⟨fun _ => mw ⟨fun _ => ⟨fun _ => a1 _ ?_, fun h => absurd rfl h⟩, fun h => absurd h hwt⟩, fun h => absurd hlt h⟩⟩) (fun h => absurd hal h)⟩, a2.tr c2, c3, c4.trans a4, fun μr hr => ?_⟩
          · rw [nI_1]; exact c1 Q hq
          · obtain ⟨μr', d1, d2, d3⟩ := a5 μr hr
            obtain ⟨μ2, e1, e2, e3⟩ := c5 μr' d3
            exact ⟨μ2, fun w1 w2 K Q hK => rgo hr ⟨fun _ => d1 _ (e1 w1 w2 K Q hK), fun h => absurd h hsp⟩, d2.tr e2, e3⟩
    · refine ⟨μ, fun Q hq => ⟨fun h => absurd h hng, fun _ => alive_c (fun h => absurd h hal) (fun _ => ⟨fun _ => hq, fun h => absurd rfl h⟩)⟩, refEq.rf, hI, rfl, fun μr hr => ⟨μr, fun w1 w2 K Q hK => ⟨fun h => absurd h (hngr μr hr), fun _ => ⟨fun h => absurd h z1, fun _ => alive_r ht (st μr hr) (fun h => absurd h hal) (fun _ => ⟨fun _ => ⟨fun _ => stop0 hK, fun h => absurd rfl h⟩, fun h => absurd rfl h⟩)⟩⟩, clsEq.rf, hr⟩⟩
