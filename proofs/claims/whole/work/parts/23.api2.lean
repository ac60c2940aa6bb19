/-! Calls that change one tenant, or one program. -/
theorem Inv.ten {c t0 : Nat} {μ μ' : Mu} (h : Inv c μ) (ht0 : t0 < 4) (hG : cG μ' = cG μ) (hP : ∀ p, p < 4 → cP μ' p = cP μ p) (hT : ∀ t, t < 4 → t ≠ t0 → cT μ' t = cT μ t)
    (hI : ∀ sc, sc ≤ 8 → cG μ 3 = nI sc → IT sc (cT μ t0) → IT sc (cT μ' t0)) (hY : IY (cT μ t0) (cP μ) → IY (cT μ' t0) (cP μ)) (hc : (cT μ' t0).1 1 5 = (cT μ t0).1 1 5) : Inv c μ' := by
  obtain ⟨len, sc, s, h1, h2, h3, h4, h5, h6⟩ := h
  have hYP : ∀ B, IY B (cP μ) → IY B (cP μ') := by
    intro B hB
    refine ⟨fun ha => ?_, hB.2⟩
    obtain ⟨p, pos, n, hp, hh⟩ := hB.1 ha
    refine ⟨p, pos, n, hp, ?_⟩
    rw [hP p hp]
    exact hh
  have hr : ∀ t, t < 4 → (cT μ' t).1 1 5 = (cT μ t).1 1 5 := by
    intro t ht
    by_cases htt : t = t0
    · subst htt; exact hc
    · rw [hT t ht htt]
  refine ⟨len, sc, s, by rw [hG]; exact h1, by rw [hG]; exact h2, by rw [hG]; exact h3, fun t ht => ?_, fun p hp => by rw [hP p hp]; exact h5 p hp, ?_⟩
  · by_cases htt : t = t0
    · subst htt
      exact ⟨hI sc h2.1 h2.2 (h4 t ht).1, hYP _ (hY (h4 t ht).2)⟩
    · rw [hT t ht htt]
      exact ⟨(h4 t ht).1, hYP _ (h4 t ht).2⟩
  · rw [hr 0 (by omega), hr 1 (by omega), hr 2 (by omega), hr 3 (by omega)]
    exact h6
theorem R2.ten {t0 : Nat} {μ μ' μr μr' : Mu} (h : R2 μ μr) (g1 : cG μ' = cG μ) (g2 : rG μr' = rG μr) (g3 : ∀ a, 98 ≤ a → a ≤ 100 → rS μr' a = rS μr a) (p1 : ∀ p, p < 4 → cP μ' p = cP μ p) (t1 : ∀ t, t < 4 → t ≠ t0 → cT μ' t = cT μ t) (v1 : ∀ t, t < 4 → t ≠ t0 → rV μr' t = rV μr t)
    (v2 : RP (cP μ t0) (rV μr t0) → RP (cP μ t0) (rV μr' t0)) (hT : RT t0 (cT μ t0) (rV μr t0) → RT t0 (cT μ' t0) (rV μr' t0)) (hs : ∀ sc S, sc ≤ 8 → RSh sc (cT μ t0) S → RSh sc (cT μ' t0) S) (h8 : ∃ sc, sc ≤ 8 ∧ cG μ 3 = nI sc) : R2 μ' μr' := by
  obtain ⟨h1, h2, h3⟩ := h
  obtain ⟨sc, hsc, hsce⟩ := h8
  have hsn : (cG μ 3).toNatClampNeg ≤ 8 := by rw [hsce, nI_clamp (by omega)]; exact hsc
  have hS : ∀ B, RSh (cG μ 3).toNatClampNeg B (rS μr) → RSh (cG μ 3).toNatClampNeg B (rS μr') := by
    intro B hB k hk
    have := hB k hk
    rw [g3 98 (by omega) (by omega), g3 99 (by omega) (by omega), g3 100 (by omega) (by omega)]
    exact this
  refine ⟨by rw [g1, g2]; exact h1, fun t ht => ?_, fun p hp => ?_⟩
  · rw [g1]
    by_cases htt : t = t0
    · subst htt
      exact ⟨hT (h2 t ht).1, hS _ (hs _ _ hsn (h2 t ht).2)⟩
    · rw [t1 t ht htt, v1 t ht htt]
      exact ⟨(h2 t ht).1, hS _ (h2 t ht).2⟩
  · rw [p1 p hp]
    by_cases hpp : p = t0
    · subst hpp
      exact v2 (h3 p hp)
    · rw [v1 p hp hpp]
      exact h3 p hp
theorem cG_F {μ : Mu} {k j : Nat} {v : Int32} (hk : k ≠ 0) : cG (setF μ k j v) = cG μ := funext fun b => if_neg fun h => hk h.1.symm
theorem rG_F {μ : Mu} {k j : Nat} {v : Int32} (hk : k ≠ 91) : rG (setF μ k j v) = rG μ := funext fun b => if_neg fun h => hk h.1.symm
theorem rS_A {μ : Mu} {k i a : Nat} {v : Int32} (hk : a ≠ k ∨ i < 96) : rS (setA μ k i v) a = rS μ a := by
  funext b
  show (if b < 8 then (if a = k ∧ 96 + b = i then v else μ.2.1 a (96 + b)) else 0) = if b < 8 then μ.2.1 a (96 + b) else 0
  rw [if_neg (c := a = k ∧ 96 + b = i) fun h => by omega]
theorem line_add {k n cnt : Nat} {v : Int32} {μ : Mu} {Q : Int32 → Mu → Prop} (hc : μ.1 k 1 = nI cnt) (hn : cnt < n) (hn2 : n < 2 ^ 31) (hq : Q 1 (setF (setA μ (k + 1) cnt v) k 1 (nI (cnt + 1)))) : wp_Line_add k n v μ Q := by
  have h1 : (nI cnt < Int32.ofNat n) := nI_lt (b := n) hn hn2
  refine ⟨fun _ => ⟨fun _ => ?_, fun h => absurd rfl h⟩, fun h => ?_⟩
  · refine ⟨by rw [hc]; exact vp_in_nI hn hn2, fun μ4 e4 μ5 e5 => ?_⟩
    subst e4
    subst e5
    rw [hc, nI_clamp (by omega), show (setA μ (k + 1) cnt v).1 k 1 = μ.1 k 1 from rfl, hc, nI_1]
    exact hq
  · rw [hc] at h; exact absurd h1 h
theorem line_full {k n : Nat} {v : Int32} {μ : Mu} {Q : Int32 → Mu → Prop} (hc : μ.1 k 1 = nI n) (hn2 : n < 2 ^ 31) (hq : Q 0 μ) : wp_Line_add k n v μ Q := by
  refine ⟨fun h => ?_, fun _ => ⟨fun h => absurd h z1, fun _ => hq⟩⟩
  rw [hc] at h
  exact absurd h (nI_nlt (Nat.le_refl n) hn2)
theorem bound_sc {c : Nat} {μ : Mu} (h : Inv c μ) : ∃ sc, sc ≤ 8 ∧ cG μ 3 = nI sc := by
  obtain ⟨len, sc, s, -, h2, -⟩ := h
  exact ⟨sc, h2⟩
theorem sim_feed {c : Nat} {μ : Mu} {a v : Int32} (hi : Inv c μ) : Sim c μ (wp_Host_feed a v) (wp_Mod_feed a v) := by
  rcases arg4 a with hb | ⟨t, ht, rfl⟩
  · exact Sim.get hi 0 (fun Q hq => ten_bad hb ⟨fun _ => hq, fun h => absurd rfl h⟩) (fun μr _ Q hq => fou_bad hb ⟨fun _ => hq, fun h => absurd rfl h⟩)
  have h8 := bound_sc hi
  obtain ⟨len, sc, s, -, -, -, hT, -⟩ := id hi
  obtain ⟨n, hn, hne⟩ := (hT t ht).1.1.2.2.1
  have hce : μ.1 (35 + 17 * t) 1 = nI n := by rw [cTF (by omega) (by omega)]; exact hne
  have hre : ∀ μr, R2 μ μr → μr.2.1 118 t = nI n := fun μr hr => by
    rw [rVs (k := 118) rfl, ← (hr.2.1 t ht).1.2.1.2.2.2.2.1]; exact hne
  by_cases hf : n = 8
  · subst hf
    refine Sim.get hi 0 (fun Q hq => ten_ok ht ⟨fun h => absurd h z1, fun _ => ⟨in4 ht, ?_⟩⟩) (fun μr hr Q hq => fou_ok ht ⟨fun h => absurd h z1, fun _ => ⟨in4 ht, fun h => ?_, fun _ => hq⟩⟩)
    · rw [cl4 ht]; exact line_full hce (by decide) ⟨fun _ => hq, fun h => absurd rfl h⟩
    · rw [cl4 ht, hre μr hr] at h; exact absurd rfl h
  · have e36 : 35 + 17 * t + 1 = 36 + 17 * t := by omega
    have hB : cT (setF (setA μ (36 + 17 * t) n v) (35 + 17 * t) 1 (nI (n + 1))) t = bF (bA (cT μ t) 13 n v) 12 1 (nI (n + 1)) := by rw [cT_F (by omega) (by omega), cT_A (by omega) (by omega)]
    have hBn : ∀ t', t' < 4 → t' ≠ t → cT (setF (setA μ (36 + 17 * t) n v) (35 + 17 * t) 1 (nI (n + 1))) t' = cT μ t' := fun t' _ h => by rw [cT_Fn h (by omega) (by omega), cT_An h (by omega) (by omega)]
    have hG : cG (setF (setA μ (36 + 17 * t) n v) (35 + 17 * t) 1 (nI (n + 1))) = cG μ := cG_F (by omega)
    have hP : ∀ p, p < 4 → cP (setF (setA μ (36 + 17 * t) n v) (35 + 17 * t) 1 (nI (n + 1))) p = cP μ p := fun p hp => by rw [cP_Fn (by omega), cP_An (by omega)]
    refine ⟨1, setF (setA μ (36 + 17 * t) n v) (35 + 17 * t) 1 (nI (n + 1)), fun Q hq => ten_ok ht ⟨fun h => absurd h z1, fun _ => ⟨in4 ht, ?_⟩⟩, (refEq.rf.A (by omega)).F (by omega), hi.ten ht hG hP hBn (fun sc _ _ hI => ?_) (fun hY => ?_) (by rw [hB]; rfl), fun μr hr => ⟨setA (setA μr 117 (8 * t + n) v) 118 t (nI (n + 1)), fun Q hq => fou_ok ht ⟨fun h => absurd h z1, fun _ => ⟨in4 ht, fun _ => ⟨in4 ht, ?_⟩, fun h => ?_⟩⟩, (clsEq.rf.A (by omega)).A (by omega), ?_⟩⟩
    · rw [cl4 ht]
      refine line_add hce (by omega) (by decide) ⟨fun h => absurd h z1, fun _ => ?_⟩
      rw [e36]; exact hq
    · rw [hB]
      exact ⟨⟨hI.1.1, hI.1.2.1, ⟨n + 1, by omega, rfl⟩, hI.1.2.2.2⟩, hI.2⟩
    · rw [hB]; exact hY
    · rw [cl4 ht, hre μr hr]
      refine ⟨ix_le (w := 8) ht (by omega) rfl (by omega), fun μ6 e6 => ⟨in4 ht, in4 ht, fun μ9 e9 => ?_⟩⟩
      subst e6
      subst e9
      rw [show ((8 : Int32) * nI t + nI n).toNatClampNeg = 8 * t + n from ix_cl (w := 8) ht (by omega) (by omega), show (setA μr 117 (8 * t + n) v).2.1 118 t = μr.2.1 118 t from rfl, hre μr hr, nI_1]
      exact hq
    · rw [cl4 ht, hre μr hr] at h
      exact absurd ((nI_eq (b := 8) (by omega) (by decide)).mp h) hf
    · have hV : rV (setA (setA μr 117 (8 * t + n) v) 118 t (nI (n + 1))) t = pF (pA (rV μr t) 117 n v) 118 (nI (n + 1)) := by
        rw [rV_s rfl rfl]
        exact congrArg (fun z => pF z 118 (nI (n + 1))) (rV_a (k := 117) rfl (show n < 8 by omega))
      have hVn : ∀ t', t' < 4 → t' ≠ t → rV (setA (setA μr 117 (8 * t + n) v) 118 t (nI (n + 1))) t' = rV μr t' := fun t' _ h => by
        rw [rV_sn h rfl]
        exact rV_an (k := 117) h rfl (show n < 8 by omega)
      refine hr.ten hG rfl (fun a _ _ => by rw [rS_A (by omega), rS_A (by omega)]) hP hBn hVn (fun h => by rw [hV]; exact h) (fun h => ?_) (fun sc S _ h => by rw [hB]; exact h) h8
      rw [hB, hV]
      refine ⟨h.1, ⟨h.2.1.1, h.2.1.2.1, h.2.1.2.2.1, h.2.1.2.2.2.1, rfl, h.2.1.2.2.2.2.2⟩, h.2.2.1, h.2.2.2.1, h.2.2.2.2.1, h.2.2.2.2.2.1, fun i hi3 => ?_, h.2.2.2.2.2.2.2.1, h.2.2.2.2.2.2.2.2⟩
      have hi4 : i < n + 1 := by
        have : (nI (n + 1)).toNatClampNeg = n + 1 := nI_clamp (by omega)
        rw [← this]; exact hi3
      show (if 117 = 117 ∧ i = n then v else (rV μr t).2 117 i) = if 13 = 13 ∧ i = n then v else (cT μ t).2.1 13 i
      by_cases hin : i = n
      · rw [if_pos ⟨rfl, hin⟩, if_pos ⟨rfl, hin⟩]
      · rw [if_neg fun h => hin h.2, if_neg fun h => hin h.2]
        exact h.2.2.2.2.2.2.1 i (by rw [show (cT μ t).1 12 1 = nI n from hne, nI_clamp (by omega)]; omega)
