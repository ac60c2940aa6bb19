/-! run. -/
theorem xor_4 {s : Nat} (h : s < 2 ^ 20) : 0 ≤ (nI s ^^^ (4 : Int32)) := by
  have e : nI s ^^^ (4 : Int32) = nI (s ^^^ 4) := by
    apply Int32.toBitVec_inj.mp
    rw [Int32.toBitVec_xor]
    show BitVec.ofNat 32 s ^^^ BitVec.ofNat 32 4 = BitVec.ofNat 32 (s ^^^ 4)
    apply BitVec.eq_of_toNat_eq
    have h4 : s ^^^ 4 < 2 ^ 20 := Nat.xor_lt_two_pow h (by decide)
    rw [BitVec.toNat_xor, BitVec.toNat_ofNat, BitVec.toNat_ofNat, BitVec.toNat_ofNat, Nat.mod_eq_of_lt (show s < 2 ^ 32 by omega), Nat.mod_eq_of_lt (show s ^^^ 4 < 2 ^ 32 by omega)]
  have h4 : s ^^^ 4 < 2 ^ 20 := Nat.xor_lt_two_pow h (by decide)
  rw [e]
  exact nI_pos' (by omega)
theorem floor_ok {s : Nat} {μ : Mu} {Q : Int32 → Mu → Prop} (h : s < 2 ^ 20) (hq : Q (nI (s % 4)) μ) : wp_JM_floorMod (nI s) (4 : Int32) μ Q := by
  refine ⟨by decide, fun _ => ?_, fun hn => absurd (xor_4 h) hn⟩
  rw [show (4 : Int32) = nI 4 from rfl, pk_rem (by omega) (by decide) (by decide)]
  exact hq
theorem tick {c s : Nat} {μ : Mu} (hi : Inv c μ) (es : cG μ 4 = nI s) (hs : s ≤ c) (hc : c < 2 ^ 20) : Inv (c + 1) (setF μ 0 4 (nI (s + 1))) ∧ ∀ μr, R2 μ μr → R2 (setF μ 0 4 (nI (s + 1))) (setF μr 91 32 (nI (s + 1))) := by
  obtain ⟨len, sc, s', h1, h2, h3, h4, h5, h6⟩ := hi
  have eT : ∀ t, t < 4 → cT (setF μ 0 4 (nI (s + 1))) t = cT μ t := fun t ht => cT_Fo (Or.inl (by omega)) ht
  have eP : ∀ p, cP (setF μ 0 4 (nI (s + 1))) p = cP μ p := fun p => cP_Fn (by omega)
  have e0 : cG (setF μ 0 4 (nI (s + 1))) 0 = cG μ 0 := rfl
  have e3 : cG (setF μ 0 4 (nI (s + 1))) 3 = cG μ 3 := rfl
  have e4 : cG (setF μ 0 4 (nI (s + 1))) 4 = nI (s + 1) := rfl
  refine ⟨⟨len, sc, s + 1, by rw [e0]; exact h1, by rw [e3]; exact h2, ⟨by omega, e4⟩, fun t ht => ?_, fun p hp => by rw [eP p]; exact h5 p hp, by rw [eT 0 (by omega), eT 1 (by omega), eT 2 (by omega), eT 3 (by omega)]; exact h6⟩, fun μr hr => ?_⟩
  · rw [eT t ht]
    exact ⟨(h4 t ht).1, IY.prg (fun p _ => eP p) (h4 t ht).2⟩
  · have f0 : rG (setF μr 91 32 (nI (s + 1))) 0 = rG μr 0 := rfl
    have f10 : rG (setF μr 91 32 (nI (s + 1))) 10 = rG μr 10 := rfl
    have f32 : rG (setF μr 91 32 (nI (s + 1))) 32 = nI (s + 1) := rfl
    refine ⟨⟨by rw [e0, f0]; exact hr.1.1, by rw [e3, f10]; exact hr.1.2.1, by rw [e4, f32]⟩, fun t ht => ?_, fun p hp => ?_⟩
    · rw [eT t ht, e3]; exact hr.2.1 t ht
    · rw [eP p]; exact hr.2.2 p hp
theorem run_loop {nn : Nat} (hnn : nn ≤ 200) : ∀ (m i c : Nat) (μ : Mu), i + m = nn → c + m < 2 ^ 20 → Inv c μ → ∃ μ1, (∀ (K : Int32 → Mu → Prop) (Q : Int32 → Mu → Prop), K (nI nn) μ1 → wp_Host_run_13 (nI nn) K Q (m + 1) (nI i) μ) ∧ refEq μ μ1 ∧ Inv (c + m) μ1 ∧
    ∀ μr, R2 μ μr → ∃ μ2, (∀ (K : Int32 → Mu → Prop) (Q : Int32 → Mu → Prop), K (nI nn) μ2 → wp_Mod_run_18 (nI nn) K Q (m + 1) (nI i) μr) ∧ clsEq μr μ2 ∧ R2 μ1 μ2 := by
  intro m
  induction m with
  | zero =>
    intro i c μ hi hc hI
    obtain rfl : i = nn := by omega
    have hle : nI i ≤ nI i := nI_le (Nat.le_refl _) (by omega)
    exact ⟨μ, fun K Q hq => ⟨fun _ => hq, fun h => absurd hle h⟩, refEq.rf, hI, fun μr hr => ⟨μr, fun K Q hq => ⟨fun _ => hq, fun h => absurd hle h⟩, clsEq.rf, hr⟩⟩
  | succ m ih =>
    intro i c μ hi hc hI
    have hng : ¬ nI nn ≤ nI i := nI_ge (by omega) (by omega)
    obtain ⟨len, sc, s, h1, h2, h3, -⟩ := id hI
    have h4 : s % 4 < 4 := Nat.mod_lt _ (by decide)
    obtain ⟨μa, a1, a2, a3, a4, a5⟩ := slice_ok (c := c) h4 h1.2.1 len 0 μ (by omega) hI h1.2.2
    have e4 : cG μa 4 = nI s := by rw [a4]; exact h3.2
    obtain ⟨t1, t2⟩ := tick a3 e4 h3.1 (by omega)
    obtain ⟨μ1, b1, b2, b3, b4⟩ := ih (i + 1) (c + 1) _ (by omega) (by omega) t1
    refine ⟨μ1, fun K Q hq => ⟨fun h => absurd h hng, fun _ => ?_⟩, (a2.F (by omega)).tr b2, by rw [show c + (m + 1) = c + 1 + m by omega]; exact b3, fun μr hr => ?_⟩
    · rw [show μ.1 0 4 = nI s from h3.2]
      refine floor_ok (by omega) ⟨in4 h4, ⟨len + 1, ?_⟩⟩
      rw [cl4 h4]
      refine a1 _ (fun μ6 e6 => ?_)
      rw [show μa.1 0 4 = nI s from e4, nI_1] at e6
      rw [e6, nI_1]
      exact b1 K Q hq
    · obtain ⟨μra, c1, c2, c3⟩ := a5 μr hr
      obtain ⟨μ2, d1, d2, d3⟩ := b4 _ (t2 μra c3)
      refine ⟨μ2, fun K Q hq => ⟨fun h => absurd h hng, fun _ => ⟨len + 1 + 1, ?_⟩⟩, (c2.F (by omega)).tr d2, d3⟩
      rw [show μr.1 91 32 = nI s from hr.1.2.2.symm.trans h3.2, show (4 : Int32) = nI 4 from rfl, pk_rem (by omega) (by decide) (by decide)]
      refine c1 _ _ _ _ (fun v4 v5 μ13 e13 => ?_)
      rw [show μra.1 91 32 = nI s from c3.1.2.2.symm.trans e4, nI_1] at e13
      rw [e13, nI_1]
      exact d1 K Q hq
theorem sim_run {c : Nat} {μ : Mu} {a : Int32} (hi : Inv c μ) (hc : c + 200 < 2 ^ 20) : Sim (c + 200) μ (wp_Host_run a) (wp_Mod_run a) := by
  have hno : (a < 0 ∨ ¬ a ≤ (200 : Int32)) → Sim (c + 200) μ (wp_Host_run a) (wp_Mod_run a) := by
    intro ho
    have hgt : ¬ a ≤ (200 : Int32) → (200 : Int32) < a := fun h => by
      rw [Int32.lt_iff_toInt_lt]
      rw [Int32.le_iff_toInt_le] at h
      omega
    refine ⟨cG μ 4, μ, fun Q hq => ⟨fun _ => hq, fun h => ⟨fun _ => hq, fun h2 => ?_⟩⟩, refEq.rf, hi.mono (by omega), fun μr hr => ⟨μr, fun Q hq => ?_, clsEq.rf, hr⟩⟩
    · exact absurd (hgt (ho.resolve_left h)) h2
    · rw [hr.1.2.2] at hq
      exact ⟨fun _ => hq, fun h => ⟨fun h2 => absurd h2 (ho.resolve_left h), fun _ => hq⟩⟩
  by_cases h0 : a < 0
  · exact hno (Or.inl h0)
  by_cases h2 : a ≤ (200 : Int32)
  · obtain ⟨nn, hnn, rfl⟩ := nI_of2 (M := 200) (n := 200) (by decide) h0 h2
    obtain ⟨μ1, b1, b2, b3, b4⟩ := run_loop hnn nn 0 c μ (by omega) (by omega) hi
    refine ⟨cG μ1 4, μ1, fun Q hq => ⟨fun h => absurd h h0, fun _ => ⟨fun h => absurd h (nI_nlt (a := 200) hnn (by omega)), fun _ => ⟨nn + 1, b1 _ _ hq⟩⟩⟩, b2, b3.mono (by omega), fun μr hr => ?_⟩
    obtain ⟨μ2, c1, c2, c3⟩ := b4 μr hr
    refine ⟨μ2, fun Q hq => ⟨fun h => absurd h h0, fun _ => ⟨fun _ => ⟨nn + 1, c1 _ _ ?_⟩, fun h => absurd h2 h⟩⟩, c2, c3⟩
    rw [c3.1.2.2] at hq; exact hq
  · exact hno (Or.inr h2)
