/-! The call seal, in both. -/
theorem rV_rM {μ : Mu} {p : Nat} {S : Nat → Nat} : rV (rM μ p S) p = ((rV μ p).1, fun k i => if k = 94 ∧ i < 24 then nI (S i) else (rV μ p).2 k i) := by
  refine Prod.ext (funext fun a => ?_) (funext fun a => funext fun b => ?_)
  · show (if isS a = true then (rM μ p S).2.1 a p else 0) = if isS a = true then μ.2.1 a p else 0
    by_cases ha : isS a = true
    · rw [if_pos ha, if_pos ha, rM_o (fun e => by rw [e] at ha; exact absurd ha (by decide))]
    · rw [if_neg ha, if_neg ha]
  · show (if b < wd a then (rM μ p S).2.1 a (wd a * p + b) else 0) = if a = 94 ∧ b < 24 then nI (S b) else if b < wd a then μ.2.1 a (wd a * p + b) else 0
    by_cases ha : a = 94
    · subst ha
      rw [show wd 94 = 24 from rfl]
      by_cases hb : b < 24
      · rw [if_pos hb, if_pos (show 94 = 94 ∧ b < 24 from ⟨rfl, hb⟩)]; exact rM_S hb
      · rw [if_neg hb, if_neg (show ¬ (94 = 94 ∧ b < 24) from fun e => hb e.2), if_neg hb]
    · rw [if_neg (show ¬ (a = 94 ∧ b < 24) from fun e => ha e.1), rM_o ha]
theorem rV_rMn {μ : Mu} {p t : Nat} {S : Nat → Nat} (h : t ≠ p) : rV (rM μ p S) t = rV μ t := by
  refine Prod.ext (funext fun a => ?_) (funext fun a => funext fun b => ?_)
  · show (if isS a = true then (rM μ p S).2.1 a t else 0) = if isS a = true then μ.2.1 a t else 0
    by_cases ha : isS a = true
    · rw [if_pos ha, if_pos ha, rM_o (fun e => by rw [e] at ha; exact absurd ha (by decide))]
    · rw [if_neg ha, if_neg ha]
  · show (if b < wd a then (rM μ p S).2.1 a (wd a * t + b) else 0) = if b < wd a then μ.2.1 a (wd a * t + b) else 0
    by_cases hb : b < wd a
    · rw [if_pos hb, if_pos hb]
      by_cases ha : a = 94
      · subst ha
        have hb : b < 24 := hb
        rw [show wd 94 = 24 from rfl]
        exact if_neg (show ¬ (94 = 94 ∧ 24 * p ≤ 24 * t + b ∧ 24 * t + b < 24 * p + 24) by omega)
      · exact rM_o ha
    · rw [if_neg hb, if_neg hb]
theorem sim_seal {c : Nat} {μ : Mu} {a : Int32} (hi : Inv c μ) : Sim c μ (wp_Host_seal a) (wp_Mod_seal a) := by
  rcases arg4 a with hb | ⟨p, hp, rfl⟩
  · exact Sim.get hi 0 (fun Q hq => prg_bad hb ⟨fun _ => hq, fun h => absurd rfl h⟩) (fun μr _ Q hq => fou_bad hb ⟨fun _ => hq, fun h => absurd rfl h⟩)
  have hre : ∀ μr, R2 μ μr → μr.2.1 96 p = μ.1 (3 + 5 * p) 6 := fun μr hr => by
    rw [rVs (k := 96) rfl, ← (hr.2.2 p hp).2.1]; rfl
  obtain ⟨len, sc, s, -, -, -, -, hPr, -⟩ := id hi
  obtain ⟨n, hn, hne, h01, hops, -⟩ := hPr p hp
  have hce : μ.1 (3 + 5 * p) 5 = nI n := hne
  have hrn : ∀ μr, R2 μ μr → μr.2.1 95 p = nI n := fun μr hr => by
    rw [rVs (k := 95) rfl, ← (hr.2.2 p hp).1]; exact hne
  by_cases h0 : μ.1 (3 + 5 * p) 6 = 0
  · have q0 : ∀ i, μ.2.1 (4 + 5 * p) i = (cP μ p).2 0 i := fun i => cPA (by omega) (by omega)
    have q1 : ∀ i, μ.2.1 (5 + 5 * p) i = (cP μ p).2 1 i := fun i => cPA (by omega) (by omega)
    have hpl : ∀ i, i < n → Pl μ p (fun i => (μ.2.1 (4 + 5 * p) i).toNatClampNeg) (fun i => (μ.2.1 (5 + 5 * p) i).toNatClampNeg) i := fun i hi2 => by
      obtain ⟨op, ho, e1, e2⟩ := hops i hi2
      rw [← q0] at e1
      rw [← q1] at e2
      have e3 : (μ.2.1 (4 + 5 * p) i).toNatClampNeg = op := by rw [e1, nI_clamp (by omega)]
      refine ⟨?_, ?_, ?_, rfl⟩
      · show (μ.2.1 (4 + 5 * p) i).toNatClampNeg < 25; rw [e3]; omega
      · show μ.2.1 (4 + 5 * p) i = nI (μ.2.1 (4 + 5 * p) i).toNatClampNeg; rw [e3]; exact e1
      · show gA2 (μ.2.1 (4 + 5 * p) i).toNatClampNeg _; rw [e3]; exact e2
    obtain ⟨x, S, r, m, hA, hw⟩ := sound_ok hpl hn hce
    generalize ho : (fun i => (μ.2.1 (4 + 5 * p) i).toNatClampNeg) = o at *
    generalize hg : (fun i => (μ.2.1 (5 + 5 * p) i).toNatClampNeg) = g at *
    have hx : nI x = 0 ∨ nI x = 1 := by
      rcases hA with ⟨rfl, -⟩ | ⟨rfl, -⟩
      · exact Or.inr rfl
      · exact Or.inl rfl
    have hG : cG (setF (cM μ p S r m) (3 + 5 * p) 6 (nI x)) = cG μ := by
      rw [cG_F (by omega)]
      funext j
      exact if_neg (fun e => by omega)
    have hT : ∀ t, t < 4 → cT (setF (cM μ p S r m) (3 + 5 * p) 6 (nI x)) t = cT μ t := fun t ht => by
      rw [cT_Fo (by omega) ht]
      refine Prod.ext (funext fun a => funext fun b => ?_) (Prod.ext (funext fun a => funext fun b => ?_) rfl)
      · show (if a < 17 then (cM μ p S r m).1 (23 + a + 17 * t) b else 0) = if a < 17 then μ.1 (23 + a + 17 * t) b else 0
        rw [show (cM μ p S r m).1 (23 + a + 17 * t) b = μ.1 (23 + a + 17 * t) b from if_neg (fun e => by omega)]
      · show (if a < 17 then (cM μ p S r m).2.1 (23 + a + 17 * t) b else 0) = if a < 17 then μ.2.1 (23 + a + 17 * t) b else 0
        rw [cM_o (by omega) (by omega)]
    have hPn : ∀ q, q < 4 → q ≠ p → cP (setF (cM μ p S r m) (3 + 5 * p) 6 (nI x)) q = cP μ q := fun q _ h => by
      rw [cP_Fn (by omega)]
      refine Prod.ext (funext fun a => ?_) (funext fun a => funext fun b => ?_)
      · exact if_neg (fun e => by omega)
      · show (if a < 4 then (cM μ p S r m).2.1 (4 + a + 5 * q) b else 0) = if a < 4 then μ.2.1 (4 + a + 5 * q) b else 0
        by_cases ha : a < 4
        · rw [if_pos ha, if_pos ha, cM_o (by omega) (by omega)]
        · rw [if_neg ha, if_neg ha]
    have hrf : refEq μ (setF (cM μ p S r m) (3 + 5 * p) 6 (nI x)) := fun k hk => ⟨by
      funext j
      show (if k = 3 + 5 * p ∧ j = 6 then nI x else (cM μ p S r m).1 k j) = μ.1 k j
      rw [if_neg (fun e => by omega)]
      exact if_neg (fun e => by omega), by
      funext j
      show (cM μ p S r m).2.1 k j = μ.2.1 k j
      exact cM_o (by omega) (by omega)⟩
    have e5 : (cP (setF (cM μ p S r m) (3 + 5 * p) 6 (nI x)) p).1 5 = nI n := by
      rw [cP_F]
      exact (cM_5 (S := S) (r := r) (m := m)).trans hce
    have e6 : (cP (setF (cM μ p S r m) (3 + 5 * p) 6 (nI x)) p).1 6 = nI x := by
      rw [cP_F]; rfl
    have e20 : ∀ i, (cP (setF (cM μ p S r m) (3 + 5 * p) 6 (nI x)) p).2 0 i = (cP μ p).2 0 i := fun i => by
      rw [← q0]
      exact (cPA (μ := setF (cM μ p S r m) (3 + 5 * p) 6 (nI x)) (k := 4) (by omega) (by omega)).symm.trans (cM_o (S := S) (r := r) (m := m) (show 4 + 5 * p ≠ 6 + 5 * p by omega) (by omega))
    have e21 : ∀ i, (cP (setF (cM μ p S r m) (3 + 5 * p) 6 (nI x)) p).2 1 i = (cP μ p).2 1 i := fun i => by
      rw [← q1]
      exact (cPA (μ := setF (cM μ p S r m) (3 + 5 * p) 6 (nI x)) (k := 5) (by omega) (by omega)).symm.trans (cM_o (S := S) (r := r) (m := m) (show 5 + 5 * p ≠ 6 + 5 * p by omega) (by omega))
    have e22 : ∀ i, i < 24 → (cP (setF (cM μ p S r m) (3 + 5 * p) 6 (nI x)) p).2 2 i = nI (S i) := fun i hi2 =>
      (cPA (μ := setF (cM μ p S r m) (3 + 5 * p) 6 (nI x)) (k := 6) (by omega) (by omega)).symm.trans (cM_S (S := S) (r := r) (m := m) hi2)
    have h6 : (cP μ p).1 6 = 0 := h0
    refine ⟨nI x, setF (cM μ p S r m) (3 + 5 * p) 6 (nI x), fun Q hq => prg_ok hp ⟨fun h => absurd h z1, fun _ => ⟨in4 hp, ?_⟩⟩, hrf, hi.prg hG hT hPn (fun _ => ?_) (by rw [h6]; decide), fun μr hr => ?_⟩
    · rw [cl4 hp]
      refine ⟨fun _ => hw _ ⟨hx, fun μ3 e3 => ?_⟩, fun h => absurd h0 h⟩
      have e4 : μ3.1 (3 + 5 * p) 6 = nI x := by rw [e3]; exact if_pos ⟨rfl, rfl⟩
      rw [e4]
      subst e3
      refine ⟨hx, fun h => ?_, fun h => ?_⟩
      · rw [h] at hq ⊢; exact hq
      · rw [hx.resolve_left h] at hq ⊢; exact hq
    · refine ⟨n, hn, e5, by rw [e6]; exact hx, fun i hi2 => ?_, fun hs => ?_⟩
      · rw [e20, e21]; exact hops i hi2
      · rw [e6] at hs
        rcases hA with ⟨-, ⟨hn0, hS0, hcl⟩, -, hb⟩ | ⟨rfl, -⟩
        · refine ⟨hn0, by rw [e22 0 (by omega), hS0]; rfl, fun i hi2 hi0 => ?_⟩
          rw [e22 i (by omega)] at hi0
          have hSi : S i ≠ 0 := fun e => hi0 (by rw [e]; rfl)
          obtain ⟨d1, d2⟩ := decL_dec (S i) (hb i) hSi
          obtain ⟨c1, c2, c3⟩ := hcl i hi2 hSi
          obtain ⟨l', t1, t2, t3⟩ := af_ty c1
          have hgi : (cP (setF (cM μ p S r m) (3 + 5 * p) 6 (nI x)) p).2 1 i = μ.2.1 (5 + 5 * p) i := by rw [e21, q1]
          have hg2 : (μ.2.1 (5 + 5 * p) i).toNatClampNeg = g i := by rw [← hg]
          have t3 : nx o g i (S i) = codeL l' := t3
          refine ⟨decL 7 (S i), l', o i, d2, t2, by rw [e22 i (by omega), d1], by rw [e20, ← q0]; exact (hpl i hi2).2.1, ?_, fun hj => ?_, ?_⟩
          · rw [hgi, hg2]; exact t1
          · rw [hgi, hg2]
            obtain ⟨u1, u2⟩ := c2 hj
            exact ⟨u1, by rw [e22 _ (by omega), u2, t3]⟩
          · rcases c3 with h | h | ⟨u1, u2⟩
            · exact Or.inl h
            · exact Or.inr (Or.inl h)
            · exact Or.inr (Or.inr ⟨u1, by rw [e22 _ (by omega), u2, t3]⟩)
        · exact absurd hs (by decide)
    · have h95 := hrn μr hr
      have h96 : μr.2.1 96 p = 0 := (hre μr hr).trans h0
      by_cases hn0 : 0 < n
      · have hplr : ∀ i, i < n → PlR μr p o g i := fun i hi2 => by
          obtain ⟨f1, f2, f3, f4⟩ := hpl i hi2
          obtain ⟨w1, w2⟩ := (hr.2.2 p hp).2.2.1 i (by rw [hne, nI_clamp (by omega)]; exact hi2)
          have v0 : μr.2.1 92 (24 * p + i) = (rV μr p).2 92 i := rVa (k := 92) (show i < 24 by omega)
          have v1 : μr.2.1 93 (24 * p + i) = (rV μr p).2 93 i := rVa (k := 93) (show i < 24 by omega)
          rw [← w1, ← q0] at v0
          rw [← w2, ← q1] at v1
          unfold PlR
          rw [v0, v1]
          exact ⟨f1, f2, f3, f4⟩
        obtain ⟨y, S', hA', hw'⟩ := seal_ref hplr hp hn hn0 h95 h96
        obtain ⟨hxy, hSS⟩ := hA.eq hA'
        subst hxy
        have hV : rV (setA (rM μr p S') 96 p (nI x)) p = pF (rV (rM μr p S') p) 96 (nI x) := rV_s rfl rfl
        refine ⟨setA (rM μr p S') 96 p (nI x), hw', clsEq.A ⟨fun k hk => ⟨rfl, funext fun j => rM_o (by omega)⟩, rfl⟩ (by omega), hr.prg hG rfl (fun a ha1 ha2 => ?_) hT hPn (fun t _ h => (rV_sn h rfl).trans (rV_rMn h)) (fun h => ?_) (fun h => ?_)⟩
        · rw [rS_A (by omega)]
          funext k
          show (if k < 8 then (rM μr p S').2.1 a (96 + k) else 0) = if k < 8 then μr.2.1 a (96 + k) else 0
          rw [rM_o (by omega)]
        · rw [hV, rV_rM]; exact h
        · rw [hV, rV_rM]
          refine ⟨?_, e6, fun i hi2 => ?_, fun hs i hi2 => ?_⟩
          · rw [e5]; exact hne.symm.trans h.1
          · rw [e5, nI_clamp (by omega)] at hi2
            rw [e20, e21]
            exact h.2.2.1 i (by rw [hne, nI_clamp (by omega)]; exact hi2)
          · rw [e5, nI_clamp (by omega)] at hi2
            rw [e6] at hs
            have hx1 : x = 1 := by
              rcases hA with ⟨rfl, -⟩ | ⟨rfl, -⟩
              · rfl
              · exact absurd hs (by decide)
            rw [e22 i (by omega), hSS hx1 i hi2]
            exact (if_pos ⟨rfl, by omega⟩ : (if 94 = 94 ∧ i < 24 then nI (S' i) else (rV μr p).2 94 i) = nI (S' i)).symm
      · have hx0 : x = 0 := by
          rcases hA with ⟨-, h, -⟩ | ⟨rfl, -⟩
          · exact absurd h.1 hn0
          · rfl
        subst hx0
        have hnn : n = 0 := by omega
        subst hnn
        refine ⟨μr, fun Q hq => fou_ok hp ⟨fun h => absurd h z1, fun _ => ⟨in4 hp, ?_⟩⟩, clsEq.rf, hr.prg hG rfl (fun _ _ _ => rfl) hT hPn (fun _ _ _ => rfl) (fun h => h) (fun h => ?_)⟩
        · rw [cl4 hp, h96, h95]
          exact ⟨fun h => absurd rfl h, fun _ => ⟨in4 hp, fun h => absurd rfl h, fun _ => hq⟩⟩
        · refine ⟨?_, ?_, fun i hi2 => ?_, fun hs => ?_⟩
          · rw [e5]; exact hne.symm.trans h.1
          · rw [e6]; exact h6.symm.trans h.2.1
          · rw [e5, nI_clamp (by omega)] at hi2; omega
          · rw [e6] at hs; exact absurd hs (by decide)
  · refine Sim.get hi 0 (fun Q hq => prg_ok hp ⟨fun h => absurd h z1, fun _ => ⟨in4 hp, ?_⟩⟩) (fun μr hr Q hq => fou_ok hp ⟨fun h => absurd h z1, fun _ => ⟨in4 hp, fun h => hq, fun h => ?_⟩⟩)
    · rw [cl4 hp]
      exact ⟨fun h => absurd h h0, fun _ => ⟨fun _ => hq, fun h => absurd rfl h⟩⟩
    · rw [cl4 hp, hre μr hr] at h; exact absurd h h0
