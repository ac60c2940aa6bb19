/-! markLive, and the call live. -/
theorem mkc {g : Nat → Int32} {a : Int32} {P : Nat → Prop} (hg : ∀ x, x < 104 → (¬ g x = 0 ↔ P x)) (ha : okX a) : ∀ x, x < 104 → (¬ mk1 g a x = 0 ↔ P x ∨ a = nI x) := fun x hx => by rw [mk1_at hx ha, hg x hx]
theorem markLive_ok {k d m sc : Nat} {B : TB} {μ : Mu} (hk : k < 4) (h8 : sc ≤ 8) (hI : IT sc B) (hR : RT k B (rV μ k)) (hs : RSh sc B (rS μ)) (ed : B.1 6 2 = nI d) (hd : d ≤ 6) (em : B.1 10 1 = nI m) (hm : m ≤ 4)
    (hsh : d ≠ 0 → ∃ p pos, p < 4 ∧ pos < 24 ∧ μ.2.1 107 k = nI p ∧ μ.2.1 108 k = nI pos ∧ μ.2.1 94 (24 * p + pos) = nI (codeL (tys (B.2.1 8) d))) :
    ∃ g, (∀ c, c < 24 → (¬ g (24 * k + c) = 0 ↔ Rc B (rts B) (9 + c))) ∧ ∀ Q : Mu → Prop, Q (stM μ g) → wp_Mod_markLive (nI k) μ Q := by
  have cd : (B.1 6 2).toNatClampNeg = d := by rw [ed, nI_clamp (by omega)]
  have cm : (B.1 10 1).toNatClampNeg = m := by rw [em, nI_clamp (by omega)]
  have ck : (nI k).toNatClampNeg = k := cl4 hk
  have r112 : μ.2.1 112 k = nI d := by rw [rVs (k := 112) rfl, ← hR.2.1.2.2.1, ed]
  have r116 : μ.2.1 116 k = nI m := by rw [rVs (k := 116) rfl, ← hR.2.1.2.2.2.1, em]
  have l2 : ∃ r, okR sc B.2.2 r ∧ B.2.1 9 2 = nI r ∧ μ.2.1 114 (4 * k + 2) = enc k r := by
    obtain ⟨r, hr, e⟩ := hI.2.2.2.2.2.1.1
    have e1 : μ.2.1 114 (4 * k + 2) = (rV μ k).2 114 2 := rVa (k := 114) (show 2 < 4 by omega)
    have := okR_lt h8 hr
    refine ⟨r, hr, e, ?_⟩
    rw [e1, hR.2.2.2.1.2.2.1, e, nI_clamp (by omega)]
  have l3 : ∃ r, okR sc B.2.2 r ∧ B.2.1 9 3 = nI r ∧ μ.2.1 114 (4 * k + 3) = enc k r := by
    obtain ⟨r, hr, e⟩ := hI.2.2.2.2.2.1.2
    have e1 : μ.2.1 114 (4 * k + 3) = (rV μ k).2 114 3 := rVa (k := 114) (show 3 < 4 by omega)
    have := okR_lt h8 hr
    refine ⟨r, hr, e, ?_⟩
    rw [e1, hR.2.2.2.1.2.2.2, e, nI_clamp (by omega)]
  have lm : ∀ i, i < m → ∃ r, okR sc B.2.2 r ∧ B.2.1 11 i = nI r ∧ μ.2.1 115 (4 * k + i) = enc k r := by
    intro i hi
    obtain ⟨r, hr, e⟩ := hI.2.2.2.2.2.2.1 i (by rw [cm]; exact hi)
    have e1 : μ.2.1 115 (4 * k + i) = (rV μ k).2 115 i := rVa (k := 115) (show i < 4 by omega)
    have := okR_lt h8 hr
    refine ⟨r, hr, e, ?_⟩
    rw [e1, hR.2.2.2.2.2.1 i (by rw [cm]; exact hi), e, nI_clamp (by omega)]
  have ls : ∀ i, i < d → ¬ B.2.1 8 i = 0 → ∃ r, okR sc B.2.2 r ∧ B.2.1 7 i = nI r ∧ μ.2.1 113 (6 * k + i) = enc k r := by
    intro i hi h0
    obtain ⟨r, hr, e⟩ := ((hI.2.2.2.2.1 i (by rw [cd]; exact hi)).resolve_left h0).2
    have e1 : μ.2.1 113 (6 * k + i) = (rV μ k).2 113 i := rVa (k := 113) (show i < 6 by omega)
    have := okR_lt h8 hr
    refine ⟨r, hr, e, ?_⟩
    rw [e1, hR.2.2.2.2.1 i (by rw [cd]; exact hi), if_neg h0, e, nI_clamp (by omega)]
  -- the mail
  have mal : ∀ (n i : Nat) (g : Nat → Int32) (P : Nat → Prop), i + n = m → (∀ x, x < 104 → (¬ g x = 0 ↔ P x)) → ∃ g', (∀ x, x < 104 → (¬ g' x = 0 ↔ P x ∨ ∃ j, i ≤ j ∧ j < m ∧ μ.2.1 115 (4 * k + j) = nI x)) ∧ ∀ (K : Int32 → Mu → Prop) (Q : Mu → Prop), K (nI m) (stM μ g') → wp_Mod_markLive_50 (nI k) K Q (n + 1) (nI i) (stM μ g) := by
    intro n
    induction n with
    | zero =>
      intro i g P hi hg
      obtain rfl : i = m := by omega
      refine ⟨g, fun x hx => by rw [hg x hx]; exact ⟨Or.inl, fun h => h.elim id (fun ⟨j, h1, h2, _⟩ => by omega)⟩, fun K Q hq => ⟨in4 hk, fun _ => hq, fun h => absurd ?_ h⟩⟩
      rw [ck, stM_o (by decide), r116]; exact nI_le (Nat.le_refl _) (by omega)
    | succ n ih =>
      intro i g P hi hg
      obtain ⟨r, hr, -, er⟩ := lm i (by omega)
      have hok := enc_okX hk (okR_lt h8 hr)
      obtain ⟨g', hg', hgo⟩ := ih (i + 1) (mk1 g (enc k r)) (fun x => P x ∨ enc k r = nI x) (by omega) (mkc hg hok)
      refine ⟨g', fun x hx => ?_, fun K Q hq => ⟨in4 hk, fun h => ?_, fun _ => ⟨ix_le (w := 4) hk (by omega) rfl (by omega), ?_⟩⟩⟩
      · rw [hg' x hx]
        constructor
        · rintro ((h | h) | ⟨j, h1, h2⟩)
          · exact Or.inl h
          · exact Or.inr ⟨i, by omega, by omega, by rw [er]; exact h⟩
          · exact Or.inr ⟨j, by omega, h2⟩
        · rintro (h | ⟨j, h1, h2, h3⟩)
          · exact Or.inl (Or.inl h)
          · by_cases hj : j = i
            · subst hj; rw [er] at h3; exact Or.inl (Or.inr h3)
            · exact Or.inr ⟨j, by omega, h2, h3⟩
      · rw [ck, stM_o (by decide), r116] at h; exact absurd h (nI_ge (by omega) (by omega))
      · rw [show ((4 : Int32) * nI k + nI i).toNatClampNeg = 4 * k + i from ix_cl (w := 4) hk (by omega) (by omega), stM_o (by decide), er]
        refine markRoot_ok hok ?_
        rw [nI_1]
        exact hgo K Q hq
  -- the stack
  have stk : ∀ (e : Nat) (g : Nat → Int32) (P : Nat → Prop), e ≤ d → (∀ x, x < 104 → (¬ g x = 0 ↔ P x)) → ∃ g', (∀ x, x < 104 → (¬ g' x = 0 ↔ P x ∨ ∃ j, j < e ∧ ¬ B.2.1 8 j = 0 ∧ μ.2.1 113 (6 * k + j) = nI x)) ∧ ∀ (K : Int32 → Int32 → Mu → Prop) (Q : Mu → Prop), (∀ v2 v3, K v2 v3 (stM μ g')) → wp_Mod_markLive_124 (nI k) K Q (e + 1) (nI (codeL (tys (B.2.1 8) e))) (nI e - 1) (stM μ g) := by
    intro e
    induction e with
    | zero =>
      intro g P he hg
      exact ⟨g, fun x hx => by rw [hg x hx]; exact ⟨Or.inl, fun h => h.elim id (fun ⟨j, h1, _⟩ => by omega)⟩, fun K Q hq => ⟨fun _ => hq _ _, fun h => absurd (by decide) h⟩⟩
    | succ e ih =>
      intro g P he hg
      have hc : codeL (tys (B.2.1 8) (e + 1)) = 2 * codeL (tys (B.2.1 8) e) + (if (B.2.1 8 e != 0) = true then 1 else 0) := rfl
      have hlt := codeL_tys (ar := B.2.1 8) (d := e + 1) (by omega)
      have hv3 : nI (e + 1) - 1 = nI e := nI_pred e
      have hv3' : nI e + (-1) = nI e - 1 := by rw [Int32.sub_eq_add_neg]
      have hrem : nI (codeL (tys (B.2.1 8) (e + 1))) - nI (codeL (tys (B.2.1 8) (e + 1))) / (2 : Int32) * (2 : Int32) = nI (codeL (tys (B.2.1 8) (e + 1)) % 2) := pk_rem (d := 2) (by omega) (by decide) (by decide)
      have hdiv : nI (codeL (tys (B.2.1 8) (e + 1))) / (2 : Int32) = nI (codeL (tys (B.2.1 8) e)) := by
        rw [show (2 : Int32) = nI 2 from rfl, pk_div (by omega) (by decide) (by decide), hc]
        congr 1
        split <;> omega
      by_cases h0 : B.2.1 8 e = 0
      · have hz : codeL (tys (B.2.1 8) (e + 1)) % 2 = 0 := by rw [hc, if_neg (by simp [h0])]; omega
        obtain ⟨g', hg', hgo⟩ := ih g P (by omega) hg
        refine ⟨g', fun x hx => ?_, fun K Q hq => ⟨fun h => ?_, fun _ => ⟨fun _ => ?_, fun h => ?_⟩⟩⟩
        · rw [hg' x hx]
          constructor
          · rintro (h | ⟨j, h1, h2⟩)
            · exact Or.inl h
            · exact Or.inr ⟨j, by omega, h2⟩
          · rintro (h | ⟨j, h1, h2, h3⟩)
            · exact Or.inl h
            · by_cases hj : j = e
              · subst hj; exact absurd h0 h2
              · exact Or.inr ⟨j, by omega, h2, h3⟩
        · rw [hv3] at h; exact absurd h (nI_pos (by omega))
        · rw [hdiv, hv3, hv3']; exact hgo K Q hq
        · rw [hrem, hz] at h; exact absurd h (by decide)
      · have hz : codeL (tys (B.2.1 8) (e + 1)) % 2 = 1 := by rw [hc, if_pos (by simp [h0])]; omega
        obtain ⟨r, hr, -, er⟩ := ls e (by omega) h0
        have hok := enc_okX hk (okR_lt h8 hr)
        obtain ⟨g', hg', hgo⟩ := ih (mk1 g (enc k r)) (fun x => P x ∨ enc k r = nI x) (by omega) (mkc hg hok)
        refine ⟨g', fun x hx => ?_, fun K Q hq => ⟨fun h => ?_, fun _ => ⟨fun h => ?_, fun _ => ⟨?_, ?_⟩⟩⟩⟩
        · rw [hg' x hx]
          constructor
          · rintro ((h | h) | ⟨j, h1, h2⟩)
            · exact Or.inl h
            · exact Or.inr ⟨e, by omega, h0, by rw [er]; exact h⟩
            · exact Or.inr ⟨j, by omega, h2⟩
          · rintro (h | ⟨j, h1, h2, h3⟩)
            · exact Or.inl (Or.inl h)
            · by_cases hj : j = e
              · subst hj; rw [er] at h3; exact Or.inl (Or.inr h3)
              · exact Or.inr ⟨j, by omega, h2, h3⟩
        · rw [hv3] at h; exact absurd h (nI_pos (by omega))
        · rw [hrem, hz] at h; exact absurd rfl h
        · rw [hv3]; exact ix_le (w := 6) hk (by omega) rfl (by omega)
        · rw [hv3, show ((6 : Int32) * nI k + nI e).toNatClampNeg = 6 * k + e from ix_cl (w := 6) hk (by omega) (by omega), stM_o (by decide), er]
          refine markRoot_ok hok ?_
          rw [hdiv, hv3']
          exact hgo K Q hq
  obtain ⟨r2, o2, b2, e2⟩ := l2
  obtain ⟨r3, o3, b3, e3⟩ := l3
  have x2 := enc_okX hk (okR_lt h8 o2)
  have x3 := enc_okX hk (okR_lt h8 o3)
  obtain ⟨g0, hg0, go0⟩ := mark_clear (μ := μ) 104 0 (μ.2.1 101) (by omega) (fun x hx => absurd hx (by omega))
  have c0 : ∀ x, x < 104 → (¬ g0 x = 0 ↔ False) := fun x hx => ⟨fun h => h (hg0 x hx), False.elim⟩
  obtain ⟨g3, hg3, go3⟩ := mal m 0 (mk1 (mk1 g0 (enc k r2)) (enc k r3)) _ (by omega) (mkc (mkc c0 x2) x3)
  obtain ⟨g4, hg4, go4⟩ := stk d g3 _ (Nat.le_refl _) hg3
  obtain ⟨R1, R2'⟩ := Rm_iff (R := rts B) (X := fun x => ((((False ∨ enc k r2 = nI x) ∨ enc k r3 = nI x) ∨ ∃ j, 0 ≤ j ∧ j < m ∧ μ.2.1 115 (4 * k + j) = nI x) ∨ ∃ j, j < d ∧ ¬ B.2.1 8 j = 0 ∧ μ.2.1 113 (6 * k + j) = nI x)) hk h8 hI hR hs (fun y hy h => by
    have fin : ∀ r, okR sc B.2.2 r → rts B r → enc k r = nI y → ∃ r, okR sc B.2.2 r ∧ r ≠ 0 ∧ y = encN k r ∧ rts B r := fun r hr ht he => by
      obtain ⟨z1, z2⟩ := enc_inv hk (okR_lt h8 hr) hy he
      exact ⟨r, hr, z1, z2, ht⟩
    rcases h with (((h | h) | h) | ⟨j, -, hj, h⟩) | ⟨j, hj, hj0, h⟩
    · exact h.elim
    · exact fin r2 o2 (Or.inr (Or.inl (Or.inl b2))) h
    · exact fin r3 o3 (Or.inr (Or.inl (Or.inr b3))) h
    · obtain ⟨r, hr, eb, er⟩ := lm j hj
      exact fin r hr (Or.inr (Or.inr ⟨j, by rw [cm]; exact hj, eb⟩)) (by rw [← er]; exact h)
    · obtain ⟨r, hr, eb, er⟩ := ls j hj hj0
      exact fin r hr (Or.inl ⟨j, by rw [cd]; exact hj, hj0, eb⟩) (by rw [← er]; exact h)) (fun r hr h9 h33 => by
    refine ⟨okR_made h8 (rts_ok h8 hI h33 hr) h9, ?_⟩
    have hr0 : r ≠ 0 := by omega
    have eqr : ∀ q, okR sc B.2.2 q → ∀ v : Int32, v = nI q → v = nI r → q = r := fun q hq v h1 h2 => by
      have := okR_lt h8 hq
      exact (nI_eq (by omega) (by omega)).mp (h1.symm.trans h2)
    rcases hr with ⟨i, hi, h1, h2⟩ | (h | h) | ⟨i, hi, h2⟩
    · obtain ⟨q, hq, eb, er⟩ := ls i (by rw [cd] at hi; exact hi) h1
      obtain rfl := eqr q hq _ eb h2
      exact Or.inr ⟨i, by rw [cd] at hi; exact hi, h1, by rw [er, enc_N hr0]⟩
    · obtain rfl := eqr r2 o2 _ b2 h
      exact Or.inl (Or.inl (Or.inl (Or.inr (enc_N hr0))))
    · obtain rfl := eqr r3 o3 _ b3 h
      exact Or.inl (Or.inl (Or.inr (enc_N hr0)))
    · obtain ⟨q, hq, eb, er⟩ := lm i (by rw [cm] at hi; exact hi)
      obtain rfl := eqr q hq _ eb h2
      exact Or.inl (Or.inr ⟨i, by omega, by rw [cm] at hi; exact hi, by rw [er, enc_N hr0]⟩))
  obtain ⟨g5, hg5, go5⟩ := markAll_ok (μ := μ) (g := g4) hg4 (fun x hx h => by
    obtain ⟨-, r, a1, a2, a3, -⟩ := R1 x h
    exact Rm_okX hk h8 hI hR hs a1 a2 a3)
  refine ⟨g5, fun c hc => ?_, fun Q hq => ?_⟩
  · rw [hg5 _ (by omega), ← encN_own]
    refine ⟨fun h => ?_, R2' (9 + c)⟩
    obtain ⟨-, r, a1, a2, a3, a4⟩ := R1 _ h
    have hr := okR_lt h8 a1
    have : r = 9 + c := by
      unfold encN at a3
      rw [if_neg (by omega)] at a3
      split at a3 <;> omega
    subst this
    exact a4 (by omega)
  · refine ⟨105, ?_⟩
    rw [← stM_self μ]
    refine go0 _ _ _ ⟨3, ?_⟩
    have i2 : ((4 : Int32) * nI k + (2 : Int32)).toNatClampNeg = 4 * k + 2 := ix_cl (w := 4) (i := 2) hk (by omega) (by omega)
    have i3 : ((4 : Int32) * nI k + ((2 : Int32) + 1)).toNatClampNeg = 4 * k + 3 := ix_cl (w := 4) (i := 3) hk (by omega) (by omega)
    refine ⟨fun h => absurd h (by decide), fun _ => ⟨ix_le (w := 4) (i := 2) hk (by omega) rfl (by omega), ?_⟩⟩
    rw [i2, stM_o (by decide), e2]
    refine markRoot_ok x2 ⟨fun h => absurd h (by decide), fun _ => ⟨ix_le (w := 4) (i := 3) hk (by omega) rfl (by omega), ?_⟩⟩
    rw [i3, stM_o (by decide), e3]
    refine markRoot_ok x3 ⟨fun _ => ⟨m + 1, go3 _ _ ⟨in4 hk, fun h => ?_, fun h => ?_⟩⟩, fun h => absurd (by decide) h⟩
    · rw [ck, stM_o (by decide), r112] at h
      obtain ⟨p, pos, hp, hpos, e7, e8, e94⟩ := hsh (fun h0 => h (by rw [h0]; rfl))
      rw [ck, stM_o (by decide), stM_o (by decide), stM_o (by decide), e7, e8]
      refine ⟨in4 hk, in4 hk, ix_le (w := 24) hp hpos rfl (by omega), in4 hk, d + 1, ?_⟩
      rw [ck, stM_o (by decide), r112, show ((24 : Int32) * nI p + nI pos).toNatClampNeg = 24 * p + pos from ix_cl (w := 24) hp hpos (by omega), e94]
      exact go4 _ _ (fun _ _ => go5 _ hq)
    · rw [ck, stM_o (by decide), r112] at h
      have hd0 : d = 0 := Classical.byContradiction fun h0 => nI_ne0 (by omega) (by omega) h
      refine ⟨in4 hk, d + 1, ?_⟩
      rw [ck, stM_o (by decide), r112]
      have := go4 (fun v21 v22 μ23 => wp_Mod_markAll μ23 (fun μ24 => Q μ24)) Q (fun _ _ => go5 _ hq)
      subst hd0
      exact this
theorem rV_M {μ : Mu} {g : Nat → Int32} {t : Nat} : rV (stM μ g) t = rV μ t := by
  unfold rV
  refine Prod.ext (funext fun a => ?_) (funext fun a => funext fun b => ?_)
  · show (if isS a = true then (stM μ g).2.1 a t else 0) = if isS a = true then μ.2.1 a t else 0
    by_cases ha : a = 101
    · subst ha; rfl
    · rw [stM_o ha]
  · show (if b < wd a then (stM μ g).2.1 a (wd a * t + b) else 0) = if b < wd a then μ.2.1 a (wd a * t + b) else 0
    by_cases ha : a = 101
    · subst ha; rfl
    · rw [stM_o ha]
theorem rS_M {μ : Mu} {g : Nat → Int32} {a : Nat} (ha : a ≠ 101) : rS (stM μ g) a = rS μ a := by
  funext k
  unfold rS
  rw [stM_o ha]
theorem clsEq.G {μ μ1 : Mu} {k : Nat} {f : Nat → Int32} (h : clsEq μ μ1) (hk : 91 ≤ k) : clsEq μ (setG μ1 k f) := ⟨fun a ha => ⟨(h.1 a ha).1, (if_neg (by omega) : (setG μ1 k f).2.1 a = μ1.2.1 a).trans (h.1 a ha).2⟩, h.2⟩
theorem R2.mark {μ μr : Mu} {g : Nat → Int32} (h : R2 μ μr) : R2 μ (stM μr g) := by
  obtain ⟨h1, h2, h3⟩ := h
  refine ⟨h1, fun t ht => ⟨by rw [rV_M]; exact (h2 t ht).1, fun k hk => ?_⟩, fun p hp => by rw [rV_M]; exact h3 p hp⟩
  rw [rS_M (by decide), rS_M (by decide), rS_M (by decide)]
  exact (h2 t ht).2 k hk
/-- the shape that the reference looks at -/
theorem shape_at {c : Nat} {μ μr : Mu} (hi : Inv c μ) (hr : R2 μ μr) {t d : Nat} (ht : t < 4) (ed : (cT μ t).1 6 2 = nI d) (hd : d ≤ 6) :
    d ≠ 0 → ∃ p pos, p < 4 ∧ pos < 24 ∧ μr.2.1 107 t = nI p ∧ μr.2.1 108 t = nI pos ∧ μr.2.1 94 (24 * p + pos) = nI (codeL (tys ((cT μ t).2.1 8) d)) := by
  intro h0
  obtain ⟨len, sc, s, -, -, -, hT, hP, -⟩ := id hi
  have hal : (cT μ t).1 0 7 = 1 ∨ (cT μ t).1 0 7 = 2 := Classical.byContradiction fun h => by
    have := ((hT t ht).2.2 h).1
    rw [ed] at this
    exact nI_ne0 (by omega) (by omega) this
  obtain ⟨p, pos, n, hp, e8, e6, e5, hpos, e9, e2⟩ := (hT t ht).2.1 hal
  obtain ⟨n', hn', en', -⟩ := hP p hp
  have hRT := (hr.2.1 t ht).1
  have hRP := hr.2.2 p hp
  have cn : ((cP μ p).1 5).toNatClampNeg = n' := by rw [en', nI_clamp (by omega)]
  have hnn : pos < n' := by
    rw [e5] at en'
    have := (nI_eq (by omega) (by omega)).mp en'
    omega
  refine ⟨p, pos, hp, by omega, ?_, ?_, ?_⟩
  · rw [rVs (k := 107) rfl, ← hRT.1.2.1, e8]
  · rw [rVs (k := 108) rfl, ← hRT.1.2.2.1, e9]
  · have e1 : μr.2.1 94 (24 * p + pos) = (rV μr p).2 94 pos := rVa (k := 94) (show pos < 24 by omega)
    rw [e1, ← hRP.2.2.2 e6 pos (by rw [cn]; exact hnn), e2, ed, nI_clamp (by omega)]
