/-! The roots, as the reference marks them; live. -/
theorem enc_inv {k r y : Nat} (hk : k < 4) (hr : r < 33) (hy : y < 104) (h : enc k r = nI y) : r ≠ 0 ∧ y = encN k r := by
  by_cases h0 : r = 0
  · subst h0
    rw [enc_0] at h
    exact absurd (by decide : (-1 : Int32) < 0) (by rw [h]; exact nI_pos (by omega))
  · rw [enc_N h0] at h
    have := encN_lt hk hr
    exact ⟨h0, ((nI_eq (by omega) (by omega)).mp h).symm⟩
theorem enc_okX {k r : Nat} (hk : k < 4) (hr : r < 33) : okX (enc k r) := by
  by_cases h0 : r = 0
  · subst h0; rw [enc_0]; exact Or.inl (by decide)
  · rw [enc_N h0]; exact Or.inr ⟨_, encN_lt hk hr, rfl⟩
theorem encN_own {k c : Nat} : encN k (9 + c) = 24 * k + c := by
  unfold encN
  rw [if_neg (by omega)]
  omega
/-- a cell that is there, in both -/
theorem cellB {t sc r : Nat} {B : TB} {μr : Mu} (ht : t < 4) (hsc : sc ≤ 8) (hR : RT t B (rV μr t)) (hS : RSh sc B (rS μr)) (hk : okR sc B.2.2 r) (h0 : r ≠ 0) :
    μr.2.1 98 (encN t r) = B.2.1 2 r ∧ μr.2.1 99 (encN t r) = enc t (B.2.1 3 r).toNatClampNeg ∧ μr.2.1 100 (encN t r) = enc t (B.2.1 4 r).toNatClampNeg := by
  rcases hk with h | ⟨h1, h2⟩ | ⟨h1, h2, h3⟩
  · exact absurd h h0
  · have hs := hS (r - 1) (by omega)
    have hS : ∀ x, rS μr x (r - 1) = μr.2.1 x (96 + (r - 1)) := fun x => if_pos (by omega)
    have he : encN t r = 96 + (r - 1) := by
      unfold encN
      rw [if_pos (by omega)]
      omega
    have h1r : 1 + (r - 1) = r := by omega
    rw [hS, hS, hS, h1r] at hs
    rw [he]
    obtain ⟨a1, ⟨a, ha, ha1, ha2⟩, b, hb, hb1, hb2⟩ := hs
    refine ⟨a1.symm, ?_, ?_⟩
    · rw [ha1, nI_clamp (by omega), ha2]; exact enc_lo (by omega)
    · rw [hb1, nI_clamp (by omega), hb2]; exact enc_lo (by omega)
  · have he : encN t r = 24 * t + (r - 9) := by
      unfold encN
      rw [if_neg (by omega)]
    have h9 : 9 + (r - 9) = r := by omega
    have hc := hR.2.2.2.2.2.2.2.2.2 (r - 9) (by omega) (by rw [h9]; exact h3)
    rw [h9] at hc
    have e98 : μr.2.1 98 (24 * t + (r - 9)) = (rV μr t).2 98 (r - 9) := rVa (k := 98) (show r - 9 < 24 by omega)
    have e99 : μr.2.1 99 (24 * t + (r - 9)) = (rV μr t).2 99 (r - 9) := rVa (k := 99) (show r - 9 < 24 by omega)
    have e100 : μr.2.1 100 (24 * t + (r - 9)) = (rV μr t).2 100 (r - 9) := rVa (k := 100) (show r - 9 < 24 by omega)
    rw [he, e98, e99, e100]
    exact hc
/-- where a cell leads to; a shared one leads to shared ones -/
theorem cellL {sc r : Nat} {B : TB} (h8 : sc ≤ 8) (hI : IT sc B) (hk : okR sc B.2.2 r) (h0 : r ≠ 0) : (∃ a, okR sc B.2.2 a ∧ B.2.1 3 r = nI a ∧ (r < 9 → a < 9)) ∧ ∃ a, okR sc B.2.2 a ∧ B.2.1 4 r = nI a ∧ (r < 9 → a < 9) := by
  obtain ⟨⟨a, ha, ea⟩, b, hb, eb⟩ := cell_cls hI hk h0
  have ka := okR_lt h8 ha
  have kb := okR_lt h8 hb
  refine ⟨⟨a, ha, ea, fun h9 => ?_⟩, b, hb, eb, fun h9 => ?_⟩
  · rcases hk with h | h | h
    · exact absurd h h0
    · obtain ⟨⟨q, hq, eq⟩, -⟩ := hI.2.2.2.2.2.2.2.2.1.2 (r - 1) (by omega)
      rw [show 1 + (r - 1) = r by omega] at eq
      have := (nI_eq (by omega) (by omega)).mp (ea.symm.trans eq)
      omega
    · omega
  · rcases hk with h | h | h
    · exact absurd h h0
    · obtain ⟨-, q, hq, eq⟩ := hI.2.2.2.2.2.2.2.2.1.2 (r - 1) (by omega)
      rw [show 1 + (r - 1) = r by omega] at eq
      have := (nI_eq (by omega) (by omega)).mp (eb.symm.trans eq)
      omega
    · omega
theorem okR_made {sc r : Nat} {m : Int64} (h8 : sc ≤ 8) (h : okR sc m r) (h9 : 9 ≤ r) : tb m r = true := by
  rcases h with h | h | h
  · omega
  · omega
  · exact h.2.2
theorem rts_ok {sc x : Nat} {B : TB} (h8 : sc ≤ 8) (hI : IT sc B) (hx : x < 33) (h : rts B x) : okR sc B.2.2 x := by
  have hok : ∀ v, isR sc B.2.2 v → v = nI x → okR sc B.2.2 x := by
    rintro v ⟨q, hq, eq⟩ ev
    have hq33 := okR_lt h8 hq
    obtain rfl : q = x := (nI_eq (by omega) (by omega)).mp (eq.symm.trans ev)
    exact hq
  rcases h with ⟨i, hi, h1, h2⟩ | (h | h) | ⟨i, hi, h2⟩
  · exact hok _ ((hI.2.2.2.2.1 i hi).resolve_left h1).2 h2
  · exact hok _ hI.2.2.2.2.2.1.1 h
  · exact hok _ hI.2.2.2.2.2.1.2 h
  · exact hok _ (hI.2.2.2.2.2.2.1 i hi) h2
/-- what is reached from good roots has been made -/
theorem Rc_madeR {sc : Nat} {B : TB} {R : Nat → Prop} (h8 : sc ≤ 8) (hI : IT sc B) (hR : ∀ x, R x → 9 ≤ x → x < 33 → tb B.2.2 x = true) {x : Nat} (hx : Rc B R x) : tb B.2.2 x = true := by
  refine hx (fun x => tb B.2.2 x = true) hR (fun y z hy he h9 h33 => ?_)
  obtain ⟨-, -, ⟨a, ha, ea⟩, b, hb, eb⟩ := hI.2.2.2.2.2.2.2.1 y hy
  have ka := okR_lt h8 ha
  have kb := okR_lt h8 hb
  rcases he with he | he
  · obtain rfl := (nI_eq (by omega) (by omega)).mp (ea.symm.trans he)
    exact okR_made h8 ha h9
  · obtain rfl := (nI_eq (by omega) (by omega)).mp (eb.symm.trans he)
    exact okR_made h8 hb h9
theorem Rc_made {sc : Nat} {B : TB} (h8 : sc ≤ 8) (hI : IT sc B) {x : Nat} (hx : Rc B (rts B) x) : tb B.2.2 x = true :=
  Rc_madeR h8 hI (fun _ h h9 h33 => okR_made h8 (rts_ok h8 hI h33 h) h9) hx
theorem made_ok {sc r : Nat} {B : TB} (hI : IT sc B) (h : tb B.2.2 r = true) : okR sc B.2.2 r := by
  obtain ⟨h1, h2, -⟩ := hI.2.2.2.2.2.2.2.1 r h
  exact Or.inr (Or.inr ⟨h1, h2, h⟩)
/-- reached in the reference, from roots of tenant k, and reached in the class -/
theorem Rm_iff {k sc : Nat} {B : TB} {μ : Mu} {R X : Nat → Prop} (hk : k < 4) (h8 : sc ≤ 8) (hI : IT sc B) (hR : RT k B (rV μ k)) (hs : RSh sc B (rS μ))
    (hX1 : ∀ y, y < 104 → X y → ∃ r, okR sc B.2.2 r ∧ r ≠ 0 ∧ y = encN k r ∧ R r) (hX2 : ∀ r, R r → 9 ≤ r → r < 33 → tb B.2.2 r = true ∧ X (encN k r)) :
    (∀ y, Rm μ X y → y < 104 ∧ ∃ r, okR sc B.2.2 r ∧ r ≠ 0 ∧ y = encN k r ∧ (9 ≤ r → Rc B R r)) ∧ (∀ r, Rc B R r → Rm μ X (encN k r)) := by
  refine ⟨fun y hy => hy (fun y => y < 104 ∧ ∃ r, okR sc B.2.2 r ∧ r ≠ 0 ∧ y = encN k r ∧ (9 ≤ r → Rc B R r)) (fun x hx h104 => ?_) (fun x y hx he h104 => ?_), fun r hr => ?_⟩
  · obtain ⟨r, h1, h2, h3, h4⟩ := hX1 x h104 hx
    exact ⟨h104, r, h1, h2, h3, fun h9 => Rc.root h4 h9 (okR_lt h8 h1)⟩
  · obtain ⟨-, r, h1, h2, rfl, h4⟩ := hx
    obtain ⟨-, c2, c3⟩ := cellB hk h8 hR hs h1 h2
    obtain ⟨⟨a, ha, ea, ga⟩, b, hb, eb, gb⟩ := cellL h8 hI h1 h2
    have ka := okR_lt h8 ha
    have kb := okR_lt h8 hb
    rw [c2, c3, ea, eb, nI_clamp (by omega), nI_clamp (by omega)] at he
    rcases he with he | he
    · obtain ⟨z0, zy⟩ := enc_inv hk ka h104 he
      exact ⟨h104, a, ha, z0, zy, fun h9 => (h4 (by omega)).next (Or.inl ea) h9 ka⟩
    · obtain ⟨z0, zy⟩ := enc_inv hk kb h104 he
      exact ⟨h104, b, hb, z0, zy, fun h9 => (h4 (by omega)).next (Or.inr eb) h9 kb⟩
  · have := hr (fun r => r < 33 ∧ tb B.2.2 r = true ∧ Rm μ X (encN k r)) (fun x hx h9 h33 => ⟨h33, (hX2 x hx h9 h33).1, Rm.root (hX2 x hx h9 h33).2 (encN_lt hk h33)⟩) (fun x y hx he h9 h33 => ?_)
    · exact this.2.2
    · obtain ⟨x33, hm, hRm⟩ := hx
      have hx0 : x ≠ 0 := by
        have := (hI.2.2.2.2.2.2.2.1 x hm).1
        omega
      have hok := made_ok hI hm
      obtain ⟨-, c2, c3⟩ := cellB hk h8 hR hs hok hx0
      have hy0 : y ≠ 0 := by omega
      obtain ⟨⟨a, ha, ea, ga⟩, b, hb, eb, gb⟩ := cellL h8 hI hok hx0
      have ka := okR_lt h8 ha
      have kb := okR_lt h8 hb
      rcases he with he | he
      · obtain rfl := (nI_eq (by omega) (by omega)).mp (ea.symm.trans he)
        refine ⟨h33, okR_made h8 ha h9, hRm.next (Or.inl ?_) (encN_lt hk h33)⟩
        rw [c2, ea, nI_clamp (by omega), enc_N hy0]
      · obtain rfl := (nI_eq (by omega) (by omega)).mp (eb.symm.trans he)
        refine ⟨h33, okR_made h8 hb h9, hRm.next (Or.inr ?_) (encN_lt hk h33)⟩
        rw [c3, eb, nI_clamp (by omega), enc_N hy0]
theorem Rm_okX {k sc : Nat} {B : TB} {μ : Mu} (hk : k < 4) (h8 : sc ≤ 8) (hI : IT sc B) (hR : RT k B (rV μ k)) (hs : RSh sc B (rS μ)) {x r : Nat} (h1 : okR sc B.2.2 r) (h2 : r ≠ 0) (hx : x = encN k r) : okX (μ.2.1 99 x) ∧ okX (μ.2.1 100 x) := by
  subst hx
  obtain ⟨-, c2, c3⟩ := cellB hk h8 hR hs h1 h2
  obtain ⟨⟨a, ha, ea, ga⟩, b, hb, eb, gb⟩ := cellL h8 hI h1 h2
  have ka := okR_lt h8 ha
  have kb := okR_lt h8 hb
  rw [c2, c3, ea, eb, nI_clamp (by omega), nI_clamp (by omega)]
  exact ⟨enc_okX hk ka, enc_okX hk kb⟩
theorem mark_clear {μ : Mu} : ∀ (m i : Nat) (g : Nat → Int32), i + m = 104 → (∀ x, x < i → g x = 0) → ∃ g', (∀ x, x < 104 → g' x = 0) ∧ ∀ (w1 : Int32) (K : Int32 → Mu → Prop) (Q : Mu → Prop), K (nI 104) (stM μ g') → wp_Mod_markLive_2 w1 K Q (m + 1) (nI i) (stM μ g) := by
  intro m
  induction m with
  | zero =>
    intro i g hi hg
    obtain rfl : i = 104 := by omega
    exact ⟨g, hg, fun w1 K Q hq => ⟨fun _ => hq, fun h => absurd (by decide) h⟩⟩
  | succ m ih =>
    intro i g hi hg
    obtain ⟨g', h1, h2⟩ := ih (i + 1) (upd g i 0) (by omega) (fun x hx => by
      by_cases h : x = i
      · subst h; exact pk_us
      · rw [pk_un h]; exact hg x (by omega))
    refine ⟨g', h1, fun w1 K Q hq => ⟨fun h => absurd h (nI_ge (b := 104) (by omega) (by decide)), fun _ => ⟨vp_in_nI (by omega) (by decide), fun μ2 e2 => ?_⟩⟩⟩
    rw [nI_clamp (by omega), stM_A] at e2
    rw [e2, nI_1]
    exact h2 w1 K Q hq
theorem codeL_lt : ∀ l : List Bool, 0 < codeL l ∧ codeL l < 2 ^ (l.length + 1)
  | [] => by decide
  | b :: l => by
    have := codeL_lt l
    show 0 < 2 * codeL l + (if b then 1 else 0) ∧ 2 * codeL l + (if b then 1 else 0) < 2 ^ (l.length + 1 + 1)
    rw [Nat.pow_succ]
    cases b <;> simp <;> omega
theorem tys_len (ar : Nat → Int32) : ∀ d, (tys ar d).length = d
  | 0 => rfl
  | d + 1 => by
    show (tys ar d).length + 1 = d + 1
    rw [tys_len ar d]
theorem codeL_tys {ar : Nat → Int32} {d : Nat} (h : d ≤ 6) : codeL (tys ar d) < 128 := by
  have := (codeL_lt (tys ar d)).2
  rw [tys_len] at this
  have h2 : 2 ^ (d + 1) ≤ 2 ^ 7 := Nat.pow_le_pow_right (by omega) (by omega)
  omega
