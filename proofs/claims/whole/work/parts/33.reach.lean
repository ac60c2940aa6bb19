/-! What is reached, in the class. -/
/-- the least set of own cells that has the roots and goes along with lefts and rights -/
def Rc (B : TB) (R : Nat → Prop) (r : Nat) : Prop := ∀ S : Nat → Prop, (∀ x, R x → 9 ≤ x → x < 33 → S x) → (∀ x y, S x → (B.2.1 3 x = nI y ∨ B.2.1 4 x = nI y) → 9 ≤ y → y < 33 → S y) → S r
theorem Rc.root {B : TB} {R : Nat → Prop} {x : Nat} (h : R x) (h1 : 9 ≤ x) (h2 : x < 33) : Rc B R x := fun _ hr _ => hr x h h1 h2
theorem Rc.next {B : TB} {R : Nat → Prop} {x y : Nat} (h : Rc B R x) (he : B.2.1 3 x = nI y ∨ B.2.1 4 x = nI y) (h1 : 9 ≤ y) (h2 : y < 33) : Rc B R y := fun S hr hn => hn x y (h S hr hn) he h1 h2
theorem Rc.own {B : TB} {R : Nat → Prop} {r : Nat} (h : Rc B R r) : 9 ≤ r ∧ r < 33 := h (fun r => 9 ≤ r ∧ r < 33) (fun _ _ h1 h2 => ⟨h1, h2⟩) (fun _ _ _ _ h1 h2 => ⟨h1, h2⟩)
theorem cnt_mono {f g : Nat → Bool} (h : ∀ c, f c = true → g c = true) : ∀ n, cnt f n ≤ cnt g n
  | 0 => Nat.le_refl 0
  | n + 1 => by
    have := cnt_mono h n
    unfold cnt
    by_cases hf : f n = true
    · rw [if_pos hf, if_pos (h n hf)]; omega
    · rw [if_neg hf]; omega
theorem cnt_lt {f g : Nat → Bool} (h : ∀ c, f c = true → g c = true) : ∀ {n c : Nat}, c < n → f c = false → g c = true → cnt f n < cnt g n
  | 0, c, hc, _, _ => by omega
  | n + 1, c, hc, h1, h2 => by
    by_cases hn : c = n
    · subst hn
      have := cnt_mono h c
      unfold cnt
      rw [if_neg (by simp [h1]), if_pos h2]; omega
    · have := cnt_lt h (show c < n by omega) h1 h2
      unfold cnt
      by_cases hf : f n = true
      · rw [if_pos hf, if_pos (h n hf)]; omega
      · rw [if_neg hf]; omega
/-- only own cells -/
def ownS (m : Int64) : Prop := ∀ r, tb m r = true → 9 ≤ r ∧ r < 33
theorem ownS_and (m : Int64) : ownS (m &&& 8589934080) := fun r h => by
  rw [tb_and, tb_own, Bool.and_eq_true] at h
  exact of_decide_eq_true h.2
theorem pass_ok {t : Nat} {μ : Mu} {R : Nat → Prop} {v5 : Int64} (hlr : ∀ x, Rc (cT μ t) R x → (∃ a, a < 33 ∧ (cT μ t).2.1 3 x = nI a) ∧ ∃ a, a < 33 ∧ (cT μ t).2.1 4 x = nI a) :
    ∀ (m k : Nat) (f : Int64), k + m = 33 → 9 ≤ k → ownS f → (∀ r, tb v5 r = true → tb f r = true) → (∀ r, tb f r = true → Rc (cT μ t) R r) → (∀ x y, x < k → tb v5 x = true → ((cT μ t).2.1 3 x = nI y ∨ (cT μ t).2.1 4 x = nI y) → 9 ≤ y → y < 33 → tb f y = true) →
      ∃ f', (ownS f' ∧ (∀ r, tb v5 r = true → tb f' r = true) ∧ (∀ r, tb f' r = true → Rc (cT μ t) R r) ∧ (∀ x y, tb v5 x = true → ((cT μ t).2.1 3 x = nI y ∨ (cT μ t).2.1 4 x = nI y) → 9 ≤ y → y < 33 → tb f' y = true)) ∧ ∀ (w5 : Int64) (w7 : Int32) (K : Int64 → Int32 → Mu → Prop) (Q : Int64 → Mu → Prop), K f' (nI 33) μ → wp_Heap_reachedFrom_33 t w5 w7 K Q (m + 1) f (nI k) μ := by
  intro m
  induction m with
  | zero =>
    intro k f hk h9 h1 h2 h3 h4
    obtain rfl : k = 33 := by omega
    exact ⟨f, ⟨h1, h2, h3, fun x y hx => h4 x y (h1 x (h2 x hx)).2 hx⟩, fun w5 w7 K Q hq => ⟨fun _ => hq, fun h => absurd (by decide) h⟩⟩
  | succ m ih =>
    intro k f hk h9 h1 h2 h3 h4
    have hn : nI k + 1 = nI (k + 1) := nI_1 k
    have hcl : (nI k).toNatClampNeg = k := nI_clamp (by omega)
    have h33 : ¬ (33 : Int32) ≤ nI k := nI_ge (b := 33) (by omega) (by decide)
    cases hb : tb f k with
    | false =>
      obtain ⟨f', hp, hgo⟩ := ih (k + 1) f (by omega) (by omega) h1 h2 h3 (fun x y hx hv => by
        by_cases hxk : x = k
        · subst hxk
          rw [h2 x hv] at hb; cases hb
        · exact h4 x y (by omega) hv)
      refine ⟨f', hp, fun w5 w7 K Q hq => ⟨fun h => absurd h h33, fun _ => isin_no (by omega) hb ⟨fun _ => ?_, fun h => absurd rfl h⟩⟩⟩
      rw [hn]
      exact hgo w5 w7 K Q hq
    | true =>
      obtain ⟨⟨a, ha, ea⟩, b, hb2, eb⟩ := hlr k (h3 k hb)
      have e3 : μ.2.1 (26 + 17 * t) (nI k).toNatClampNeg = nI a := by rw [hcl, cTA (by omega) (by omega)]; exact ea
      have e4 : μ.2.1 (27 + 17 * t) (nI k).toNatClampNeg = nI b := by rw [hcl, cTA (by omega) (by omega)]; exact eb
      have hbit : ∀ r, tb (f ||| ((one a ||| one b) &&& 8589934080)) r = true ↔ tb f r = true ∨ ((r = a ∨ r = b) ∧ 9 ≤ r ∧ r < 33) := by
        intro r
        rw [tb_or, tb_and, tb_or, tb_one (by omega), tb_one (by omega), tb_own]
        simp [Bool.or_eq_true, Bool.and_eq_true]
      obtain ⟨f', hp, hgo⟩ := ih (k + 1) (f ||| ((one a ||| one b) &&& 8589934080)) (by omega) (by omega) (fun r hr => by
          rcases (hbit r).mp hr with h | h
          · exact h1 r h
          · exact h.2) (fun r hr => (hbit r).mpr (Or.inl (h2 r hr))) (fun r hr => by
          rcases (hbit r).mp hr with h | ⟨h | h, h5, h6⟩
          · exact h3 r h
          · exact (h3 k hb).next (Or.inl (by rw [h]; exact ea)) h5 h6
          · exact (h3 k hb).next (Or.inr (by rw [h]; exact eb)) h5 h6) (fun x y hx hv he hy1 hy2 => by
          by_cases hxk : x = k
          · subst hxk
            refine (hbit y).mpr (Or.inr ⟨?_, hy1, hy2⟩)
            rcases he with he | he
            · exact Or.inl ((nI_eq (by omega) (by omega)).mp (he.symm.trans ea))
            · exact Or.inr ((nI_eq (by omega) (by omega)).mp (he.symm.trans eb))
          · exact (hbit y).mpr (Or.inl (h4 x y (by omega) hv he hy1 hy2)))
      refine ⟨f', hp, fun w5 w7 K Q hq => ⟨fun h => absurd h h33, fun _ => isin_yes (by omega) hb ⟨fun h => absurd h z1, fun _ => ⟨vp_in_nI (by omega) (by decide), vp_in_nI (by omega) (by decide), ?_⟩⟩⟩⟩
      rw [e3, e4, hn]
      exact hgo w5 w7 K Q hq
/-- reachedFrom -/
theorem reached_ok {t : Nat} {μ : Mu} {w : Int64} {R : Nat → Prop} (hw : ∀ r, 9 ≤ r → r < 33 → (tb w r = true ↔ R r)) (hlr : ∀ x, Rc (cT μ t) R x → (∃ a, a < 33 ∧ (cT μ t).2.1 3 x = nI a) ∧ ∃ a, a < 33 ∧ (cT μ t).2.1 4 x = nI a) : ∃ F : Int64, (∀ r, tb F r = true ↔ Rc (cT μ t) R r) ∧ ∀ Q : Int64 → Mu → Prop, Q F μ → wp_Heap_reachedFrom t w μ Q := by
  -- the outer loop, from a state of it
  have main : ∀ (m p : Nat) (f b : Int64), p + m = 25 → ownS f → (∀ r, R r → 9 ≤ r → r < 33 → tb f r = true) → (∀ r, tb f r = true → Rc (cT μ t) R r) → (∀ r, tb b r = true → tb f r = true) → (∀ x y, tb b x = true → ((cT μ t).2.1 3 x = nI y ∨ (cT μ t).2.1 4 x = nI y) → 9 ≤ y → y < 33 → tb f y = true) → p ≤ cnt (fun c => tb b (9 + c)) 24 →
      ∃ F : Int64, (∀ r, tb F r = true ↔ Rc (cT μ t) R r) ∧ ∀ Q : Int64 → Mu → Prop, Q F μ → wp_Heap_reachedFrom_12 t (fun v8 v9 v10 μ11 => Q v8 μ11) Q (m + 1) f b (nI p) μ := by
    intro m
    induction m with
    | zero =>
      intro p f b hp h1 h2 h3 h4 h5 h6
      have := cnt_le (fun c => tb b (9 + c)) 24
      omega
    | succ m ih =>
      intro p f b hp h1 h2 h3 h4 h5 h6
      have hc := cnt_le (fun c => tb b (9 + c)) 24
      have hnp : ¬ (24 : Int32) < nI p := nI_nlt (a := 24) (by omega) (by decide)
      by_cases hfb : f = b
      · refine ⟨f, fun r => ⟨h3 r, fun hr => ?_⟩, fun Q hq => ⟨fun h => absurd h hnp, fun _ => ⟨fun _ => hq, fun h => absurd ((cmp_0 _ _).mpr hfb) h⟩⟩⟩
        subst hfb
        exact hr (fun r => tb f r = true) (fun x hx a1 a2 => h2 x hx a1 a2) (fun x y hx he a1 a2 => h5 x y hx he a1 a2)
      · -- one pass
        have hex : ∃ c, c < 24 ∧ tb b (9 + c) = false ∧ tb f (9 + c) = true := by
          refine Classical.byContradiction fun hno => hfb (tb_ext fun r => ?_)
          cases hb : tb b r with
          | true => exact h4 r hb
          | false =>
            cases hf : tb f r with
            | false => rfl
            | true =>
              have := h1 r hf
              exact absurd ⟨r - 9, by omega, by rw [show 9 + (r - 9) = r by omega]; exact hb, by rw [show 9 + (r - 9) = r by omega]; exact hf⟩ hno
        obtain ⟨c, hc24, hcb, hcf⟩ := hex
        have hcnt : cnt (fun c => tb b (9 + c)) 24 < cnt (fun c => tb f (9 + c)) 24 := cnt_lt (fun c h => h4 (9 + c) h) hc24 hcb hcf
        have hpn : nI p + 1 = nI (p + 1) := nI_1 p
        obtain ⟨f', ⟨a1, a2, a3, a4⟩, hrun⟩ := pass_ok (v5 := f) hlr 24 9 f (by omega) (by omega) h1 (fun r h => h) h3 (fun x y hx hv => by have := h1 x hv; omega)
        obtain ⟨F, hF, hgo⟩ := ih (p + 1) f' f (by omega) a1 (fun r hr b1 b2 => a2 r (h2 r hr b1 b2)) a3 a2 a4 (by omega)
        refine ⟨F, hF, fun Q hq => ⟨fun h => absurd h hnp, fun _ => ⟨fun h => absurd ((cmp_0 _ _).mp h) hfb, fun _ => ⟨25, hrun _ _ _ _ ?_⟩⟩⟩⟩
        rw [hpn]
        exact hgo Q hq
  have hA : ∀ r, R r → 9 ≤ r → r < 33 → tb (w &&& 8589934080) r = true := fun r hr b1 b2 => by
    rw [tb_and, (hw r b1 b2).mpr hr, tb_own]
    simp [b1, b2]
  have hB : ∀ r, tb (w &&& 8589934080) r = true → Rc (cT μ t) R r := fun r hr => by
    have ho := ownS_and w r hr
    rw [tb_and, Bool.and_eq_true] at hr
    exact Rc.root ((hw r ho.1 ho.2).mp hr.1) ho.1 ho.2
  obtain ⟨F, hF, hgo⟩ := main 25 0 (w &&& 8589934080) 0 (by omega) (ownS_and w) hA hB (fun r hr => by rw [tb_0] at hr; cases hr) (fun x y hx => by rw [tb_0] at hx; cases hx) (Nat.zero_le _)
  exact ⟨F, hF, fun Q hq => ⟨26, hgo Q hq⟩⟩
/-! The roots of a tenant. -/
/-- what stands in its stack, its locals, its mail -/
def rts (B : TB) (x : Nat) : Prop := (∃ i, i < (B.1 6 2).toNatClampNeg ∧ ¬ B.2.1 8 i = 0 ∧ B.2.1 7 i = nI x) ∨ (B.2.1 9 2 = nI x ∨ B.2.1 9 3 = nI x) ∨ ∃ i, i < (B.1 10 1).toNatClampNeg ∧ B.2.1 11 i = nI x
theorem or_one {f : Int64} {a r : Nat} (ha : a < 64) : tb (f ||| one a) r = true ↔ tb f r = true ∨ r = a := by
  rw [tb_or, tb_one ha]
  simp [Bool.or_eq_true]
/-- liveCells -/
theorem live_ok {t sc : Nat} {μ : Mu} (h8 : sc ≤ 8) (hI : IT sc (cT μ t)) : ∃ F : Int64, (∀ r, tb F r = true ↔ Rc (cT μ t) (rts (cT μ t)) r) ∧ ∀ Q : Int64 → Mu → Prop, Q F μ → wp_Ten_liveCells t μ Q := by
  obtain ⟨d, hd, ed⟩ := hI.1.1
  obtain ⟨m, hm, em⟩ := hI.1.2.1
  have fd : μ.1 (29 + 17 * t) 2 = nI d := (cTF (by omega) (by omega)).trans ed
  have fm : μ.1 (33 + 17 * t) 1 = nI m := (cTF (by omega) (by omega)).trans em
  have cd : ((cT μ t).1 6 2).toNatClampNeg = d := by rw [ed, nI_clamp (by omega)]
  have cm : ((cT μ t).1 10 1).toNatClampNeg = m := by rw [em, nI_clamp (by omega)]
  have hst := hI.2.2.2.2.1
  have hml := hI.2.2.2.2.2.2.1
  obtain ⟨⟨l2, o2, e2⟩, l3, o3, e3⟩ := hI.2.2.2.2.2.1
  have k2 := okR_lt h8 o2
  have k3 := okR_lt h8 o3
  -- the stack
  have stk : ∀ (n i : Nat) (f : Int64), i + n = d → ∃ g, (∀ r, r < 33 → (tb g r = true ↔ tb f r = true ∨ ∃ j, i ≤ j ∧ j < d ∧ ¬ (cT μ t).2.1 8 j = 0 ∧ (cT μ t).2.1 7 j = nI r)) ∧ ∀ (K : Int64 → Int32 → Mu → Prop) (Q : Int64 → Mu → Prop), K g (nI d) μ → wp_Stk_cells_4 t K Q (n + 1) f (nI i) μ := by
    intro n
    induction n with
    | zero =>
      intro i f hi
      obtain rfl : i = d := by omega
      refine ⟨f, fun r _ => ⟨Or.inl, fun h => h.elim id (fun ⟨j, h1, h2, _⟩ => by omega)⟩, fun K Q hq => ⟨fun _ => hq, fun h => absurd ?_ h⟩⟩
      rw [fd]; exact nI_le (Nat.le_refl _) (by omega)
    | succ n ih =>
      intro i f hi
      have hn : nI i + 1 = nI (i + 1) := nI_1 i
      have hcl : (nI i).toNatClampNeg = i := nI_clamp (by omega)
      have hng : ¬ μ.1 (29 + 17 * t) 2 ≤ nI i := by rw [fd]; exact nI_ge (by omega) (by omega)
      have e8 : μ.2.1 (31 + 17 * t) (nI i).toNatClampNeg = (cT μ t).2.1 8 i := by rw [hcl]; exact cTA (by omega) (by omega)
      have e7 : μ.2.1 (30 + 17 * t) (nI i).toNatClampNeg = (cT μ t).2.1 7 i := by rw [hcl]; exact cTA (by omega) (by omega)
      have hin : vp_in (nI i) 6 := vp_in_nI (by omega) (by decide)
      rcases hst i (by omega) with h0 | ⟨h1, x, hx, ex⟩
      · obtain ⟨g, hg, hgo⟩ := ih (i + 1) f (by omega)
        have hgr : ∀ r, r < 33 → (tb g r = true ↔ tb f r = true ∨ ∃ j, i ≤ j ∧ j < d ∧ ¬ (cT μ t).2.1 8 j = 0 ∧ (cT μ t).2.1 7 j = nI r) := by
          intro r hr
          rw [hg r hr]
          constructor
          · rintro (h | ⟨j, a1, a2⟩)
            · exact Or.inl h
            · exact Or.inr ⟨j, by omega, a2⟩
          · rintro (h | ⟨j, a1, a2, a3, a4⟩)
            · exact Or.inl h
            · by_cases hji : j = i
              · subst hji; exact absurd h0 a3
              · exact Or.inr ⟨j, by omega, a2, a3, a4⟩
        refine ⟨g, hgr, fun K Q hq => ⟨fun h => absurd h hng, fun _ => ⟨hin, fun _ => ?_, fun h => ?_⟩⟩⟩
        · rw [hn]; exact hgo K Q hq
        · rw [e8] at h; exact absurd h0 h
      · have hne : ¬ (cT μ t).2.1 8 i = 0 := by rw [h1]; decide
        have hx33 := okR_lt h8 hx
        obtain ⟨g, hg, hgo⟩ := ih (i + 1) (f ||| one x) (by omega)
        have hgr : ∀ r, r < 33 → (tb g r = true ↔ tb f r = true ∨ ∃ j, i ≤ j ∧ j < d ∧ ¬ (cT μ t).2.1 8 j = 0 ∧ (cT μ t).2.1 7 j = nI r) := by
          intro r hr
          rw [hg r hr, or_one (by omega)]
          constructor
          · rintro ((h | h) | ⟨j, a1, a2⟩)
            · exact Or.inl h
            · exact Or.inr ⟨i, by omega, by omega, hne, by rw [h]; exact ex⟩
            · exact Or.inr ⟨j, by omega, a2⟩
          · rintro (h | ⟨j, a1, a2, a3, a4⟩)
            · exact Or.inl (Or.inl h)
            · by_cases hji : j = i
              · subst hji
                exact Or.inl (Or.inr ((nI_eq (by omega) (by omega)).mp (a4.symm.trans ex)))
              · exact Or.inr ⟨j, by omega, a2, a3, a4⟩
        refine ⟨g, hgr, fun K Q hq => ⟨fun h => absurd h hng, fun _ => ⟨hin, fun h => ?_, fun _ => ⟨hin, ?_⟩⟩⟩⟩
        · rw [e8] at h; exact absurd h hne
        · rw [e7, ex, hn]; exact hgo K Q hq
  -- the mail
  have mal : ∀ (n i : Nat) (f : Int64), i + n = m → ∃ g, (∀ r, r < 33 → (tb g r = true ↔ tb f r = true ∨ ∃ j, i ≤ j ∧ j < m ∧ (cT μ t).2.1 11 j = nI r)) ∧ ∀ (K : Int64 → Int32 → Mu → Prop) (Q : Int64 → Mu → Prop), K g (nI m) μ → wp_Ten_liveCells_34 t K Q (n + 1) f (nI i) μ := by
    intro n
    induction n with
    | zero =>
      intro i f hi
      obtain rfl : i = m := by omega
      refine ⟨f, fun r _ => ⟨Or.inl, fun h => h.elim id (fun ⟨j, h1, h2, _⟩ => by omega)⟩, fun K Q hq => ⟨fun _ => hq, fun h => absurd ?_ h⟩⟩
      rw [fm]; exact nI_le (Nat.le_refl _) (by omega)
    | succ n ih =>
      intro i f hi
      have hn : nI i + 1 = nI (i + 1) := nI_1 i
      have hng : ¬ μ.1 (33 + 17 * t) 1 ≤ nI i := by rw [fm]; exact nI_ge (by omega) (by omega)
      obtain ⟨x, hx, ex⟩ := hml i (by omega)
      have hx33 := okR_lt h8 hx
      have e11 : μ.2.1 (33 + 17 * t + 1) i = nI x := by
        rw [show 33 + 17 * t + 1 = 34 + 17 * t by omega]
        exact (cTA (by omega) (by omega)).trans ex
      obtain ⟨g, hg, hgo⟩ := ih (i + 1) (f ||| one x) (by omega)
      have hgr : ∀ r, r < 33 → (tb g r = true ↔ tb f r = true ∨ ∃ j, i ≤ j ∧ j < m ∧ (cT μ t).2.1 11 j = nI r) := by
        intro r hr
        rw [hg r hr, or_one (by omega)]
        constructor
        · rintro ((h | h) | ⟨j, a1, a2⟩)
          · exact Or.inl h
          · exact Or.inr ⟨i, by omega, by omega, by rw [h]; exact ex⟩
          · exact Or.inr ⟨j, by omega, a2⟩
        · rintro (h | ⟨j, a1, a2, a4⟩)
          · exact Or.inl (Or.inl h)
          · by_cases hji : j = i
            · subst hji
              exact Or.inl (Or.inr ((nI_eq (by omega) (by omega)).mp (a4.symm.trans ex)))
            · exact Or.inr ⟨j, by omega, a2, a4⟩
      refine ⟨g, hgr, fun K Q hq => ⟨fun h => absurd h hng, fun _ => line_item fm hm (by decide) (by omega) ?_⟩⟩
      rw [e11, hn]; exact hgo K Q hq
  obtain ⟨g1, hg1, go1⟩ := stk d 0 0 (by omega)
  obtain ⟨g3, hg3, go3⟩ := mal m 0 (g1 ||| one l2 ||| one l3) (by omega)
  have hw : ∀ r, 9 ≤ r → r < 33 → (tb g3 r = true ↔ rts (cT μ t) r) := by
    intro r h9 hr
    rw [hg3 r hr, or_one (by omega), or_one (by omega), hg1 r hr, tb_0]
    unfold rts
    rw [cd, cm, e2, e3, nI_eq (by omega) (by omega), nI_eq (by omega) (by omega)]
    constructor
    · rintro (((((h | ⟨j, a1, a2⟩) | h) | h)) | ⟨j, a1, a2⟩)
      · cases h
      · exact Or.inl ⟨j, a2⟩
      · exact Or.inr (Or.inl (Or.inl h.symm))
      · exact Or.inr (Or.inl (Or.inr h.symm))
      · exact Or.inr (Or.inr ⟨j, a2⟩)
    · rintro (⟨j, a2⟩ | (h | h) | ⟨j, a2⟩)
      · exact Or.inl (Or.inl (Or.inl (Or.inr ⟨j, by omega, a2⟩)))
      · exact Or.inl (Or.inl (Or.inr h.symm))
      · exact Or.inl (Or.inr h.symm)
      · exact Or.inr ⟨j, by omega, a2⟩
  -- what is reached has been made
  have hmade : ∀ x, Rc (cT μ t) (rts (cT μ t)) x → tb (cT μ t).2.2 x = true := by
    intro x hx
    refine hx (fun x => tb (cT μ t).2.2 x = true) (fun y hy h9 h33 => ?_) (fun y z hy he h9 h33 => ?_)
    · have hok : ∀ v, isR sc (cT μ t).2.2 v → v = nI y → tb (cT μ t).2.2 y = true := by
        rintro v ⟨q, hq, eq⟩ ev
        have hq33 := okR_lt h8 hq
        obtain rfl : q = y := (nI_eq (by omega) (by omega)).mp (eq.symm.trans ev)
        rcases hq with h | h | h
        · omega
        · omega
        · exact h.2.2
      rcases hy with ⟨i, hi, h1, h2⟩ | (h | h) | ⟨i, hi, h2⟩
      · exact hok _ ((hst i (by rw [cd] at hi; rw [cd]; exact hi)).resolve_left h1).2 h2
      · exact hok _ ⟨l2, o2, e2⟩ h
      · exact hok _ ⟨l3, o3, e3⟩ h
      · exact hok _ (hml i hi) h2
    · obtain ⟨-, -, ⟨a, ha, ea⟩, b, hb, eb⟩ := hI.2.2.2.2.2.2.2.1 y hy
      have ka := okR_lt h8 ha
      have kb := okR_lt h8 hb
      have hok : ∀ q, okR sc (cT μ t).2.2 q → q = z → tb (cT μ t).2.2 z = true := by
        rintro q hq rfl
        rcases hq with h | h | h
        · omega
        · omega
        · exact h.2.2
      rcases he with he | he
      · exact hok a ha ((nI_eq (by omega) (by omega)).mp (ea.symm.trans he))
      · exact hok b hb ((nI_eq (by omega) (by omega)).mp (eb.symm.trans he))
  have hlr : ∀ x, Rc (cT μ t) (rts (cT μ t)) x → (∃ a, a < 33 ∧ (cT μ t).2.1 3 x = nI a) ∧ ∃ a, a < 33 ∧ (cT μ t).2.1 4 x = nI a := by
    intro x hx
    obtain ⟨-, -, ⟨a, ha, ea⟩, b, hb, eb⟩ := hI.2.2.2.2.2.2.2.1 x (hmade x hx)
    exact ⟨⟨a, okR_lt h8 ha, ea⟩, b, okR_lt h8 hb, eb⟩
  obtain ⟨F, hF, hgo⟩ := reached_ok (w := g3) hw hlr
  have q2 : μ.2.1 (32 + 17 * t) 2 = nI l2 := (cTA (by omega) (by omega)).trans e2
  have q3 : μ.2.1 (32 + 17 * t) 3 = nI l3 := (cTA (by omega) (by omega)).trans e3
  refine ⟨F, hF, fun Q hq => ⟨d + 1, go1 _ _ ⟨3, ⟨fun h => absurd h (by decide), fun _ => ⟨in_c (by decide) (by decide), ⟨fun h => absurd h (by decide), fun _ => ⟨in_c (by decide) (by decide), ⟨fun _ => ⟨m + 1, ?_⟩, fun h => absurd (by decide) h⟩⟩⟩⟩⟩⟩⟩⟩
  show wp_Ten_liveCells_34 t _ Q (m + 1) (g1 ||| ((1 : Int64) <<< (Int32.toInt64 (μ.2.1 (32 + 17 * t) 2) &&& 63)) ||| ((1 : Int64) <<< (Int32.toInt64 (μ.2.1 (32 + 17 * t) 3) &&& 63))) (nI 0) μ
  rw [q2, q3]
  exact go3 _ _ (hgo _ hq)
