/-! One instruction, in both. -/
theorem codeL_inj : ∀ {l l' : List Bool}, codeL l = codeL l' → l = l'
  | [], [], _ => rfl
  | [], b :: l, h => by
    have := (codeL_lt l).1
    have h : 1 = 2 * codeL l + (if b then 1 else 0) := h
    omega
  | b :: l, [], h => by
    have := (codeL_lt l).1
    have h : 2 * codeL l + (if b then 1 else 0) = 1 := h
    omega
  | b :: l, b' :: l', h => by
    have h : 2 * codeL l + (if b then 1 else 0) = 2 * codeL l' + (if b' then 1 else 0) := h
    have e : codeL l = codeL l' ∧ b = b' := by
      cases b <;> cases b' <;> simp at h ⊢ <;> omega
    rw [codeL_inj e.1, e.2]
theorem codeL_6 {l : List Bool} (h : l.length ≤ 6) : 0 < codeL l ∧ codeL l < 128 := by
  have h1 := codeL_lt l
  have h2 : 2 ^ (l.length + 1) ≤ 2 ^ 7 := Nat.pow_le_pow_right (by omega) (by omega)
  omega
theorem tcons {ar : Nat → Int32} {d : Nat} {b : Bool} {r : List Bool} (h : tys ar d = b :: r) : ∃ e, d = e + 1 ∧ (ar e != 0) = b ∧ tys ar e = r := by
  match d, h with
  | e + 1, h =>
    have h : (ar e != 0) :: tys ar e = b :: r := h
    injection h with h1 h2
    exact ⟨e, rfl, h1, h2⟩
def Dat (t p pos n d op : Nat) (arg : Int32) (l' : List Bool) (μ : Mu) : Prop := (p < 4 ∧ pos < n ∧ n ≤ 24 ∧ d ≤ 6 ∧ op ≤ 24) ∧ ((cT μ t).1 0 8 = nI p ∧ (cT μ t).1 0 9 = nI pos ∧ (cP μ p).1 5 = nI n ∧ (cP μ p).1 6 = 1 ∧ (cT μ t).1 6 2 = nI d) ∧ ((cP μ p).2 0 pos = nI op ∧ (cP μ p).2 1 pos = arg) ∧ (op = 1 ∨ ∃ a, a ≤ hiA op ∧ arg = nI a) ∧
  ty op arg.toNatClampNeg (tys ((cT μ t).2.1 8) d) = some l' ∧ l'.length ≤ 6 ∧ (op = 17 ∨ op = 18 → arg.toNatClampNeg < n ∧ (cP μ p).2 2 arg.toNatClampNeg = nI (codeL l')) ∧ (op = 0 ∨ op = 17 ∨ (pos + 1 < n ∧ (cP μ p).2 2 (pos + 1) = nI (codeL l'))) ∧ (cP μ p).2 2 pos = nI (codeL (tys ((cT μ t).2.1 8) d))
theorem step_data {c t : Nat} {μ : Mu} (hi : Inv c μ) (ht : t < 4) (hal : (cT μ t).1 0 7 = 1 ∨ (cT μ t).1 0 7 = 2) : ∃ p pos n d op arg l', Dat t p pos n d op arg l' μ := by
  obtain ⟨len, sc, s, -, -, -, hT, hP, -⟩ := hi
  obtain ⟨d, hd, ed⟩ := (hT t ht).1.1.1
  obtain ⟨p, pos, n, hp, e8, e6, e5, ⟨hpos, hn⟩, e9, e2⟩ := (hT t ht).2.1 hal
  rw [ed, nI_clamp (by omega)] at e2
  have hc := codeL_tys (ar := (cT μ t).2.1 8) hd
  have hc0 := (codeL_lt (tys ((cT μ t).2.1 8) d)).1
  obtain ⟨n', hn', en', -, hops, hsl⟩ := hP p hp
  have hnn : n' = n := (nI_eq (by omega) (by omega)).mp (en'.symm.trans e5)
  subst hnn
  obtain ⟨op, hop, eo, ha⟩ := hops pos hpos
  obtain ⟨-, -, hfl⟩ := hsl e6
  obtain ⟨l, l', op', h1, h2, h3, h4, h5, h6, h7⟩ := hfl pos hpos (by rw [e2]; exact nI_ne0 (by omega) (by omega))
  have hl := codeL_6 h1
  have hll : l = tys ((cT μ t).2.1 8) d := codeL_inj ((nI_eq (by omega) (by omega)).mp (h3.symm.trans e2))
  have hoo : nI op' = nI op := h4.symm.trans eo
  subst hll
  have hop' : op' = op := by
    by_cases hb : op' < 2 ^ 31
    · exact (nI_eq hb (by omega)).mp hoo
    · exfalso
      unfold ty at h5
      rw [if_neg (by omega), if_neg (by omega), if_neg (by omega), if_neg (by omega), if_neg (by omega), if_neg (by omega), if_neg (by omega), if_neg (by omega), if_neg (by omega), if_neg (by omega), if_neg (by omega), if_neg (by omega), if_neg (by omega), if_neg (by omega), if_neg (by omega)] at h5
      cases h5
  subst hop'
  exact ⟨p, pos, n', d, op', _, l', ⟨hp, hpos, hn, hd, hop⟩, ⟨e8, e9, e5, e6, ed⟩, ⟨eo, rfl⟩, ha, h5, h2, h6, h7, e2⟩
def m11 (μ : Mu) (t s pos : Nat) : Mu := setF (setF (setF μ (23 + 17 * t) 7 1) (23 + 17 * t) 11 (nI (s + 1))) (23 + 17 * t) 9 (nI (pos + 1))
def m9r (μr : Mu) (t s : Nat) : Mu := setA (setA μr 106 t 1) 109 t (nI (s + 1))
def B11 (B : TB) (s pos : Nat) : TB := bF (bF (bF B 0 7 1) 0 11 (nI (s + 1))) 0 9 (nI (pos + 1))
theorem m11_one {μ : Mu} {t s pos : Nat} (ht : t < 4) : oneC t (B11 (cT μ t) s pos) μ (m11 μ t s pos) := by
  have o1 := oneC_F (μ := μ) (k := 23) (j := 7) (v := 1) ht (by omega) (by omega)
  have o2 := oneC_F (μ := setF μ (23 + 17 * t) 7 1) (k := 23) (j := 11) (v := nI (s + 1)) ht (by omega) (by omega)
  rw [o1.2.2.2.1] at o2
  have o3 := oneC_F (μ := setF (setF μ (23 + 17 * t) 7 1) (23 + 17 * t) 11 (nI (s + 1))) (k := 23) (j := 9) (v := nI (pos + 1)) ht (by omega) (by omega)
  rw [o2.2.2.2.1] at o3
  exact (o1.tr o2).tr o3
theorem m9r_one {μr : Mu} {t s : Nat} : oneR t μr (m9r μr t s) := (oneR_s (k := 106) rfl rfl (by omega)).tr (oneR_s (k := 109) rfl rfl (by omega))
theorem m9r_V {μr : Mu} {t s : Nat} : rV (m9r μr t s) t = pF (pF (rV μr t) 106 1) 109 (nI (s + 1)) := by
  unfold m9r
  rw [rV_s (k := 109) rfl rfl, rV_s (k := 106) rfl rfl]
/-- the step's beginning -/
theorem step_ctx {c t p pos n d op s rr : Nat} {arg : Int32} {l' : List Bool} {μ : Mu} (hi : Inv c μ) (ht : t < 4) (D : Dat t p pos n d op arg l' μ) (es : (cT μ t).1 0 11 = nI s) (er : (cT μ t).1 0 10 = nI rr) (hrr : rr ≤ 3000) (hs : s < rr) :
    Ctx c t d (m11 μ t s pos) ∧ cT (m11 μ t s pos) t = B11 (cT μ t) s pos ∧ ∀ μr, R2 μ μr → R2X t (m11 μ t s pos) (m9r μr t s) ∧ Hsh t (m11 μ t s pos) (m9r μr t s) ∧ (m9r μr t s).2.1 108 t = nI pos := by
  obtain ⟨⟨hp, hpos, hn, hd, hop⟩, ⟨e8, e9, e5, e6, ed⟩, -, -, -, -, -, -, e2⟩ := D
  have oo := m11_one (μ := μ) (s := s) (pos := pos) ht
  have hX : InvX c t μ := InvX.of hi
  have hIX : InvX c t (m11 μ t s pos) := hX.one ht oo (fun sc _ _ hI => by
    obtain ⟨a1, ⟨r, s', cc, b1, b2, b3, b4, b5, b6, b7⟩, a3, a4, a5⟩ := hI
    have h1 : r = rr := (nI_eq (by omega) (by omega)).mp (b5.symm.trans er)
    exact ⟨a1, ⟨r, s + 1, cc, b1, by omega, b3, b4, b5, rfl, b7⟩, a3, fun h => absurd h (show ¬ (1 : Int32) = 0 by decide), a5⟩) (fun h => absurd rfl h) rfl
  refine ⟨⟨hIX, ht, by rw [oo.2.2.2.1]; rfl, by rw [oo.2.2.2.1]; exact ed, hd⟩, oo.2.2.2.1, fun μr hr => ?_⟩
  have hRX : R2X t μ μr := R2X.of hr
  have p108 : (m9r μr t s).2.1 108 = μr.2.1 108 := (a_o (by decide)).trans (a_o (by decide))
  have e108 : μr.2.1 108 t = nI pos := by rw [rVs (k := 108) rfl, ← (hr.2.1 t ht).1.1.2.2.1]; exact e9
  refine ⟨hRX.one hX ht oo m9r_one ⟨fun h => absurd rfl h, ?_⟩ (fun _ _ _ _ _ _ => rfl), fun d' ed' hd' h0 => ?_, by rw [p108]; exact e108⟩
  · rw [m9r_V]
    obtain ⟨⟨x1, x2, x3, x4, x5, x6⟩, x7⟩ := (hRX.2.1 t ht).2.1
    exact ⟨⟨rfl, x2, rfl, x4, rfl, x6⟩, x7⟩
  · rw [oo.2.2.2.1] at ed' ⊢
    have hdd : d' = d := (nI_eq (by omega) (by omega)).mp (show nI d' = nI d from (show (cT μ t).1 6 2 = nI d' from ed').symm.trans ed)
    subst hdd
    refine ⟨p, pos, hp, by omega, ?_, by rw [p108]; exact e108, ?_⟩
    · rw [show (m9r μr t s).2.1 107 = μr.2.1 107 from (a_o (by decide)).trans (a_o (by decide)), rVs (k := 107) rfl, ← (hr.2.1 t ht).1.1.2.1]; exact e8
    · rw [show (m9r μr t s).2.1 94 = μr.2.1 94 from (a_o (by decide)).trans (a_o (by decide)), show μr.2.1 94 (24 * p + pos) = (rV μr p).2 94 pos from rVa (k := 94) (show pos < 24 by omega), ← (hr.2.2 p hp).2.2.2 e6 pos (by rw [e5, nI_clamp (by omega)]; exact hpos)]
      exact e2
def StepR (c t : Nat) (μ : Mu) : Prop := ∃ μ1, (∀ Q : Mu → Prop, Q μ1 → wp_Host_doInstruction t μ Q) ∧ refEq μ μ1 ∧ Inv c μ1 ∧ cG μ1 = cG μ ∧ ∀ μr, R2 μ μr → ∃ μ2, (∀ Q : Int32 → Mu → Prop, Q 1 μ2 → wp_Mod_perform (nI t) μr Q) ∧ clsEq μr μ2 ∧ R2 μ1 μ2
/-- the step's end -/
theorem step_fin {c t p pos n d op s rr : Nat} {arg q flag : Int32} {l l' : List Bool} {μ : Mu} {wc : Mu → (Mu → Prop) → Prop} {wr : Mu → (Int32 → Mu → Prop) → Prop} (hi : Inv c μ) (ht : t < 4) (D : Dat t p pos n d op arg l' μ) (es : (cT μ t).1 0 11 = nI s) (er : (cT μ t).1 0 10 = nI rr) (hrr : rr ≤ 3000) (hs : s < rr)
    (out : OpOut c t l (nI p) q (m11 μ t s pos) wc wr) (hw : ∀ Q : Mu → Prop, wc (m11 μ t s pos) Q → wp_Host_doInstruction t μ Q)
    (hq : (flag = 0 ∧ q = nI (pos + 1)) ∨ (¬ flag = 0 ∧ q = arg)) (hflow : l.length ≤ 6 → ∃ pos', pos' < n ∧ q = nI pos' ∧ (cP μ p).2 2 pos' = nI (codeL l))
    (hperf : ∀ μr, R2 μ μr → ∀ Q : Int32 → Mu → Prop, endR t wr (m9r μr t s) (fun μ' => wp_Mod_perform_j163 (nI t) arg flag μ' Q) → wp_Mod_perform (nI t) μr Q) : StepR c t μ := by
  obtain ⟨hC, eT, hR⟩ := step_ctx hi ht D es er hrr hs
  obtain ⟨⟨hp, hpos, hn, hd, hop⟩, ⟨e8, e9, e5, e6, ed⟩, -⟩ := D
  have oo := m11_one (μ := μ) (s := s) (pos := pos) ht
  obtain ⟨μ1, a1, a2, a3, a4, a5, ⟨f1, f2, f3⟩, a7⟩ := out
  have cP1 : ∀ p, p < 4 → cP μ1 p = cP μ p := fun p hp => (a5 p hp).trans (oo.2.1 p hp)
  have hY : IY (cT μ1 t) (cP μ1) := by
    rcases f3 with ⟨g1, g2⟩ | ⟨g1, g2⟩
    · refine ⟨fun _ => ?_, fun h => absurd (Or.inl g1) h⟩
      obtain ⟨d1, hd1, ed1⟩ := (a3.it ht).1.1
      have hlen : l.length ≤ 6 := by
        rw [← g2, tys_len, ed1, nI_clamp (by omega)]; exact hd1
      obtain ⟨pos', h1, h2, h3⟩ := hflow hlen
      refine ⟨p, pos', n, hp, f1, ?_, ?_, ⟨h1, hn⟩, by rw [f2]; exact h2, ?_⟩
      · rw [cP1 p hp]; exact e6
      · rw [cP1 p hp]; exact e5
      · rw [cP1 p hp, g2]; exact h3
    · exact ⟨fun h => absurd h g1, fun _ => g2⟩
  refine ⟨μ1, fun Q hq => hw Q (a1 Q hq), oo.2.2.2.2.tr a2, a3.to hY, a4.trans oo.1, fun μr hr => ?_⟩
  obtain ⟨r1, r2, r3⟩ := hR μr hr
  obtain ⟨μ2, b1, b2, b3, b4⟩ := a7 _ r1 r2
  have p108 : μ2.2.1 108 t = nI pos := b4.trans r3
  have hRT : RT t (cT μ1 t) (rV (setA μ2 108 t q) t) := by
    rw [rV_s (k := 108) rfl rfl]
    obtain ⟨⟨x1, x2, x3, x4⟩, x5⟩ := (b3.2.1 t ht).2.1
    exact ⟨⟨x1, x2, f2, x4⟩, x5⟩
  refine ⟨setA μ2 108 t q, fun Q hQ => hperf μr hr Q (b1 _ ?_), (m9r_one.2.2.2.2.tr b2).A (by omega), (b3.one a3 ht oneC.rf (oneR_s (k := 108) rfl rfl (by omega)) ⟨fun h => absurd rfl h, RTg.of hRT⟩ (fun _ _ _ _ _ _ => rfl)).to hRT⟩
  rcases hq with ⟨hf, he⟩ | ⟨hf, he⟩
  · refine ⟨fun _ => ⟨in4 ht, in4 ht, fun μ14 e14 => ?_⟩, fun h => absurd hf h⟩
    rw [cl4 ht, p108, nI_1, ← he] at e14
    rw [e14]; exact hQ
  · refine ⟨fun h => absurd h hf, fun _ => ⟨in4 ht, fun μ16 e16 => ?_⟩⟩
    rw [cl4 ht, ← he] at e16
    rw [e16]; exact hQ
