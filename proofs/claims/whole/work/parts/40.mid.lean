/-! In the midst of an instruction of tenant t: its place may differ, its types need not fit. -/
def RTg (t : Nat) (B : TB) (S : PB) : Prop := RT t (bF B 0 9 (S.1 108)) S
theorem RTg.of {t : Nat} {B : TB} {S : PB} (h : RT t B S) : RTg t B S := ⟨⟨h.1.1, h.1.2.1, rfl, h.1.2.2.2⟩, h.2⟩
theorem RTg.to {t : Nat} {B : TB} {S : PB} (h : RTg t B S) (e : B.1 0 9 = S.1 108) : RT t B S := ⟨⟨h.1.1, h.1.2.1, e, h.1.2.2.2⟩, h.2⟩
def InvX (c t : Nat) (μ : Mu) : Prop := ∃ len sc s, (1 ≤ len ∧ len ≤ 8 ∧ cG μ 0 = nI len) ∧ (sc ≤ 8 ∧ cG μ 3 = nI sc) ∧ (s ≤ c ∧ cG μ 4 = nI s) ∧
  (∀ u, u < 4 → IT sc (cT μ u) ∧ (u ≠ t → IY (cT μ u) (cP μ))) ∧ (∀ p, p < 4 → IP (cP μ p)) ∧
  (∃ c0 c1 c2 c3, (cT μ 0).1 1 5 = nI c0 ∧ (cT μ 1).1 1 5 = nI c1 ∧ (cT μ 2).1 1 5 = nI c2 ∧ (cT μ 3).1 1 5 = nI c3 ∧ c0 + c1 + c2 + c3 ≤ 48)
def R2X (t : Nat) (μ μr : Mu) : Prop := (cG μ 0 = rG μr 0 ∧ cG μ 3 = rG μr 10 ∧ cG μ 4 = rG μr 32) ∧ (∀ u, u < 4 → (u ≠ t → RT u (cT μ u) (rV μr u)) ∧ RTg u (cT μ u) (rV μr u) ∧ RSh (cG μ 3).toNatClampNeg (cT μ u) (rS μr)) ∧ (∀ p, p < 4 → RP (cP μ p) (rV μr p))
theorem IY.prg {B : TB} {P P' : Nat → PB} (h : ∀ p, p < 4 → P' p = P p) (hB : IY B P) : IY B P' := by
  refine ⟨fun ha => ?_, hB.2⟩
  obtain ⟨p, pos, n, hp, hh⟩ := hB.1 ha
  refine ⟨p, pos, n, hp, ?_⟩
  rw [h p hp]
  exact hh
theorem InvX.of {c t : Nat} {μ : Mu} (h : Inv c μ) : InvX c t μ := by
  obtain ⟨len, sc, s, h1, h2, h3, h4, h5⟩ := h
  exact ⟨len, sc, s, h1, h2, h3, fun u hu => ⟨(h4 u hu).1, fun _ => (h4 u hu).2⟩, h5⟩
theorem InvX.to {c t : Nat} {μ : Mu} (h : InvX c t μ) (hY : IY (cT μ t) (cP μ)) : Inv c μ := by
  obtain ⟨len, sc, s, h1, h2, h3, h4, h5⟩ := h
  refine ⟨len, sc, s, h1, h2, h3, fun u hu => ⟨(h4 u hu).1, ?_⟩, h5⟩
  by_cases h : u = t
  · subst h; exact hY
  · exact (h4 u hu).2 h
theorem R2X.of {t : Nat} {μ μr : Mu} (h : R2 μ μr) : R2X t μ μr := ⟨h.1, fun u hu => ⟨fun _ => (h.2.1 u hu).1, RTg.of (h.2.1 u hu).1, (h.2.1 u hu).2⟩, h.2.2⟩
theorem R2X.to {t : Nat} {μ μr : Mu} (h : R2X t μ μr) (e : RT t (cT μ t) (rV μr t)) : R2 μ μr := by
  refine ⟨h.1, fun u hu => ⟨?_, (h.2.1 u hu).2.2⟩, h.2.2⟩
  by_cases hu2 : u = t
  · subst hu2; exact e
  · exact (h.2.1 u hu).1 hu2
theorem RP_arr {t : Nat} {P : PB} {μr μ2 : Mu} (h : ∀ a, a ≤ 96 → μ2.2.1 a = μr.2.1 a) (hp : RP P (rV μr t)) : RP P (rV μ2 t) := by
  have e : ∀ a, a ≤ 96 → (rV μ2 t).1 a = (rV μr t).1 a ∧ (rV μ2 t).2 a = (rV μr t).2 a := by
    intro a ha
    constructor
    · show (if isS a = true then μ2.2.1 a t else 0) = if isS a = true then μr.2.1 a t else 0
      rw [h a ha]
    · funext i
      show (if i < wd a then μ2.2.1 a (wd a * t + i) else 0) = if i < wd a then μr.2.1 a (wd a * t + i) else 0
      rw [h a ha]
  unfold RP
  rw [(e 95 (by omega)).1, (e 96 (by omega)).1, (e 92 (by omega)).2, (e 93 (by omega)).2, (e 94 (by omega)).2]
  exact hp
/-- one tenant k has changed, which may be t or not -/
theorem InvX.one {c t k : Nat} {B : TB} {μ μ1 : Mu} (h : InvX c t μ) (hk : k < 4) (h1 : oneC k B μ μ1) (hI : ∀ sc, sc ≤ 8 → cG μ 3 = nI sc → IT sc (cT μ k) → IT sc B) (hY : k ≠ t → IY (cT μ k) (cP μ) → IY B (cP μ)) (h5 : B.1 1 5 = (cT μ k).1 1 5) : InvX c t μ1 := by
  obtain ⟨len, sc, s, a1, a2, a3, a4, a5, a6⟩ := h
  obtain ⟨g1, g2, g3, g4, g5⟩ := h1
  have hr : ∀ u, u < 4 → (cT μ1 u).1 1 5 = (cT μ u).1 1 5 := by
    intro u hu
    by_cases huk : u = k
    · subst huk; rw [g4, h5]
    · rw [g3 u hu huk]
  refine ⟨len, sc, s, by rw [g1]; exact a1, by rw [g1]; exact a2, by rw [g1]; exact a3, fun u hu => ?_, fun p hp => by rw [g2 p hp]; exact a5 p hp, by rw [hr 0 (by omega), hr 1 (by omega), hr 2 (by omega), hr 3 (by omega)]; exact a6⟩
  by_cases huk : u = k
  · subst huk
    rw [g4]
    exact ⟨hI sc a2.1 a2.2 (a4 u hu).1, fun hne => IY.prg g2 (hY hne ((a4 u hu).2 hne))⟩
  · rw [g3 u hu huk]
    exact ⟨(a4 u hu).1, fun hne => IY.prg g2 ((a4 u hu).2 hne)⟩
/-- the shared cells in it are as they were -/
def shSame (B B' : TB) : Prop := ∀ a k, 2 ≤ a → a ≤ 4 → 1 ≤ k → k < 9 → B'.2.1 a k = B.2.1 a k
theorem RSh.same {sc : Nat} {B B' : TB} {S : Nat → Nat → Int32} (h8 : sc ≤ 8) (h : RSh sc B S) (hs : shSame B B') : RSh sc B' S := by
  intro k hk
  rw [hs 2 (1 + k) (by omega) (by omega) (by omega) (by omega), hs 3 (1 + k) (by omega) (by omega) (by omega) (by omega), hs 4 (1 + k) (by omega) (by omega) (by omega) (by omega)]
  exact h k hk
theorem RSh.ref {sc : Nat} {B : TB} {μr μ2 : Mu} (h : RSh sc B (rS μr)) (g : ∀ a, 98 ≤ a → a ≤ 100 → rS μ2 a = rS μr a) : RSh sc B (rS μ2) := by
  intro k hk
  rw [g 98 (by omega) (by omega), g 99 (by omega) (by omega), g 100 (by omega) (by omega)]
  exact h k hk
theorem InvX.sc {c t : Nat} {μ : Mu} (h : InvX c t μ) : (cG μ 3).toNatClampNeg ≤ 8 ∧ cG μ 3 = nI (cG μ 3).toNatClampNeg := by
  obtain ⟨len, sc, s, -, h2, -⟩ := h
  rw [h2.2, nI_clamp (by omega)]
  exact ⟨h2.1, rfl⟩
theorem InvX.it {c t u : Nat} {μ : Mu} (h : InvX c t μ) (hu : u < 4) : IT (cG μ 3).toNatClampNeg (cT μ u) := by
  obtain ⟨len, sc, s, -, h2, -, h4, -⟩ := h
  rw [h2.2, nI_clamp (by omega)]
  exact (h4 u hu).1
theorem R2X.one {c t k : Nat} {B : TB} {μ μ1 μr μ2 : Mu} (hi : InvX c t μ) (h : R2X t μ μr) (hk : k < 4) (h1 : oneC k B μ μ1) (h2 : oneR k μr μ2) (hT : (k ≠ t → RT k B (rV μ2 k)) ∧ RTg k B (rV μ2 k)) (hs : shSame (cT μ k) B) : R2X t μ1 μ2 := by
  obtain ⟨g1, g2, g3, g4, g5⟩ := h1
  obtain ⟨f1, f2, f3, f4, f5⟩ := h2
  refine ⟨by rw [g1, f1]; exact h.1, fun u hu => ?_, fun p hp => by rw [g2 p hp]; exact RP_arr f4 (h.2.2 p hp)⟩
  rw [g1]
  by_cases huk : u = k
  · subst huk
    rw [g4]
    exact ⟨hT.1, hT.2, RSh.ref (RSh.same hi.sc.1 (h.2.1 u hu).2.2 hs) f2⟩
  · rw [g3 u hu huk, f3 u hu huk]
    exact ⟨(h.2.1 u hu).1, (h.2.1 u hu).2.1, RSh.ref (h.2.1 u hu).2.2 f2⟩
/-- the shape that the reference looks at, for a tenant that isn't in the midst -/
theorem shape_X {c t k : Nat} {μ μr : Mu} (hi : InvX c t μ) (hr : R2X t μ μr) {d : Nat} (hk : k < 4) (hne : k ≠ t) (ed : (cT μ k).1 6 2 = nI d) (hd : d ≤ 6) :
    d ≠ 0 → ∃ p pos, p < 4 ∧ pos < 24 ∧ μr.2.1 107 k = nI p ∧ μr.2.1 108 k = nI pos ∧ μr.2.1 94 (24 * p + pos) = nI (codeL (tys ((cT μ k).2.1 8) d)) := by
  intro h0
  obtain ⟨len, sc, s, -, -, -, hT, hP, -⟩ := id hi
  have hY := (hT k hk).2 hne
  have hal : (cT μ k).1 0 7 = 1 ∨ (cT μ k).1 0 7 = 2 := Classical.byContradiction fun h => by
    have := (hY.2 h).1
    rw [ed] at this
    exact nI_ne0 (by omega) (by omega) this
  obtain ⟨p, pos, n, hp, e8, e6, e5, hpos, e9, e2⟩ := hY.1 hal
  have hRT := (hr.2.1 k hk).1 hne
  have hRP := hr.2.2 p hp
  have cn : ((cP μ p).1 5).toNatClampNeg = n := by rw [e5, nI_clamp (by omega)]
  refine ⟨p, pos, hp, by omega, ?_, ?_, ?_⟩
  · rw [rVs (k := 107) rfl, ← hRT.1.2.1, e8]
  · rw [rVs (k := 108) rfl, ← hRT.1.2.2.1, e9]
  · have e1 : μr.2.1 94 (24 * p + pos) = (rV μr p).2 94 pos := rVa (k := 94) (show pos < 24 by omega)
    rw [e1, ← hRP.2.2.2 e6 pos (by rw [cn]; omega), e2, ed, nI_clamp (by omega)]
/-- the shape that the reference looks at, for the tenant in the midst -/
def Hsh (t : Nat) (μ μr : Mu) : Prop := ∀ d, (cT μ t).1 6 2 = nI d → d ≤ 6 → d ≠ 0 → ∃ p pos, p < 4 ∧ pos < 24 ∧ μr.2.1 107 t = nI p ∧ μr.2.1 108 t = nI pos ∧ μr.2.1 94 (24 * p + pos) = nI (codeL (tys ((cT μ t).2.1 8) d))
/-- how tenant t is left -/
def Fin (l : List Bool) (p q : Int32) (B : TB) : Prop := B.1 0 8 = p ∧ B.1 0 9 = q ∧ ((B.1 0 7 = 1 ∧ tys (B.2.1 8) (B.1 6 2).toNatClampNeg = l) ∨ (¬ (B.1 0 7 = 1 ∨ B.1 0 7 = 2) ∧ B.1 6 2 = 0 ∧ B.1 10 1 = 0 ∧ B.2.2 = 0))
/-- the reference's op, and its end if it must end -/
def endR (t : Nat) (wr : Mu → (Int32 → Mu → Prop) → Prop) (μr : Mu) (Q : Mu → Prop) : Prop := wr μr (fun x μ' => (x ≤ 0 → Q μ') ∧ (¬ x ≤ 0 → wp_Mod_end (nI t) x μ' Q))
/-- an op of tenant t, in the midst -/
def OpOut (c t : Nat) (l : List Bool) (p q : Int32) (μ : Mu) (wc : Mu → (Mu → Prop) → Prop) (wr : Mu → (Int32 → Mu → Prop) → Prop) : Prop :=
  ∃ μ1, (∀ Q : Mu → Prop, Q μ1 → wc μ Q) ∧ refEq μ μ1 ∧ InvX c t μ1 ∧ cG μ1 = cG μ ∧ (∀ p, p < 4 → cP μ1 p = cP μ p) ∧ Fin l p q (cT μ1 t) ∧
    ∀ μr, R2X t μ μr → Hsh t μ μr → ∃ μ2, (∀ Q : Mu → Prop, Q μ2 → endR t wr μr Q) ∧ clsEq μr μ2 ∧ R2X t μ1 μ2 ∧ μ2.2.1 108 t = μr.2.1 108 t
/-- an op that changes tenant t alone -/
theorem OpOut.one {c t : Nat} {l : List Bool} {p q : Int32} {μ : Mu} {wc : Mu → (Mu → Prop) → Prop} {wr : Mu → (Int32 → Mu → Prop) → Prop} (hi : InvX c t μ) (ht : t < 4)
    (h : ∃ μ1 B, (∀ Q : Mu → Prop, Q μ1 → wc μ Q) ∧ oneC t B μ μ1 ∧ IT (cG μ 3).toNatClampNeg B ∧ B.1 1 5 = (cT μ t).1 1 5 ∧ shSame (cT μ t) B ∧ Fin l p q B ∧
      ∀ μr, R2X t μ μr → Hsh t μ μr → ∃ μ2, (∀ Q : Mu → Prop, Q μ2 → endR t wr μr Q) ∧ oneR t μr μ2 ∧ RTg t B (rV μ2 t) ∧ μ2.2.1 108 t = μr.2.1 108 t) : OpOut c t l p q μ wc wr := by
  obtain ⟨μ1, B, h1, h2, h3, h4, h5, h6, h7⟩ := h
  refine ⟨μ1, h1, h2.2.2.2.2, hi.one ht h2 (fun sc _ e _ => ?_) (fun hne => absurd rfl hne) h4, h2.1, h2.2.1, by rw [h2.2.2.2.1]; exact h6, fun μr hr hs => ?_⟩
  · rw [e, nI_clamp (by omega)] at h3; exact h3
  · obtain ⟨μ2, a1, a2, a3, a4⟩ := h7 μr hr hs
    exact ⟨μ2, a1, a2.2.2.2.2, hr.one hi ht h2 a2 ⟨fun hne => absurd rfl hne, a3⟩ h5, a4⟩
