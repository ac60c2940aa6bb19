/-! What is marked, in the reference. -/
def stM (μ : Mu) (g : Nat → Int32) : Mu := setG μ 101 g
theorem stM_A {μ : Mu} {g : Nat → Int32} {i : Nat} {v : Int32} : setA (stM μ g) 101 i v = stM μ (upd g i v) := by
  unfold stM setA setG upd
  refine Prod.ext rfl (Prod.ext (funext fun a => funext fun b => ?_) rfl)
  show (if a = 101 ∧ b = i then v else (if a = 101 then g else μ.2.1 a) b) = (if a = 101 then (fun j => if j = i then v else g j) else μ.2.1 a) b
  by_cases ha : a = 101
  · subst ha
    by_cases hb : b = i
    · rw [if_pos ⟨rfl, hb⟩, if_pos rfl, if_pos hb]
    · rw [if_neg (fun h => hb h.2), if_pos rfl, if_pos rfl, if_neg hb]
  · rw [if_neg fun h => ha h.1, if_neg ha, if_neg ha]
theorem stM_at {μ : Mu} {g : Nat → Int32} {c : Nat} : (stM μ g).2.1 101 c = g c := rfl
theorem stM_o {μ : Mu} {g : Nat → Int32} {k c : Nat} (h : k ≠ 101) : (stM μ g).2.1 k c = μ.2.1 k c := by
  show (if k = 101 then g else μ.2.1 k) c = _
  rw [if_neg h]
theorem stM_self (μ : Mu) : stM μ (μ.2.1 101) = μ := by
  unfold stM setG
  refine Prod.ext rfl (Prod.ext (funext fun a => ?_) rfl)
  show (if a = 101 then μ.2.1 101 else μ.2.1 a) = μ.2.1 a
  split
  · next h => rw [h]
  · rfl
/-- a reference of the reference's: none, or one of 104 cells -/
def okX (a : Int32) : Prop := a < 0 ∨ ∃ y, y < 104 ∧ a = nI y
def mk1 (g : Nat → Int32) (a : Int32) : Nat → Int32 := if a < 0 then g else upd g a.toNatClampNeg 1
theorem markRoot_ok {μ : Mu} {g : Nat → Int32} {a : Int32} {Q : Mu → Prop} (ha : okX a) (hq : Q (stM μ (mk1 g a))) : wp_Mod_markRoot a (stM μ g) Q := by
  rcases ha with h | ⟨y, hy, rfl⟩
  · refine ⟨fun _ => ?_, fun h1 => absurd h h1⟩
    unfold mk1 at hq; rw [if_pos h] at hq; exact hq
  · refine ⟨fun h => absurd h (nI_pos (by omega)), fun _ => ⟨vp_in_nI hy (by decide), fun μ2 e2 => ?_⟩⟩
    unfold mk1 at hq; rw [if_neg (nI_pos (by omega))] at hq
    rw [stM_A] at e2; subst e2; exact hq
theorem mk1_at {g : Nat → Int32} {a : Int32} {c : Nat} (hc : c < 104) (ha : okX a) : (¬ mk1 g a c = 0) ↔ ¬ g c = 0 ∨ a = nI c := by
  rcases ha with h | ⟨y, hy, rfl⟩
  · unfold mk1; rw [if_pos h]
    refine ⟨Or.inl, fun h1 => h1.elim id (fun e => ?_)⟩
    rw [e] at h; exact absurd h (nI_pos (by omega))
  · unfold mk1; rw [if_neg (nI_pos (by omega)), nI_clamp (by omega), nI_eq (by omega) (by omega)]
    unfold upd
    by_cases h : c = y
    · rw [if_pos h]; exact ⟨fun _ => Or.inr h.symm, fun _ => by decide⟩
    · rw [if_neg h]; exact ⟨Or.inl, fun h1 => h1.elim id (fun e => absurd e.symm h)⟩
/-- one cell of a round -/
theorem mark_j64 {μ : Mu} {g : Nat → Int32} {w2 v1 v3 l r : Int32} {Rec K0 : Int32 → Int32 → Mu → Prop} {Q : Mu → Prop} (hl : okX l) (hr : okX r)
    (h1 : (¬ v1 = 0 ∨ (∃ y, y < 104 ∧ (l = nI y ∨ r = nI y) ∧ g y = 0)) → Rec 1 (v3 + 1) (stM μ (mk1 (mk1 g l) r))) (h0 : v1 = 0 → (∀ y, y < 104 → (l = nI y ∨ r = nI y) → ¬ g y = 0) → Rec 0 (v3 + 1) (stM μ (mk1 (mk1 g l) r))) : wp_Mod_markAll_j64_18 w2 v1 v3 l r (stM μ g) Rec K0 Q := by
  have go : ∀ x : Int32, Rec x (v3 + 1) (stM μ (mk1 (mk1 g l) r)) → wp_Mod_markRoot l (stM μ g) (fun μ3 => wp_Mod_markRoot r μ3 (fun μ4 => Rec x (v3 + 1) μ4)) := fun x hx => markRoot_ok hl (markRoot_ok hr hx)
  have j85 : v1 = 0 → (∀ y, y < 104 → l = nI y → ¬ g y = 0) → wp_Mod_markAll_j85_18 w2 v3 l r (stM μ g) Rec K0 Q := by
    intro hv hy
    refine ⟨fun hr0 => go 0 (h0 hv fun y h104 he => ?_), fun hr0 => ?_⟩
    · rcases he with he | he
      · exact hy y h104 he
      · rw [he] at hr0; exact absurd hr0 (nI_pos (by omega))
    · rcases hr with h | ⟨z, hz, rfl⟩
      · exact absurd h hr0
      · have hcl : (nI z).toNatClampNeg = z := nI_clamp (by omega)
        refine ⟨vp_in_nI hz (by decide), fun h => go 0 (h0 hv fun y h104 he => ?_), fun h => go 1 (h1 (Or.inr ⟨z, hz, Or.inr rfl, ?_⟩))⟩
        · rcases he with he | he
          · exact hy y h104 he
          · rw [hcl] at h
            obtain rfl : z = y := (nI_eq (by omega) (by omega)).mp he
            exact h
        · rw [hcl] at h; exact h
  refine ⟨fun hv => go 1 (h1 (Or.inl hv)), fun hv => ⟨fun hl0 => j85 hv fun y h104 he => ?_, fun hl0 => ?_⟩⟩
  · rw [he] at hl0; exact absurd hl0 (nI_pos (by omega))
  · rcases hl with h | ⟨z, hz, rfl⟩
    · exact absurd h hl0
    · have hcl : (nI z).toNatClampNeg = z := nI_clamp (by omega)
      refine ⟨vp_in_nI hz (by decide), fun h => go 1 (h1 (Or.inr ⟨z, hz, Or.inl rfl, ?_⟩)), fun h => j85 hv fun y h104 he => ?_⟩
      · rw [hcl] at h; exact h
      · rw [hcl] at h
        obtain rfl : z = y := (nI_eq (by omega) (by omega)).mp he
        exact h
/-- the least set of cells that has the marked ones and goes along with left and right -/
def Rm (μ : Mu) (R : Nat → Prop) (c : Nat) : Prop := ∀ S : Nat → Prop, (∀ x, R x → x < 104 → S x) → (∀ x y, S x → (μ.2.1 99 x = nI y ∨ μ.2.1 100 x = nI y) → y < 104 → S y) → S c
theorem Rm.root {μ : Mu} {R : Nat → Prop} {x : Nat} (h : R x) (h2 : x < 104) : Rm μ R x := fun _ hr _ => hr x h h2
theorem Rm.next {μ : Mu} {R : Nat → Prop} {x y : Nat} (h : Rm μ R x) (he : μ.2.1 99 x = nI y ∨ μ.2.1 100 x = nI y) (h2 : y < 104) : Rm μ R y := fun S hr hn => hn x y (h S hr hn) he h2
theorem round_ok {μ : Mu} {R : Nat → Prop} {g0 : Nat → Int32} (hlr : ∀ x, x < 104 → Rm μ R x → okX (μ.2.1 99 x) ∧ okX (μ.2.1 100 x)) :
    ∀ (m c : Nat) (g : Nat → Int32) (v : Int32), c + m = 104 → (v = 0 ∨ v = 1) → (∀ x, x < 104 → ¬ g0 x = 0 → ¬ g x = 0) → (∀ x, x < 104 → ¬ g x = 0 → Rm μ R x) → (∀ x y, x < c → ¬ g0 x = 0 → (μ.2.1 99 x = nI y ∨ μ.2.1 100 x = nI y) → y < 104 → ¬ g y = 0) → (v = 0 → ∀ x, x < 104 → ¬ g x = 0 → ¬ g0 x = 0) → (v = 1 → ∃ y, y < 104 ∧ g0 y = 0 ∧ ¬ g y = 0) →
      ∃ (g' : Nat → Int32) (v' : Int32), ((v' = 0 ∨ v' = 1) ∧ (∀ x, x < 104 → ¬ g0 x = 0 → ¬ g' x = 0) ∧ (∀ x, x < 104 → ¬ g' x = 0 → Rm μ R x) ∧ (∀ x y, x < 104 → ¬ g0 x = 0 → (μ.2.1 99 x = nI y ∨ μ.2.1 100 x = nI y) → y < 104 → ¬ g' y = 0) ∧ (v' = 0 → ∀ x, x < 104 → ¬ g' x = 0 → ¬ g0 x = 0) ∧ (v' = 1 → ∃ y, y < 104 ∧ g0 y = 0 ∧ ¬ g' y = 0)) ∧
        ∀ (w2 : Int32) (K : Int32 → Int32 → Mu → Prop) (Q : Mu → Prop), K v' (nI 104) (stM μ g') → wp_Mod_markAll_18 w2 K Q (m + 1) v (nI c) (stM μ g) := by
  intro m
  induction m with
  | zero =>
    intro c g v hc h0 h1 h2 h3 h4 h5
    obtain rfl : c = 104 := by omega
    exact ⟨g, v, ⟨h0, h1, h2, h3, h4, h5⟩, fun w2 K Q hq => ⟨fun _ => hq, fun h => absurd (by decide) h⟩⟩
  | succ m ih =>
    intro c g v hc h0 h1 h2 h3 h4 h5
    have hcl : (nI c).toNatClampNeg = c := nI_clamp (by omega)
    have hn : nI c + 1 = nI (c + 1) := nI_1 c
    have hin : vp_in (nI c) 104 := vp_in_nI (by omega) (by decide)
    have h104 : ¬ (104 : Int32) ≤ nI c := nI_ge (b := 104) (by omega) (by decide)
    have okm : okX (-1 : Int32) := Or.inl (by decide)
    by_cases hg : g c = 0
    · -- nothing is done here
      have hm1 : mk1 (mk1 g (-1)) (-1) = g := by unfold mk1; rw [if_pos (by decide), if_pos (by decide)]
      obtain ⟨g', v', hp, hgo⟩ := ih (c + 1) g v (by omega) h0 h1 h2 (fun x y hx h6 => by
        by_cases hxc : x = c
        · subst hxc; exact absurd hg (h1 x (by omega) h6)
        · exact h3 x y (by omega) h6) h4 h5
      refine ⟨g', v', hp, fun w2 K Q hq => ⟨fun h => absurd h h104, fun _ => ⟨hin, fun _ => ⟨hin, fun _ => ?_, fun h => ?_⟩, fun h => ?_⟩⟩⟩
      · refine mark_j64 okm okm (fun h => ?_) (fun hv _ => ?_)
        · rw [hm1, hn]
          rcases h with h | ⟨y, hy, he, _⟩
          · rw [← (h0.resolve_left h)]; exact hgo w2 K Q hq
          · rcases he with he | he
            · exact absurd (by decide : (-1 : Int32) < 0) (by rw [he]; exact nI_pos (by omega))
            · exact absurd (by decide : (-1 : Int32) < 0) (by rw [he]; exact nI_pos (by omega))
        · rw [hm1, hn, ← hv]; exact hgo w2 K Q hq
      · rw [hcl, stM_at] at h; exact absurd hg h
      · rw [hcl, stM_at] at h; exact absurd hg h
    · have hR := h2 c (by omega) hg
      obtain ⟨okl, okr2⟩ := hlr c (by omega) hR
      -- what comes of it
      have hat : ∀ x, x < 104 → ((¬ mk1 (mk1 g (μ.2.1 99 c)) (μ.2.1 100 c) x = 0) ↔ (¬ g x = 0 ∨ μ.2.1 99 c = nI x) ∨ μ.2.1 100 c = nI x) := fun x hx => by rw [mk1_at hx okr2, mk1_at hx okl]
      have step : ∀ v2 : Int32, (v2 = 0 ∨ v2 = 1) → (v2 = 0 → ∀ x, x < 104 → ¬ mk1 (mk1 g (μ.2.1 99 c)) (μ.2.1 100 c) x = 0 → ¬ g0 x = 0) → (v2 = 1 → ∃ y, y < 104 ∧ g0 y = 0 ∧ ¬ mk1 (mk1 g (μ.2.1 99 c)) (μ.2.1 100 c) y = 0) → _ := fun v2 a1 a2 a3 => ih (c + 1) (mk1 (mk1 g (μ.2.1 99 c)) (μ.2.1 100 c)) v2 (by omega) a1
        (fun x hx h6 => (hat x hx).mpr (Or.inl (Or.inl (h1 x hx h6))))
        (fun x hx h6 => by
          rcases (hat x hx).mp h6 with (h | h) | h
          · exact h2 x hx h
          · exact hR.next (Or.inl h) hx
          · exact hR.next (Or.inr h) hx)
        (fun x y hx h6 he hy => by
          by_cases hxc : x = c
          · subst hxc
            rcases he with he | he
            · exact (hat y hy).mpr (Or.inl (Or.inr he))
            · exact (hat y hy).mpr (Or.inr he)
          · exact (hat y hy).mpr (Or.inl (Or.inl (h3 x y (by omega) h6 he hy)))) a2 a3
      have run : ∀ {w2 : Int32} {K : Int32 → Int32 → Mu → Prop} {Q : Mu → Prop}, wp_Mod_markAll_j64_18 w2 v (nI c) (μ.2.1 99 c) (μ.2.1 100 c) (stM μ g) (wp_Mod_markAll_18 w2 K Q (m + 1)) K Q → wp_Mod_markAll_18 w2 K Q (m + 1 + 1) v (nI c) (stM μ g) := by
        intro w2 K Q hj
        refine ⟨fun h => absurd h h104, fun _ => ⟨hin, fun h => ?_, fun _ => ⟨hin, ?_⟩⟩⟩
        · rw [hcl, stM_at] at h; exact absurd h hg
        · rw [hcl, stM_o (by decide)]
          refine ⟨hin, fun h => ?_, fun _ => ⟨hin, ?_⟩⟩
          · rw [hcl, stM_at] at h; exact absurd h hg
          · rw [hcl, stM_o (by decide)]; exact hj
      rcases Classical.em (¬ v = 0 ∨ ∃ y, y < 104 ∧ (μ.2.1 99 c = nI y ∨ μ.2.1 100 c = nI y) ∧ g y = 0) with hnew | hold
      · have a3 : ∃ y, y < 104 ∧ g0 y = 0 ∧ ¬ mk1 (mk1 g (μ.2.1 99 c)) (μ.2.1 100 c) y = 0 := by
          rcases hnew with hv | ⟨y, hy, he, hgy⟩
          · obtain ⟨y, hy, e1, e2⟩ := h5 (h0.resolve_left hv)
            exact ⟨y, hy, e1, (hat y hy).mpr (Or.inl (Or.inl e2))⟩
          · refine ⟨y, hy, Classical.byContradiction fun h6 => h1 y hy h6 hgy, (hat y hy).mpr ?_⟩
            rcases he with he | he
            · exact Or.inl (Or.inr he)
            · exact Or.inr he
        obtain ⟨g', v', hp, hgo⟩ := step 1 (Or.inr rfl) (fun h => absurd h (by decide)) (fun _ => a3)
        refine ⟨g', v', hp, fun w2 K Q hq => run (mark_j64 okl okr2 (fun _ => by rw [hn]; exact hgo w2 K Q hq) (fun hv hy => ?_))⟩
        rcases hnew with h | ⟨y, hy1, he, hgy⟩
        · exact absurd hv h
        · exact absurd hgy (hy y hy1 he)
      · have hv : v = 0 := Classical.byContradiction fun h => hold (Or.inl h)
        have hy : ∀ y, y < 104 → (μ.2.1 99 c = nI y ∨ μ.2.1 100 c = nI y) → ¬ g y = 0 := fun y hy he h6 => hold (Or.inr ⟨y, hy, he, h6⟩)
        obtain ⟨g', v', hp, hgo⟩ := step 0 (Or.inl rfl) (fun _ x hx h6 => by
          rcases (hat x hx).mp h6 with (h | h) | h
          · exact h4 hv x hx h
          · exact h4 hv x hx (hy x hx (Or.inl h))
          · exact h4 hv x hx (hy x hx (Or.inr h))) (fun h => absurd h (by decide))
        refine ⟨g', v', hp, fun w2 K Q hq => run (mark_j64 okl okr2 (fun h => absurd h hold) (fun _ _ => by rw [hn]; exact hgo w2 K Q hq))⟩
/-- markAll -/
theorem markAll_ok {μ : Mu} {R : Nat → Prop} {g : Nat → Int32} (hg : ∀ x, x < 104 → (¬ g x = 0 ↔ R x)) (hlr : ∀ x, x < 104 → Rm μ R x → okX (μ.2.1 99 x) ∧ okX (μ.2.1 100 x)) : ∃ g', (∀ x, x < 104 → (¬ g' x = 0 ↔ Rm μ R x)) ∧ ∀ Q : Mu → Prop, Q (stM μ g') → wp_Mod_markAll (stM μ g) Q := by
  have main : ∀ (m p : Nat) (h : Nat → Int32), p + m = 105 → (∀ x, x < 104 → R x → ¬ h x = 0) → (∀ x, x < 104 → ¬ h x = 0 → Rm μ R x) → p ≤ cnt (fun c => decide (¬ h c = 0)) 104 →
      ∃ g', (∀ x, x < 104 → (¬ g' x = 0 ↔ Rm μ R x)) ∧ ∀ Q : Mu → Prop, Q (stM μ g') → wp_Mod_markAll_4 (fun v20 v21 μ22 => Q μ22) Q (m + 1) 1 (nI p) (stM μ h) := by
    intro m
    induction m with
    | zero =>
      intro p h hp h1 h2 h3
      have := cnt_le (fun c => decide (¬ h c = 0)) 104
      omega
    | succ m ih =>
      intro p h hp h1 h2 h3
      have hn : nI p + 1 = nI (p + 1) := nI_1 p
      have hnp : ¬ (105 : Int32) ≤ nI p := nI_ge (b := 105) (by omega) (by decide)
      obtain ⟨g', v', ⟨a0, a1, a2, a3, a4, a5⟩, hgo⟩ := round_ok (g0 := h) hlr 104 0 h 0 (by omega) (Or.inl rfl) (fun _ _ h => h) h2 (fun x y hx => absurd hx (by omega)) (fun _ _ _ h => h) (fun h => absurd h (by decide))
      rcases a0 with hv | hv
      · subst hv
        have hfin : ∀ x, x < 104 → (¬ g' x = 0 ↔ Rm μ R x) := by
          intro x hx
          refine ⟨a2 x hx, fun hR => ?_⟩
          have := hR (fun y => y < 104 ∧ ¬ g' y = 0) (fun y hy h104 => ⟨h104, a1 y h104 (h1 y h104 hy)⟩) (fun y z hy he hz => ⟨hz, a3 y z hy.1 (a4 rfl y hy.1 hy.2) he hz⟩)
          exact this.2
        refine ⟨g', hfin, fun Q hq => ⟨fun h => absurd h hnp, fun _ => ⟨fun h => absurd h (by decide), fun _ => ⟨105, hgo _ _ _ ?_⟩⟩⟩⟩
        rw [hn]
        refine ⟨fun _ => hq, fun _ => ⟨fun _ => hq, fun h => absurd rfl h⟩⟩
      · subst hv
        obtain ⟨y, hy, e1, e2⟩ := a5 rfl
        have hlt : cnt (fun c => decide (¬ h c = 0) && decide (c < 104)) 104 < cnt (fun c => decide (¬ g' c = 0) && decide (c < 104)) 104 := cnt_lt (fun c hc => by
          simp only [Bool.and_eq_true, decide_eq_true_eq] at hc ⊢
          exact ⟨a1 c hc.2 hc.1, hc.2⟩) hy (by simp [e1]) (by simp [e2, hy])
        have q1 : cnt (fun c => decide (¬ h c = 0) && decide (c < 104)) 104 = cnt (fun c => decide (¬ h c = 0)) 104 := cnt_congr fun c hc => by simp [hc]
        have q2 : cnt (fun c => decide (¬ g' c = 0) && decide (c < 104)) 104 = cnt (fun c => decide (¬ g' c = 0)) 104 := cnt_congr fun c hc => by simp [hc]
        obtain ⟨g2, hg2, hgo2⟩ := ih (p + 1) g' (by omega) (fun x hx hR => a1 x hx (h1 x hx hR)) a2 (by omega)
        refine ⟨g2, hg2, fun Q hq => ⟨fun h => absurd h hnp, fun _ => ⟨fun h => absurd h (by decide), fun _ => ⟨105, hgo _ _ _ ?_⟩⟩⟩⟩
        rw [hn]
        exact hgo2 Q hq
  obtain ⟨g', h1, h2⟩ := main 105 0 g (by omega) (fun x hx h => (hg x hx).mpr h) (fun x hx h => Rm.root ((hg x hx).mp h) hx) (Nat.zero_le _)
  exact ⟨g', h1, fun Q hq => ⟨106, h2 Q hq⟩⟩
