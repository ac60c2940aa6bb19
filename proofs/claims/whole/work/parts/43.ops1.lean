/-! Ops of one tenant. -/
def Ctx (c t d : Nat) (μ : Mu) : Prop := InvX c t μ ∧ t < 4 ∧ (cT μ t).1 0 7 = 1 ∧ (cT μ t).1 6 2 = nI d ∧ d ≤ 6
theorem stk_c {t i : Nat} {μ : Mu} : μ.2.1 (30 + 17 * t) i = (cT μ t).2.1 7 i := cTA (by omega) (by omega)
theorem dep_c {t : Nat} {μ : Mu} : μ.1 (29 + 17 * t) 2 = (cT μ t).1 6 2 := cTF (by omega) (by omega)
theorem dep_r {c t d : Nat} {μ μr : Mu} (h : Ctx c t d μ) (hr : R2X t μ μr) : μr.2.1 112 t = nI d := by
  rw [rVs (k := 112) rfl, ← (hr.2.1 t h.2.1).2.1.2.1.2.2.1]; exact h.2.2.2.1
theorem stk_r {c t d i : Nat} {μ μr : Mu} (h : Ctx c t d μ) (hr : R2X t μ μr) (hi : i < d) : μr.2.1 113 (6 * t + i) = if (cT μ t).2.1 8 i = 0 then (cT μ t).2.1 7 i else enc t ((cT μ t).2.1 7 i).toNatClampNeg := by
  have h6 := h.2.2.2.2
  have e1 : μr.2.1 113 (6 * t + i) = (rV μr t).2 113 i := rVa (k := 113) (show i < 6 by omega)
  rw [e1]
  refine (hr.2.1 t h.2.1).2.1.2.2.2.2.1 i ?_
  show i < ((cT μ t).1 6 2).toNatClampNeg
  rw [h.2.2.2.1, nI_clamp (by omega)]; exact hi
theorem endR_0 {t : Nat} {wr : Mu → (Int32 → Mu → Prop) → Prop} {μr μ2 : Mu} (h : ∀ Q : Int32 → Mu → Prop, Q 0 μ2 → wr μr Q) (Q : Mu → Prop) (hq : Q μ2) : endR t wr μr Q := h _ ⟨fun _ => hq, fun h => absurd (by decide) h⟩
theorem OpOut.push {c t d e : Nat} {l : List Bool} {v b : Int32} {μ : Mu} {wc : Mu → (Mu → Prop) → Prop} {wr : Mu → (Int32 → Mu → Prop) → Prop} (h : Ctx c t d μ) (he : e ≤ d) (he6 : e < 6) (hb : b = 0 ∨ (b = 1 ∧ isR (cG μ 3).toNatClampNeg (cT μ t).2.2 v))
    (hc : ∃ μ1, oneC t (pushB (popB (cT μ t) e) e v b) μ μ1 ∧ ∀ Q : Mu → Prop, Q μ1 → wc μ Q) (hl : l = (b != 0) :: tys ((cT μ t).2.1 8) e)
    (hr : ∀ μr, R2X t μ μr → ∃ w, (w = if b = 0 then v else enc t v.toNatClampNeg) ∧ ∀ Q : Int32 → Mu → Prop, Q 0 (becM μr t e w) → wr μr Q) : OpOut c t l ((cT μ t).1 0 8) ((cT μ t).1 0 9) μ wc wr := by
  obtain ⟨hi, ht, h1, hd, h6⟩ := id h
  obtain ⟨μ1, o1, w1⟩ := hc
  refine OpOut.one hi ht ⟨μ1, _, w1, o1, IT_push (IT_pop (hi.it ht) hd h6 he) rfl he6 hb, rfl, fun a k b1 b2 b3 b4 => ?_, ⟨rfl, rfl, Or.inl ⟨h1, ?_⟩⟩, fun μr hr2 _ => ?_⟩
  · show (if a = 8 ∧ k = e then b else if a = 7 ∧ k = e then v else (cT μ t).2.1 a k) = _
    rw [if_neg (by omega), if_neg (by omega)]
  · show tys ((pushB (popB (cT μ t) e) e v b).2.1 8) (nI (e + 1)).toNatClampNeg = l
    rw [nI_clamp (by omega), tys_push, hl]; rfl
  · obtain ⟨w, hw, go⟩ := hr μr hr2
    refine ⟨becM μr t e w, endR_0 go, becM_one ht he6, ?_, by rw [becM_108]⟩
    rw [becM_V he6]
    exact RTg_push (hr2.2.1 t ht).2.1 hd h6 he he6 hw
/-- an end: the class may have taken something before -/
theorem OpOut.fail {c t d : Nat} {l : List Bool} {e : Int32} {μ : Mu} {wc : Mu → (Mu → Prop) → Prop} {wr : Mu → (Int32 → Mu → Prop) → Prop} (h : Ctx c t d μ) (e0 : ¬ e ≤ 0) (e1 : ¬ e = 1) (e2 : ¬ e = 2)
    (hc : ∃ μ' x, oneC t (bF (cT μ t) 6 2 x) μ μ' ∧ ∀ Q : Mu → Prop, Q (endM μ' t e) → wc μ Q)
    (hr : ∀ μr, R2X t μ μr → ∀ Q : Int32 → Mu → Prop, Q e μr → wr μr Q) : OpOut c t l ((cT μ t).1 0 8) ((cT μ t).1 0 9) μ wc wr := by
  obtain ⟨hi, ht, h1, hd, h6⟩ := id h
  obtain ⟨μ', x, o1, w1⟩ := hc
  have o2 := endM_one (μ := μ') (t := t) (e := e) ht
  rw [o1.2.2.2.1, o1.1] at o2
  have he : ¬ e = 0 := fun h => e0 (by rw [h]; decide)
  refine OpOut.one hi ht ⟨_, _, w1, o1.tr o2, ?_, rfl, shSame_end (B := bF (cT μ t) 6 2 x), Fin_end (B := bF (cT μ t) 6 2 x) e1 e2, fun μr hr2 _ => ?_⟩
  · have := IT_end (e := e) (sl := cG μ 4) (hi.it ht) he
    exact this
  · obtain ⟨μ2, a1, a2, a3, a4⟩ := end_ref (k := t) (e := e) (μ := μr) ht
    refine ⟨μ2, fun Q hq => hr μr hr2 _ ⟨fun h => absurd h e0, fun _ => a1 Q hq⟩, a2, ?_, by rw [a4]⟩
    have := a3 _ x (hr2.2.1 t ht).2.1
    rw [← hr2.1.2.2] at this
    exact this
-- the reference's ways to an op
theorem nek {k j : Nat} (h : k ≠ j) (h1 : k < 2 ^ 31) (h2 : j < 2 ^ 31) : ¬ nI k = nI j := fun e => h ((nI_eq h1 h2).mp e)
theorem plain_a {t k : Nat} {a : Int32} {μr : Mu} {Q : Int32 → Mu → Prop} (h0 : k ≠ 0) (hk : k < 2 ∨ 6 < k) (h25 : k < 25) (h : wp_Mod_plain_j17 (nI t) (nI k) a μr Q) : wp_Mod_plain (nI t) (nI k) a μr Q := by
  refine ⟨fun _ => ⟨fun _ => h, fun h2 => ⟨fun h6 => ?_, fun _ => h⟩⟩, fun h2 => absurd h2 (nek (j := 0) h0 (by omega) (by omega))⟩
  have h6 := (nI_leI (b := 6) (by omega) (by omega)).mp h6
  exact absurd (nI_lt (b := 2) (by omega) (by omega)) h2
theorem plain_b {t k : Nat} {a : Int32} {μr : Mu} {Q : Int32 → Mu → Prop} (hk : 2 ≤ k ∧ k ≤ 6) (h : wp_Mod_plain_j23 (nI t) (nI k) μr Q) : wp_Mod_plain (nI t) (nI k) a μr Q := by
  refine ⟨fun _ => ⟨fun h2 => absurd h2 (nI_nlt (a := k) (b := 2) hk.1 (by omega)), fun _ => ⟨fun _ => h, fun h6 => absurd (nI_le (b := 6) hk.2 (by omega)) h6⟩⟩, fun h2 => absurd h2 (nek (j := 0) (by omega) (by omega) (by omega))⟩
-- PUSH
theorem op_1 {c t d : Nat} {v : Int32} {μ : Mu} (h : Ctx c t d μ) (h6 : d < 6) : OpOut c t (false :: tys ((cT μ t).2.1 8) d) ((cT μ t).1 0 8) ((cT μ t).1 0 9) μ (wp_Stk_putNumber t v) (wp_Mod_plain (nI t) (nI 1) v) := by
  refine OpOut.push (e := d) (v := v) (b := 0) h (Nat.le_refl _) h6 (Or.inl rfl) ⟨pushM μ t d v 0, ?_, fun Q hq => put_ok (by rw [dep_c]; exact h.2.2.2.1) h6 (Or.inl rfl) hq⟩ rfl (fun μr hr => ⟨v, rfl, fun Q hq => plain_a (by decide) (by decide) (by decide) ?_⟩)
  · rw [popB_self h.2.2.2.1]; exact pushM_one h.2.1
  · have := become_ok (n := 0) (v := v) (Q := fun μ19 => Q 0 μ19) h.2.1 (dep_r h hr) (by omega) (by omega) (by rw [Nat.sub_zero]; exact hq)
    exact ⟨fun _ => ⟨fun hh => absurd rfl hh, fun _ => this⟩, fun hh => absurd hh (by decide)⟩
-- ADD, SUB, MUL, LESS, SAME: two values give a number
theorem two_c {c t e : Nat} {v : Int32} {μ : Mu} {wc : Mu → (Mu → Prop) → Prop} (h : Ctx c t (e + 2) μ) (hw : ∀ Q : Mu → Prop, Q (pushM (popM (popM μ t (e + 1)) t e) t e v 0) → wc μ Q) : ∃ μ1, oneC t (pushB (popB (cT μ t) e) e v 0) μ μ1 ∧ ∀ Q : Mu → Prop, Q μ1 → wc μ Q := by
  refine ⟨_, ?_, hw⟩
  have o1 := popM_one (μ := μ) (d := e + 1) h.2.1
  have o2 := popM_one (μ := popM μ t (e + 1)) (d := e) h.2.1
  rw [o1.2.2.2.1, popB_popB] at o2
  have o3 := pushM_one (μ := popM (popM μ t (e + 1)) t e) (d := e) (v := v) (b := 0) h.2.1
  rw [o2.2.2.2.1] at o3
  exact (o1.tr o2).tr o3
theorem two_take {c t e : Nat} {μ : Mu} {Q : Int32 → Int32 → Mu → Prop} (h : Ctx c t (e + 2) μ) (hq : Q ((cT μ t).2.1 7 (e + 1)) ((cT μ t).2.1 7 e) (popM (popM μ t (e + 1)) t e)) : wp_Stk_take t μ (fun x2 μ1 => wp_Stk_take t μ1 (fun x4 μ3 => Q x2 x4 μ3)) := by
  have h6 := h.2.2.2.2
  refine take_ok (d := e + 1) (by rw [dep_c]; exact h.2.2.2.1) (by omega) (take_ok (d := e) popM_d (by omega) ?_)
  rw [popM_A, stk_c, stk_c]
  exact hq
theorem two_r {c t e k : Nat} {a v : Int32} {μ : Mu} (h : Ctx c t (e + 2) μ) (hk : k ≠ 5) (h1 : (cT μ t).2.1 8 (e + 1) = 0) (h0 : (cT μ t).2.1 8 e = 0) (hw : ∀ μr (Q : Int32 → Mu → Prop), Q v μr → wp_Mod_result (nI k) ((cT μ t).2.1 7 e) ((cT μ t).2.1 7 (e + 1)) μr Q) (hk2 : 2 ≤ k ∧ k ≤ 6) :
    ∀ μr, R2X t μ μr → ∃ w, (w = if (0 : Int32) = 0 then v else enc t v.toNatClampNeg) ∧ ∀ Q : Int32 → Mu → Prop, Q 0 (becM μr t e w) → wp_Mod_plain (nI t) (nI k) a μr Q := by
  intro μr hr
  have h6 := h.2.2.2.2
  refine ⟨v, rfl, fun Q hq => plain_b hk2 ?_⟩
  have e1 := stk_r h hr (show e + 1 < e + 2 by omega)
  have e0 := stk_r h hr (show e < e + 2 by omega)
  rw [if_pos h1] at e1
  rw [if_pos h0] at e0
  refine value_ok (i := 1) h.2.1 (dep_r h hr) (by omega) h6 (value_ok (i := 0) h.2.1 (dep_r h hr) (by omega) h6 ?_)
  rw [show e + 2 - 1 - 1 = e by omega, show e + 2 - 1 - 0 = e + 1 by omega, e0, e1]
  refine ⟨fun _ => hw μr _ (become_ok (n := 2) h.2.1 (dep_r h hr) (by omega) (by omega) (by rw [show e + 2 - 2 = e by omega]; exact hq)), fun h5 => absurd h5 (nek (j := 5) hk (by omega) (by omega))⟩
theorem op_calc {c t e k : Nat} {a : Int32} {μ : Mu} (h : Ctx c t (e + 2) μ) (hk : k = 2 ∨ k = 3 ∨ k = 4 ∨ k = 6) (h1 : (cT μ t).2.1 8 (e + 1) = 0) (h0 : (cT μ t).2.1 8 e = 0) : OpOut c t (false :: tys ((cT μ t).2.1 8) e) ((cT μ t).1 0 8) ((cT μ t).1 0 9) μ (wp_Host_calculate t (nI k)) (wp_Mod_plain (nI t) (nI k) a) := by
  have h6 := h.2.2.2.2
  have d2 : (popM (popM μ t (e + 1)) t e).1 (29 + 17 * t) 2 = nI e := popM_d
  have fin : ∀ v : Int32, (∀ Q : Mu → Prop, Q (pushM (popM (popM μ t (e + 1)) t e) t e v 0) → wp_Host_calculate t (nI k) μ Q) → (∀ μr (Q : Int32 → Mu → Prop), Q v μr → wp_Mod_result (nI k) ((cT μ t).2.1 7 e) ((cT μ t).2.1 7 (e + 1)) μr Q) → OpOut c t (false :: tys ((cT μ t).2.1 8) e) ((cT μ t).1 0 8) ((cT μ t).1 0 9) μ (wp_Host_calculate t (nI k)) (wp_Mod_plain (nI t) (nI k) a) := fun v w1 w2 =>
    OpOut.push (e := e) (v := v) (b := 0) h (by omega) (by omega) (Or.inl rfl) (two_c h w1) rfl (two_r h (by omega) h1 h0 w2 (by omega))
  rcases hk with rfl | rfl | rfl | rfl
  · refine fin ((cT μ t).2.1 7 e + (cT μ t).2.1 7 (e + 1)) (fun Q hq => two_take h ⟨fun hh => absurd hh (by decide), fun _ => put_ok d2 (by omega) (Or.inl rfl) hq, fun hh => absurd hh (by decide), fun hh => absurd hh (by decide)⟩) (fun μr Q hq => ⟨fun hh => absurd rfl hh, fun _ => hq⟩)
  · refine fin ((cT μ t).2.1 7 e - (cT μ t).2.1 7 (e + 1)) (fun Q hq => two_take h ⟨fun hh => absurd hh (by decide), fun hh => absurd hh (by decide), fun _ => put_ok d2 (by omega) (Or.inl rfl) hq, fun hh => absurd hh (by decide)⟩) (fun μr Q hq => ⟨fun _ => ⟨fun hh => absurd rfl hh, fun _ => hq⟩, fun hh => absurd hh (by decide)⟩)
  · refine fin ((cT μ t).2.1 7 e * (cT μ t).2.1 7 (e + 1)) (fun Q hq => two_take h ⟨fun hh => absurd hh (by decide), fun hh => absurd hh (by decide), fun hh => absurd hh (by decide), fun _ => put_ok d2 (by omega) (Or.inl rfl) hq⟩) (fun μr Q hq => ⟨fun _ => ⟨fun _ => ⟨fun hh => absurd rfl hh, fun _ => hq⟩, fun hh => absurd hh (by decide)⟩, fun hh => absurd hh (by decide)⟩)
  · refine fin (if (cT μ t).2.1 7 (e + 1) ≤ (cT μ t).2.1 7 e then 0 else 1) (fun Q hq => two_take h ⟨fun _ => ⟨fun hh => ?_, fun hh => ?_⟩, fun hh => absurd hh (by decide), fun hh => absurd hh (by decide), fun hh => absurd hh (by decide)⟩) (fun μr Q hq => ⟨fun _ => ⟨fun _ => ⟨fun _ => ⟨fun _ => ⟨fun hh => absurd rfl hh, fun _ => ⟨fun hh => ?_, fun hh => ?_⟩⟩, fun hh => absurd hh (by decide)⟩, fun hh => absurd hh (by decide)⟩, fun hh => absurd hh (by decide)⟩, fun hh => absurd hh (by decide)⟩)
    · rw [if_pos hh] at hq; exact truth_ok d2 (by omega) (Or.inl rfl) hq
    · rw [if_neg hh] at hq; exact truth_ok d2 (by omega) (Or.inr rfl) hq
    · rw [if_pos hh] at hq; exact hq
    · rw [if_neg hh] at hq; exact hq
-- DIV
theorem op_5 {c t e : Nat} {a : Int32} {μ : Mu} (h : Ctx c t (e + 2) μ) (h1 : (cT μ t).2.1 8 (e + 1) = 0) (h0 : (cT μ t).2.1 8 e = 0) : OpOut c t (false :: tys ((cT μ t).2.1 8) e) ((cT μ t).1 0 8) ((cT μ t).1 0 9) μ (wp_Host_divide t) (wp_Mod_plain (nI t) (nI 5) a) := by
  have h6 := h.2.2.2.2
  have d2 : (popM (popM μ t (e + 1)) t e).1 (29 + 17 * t) 2 = nI e := popM_d
  have rd : ∀ μr, R2X t μ μr → ∀ {Q : Int32 → Mu → Prop}, ((¬ (cT μ t).2.1 7 (e + 1) = 0 → Q 0 (becM μr t e ((cT μ t).2.1 7 e / (cT μ t).2.1 7 (e + 1)))) ∧ ((cT μ t).2.1 7 (e + 1) = 0 → Q 6 μr)) → wp_Mod_plain (nI t) (nI 5) a μr Q := by
    intro μr hr Q hq
    refine plain_b (by decide) ?_
    have e1 := stk_r h hr (show e + 1 < e + 2 by omega)
    have e0 := stk_r h hr (show e < e + 2 by omega)
    rw [if_pos h1] at e1
    rw [if_pos h0] at e0
    refine value_ok (i := 1) h.2.1 (dep_r h hr) (by omega) h6 (value_ok (i := 0) h.2.1 (dep_r h hr) (by omega) h6 ?_)
    rw [show e + 2 - 1 - 1 = e by omega, show e + 2 - 1 - 0 = e + 1 by omega, e0, e1]
    exact ⟨fun hh => absurd rfl hh, fun _ => ⟨fun hz => ⟨fun _ => ⟨fun _ => ⟨fun _ => ⟨fun hh => absurd rfl hh, fun _ => ⟨hz, become_ok (n := 2) h.2.1 (dep_r h hr) (by omega) (by omega) (by rw [show e + 2 - 2 = e by omega]; exact hq.1 hz)⟩⟩, fun hh => absurd hh (by decide)⟩, fun hh => absurd hh (by decide)⟩, fun hh => absurd hh (by decide)⟩, hq.2⟩⟩
  by_cases hz : (cT μ t).2.1 7 (e + 1) = 0
  · refine OpOut.fail (e := 6) h (by decide) (by decide) (by decide) ⟨popM (popM μ t (e + 1)) t e, nI e, ?_, fun Q hq => two_take h ⟨fun hh => absurd hz hh, fun _ => end_cls hq⟩⟩ (fun μr hr Q hq => rd μr hr ⟨fun hh => absurd hz hh, fun _ => hq⟩)
    have o1 := popM_one (μ := μ) (d := e + 1) h.2.1
    have o2 := popM_one (μ := popM μ t (e + 1)) (d := e) h.2.1
    rw [o1.2.2.2.1, popB_popB] at o2
    exact o1.tr o2
  · exact OpOut.push (e := e) (v := (cT μ t).2.1 7 e / (cT μ t).2.1 7 (e + 1)) (b := 0) h (by omega) (by omega) (Or.inl rfl) (two_c h fun Q hq => two_take h ⟨fun _ => ⟨hz, put_ok d2 (by omega) (Or.inl rfl) hq⟩, fun hh => absurd hh hz⟩) rfl (fun μr hr => ⟨_, rfl, fun Q hq => rd μr hr ⟨fun _ => hq, fun hh => absurd hh hz⟩⟩)
