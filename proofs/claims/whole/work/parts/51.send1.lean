/-! SEND: what is to be copied. -/
theorem root_mark {ν : Mu} {w : Int32} : ∀ (m i : Nat) (g : Nat → Int32), i + m = 104 → (∀ x, x < i → g x = if nI x = w then 1 else 0) → ∃ g', (∀ x, x < 104 → g' x = if nI x = w then 1 else 0) ∧ ∀ (K : Int32 → Mu → Prop) (Q : Int32 → Mu → Prop), K (nI 104) (stM ν g') → wp_Mod_toCopy_2 w K Q (m + 1) (nI i) (stM ν g) := by
  intro m
  induction m with
  | zero =>
    intro i g hi hg
    obtain rfl : i = 104 := by omega
    exact ⟨g, hg, fun K Q hq => ⟨fun _ => hq, fun h => absurd (by decide) h⟩⟩
  | succ m ih =>
    intro i g hi hg
    obtain ⟨g', h1, h2⟩ := ih (i + 1) (upd g i (if nI i = w then 1 else 0)) (by omega) (fun x hx => by
      by_cases h : x = i
      · subst h; exact pk_us
      · rw [pk_un h]; exact hg x (by omega))
    have hin : vp_in (nI i) 104 := vp_in_nI (by omega) (by decide)
    refine ⟨g', h1, fun K Q hq => ⟨fun h => absurd h (nI_ge (b := 104) (by omega) (by decide)), fun _ => ⟨fun hn => ⟨hin, fun μ2 e2 => ?_⟩, fun hy => ⟨hin, fun μ2 e2 => ?_⟩⟩⟩⟩
    · rw [nI_clamp (by omega), stM_A] at e2
      rw [if_neg hn] at h2
      rw [e2, nI_1]; exact h2 K Q hq
    · rw [nI_clamp (by omega), stM_A] at e2
      rw [if_pos hy] at h2
      rw [e2, nI_1]; exact h2 K Q hq
def flB (ν : Mu) (v : Nat) : Bool := decide (¬ ν.2.1 101 v = 0 ∧ v < 96)
theorem flag_ok {ν : Mu} : ∀ (m i : Nat) (f : Nat → Int32), i + m = 104 → (∀ v, v < i → f v = if flB ν v = true then 1 else 0) → ∃ f', (∀ v, v < 104 → f' v = if flB ν v = true then 1 else 0) ∧ ∀ (K : Int32 → Int32 → Mu → Prop) (Q : Int32 → Mu → Prop), K (nI (cnt (flB ν) 104)) (nI 104) (setG ν 102 f') → wp_Mod_toCopy_38 K Q (m + 1) (nI (cnt (flB ν) i)) (nI i) (setG ν 102 f) := by
  intro m
  induction m with
  | zero =>
    intro i f hi hf
    obtain rfl : i = 104 := by omega
    exact ⟨f, hf, fun K Q hq => ⟨fun _ => hq, fun h => absurd (by decide) h⟩⟩
  | succ m ih =>
    intro i f hi hf
    obtain ⟨f', h1, h2⟩ := ih (i + 1) (upd f i (if flB ν i = true then 1 else 0)) (by omega) (fun x hx => by
      by_cases h : x = i
      · subst h; exact pk_us
      · rw [pk_un h]; exact hf x (by omega))
    have hin : vp_in (nI i) 104 := vp_in_nI (by omega) (by decide)
    have hcl : (nI i).toNatClampNeg = i := nI_clamp (by omega)
    have hs : cnt (flB ν) (i + 1) = cnt (flB ν) i + if flB ν i = true then 1 else 0 := rfl
    have c0 : nI (cnt (flB ν) i) + (0 : Int32) = nI (cnt (flB ν) i) := by rw [show (0 : Int32) = nI 0 from rfl, nI_add, Nat.add_zero]
    have c1 : nI (cnt (flB ν) i) + (1 : Int32) = nI (cnt (flB ν) i + 1) := nI_1 _
    have a101 : (setG ν 102 f).2.1 101 i = ν.2.1 101 i := by rw [g_o (by decide)]
    have z : ∀ {K : Int32 → Int32 → Mu → Prop} {Q : Int32 → Mu → Prop}, flB ν i = false → K (nI (cnt (flB ν) 104)) (nI 104) (setG ν 102 f') → wp_Mod_toCopy_j69_38 (nI (cnt (flB ν) i)) (nI i) (0 : Int32) (nI i) 102 (setG ν 102 f) (wp_Mod_toCopy_38 K Q (m + 1)) K Q := by
      intro K Q hb hq
      refine ⟨hin, Or.inl rfl, fun μ11 e11 => ⟨hin, fun _ => ?_, fun h => ?_⟩⟩
      · rw [hcl, gA] at e11
        rw [hb] at hs h2
        rw [e11, c0, nI_1]
        have := h2 K Q hq
        rw [hs] at this
        exact this
      · rw [e11, hcl, a_at] at h; exact absurd rfl h
    refine ⟨f', h1, fun K Q hq => ⟨fun h => absurd h (nI_ge (b := 104) (by omega) (by decide)), fun _ => ⟨hin, fun h0 => ?_, fun h0 => ⟨fun h96 => ?_, fun h96 => ?_⟩⟩⟩⟩
    · rw [hcl, a101] at h0
      exact z (decide_eq_false (fun q => q.1 h0)) hq
    · rw [hcl, a101] at h0
      refine z (decide_eq_false (fun q => ?_)) hq
      exact absurd h96 (nI_ge (b := 96) q.2 (by omega))
    · rw [hcl, a101] at h0
      have hb : flB ν i = true := decide_eq_true ⟨h0, Classical.byContradiction fun q => h96 (nI_le (a := 96) (by omega) (by omega))⟩
      refine ⟨hin, Or.inr rfl, fun μ11 e11 => ⟨hin, fun h => ?_, fun _ => ?_⟩⟩
      · rw [e11, hcl, a_at] at h; exact absurd h (by decide)
      · rw [hcl, gA] at e11
        rw [hb] at hs h2
        rw [e11, c1, nI_1]
        have := h2 K Q hq
        rw [hs] at this
        exact this
theorem cnt_add (f : Nat → Bool) (a : Nat) : ∀ b, cnt f (a + b) = cnt f a + cnt (fun c => f (a + c)) b
  | 0 => rfl
  | b + 1 => by
    show cnt f (a + b) + (if f (a + b) = true then 1 else 0) = cnt f a + (cnt (fun c => f (a + c)) b + (if f (a + b) = true then 1 else 0))
    rw [cnt_add f a b, Nat.add_assoc]
theorem cnt_none {f : Nat → Bool} : ∀ {n : Nat}, (∀ c, c < n → f c = false) → cnt f n = 0
  | 0, _ => rfl
  | n + 1, h => by
    unfold cnt
    rw [cnt_none (fun c hc => h c (by omega)), if_neg (by rw [h n (by omega)]; decide)]
theorem toCopy_ok {c t d r : Nat} {μ μr : Mu} {F : Int64} (h : Ctx c t d μ) (hr : R2X t μ μr) (hk : okR (cG μ 3).toNatClampNeg (cT μ t).2.2 r) (hF : ∀ x, tb F x = true ↔ Rc (cT μ t) (fun y => y = r) x) :
    ∃ g f, (∀ v, v < 104 → (¬ f v = 0 ↔ ∃ c, c < 24 ∧ v = 24 * t + c ∧ tb F (9 + c) = true)) ∧ ∀ Q : Int32 → Mu → Prop, Q (nI (cnt (fun c => tb F (9 + c)) 24)) (setG (stM μr g) 102 f) → wp_Mod_toCopy (enc t r) μr Q := by
  obtain ⟨hi, ht, hs1, hd, h6⟩ := id h
  have h8 := hi.sc.1
  have r33 := okR_lt h8 hk
  have hI : IT (cG μ 3).toNatClampNeg (bF (cT μ t) 0 9 ((rV μr t).1 108)) := by
    obtain ⟨a1, a2, a3, a4, a5⟩ := hi.it ht
    exact ⟨a1, a2, a3, fun q => absurd (hs1.symm.trans q) (by decide), a5⟩
  have hRT := (hr.2.1 t ht).2.1
  have hRS := (hr.2.1 t ht).2.2
  obtain ⟨g0, hg0, go0⟩ := root_mark (ν := μr) (w := enc t r) 104 0 (μr.2.1 101) (by omega) (fun x hx => absurd hx (by omega))
  obtain ⟨R1, R2'⟩ := Rm_iff (R := fun y => y = r) (X := fun y => enc t r = nI y) (μ := μr) (B := bF (cT μ t) 0 9 ((rV μr t).1 108)) ht h8 hI hRT hRS (fun y hy he => by
    obtain ⟨q1, q2⟩ := enc_inv ht r33 hy he
    exact ⟨r, hk, q1, q2, rfl⟩) (fun x hx h9 h33 => by
    have hx : x = r := hx
    subst hx
    exact ⟨okR_made h8 hk h9, enc_N (by omega)⟩)
  obtain ⟨g, hg, go⟩ := markAll_ok (μ := μr) (g := g0) (R := fun y => enc t r = nI y) (fun x hx => by
    rw [hg0 x hx]
    constructor
    · intro q
      refine Classical.byContradiction fun hne => q ?_
      rw [if_neg (fun e => hne e.symm)]
    · intro q
      rw [if_pos q.symm]; decide) (fun x hx hm => by
    obtain ⟨-, q, a1, a2, a3, -⟩ := R1 x hm
    exact Rm_okX ht h8 hI hRT hRS a1 a2 a3)
  obtain ⟨f, hf, gof⟩ := flag_ok (ν := stM μr g) 104 0 ((stM μr g).2.1 102) (by omega) (fun x hx => absurd hx (by omega))
  have hfl : ∀ v, v < 104 → (flB (stM μr g) v = true ↔ ∃ c, c < 24 ∧ v = 24 * t + c ∧ tb F (9 + c) = true) := by
    intro v hv
    unfold flB
    rw [decide_eq_true_eq, stM_at, hg v hv]
    constructor
    · rintro ⟨hm, h96⟩
      obtain ⟨-, q, a1, a2, a3, a4⟩ := R1 v hm
      have q33 := okR_lt h8 a1
      have q9 : 9 ≤ q := by
        unfold encN at a3
        split at a3 <;> omega
      refine ⟨q - 9, by omega, ?_, ?_⟩
      · unfold encN at a3
        rw [if_neg (by omega)] at a3
        exact a3
      · rw [show 9 + (q - 9) = q by omega, hF]
        exact a4 q9
    · rintro ⟨c, hc, rfl, hb⟩
      have := R2' (9 + c) ((hF _).mp hb)
      rw [encN_own] at this
      exact ⟨this, by omega⟩
  refine ⟨g, f, fun v hv => ?_, fun Q hq => ⟨105, ?_⟩⟩
  · rw [hf v hv, ← hfl v hv]
    cases flB (stM μr g) v <;> simp
  · have hcnt : cnt (flB (stM μr g)) 104 = cnt (fun c => tb F (9 + c)) 24 := by
      rw [show 104 = (24 * t + 24) + (80 - 24 * t) by omega, cnt_add, cnt_add, cnt_none (n := 24 * t), cnt_none (n := 80 - 24 * t)]
      · rw [Nat.zero_add, Nat.add_zero]
        refine cnt_congr fun c hc => ?_
        have := hfl (24 * t + c) (by omega)
        cases hb : tb F (9 + c) with
        | true => exact this.mpr ⟨c, hc, rfl, hb⟩
        | false =>
          cases hx : flB (stM μr g) (24 * t + c) with
          | false => rfl
          | true =>
            obtain ⟨c', -, e, hb'⟩ := this.mp hx
            rw [show c' = c by omega, hb] at hb'; cases hb'
      · intro c hc
        cases hx : flB (stM μr g) (24 * t + 24 + c) with
        | false => rfl
        | true =>
          obtain ⟨c', h', e, hb'⟩ := (hfl _ (by omega)).mp hx
          omega
      · intro c hc
        cases hx : flB (stM μr g) c with
        | false => rfl
        | true =>
          obtain ⟨c', h', e, hb'⟩ := (hfl _ (by omega)).mp hx
          omega
    have k1 := go0 (fun v5 μ6 => wp_Mod_markAll  μ6 (fun μ7 => (∃ n38, wp_Mod_toCopy_38  (fun v13 v14 μ15 => Q v13 μ15) Q n38 (0 : Int32) (0 : Int32) μ7))) Q (go _ ⟨105, ?_⟩)
    · rw [stM_self] at k1; exact k1
    · have k2 := gof (fun v13 v14 μ15 => Q v13 μ15) Q (by rw [hcnt]; exact hq)
      rw [g_self] at k2
      exact k2
