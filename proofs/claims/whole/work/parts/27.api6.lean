/-! share and look. -/
def shF (μ : Mu) (t k : Nat) (n l r : Int32) : Mu := setA (setA (setA μ (25 + 17 * t) k n) (26 + 17 * t) k l) (27 + 17 * t) k r
theorem heap_fill {μ : Mu} {t k : Nat} {n l r : Int32} {Q : Mu → Prop} (hk : k < 33) (hq : Q (shF μ t k n l r)) : wp_Heap_fill t (nI k) n l r μ Q := by
  have hc : (nI k).toNatClampNeg = k := nI_clamp (by omega)
  refine ⟨vp_in_nI hk (by decide), fun μ2 e2 => ⟨vp_in_nI hk (by decide), fun μ4 e4 => ⟨vp_in_nI hk (by decide), fun μ6 e6 => ?_⟩⟩⟩
  subst e2 e4 e6
  rw [hc]; exact hq
theorem shF_T {μ : Mu} {t k : Nat} {n l r : Int32} : cT (shF μ t k n l r) t = bA (bA (bA (cT μ t) 2 k n) 3 k l) 4 k r := by
  unfold shF; rw [cT_A (by omega) (by omega), cT_A (by omega) (by omega), cT_A (by omega) (by omega)]
theorem shF_n {μ : Mu} {t t' k : Nat} {n l r : Int32} (h : t' ≠ t) : cT (shF μ t k n l r) t' = cT μ t' := by
  unfold shF; rw [cT_An h (by omega) (by omega), cT_An h (by omega) (by omega), cT_An h (by omega) (by omega)]
theorem shF_P {μ : Mu} {t k p : Nat} {n l r : Int32} (hp : p < 4) : cP (shF μ t k n l r) p = cP μ p := by
  unfold shF; rw [cP_An (by omega), cP_An (by omega), cP_An (by omega)]
theorem isR_mono {sc : Nat} {m : Int64} {v : Int32} (h : isR sc m v) : isR (sc + 1) m v := by
  obtain ⟨r, hr, e⟩ := h
  refine ⟨r, ?_, e⟩
  rcases hr with h | h | h
  · exact Or.inl h
  · exact Or.inr (Or.inl ⟨h.1, by omega⟩)
  · exact Or.inr (Or.inr h)
theorem IT_sh {sc l r : Nat} {B : TB} {n : Int32} (h8 : sc < 8) (hl : l ≤ sc) (hr : r ≤ sc) (h : IT sc B) : IT (sc + 1) (bA (bA (bA B 2 (1 + sc) n) 3 (1 + sc) (nI l)) 4 (1 + sc) (nI r)) := by
  refine ⟨h.1, h.2.1, h.2.2.1, h.2.2.2.1, fun i hi => (h.2.2.2.2.1 i hi).imp id (fun h => ⟨h.1, isR_mono h.2⟩), ⟨isR_mono h.2.2.2.2.2.1.1, isR_mono h.2.2.2.2.2.1.2⟩, fun i hi => isR_mono (h.2.2.2.2.2.2.1 i hi), fun x hx => ?_, ⟨h.2.2.2.2.2.2.2.2.1.1, fun k hk => ?_⟩, h.2.2.2.2.2.2.2.2.2⟩
  · obtain ⟨a1, a2, a3, a4⟩ := h.2.2.2.2.2.2.2.1 x hx
    refine ⟨a1, a2, ?_, ?_⟩
    · show isR (sc + 1) B.2.2 (if 3 = 4 ∧ x = 1 + sc then nI r else if 3 = 3 ∧ x = 1 + sc then nI l else if 3 = 2 ∧ x = 1 + sc then n else B.2.1 3 x)
      rw [if_neg (by omega), if_neg (by omega), if_neg (by omega)]
      exact isR_mono a3
    · show isR (sc + 1) B.2.2 (if 4 = 4 ∧ x = 1 + sc then nI r else if 4 = 3 ∧ x = 1 + sc then nI l else if 4 = 2 ∧ x = 1 + sc then n else B.2.1 4 x)
      rw [if_neg (by omega), if_neg (by omega), if_neg (by omega)]
      exact isR_mono a4
  · by_cases hks : k = sc
    · subst hks
      exact ⟨⟨l, hl, by show (if 3 = 4 ∧ 1 + k = 1 + k then nI r else if 3 = 3 ∧ 1 + k = 1 + k then nI l else _) = _; simp⟩, r, hr, by show (if 4 = 4 ∧ 1 + k = 1 + k then nI r else _) = _; simp⟩
    · obtain ⟨⟨x, hx, hx2⟩, y, hy, hy2⟩ := h.2.2.2.2.2.2.2.2.1.2 k (by omega)
      have q1 : ¬ 1 + k = 1 + sc := by omega
      refine ⟨⟨x, hx, ?_⟩, y, hy, ?_⟩
      · show (if 3 = 4 ∧ 1 + k = 1 + sc then nI r else if 3 = 3 ∧ 1 + k = 1 + sc then nI l else if 3 = 2 ∧ 1 + k = 1 + sc then n else B.2.1 3 (1 + k)) = _
        simp only [q1, and_false, if_false]; exact hx2
      · show (if 4 = 4 ∧ 1 + k = 1 + sc then nI r else if 4 = 3 ∧ 1 + k = 1 + sc then nI l else if 4 = 2 ∧ 1 + k = 1 + sc then n else B.2.1 4 (1 + k)) = _
        simp only [q1, and_false, if_false]; exact hy2
theorem RT_sh {sc t : Nat} {B : TB} {S : PB} {n l r : Int32} (h8 : sc < 8) (h : RT t B S) : RT t (bA (bA (bA B 2 (1 + sc) n) 3 (1 + sc) l) 4 (1 + sc) r) S := by
  refine ⟨h.1, h.2.1, h.2.2.1, h.2.2.2.1, h.2.2.2.2.1, h.2.2.2.2.2.1, h.2.2.2.2.2.2.1, h.2.2.2.2.2.2.2.1, h.2.2.2.2.2.2.2.2.1, fun c hc hb => ?_⟩
  have := h.2.2.2.2.2.2.2.2.2 c hc hb
  have e2 : (bA (bA (bA B 2 (1 + sc) n) 3 (1 + sc) l) 4 (1 + sc) r).2.1 2 (9 + c) = B.2.1 2 (9 + c) := by
    show (if 2 = 4 ∧ 9 + c = 1 + sc then r else if 2 = 3 ∧ 9 + c = 1 + sc then l else if 2 = 2 ∧ 9 + c = 1 + sc then n else B.2.1 2 (9 + c)) = _
    rw [if_neg (by omega), if_neg (by omega), if_neg (by omega)]
  have e3 : (bA (bA (bA B 2 (1 + sc) n) 3 (1 + sc) l) 4 (1 + sc) r).2.1 3 (9 + c) = B.2.1 3 (9 + c) := by
    show (if 3 = 4 ∧ 9 + c = 1 + sc then r else if 3 = 3 ∧ 9 + c = 1 + sc then l else if 3 = 2 ∧ 9 + c = 1 + sc then n else B.2.1 3 (9 + c)) = _
    rw [if_neg (by omega), if_neg (by omega), if_neg (by omega)]
  have e4 : (bA (bA (bA B 2 (1 + sc) n) 3 (1 + sc) l) 4 (1 + sc) r).2.1 4 (9 + c) = B.2.1 4 (9 + c) := by
    show (if 4 = 4 ∧ 9 + c = 1 + sc then r else if 4 = 3 ∧ 9 + c = 1 + sc then l else if 4 = 2 ∧ 9 + c = 1 + sc then n else B.2.1 4 (9 + c)) = _
    rw [if_neg (by omega), if_neg (by omega), if_neg (by omega)]
  rw [e2, e3, e4]
  exact this
/-- a number that share takes: none, or a shared cell -/
theorem arg_sh (a : Int32) {sc : Nat} (h8 : sc ≤ 8) : ((a < (-1 : Int32) ∨ nI sc ≤ a) ∧ ¬ a = -1 ∧ (a < 0 ∨ nI sc ≤ a)) ∨ ∃ l, l ≤ sc ∧ (1 : Int32) + a = nI l ∧ ¬ a < (-1 : Int32) ∧ ¬ nI sc ≤ a ∧ (a = -1 ↔ l = 0) ∧ (1 ≤ l → ¬ a < 0 ∧ (96 : Int32) + a = nI (95 + l)) := by
  have hm : (-1 : Int32).toInt = -1 := by decide
  have h0 : (0 : Int32).toInt = 0 := by decide
  have hn := nI_toInt (n := sc) (by omega)
  by_cases h1 : a = -1
  · right
    refine ⟨0, by omega, by rw [h1]; decide, by rw [h1]; decide, ?_, by simp [h1], fun h => by omega⟩
    rw [h1, Int32.le_iff_toInt_le]; omega
  · by_cases h2 : a < (-1 : Int32)
    · left
      refine ⟨Or.inl h2, h1, Or.inl ?_⟩
      rw [Int32.lt_iff_toInt_lt] at h2 ⊢; omega
    · have h3 : ¬ a < 0 := fun h => h1 (Int32.toInt_inj.mp (by rw [Int32.lt_iff_toInt_lt] at h2 h; omega))
      by_cases h4 : nI sc ≤ a
      · exact Or.inl ⟨Or.inr h4, h1, Or.inr h4⟩
      · right
        obtain ⟨k, hk, rfl⟩ := nI_of h3
        have hk2 : k < sc := Nat.lt_of_not_le fun h => h4 (nI_le h hk)
        refine ⟨k + 1, by omega, ?_, h2, h4, ⟨fun h => absurd h h1, fun h => by omega⟩, fun _ => ⟨h3, ?_⟩⟩
        · rw [show (1 : Int32) = nI 1 from rfl, nI_add, Nat.add_comm]
        · rw [show (96 : Int32) = nI 96 from rfl, nI_add, show 95 + (k + 1) = 96 + k by omega]
theorem son_no {a : Int32} {μ : Mu} {Q : Int32 → Mu → Prop} {sc : Nat} (e : μ.1 0 3 = nI sc) (h : a < (-1 : Int32) ∨ nI sc ≤ a) (hq : Q 0 μ) : wp_Host_isSharedOrNone a μ Q :=
  ⟨fun _ => hq, fun h1 => ⟨fun _ => hq, fun h2 => by rw [e] at h2; exact (h.elim h1 h2).elim⟩⟩
theorem son_yes {a : Int32} {μ : Mu} {Q : Int32 → Mu → Prop} {sc : Nat} (e : μ.1 0 3 = nI sc) (h1 : ¬ a < (-1 : Int32)) (h2 : ¬ nI sc ≤ a) (hq : Q 1 μ) : wp_Host_isSharedOrNone a μ Q :=
  ⟨fun h => absurd h h1, fun _ => ⟨fun h => by rw [e] at h; exact absurd h h2, fun _ => hq⟩⟩
theorem ish_no {a : Int32} {μ : Mu} {Q : Int32 → Mu → Prop} {sc : Nat} (e : μ.1 91 10 = nI sc) (h : a < 0 ∨ nI sc ≤ a) (hq : Q 0 μ) : wp_Mod_isShared a μ Q :=
  ⟨fun _ => hq, fun h1 => ⟨fun _ => hq, fun h2 => by rw [e] at h2; exact (h.elim h1 h2).elim⟩⟩
theorem ish_yes {a : Int32} {μ : Mu} {Q : Int32 → Mu → Prop} {sc : Nat} (e : μ.1 91 10 = nI sc) (h1 : ¬ a < 0) (h2 : ¬ nI sc ≤ a) (hq : Q 1 μ) : wp_Mod_isShared a μ Q :=
  ⟨fun h => absurd h h1, fun _ => ⟨fun h => by rw [e] at h; exact absurd h h2, fun _ => hq⟩⟩
theorem rV_hi {μ : Mu} {t k i : Nat} {v : Int32} (ht : t < 4) (hk : isS k = false) (hi : 96 ≤ i) (hw : wd k ≤ 24) : rV (setA μ k i v) t = rV μ t := by
  unfold rV setA
  refine Prod.ext (funext fun a => ?_) (funext fun a => funext fun b => ?_)
  · show (if isS a = true then (if a = k ∧ t = i then v else μ.2.1 a t) else 0) = if isS a = true then μ.2.1 a t else 0
    rw [if_neg (c := a = k ∧ t = i) fun h => by omega]
  · show (if b < wd a then (if a = k ∧ wd a * t + b = i then v else μ.2.1 a (wd a * t + b)) else 0) = if b < wd a then μ.2.1 a (wd a * t + b) else 0
    by_cases hb : b < wd a
    · rw [if_pos hb, if_pos hb, if_neg]
      rintro ⟨rfl, h2⟩
      have : wd a * t ≤ wd a * 3 := Nat.mul_le_mul_left _ (by omega)
      omega
    · rw [if_neg hb, if_neg hb]
set_option maxHeartbeats 1000000 in
theorem sim_share {c : Nat} {μ : Mu} {n a b : Int32} (hi : Inv c μ) : Sim c μ (wp_Host_share n a b) (wp_Mod_share n a b) := by
  obtain ⟨len, sc, s, hlen, hsc, hsl, hT, hPr, hcs⟩ := id hi
  have e3 : μ.1 0 3 = nI sc := hsc.2
  have er : ∀ μr, R2 μ μr → μr.1 91 10 = nI sc := fun μr hr => hr.1.2.1.symm.trans hsc.2
  rcases Classical.em (sc = 8) with h8 | h8
  · subst h8
    refine Sim.get hi (-1) (fun Q hq => ⟨fun _ => hq, fun h => ?_⟩) (fun μr hr Q hq => ⟨fun _ => hq, fun h => ?_⟩)
    · rw [e3] at h; exact absurd (by decide) h
    · rw [er μr hr] at h; exact absurd rfl h
  have hlt : sc < 8 := by omega
  have hn8 : ∀ {Q : Int32 → Mu → Prop}, wp_Host_isSharedOrNone a μ (fun x2 μ1 => (((x2 = 0) → Q (-1 : Int32) μ1) ∧ ((¬ x2 = 0) → wp_Host_isSharedOrNone b μ1 (fun x4 μ3 => (((¬ x4 = 0) → (∃ n36, wp_Host_share_36 n a b (μ3.1 0 3) (fun v14 μ15 => ∀ μ16 : Mu, μ16 = setF μ15 0 3 ((μ15.1 0 3) + (1 : Int32)) → Q (μ3.1 0 3) μ16) Q n36 (0 : Int32) μ3)) ∧ ((x4 = 0) → Q (-1 : Int32) μ3)))))) → wp_Host_share n a b μ Q := fun h => ⟨fun h1 => by rw [e3] at h1; exact absurd h1 (nI_ge (b := 8) hlt (by decide)), fun _ => h⟩
  have rn8 : ∀ μr, R2 μ μr → ¬ μr.1 91 10 = (8 : Int32) := fun μr hr h => by
    rw [er μr hr] at h; exact h8 ((nI_eq (b := 8) (by omega) (by decide)).mp h)
  rcases arg_sh a hsc.1 with ⟨ha1, ha2, ha3⟩ | ⟨l, hl, la, la1, la2, la3, la4⟩
  · exact Sim.get hi (-1) (fun Q hq => hn8 (son_no e3 ha1 ⟨fun _ => hq, fun h => absurd rfl h⟩)) (fun μr hr Q hq => ⟨fun h => absurd h (rn8 μr hr), fun _ => ⟨fun h => absurd h ha2, fun _ => ish_no (er μr hr) ha3 ⟨fun _ => hq, fun h => absurd rfl h⟩⟩⟩)
  -- the reference's first test passes
  have r22 : ∀ μr, R2 μ μr → ∀ {Q : Int32 → Mu → Prop}, wp_Mod_share_j22 n a b μr Q → wp_Mod_share n a b μr Q := by
    intro μr hr Q hj
    refine ⟨fun h => absurd h (rn8 μr hr), fun _ => ⟨fun _ => hj, fun h => ish_yes (er μr hr) ?_ la2 ⟨fun h => absurd h z1, fun _ => hj⟩⟩⟩
    exact (la4 (Nat.one_le_iff_ne_zero.mpr fun h0 => h (la3.mpr h0))).1
  rcases arg_sh b hsc.1 with ⟨hb1, hb2, hb3⟩ | ⟨r, hr0, ra, ra1, ra2, ra3, ra4⟩
  · exact Sim.get hi (-1) (fun Q hq => hn8 (son_yes e3 la1 la2 ⟨fun h => absurd h z1, fun _ => son_no e3 hb1 ⟨fun h => absurd rfl h, fun _ => hq⟩⟩)) (fun μr hr Q hq => r22 μr hr ⟨fun h => absurd h hb2, fun _ => ish_no (er μr hr) hb3 ⟨fun h => absurd rfl h, fun _ => hq⟩⟩)
  have r37 : ∀ μr, R2 μ μr → ∀ {Q : Int32 → Mu → Prop}, wp_Mod_share_j37 n a b μr Q → wp_Mod_share n a b μr Q := by
    intro μr hr Q hj
    refine r22 μr hr ⟨fun _ => hj, fun h => ish_yes (er μr hr) ?_ ra2 ⟨fun _ => hj, fun h => absurd h z1⟩⟩
    exact (ra4 (Nat.one_le_iff_ne_zero.mpr fun h0 => h (ra3.mpr h0))).1
  have hk1 : (1 : Int32) + nI sc = nI (1 + sc) := by rw [show (1 : Int32) = nI 1 from rfl, nI_add]
  obtain ⟨m1, em1⟩ : ∃ m, m = shF (shF (shF (shF μ 0 (1 + sc) n (nI l) (nI r)) 1 (1 + sc) n (nI l) (nI r)) 2 (1 + sc) n (nI l) (nI r)) 3 (1 + sc) n (nI l) (nI r) := ⟨_, rfl⟩
  have hTT : ∀ t, t < 4 → cT (setF m1 0 3 (nI (sc + 1))) t = bA (bA (bA (cT μ t) 2 (1 + sc) n) 3 (1 + sc) (nI l)) 4 (1 + sc) (nI r) := by
    intro t ht
    rw [cT_Fo (by omega) ht, em1]
    match t, ht with
    | 0, _ => rw [shF_n (by omega), shF_n (by omega), shF_n (by omega), shF_T]
    | 1, _ => rw [shF_n (by omega), shF_n (by omega), shF_T, shF_n (by omega)]
    | 2, _ => rw [shF_n (by omega), shF_T, shF_n (by omega), shF_n (by omega)]
    | 3, _ => rw [shF_T, shF_n (by omega), shF_n (by omega), shF_n (by omega)]
  have hPP : ∀ p, p < 4 → cP (setF m1 0 3 (nI (sc + 1))) p = cP μ p := fun p hp => by rw [cP_Fn (by omega), em1, shF_P hp, shF_P hp, shF_P hp, shF_P hp]
  have hm13 : m1.1 = μ.1 := by rw [em1]; rfl
  have hGG : ∀ j, cG (setF m1 0 3 (nI (sc + 1))) j = if j = 3 then nI (sc + 1) else cG μ j := by
    intro j
    show (if 0 = 0 ∧ j = 3 then nI (sc + 1) else m1.1 0 j) = _
    rw [hm13]
    by_cases hj : j = 3
    · rw [if_pos ⟨rfl, hj⟩, if_pos hj]
    · rw [if_neg fun h => hj h.2, if_neg hj]; rfl
  have hrefm : refEq μ m1 := by
    rw [em1]
    unfold shF
    exact (((((((((((refEq.rf.A (by omega)).A (by omega)).A (by omega)).A (by omega)).A (by omega)).A (by omega)).A (by omega)).A (by omega)).A (by omega)).A (by omega)).A (by omega)).A (by omega)
  refine ⟨nI sc, setF m1 0 3 (nI (sc + 1)), fun Q hq => hn8 (son_yes e3 la1 la2 ⟨fun h => absurd h z1, fun _ => son_yes e3 ra1 ra2 ⟨fun _ => ⟨5, ?_⟩, fun h => absurd h z1⟩⟩), hrefm.F (by omega), ?_, fun μr hr => ?_⟩
  · have step : ∀ {N : Nat} {v : Int32} {ν : Mu} {K : Int32 → Mu → Prop} (t : Nat), t < 4 → v = nI t → wp_Host_share_36 n a b (nI sc) K Q N (v + 1) (shF ν t (1 + sc) n (nI l) (nI r)) → wp_Host_share_36 n a b (nI sc) K Q (N + 1) v ν := by
      intro N v ν K t ht hv hk
      subst hv
      refine ⟨fun h => absurd h (nge4 ht), fun _ => ⟨in4 ht, ?_⟩⟩
      show wp_Heap_fill (nI t).toNatClampNeg ((1 : Int32) + nI sc) n ((1 : Int32) + a) ((1 : Int32) + b) ν _
      rw [hk1, la, ra, cl4 ht]
      exact heap_fill (by omega) hk
    rw [e3]
    refine step 0 (by omega) rfl (step 1 (by omega) (by decide) (step 2 (by omega) (by decide) (step 3 (by omega) (by decide) ⟨fun _ μ16 e16 => ?_, fun h => absurd (by decide) h⟩)))
    rw [← em1] at e16
    rw [e16, show m1.1 0 3 = nI sc by rw [hm13]; exact e3, nI_1]
    exact hq
  · refine ⟨len, sc + 1, s, by rw [hGG]; exact hlen, ⟨by omega, by rw [hGG]; rfl⟩, by rw [hGG]; exact hsl, fun t ht => ?_, fun p hp => by rw [hPP p hp]; exact hPr p hp, ?_⟩
    · rw [hTT t ht]
      refine ⟨IT_sh hlt hl hr0 (hT t ht).1, fun ha => ?_, (hT t ht).2.2⟩
      obtain ⟨p, pos, n2, hp, hh⟩ := (hT t ht).2.1 ha
      refine ⟨p, pos, n2, hp, ?_⟩
      rw [hPP p hp]
      exact hh
    · rw [hTT 0 (by omega), hTT 1 (by omega), hTT 2 (by omega), hTT 3 (by omega)]
      exact hcs
  · have ee : ∀ {x : Nat}, x ≤ sc → (x = 0 → enc 0 x = -1) ∧ (1 ≤ x → enc 0 x = nI (95 + x)) := by
      intro x hx
      unfold enc
      refine ⟨fun h => if_pos h, fun h => ?_⟩
      rw [if_neg (by omega), if_pos (by omega)]
    refine ⟨setF (setA (setA (setA μr 98 (96 + sc) n) 99 (96 + sc) (enc 0 l)) 100 (96 + sc) (enc 0 r)) 91 10 (nI (sc + 1)), fun Q hq => r37 μr hr ?_, (((clsEq.rf.A (by omega)).A (by omega)).A (by omega)).F (by omega), ?_⟩
    · have ix : (96 : Int32) + nI sc = nI (96 + sc) := by rw [show (96 : Int32) = nI 96 from rfl, nI_add]
      have hin : vp_in (nI (96 + sc)) 104 := vp_in_nI (by omega) (by decide)
      have hcl : (nI (96 + sc)).toNatClampNeg = 96 + sc := nI_clamp (by omega)
      have j99 : ∀ ν : Mu, ν.1 91 10 = nI sc → Q (nI sc) (setF (setA ν 100 (96 + sc) (enc 0 r)) 91 10 (nI (sc + 1))) → wp_Mod_share_j99 (enc 0 r) (nI (96 + sc)) 100 ν Q := by
        intro ν hν hQ
        refine ⟨hin, fun μ6 e6 μ7 e7 => ?_⟩
        subst e6
        subst e7
        show Q ((if 91 = 91 ∧ 10 = 10 then ν.1 91 10 + 1 else ν.1 91 10) - 1) (setF (setA ν 100 (nI (96 + sc)).toNatClampNeg (enc 0 r)) 91 10 (ν.1 91 10 + 1))
        rw [if_pos ⟨rfl, rfl⟩, hν, hcl, nI_1, nI_pred]
        exact hQ
      have j74 : ∀ ν : Mu, ν.1 91 10 = nI sc → Q (nI sc) (setF (setA (setA ν 99 (96 + sc) (enc 0 l)) 100 (96 + sc) (enc 0 r)) 91 10 (nI (sc + 1))) → wp_Mod_share_j74 b (enc 0 l) (nI (96 + sc)) 99 ν Q := by
        intro ν hν hQ
        refine ⟨hin, fun μ4 e4 => ?_⟩
        rw [hcl] at e4
        subst e4
        have h2 := j99 (setA ν 99 (96 + sc) (enc 0 l)) hν hQ
        show ((¬ b = (-1 : Int32)) → wp_Mod_share_j99 ((96 : Int32) + b) ((96 : Int32) + ν.1 91 10) 100 _ Q) ∧ ((b = (-1 : Int32)) → wp_Mod_share_j99 (-1 : Int32) ((96 : Int32) + ν.1 91 10) 100 _ Q)
        rw [hν, ix]
        refine ⟨fun h => ?_, fun h => ?_⟩
        · have h1 : 1 ≤ r := Nat.one_le_iff_ne_zero.mpr fun h0 => h (ra3.mpr h0)
          rw [(ra4 h1).2, ← (ee hr0).2 h1]; exact h2
        · rw [← (ee hr0).1 (ra3.mp h)]; exact h2
      refine ⟨by rw [er μr hr, ix]; exact vp_in_nI (by omega) (by decide), fun μ2 e2 => ?_⟩
      rw [er μr hr, ix, hcl] at e2
      subst e2
      have h2 := j74 (setA μr 98 (96 + sc) n) (er μr hr) hq
      show ((¬ a = (-1 : Int32)) → wp_Mod_share_j74 b ((96 : Int32) + a) ((96 : Int32) + μr.1 91 10) 99 _ Q) ∧ ((a = (-1 : Int32)) → wp_Mod_share_j74 b (-1 : Int32) ((96 : Int32) + μr.1 91 10) 99 _ Q)
      rw [er μr hr, ix]
      refine ⟨fun h => ?_, fun h => ?_⟩
      · have h1 : 1 ≤ l := Nat.one_le_iff_ne_zero.mpr fun h0 => h (la3.mpr h0)
        rw [(la4 h1).2, ← (ee hl).2 h1]; exact h2
      · rw [← (ee hl).1 (la3.mp h)]; exact h2
    · have hV : ∀ t, t < 4 → rV (setF (setA (setA (setA μr 98 (96 + sc) n) 99 (96 + sc) (enc 0 l)) 100 (96 + sc) (enc 0 r)) 91 10 (nI (sc + 1))) t = rV μr t := fun t ht => by
        rw [rV_F, rV_hi ht rfl (by omega) (by decide), rV_hi ht rfl (by omega) (by decide), rV_hi ht rfl (by omega) (by decide)]
      have hrg : ∀ j, rG (setF (setA (setA (setA μr 98 (96 + sc) n) 99 (96 + sc) (enc 0 l)) 100 (96 + sc) (enc 0 r)) 91 10 (nI (sc + 1))) j = if j = 10 then nI (sc + 1) else rG μr j := by
        intro j
        show (if 91 = 91 ∧ j = 10 then nI (sc + 1) else μr.1 91 j) = _
        by_cases hj : j = 10
        · rw [if_pos ⟨rfl, hj⟩, if_pos hj]
        · rw [if_neg fun h => hj h.2, if_neg hj]; rfl
      refine ⟨⟨?_, ?_, ?_⟩, fun t ht => ⟨?_, ?_⟩, fun p hp => ?_⟩
      · rw [hGG, hrg]; exact hr.1.1
      · rw [hGG, hrg]; rfl
      · rw [hGG, hrg]; exact hr.1.2.2
      · rw [hTT t ht, hV t ht]
        exact RT_sh hlt (hr.2.1 t ht).1
      · rw [hTT t ht, hGG, if_pos rfl, nI_clamp (by omega)]
        intro k hk
        have hs98 : ∀ x v : Nat, True := fun _ _ => trivial
        show (if 2 = 4 ∧ 1 + k = 1 + sc then nI r else if 2 = 3 ∧ 1 + k = 1 + sc then nI l else if 2 = 2 ∧ 1 + k = 1 + sc then n else (cT μ t).2.1 2 (1 + k)) = (if k < 8 then (if 98 = 100 ∧ 96 + k = 96 + sc then enc 0 r else if 98 = 99 ∧ 96 + k = 96 + sc then enc 0 l else if 98 = 98 ∧ 96 + k = 96 + sc then n else μr.2.1 98 (96 + k)) else 0) ∧
          (∃ x, x ≤ k ∧ (if 3 = 4 ∧ 1 + k = 1 + sc then nI r else if 3 = 3 ∧ 1 + k = 1 + sc then nI l else if 3 = 2 ∧ 1 + k = 1 + sc then n else (cT μ t).2.1 3 (1 + k)) = nI x ∧ (if k < 8 then (if 99 = 100 ∧ 96 + k = 96 + sc then enc 0 r else if 99 = 99 ∧ 96 + k = 96 + sc then enc 0 l else if 99 = 98 ∧ 96 + k = 96 + sc then n else μr.2.1 99 (96 + k)) else 0) = enc 0 x) ∧
          (∃ x, x ≤ k ∧ (if 4 = 4 ∧ 1 + k = 1 + sc then nI r else if 4 = 3 ∧ 1 + k = 1 + sc then nI l else if 4 = 2 ∧ 1 + k = 1 + sc then n else (cT μ t).2.1 4 (1 + k)) = nI x ∧ (if k < 8 then (if 100 = 100 ∧ 96 + k = 96 + sc then enc 0 r else if 100 = 99 ∧ 96 + k = 96 + sc then enc 0 l else if 100 = 98 ∧ 96 + k = 96 + sc then n else μr.2.1 100 (96 + k)) else 0) = enc 0 x)
        by_cases hks : k = sc
        · subst hks
          refine ⟨by simp [hlt], ⟨l, hl, by simp, by simp [hlt]⟩, r, hr0, by simp, by simp [hlt]⟩
        · have hk2 : k < sc := by omega
          have hold := (hr.2.1 t ht).2 k (by rw [hsc.2, nI_clamp (by omega)]; exact hk2)
          have hS : ∀ x, rS μr x k = μr.2.1 x (96 + k) := fun x => if_pos (by omega)
          rw [hS, hS, hS] at hold
          have q1 : ¬ 1 + k = 1 + sc := by omega
          have q2 : ¬ 96 + k = 96 + sc := by omega
          have q3 : k < 8 := by omega
          simp only [q1, q2, q3, and_false, if_false, if_true]
          exact hold
      · rw [hPP p hp, hV p hp]; exact hr.2.2 p hp
