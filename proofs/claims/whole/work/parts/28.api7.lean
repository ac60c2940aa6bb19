/-! Cells, as both write them; look. -/
def encN (t r : Nat) : Nat := if r < 9 then 95 + r else 24 * t + (r - 9)
theorem enc_0 (t : Nat) : enc t 0 = -1 := if_pos rfl
theorem enc_N {t r : Nat} (h : r ≠ 0) : enc t r = nI (encN t r) := by
  unfold enc encN
  rw [if_neg h]
  split <;> rfl
theorem encN_lt {t r : Nat} (ht : t < 4) (hr : r < 33) : encN t r < 104 := by
  unfold encN
  split <;> omega
theorem enc_lo {t t' r : Nat} (h : r < 9) : enc t r = enc t' r := by
  unfold enc
  rw [if_pos h, if_pos h]
theorem okR_lt {sc : Nat} {m : Int64} {r : Nat} (h8 : sc ≤ 8) (h : okR sc m r) : r < 33 := by
  rcases h with h | h | h
  · omega
  · omega
  · exact h.2.1
/-- what a cell of the class's leads to -/
theorem cell_cls {sc r : Nat} {B : TB} (hI : IT sc B) (hk : okR sc B.2.2 r) (h0 : r ≠ 0) : (∃ a, okR sc B.2.2 a ∧ B.2.1 3 r = nI a) ∧ ∃ a, okR sc B.2.2 a ∧ B.2.1 4 r = nI a := by
  rcases hk with h | ⟨h1, h2⟩ | ⟨h1, h2, h3⟩
  · exact absurd h h0
  · obtain ⟨⟨a, ha, ha1⟩, b, hb, hb1⟩ := hI.2.2.2.2.2.2.2.2.1.2 (r - 1) (by omega)
    have h1r : 1 + (r - 1) = r := by omega
    rw [h1r] at ha1 hb1
    have hok : ∀ {x : Nat}, x ≤ r - 1 → okR sc B.2.2 x := fun {x} hx => by
      rcases Nat.eq_zero_or_pos x with h | h
      · exact Or.inl h
      · exact Or.inr (Or.inl ⟨h, by omega⟩)
    exact ⟨⟨a, hok ha, ha1⟩, b, hok hb, hb1⟩
  · obtain ⟨-, -, ha, hb⟩ := hI.2.2.2.2.2.2.2.1 r h3
    exact ⟨ha, hb⟩
/-- what stands in a cell, in both -/
theorem cell_both {t sc r : Nat} {μ μr : Mu} (hr : R2 μ μr) (ht : t < 4) (hsc : sc ≤ 8) (e3 : cG μ 3 = nI sc) (hk : okR sc (cT μ t).2.2 r) (h0 : r ≠ 0) :
    μr.2.1 98 (encN t r) = (cT μ t).2.1 2 r ∧ μr.2.1 99 (encN t r) = enc t ((cT μ t).2.1 3 r).toNatClampNeg ∧ μr.2.1 100 (encN t r) = enc t ((cT μ t).2.1 4 r).toNatClampNeg := by
  rcases hk with h | ⟨h1, h2⟩ | ⟨h1, h2, h3⟩
  · exact absurd h h0
  · have hs := (hr.2.1 t ht).2 (r - 1) (by rw [e3, nI_clamp (by omega)]; omega)
    have hS : ∀ x, rS μr x (r - 1) = μr.2.1 x (96 + (r - 1)) := fun x => if_pos (by omega)
    have he : encN t r = 96 + (r - 1) := by
      unfold encN
      rw [if_pos (by omega)]
      omega
    have h1r : 1 + (r - 1) = r := by omega
    rw [hS, hS, hS, h1r] at hs
    rw [he]
    obtain ⟨a1, ⟨a, ha, ha1, ha2⟩, b, hb, hb1, hb2⟩ := hs
    refine ⟨a1.symm, ?_, ?_⟩
    · rw [ha1, nI_clamp (by omega), ha2]; exact enc_lo (by omega)
    · rw [hb1, nI_clamp (by omega), hb2]; exact enc_lo (by omega)
  · have he : encN t r = 24 * t + (r - 9) := by
      unfold encN
      rw [if_neg (by omega)]
    have h9 : 9 + (r - 9) = r := by omega
    have hc := (hr.2.1 t ht).1.2.2.2.2.2.2.2.2.2 (r - 9) (by omega) (by rw [h9]; exact h3)
    rw [h9] at hc
    have e98 : μr.2.1 98 (24 * t + (r - 9)) = (rV μr t).2 98 (r - 9) := rVa (k := 98) (show r - 9 < 24 by omega)
    have e99 : μr.2.1 99 (24 * t + (r - 9)) = (rV μr t).2 99 (r - 9) := rVa (k := 99) (show r - 9 < 24 by omega)
    have e100 : μr.2.1 100 (24 * t + (r - 9)) = (rV μr t).2 100 (r - 9) := rVa (k := 100) (show r - 9 < 24 by omega)
    rw [he, e98, e99, e100]
    exact hc
theorem sim_look {c : Nat} {μ : Mu} {a p b : Int32} (hi : Inv c μ) : Sim c μ (wp_Host_look a p b) (wp_Mod_look a p b) := by
  rcases arg4 a with hb | ⟨t, ht, rfl⟩
  · exact Sim.get hi 0 (fun Q hq => ten_bad hb ⟨fun _ => hq, fun h => absurd rfl h⟩) (fun μr _ Q hq => fou_bad hb ⟨fun _ => hq, fun h => absurd rfl h⟩)
  rcases Classical.em (b < 0) with hb1 | hb1
  · exact Sim.get hi 0 (fun Q hq => ten_ok ht ⟨fun h => absurd h z1, fun _ => ⟨fun _ => hq, fun h => absurd hb1 h⟩⟩) (fun μr _ Q hq => fou_ok ht ⟨fun h => absurd h z1, fun _ => ⟨fun _ => hq, fun h => absurd hb1 h⟩⟩)
  rcases (Classical.em (b ≤ (30 : Int32))).symm with hb2 | hb2
  · exact Sim.get hi 0 (fun Q hq => ten_ok ht ⟨fun h => absurd h z1, fun _ => ⟨fun _ => hq, fun _ => ⟨fun h => absurd h hb2, fun _ => hq⟩⟩⟩) (fun μr _ Q hq => fou_ok ht ⟨fun h => absurd h z1, fun _ => ⟨fun _ => hq, fun _ => ⟨fun h => absurd h hb2, fun _ => hq⟩⟩⟩)
  obtain ⟨n, hn, rfl⟩ := nI_of2 (M := 30) (n := 30) (by decide) hb1 hb2
  obtain ⟨len, sc, s, hlen, hsc, hsl, hT, hPr, hcs⟩ := id hi
  have hI := (hT t ht).1
  -- the loops, side by side
  have main : ∀ (m j r : Nat), j + m = n → okR sc (cT μ t).2.2 r → ∃ x, (∀ Q : Int32 → Mu → Prop, Q x μ → wp_Host_look_46 p (nI n) t (fun v9 v10 μ11 => (((¬ v9 = 0) → (vp_in v9 33 ∧ Q (μ11.2.1 (25 + 17 * t) (Int32.toNatClampNeg v9)) μ11)) ∧ ((v9 = 0) → Q (0 : Int32) μ11))) Q (m + 1) (nI r) (nI j) μ) ∧
      ∀ μr, R2 μ μr → ∀ Q : Int32 → Mu → Prop, Q x μr → wp_Mod_look_34 p (nI n) (fun v6 v7 μ8 => (((0 ≤ v6) → (vp_in v6 104 ∧ Q (μ8.2.1 98 (Int32.toNatClampNeg v6)) μ8)) ∧ ((¬ 0 ≤ v6) → Q (0 : Int32) μ8))) Q (m + 1) (enc t r) (nI j) μr := by
    have fin : ∀ r, okR sc (cT μ t).2.2 r → ∃ x, (∀ Q : Int32 → Mu → Prop, Q x μ → (((¬ nI r = 0) → (vp_in (nI r) 33 ∧ Q (μ.2.1 (25 + 17 * t) (Int32.toNatClampNeg (nI r))) μ)) ∧ ((nI r = 0) → Q (0 : Int32) μ))) ∧ ∀ μr, R2 μ μr → ∀ Q : Int32 → Mu → Prop, Q x μr → (((0 ≤ enc t r) → (vp_in (enc t r) 104 ∧ Q (μr.2.1 98 (Int32.toNatClampNeg (enc t r))) μr)) ∧ ((¬ 0 ≤ enc t r) → Q (0 : Int32) μr)) := by
      intro r hr
      have hr33 := okR_lt hsc.1 hr
      rcases Nat.eq_zero_or_pos r with rfl | h0
      · refine ⟨0, fun Q hq => ⟨fun h => absurd rfl h, fun _ => hq⟩, fun μr _ Q hq => ⟨fun h => ?_, fun _ => hq⟩⟩
        rw [enc_0] at h; exact absurd h (by decide)
      · have hne : r ≠ 0 := by omega
        refine ⟨(cT μ t).2.1 2 r, fun Q hq => ⟨fun _ => ⟨vp_in_nI hr33 (by decide), ?_⟩, fun h => absurd h (nI_ne0 h0 (by omega))⟩, fun μr hR Q hq => ⟨fun _ => ?_, fun h => ?_⟩⟩
        · rw [nI_clamp (by omega), cTA (by omega) (by omega)]; exact hq
        · rw [enc_N hne, nI_clamp (by have := encN_lt (r := r) ht hr33; omega), (cell_both hR ht hsc.1 hsc.2 hr hne).1]
          exact ⟨vp_in_nI (encN_lt ht hr33) (by decide), hq⟩
        · rw [enc_N hne] at h; exact absurd (nI_pos' (by have := encN_lt (r := r) ht hr33; omega)) h
    intro m
    induction m with
    | zero =>
      intro j r hj hr
      obtain ⟨x, h1, h2⟩ := fin r hr
      have hnj : nI n ≤ nI j := nI_le (by omega) (by omega)
      exact ⟨x, fun Q hq => ⟨fun _ => h1 Q hq, fun h => absurd hnj h⟩, fun μr hR Q hq => ⟨fun _ => h2 μr hR Q hq, fun h => absurd hnj h⟩⟩
    | succ m ih =>
      intro j r hj hr
      have hr33 := okR_lt hsc.1 hr
      have hnj : ¬ nI n ≤ nI j := nI_ge (by omega) (by omega)
      rcases Nat.eq_zero_or_pos r with h0 | h0
      · obtain ⟨x, h1, h2⟩ := fin r hr
        subst h0
        refine ⟨x, fun Q hq => ⟨fun h => absurd h hnj, fun _ => ⟨fun _ => h1 Q hq, fun h => absurd rfl h⟩⟩, fun μr hR Q hq => ⟨fun h => absurd h hnj, fun _ => ⟨fun _ => h2 μr hR Q hq, fun h => ?_⟩⟩⟩
        rw [enc_0] at h; exact absurd (by decide) h
      · have hne : r ≠ 0 := by omega
        have hjn : nI j + 1 = nI (j + 1) := nI_1 j
        have hcl : (nI r).toNatClampNeg = r := nI_clamp (by omega)
        have hcle : (enc t r).toNatClampNeg = encN t r := by rw [enc_N hne, nI_clamp (by have := encN_lt (r := r) ht hr33; omega)]
        have hine : vp_in (enc t r) 104 := by rw [enc_N hne]; exact vp_in_nI (encN_lt ht hr33) (by decide)
        have hnneg : ¬ enc t r < 0 := by rw [enc_N hne]; exact nI_pos (by have := encN_lt (r := r) ht hr33; omega)
        have hr0 : ¬ nI r = 0 := nI_ne0 h0 (by omega)
        obtain ⟨⟨ql, hl1, hl2⟩, qr, hr1, hr2⟩ := cell_cls hI hr hne
        have hjl : j + 1 + m = n := by omega
        by_cases hbit : ((p >>> (nI j &&& 31)) &&& (1 : Int32)) = (1 : Int32)
        · obtain ⟨x, g1, g2⟩ := ih (j + 1) qr hjl hr1
          refine ⟨x, fun Q hq => ⟨fun h => absurd h hnj, fun _ => ⟨fun h => absurd h hr0, fun _ => ⟨fun h => absurd hbit h, fun _ => ⟨fun h => absurd h z1, fun _ => ⟨vp_in_nI hr33 (by decide), ?_⟩⟩⟩⟩⟩, fun μr hR Q hq => ⟨fun h => absurd h hnj, fun _ => ⟨fun h => absurd h hnneg, fun _ => ⟨fun h => absurd hbit h, fun _ => ⟨hine, ?_⟩⟩⟩⟩⟩
          · rw [hcl, hjn, cTA (by omega) (by omega)]
            show wp_Host_look_46 p (nI n) t _ Q (m + 1) ((cT μ t).2.1 4 r) (nI (j + 1)) μ
            rw [hr2]
            exact g1 Q hq
          · rw [hcle, hjn, (cell_both hR ht hsc.1 hsc.2 hr hne).2.2, hr2, nI_clamp (by have := okR_lt hsc.1 hr1; omega)]
            exact g2 μr hR Q hq
        · obtain ⟨x, g1, g2⟩ := ih (j + 1) ql hjl hl1
          refine ⟨x, fun Q hq => ⟨fun h => absurd h hnj, fun _ => ⟨fun h => absurd h hr0, fun _ => ⟨fun _ => ⟨fun _ => ⟨vp_in_nI hr33 (by decide), ?_⟩, fun h => absurd rfl h⟩, fun h => absurd h hbit⟩⟩⟩, fun μr hR Q hq => ⟨fun h => absurd h hnj, fun _ => ⟨fun h => absurd h hnneg, fun _ => ⟨fun _ => ⟨hine, ?_⟩, fun h => absurd h hbit⟩⟩⟩⟩
          · rw [hcl, hjn, cTA (by omega) (by omega)]
            show wp_Host_look_46 p (nI n) t _ Q (m + 1) ((cT μ t).2.1 3 r) (nI (j + 1)) μ
            rw [hl2]
            exact g1 Q hq
          · rw [hcle, hjn, (cell_both hR ht hsc.1 hsc.2 hr hne).2.1, hl2, nI_clamp (by have := okR_lt hsc.1 hl1; omega)]
            exact g2 μr hR Q hq
  obtain ⟨r0, hr0, er0⟩ := hI.2.2.2.2.2.1.1
  have hr33 := okR_lt hsc.1 hr0
  obtain ⟨x, g1, g2⟩ := main n 0 r0 (by omega) hr0
  refine Sim.get hi x (fun Q hq => ten_ok ht ⟨fun h => absurd h z1, fun _ => ⟨fun h => absurd h hb1, fun _ => ⟨fun _ => ⟨in4 ht, in4 ht, n + 1, ?_⟩, fun h => absurd hb2 h⟩⟩⟩) (fun μr hR Q hq => fou_ok ht ⟨fun h => absurd h z1, fun _ => ⟨fun h => absurd h hb1, fun _ => ⟨fun _ => ⟨ix_le (w := 4) (i := 2) ht (by omega) rfl (by omega), n + 1, ?_⟩, fun h => absurd hb2 h⟩⟩⟩)
  · rw [cl4 ht]
    have e2 : μ.2.1 (32 + 17 * t) (Int32.toNatClampNeg (2 : Int32)) = nI r0 := (cTA (by omega) (by omega)).trans er0
    rw [e2]
    exact g1 Q hq
  · have e2 : μr.2.1 114 (Int32.toNatClampNeg ((4 : Int32) * nI t + (2 : Int32))) = enc t r0 := by
      rw [show ((4 : Int32) * nI t + (2 : Int32)).toNatClampNeg = 4 * t + 2 from ix_cl (w := 4) (i := 2) ht (by omega) (by omega)]
      have e1 : μr.2.1 114 (4 * t + 2) = (rV μr t).2 114 2 := rVa (k := 114) (show 2 < 4 by omega)
      rw [e1, (hR.2.1 t ht).1.2.2.2.1.2.2.1, er0, nI_clamp (by omega)]
    rw [e2]
    exact g2 μr hR Q hq
