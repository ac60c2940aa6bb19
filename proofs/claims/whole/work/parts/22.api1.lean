/-! Calls that read. -/
def Sim (c' : Nat) (μ : Mu) (wc wr : Mu → (Int32 → Mu → Prop) → Prop) : Prop := ∃ x μ1, (∀ Q : Int32 → Mu → Prop, Q x μ1 → wc μ Q) ∧ refEq μ μ1 ∧ Inv c' μ1 ∧ ∀ μr, R2 μ μr → ∃ μ2, (∀ Q : Int32 → Mu → Prop, Q x μ2 → wr μr Q) ∧ clsEq μr μ2 ∧ R2 μ1 μ2
theorem Sim.get {c : Nat} {μ : Mu} {wc wr : Mu → (Int32 → Mu → Prop) → Prop} (hi : Inv c μ) (x : Int32) (h1 : ∀ Q : Int32 → Mu → Prop, Q x μ → wc μ Q) (h2 : ∀ μr, R2 μ μr → ∀ Q : Int32 → Mu → Prop, Q x μr → wr μr Q) : Sim c μ wc wr :=
  ⟨x, μ, h1, refEq.rf, hi, fun μr hr => ⟨μr, h2 μr hr, clsEq.rf, hr⟩⟩
theorem arg4 (a : Int32) : (a < 0 ∨ (4 : Int32) ≤ a) ∨ ∃ t, t < 4 ∧ a = nI t := by
  rcases pk_ix a (n := 4) (by decide) with h | h | h
  · exact Or.inl (Or.inl h)
  · exact Or.inl (Or.inr h)
  · exact Or.inr h
theorem lt34 {a : Int32} (h : (4 : Int32) ≤ a) : (3 : Int32) < a := by
  rw [Int32.le_iff_toInt_le] at h
  rw [Int32.lt_iff_toInt_lt]
  have h1 : (4 : Int32).toInt = 4 := by decide
  have h2 : (3 : Int32).toInt = 3 := by decide
  omega
theorem ten_bad {a : Int32} {μ : Mu} {Q : Int32 → Mu → Prop} (h : a < 0 ∨ (4 : Int32) ≤ a) (hq : Q 0 μ) : wp_Host_isTenant a μ Q :=
  ⟨fun _ => hq, fun h1 => ⟨fun _ => hq, fun h2 => (h.elim h1 h2).elim⟩⟩
theorem prg_bad {a : Int32} {μ : Mu} {Q : Int32 → Mu → Prop} (h : a < 0 ∨ (4 : Int32) ≤ a) (hq : Q 0 μ) : wp_Host_isProgram a μ Q :=
  ⟨fun _ => hq, fun h1 => ⟨fun _ => hq, fun h2 => (h.elim h1 h2).elim⟩⟩
theorem fou_bad {a : Int32} {μ : Mu} {Q : Int32 → Mu → Prop} (h : a < 0 ∨ (4 : Int32) ≤ a) (hq : Q 0 μ) : wp_Mod_four a μ Q :=
  ⟨fun _ => hq, fun h1 => ⟨fun _ => hq, fun h2 => (h.elim h1 (fun h3 => h2 (lt34 h3))).elim⟩⟩
theorem nge4 {t : Nat} (ht : t < 4) : ¬ (4 : Int32) ≤ nI t := nI_ge (b := 4) ht (by decide)
theorem ngt3 {t : Nat} (ht : t < 4) : ¬ (3 : Int32) < nI t := nI_nlt (a := 3) (b := t) (by omega) (by omega)
theorem ten_ok {t : Nat} {μ : Mu} {Q : Int32 → Mu → Prop} (ht : t < 4) (hq : Q 1 μ) : wp_Host_isTenant (nI t) μ Q :=
  ⟨fun h => absurd h (nI_pos (by omega)), fun _ => ⟨fun h => absurd h (nge4 ht), fun _ => hq⟩⟩
theorem prg_ok {t : Nat} {μ : Mu} {Q : Int32 → Mu → Prop} (ht : t < 4) (hq : Q 1 μ) : wp_Host_isProgram (nI t) μ Q :=
  ⟨fun h => absurd h (nI_pos (by omega)), fun _ => ⟨fun h => absurd h (nge4 ht), fun _ => hq⟩⟩
theorem fou_ok {t : Nat} {μ : Mu} {Q : Int32 → Mu → Prop} (ht : t < 4) (hq : Q 1 μ) : wp_Mod_four (nI t) μ Q :=
  ⟨fun h => absurd h (nI_pos (by omega)), fun _ => ⟨fun h => absurd h (ngt3 ht), fun _ => hq⟩⟩
theorem in4 {t : Nat} (ht : t < 4) : vp_in (nI t) 4 := vp_in_nI ht (by decide)
theorem cl4 {t : Nat} (ht : t < 4) : (nI t).toNatClampNeg = t := nI_clamp (by omega)
theorem z1 : ¬ (1 : Int32) = 0 := by decide
-- what the views are
theorem cTF {μ : Mu} {t k j : Nat} (h1 : 23 ≤ k) (h2 : k < 40) : μ.1 (k + 17 * t) j = (cT μ t).1 (k - 23) j := by
  show _ = if k - 23 < 17 then μ.1 (23 + (k - 23) + 17 * t) j else 0
  rw [if_pos (by omega), show 23 + (k - 23) = k by omega]
theorem cTA {μ : Mu} {t k i : Nat} (h1 : 23 ≤ k) (h2 : k < 40) : μ.2.1 (k + 17 * t) i = (cT μ t).2.1 (k - 23) i := by
  show _ = if k - 23 < 17 then μ.2.1 (23 + (k - 23) + 17 * t) i else 0
  rw [if_pos (by omega), show 23 + (k - 23) = k by omega]
theorem rVs {μ : Mu} {t k : Nat} (h : isS k = true) : μ.2.1 k t = (rV μ t).1 k := by
  show _ = if isS k = true then μ.2.1 k t else 0
  rw [if_pos h]
theorem rVa {μ : Mu} {t k i : Nat} (h : i < wd k) : μ.2.1 k (wd k * t + i) = (rV μ t).2 k i := by
  show _ = if i < wd k then μ.2.1 k (wd k * t + i) else 0
  rw [if_pos h]
/-- a call that reads a number of a tenant -/
theorem sim_field {c : Nat} {μ : Mu} {a : Int32} {k j r : Nat} (hi : Inv c μ) (h1 : 23 ≤ k) (h2 : k < 40) (h3 : isS r = true) (hR : ∀ t B S, RT t B S → B.1 (k - 23) j = S.1 r) :
    Sim c μ (fun μ Q => wp_Host_isTenant a μ (fun x2 μ1 => (((x2 = 0) → Q (-1 : Int32) μ1) ∧ ((¬ x2 = 0) → (vp_in a 4 ∧ Q (μ1.1 (k + 17 * (Int32.toNatClampNeg a)) j) μ1)))))
      (fun μ Q => wp_Mod_four a μ (fun x2 μ1 => (((x2 = 0) → Q (-1 : Int32) μ1) ∧ ((¬ x2 = 0) → (vp_in a 4 ∧ Q (μ1.2.1 r (Int32.toNatClampNeg a)) μ1))))) := by
  rcases arg4 a with hb | ⟨t, ht, rfl⟩
  · exact Sim.get hi (-1) (fun Q hq => ten_bad hb ⟨fun _ => hq, fun h => absurd rfl h⟩) (fun μr _ Q hq => fou_bad hb ⟨fun _ => hq, fun h => absurd rfl h⟩)
  · refine Sim.get hi (μ.1 (k + 17 * t) j) (fun Q hq => ten_ok ht ⟨fun h => absurd h z1, fun _ => ⟨in4 ht, ?_⟩⟩) (fun μr hr Q hq => fou_ok ht ⟨fun h => absurd h z1, fun _ => ⟨in4 ht, ?_⟩⟩)
    · rw [cl4 ht]; exact hq
    · rw [cl4 ht, rVs h3, ← hR t _ _ (hr.2.1 t ht).1, ← cTF h1 h2]; exact hq
theorem sim_state {c : Nat} {μ : Mu} {a : Int32} (hi : Inv c μ) : Sim c μ (wp_Host_state a) (wp_Mod_state a) := sim_field hi (by decide) (by decide) rfl (fun _ _ _ h => h.1.1)
theorem sim_steps {c : Nat} {μ : Mu} {a : Int32} (hi : Inv c μ) : Sim c μ (wp_Host_steps a) (wp_Mod_steps a) := sim_field hi (by decide) (by decide) rfl (fun _ _ _ h => h.1.2.2.2.2.1)
theorem sim_collections {c : Nat} {μ : Mu} {a : Int32} (hi : Inv c μ) : Sim c μ (wp_Host_collections a) (wp_Mod_collections a) := sim_field hi (by decide) (by decide) rfl (fun _ _ _ h => h.2.1.2.1)
theorem sim_ended {c : Nat} {μ : Mu} {a : Int32} (hi : Inv c μ) : Sim c μ (wp_Host_ended a) (wp_Mod_ended a) := sim_field hi (by decide) (by decide) rfl (fun _ _ _ h => h.1.2.2.2.2.2)
theorem sim_messages {c : Nat} {μ : Mu} {a : Int32} (hi : Inv c μ) : Sim c μ (wp_Host_messages a) (wp_Mod_messages a) := sim_field hi (by decide) (by decide) rfl (fun _ _ _ h => h.2.1.2.2.2.1)
theorem ix_le {t k w i : Nat} (ht : t < 4) (hi : i < w) (hk : w * 4 = k) (hw : w < 1000) : vp_in (nI w * nI t + nI i) k := by
  rw [pk_mul, nI_add]
  refine vp_in_nI ?_ (by omega)
  have : w * t ≤ w * 3 := Nat.mul_le_mul_left w (by omega)
  omega
theorem ix_cl {t w i : Nat} (ht : t < 4) (hi : i < w) (hw : w < 1000) : (nI w * nI t + nI i).toNatClampNeg = w * t + i := by
  rw [pk_mul, nI_add]
  refine nI_clamp ?_
  have : w * t ≤ w * 3 := Nat.mul_le_mul_left w (by omega)
  omega
theorem sim_local {c : Nat} {μ : Mu} {a b : Int32} (hi : Inv c μ) : Sim c μ (wp_Host_local a b) (wp_Mod_local a b) := by
  rcases arg4 a with hb | ⟨t, ht, rfl⟩
  · exact Sim.get hi 0 (fun Q hq => ten_bad hb ⟨fun _ => hq, fun h => absurd rfl h⟩) (fun μr _ Q hq => fou_bad hb ⟨fun _ => hq, fun h => absurd rfl h⟩)
  rcases pk_ix b (n := 2) (by decide) with hb | hb | ⟨i, hi2, rfl⟩
  · refine Sim.get hi 0 (fun Q hq => ten_ok ht ⟨fun h => absurd h z1, fun _ => ⟨fun _ => hq, fun h => absurd hb h⟩⟩) (fun μr hr Q hq => fou_ok ht ⟨fun h => absurd h z1, fun _ => ⟨fun h => ?_, fun _ => ⟨fun _ => hq, fun h => ?_⟩⟩⟩)
    · rw [h] at hb; exact absurd hb (by decide)
    · rw [h] at hb; exact absurd hb (by decide)
  · refine Sim.get hi 0 (fun Q hq => ten_ok ht ⟨fun h => absurd h z1, fun _ => ⟨fun _ => hq, fun _ => ⟨fun _ => hq, fun h => absurd hb h⟩⟩⟩) (fun μr hr Q hq => fou_ok ht ⟨fun h => absurd h z1, fun _ => ⟨fun h => ?_, fun _ => ⟨fun _ => hq, fun h => ?_⟩⟩⟩)
    · rw [h] at hb; exact absurd hb (by decide)
    · rw [h] at hb; exact absurd hb (by decide)
  · have hci : (nI i).toNatClampNeg = i := nI_clamp (by omega)
    have hx : ∀ μr, R2 μ μr → μr.2.1 114 (4 * t + i) = μ.2.1 (32 + 17 * t) i := by
      intro μr hr
      have h := (hr.2.1 t ht).1.2.2.2.1
      have e1 : μr.2.1 114 (4 * t + i) = (rV μr t).2 114 i := rVa (k := 114) (show i < 4 by omega)
      have e2 : μ.2.1 (32 + 17 * t) i = (cT μ t).2.1 9 i := cTA (by omega) (by omega)
      rw [e1, e2]
      match i, hi2 with
      | 0, _ => exact h.1.symm
      | 1, _ => exact h.2.1.symm
    refine Sim.get hi (μ.2.1 (32 + 17 * t) i) (fun Q hq => ten_ok ht ⟨fun h => absurd h z1, fun _ => ⟨fun h => absurd h (nI_pos (by omega)), fun _ => ⟨fun h => absurd h (nI_ge (b := 2) hi2 (by decide)), fun _ => ⟨in4 ht, vp_in_nI (by omega) (by decide), ?_⟩⟩⟩⟩) (fun μr hr Q hq => fou_ok ht ⟨fun h => absurd h z1, fun _ => ?_⟩)
    · rw [cl4 ht, hci]; exact hq
    · have hq2 : vp_in ((4 : Int32) * nI t + nI i) 16 ∧ Q (μr.2.1 114 (Int32.toNatClampNeg ((4 : Int32) * nI t + nI i))) μr := by
        refine ⟨ix_le (w := 4) ht (by omega) rfl (by omega), ?_⟩
        rw [show ((4 : Int32) * nI t + nI i).toNatClampNeg = 4 * t + i from ix_cl (w := 4) ht (by omega) (by omega), hx μr hr]
        exact hq
      refine ⟨fun _ => hq2, fun h0 => ⟨fun h1 => ?_, fun _ => hq2⟩⟩
      match i, hi2 with
      | 0, _ => exact absurd rfl h0
      | 1, _ => exact absurd rfl h1
theorem line_item {k n i cnt : Nat} {μ : Mu} {Q : Int32 → Mu → Prop} (hc : μ.1 k 1 = nI cnt) (hn : cnt ≤ n) (hn2 : n < 2 ^ 31) (hi : i < cnt) (hq : Q (μ.2.1 (k + 1) i) μ) : wp_Line_itemAt k n (nI i) μ Q := by
  refine ⟨fun h => absurd h (nI_pos (by omega)), fun _ => ⟨fun h => ?_, fun _ => ⟨vp_in_nI (by omega) hn2, ?_⟩⟩⟩
  · rw [hc] at h; exact absurd h (nI_ge hi (by omega))
  · rw [nI_clamp (by omega)]; exact hq
theorem line_none {k n : Nat} {a : Int32} {μ : Mu} {Q : Int32 → Mu → Prop} (h : a < 0 ∨ μ.1 k 1 ≤ a) (hq : Q 0 μ) : wp_Line_itemAt k n a μ Q :=
  ⟨fun _ => hq, fun h1 => ⟨fun _ => hq, fun h2 => (h.elim h1 h2).elim⟩⟩
theorem sim_output {c : Nat} {μ : Mu} {a b : Int32} (hi : Inv c μ) : Sim c μ (wp_Host_output a b) (wp_Mod_output a b) := by
  rcases arg4 a with hb | ⟨t, ht, rfl⟩
  · exact Sim.get hi 0 (fun Q hq => ten_bad hb ⟨fun h => absurd rfl h, fun _ => hq⟩) (fun μr _ Q hq => fou_bad hb ⟨fun _ => hq, fun h => absurd rfl h⟩)
  obtain ⟨len, sc, s, -, -, -, hT, -⟩ := id hi
  obtain ⟨o, ho, hoe⟩ := (hT t ht).1.1.2.2.2
  have hce : μ.1 (37 + 17 * t) 1 = nI o := by rw [cTF (by omega) (by omega)]; exact hoe
  have hre : ∀ μr, R2 μ μr → μr.2.1 120 t = nI o := fun μr hr => by
    rw [rVs (k := 120) rfl, ← (hr.2.1 t ht).1.2.1.2.2.2.2.2]; exact hoe
  have hm1 : ∀ x : Int32, x = -1 → x < nI o := fun x hx => by
    rw [hx, Int32.lt_iff_toInt_lt, nI_toInt (by omega)]
    have : (-1 : Int32).toInt = -1 := by decide
    omega
  by_cases hb1 : b = -1
  · refine Sim.get hi (nI o) (fun Q hq => ten_ok ht ⟨fun _ => ⟨fun h => absurd hb1 h, fun _ => ⟨in4 ht, ?_⟩⟩, fun h => absurd h z1⟩) (fun μr hr Q hq => fou_ok ht ⟨fun h => absurd h z1, fun _ => ⟨fun h => ?_, fun _ => ⟨in4 ht, fun _ => ⟨fun h => absurd hb1 h, fun _ => ⟨in4 ht, ?_⟩⟩, fun h => ?_⟩⟩⟩)
    · rw [cl4 ht, hce]; exact hq
    · rw [hb1] at h; exact absurd h (by decide)
    · rw [cl4 ht, hre μr hr]; exact hq
    · rw [cl4 ht, hre μr hr] at h; exact absurd (hm1 b hb1) h
  rcases pk_ix b (n := o) (by omega) with hb | hb | ⟨i, hi2, rfl⟩
  · refine Sim.get hi 0 (fun Q hq => ten_ok ht ⟨fun _ => ⟨fun _ => ⟨in4 ht, line_none (Or.inl hb) hq⟩, fun h => absurd h hb1⟩, fun h => absurd h z1⟩) (fun μr hr Q hq => fou_ok ht ⟨fun h => absurd h z1, fun _ => ⟨fun _ => hq, fun h => ?_⟩⟩)
    rw [Int32.lt_iff_toInt_lt] at hb h
    have h1 : (-1 : Int32).toInt = -1 := by decide
    have h2 : (0 : Int32).toInt = 0 := by decide
    exact absurd (Int32.toInt_inj.mp (by omega : b.toInt = (-1 : Int32).toInt)) hb1
  · have hn : ¬ b < nI o := fun h => by
      rw [Int32.lt_iff_toInt_lt] at h
      rw [Int32.le_iff_toInt_le] at hb
      omega
    refine Sim.get hi 0 (fun Q hq => ten_ok ht ⟨fun _ => ⟨fun _ => ⟨in4 ht, line_none (Or.inr (by rw [cl4 ht, hce]; exact hb)) hq⟩, fun h => absurd h hb1⟩, fun h => absurd h z1⟩) (fun μr hr Q hq => fou_ok ht ⟨fun h => absurd h z1, fun _ => ⟨fun _ => hq, fun _ => ⟨in4 ht, fun h => ?_, fun _ => hq⟩⟩⟩)
    rw [cl4 ht, hre μr hr] at h; exact absurd h hn
  · have hx : ∀ μr, R2 μ μr → μr.2.1 119 (16 * t + i) = μ.2.1 (37 + 17 * t + 1) i := by
      intro μr hr
      have h := (hr.2.1 t ht).1.2.2.2.2.2.2.2.1 i (by rw [show (cT μ t).1 14 1 = nI o from hoe, nI_clamp (by omega)]; exact hi2)
      have e1 : μr.2.1 119 (16 * t + i) = (rV μr t).2 119 i := rVa (k := 119) (show i < 16 by omega)
      have e2 : μ.2.1 (37 + 17 * t + 1) i = (cT μ t).2.1 15 i := by
        rw [show 37 + 17 * t + 1 = 38 + 17 * t by omega]
        exact cTA (by omega) (by omega)
      rw [e1, e2]; exact h
    refine Sim.get hi (μ.2.1 (37 + 17 * t + 1) i) (fun Q hq => ten_ok ht ⟨fun _ => ⟨fun _ => ⟨in4 ht, ?_⟩, fun h => absurd h hb1⟩, fun h => absurd h z1⟩) (fun μr hr Q hq => fou_ok ht ⟨fun h => absurd h z1, fun _ => ⟨fun h => ?_, fun _ => ⟨in4 ht, fun _ => ⟨fun _ => ⟨ix_le (w := 16) ht (by omega) rfl (by omega), ?_⟩, fun h => absurd h hb1⟩, fun h => ?_⟩⟩⟩)
    · rw [cl4 ht]; exact line_item hce ho (by decide) hi2 hq
    · have h3 : nI i < 0 := by
        rw [Int32.lt_iff_toInt_lt] at h ⊢
        have h1 : (-1 : Int32).toInt = -1 := by decide
        have h2 : (0 : Int32).toInt = 0 := by decide
        omega
      exact absurd h3 (nI_pos (by omega))
    · rw [show ((16 : Int32) * nI t + nI i).toNatClampNeg = 16 * t + i from ix_cl (w := 16) ht (by omega) (by omega), hx μr hr]; exact hq
    · rw [cl4 ht, hre μr hr] at h; exact absurd (nI_lt hi2 (by omega)) h
