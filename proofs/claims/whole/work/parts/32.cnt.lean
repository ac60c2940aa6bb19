/-! Counting cells; used. -/
def cnt (f : Nat → Bool) : Nat → Nat
  | 0 => 0
  | n + 1 => cnt f n + (if f n = true then 1 else 0)
theorem cnt_le (f : Nat → Bool) : ∀ n, cnt f n ≤ n
  | 0 => Nat.le_refl 0
  | n + 1 => by
    have := cnt_le f n
    unfold cnt
    split <;> omega
theorem cnt_congr {f g : Nat → Bool} : ∀ {n : Nat}, (∀ c, c < n → f c = g c) → cnt f n = cnt g n
  | 0, _ => rfl
  | n + 1, h => by
    unfold cnt
    rw [cnt_congr (fun c hc => h c (by omega)), h n (by omega)]
theorem tb_n64 (m : Int64) (r : Nat) : tb m r = decide (n64 m / 2 ^ r % 2 = 1) := by
  unfold tb n64
  rw [BitVec.getLsbD, Nat.testBit_eq_decide_div_mod_eq]
theorem pop_y (y : Nat) : pop8 (y % 256) = y % 2 + y / 2 % 2 + y / 4 % 2 + y / 8 % 2 + y / 16 % 2 + y / 32 % 2 + y / 64 % 2 + y / 128 % 2 := by
  unfold pop8
  have h0 : y % 256 % 2 = y % 2 := by omega
  have h1 : y % 256 / 2 % 2 = y / 2 % 2 := by omega
  have h2 : y % 256 / 4 % 2 = y / 4 % 2 := by omega
  have h3 : y % 256 / 8 % 2 = y / 8 % 2 := by omega
  have h4 : y % 256 / 16 % 2 = y / 16 % 2 := by omega
  have h5 : y % 256 / 32 % 2 = y / 32 % 2 := by omega
  have h6 : y % 256 / 64 % 2 = y / 64 % 2 := by omega
  have h7 : y % 256 / 128 % 2 = y / 128 % 2 := by omega
  rw [h0, h1, h2, h3, h4, h5, h6, h7]
theorem bit_if (m : Int64) (r : Nat) : (if tb m r = true then 1 else 0) = n64 m / 2 ^ r % 2 := by
  rw [tb_n64]
  by_cases h : n64 m / 2 ^ r % 2 = 1
  · rw [if_pos (decide_eq_true h), h]
  · rw [if_neg (by simpa using h)]
    omega
theorem bit_0 {m : Int64} {r : Nat} (h : ¬ tb m r = true) : n64 m / 2 ^ r % 2 = 0 := by
  rw [← bit_if, if_neg h]
theorem bitcount_ok {m : Int64} (h : ∀ r, tb m r = true → 9 ≤ r ∧ r < 33) {μ : Mu} {Q : Int32 → Mu → Prop} (hq : Q (nI (cnt (fun c => tb m (9 + c)) 24)) μ) : wp_JL_bitCount m μ Q := by
  have hlt : n64 m < 2 ^ 33 := by
    apply Nat.lt_pow_two_of_testBit
    intro i hi
    have h1 : tb m i = false := by
      cases hh : tb m i
      · rfl
      · have := h i hh; omega
    exact h1
  have z : ∀ r, r < 9 → n64 m / 2 ^ r % 2 = 0 := fun r hr => bit_0 (fun hh => by have := h r hh; omega)
  have hz : ∀ r, 33 ≤ r → n64 m / 2 ^ r % 2 = 0 := fun r hr => bit_0 (fun hh => by have := h r hh; omega)
  have hc : cnt (fun c => tb m (9 + c)) 24 = pop8 (n64 m % 256) + pop8 (n64 m / 256 % 256) + pop8 (n64 m / 65536 % 256) + pop8 (n64 m / 16777216 % 256) + pop8 (n64 m / 4294967296 % 256) := by
    rw [pop_y, pop_y, pop_y, pop_y, pop_y]
    simp only [cnt, bit_if, Nat.div_div_eq_div_mul]
    have z0 := z 0 (by omega)
    have z1 := z 1 (by omega)
    have z2 := z 2 (by omega)
    have z3 := z 3 (by omega)
    have z4 := z 4 (by omega)
    have z5 := z 5 (by omega)
    have z6 := z 6 (by omega)
    have z7 := z 7 (by omega)
    have z8 := z 8 (by omega)
    have y0 := hz 33 (by omega)
    have y1 := hz 34 (by omega)
    have y2 := hz 35 (by omega)
    have y3 := hz 36 (by omega)
    have y4 := hz 37 (by omega)
    have y5 := hz 38 (by omega)
    have y6 := hz 39 (by omega)
    simp only [Nat.reducePow, Nat.reduceMul, Nat.reduceAdd, Nat.add_zero, Nat.zero_add, Nat.div_one, Nat.mul_one] at z0 z1 z2 z3 z4 z5 z6 z7 z8 y0 y1 y2 y3 y4 y5 y6 ⊢
    rw [z0, z1, z2, z3, z4, z5, z6, z7, z8, y0, y1, y2, y3, y4, y5, y6]
    omega
  refine bc_64 (a := n64 m % 256) (b := n64 m / 256 % 256) (c := n64 m / 65536 % 256) (d := n64 m / 16777216 % 256) (e := n64 m / 4294967296 % 256) (by unfold by5; omega) (by omega) (by omega) (by omega) (by omega) (by omega) ?_
  rw [← hc]
  exact hq
theorem nI_add1 {a b : Nat} (h : a = b) : nI a = nI b := by rw [h]
/-- counted: which cells of tenant t -/
def fC (μ : Mu) (t : Nat) (w : Bool) : Nat → Bool := fun c => decide (μ.2.1 97 (24 * t + c) ≠ 0) && (decide (μ.2.1 101 (24 * t + c) ≠ 0) || w)
theorem counted_ok {t : Nat} {w : Int32} {μ : Mu} {Q : Int32 → Mu → Prop} (ht : t < 4) (hq : Q (nI (cnt (fC μ t (decide (w = 0))) 24)) μ) : wp_Mod_counted (nI t) w μ Q := by
  have hix : ∀ k, k ≤ 24 → (24 : Int32) * nI t + nI k = nI (24 * t + k) := fun k _ => by rw [show (24 : Int32) = nI 24 from rfl, pk_mul, nI_add]
  have h24 : (24 : Int32) * nI t + (24 : Int32) = nI (24 * t + 24) := hix 24 (by omega)
  have h0 : (24 : Int32) * nI t = nI (24 * t + 0) := by rw [show (24 : Int32) = nI 24 from rfl, pk_mul, Nat.add_zero]
  have main : ∀ (m k : Nat), k + m = 24 → wp_Mod_counted_8 (nI t) w (fun v3 v4 μ5 => Q v3 μ5) Q (m + 1) (nI (cnt (fC μ t (decide (w = 0))) k)) (nI (24 * t + k)) μ := by
    intro m
    induction m with
    | zero =>
      intro k hk
      have hk24 : k = 24 := by omega
      subst hk24
      refine ⟨fun _ => hq, fun h => absurd ?_ h⟩
      rw [h24]; exact nI_le (Nat.le_refl _) (by omega)
    | succ m ih =>
      intro k hk
      have hcl : (nI (24 * t + k)).toNatClampNeg = 24 * t + k := nI_clamp (by omega)
      have hin : vp_in (nI (24 * t + k)) 104 := vp_in_nI (by omega) (by decide)
      have hnx : nI (24 * t + k) + 1 = nI (24 * t + (k + 1)) := nI_1 _
      have hc0 : nI (cnt (fC μ t (decide (w = 0))) k) + (0 : Int32) = nI (cnt (fC μ t (decide (w = 0))) k) := by rw [show (0 : Int32) = nI 0 from rfl, nI_add, Nat.add_zero]
      have hc1 : nI (cnt (fC μ t (decide (w = 0))) k) + (1 : Int32) = nI (cnt (fC μ t (decide (w = 0))) k + 1) := nI_1 _
      have hk2 := ih (k + 1) (by omega)
      have hs : cnt (fC μ t (decide (w = 0))) (k + 1) = cnt (fC μ t (decide (w = 0))) k + if fC μ t (decide (w = 0)) k = true then 1 else 0 := rfl
      rw [hs] at hk2
      refine ⟨fun h => ?_, fun _ => ⟨hin, fun h1 => ?_, fun h1 => ⟨hin, fun h2 => ?_, fun h2 => ⟨fun h3 => ?_, fun h3 => ?_⟩⟩⟩⟩
      · rw [h24] at h; exact absurd h (nI_ge (by omega) (by omega))
      · rw [hcl] at h1
        rw [hc0, hnx]
        rw [if_neg (by simp [fC, h1]), Nat.add_zero] at hk2
        exact hk2
      · rw [hcl] at h1 h2
        rw [hc1, hnx]
        rw [if_pos (by simp [fC, h1, h2])] at hk2
        exact hk2
      · rw [hcl] at h1 h2
        rw [hc0, hnx]
        rw [if_neg (by simp [fC, h2, h3]), Nat.add_zero] at hk2
        exact hk2
      · rw [hcl] at h1 h2
        rw [hc1, hnx]
        rw [if_pos (by simp [fC, h1, h3])] at hk2
        exact hk2
  refine ⟨25, ?_⟩
  rw [h0]
  exact main 24 0 (by omega)
theorem there_fC {μ μr : Mu} (hr : R2 μ μr) {t : Nat} (ht : t < 4) : cnt (fC μr t true) 24 = cnt (fun c => tb (cT μ t).2.2 (9 + c)) 24 := by
  refine cnt_congr fun c hc => ?_
  have h := (hr.2.1 t ht).1.2.2.2.2.2.2.2.2.1 c hc
  have e : μr.2.1 97 (24 * t + c) = (rV μr t).2 97 c := rVa (k := 97) hc
  unfold fC
  rw [e, h]
  cases tb (cT μ t).2.2 (9 + c) <;> simp
theorem sim_used {c : Nat} {μ : Mu} {a : Int32} (hi : Inv c μ) : Sim c μ (wp_Host_used a) (wp_Mod_used a) := by
  rcases arg4 a with hb | ⟨t, ht, rfl⟩
  · exact Sim.get hi (-1) (fun Q hq => ten_bad hb ⟨fun _ => hq, fun h => absurd rfl h⟩) (fun μr _ Q hq => fou_bad hb ⟨fun _ => hq, fun h => absurd rfl h⟩)
  obtain ⟨len, sc, s, -, -, -, hT, -⟩ := id hi
  have hI := (hT t ht).1
  refine Sim.get hi (nI (cnt (fun c => tb (cT μ t).2.2 (9 + c)) 24)) (fun Q hq => ten_ok ht ⟨fun h => absurd h z1, fun _ => ⟨in4 ht, ?_⟩⟩) (fun μr hr Q hq => fou_ok ht ⟨fun h => absurd h z1, fun _ => ?_⟩)
  · rw [cl4 ht]
    exact bitcount_ok (fun r hr => ⟨(hI.2.2.2.2.2.2.2.1 r hr).1, (hI.2.2.2.2.2.2.2.1 r hr).2.1⟩) hq
  · refine counted_ok ht ?_
    rw [show decide ((0 : Int32) = 0) = true from rfl, there_fC hr ht]
    exact hq
