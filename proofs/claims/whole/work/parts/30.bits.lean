/-! Sets of cells, bit by bit. -/
theorem tb_or (a b : Int64) (r : Nat) : tb (a ||| b) r = (tb a r || tb b r) := by
  unfold tb
  rw [Int64.toBitVec_or, BitVec.getLsbD_or]
theorem tb_and (a b : Int64) (r : Nat) : tb (a &&& b) r = (tb a r && tb b r) := by
  unfold tb
  rw [Int64.toBitVec_and, BitVec.getLsbD_and]
theorem tb_0 (r : Nat) : tb 0 r = false := by
  unfold tb
  show (BitVec.ofNat 64 0).getLsbD r = false
  simp
theorem tb_big (m : Int64) {r : Nat} (h : 64 ≤ r) : tb m r = false := BitVec.getLsbD_of_ge _ _ h
theorem tb_ext {a b : Int64} (h : ∀ r, tb a r = tb b r) : a = b := by
  have : a.toBitVec = b.toBitVec := BitVec.eq_of_getLsbD_eq fun i _ => h i
  exact Int64.toBitVec_inj.mp this
/-- the set of one cell -/
def one (r : Nat) : Int64 := (1 : Int64) <<< (Int32.toInt64 (nI r) &&& 63)
theorem one_dec : ∀ r, r < 64 → ∀ s, s < 64 → tb (one r) s = decide (s = r) := by decide +kernel
theorem tb_one {r s : Nat} (hr : r < 64) : tb (one r) s = decide (s = r) := by
  by_cases hs : s < 64
  · exact one_dec r hr s hs
  · rw [tb_big _ (by omega)]
    exact (decide_eq_false (by omega)).symm
theorem own_dec : ∀ s, s < 64 → tb 8589934080 s = decide (9 ≤ s ∧ s < 33) := by decide +kernel
theorem tb_own (s : Nat) : tb 8589934080 s = decide (9 ≤ s ∧ s < 33) := by
  by_cases hs : s < 64
  · exact own_dec s hs
  · rw [tb_big _ (by omega)]
    exact (decide_eq_false (by omega)).symm
theorem sh_dec : ∀ r, r < 64 → ((Int32.toInt64 (nI r) &&& 63).toBitVec.smod 64) = BitVec.ofNat 64 r := by decide +kernel
theorem in_bit (m : Int64) {r : Nat} (hr : r < 64) : ((m >>> (Int32.toInt64 (nI r) &&& 63)) &&& (1 : Int64)) = if tb m r = true then 1 else 0 := by
  apply tb_ext
  intro s
  rw [tb_and]
  have h1 : tb (1 : Int64) s = decide (s = 0) := tb_one (r := 0) (by decide)
  have h2 : tb (m >>> (Int32.toInt64 (nI r) &&& 63)) 0 = tb m r := by
    unfold tb
    rw [Int64.toBitVec_shiftRight, sh_dec r hr]
    rw [BitVec.sshiftRight_eq', BitVec.toNat_ofNat, Nat.mod_eq_of_lt (show r < 2 ^ 64 by omega), BitVec.getLsbD_sshiftRight, Nat.add_zero, if_pos hr]
    rfl
  by_cases hs : s = 0
  · subst hs
    rw [h2, h1]
    cases hm : tb m r
    · rw [if_neg (by simp)]
      simp [tb_0]
    · rw [if_pos rfl, h1]
      simp
  · rw [h1, decide_eq_false hs, Bool.and_false]
    split
    · rw [h1, decide_eq_false hs]
    · rw [tb_0]
theorem cmp_0 (a b : Int64) : lg_cmp a b = 0 ↔ a = b := by
  unfold lg_cmp
  by_cases h : a = b
  · subst h
    rw [if_neg (by rw [gt_iff_lt, Int64.lt_iff_toInt_lt]; omega), if_pos rfl]
    simp
  · rw [if_neg h]
    constructor
    · intro h1
      split at h1 <;> exact absurd h1 (by decide)
    · intro h1; exact absurd h1 h
/-- isIn -/
theorem isin_yes {m : Int64} {r : Nat} {μ : Mu} {Q : Int32 → Mu → Prop} (hr : r < 64) (h : tb m r = true) (hq : Q 1 μ) : wp_Heap_isIn m (nI r) μ Q := by
  have e : lg_cmp ((m >>> (Int32.toInt64 (nI r) &&& 63)) &&& (1 : Int64)) (1 : Int64) = 0 := (cmp_0 _ _).mpr (by rw [in_bit m hr, if_pos h])
  exact ⟨fun h1 => absurd e h1, fun _ => hq⟩
theorem isin_no {m : Int64} {r : Nat} {μ : Mu} {Q : Int32 → Mu → Prop} (hr : r < 64) (h : tb m r = false) (hq : Q 0 μ) : wp_Heap_isIn m (nI r) μ Q := by
  have e : ¬ lg_cmp ((m >>> (Int32.toInt64 (nI r) &&& 63)) &&& (1 : Int64)) (1 : Int64) = 0 := fun h1 => by
    have h2 := (cmp_0 _ _).mp h1
    rw [in_bit m hr, h, if_neg (by simp)] at h2
    exact absurd h2 (by decide)
  exact ⟨fun _ => hq, fun h1 => absurd h1 e⟩

/-! How many cells a set has: Long.bitCount. -/
theorem and_split {a b c d : Nat} (ha : a < 256) (hc : c < 256) : (a + 256 * b) &&& (c + 256 * d) = (a &&& c) + 256 * (b &&& d) := by
  apply Nat.eq_of_testBit_eq
  intro i
  have h1 : a &&& c < 2 ^ 8 := Nat.and_lt_two_pow a (by omega)
  have e1 : a + 256 * b = 2 ^ 8 * b + a := by omega
  have e2 : c + 256 * d = 2 ^ 8 * d + c := by omega
  have e3 : (a &&& c) + 256 * (b &&& d) = 2 ^ 8 * (b &&& d) + (a &&& c) := by omega
  rw [Nat.testBit_and, e1, e2, e3, Nat.testBit_two_pow_mul_add _ (by omega), Nat.testBit_two_pow_mul_add _ (by omega), Nat.testBit_two_pow_mul_add _ h1]
  by_cases h : i < 8
  · rw [if_pos h, if_pos h, if_pos h, Nat.testBit_and]
  · rw [if_neg h, if_neg h, if_neg h, Nat.testBit_and]
/-- five bytes -/
def by5 (a b c d e : Nat) : Nat := a + 256 * (b + 256 * (c + 256 * (d + 256 * e)))
theorem and5 {a b c d e m : Nat} (ha : a < 256) (hb : b < 256) (hc : c < 256) (hd : d < 256) (he : e < 256) (hm : m < 256) (M : Nat) (hM : M = m + 256 * (m + 256 * (m + 256 * (m + 256 * (m + 256 * (m + 256 * (m + 256 * m))))))) : by5 a b c d e &&& M = by5 (a &&& m) (b &&& m) (c &&& m) (d &&& m) (e &&& m) := by
  subst hM
  unfold by5
  rw [and_split ha hm, and_split hb hm, and_split hc hm, and_split hd hm]
  have : e &&& (m + 256 * (m + 256 * (m + 256 * m))) = e &&& m := by
    have := and_split (a := e) (b := 0) (c := m) (d := m + 256 * (m + 256 * m)) he hm
    simpa using this
  rw [this]
/-- bits of a byte -/
def pop8 (x : Nat) : Nat := x % 2 + x / 2 % 2 + x / 4 % 2 + x / 8 % 2 + x / 16 % 2 + x / 32 % 2 + x / 64 % 2 + x / 128 % 2
def st1b (x : Nat) : Nat := x - ((x / 2) &&& 85)
def st2b (x : Nat) : Nat := (x &&& 51) + ((x / 4) &&& 51)
def st3b (x : Nat) : Nat := (x + x / 16) &&& 15
theorem byte_ok : ∀ x, x < 256 → ((x / 2) &&& 85) ≤ x ∧ ((x / 2 + 128) &&& 85) = ((x / 2) &&& 85) ∧ st1b x < 256 ∧ ((st1b x / 4 + 64) &&& 51) = ((st1b x / 4) &&& 51) ∧ ((st1b x / 4 + 128) &&& 51) = ((st1b x / 4) &&& 51) ∧ ((st1b x / 4 + 192) &&& 51) = ((st1b x / 4) &&& 51) ∧ st2b (st1b x) ≤ 68 ∧ st2b (st1b x) % 16 ≤ 4 ∧ st3b (st2b (st1b x)) = pop8 x ∧ pop8 x ≤ 8 := by decide +kernel
