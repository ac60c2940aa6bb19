theorem mod16 (x : Nat) : x &&& 15 = x % 16 := Nat.and_two_pow_sub_one_eq_mod x 4
/-- the steps of bitCount, on numbers -/
def bcN (x : Nat) : Nat :=
  let i1 := x - ((x / 2) &&& 6148914691236517205)
  let i2 := (i1 &&& 3689348814741910323) + ((i1 / 4) &&& 3689348814741910323)
  let i3 := (i2 + i2 / 16) &&& 1085102592571150095
  let i4 := i3 + i3 / 256
  let i5 := i4 + i4 / 65536
  i5 + i5 / 4294967296
theorem bc_steps {a b c d e : Nat} (ha : a < 256) (hb : b < 256) (hc : c < 256) (hd : d < 256) (he : e < 256) :
    (by5 a b c d e / 2) &&& 6148914691236517205 = by5 ((a / 2) &&& 85) ((b / 2) &&& 85) ((c / 2) &&& 85) ((d / 2) &&& 85) ((e / 2) &&& 85) ∧
    by5 a b c d e - by5 ((a / 2) &&& 85) ((b / 2) &&& 85) ((c / 2) &&& 85) ((d / 2) &&& 85) ((e / 2) &&& 85) = by5 (st1b a) (st1b b) (st1b c) (st1b d) (st1b e) := by
  have Ba := byte_ok a ha
  have Bb := byte_ok b hb
  have Bc := byte_ok c hc
  have Bd := byte_ok d hd
  have Be := byte_ok e he
  have h2 : by5 a b c d e / 2 = by5 (a / 2 + 128 * (b % 2)) (b / 2 + 128 * (c % 2)) (c / 2 + 128 * (d % 2)) (d / 2 + 128 * (e % 2)) (e / 2) := by unfold by5; omega
  have hx : ∀ {x : Nat} (y : Nat), ((x / 2 + 128) &&& 85) = ((x / 2) &&& 85) → ((x / 2 + 128 * (y % 2)) &&& 85) = ((x / 2) &&& 85) := by
    intro x y h
    rcases Nat.mod_two_eq_zero_or_one y with h0 | h0
    · rw [h0, Nat.mul_zero, Nat.add_zero]
    · rw [h0, Nat.mul_one]; exact h
  refine ⟨?_, ?_⟩
  · rw [h2, and5 (m := 85) (by omega) (by omega) (by omega) (by omega) (by omega) (by omega) _ (by decide), hx b Ba.2.1, hx c Bb.2.1, hx d Bc.2.1, hx e Bd.2.1]
  · have h3 := Ba.1
    have h4 := Bb.1
    have h5 := Bc.1
    have h6 := Bd.1
    have h7 := Be.1
    unfold by5 st1b
    omega
theorem bc_N {a b c d e : Nat} (ha : a < 256) (hb : b < 256) (hc : c < 256) (hd : d < 256) (he : e < 256) :
    let i1 := by5 (st1b a) (st1b b) (st1b c) (st1b d) (st1b e)
    let i2 := by5 (st2b (st1b a)) (st2b (st1b b)) (st2b (st1b c)) (st2b (st1b d)) (st2b (st1b e))
    let i3 := by5 (pop8 a) (pop8 b) (pop8 c) (pop8 d) (pop8 e)
    ((i1 &&& 3689348814741910323) + ((i1 / 4) &&& 3689348814741910323) = i2 ∧ i2 + i2 / 16 < 2 ^ 60 ∧ ((i2 + i2 / 16) &&& 1085102592571150095) = i3) ∧
    (i3 + i3 / 256 + (i3 + i3 / 256) / 65536 + (i3 + i3 / 256 + (i3 + i3 / 256) / 65536) / 4294967296) % 128 = pop8 a + pop8 b + pop8 c + pop8 d + pop8 e := by
  have Ba := byte_ok a ha
  have Bb := byte_ok b hb
  have Bc := byte_ok c hc
  have Bd := byte_ok d hd
  have Be := byte_ok e he
  intro i1 i2 i3
  have hx : ∀ {u : Nat} (y : Nat), ((u / 4 + 64) &&& 51) = ((u / 4) &&& 51) → ((u / 4 + 128) &&& 51) = ((u / 4) &&& 51) → ((u / 4 + 192) &&& 51) = ((u / 4) &&& 51) → ((u / 4 + 64 * (y % 4)) &&& 51) = ((u / 4) &&& 51) := by
    intro u y h1 h2 h3
    have h4 : y % 4 = 0 ∨ y % 4 = 1 ∨ y % 4 = 2 ∨ y % 4 = 3 := by omega
    rcases h4 with h | h | h | h
    · rw [h, Nat.mul_zero, Nat.add_zero]
    · rw [h, Nat.mul_one]; exact h1
    · rw [h]; exact h2
    · rw [h]; exact h3
  have q1 : i1 / 4 = by5 (st1b a / 4 + 64 * (st1b b % 4)) (st1b b / 4 + 64 * (st1b c % 4)) (st1b c / 4 + 64 * (st1b d % 4)) (st1b d / 4 + 64 * (st1b e % 4)) (st1b e / 4) := by
    show by5 _ _ _ _ _ / 4 = _
    unfold by5; omega
  have e2 : (i1 &&& 3689348814741910323) + ((i1 / 4) &&& 3689348814741910323) = i2 := by
    rw [q1, and5 (m := 51) (by omega) (by omega) (by omega) (by omega) (by omega) (by omega) _ (by decide), and5 (m := 51) (by omega) (by omega) (by omega) (by omega) (by omega) (by omega) _ (by decide), hx _ Ba.2.2.2.1 Ba.2.2.2.2.1 Ba.2.2.2.2.2.1, hx _ Bb.2.2.2.1 Bb.2.2.2.2.1 Bb.2.2.2.2.2.1, hx _ Bc.2.2.2.1 Bc.2.2.2.2.1 Bc.2.2.2.2.2.1, hx _ Bd.2.2.2.1 Bd.2.2.2.2.1 Bd.2.2.2.2.2.1]
    show _ = by5 ((st1b a &&& 51) + ((st1b a / 4) &&& 51)) ((st1b b &&& 51) + ((st1b b / 4) &&& 51)) ((st1b c &&& 51) + ((st1b c / 4) &&& 51)) ((st1b d &&& 51) + ((st1b d / 4) &&& 51)) ((st1b e &&& 51) + ((st1b e / 4) &&& 51))
    unfold by5; omega
  have Va := Ba.2.2.2.2.2.2
  have Vb := Bb.2.2.2.2.2.2
  have Vc := Bc.2.2.2.2.2.2
  have Vd := Bd.2.2.2.2.2.2
  have Ve := Be.2.2.2.2.2.2
  have q3 : i2 + i2 / 16 = by5 (st2b (st1b a) + st2b (st1b a) / 16 + 16 * (st2b (st1b b) % 16)) (st2b (st1b b) + st2b (st1b b) / 16 + 16 * (st2b (st1b c) % 16)) (st2b (st1b c) + st2b (st1b c) / 16 + 16 * (st2b (st1b d) % 16)) (st2b (st1b d) + st2b (st1b d) / 16 + 16 * (st2b (st1b e) % 16)) (st2b (st1b e) + st2b (st1b e) / 16) := by
    show by5 _ _ _ _ _ + by5 _ _ _ _ _ / 16 = _
    unfold by5; omega
  have m16 : ∀ x y : Nat, ((x + x / 16 + 16 * y) &&& 15) = st3b x := by
    intro x y
    unfold st3b
    rw [mod16, mod16]; omega
  have e3 : ((i2 + i2 / 16) &&& 1085102592571150095) = i3 := by
    rw [q3, and5 (m := 15) (by omega) (by omega) (by omega) (by omega) (by omega) (by omega) _ (by decide), m16, m16, m16, m16, Va.2.2.1, Vb.2.2.1, Vc.2.2.1, Vd.2.2.1]
    have : ((st2b (st1b e) + st2b (st1b e) / 16) &&& 15) = pop8 e := Ve.2.2.1
    rw [this]
  refine ⟨⟨e2, ?_, e3⟩, ?_⟩
  · rw [q3]; unfold by5; omega
  · have p1 := Va.2.2.2
    have p2 := Vb.2.2.2
    have p3 := Vc.2.2.2
    have p4 := Vd.2.2.2
    have p5 := Ve.2.2.2
    show (by5 _ _ _ _ _ + by5 _ _ _ _ _ / 256 + (by5 _ _ _ _ _ + by5 _ _ _ _ _ / 256) / 65536 + (by5 _ _ _ _ _ + by5 _ _ _ _ _ / 256 + (by5 _ _ _ _ _ + by5 _ _ _ _ _ / 256) / 65536) / 4294967296) % 128 = _
    have r1 : by5 (pop8 a) (pop8 b) (pop8 c) (pop8 d) (pop8 e) + by5 (pop8 a) (pop8 b) (pop8 c) (pop8 d) (pop8 e) / 256 = by5 (pop8 a + pop8 b) (pop8 b + pop8 c) (pop8 c + pop8 d) (pop8 d + pop8 e) (pop8 e) := by unfold by5; omega
    have r2 : by5 (pop8 a + pop8 b) (pop8 b + pop8 c) (pop8 c + pop8 d) (pop8 d + pop8 e) (pop8 e) + by5 (pop8 a + pop8 b) (pop8 b + pop8 c) (pop8 c + pop8 d) (pop8 d + pop8 e) (pop8 e) / 65536 = by5 (pop8 a + pop8 b + pop8 c + pop8 d) (pop8 b + pop8 c + pop8 d + pop8 e) (pop8 c + pop8 d + pop8 e) (pop8 d + pop8 e) (pop8 e) := by unfold by5; omega
    have r3 : by5 (pop8 a + pop8 b + pop8 c + pop8 d) (pop8 b + pop8 c + pop8 d + pop8 e) (pop8 c + pop8 d + pop8 e) (pop8 d + pop8 e) (pop8 e) / 4294967296 = pop8 e := by unfold by5; omega
    rw [r1, r2, r3]
    unfold by5; omega
-- the same, on longs
def n64 (m : Int64) : Nat := m.toBitVec.toNat
theorem n64_and (a b : Int64) : n64 (a &&& b) = n64 a &&& n64 b := by
  unfold n64; rw [Int64.toBitVec_and, BitVec.toNat_and]
theorem n64_add {a b : Int64} (h : n64 a + n64 b < 2 ^ 64) : n64 (a + b) = n64 a + n64 b := by
  unfold n64 at *; rw [Int64.toBitVec_add, BitVec.toNat_add, Nat.mod_eq_of_lt h]
theorem n64_sub {a b : Int64} (h : n64 b ≤ n64 a) : n64 (a - b) = n64 a - n64 b := by
  unfold n64 at *; rw [Int64.toBitVec_sub, BitVec.toNat_sub_of_le h]
theorem n64_lt (a : Int64) : n64 a < 2 ^ 64 := a.toBitVec.isLt
theorem n64_shr (a : Int64) {k : Int32} {n : Nat} (h : ((k.toInt64.toUInt64 &&& Int64.toUInt64 63).toBitVec % 64).toNat = n) : n64 (ushrL a k) = n64 a / 2 ^ n := by
  unfold n64 ushrL
  show (a.toUInt64 >>> (k.toInt64.toUInt64 &&& Int64.toUInt64 63)).toBitVec.toNat = _
  rw [UInt64.toBitVec_shiftRight]
  show (a.toBitVec >>> ((k.toInt64.toUInt64 &&& Int64.toUInt64 63).toBitVec % 64)).toNat = _
  rw [BitVec.ushiftRight_eq', h, BitVec.toNat_ushiftRight, Nat.shiftRight_eq_div_pow]
/-- the number of bits of a set of at most forty -/
theorem bc_64 {m : Int64} {a b c d e : Nat} (hm : n64 m = by5 a b c d e) (ha : a < 256) (hb : b < 256) (hc : c < 256) (hd : d < 256) (he : e < 256) {μ : Mu} {Q : Int32 → Mu → Prop} (hq : Q (nI (pop8 a + pop8 b + pop8 c + pop8 d + pop8 e)) μ) : wp_JL_bitCount m μ Q := by
  obtain ⟨s1, s2⟩ := bc_steps ha hb hc hd he
  obtain ⟨⟨t2, t2b, t3⟩, t6⟩ := bc_N ha hb hc hd he
  have Ba := byte_ok a ha
  have Bb := byte_ok b hb
  have Bc := byte_ok c hc
  have Bd := byte_ok d hd
  have Be := byte_ok e he
  have c5 : n64 6148914691236517205 = 6148914691236517205 := by decide
  have c3 : n64 3689348814741910323 = 3689348814741910323 := by decide
  have cF : n64 1085102592571150095 = 1085102592571150095 := by decide
  obtain ⟨i1, e1⟩ : ∃ z, z = m - ((ushrL m (1 : Int32)) &&& (6148914691236517205 : Int64)) := ⟨_, rfl⟩
  have n1 : n64 i1 = by5 (st1b a) (st1b b) (st1b c) (st1b d) (st1b e) := by
    have h1 : n64 ((ushrL m (1 : Int32)) &&& (6148914691236517205 : Int64)) = by5 ((a / 2) &&& 85) ((b / 2) &&& 85) ((c / 2) &&& 85) ((d / 2) &&& 85) ((e / 2) &&& 85) := by
      rw [n64_and, n64_shr m (n := 1) (by decide), hm, c5]; exact s1
    rw [e1, n64_sub (by rw [h1, hm]; have := Ba.1; have := Bb.1; have := Bc.1; have := Bd.1; have := Be.1; unfold by5; omega), h1, hm]
    exact s2
  obtain ⟨i2, e2⟩ : ∃ z, z = (i1 &&& (3689348814741910323 : Int64)) + ((ushrL i1 (2 : Int32)) &&& (3689348814741910323 : Int64)) := ⟨_, rfl⟩
  have n2 : n64 i2 = by5 (st2b (st1b a)) (st2b (st1b b)) (st2b (st1b c)) (st2b (st1b d)) (st2b (st1b e)) := by
    have h1 : n64 (i1 &&& (3689348814741910323 : Int64)) + n64 ((ushrL i1 (2 : Int32)) &&& (3689348814741910323 : Int64)) = by5 (st2b (st1b a)) (st2b (st1b b)) (st2b (st1b c)) (st2b (st1b d)) (st2b (st1b e)) := by
      rw [n64_and, n64_and, n64_shr i1 (n := 2) (by decide), n1, c3]; exact t2
    rw [e2, n64_add, h1]
    rw [h1]
    have := Ba.2.2.2.2.2.2.1; have := Bb.2.2.2.2.2.2.1; have := Bc.2.2.2.2.2.2.1; have := Bd.2.2.2.2.2.2.1; have := Be.2.2.2.2.2.2.1
    unfold by5; omega
  obtain ⟨i3, e3⟩ : ∃ z, z = (i2 + (ushrL i2 (4 : Int32))) &&& (1085102592571150095 : Int64) := ⟨_, rfl⟩
  have n3 : n64 i3 = by5 (pop8 a) (pop8 b) (pop8 c) (pop8 d) (pop8 e) := by
    have h0 : n64 (ushrL i2 (4 : Int32)) = n64 i2 / 16 := n64_shr i2 (n := 4) (by decide)
    have h1 : n64 (i2 + (ushrL i2 (4 : Int32))) = n64 i2 + n64 i2 / 16 := by
      rw [n64_add, h0]
      rw [h0, n2]
      exact Nat.lt_of_lt_of_le t2b (by decide)
    rw [e3, n64_and, h1, n2, cF]; exact t3
  have p1 := Ba.2.2.2.2.2.2.2.2.2
  have p2 := Bb.2.2.2.2.2.2.2.2.2
  have p3 := Bc.2.2.2.2.2.2.2.2.2
  have p4 := Bd.2.2.2.2.2.2.2.2.2
  have p5 := Be.2.2.2.2.2.2.2.2.2
  have b3 : n64 i3 < 2 ^ 40 := by rw [n3]; unfold by5; omega
  obtain ⟨i4, e4⟩ : ∃ z, z = i3 + (ushrL i3 (8 : Int32)) := ⟨_, rfl⟩
  have n4 : n64 i4 = n64 i3 + n64 i3 / 256 := by
    have h0 : n64 (ushrL i3 (8 : Int32)) = n64 i3 / 256 := n64_shr i3 (n := 8) (by decide)
    rw [e4, n64_add (by rw [h0]; omega), h0]
  obtain ⟨i5, e5⟩ : ∃ z, z = i4 + (ushrL i4 (16 : Int32)) := ⟨_, rfl⟩
  have n5 : n64 i5 = n64 i4 + n64 i4 / 65536 := by
    have h0 : n64 (ushrL i4 (16 : Int32)) = n64 i4 / 65536 := n64_shr i4 (n := 16) (by decide)
    rw [e5, n64_add (by rw [h0]; omega), h0]
  obtain ⟨i6, e6⟩ : ∃ z, z = i5 + (ushrL i5 (32 : Int32)) := ⟨_, rfl⟩
  have n6 : n64 i6 = n64 i5 + n64 i5 / 4294967296 := by
    have h0 : n64 (ushrL i5 (32 : Int32)) = n64 i5 / 4294967296 := n64_shr i5 (n := 32) (by decide)
    rw [e6, n64_add (by rw [h0]; omega), h0]
  have n6b : n64 i6 % 128 = pop8 a + pop8 b + pop8 c + pop8 d + pop8 e := by
    rw [n6, n5, n4, n3]; exact t6
  have hfin : Int64.toInt32 i6 &&& (127 : Int32) = nI (pop8 a + pop8 b + pop8 c + pop8 d + pop8 e) := by
    rw [pk_and _ 7 (by decide), ← n6b]
    have : (Int64.toInt32 i6).toBitVec.toNat = n64 i6 % 2 ^ 32 := by
      unfold n64
      show (i6.toBitVec.signExtend 32).toNat = _
      rw [BitVec.signExtend_eq_setWidth_of_le _ (by decide), BitVec.toNat_setWidth]
    rw [this]
    congr 1
    omega
  unfold wp_JL_bitCount
  rw [← e1, ← e2, ← e3, ← e4, ← e5, ← e6, hfin]
  exact hq
