/-! What the printed preconditions are made of. -/
def rmd (d : Nat) : Room := { frames := d, cells := 0, slots := 0, locals := 48 * d }
def PV (Q : Mu → Prop) : Post := fun r M' => ∃ μ' : Mu, r = none ∧ M' = lay μ' ∧ Q μ'
def PI (Q : Int32 → Mu → Prop) : Post := fun r M' => ∃ (x : Int32) (μ' : Mu), r = some (.int x) ∧ M' = lay μ' ∧ Q x μ'
def PJ (Q : Int64 → Mu → Prop) : Post := fun r M' => ∃ (x : Int64) (μ' : Mu), r = some (.long x) ∧ M' = lay μ' ∧ Q x μ'
def PR (Q : Nat → Mu → Prop) : Post := fun r M' => ∃ (x : Nat) (μ' : Mu), r = some (.ref x) ∧ M' = lay μ' ∧ Q x μ'
theorem in_lt {i : Int32} {n : Nat} (h : vp_in i n) : i.toNatClampNeg < n := Nat.lt_of_not_le fun h2 => h (Or.inr h2)
theorem nar_zv {v : Int32} (h : v = 0 ∨ v = 1) : narrow .boolean (.int v) = .int v := by
  rcases h with rfl | rfl <;> rfl
def lle : List (Option Value) → List (Option Value) → Prop
  | [], _ => True
  | _ :: _, [] => False
  | none :: a, _ :: b => lle a b
  | some v :: a, w :: b => w = some v ∧ lle a b
theorem lle_at : ∀ {a b : List (Option Value)}, lle a b → ∀ (i : Nat) (v : Value), a[i]? = some (some v) → b[i]? = some (some v)
  | [], _, _, i, v, h => by simp at h
  | x :: a, [], hl, i, v, h => hl.elim
  | none :: a, y :: b, hl, 0, v, h => by simp at h
  | none :: a, y :: b, hl, i + 1, v, h => by
    have h2 := lle_at (a := a) (b := b) hl i v (by simpa using h)
    simpa using h2
  | some x :: a, y :: b, hl, 0, v, h => by
    simp only [List.getElem?_cons_zero, Option.some.injEq] at h
    subst h
    simp [hl.1]
  | some x :: a, y :: b, hl, i + 1, v, h => by
    have h2 := lle_at (a := a) (b := b) hl.2 i v (by simpa using h)
    simpa using h2
section GOWP
variable {E : Lx} {Y : Mt} {al : Bool} {R : Room} {cs ss pc : Nat} {L : List (Option Value)} {st : List Value} {μ : Mu} {Φ : Post}
theorem go_putIn {k ci j idx : Nat} {fl : List (Nat ⊕ Nat)} {v : Int32} (hs : shapes[k]? = some (.inr (ci, fl))) (hf : fl[j]? = some (.inl 0)) (hF : FP Y.1 idx ci j .int) (d : decode Y.2.1 pc = .ok (.putfield idx, 3)) (kk : ∀ μ' : Mu, μ' = setF μ k j v → Go E Y al R cs ss (pc + 3) L st (lay μ') Φ) : Go E Y al R cs ss pc L (.int v :: .ref k :: st) (lay μ) Φ := go_putI hs hf hF d (kk _ rfl)
theorem go_putZn {k ci j idx : Nat} {fl : List (Nat ⊕ Nat)} {v : Int32} (hv : v = 0 ∨ v = 1) (hs : shapes[k]? = some (.inr (ci, fl))) (hf : fl[j]? = some (.inl 0)) (hF : FP Y.1 idx ci j .boolean) (d : decode Y.2.1 pc = .ok (.putfield idx, 3)) (kk : ∀ μ' : Mu, μ' = setF μ k j v → Go E Y al R cs ss (pc + 3) L st (lay μ') Φ) : Go E Y al R cs ss pc L (.int v :: .ref k :: st) (lay μ) Φ := go_putZ hv hs hf hF d (kk _ rfl)
theorem go_putJn {k ci j idx : Nat} {fl : List (Nat ⊕ Nat)} {v : Int64} (hs : shapes[k]? = some (.inr (ci, fl))) (hf : fl[j]? = some (.inl 1)) (hu : ∀ j' < fl.length, fl[j']? = some (.inl 1) → j' = j) (hw : fl.all (fun x => match x with | .inl n => n ≤ 1 | .inr _ => true) = true) (hF : FP Y.1 idx ci j .long) (d : decode Y.2.1 pc = .ok (.putfield idx, 3)) (kk : ∀ μ' : Mu, μ' = setJ μ k v → Go E Y al R cs ss (pc + 3) L st (lay μ') Φ) : Go E Y al R cs ss pc L (.long v :: .ref k :: st) (lay μ) Φ := by
  refine go_putJ hs hf (fun j' n h => ?_) hF d (kk _ rfl)
  have h1 := List.getElem?_eq_some_iff.mp h
  have h2 := List.all_eq_true.mp hw _ (List.mem_of_getElem? h)
  have h3 : n = 0 := by
    simp only [decide_eq_true_eq] at h2
    omega
  subst h3
  exact hu j' h1.1 h
theorem go_astIn {k n : Nat} {rs : List (Option Nat)} {i x : Int32} (hs : shapes[k]? = some (.inl (0, n, rs))) (hin : vp_in i n) (d : decode Y.2.1 pc = .ok (.iastore, 1)) (kk : ∀ μ' : Mu, μ' = setA μ k i.toNatClampNeg x → Go E Y al R cs ss (pc + 1) L st (lay μ') Φ) : Go E Y al R cs ss pc L (.int x :: .int i :: .ref k :: st) (lay μ) Φ := go_astI hs hin d (kk _ rfl)
theorem go_astZn {k n : Nat} {rs : List (Option Nat)} {i x : Int32} (hx : x = 0 ∨ x = 1) (hs : shapes[k]? = some (.inl (1, n, rs))) (hin : vp_in i n) (d : decode Y.2.1 pc = .ok (.bastore, 1)) (kk : ∀ μ' : Mu, μ' = setA μ k i.toNatClampNeg x → Go E Y al R cs ss (pc + 1) L st (lay μ') Φ) : Go E Y al R cs ss pc L (.int x :: .int i :: .ref k :: st) (lay μ) Φ := go_astZ hx hs hin d (kk _ rfl)
theorem go_mmax {x y : Int32} {idx : Nat} (hw : gin (.methodLink Y.1.cls idx Lib.Math.max.name) ∧ gin (.static Lib.Math.max.name) ∧ gin (.initialized "java/lang/Math") ∧ gin (.code Lib.Math.max.name Lib.Math.max.code 2 (some .int))) (hfr : 1 ≤ R.frames) (hlo : (st.map Value.category).sum + 13 ≤ R.locals) (d : decode Y.2.1 pc = .ok (.invokestatic idx, 3)) (kk : Go E Y al R cs ss (pc + 3) L (.int (if x < y then y else x) :: st) (lay μ) Φ) : Go E Y al R cs ss pc L (.int y :: .int x :: st) (lay μ) Φ := by
  intro p e s m args below meth c D kc ad A H locs ls Q X
  refine va_mmax X.1.1 X.1.2.1 (X.1.2.2.1.trans X.2.2.2.2.2.2.1.1.symm) X.1.2.2.2.2.2.1 (X.1.2.2.2.2.2.2.1 _ hw.1) (X.1.2.2.2.2.2.2.1 _ hw.2.1) (X.1.2.2.2.2.2.2.1 _ hw.2.2.1) (X.1.2.2.2.2.2.2.1 _ hw.2.2.2) hfr ?_ X.2.2.2.2.2.2.2.1 X.2.2.2.2.2.2.2.2.1 d (kk p e s m args below meth c D kc ad A H locs ls Q X)
  have h2 : ((st.map (gv ad)).map fun v => v.category) = st.map Value.category := by
    rw [List.map_map]
    exact List.map_congr_left fun v _ => gv_cat ad v
  show ((st.map (gv ad)).map fun v => v.category).sum + 13 ≤ R.locals
  rw [h2]
  exact hlo
theorem go_mmin {x y : Int32} {idx : Nat} (hw : gin (.methodLink Y.1.cls idx Lib.Math.min.name) ∧ gin (.static Lib.Math.min.name) ∧ gin (.initialized "java/lang/Math") ∧ gin (.code Lib.Math.min.name Lib.Math.min.code 2 (some .int))) (hfr : 1 ≤ R.frames) (hlo : (st.map Value.category).sum + 13 ≤ R.locals) (d : decode Y.2.1 pc = .ok (.invokestatic idx, 3)) (kk : Go E Y al R cs ss (pc + 3) L (.int (if y < x then y else x) :: st) (lay μ) Φ) : Go E Y al R cs ss pc L (.int y :: .int x :: st) (lay μ) Φ := by
  intro p e s m args below meth c D kc ad A H locs ls Q X
  refine va_mmin X.1.1 X.1.2.1 (X.1.2.2.1.trans X.2.2.2.2.2.2.1.1.symm) X.1.2.2.2.2.2.1 (X.1.2.2.2.2.2.2.1 _ hw.1) (X.1.2.2.2.2.2.2.1 _ hw.2.1) (X.1.2.2.2.2.2.2.1 _ hw.2.2.1) (X.1.2.2.2.2.2.2.1 _ hw.2.2.2) hfr ?_ X.2.2.2.2.2.2.2.1 X.2.2.2.2.2.2.2.2.1 d (kk p e s m args below meth c D kc ad A H locs ls Q X)
  have h2 : ((st.map (gv ad)).map fun v => v.category) = st.map Value.category := by
    rw [List.map_map]
    exact List.map_congr_left fun v _ => gv_cat ad v
  show ((st.map (gv ad)).map fun v => v.category).sum + 13 ≤ R.locals
  rw [h2]
  exact hlo
theorem go_copyin {k1 k2 n1 n2 idx : Nat} {r1 r2 : List (Option Nat)} {sp dp n : Int32} (hw : gin (.methodLink Y.1.cls idx arraycopyName) ∧ gin (.native arraycopyName) ∧ gin (.static arraycopyName) ∧ gin (.initialized "java/lang/System")) (hs1 : shapes[k1]? = some (.inl (0, n1, r1))) (hs2 : shapes[k2]? = some (.inl (0, n2, r2))) (c1 : ¬ sp < 0) (c2 : ¬ dp < 0) (c3 : ¬ n < 0) (c4 : sp.toNatClampNeg + n.toNatClampNeg ≤ n1) (c5 : dp.toNatClampNeg + n.toNatClampNeg ≤ n2) (hfr : 1 ≤ R.frames) (hlo : (st.map Value.category).sum + (nativeFrameWords "java/lang/System" "arraycopy" 5 + 11) ≤ R.locals) (d : decode Y.2.1 pc = .ok (.invokestatic idx, 3)) (kk : ∀ μ' : Mu, μ' = setG μ k2 (va_cpy (μ.2.1 k1) (μ.2.1 k2) sp.toNatClampNeg dp.toNatClampNeg n.toNatClampNeg) → Go E Y al R cs ss (pc + 3) L st (lay μ') Φ) : Go E Y al R cs ss pc L (.int n :: .int dp :: .ref k2 :: .int sp :: .ref k1 :: st) (lay μ) Φ := by
  intro p e s m args below meth c D kc ad A H locs ls Q X
  have e1 : (lay μ)[k1]? = some (.inl (0, n1, .inl (μ.2.1 k1))) := lay_at hs1
  have e2 : (lay μ)[k2]? = some (.inl (0, n2, .inl (μ.2.1 k2))) := lay_at hs2
  have hK : va_K D gcl [(kc k1, .int), (kc k2, .int)] s := (X.2.1.2.2 k1 0 _ e1).app (X.2.1.2.2 k2 0 _ e2)
  have h2 : ((st.map (gv ad)).map fun v => v.category) = st.map Value.category := by
    rw [List.map_map]
    exact List.map_congr_left fun v _ => gv_cat ad v
  refine va_copyi X.1.1 X.1.2.1 (X.1.2.2.1.trans X.2.2.2.2.2.2.1.1.symm) X.1.2.2.2.2.2.1 (X.1.2.2.2.2.2.2.1 _ hw.1) (X.1.2.2.2.2.2.2.1 _ hw.2.1) (X.1.2.2.2.2.2.2.1 _ hw.2.2.1) (X.1.2.2.2.2.2.2.1 _ hw.2.2.2) hK X.2.1.1 X.2.2.1 X.2.2.2.1 k1 k2 0 1 (gw_at e1) (gw_at e2) rfl rfl rfl c1 c2 c3 c4 c5 (fun _ _ => rfl) hfr (by rw [h2]; exact hlo) d (fun H1 locs1 hP1 hD1 hS1 => ?_)
  refine kk _ rfl p e s m args below meth c D kc ad A H1 locs1 ls Q ?_
  rw [← lay_setG (by decide) hs2]
  exact X.put (fun t a h => by cases h; exact ⟨_, e2⟩) hP1 hD1 hS1
end GOWP
def IsLine (k n : Nat) : Prop := shapes[k]? = some (.inr (1, [.inr (k + 1), .inl 0])) ∧ shapes[k + 1]? = some (.inl (0, n, []))
theorem lt4 {P : Nat → Prop} (h0 : P 0) (h1 : P 1) (h2 : P 2) (h3 : P 3) {t : Nat} (ht : t < 4) : P t := by
  match t, ht with
  | 0, _ => exact h0
  | 1, _ => exact h1
  | 2, _ => exact h2
  | 3, _ => exact h3
theorem sh_host : shapes[0]? = some (.inr (5, [.inl 0, .inr 1, .inr 2, .inl 0, .inl 0])) := rfl
theorem sh_programs : shapes[1]? = some (.inl (2, 4, [some 3, some 8, some 13, some 18])) := rfl
theorem sh_tenants : shapes[2]? = some (.inl (3, 4, [some 23, some 40, some 57, some 74])) := rfl
theorem sh_prog {p : Nat} (hp : p < 4) : shapes[3 + 5 * p]? = some (.inr (2, [.inr (4 + 5 * p), .inr (5 + 5 * p), .inr (6 + 5 * p), .inr (7 + 5 * p), .inl 0, .inl 0, .inl 0])) := lt4 (P := fun p => shapes[3 + 5 * p]? = some (.inr (2, [.inr (4 + 5 * p), .inr (5 + 5 * p), .inr (6 + 5 * p), .inr (7 + 5 * p), .inl 0, .inl 0, .inl 0]))) rfl rfl rfl rfl hp
theorem sh_pops {p : Nat} (hp : p < 4) : shapes[4 + 5 * p]? = some (.inl (0, 24, [])) := lt4 (P := fun p => shapes[4 + 5 * p]? = some (.inl (0, 24, []))) rfl rfl rfl rfl hp
theorem sh_pargs {p : Nat} (hp : p < 4) : shapes[5 + 5 * p]? = some (.inl (0, 24, [])) := lt4 (P := fun p => shapes[5 + 5 * p]? = some (.inl (0, 24, []))) rfl rfl rfl rfl hp
theorem sh_pshapes {p : Nat} (hp : p < 4) : shapes[6 + 5 * p]? = some (.inl (0, 24, [])) := lt4 (P := fun p => shapes[6 + 5 * p]? = some (.inl (0, 24, []))) rfl rfl rfl rfl hp
theorem sh_preached {p : Nat} (hp : p < 4) : shapes[7 + 5 * p]? = some (.inl (0, 24, [])) := lt4 (P := fun p => shapes[7 + 5 * p]? = some (.inl (0, 24, []))) rfl rfl rfl rfl hp
theorem sh_ten {t : Nat} (ht : t < 4) : shapes[23 + 17 * t]? = some (.inr (4, [.inr (24 + 17 * t), .inr (29 + 17 * t), .inr (32 + 17 * t), .inr (33 + 17 * t), .inr (35 + 17 * t), .inr (37 + 17 * t), .inr (39 + 17 * t), .inl 0, .inl 0, .inl 0, .inl 0, .inl 0, .inl 0])) := lt4 (P := fun t => shapes[23 + 17 * t]? = some (.inr (4, [.inr (24 + 17 * t), .inr (29 + 17 * t), .inr (32 + 17 * t), .inr (33 + 17 * t), .inr (35 + 17 * t), .inr (37 + 17 * t), .inr (39 + 17 * t), .inl 0, .inl 0, .inl 0, .inl 0, .inl 0, .inl 0]))) rfl rfl rfl rfl ht
theorem sh_heap {t : Nat} (ht : t < 4) : shapes[24 + 17 * t]? = some (.inr (0, [.inr (25 + 17 * t), .inr (26 + 17 * t), .inr (27 + 17 * t), .inr (28 + 17 * t), .inl 1, .inl 0, .inl 0])) := lt4 (P := fun t => shapes[24 + 17 * t]? = some (.inr (0, [.inr (25 + 17 * t), .inr (26 + 17 * t), .inr (27 + 17 * t), .inr (28 + 17 * t), .inl 1, .inl 0, .inl 0]))) rfl rfl rfl rfl ht
theorem sh_nums {t : Nat} (ht : t < 4) : shapes[25 + 17 * t]? = some (.inl (0, 33, [])) := lt4 (P := fun t => shapes[25 + 17 * t]? = some (.inl (0, 33, []))) rfl rfl rfl rfl ht
theorem sh_lefts {t : Nat} (ht : t < 4) : shapes[26 + 17 * t]? = some (.inl (0, 33, [])) := lt4 (P := fun t => shapes[26 + 17 * t]? = some (.inl (0, 33, []))) rfl rfl rfl rfl ht
theorem sh_rights {t : Nat} (ht : t < 4) : shapes[27 + 17 * t]? = some (.inl (0, 33, [])) := lt4 (P := fun t => shapes[27 + 17 * t]? = some (.inl (0, 33, []))) rfl rfl rfl rfl ht
theorem sh_copies {t : Nat} (ht : t < 4) : shapes[28 + 17 * t]? = some (.inl (0, 33, [])) := lt4 (P := fun t => shapes[28 + 17 * t]? = some (.inl (0, 33, []))) rfl rfl rfl rfl ht
theorem sh_stack {t : Nat} (ht : t < 4) : shapes[29 + 17 * t]? = some (.inr (3, [.inr (30 + 17 * t), .inr (31 + 17 * t), .inl 0])) := lt4 (P := fun t => shapes[29 + 17 * t]? = some (.inr (3, [.inr (30 + 17 * t), .inr (31 + 17 * t), .inl 0]))) rfl rfl rfl rfl ht
theorem sh_values {t : Nat} (ht : t < 4) : shapes[30 + 17 * t]? = some (.inl (0, 6, [])) := lt4 (P := fun t => shapes[30 + 17 * t]? = some (.inl (0, 6, []))) rfl rfl rfl rfl ht
theorem sh_arerefs {t : Nat} (ht : t < 4) : shapes[31 + 17 * t]? = some (.inl (1, 6, [])) := lt4 (P := fun t => shapes[31 + 17 * t]? = some (.inl (1, 6, []))) rfl rfl rfl rfl ht
theorem sh_locs {t : Nat} (ht : t < 4) : shapes[32 + 17 * t]? = some (.inl (0, 4, [])) := lt4 (P := fun t => shapes[32 + 17 * t]? = some (.inl (0, 4, []))) rfl rfl rfl rfl ht
theorem sh_perm {t : Nat} (ht : t < 4) : shapes[39 + 17 * t]? = some (.inl (0, 4, [])) := lt4 (P := fun t => shapes[39 + 17 * t]? = some (.inl (0, 4, []))) rfl rfl rfl rfl ht
theorem isl_mail {t : Nat} (ht : t < 4) : IsLine (33 + 17 * t) 4 := lt4 (P := fun t => IsLine (33 + 17 * t) 4) ⟨rfl, rfl⟩ ⟨rfl, rfl⟩ ⟨rfl, rfl⟩ ⟨rfl, rfl⟩ ht
theorem isl_inputs {t : Nat} (ht : t < 4) : IsLine (35 + 17 * t) 8 := lt4 (P := fun t => IsLine (35 + 17 * t) 8) ⟨rfl, rfl⟩ ⟨rfl, rfl⟩ ⟨rfl, rfl⟩ ⟨rfl, rfl⟩ ht
theorem isl_outputs {t : Nat} (ht : t < 4) : IsLine (37 + 17 * t) 16 := lt4 (P := fun t => IsLine (37 + 17 * t) 16) ⟨rfl, rfl⟩ ⟨rfl, rfl⟩ ⟨rfl, rfl⟩ ⟨rfl, rfl⟩ ht
theorem prog_at {p : Nat} (hp : p < 4) : ([some 3, some 8, some 13, some 18] : List (Option Nat)).getD p none = some (3 + 5 * p) := lt4 (P := fun p => ([some 3, some 8, some 13, some 18] : List (Option Nat)).getD p none = some (3 + 5 * p)) rfl rfl rfl rfl hp
theorem ten_at {p : Nat} (hp : p < 4) : ([some 23, some 40, some 57, some 74] : List (Option Nat)).getD p none = some (23 + 17 * p) := lt4 (P := fun p => ([some 23, some 40, some 57, some 74] : List (Option Nat)).getD p none = some (23 + 17 * p)) rfl rfl rfl rfl hp
theorem sh_model : shapes[91]? = some (.inr (6, [.inl 0, .inr 92, .inr 93, .inr 94, .inr 95, .inr 96, .inr 97, .inr 98, .inr 99, .inr 100, .inl 0, .inr 101, .inr 102, .inr 103, .inr 104, .inr 105, .inr 106, .inr 107, .inr 108, .inr 109, .inr 110, .inr 111, .inr 112, .inr 113, .inr 114, .inr 115, .inr 116, .inr 117, .inr 118, .inr 119, .inr 120, .inr 121, .inl 0])) := rfl
theorem sh_m_ops : shapes[92]? = some (.inl (0, 96, [])) := rfl
theorem sh_m_argOf : shapes[93]? = some (.inl (0, 96, [])) := rfl
theorem sh_m_shapes : shapes[94]? = some (.inl (0, 96, [])) := rfl
theorem sh_m_many : shapes[95]? = some (.inl (0, 4, [])) := rfl
theorem sh_m_sealed : shapes[96]? = some (.inl (1, 4, [])) := rfl
theorem sh_m_there : shapes[97]? = some (.inl (1, 104, [])) := rfl
theorem sh_m_num : shapes[98]? = some (.inl (0, 104, [])) := rfl
theorem sh_m_left : shapes[99]? = some (.inl (0, 104, [])) := rfl
theorem sh_m_right : shapes[100]? = some (.inl (0, 104, [])) := rfl
theorem sh_m_mark : shapes[101]? = some (.inl (1, 104, [])) := rfl
theorem sh_m_reached : shapes[102]? = some (.inl (1, 104, [])) := rfl
theorem sh_m_twin : shapes[103]? = some (.inl (0, 104, [])) := rfl
theorem sh_m_cells : shapes[104]? = some (.inl (0, 4, [])) := rfl
theorem sh_m_most : shapes[105]? = some (.inl (0, 4, [])) := rfl
theorem sh_m_states : shapes[106]? = some (.inl (0, 4, [])) := rfl
theorem sh_m_program : shapes[107]? = some (.inl (0, 4, [])) := rfl
theorem sh_m_position : shapes[108]? = some (.inl (0, 4, [])) := rfl
theorem sh_m_stepsOf : shapes[109]? = some (.inl (0, 4, [])) := rfl
theorem sh_m_collects : shapes[110]? = some (.inl (0, 4, [])) := rfl
theorem sh_m_endOf : shapes[111]? = some (.inl (0, 4, [])) := rfl
theorem sh_m_height : shapes[112]? = some (.inl (0, 4, [])) := rfl
theorem sh_m_stack : shapes[113]? = some (.inl (0, 24, [])) := rfl
theorem sh_m_locals : shapes[114]? = some (.inl (0, 16, [])) := rfl
theorem sh_m_mail : shapes[115]? = some (.inl (0, 16, [])) := rfl
theorem sh_m_mails : shapes[116]? = some (.inl (0, 4, [])) := rfl
theorem sh_m_input : shapes[117]? = some (.inl (0, 32, [])) := rfl
theorem sh_m_inputs : shapes[118]? = some (.inl (0, 4, [])) := rfl
theorem sh_m_out : shapes[119]? = some (.inl (0, 64, [])) := rfl
theorem sh_m_outs : shapes[120]? = some (.inl (0, 4, [])) := rfl
theorem sh_m_allowed : shapes[121]? = some (.inl (0, 16, [])) := rfl
