/-! Cells that are made: the addresses grow, and what was there stays. -/
def okr (n r : Nat) : Prop := r < n ∨ 100000 ≤ r
def okV (n : Nat) (v : Value) : Prop := match v with
  | .ref k => okr n k
  | _ => True
def okE (n : Nat) (e : AE) : Prop := match e with
  | .inl (_, (_, .inr (.inr (.inr (.inr f))))) => ∀ j r, f j = some r → okr n r
  | .inl _ => True
  | .inr (_, fs) => ∀ v ∈ fs, okV n v
def okM (M : List AE) : Prop := ∀ e ∈ M, okE M.length e
def okS (n : Nat) (st : List Value) : Prop := ∀ v ∈ st, okV n v
def okL (n : Nat) (L : List (Option Value)) : Prop := ∀ v, some v ∈ L → okV n v
theorem gv_agr {n : Nat} {ad ad' : Nat → Nat} (h : ∀ r, okr n r → ad' r = ad r) {v : Value} (hv : okV n v) : gv ad' v = gv ad v := by
  cases v with
  | ref k => exact congrArg Value.ref (h k hv)
  | _ => rfl
theorem gvs_agr {n : Nat} {ad ad' : Nat → Nat} (h : ∀ r, okr n r → ad' r = ad r) {st : List Value} (hv : okS n st) : st.map (gv ad') = st.map (gv ad) :=
  List.map_congr_left fun v hm => gv_agr h (hv v hm)
theorem lp_agr {n : Nat} {ad ad' : Nat → Nat} (h : ∀ r, okr n r → ad' r = ad r) : ∀ {L : List (Option Value)} {i : Nat}, okL n L → lp ad' i L = lp ad i L
  | [], _, _ => rfl
  | none :: L, i, hv => lp_agr (L := L) (i := i + 1) h (fun v hm => hv v (List.mem_cons_of_mem _ hm))
  | some v :: L, i, hv => by
    simp only [lp]
    rw [gv_agr h (hv v List.mem_cons_self), lp_agr (L := L) (i := i + 1) h (fun v hm => hv v (List.mem_cons_of_mem _ hm))]
theorem ge_agr {n : Nat} {ad ad' : Nat → Nat} (h : ∀ r, okr n r → ad' r = ad r) {e : AE} (he : okE n e) (c : ClassId) : ge c ad' e = ge c ad e := by
  match e with
  | .inl (t, (k, .inl f)) => rfl
  | .inl (t, (k, .inr (.inl f))) => rfl
  | .inl (t, (k, .inr (.inr (.inl f)))) => rfl
  | .inl (t, (k, .inr (.inr (.inr (.inl f))))) => rfl
  | .inl (t, (k, .inr (.inr (.inr (.inr f))))) =>
    have h2 : (fun j => (f j).map ad') = fun j => (f j).map ad := by
      funext j
      cases hf : f j with
      | none => rfl
      | some r => exact congrArg some (h r (he j r hf))
    show Sum.inl (c, k, Sum.inr (Sum.inr (Sum.inr (Sum.inr (fun j => (f j).map ad'))))) = Sum.inl (c, k, Sum.inr (Sum.inr (Sum.inr (Sum.inr (fun j => (f j).map ad)))))
    rw [h2]
  | .inr (ci, fs) =>
    show Sum.inr (ci, fs.map (gv ad')) = Sum.inr (ci, fs.map (gv ad))
    rw [gvs_agr h he]
theorem gw_agr {n : Nat} {kc kc' : Nat → ClassId} {ad ad' : Nat → Nat} (h : ∀ r, okr n r → ad' r = ad r) : ∀ (M : List AE) (i : Nat), (∀ k, i ≤ k → k < i + M.length → kc' k = kc k ∧ ad' k = ad k) → (∀ e ∈ M, okE n e) → gw kc' ad' i M = gw kc ad i M
  | [], _, _, _ => rfl
  | e :: M, i, h1, h2 => by
    simp only [gw]
    obtain ⟨a1, a2⟩ := h1 i (Nat.le_refl _) (by simp only [List.length_cons]; omega)
    rw [a1, a2, ge_agr h (h2 e List.mem_cons_self), gw_agr h M (i + 1) (fun k b1 b2 => h1 k (by omega) (by simp only [List.length_cons]; omega)) (fun e he => h2 e (List.mem_cons_of_mem _ he))]
section GOALLOC
variable {E : Lx} {Y Z : Mt} {R rm : Room} {cs ss pc np idx : Nat} {L : List (Option Value)} {st st0 as : List Value} {M : List AE} {Φ Ψ : Post}
/-- the context behind a new cell -/
theorem Cx.grow {p : Program} {e : Env} {s : State} {m : MethodId} {args : Array Value} {below : List Frame} {meth : Method} {c : Code} {D : va_G} {kc : Nat → ClassId} {ad : Nat → Nat} {A : Nat → Prop} {H H1 : Heap} {locs : List Loc} {ls : Array Slot} {Q : State → Prop} {x : AE} {q : Nat} {cA : ClassId} {cs' ss' : Nat} (X : Cx E Y true R cs ss L M Φ p e s m args below meth c D kc ad A H locs ls Q) (hok : okM M) (hL : okL M.length L) (hlen : M.length < 100000) (hx : ∀ ad', ge cA ad' x = ge cA ad x)
    (hK : ∀ t a, x = .inl (t, a) → va_K D gcl [(cA, tyk t)] s) (hP : va_P D gcl (gw kc ad 0 M ++ [(q, ge cA ad x)]) H1) (hD : va_D A (gw kc ad 0 M ++ [(q, ge cA ad x)])) (hS : va_S A s.heap H1 locs) (hc : cs' ≤ R.cells) (hs : ss' ≤ R.slots) :
    Cx E Y true R cs' ss' L (M ++ [x]) Φ p e s m args below meth c D (fun j => if j = M.length then cA else kc j) (fun j => if j = M.length then q else ad j) A H1 locs ls Q := by
  have ha : ∀ r, okr M.length r → (fun j => if j = M.length then q else ad j) r = ad r := fun r hr => if_neg (fun h => by unfold okr at hr; omega)
  have hg : gw (fun j => if j = M.length then cA else kc j) (fun j => if j = M.length then q else ad j) 0 (M ++ [x]) = gw kc ad 0 M ++ [(q, ge cA ad x)] := by
    rw [gw_app, gw_agr ha M 0 (fun k _ hk => ⟨if_neg (by omega), if_neg (by omega)⟩) hok]
    simp only [Nat.zero_add, if_true]
    rw [hx]
  refine ⟨X.1, ⟨by rw [hg]; exact hP, X.2.1.2.1, fun k t a hk => ?_⟩, by rw [hg]; exact hD, hS, X.2.2.2.2.1, ⟨fun i hi => ?_, ?_⟩, ?_, hc, hs, ?_⟩
  · by_cases hkl : k = M.length
    · subst hkl
      rw [List.getElem?_append_right (Nat.le_refl _), Nat.sub_self] at hk
      simp only [if_true]
      exact hK t a (Option.some.inj hk)
    · simp only [if_neg hkl]
      by_cases h2 : k < M.length
      · rw [List.getElem?_append_left h2] at hk
        exact X.2.1.2.2 k t a hk
      · rw [List.getElem?_append_right (by omega), List.getElem?_eq_none (by simp only [List.length_cons, List.length_nil]; omega)] at hk
        cases hk
  · have h2 := X.2.2.2.2.2.1.1 i hi
    have h3 : (fun j => if j = M.length then q else ad j) (100000 + i) = ad (100000 + i) := if_neg (by omega)
    rw [h3]
    exact h2
  · have h2 := X.2.2.2.2.2.1.2
    have h3 : (fun j => if j = M.length then q else ad j) 100003 = ad 100003 := if_neg (by omega)
    rw [h3]
    exact h2
  · rw [lp_agr ha hL]
    exact X.2.2.2.2.2.2.1
  · intro r M' kc' ad' H' locs' cs2 ss2 pc2 ls2 b1 b2 b3 b4
    rw [List.length_append, List.length_cons, List.length_nil] at b3 b4
    exact X.2.2.2.2.2.2.2.2.2 r M' kc' ad' H' locs' cs2 ss2 pc2 ls2 b1 b2 (by omega) ⟨fun k hk => (b4.1 k (by omega)).trans (if_neg (by omega)), fun k hk => (b4.2 k (by omega)).trans (if_neg (by omega))⟩
theorem go_new {ci N : Nat} {C : String} {T : u_T} {fs : List Value} (hc : gcl[ci]? = some (C, T, N)) (hin : ∀ w ∈ u_ws C T N, gin w) (ty : Nat → FieldType) (hty : ∀ k, k < N → parseFieldDescriptor (T k).2.2.1 = some (ty k)) (hcl : gin (.classLink Y.1.cls idx C)) (hinst : gin (.instantiable C N)) (hini : gin (.initialized C)) (hfs : ∀ j, j < N → defaultValue (ty j) = vp_V fs j) (hnr : ∀ ad : Nat → Nat, fs.map (gv ad) = fs) (hok : okM M) (hS : okS M.length st) (hL : okL M.length L) (hlen : M.length < 100000) (hcs : cs + 1 ≤ R.cells) (hss : ss + N ≤ R.slots) (d : decode Y.2.1 pc = .ok (.new idx, 3)) (kk : Go E Y true R (cs + 1) (ss + N) (pc + 3) L (.ref M.length :: st) (M ++ [.inr (ci, fs)]) Φ) : Go E Y true R cs ss pc L st M Φ := by
  intro p e s m args below meth c D kc ad A H locs ls Q X
  have hts : ∀ w ∈ u_ws C T N, w.before args s = true := fun w h => X.1.2.2.2.2.2.2.1 w (hin w h)
  refine va_new X.1.1 X.1.2.1 hts (fun _ h => h) ty hty X.1.2.2.2.2.2.1 (X.1.2.2.2.2.2.2.1 _ hcl) (X.1.2.2.2.2.2.2.1 _ hinst) (X.1.2.2.2.2.2.2.1 _ hini) X.2.1.2.1 X.2.1.1 X.2.2.1 X.2.2.2.1 X.2.2.2.2.1 hc hfs hcs hss d (fun q H1 hP1 hD1 hS1 => ?_)
  have hx : ∀ ad', ge 0 ad' (.inr (ci, fs)) = (.inr (ci, fs) : va_E) := fun ad' => by
    show Sum.inr (ci, fs.map (gv ad')) = _
    rw [hnr]
  have k2 := kk p e s m args below meth c D (fun j => if j = M.length then 0 else kc j) (fun j => if j = M.length then q else ad j) A H1 locs ls Q (X.grow hok hL hlen (fun ad' => by rw [hx, hx]) (fun t a h => by cases h) (by rw [hx]; exact hP1) (by rw [hx]; exact hD1) hS1 hcs hss)
  have hst : (Value.ref M.length :: st).map (gv (fun j => if j = M.length then q else ad j)) = .ref q :: st.map (gv ad) := by
    rw [List.map_cons, gvs_agr (n := M.length) (fun r hr => if_neg (fun h => by unfold okr at hr; omega)) hS]
    show Value.ref (if M.length = M.length then q else ad M.length) :: _ = _
    rw [if_pos rfl]
  rw [hst] at k2
  exact k2
theorem go_newa {t N' : Nat} {atype : ArrayType} {n : Int32} (harr : gin (.arrayClass (newarray.typeOf atype))) (hty : newarray.typeOf atype = tyk t) (ha : ∀ cA : ClassId, vp_cell cA (N', .inl (fun _ => 0)) = arrV cA N' (fun _ => defaultValue (tyk t))) (hn : ¬ n < 0) (hN : n.toNatClampNeg = N') (hb : N' * componentBytes (tyk t) ≤ 536870912) (hok : okM M) (hS : okS M.length st) (hL : okL M.length L) (hlen : M.length < 100000) (hcs : cs + 1 ≤ R.cells) (hss : ss + N' ≤ R.slots) (d : decode Y.2.1 pc = .ok (.newarray atype, 2)) (kk : Go E Y true R (cs + 1) (ss + N') (pc + 2) L (.ref M.length :: st) (M ++ [.inl (t, N', .inl (fun _ => 0))]) Φ) : Go E Y true R cs ss pc L (.int n :: st) M Φ := by
  intro p e s m args below meth c D kc ad A H locs ls Q X
  refine va_newa X.1.1 X.1.2.1 (X.1.2.2.2.2.2.2.1 _ harr) hty X.2.1.2.1 X.2.1.1 X.2.2.1 X.2.2.2.1 X.2.2.2.2.1 ha hn hN hb hcs hss d (fun q cA H1 hK1 hP1 hD1 hS1 => ?_)
  have k2 := kk p e s m args below meth c D (fun j => if j = M.length then cA else kc j) (fun j => if j = M.length then q else ad j) A H1 locs ls Q (X.grow hok hL hlen (fun ad' => rfl) (fun t a h => by cases h; exact hK1) hP1 hD1 hS1 hcs hss)
  have hst : (Value.ref M.length :: st).map (gv (fun j => if j = M.length then q else ad j)) = .ref q :: st.map (gv ad) := by
    rw [List.map_cons, gvs_agr (n := M.length) (fun r hr => if_neg (fun h => by unfold okr at hr; omega)) hS]
    show Value.ref (if M.length = M.length then q else ad M.length) :: _ = _
    rw [if_pos rfl]
  rw [hst] at k2
  exact k2
end GOALLOC
