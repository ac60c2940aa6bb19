/-! Constructors: the memory is what was there, M0, and the cells made since, one by one. -/
def okVs (n : Nat) : List Value → Prop
  | [] => True
  | v :: r => okV n v ∧ okVs n r
def okEx (n : Nat) (e : AE) : Prop := match e with
  | .inl (_, (_, .inr (.inr (.inr (.inr f))))) => ∀ j r, f j = some r → okr n r
  | .inl _ => True
  | .inr (_, fs) => okVs n fs
def okEs (n : Nat) : List AE → Prop
  | [] => True
  | e :: r => okEx n e ∧ okEs n r
def okLs (n : Nat) : List (Option Value) → Prop
  | [] => True
  | none :: r => okLs n r
  | some v :: r => okV n v ∧ okLs n r
theorem okVs_all {n : Nat} : ∀ {l : List Value}, okVs n l → ∀ v ∈ l, okV n v
  | [], _, v, h => by cases h
  | x :: l, hl, v, h => by
    rcases List.mem_cons.mp h with rfl | h
    · exact hl.1
    · exact okVs_all hl.2 v h
theorem okLs_all {n : Nat} : ∀ {l : List (Option Value)}, okLs n l → okL n l
  | [], _, v, h => by cases h
  | none :: l, hl, v, h => by
    rcases List.mem_cons.mp h with h | h
    · cases h
    · exact okLs_all (l := l) hl v h
  | some x :: l, hl, v, h => by
    rcases List.mem_cons.mp h with h | h
    · cases h; exact hl.1
    · exact okLs_all (l := l) hl.2 v h
theorem okEx_E {n : Nat} {e : AE} (h : okEx n e) : okE n e := by
  match e, h with
  | .inl (t, (k, .inl f)), _ => trivial
  | .inl (t, (k, .inr (.inl f))), _ => trivial
  | .inl (t, (k, .inr (.inr (.inl f)))), _ => trivial
  | .inl (t, (k, .inr (.inr (.inr (.inl f))))), _ => trivial
  | .inl (t, (k, .inr (.inr (.inr (.inr f))))), h => exact h
  | .inr (ci, fs), h => exact okVs_all h
theorem okr_mono {n N r : Nat} (h : n ≤ N) (hr : okr n r) : okr N r := by unfold okr at *; omega
theorem okV_mono {n N : Nat} {v : Value} (h : n ≤ N) (hr : okV n v) : okV N v := by
  cases v with
  | ref k => exact okr_mono h hr
  | _ => trivial
theorem okVs_mono {n N : Nat} (h : n ≤ N) : ∀ {l : List Value}, okVs n l → okVs N l
  | [], _ => trivial
  | _ :: _, hl => ⟨okV_mono h hl.1, okVs_mono h hl.2⟩
theorem okEx_mono {n N : Nat} {e : AE} (hn : n ≤ N) (h : okEx n e) : okEx N e := by
  match e, h with
  | .inl (t, (k, .inl f)), _ => trivial
  | .inl (t, (k, .inr (.inl f))), _ => trivial
  | .inl (t, (k, .inr (.inr (.inl f)))), _ => trivial
  | .inl (t, (k, .inr (.inr (.inr (.inl f))))), _ => trivial
  | .inl (t, (k, .inr (.inr (.inr (.inr f))))), h => exact fun j r hj => okr_mono hn (h j r hj)
  | .inr (ci, fs), h => exact okVs_mono hn h
theorem okEs_mono {n N : Nat} (h : n ≤ N) : ∀ {l : List AE}, okEs n l → okEs N l
  | [], _ => trivial
  | _ :: _, hl => ⟨okEx_mono h hl.1, okEs_mono h hl.2⟩
theorem okEs_app {n : Nat} : ∀ {a b : List AE}, okEs n a → okEs n b → okEs n (a ++ b)
  | [], _, _, hb => hb
  | _ :: _, _, ha, hb => ⟨ha.1, okEs_app ha.2 hb⟩
theorem okEs_all {n : Nat} : ∀ {l : List AE}, okEs n l → ∀ e ∈ l, okE n e
  | [], _, v, h => by cases h
  | x :: l, hl, v, h => by
    rcases List.mem_cons.mp h with rfl | h
    · exact okEx_E hl.1
    · exact okEs_all hl.2 v h
theorem okA_0 {n : Nat} : ∀ (j r : Nat), (fun _ : Nat => (none : Option Nat)) j = some r → okr n r := fun _ _ h => by cases h
theorem okA_up {n k v : Nat} {f : Nat → Option Nat} (h : ∀ j r, f j = some r → okr n r) (hv : okr n v) : ∀ (j r : Nat), va_up f k (some v) j = some r → okr n r := by
  intro j r hj
  unfold va_up at hj
  split at hj
  · cases hj; exact hv
  · exact h j r hj
/-- a prefix and what was made behind it -/
def Pfx (M0 : List AE) (n : Nat) : Prop := M0.length = n ∧ okEs n M0
theorem Pfx.ok {M0 l : List AE} {n N : Nat} (h : Pfx M0 n) (hN : n + l.length = N) (hl : okEs N l) : okM (M0 ++ l) := by
  have hlen : (M0 ++ l).length = N := by rw [List.length_append, h.1]; exact hN
  intro e he
  rw [hlen]
  exact okEs_all (okEs_app (okEs_mono (by omega) h.2) hl) e he
theorem Pfx.app {M0 l : List AE} {n N : Nat} (h : Pfx M0 n) (hN : n + l.length = N) (hl : okEs N l) : Pfx (M0 ++ l) N :=
  ⟨by rw [List.length_append, h.1]; exact hN, okEs_app (okEs_mono (by omega) h.2) hl⟩
theorem Pfx.at {M0 l : List AE} {n i : Nat} {e : AE} (h : Pfx M0 n) (hi : l[i]? = some e) : (M0 ++ l)[n + i]? = some e := by
  rw [List.getElem?_append_right (by rw [h.1]; omega), h.1, show n + i - n = i by omega]
  exact hi
theorem Pfx.set {M0 l l' : List AE} {n i : Nat} {e : AE} (h : Pfx M0 n) (hl : l.set i e = l') : (M0 ++ l).set (n + i) e = M0 ++ l' := by
  rw [List.set_append, if_neg (by rw [h.1]; omega), h.1, show n + i - n = i by omega, hl]
section GOCTOR
variable {E : Lx} {Y Z : Mt} {R rm : Room} {cs ss pc np idx n N i : Nat} {L : List (Option Value)} {st st0 as : List Value} {M0 l l' : List AE} {Φ Ψ : Post}
theorem go_newP {ci K : Nat} {C : String} {T : u_T} {fs : List Value} (h : Pfx M0 n) (hN : n + l.length = N) (hl : okEs N l) (hsN : N < 90000) (hc : gcl[ci]? = some (C, T, K)) (hin : ∀ w ∈ u_ws C T K, gin w) (ty : Nat → FieldType) (hty : ∀ k, k < K → parseFieldDescriptor (T k).2.2.1 = some (ty k)) (hw : gin (.classLink Y.1.cls idx C) ∧ gin (.instantiable C K) ∧ gin (.initialized C)) (hfs : ∀ j, j < K → defaultValue (ty j) = vp_V fs j) (hnr : ∀ ad : Nat → Nat, fs.map (gv ad) = fs) (hS : okVs N st) (hL : okLs N L) (hl' : l ++ [.inr (ci, fs)] = l') (hcs : cs + 1 ≤ R.cells) (hss : ss + K ≤ R.slots) (d : decode Y.2.1 pc = .ok (.new idx, 3)) (kk : Go E Y true R (cs + 1) (ss + K) (pc + 3) L (.ref N :: st) (M0 ++ l') Φ) : Go E Y true R cs ss pc L st (M0 ++ l) Φ := by
  have hlen : (M0 ++ l).length = N := by rw [List.length_append, h.1]; exact hN
  refine go_new hc hin ty hty hw.1 hw.2.1 hw.2.2 hfs hnr (h.ok hN hl) (by rw [hlen]; exact okVs_all hS) (by rw [hlen]; exact okLs_all hL) (by omega) hcs hss d ?_
  rw [hlen, List.append_assoc, hl']
  exact kk
theorem go_newaP {t K : Nat} {atype : ArrayType} {k : Int32} (h : Pfx M0 n) (hN : n + l.length = N) (hl : okEs N l) (hsN : N < 90000) (harr : gin (.arrayClass (newarray.typeOf atype))) (hty : newarray.typeOf atype = tyk t) (ha : ∀ cA : ClassId, vp_cell cA (K, .inl (fun _ => 0)) = arrV cA K (fun _ => defaultValue (tyk t))) (hn : ¬ k < 0) (hK : k.toNatClampNeg = K) (hb : K * componentBytes (tyk t) ≤ 536870912) (hS : okVs N st) (hL : okLs N L) (hl' : l ++ [.inl (t, K, .inl (fun _ => 0))] = l') (hcs : cs + 1 ≤ R.cells) (hss : ss + K ≤ R.slots) (d : decode Y.2.1 pc = .ok (.newarray atype, 2)) (kk : Go E Y true R (cs + 1) (ss + K) (pc + 2) L (.ref N :: st) (M0 ++ l') Φ) : Go E Y true R cs ss pc L (.int k :: st) (M0 ++ l) Φ := by
  have hlen : (M0 ++ l).length = N := by rw [List.length_append, h.1]; exact hN
  refine go_newa harr hty ha hn hK hb (h.ok hN hl) (by rw [hlen]; exact okVs_all hS) (by rw [hlen]; exact okLs_all hL) (by omega) hcs hss d ?_
  rw [hlen, List.append_assoc, hl']
  exact kk
theorem go_newq {t K : Nat} {C : String} {k : Int32} {M : List AE} (hw : gin (.classLink Y.1.cls idx C)) (ho : nin (.arrayOver (.object C))) (ht : tyk t = .object C) (hn : ¬ k < 0) (hK : k.toNatClampNeg = K) (hb : K * 4 ≤ 536870912) (hok : okM M) (hS : okS M.length st) (hL : okL M.length L) (hlen : M.length < 100000) (hcs : cs + 1 ≤ R.cells) (hss : ss + K ≤ R.slots) (d : decode Y.2.1 pc = .ok (.anewarray idx, 3)) (kk : Go E Y true R (cs + 1) (ss + K) (pc + 3) L (.ref M.length :: st) (M ++ [.inl (t, K, .inr (.inr (.inr (.inr (fun _ => none)))))]) Φ) : Go E Y true R cs ss pc L (.int k :: st) M Φ := by
  intro p e s m args below meth c D kc ad A H locs ls Q X
  refine va_newq X.1.1 X.1.2.1 X.1.2.2.2.2.2.1 (X.1.2.2.2.2.2.2.1 _ hw) (X.1.2.2.2.2.2.2.2.1 _ ho) X.2.1.2.1 X.2.1.1 X.2.2.1 X.2.2.2.1 X.2.2.2.2.1 hn hK hb hcs hss d (fun q cA H1 hK1 hP1 hD1 hS1 => ?_)
  have k2 := kk p e s m args below meth c D (fun j => if j = M.length then cA else kc j) (fun j => if j = M.length then q else ad j) A H1 locs ls Q (X.grow hok hL hlen (fun ad' => rfl) (fun t a h => by cases h; rw [ht]; exact hK1) hP1 hD1 hS1 hcs hss)
  have hst : (Value.ref M.length :: st).map (gv (fun j => if j = M.length then q else ad j)) = .ref q :: st.map (gv ad) := by
    rw [List.map_cons, gvs_agr (n := M.length) (fun r hr => if_neg (fun h => by unfold okr at hr; omega)) hS]
    show Value.ref (if M.length = M.length then q else ad M.length) :: _ = _
    rw [if_pos rfl]
  rw [hst] at k2
  exact k2
theorem go_newqP {t K : Nat} {C : String} {k : Int32} (h : Pfx M0 n) (hN : n + l.length = N) (hl : okEs N l) (hsN : N < 90000) (hw : gin (.classLink Y.1.cls idx C)) (ho : nin (.arrayOver (.object C))) (ht : tyk t = .object C) (hn : ¬ k < 0) (hK : k.toNatClampNeg = K) (hb : K * 4 ≤ 536870912) (hS : okVs N st) (hL : okLs N L) (hl' : l ++ [.inl (t, K, .inr (.inr (.inr (.inr (fun _ => none)))))] = l') (hcs : cs + 1 ≤ R.cells) (hss : ss + K ≤ R.slots) (d : decode Y.2.1 pc = .ok (.anewarray idx, 3)) (kk : Go E Y true R (cs + 1) (ss + K) (pc + 3) L (.ref N :: st) (M0 ++ l') Φ) : Go E Y true R cs ss pc L (.int k :: st) (M0 ++ l) Φ := by
  have hlen : (M0 ++ l).length = N := by rw [List.length_append, h.1]; exact hN
  refine go_newq hw ho ht hn hK hb (h.ok hN hl) (by rw [hlen]; exact okVs_all hS) (by rw [hlen]; exact okLs_all hL) (by omega) hcs hss d ?_
  rw [hlen, List.append_assoc, hl']
  exact kk
theorem go_getP {ci j : Nat} {fs : List Value} {v : Value} (h : Pfx M0 n) (hM : l[i]? = some (.inr (ci, fs))) (hF : FL Y.1.cls idx ci j) (hv : fs[j]? = some v) (d : decode Y.2.1 pc = .ok (.getfield idx, 3)) (kk : Go E Y true R cs ss (pc + 3) L (v :: st) (M0 ++ l) Φ) : Go E Y true R cs ss pc L (.ref (n + i) :: st) (M0 ++ l) Φ := go_get (h.at hM) hF hv d kk
theorem go_putP {ci j : Nat} {ty : FieldType} {fs : List Value} {v : Value} (h : Pfx M0 n) (hM : l[i]? = some (.inr (ci, fs))) (hF : FP Y.1 idx ci j ty) (hn : ∀ ad, narrow ty (gv ad v) = gv ad v) (hfit : ∀ ad, fits ty (gv ad v) = true) (hj : j < fs.length) (hl : l.set i (.inr (ci, fs.set j v)) = l') (d : decode Y.2.1 pc = .ok (.putfield idx, 3)) (kk : Go E Y true R cs ss (pc + 3) L st (M0 ++ l') Φ) : Go E Y true R cs ss pc L (v :: .ref (n + i) :: st) (M0 ++ l) Φ :=
  go_put (h.at hM) hF hn hfit hj d (by rw [h.set hl]; exact kk)
theorem go_iastP {k : Nat} {f : Nat → Int32} {x y : Int32} (h : Pfx M0 n) (hM : l[i]? = some (.inl (0, k, .inl f))) (hin : vp_in x k) (hl : l.set i (.inl (0, k, .inl (upd f x.toNatClampNeg y))) = l') (d : decode Y.2.1 pc = .ok (.iastore, 1)) (kk : Go E Y true R cs ss (pc + 1) L st (M0 ++ l') Φ) : Go E Y true R cs ss pc L (.int y :: .int x :: .ref (n + i) :: st) (M0 ++ l) Φ :=
  go_iast (h.at hM) hin d (by rw [h.set hl]; exact kk)
theorem go_aastP {k t i2 ci K : Nat} {fs : List Value} {C : String} {T : u_T} {f : Nat → Option Nat} {x : Int32} (h : Pfx M0 n) (hM : l[i]? = some (.inl (t, k, .inr (.inr (.inr (.inr f)))))) (ht : tyk t = .object C) (hr : l[i2]? = some (.inr (ci, fs))) (hc : gcl[ci]? = some (C, T, K)) (hin : vp_in x k) (hl : l.set i (.inl (t, k, .inr (.inr (.inr (.inr (va_up f x.toNatClampNeg (some (n + i2)))))))) = l') (d : decode Y.2.1 pc = .ok (.aastore, 1)) (kk : Go E Y true R cs ss (pc + 1) L st (M0 ++ l') Φ) : Go E Y true R cs ss pc L (.ref (n + i2) :: .int x :: .ref (n + i) :: st) (M0 ++ l) Φ :=
  go_aast (h.at hM) ht (h.at hr) hc hin d (by rw [h.set hl]; exact kk)
theorem gz_goA {p : Program} {e : Env} {s : State} {m : MethodId} {args : Array Value} {below : List Frame} {meth : Method} {c : Code} {D : va_G} {kc : Nat → ClassId} {ad : Nat → Nat} {A : Nat → Prop} {H : Heap} {locs : List Loc} {ls : Array Slot} {Q : State → Prop} {M : List AE} (X : Cx E Y true R cs ss L M Φ p e s m args below meth c D kc ad A H locs ls Q) (hS0 : okS M.length st) (hL0 : okL M.length L) (hcs : cs + rm.cells ≤ R.cells) (hss : ss + rm.slots ≤ R.slots) {av : Array Value}
    (run : va_Run p E.1 e R s m args below meth c H locs cs ss rm.cells rm.slots (F0 m pc ls (st0.map (gv ad))) (st.map (gv ad)) (Qg Ψ true D kc ad M H.size av) (va_A (gw kc ad 0 M) H.size))
    (kk : ∀ (r : Option Value) (M' : List AE), Ψ r M' → Go E Y true R (cs + rm.cells) (ss + rm.slots) (pc + 3) L (r.toList ++ st) M' Φ) : W p E.1 e R s m args below meth c H locs cs ss Q (F0 m pc ls (st0.map (gv ad))) := by
  intro T hT X0
  obtain ⟨v, st₀, t, T', Lc, hh0, X', hLc, e1, e2, ⟨⟨r, M', kc', ad', hv, hΨ, hle, hag, hW', hD'⟩, hz, hk⟩, stp⟩ := run T hT X0
  cases hv
  rw [hh0] at hz hk
  have hfree := gz_free X
  have hS := X.2.2.2.1
  have ha : ∀ r, okr M.length r → ad' r = ad r := fun r hr => hag.2 r hr
  have hW2 : Wd D kc' ad' M' s T'.heap := by
    rw [e1]
    exact hW'.moved (by rw [← e2]; exact X'.warmed.alike.symm)
  have hS2 : va_S A s.heap T'.heap (locs ++ Lc) := ⟨Nat.le_trans hS.1 (by rw [e1]; exact hz), fun q h1 h2 => by rw [e1, hk q (Nat.lt_of_lt_of_le h1 hS.1) (fun z => h2 (hfree q z))]; exact hS.2.1 q h1 h2, fun q hq => by
      rcases List.mem_append.mp hq with h | h
      · exact hS.2.2 q h
      · exact hfree _ (hLc q h)⟩
  have hfin := X.2.2.2.2.2.2.2.2.2
  have hfin2 : Fn E Y true R M'.length Φ p e s m args below meth c D kc' ad' A Q := by
    intro r2 M2 kc2 ad2 H2 locs2 cs2 ss2 pc2 ls2 a1 a2 a3 a4
    exact hfin r2 M2 kc2 ad2 H2 locs2 cs2 ss2 pc2 ls2 a1 a2 (Nat.le_trans hle a3) ⟨fun k hk => (a4.1 k (Nat.lt_of_lt_of_le hk hle)).trans (hag.1 k hk), fun k hk => (a4.2 k (hk.imp (fun h => Nat.lt_of_lt_of_le h hle) id)).trans (hag.2 k hk)⟩
  have hsta : Sta E.2 ad' A s s.heap := by
    obtain ⟨z1, z2⟩ := X.2.2.2.2.2.1
    refine ⟨fun i hi => ?_, ?_⟩
    · rw [hag.2 (100000 + i) (Or.inr (by omega))]
      exact z1 i hi
    · rw [hag.2 100003 (Or.inr (by omega))]
      exact z2
  obtain ⟨t2, b1, b2⟩ := kk r M' hΨ p e s m args below meth c D kc' ad' A T'.heap (locs ++ Lc) ls Q ⟨X.1, hW2, hD'.weaken (fun _ _ _ h => hfree _ h), hS2, X.2.2.2.2.1, hsta, by rw [lp_agr ha hL0]; exact X.2.2.2.2.2.2.1, hcs, hss, hfin2⟩ T' rfl X'
  refine ⟨t2, stp t2 ?_, b2⟩
  have hst : (r.map (gv ad')).toList ++ st.map (gv ad) = (r.toList ++ st).map (gv ad') := by
    rw [← gvs_agr ha hS0]
    cases r <;> simp
  show Steps p.tables e below (T'.setTop (F0 m (pc + 3) ls ((r.map (gv ad')).toList ++ st.map (gv ad)))) t2
  rw [hst]
  exact b1
/-- a constructor that makes cells -/
theorem go_callI {k : Nat} {M : List AE} (hM : Mets (mE E.1) Z true rm (.ref k :: as) M Ψ) (hZ : CZ Z np) (hz : Z.1.name = "<init>" ∧ Z.2.2.2 = none) (hV : gin (.instanceMethod Z.1)) (hlk : ML Y.1.cls idx Z.1) (hn : as.length = np) (hs0 : st0 = as.reverse ++ .ref k :: st) (hcat : (st.map Value.category).sum ≤ 8) (hR : rm.frames + 1 ≤ R.frames ∧ 8 + (Z.2.2.1 + 11) + rm.locals ≤ R.locals) (hcs : cs + rm.cells ≤ R.cells) (hss : ss + rm.slots ≤ R.slots) (hS : okS M.length st) (hL : okL M.length L) (d : decode Y.2.1 pc = .ok (.invokespecial idx, 3)) (kk : ∀ (r : Option Value) (M' : List AE), Ψ r M' → Go E Y true R (cs + rm.cells) (ss + rm.slots) (pc + 3) L (r.toList ++ st) M' Φ) : Go E Y true R cs ss pc L st0 M Φ := by
  intro p e s m args below meth c D kc ad A H locs ls Q X
  subst hs0
  obtain ⟨y, cc, mL, rt⟩ := Z
  obtain ⟨hz1, hz2⟩ := hz
  simp only at hz1 hz2
  subst hz2
  have hpre : PreS s H (Pg mT (.ref k :: as) D kc ad M H.size) (.ref (ad k) :: as.map (gv ad)) := ⟨gz_blind, gz_pre (as := .ref k :: as) X⟩
  have hstk : (F0 m pc ls ((as.reverse ++ .ref k :: st).map (gv ad))).stack = (as.map (gv ad)).reverse ++ .ref (ad k) :: st.map (gv ad) := by
    show (as.reverse ++ .ref k :: st).map (gv ad) = _
    rw [List.map_append, List.map_reverse]
    rfl
  rcases hlk with hlk | ⟨host, hlk⟩
  · exact gz_goA X hS hL hcs hss (va_runI (Ts := []) ⟨X.1.1, X.1.2.1, X.1.2.2.1, X.1.2.2.2.2.2.1, fun _ h => by cases h⟩ (hM D kc ad H.size) ⟨gz_callB X.1 hZ hlk hR, hz1, X.1.2.2.2.2.2.2.1 _ hV⟩ hpre rfl (by rw [List.length_map]; exact hn) X.2.2.2.2.2.2.1.1 hstk (lv_room (gz_cat hcat)) d ⟨hcs, hss⟩) kk
  · exact gz_goA X hS hL hcs hss (va_runIN (Ts := []) ⟨X.1.1, X.1.2.1, X.1.2.2.1, X.1.2.2.2.2.2.1, fun _ h => by cases h⟩ (hM D kc ad H.size) ⟨gz_callN X.1 hZ hlk hR, hz1, X.1.2.2.2.2.2.2.1 _ hV⟩ hpre rfl (by rw [List.length_map]; exact hn) X.2.2.2.2.2.2.1.1 hstk (lv_room (gz_cat hcat)) d ⟨hcs, hss⟩) kk
/-- the same, on a prefix: the object is the last cell made -/
theorem go_callIP {lq : List AE} {o : AE} {k : Nat} {Ls : Nat → List AE} (h : Pfx M0 n) (hl0 : l = lq ++ [o]) (hk : n + lq.length = k) (hlq : okEs k lq) (hM : ∀ (M1 : List AE), Pfx M1 k → Mets (mE E.1) Z true rm (.ref k :: as) (M1 ++ [o]) (fun r M' => r = none ∧ M' = M1 ++ Ls k)) (hZ : CZ Z np) (hz : Z.1.name = "<init>" ∧ Z.2.2.2 = none) (hV : gin (.instanceMethod Z.1)) (hlk : ML Y.1.cls idx Z.1) (hn : as.length = np) (hs0 : st0 = as.reverse ++ .ref k :: st) (hcat : (st.map Value.category).sum ≤ 8) (hR : rm.frames + 1 ≤ R.frames ∧ 8 + (Z.2.2.1 + 11) + rm.locals ≤ R.locals) (hcs : cs + rm.cells ≤ R.cells) (hss : ss + rm.slots ≤ R.slots) (hS : okVs (k + 1) st) (hL : okLs (k + 1) L) (hl' : lq ++ Ls k = l') (d : decode Y.2.1 pc = .ok (.invokespecial idx, 3)) (kk : Go E Y true R (cs + rm.cells) (ss + rm.slots) (pc + 3) L st (M0 ++ l') Φ) : Go E Y true R cs ss pc L st0 (M0 ++ l) Φ := by
  have hp := h.app hk hlq
  have hlen : ((M0 ++ lq) ++ [o]).length = k + 1 := by rw [List.length_append, hp.1]; rfl
  rw [hl0, ← List.append_assoc]
  refine go_callI (hM (M0 ++ lq) hp) hZ hz hV hlk hn hs0 hcat hR hcs hss (by rw [hlen]; exact okVs_all hS) (by rw [hlen]; exact okLs_all hL) d (fun r M' hr => ?_)
  obtain ⟨rfl, rfl⟩ := hr
  rw [List.append_assoc, hl']
  exact kk
end GOCTOR
theorem rn {n i K : Nat} (h : i < K) : okr (n + K) (n + i) := Or.inl (Nat.add_lt_add_left h n)
theorem na_0 (K : Nat) : ∀ cA : ClassId, vp_cell cA (K, .inl (fun _ => 0)) = arrV cA K (fun _ => defaultValue (tyk 0)) := fun _ => rfl
theorem na_1 (K : Nat) : ∀ cA : ClassId, vp_cell cA (K, .inl (fun _ => 0)) = arrV cA K (fun _ => defaultValue (tyk 1)) := fun _ => rfl
theorem go_num {E : Lx} {Y : Mt} {al : Bool} {R : Room} {cs ss pc : Nat} {L : List (Option Value)} {st : List Value} {M : List AE} {Φ : Post} {x v : Int32} (hv : x = v) (k : Go E Y al R cs ss pc L (.int v :: st) M Φ) : Go E Y al R cs ss pc L (.int x :: st) M Φ := hv ▸ k
section GOMM
variable {E : Lx} {Y : Mt} {al : Bool} {R : Room} {cs ss pc : Nat} {L : List (Option Value)} {st : List Value} {M : List AE} {Φ : Post}
theorem go_mmaxM {x y : Int32} {idx : Nat} (hw : gin (.methodLink Y.1.cls idx Lib.Math.max.name) ∧ gin (.static Lib.Math.max.name) ∧ gin (.initialized "java/lang/Math") ∧ gin (.code Lib.Math.max.name Lib.Math.max.code 2 (some .int))) (hfr : 1 ≤ R.frames) (hlo : (st.map Value.category).sum + 13 ≤ R.locals) (d : decode Y.2.1 pc = .ok (.invokestatic idx, 3)) (kk : Go E Y al R cs ss (pc + 3) L (.int (if x < y then y else x) :: st) M Φ) : Go E Y al R cs ss pc L (.int y :: .int x :: st) M Φ := by
  intro p e s m args below meth c D kc ad A H locs ls Q X
  refine va_mmax X.1.1 X.1.2.1 (X.1.2.2.1.trans X.2.2.2.2.2.2.1.1.symm) X.1.2.2.2.2.2.1 (X.1.2.2.2.2.2.2.1 _ hw.1) (X.1.2.2.2.2.2.2.1 _ hw.2.1) (X.1.2.2.2.2.2.2.1 _ hw.2.2.1) (X.1.2.2.2.2.2.2.1 _ hw.2.2.2) hfr ?_ X.2.2.2.2.2.2.2.1 X.2.2.2.2.2.2.2.2.1 d (kk p e s m args below meth c D kc ad A H locs ls Q X)
  have h2 : ((st.map (gv ad)).map fun v => v.category) = st.map Value.category := by
    rw [List.map_map]
    exact List.map_congr_left fun v _ => gv_cat ad v
  show ((st.map (gv ad)).map fun v => v.category).sum + 13 ≤ R.locals
  rw [h2]
  exact hlo
theorem go_mminM {x y : Int32} {idx : Nat} (hw : gin (.methodLink Y.1.cls idx Lib.Math.min.name) ∧ gin (.static Lib.Math.min.name) ∧ gin (.initialized "java/lang/Math") ∧ gin (.code Lib.Math.min.name Lib.Math.min.code 2 (some .int))) (hfr : 1 ≤ R.frames) (hlo : (st.map Value.category).sum + 13 ≤ R.locals) (d : decode Y.2.1 pc = .ok (.invokestatic idx, 3)) (kk : Go E Y al R cs ss (pc + 3) L (.int (if y < x then y else x) :: st) M Φ) : Go E Y al R cs ss pc L (.int y :: .int x :: st) M Φ := by
  intro p e s m args below meth c D kc ad A H locs ls Q X
  refine va_mmin X.1.1 X.1.2.1 (X.1.2.2.1.trans X.2.2.2.2.2.2.1.1.symm) X.1.2.2.2.2.2.1 (X.1.2.2.2.2.2.2.1 _ hw.1) (X.1.2.2.2.2.2.2.1 _ hw.2.1) (X.1.2.2.2.2.2.2.1 _ hw.2.2.1) (X.1.2.2.2.2.2.2.1 _ hw.2.2.2) hfr ?_ X.2.2.2.2.2.2.2.1 X.2.2.2.2.2.2.2.2.1 d (kk p e s m args below meth c D kc ad A H locs ls Q X)
  have h2 : ((st.map (gv ad)).map fun v => v.category) = st.map Value.category := by
    rw [List.map_map]
    exact List.map_congr_left fun v _ => gv_cat ad v
  show ((st.map (gv ad)).map fun v => v.category).sum + 13 ≤ R.locals
  rw [h2]
  exact hlo
end GOMM
