/-! Contracts over the abstract memory, and calls. -/
def gws (Y : Mt) : List Cond := Cond.code Y.1 Y.2.1 Y.2.2.1 Y.2.2.2 :: lw_tbl.filter goodWord
def Qg (Φ : Post) (al : Bool) (D : va_G) (kc : Nat → ClassId) (ad : Nat → Nat) (M : List AE) (sz : Nat) : Array Value → State → Outcome → State → Prop := fun _ st oc t =>
  (∃ (r : Option Value) (M' : List AE) (kc' : Nat → ClassId) (ad' : Nat → Nat), oc = .returned (r.map (gv ad')) ∧ Φ r M' ∧ M.length ≤ M'.length ∧ Agr al M.length kc kc' ad ad' ∧ Wd D kc' ad' M' t t.heap ∧ va_D (va_A (gw kc ad 0 M) sz) (gw kc' ad' 0 M')) ∧ va_F (va_A (gw kc ad 0 M) sz) st t
def Pg (T : Nat → (Nat → Prop) → State → Prop) (as : List Value) (D : va_G) (kc : Nat → ClassId) (ad : Nat → Nat) (M : List AE) (sz : Nat) : Array Value → State → Prop :=
  va_Pc (as.map (gv ad)) (fun U => U.heap.size = sz ∧ Wd D kc ad M U U.heap ∧ va_D (fun _ => True) (gw kc ad 0 M) ∧ Sta T ad (va_A (gw kc ad 0 M) sz) U U.heap ∧ ∀ w, nin w → va_Nw w U)
/-- method Y, called with as on memory M, returns with Φ -/
def Mets (E : Lx) (Y : Mt) (al : Bool) (rm : Room) (as : List Value) (M : List AE) (Φ : Post) : Prop :=
  ∀ (D : va_G) (kc : Nat → ClassId) (ad : Nat → Nat) (sz : Nat), Met E.1 Y.1 (gws Y) rm (Pg E.2 as D kc ad M sz) (Qg Φ al D kc ad M sz) rm.cells rm.slots (va_A (gw kc ad 0 M) sz)
def eL : List Value → List (Option Value)
  | [] => []
  | v :: vs => if v.category = 2 then some v :: none :: eL vs else some v :: eL vs
theorem lp_nones (ad : Nat → Nat) : ∀ (n i : Nat), lp ad i (List.replicate n none) = []
  | 0, _ => rfl
  | n + 1, i => by
    rw [List.replicate_succ]
    exact lp_nones ad n (i + 1)
theorem lp_eL (ad : Nat → Nat) (n : Nat) : ∀ (as : List Value) (i : Nat), lp ad i (eL as ++ List.replicate n none) = lv_args i (as.map (gv ad))
  | [], i => lp_nones ad n i
  | v :: vs, i => by
    simp only [eL, List.map_cons, lv_args, gv_cat]
    by_cases h : v.category = 2
    · simp only [if_pos h, List.cons_append, lp]
      rw [lp_eL ad n vs (i + 1 + 1)]
    · simp only [if_neg h, List.cons_append, lp]
      rw [lp_eL ad n vs (i + 1)]
theorem eL_len (ad : Nat → Nat) : ∀ (as : List Value), (lg_sl (as.map (gv ad))).length = (eL as).length
  | [] => rfl
  | v :: vs => by
    have ih := eL_len ad vs
    simp only [lg_sl] at ih
    simp only [eL, lg_sl, List.map_cons, List.flatMap_cons, List.length_append, gv_cat]
    by_cases h : v.category = 2
    · simp only [if_pos h, List.length_cons, List.length_nil, ih]
      omega
    · simp only [if_neg h, List.length_cons, List.length_nil, ih]
      omega
set_option maxHeartbeats 4000000 in
theorem mets_of {E : Lx} {Y : Mt} {al : Bool} {rm : Room} {as : List Value} {M : List AE} {Φ : Post} {L : List (Option Value)} (hp : plainName Y.1.cls = true) (hle : (eL as).length ≤ Y.2.2.1) (hL : eL as ++ List.replicate (Y.2.2.1 - (eL as).length) none = L) (g : Go E Y al rm 0 0 0 L [] M Φ) : Mets E Y al rm as M Φ := by
  intro D kc ad sz
  refine Met.ofW (cc := Y.2.1) (maxL := Y.2.2.1) (ret := Y.2.2.2) hp rfl ?_
  intro p e s m args below meth c s₁ B hml hv
  obtain ⟨rfl, hsz, hW, hD0, hT, hN⟩ := hv
  subst hsz
  have hts := atoms_spec (ws := gws Y) B.pre
  have hown : s.vm.findClass Y.1.cls = some m.cls := findClass_of_methodNamed B.named
  have hr := B.returns
  have hlocks := B.notSynchronized
  have hl := lv_entry (as.map (gv ad)) (n := Y.2.2.1) (by rw [eL_len]; exact hle)
  rw [lg_entry_eq]
  have hl2 : lv_has (lg_sl (as.map (gv ad)) ++ List.replicate (Y.2.2.1 - (lg_sl (as.map (gv ad))).length) Slot.unset).toArray Y.2.2.1 (lp ad 0 L) := by
    rw [← hL, lp_eL]
    exact hl
  refine g p e s m _ below meth c D kc ad (va_A (gw kc ad 0 M) s.heap.size) s.heap [] _ _ ⟨⟨B.exec, B.bytes, hml, hr, hlocks, hown, fun w hw => hts w (List.mem_cons_of_mem _ (List.mem_filter.mpr hw)), hN, fun hin => (name_of_methodNamed B.named B.method).1.trans hin⟩, hW, hD0.self, va_S.rf, fun q h => Or.inr h, hT, hl2, Nat.zero_le _, Nat.zero_le _, ?_⟩
  intro r M' kc' ad' H' locs' cs' ss' pc' ls' hΦ hrt hln hag hW' hD' hS' hc hs
  refine W.widen hc hs ?_
  have hq : ∀ t : State, t.heap = H' → s.WarmedH t.vm → Qg Φ al D kc ad M s.heap.size (as.map (gv ad)).toArray s (.returned (r.map (gv ad'))) t := fun t ht hWt =>
    ⟨⟨r, M', kc', ad', rfl, hΦ, hln, hag, by rw [ht]; exact hW'.moved hWt.alike, hD'⟩, hS'.F ht⟩
  unfold RetOK at hrt
  split at hrt
  next h1 => exact W.vret B.exec B.bytes (hr.trans h1) hq hS'.2.2 hrt
  next h1 => exact W.iret B.exec B.bytes (hr.trans h1) hq hS'.2.2 hrt
  next h1 => exact W.zret B.exec B.bytes (hr.trans h1) hrt.1 hq hS'.2.2 hrt.2
  next h1 => exact W.lret B.exec B.bytes (hr.trans h1) hq hS'.2.2 hrt
  next h1 => exact W.aret B.exec B.bytes (hr.trans h1) (Or.inr ⟨_, rfl⟩) (Or.inr ⟨_, rfl⟩) hq hS'.2.2 hrt
  next => exact hrt.elim
/-- what is asked of a method that is called -/
def CZ (Z : Mt) (np : Nat) : Prop := gin (.code Z.1 Z.2.1 Z.2.2.1 Z.2.2.2) ∧ gin (.initialized Z.1.cls) ∧ (Z.1.cls ≠ "java/lang/invoke/MethodHandle" ∧ Z.1.cls ≠ "java/lang/invoke/VarHandle") ∧ (parseMethodDescriptor Z.1.desc).map (fun d => d.parameters.length) = some np
def CV (Z : Mt) : Prop := gin (.instanceMethod Z.1) ∧ gin (.selects Z.1.cls Z.1 Z.1)
def ML (own : String) (idx : Nat) (y : MethodName) : Prop := gin (.methodLink own idx y) ∨ ∃ host, nin (.methodLinkNest own idx y host)
section GOCALLS
variable {E : Lx} {Y Z : Mt} {al : Bool} {R rm : Room} {cs ss pc np idx : Nat} {L : List (Option Value)} {st st0 as : List Value} {M : List AE} {Φ Ψ : Post}
variable {p : Program} {e : Env} {s : State} {m : MethodId} {args : Array Value} {below : List Frame} {meth : Method} {c : Code} {D : va_G} {kc : Nat → ClassId} {ad : Nat → Nat} {A : Nat → Prop} {H : Heap} {locs : List Loc} {ls : Array Slot} {Q : State → Prop}
theorem gz_pay (hts : ∀ w, gin w → w.before args s = true) (hc : gin (.code Z.1 Z.2.1 Z.2.2.1 Z.2.2.2)) : ∀ w ∈ gws Z, ∀ (a' : Array Value) (U : State), s.WarmedH U.vm → w.before a' U = true := by
  intro w hw a' U hW
  have hg : gin w := by
    rcases List.mem_cons.mp hw with h | h
    · rw [h]; exact hc
    · exact List.mem_filter.mp h
  exact word_at hW (good_of hg.2) (hts w hg)
theorem gz_callB (E : Ev Y p s m args meth c) (hZ : CZ Z np) (hlk : gin (.methodLink Y.1.cls idx Z.1)) (hR : rm.frames + 1 ≤ R.frames ∧ 8 + (Z.2.2.1 + 11) + rm.locals ≤ R.locals) : CallB R s args Y.1.cls idx Z.1 Z.2.1 Z.2.2.1 Z.2.2.2 (gws Z) rm rm.cells rm.slots np :=
  ⟨rfl, rfl, hR.1, hR.2, gz_pay E.2.2.2.2.2.2.1 hZ.1, List.mem_cons_self, E.2.2.2.2.2.2.1 _ hZ.1, E.2.2.2.2.2.2.1 _ hZ.2.1, hZ.2.2.1, fun sig h => by
    have h2 := hZ.2.2.2
    rw [h] at h2
    exact (Option.some.inj h2).symm, E.2.2.2.2.2.2.1 _ hlk⟩
theorem gz_callN {host : String} (E : Ev Y p s m args meth c) (hZ : CZ Z np) (hlk : nin (.methodLinkNest Y.1.cls idx Z.1 host)) (hR : rm.frames + 1 ≤ R.frames ∧ 8 + (Z.2.2.1 + 11) + rm.locals ≤ R.locals) : va_CN R s args Y.1.cls idx Z.1 host Z.2.1 Z.2.2.1 Z.2.2.2 (gws Z) rm rm.cells rm.slots np :=
  ⟨⟨rfl, rfl, hR.1, hR.2, gz_pay E.2.2.2.2.2.2.1 hZ.1, List.mem_cons_self⟩, E.2.2.2.2.2.2.1 _ hZ.1, E.2.2.2.2.2.2.1 _ hZ.2.1, hZ.2.2.1, fun sig h => by
    have h2 := hZ.2.2.2
    rw [h] at h2
    exact (Option.some.inj h2).symm, va_Nw.use rfl (E.2.2.2.2.2.2.2.1 _ hlk)⟩
theorem gz_free (X : Cx E Y al R cs ss L M Φ p e s m args below meth c D kc ad A H locs ls Q) : ∀ q, va_A (gw kc ad 0 M) H.size q → A q := by
  intro q h
  rcases h with ⟨k, x, hk⟩ | h
  · exact X.2.2.1.2 k (q, x) hk
  · exact X.2.2.2.2.1 q (Nat.le_trans X.2.2.2.1.1 h)
theorem gz_sta (X : Cx E Y al R cs ss L M Φ p e s m args below meth c D kc ad A H locs ls Q) : Sta mT ad (va_A (gw kc ad 0 M) H.size) s H := ⟨fun i hi => by
  obtain ⟨h1, h2⟩ := X.2.2.2.2.2.1.1 i hi
  exact ⟨(h1.kept X.2.2.2.1.2.1).narrow (gz_free X), (h2.kept X.2.2.2.1.2.1).narrow (gz_free X)⟩, trivial⟩
theorem gz_blind {sz : Nat} : FrameBlind (Pg mT as D kc ad M sz) := fun a U g mk q =>
  ⟨q.1, q.2.1, Wd.moved (u := U) (U := U.calling g mk a) (Vm.Alike.refl U.vm) q.2.2.1, q.2.2.2.1, Sta.moved (u := U) (U := U.calling g mk a) (Vm.Alike.refl U.vm) q.2.2.2.2.1, fun w hw => nest_same (s := U) (U := U.calling g mk a) hw.2 rfl (q.2.2.2.2.2 w hw)⟩
theorem gz_pre (X : Cx E Y al R cs ss L M Φ p e s m args below meth c D kc ad A H locs ls Q) : ∀ U : State, U.heap = H → s.WarmedH U.vm → Pg mT as D kc ad M H.size (as.map (gv ad)).toArray U := fun U hU hW => by
  refine ⟨rfl, by rw [hU], by rw [hU]; exact X.2.1.moved hW.alike, X.2.2.1.weaken (fun _ _ _ _ => trivial), by rw [hU]; exact (gz_sta X).moved hW.alike, fun w hw => nest_warm hw.2 hW (X.1.2.2.2.2.2.2.2.1 w hw)⟩
/-- behind a call that makes no cells -/
theorem gz_go (X : Cx E Y al R cs ss L M Φ p e s m args below meth c D kc ad A H locs ls Q) (h0 : rm.cells = 0) (h1 : rm.slots = 0) {av : Array Value}
    (run : va_Run p E.1 e R s m args below meth c H locs cs ss rm.cells rm.slots (F0 m pc ls (st0.map (gv ad))) (st.map (gv ad)) (Qg Ψ false D kc ad M H.size av) (va_A (gw kc ad 0 M) H.size))
    (kk : ∀ (r : Option Value) (M' : List AE), Ψ r M' → Go E Y al R cs ss (pc + 3) L (r.toList ++ st) M' Φ) : W p E.1 e R s m args below meth c H locs cs ss Q (F0 m pc ls (st0.map (gv ad))) := by
  intro T hT X0
  obtain ⟨v, st₀, t, T', Lc, hh0, X', hLc, e1, e2, ⟨⟨r, M', kc', ad', hv, hΨ, hle, hag, hW', hD'⟩, hz, hk⟩, stp⟩ := run T hT X0
  obtain ⟨rfl, rfl⟩ := hag
  cases hv
  rw [hh0] at hz hk
  rw [h0, h1] at X'
  have hfree := gz_free X
  have hS := X.2.2.2.1
  have hW2 : Wd D kc' ad' M' s T'.heap := by
    rw [e1]
    exact hW'.moved (by rw [← e2]; exact X'.warmed.alike.symm)
  have hS2 : va_S A s.heap T'.heap (locs ++ Lc) := ⟨Nat.le_trans hS.1 (by rw [e1]; exact hz), fun q h1 h2 => by rw [e1, hk q (Nat.lt_of_lt_of_le h1 hS.1) (fun z => h2 (hfree q z))]; exact hS.2.1 q h1 h2, fun q hq => by
      rcases List.mem_append.mp hq with h | h
      · exact hS.2.2 q h
      · exact hfree _ (hLc q h)⟩
  have hfin := X.2.2.2.2.2.2.2.2.2
  have hfin2 : Fn E Y al R M'.length Φ p e s m args below meth c D kc' ad' A Q := by
    intro r2 M2 kc2 ad2 H2 locs2 cs2 ss2 pc2 ls2 a1 a2 a3 a4
    refine hfin r2 M2 kc2 ad2 H2 locs2 cs2 ss2 pc2 ls2 a1 a2 (Nat.le_trans hle a3) ?_
    cases al
    · exact a4
    · exact ⟨fun k hk => a4.1 k (Nat.lt_of_lt_of_le hk hle), fun k hk => a4.2 k (hk.imp (fun h => Nat.lt_of_lt_of_le h hle) id)⟩
  obtain ⟨t2, b1, b2⟩ := kk r M' hΨ p e s m args below meth c D kc' ad' A T'.heap (locs ++ Lc) ls Q ⟨X.1, hW2, hD'.weaken (fun _ _ _ h => hfree _ h), hS2, X.2.2.2.2.1, X.2.2.2.2.2.1, X.2.2.2.2.2.2.1, X.2.2.2.2.2.2.2.1, X.2.2.2.2.2.2.2.2.1, hfin2⟩ T' rfl X'
  refine ⟨t2, stp t2 ?_, b2⟩
  have hst : (r.map (gv ad')).toList ++ st.map (gv ad') = (r.toList ++ st).map (gv ad') := by
    cases r <;> simp
  show Steps p.tables e below (T'.setTop (F0 m (pc + 3) ls ((r.map (gv ad')).toList ++ st.map (gv ad')))) t2
  rw [hst]
  exact b1
theorem gz_cat (hcat : (st.map Value.category).sum ≤ 8) : ((st.map (gv ad)).map fun v => v.category).sum ≤ 8 := by
  have : ((st.map (gv ad)).map fun v => v.category) = st.map Value.category := by
    rw [List.map_map]
    exact List.map_congr_left fun v _ => gv_cat ad v
  rw [this]
  exact hcat
theorem go_callV {k ci N : Nat} {fs : List Value} {T : u_T} (hM : Mets (mE E.1) Z false rm (.ref k :: as) M Ψ) (hZ : CZ Z np) (hV : CV Z) (hlk : ML Y.1.cls idx Z.1) (ho : M[k]? = some (.inr (ci, fs))) (hc : gcl[ci]? = some (Z.1.cls, T, N)) (hn : as.length = np) (hs0 : st0 = as.reverse ++ .ref k :: st) (hcat : (st.map Value.category).sum ≤ 8) (hR : rm.frames + 1 ≤ R.frames ∧ 8 + (Z.2.2.1 + 11) + rm.locals ≤ R.locals) (h0 : rm.cells = 0) (h1 : rm.slots = 0) (d : decode Y.2.1 pc = .ok (.invokevirtual idx, 3)) (kk : ∀ (r : Option Value) (M' : List AE), Ψ r M' → Go E Y al R cs ss (pc + 3) L (r.toList ++ st) M' Φ) : Go E Y al R cs ss pc L st0 M Φ := by
  intro p e s m args below meth c D kc ad A H locs ls Q X
  subst hs0
  have hrec := va_recv X.2.1.2.1 X.2.1.1 hc (gw_at ho)
  have hpre : PreV s H Z.1.cls (ad k) (Pg mT (.ref k :: as) D kc ad M H.size) (as.map (gv ad)) := ⟨gz_blind, hrec, gz_pre (as := .ref k :: as) X⟩
  have hstk : (F0 m pc ls ((as.reverse ++ .ref k :: st).map (gv ad))).stack = (as.map (gv ad)).reverse ++ .ref (ad k) :: st.map (gv ad) := by
    show (as.reverse ++ .ref k :: st).map (gv ad) = _
    rw [List.map_append, List.map_reverse]
    rfl
  have hcs : cs + rm.cells ≤ R.cells ∧ ss + rm.slots ≤ R.slots := by
    rw [h0, h1]
    exact ⟨X.2.2.2.2.2.2.2.1, X.2.2.2.2.2.2.2.2.1⟩
  rcases hlk with hlk | ⟨host, hlk⟩
  · exact gz_go X h0 h1 (va_runV (Ts := []) ⟨X.1.1, X.1.2.1, X.1.2.2.1, X.1.2.2.2.2.2.1, fun _ h => by cases h⟩ (hM D kc ad H.size) ⟨gz_callB X.1 hZ hlk hR, X.1.2.2.2.2.2.2.1 _ hV.1, X.1.2.2.2.2.2.2.1 _ hV.2⟩ hpre rfl (by rw [List.length_map]; exact hn) X.2.2.2.2.2.2.1.1 hstk (lv_room (gz_cat hcat)) d hcs) kk
  · exact gz_go X h0 h1 (va_runVN (Ts := []) ⟨X.1.1, X.1.2.1, X.1.2.2.1, X.1.2.2.2.2.2.1, fun _ h => by cases h⟩ (hM D kc ad H.size) ⟨gz_callN X.1 hZ hlk hR, X.1.2.2.2.2.2.2.1 _ hV.1, X.1.2.2.2.2.2.2.1 _ hV.2⟩ hpre rfl (by rw [List.length_map]; exact hn) X.2.2.2.2.2.2.1.1 hstk (lv_room (gz_cat hcat)) d hcs) kk
theorem go_callS (hM : Mets (mE E.1) Z false rm as M Ψ) (hZ : CZ Z np) (hV : gin (.static Z.1)) (hlk : ML Y.1.cls idx Z.1) (hn : as.length = np) (hs0 : st0 = as.reverse ++ st) (hcat : (st.map Value.category).sum ≤ 8) (hR : rm.frames + 1 ≤ R.frames ∧ 8 + (Z.2.2.1 + 11) + rm.locals ≤ R.locals) (h0 : rm.cells = 0) (h1 : rm.slots = 0) (d : decode Y.2.1 pc = .ok (.invokestatic idx, 3)) (kk : ∀ (r : Option Value) (M' : List AE), Ψ r M' → Go E Y al R cs ss (pc + 3) L (r.toList ++ st) M' Φ) : Go E Y al R cs ss pc L st0 M Φ := by
  intro p e s m args below meth c D kc ad A H locs ls Q X
  subst hs0
  have hpre : PreS s H (Pg mT as D kc ad M H.size) (as.map (gv ad)) := ⟨gz_blind, gz_pre X⟩
  have hstk : (F0 m pc ls ((as.reverse ++ st).map (gv ad))).stack = (as.map (gv ad)).reverse ++ st.map (gv ad) := by
    show (as.reverse ++ st).map (gv ad) = _
    rw [List.map_append, List.map_reverse]
  have hcs : cs + rm.cells ≤ R.cells ∧ ss + rm.slots ≤ R.slots := by
    rw [h0, h1]
    exact ⟨X.2.2.2.2.2.2.2.1, X.2.2.2.2.2.2.2.2.1⟩
  rcases hlk with hlk | ⟨host, hlk⟩
  · exact gz_go X h0 h1 (va_runS (Ts := []) ⟨X.1.1, X.1.2.1, X.1.2.2.1, X.1.2.2.2.2.2.1, fun _ h => by cases h⟩ (hM D kc ad H.size) ⟨gz_callB X.1 hZ hlk hR, X.1.2.2.2.2.2.2.1 _ hV⟩ hpre rfl (by rw [List.length_map]; exact hn) X.2.2.2.2.2.2.1.1 hstk (lv_room (gz_cat hcat)) d hcs) kk
  · exact gz_go X h0 h1 (va_runSN (Ts := []) ⟨X.1.1, X.1.2.1, X.1.2.2.1, X.1.2.2.2.2.2.1, fun _ h => by cases h⟩ (hM D kc ad H.size) ⟨gz_callN X.1 hZ hlk hR, X.1.2.2.2.2.2.2.1 _ hV, trivial⟩ hpre rfl (by rw [List.length_map]; exact hn) X.2.2.2.2.2.2.1.1 hstk (lv_room (gz_cat hcat)) d hcs) kk
theorem gx_blind {sz n : Nat} {xs : Nat → Int32} : FrameBlind (Pg (scT n xs) as D kc ad M sz) := fun a U g mk q =>
  ⟨q.1, q.2.1, Wd.moved (u := U) (U := U.calling g mk a) (Vm.Alike.refl U.vm) q.2.2.1, q.2.2.2.1, ⟨fun i hi => ⟨va_Z.moved (u := U) (U := U.calling g mk a) (Vm.Alike.refl U.vm) (q.2.2.2.2.1.1 i hi).1, va_T.moved (u := U) (U := U.calling g mk a) (Vm.Alike.refl U.vm) (q.2.2.2.2.1.1 i hi).2⟩, va_X.moved (u := U) (U := U.calling g mk a) (Vm.Alike.refl U.vm) q.2.2.2.2.1.2.1, q.2.2.2.2.1.2.2⟩, fun w hw => nest_same (s := U) (U := U.calling g mk a) hw.2 rfl (q.2.2.2.2.2 w hw)⟩
theorem gx_pre {n : Nat} {xs : Nat → Int32} (hE : E.2 = scT n xs) (X : Cx E Y al R cs ss L M Φ p e s m args below meth c D kc ad A H locs ls Q) : ∀ U : State, U.heap = H → s.WarmedH U.vm → Pg (scT n xs) as D kc ad M H.size (as.map (gv ad)).toArray U := fun U hU hW => by
  have h := gz_pre (as := as) X U hU hW
  have h2 := X.2.2.2.2.2.1.2
  rw [hE] at h2
  obtain ⟨h3, h4, h5⟩ := h2
  refine ⟨h.1, h.2.1, h.2.2.1, h.2.2.2.1, ⟨h.2.2.2.2.1.1, ?_, ?_, fun h6 => h5 (gz_free X _ h6)⟩, h.2.2.2.2.2⟩
  · have h7 := (h3.kept (X.2.2.2.1.2.1 _ h4 h5)).moved hW.alike
    rw [← hU] at h7
    exact h7
  · rw [hU]
    exact Nat.lt_of_lt_of_le h4 X.2.2.2.1.1
theorem go_callX {n : Nat} {xs : Nat → Int32} (hE : E.2 = scT n xs) (hM : Mets E Z false rm as M Ψ) (hZ : CZ Z np) (hV : gin (.static Z.1)) (hlk : ML Y.1.cls idx Z.1) (hn : as.length = np) (hs0 : st0 = as.reverse ++ st) (hcat : (st.map Value.category).sum ≤ 8) (hR : rm.frames + 1 ≤ R.frames ∧ 8 + (Z.2.2.1 + 11) + rm.locals ≤ R.locals) (h0 : rm.cells = 0) (h1 : rm.slots = 0) (d : decode Y.2.1 pc = .ok (.invokestatic idx, 3)) (kk : ∀ (r : Option Value) (M' : List AE), Ψ r M' → Go E Y al R cs ss (pc + 3) L (r.toList ++ st) M' Φ) : Go E Y al R cs ss pc L st0 M Φ := by
  intro p e s m args below meth c D kc ad A H locs ls Q X
  subst hs0
  have hpre : PreS s H (Pg E.2 as D kc ad M H.size) (as.map (gv ad)) := by rw [hE]; exact ⟨gx_blind, gx_pre hE X⟩
  have hstk : (F0 m pc ls ((as.reverse ++ st).map (gv ad))).stack = (as.map (gv ad)).reverse ++ st.map (gv ad) := by
    show (as.reverse ++ st).map (gv ad) = _
    rw [List.map_append, List.map_reverse]
  have hcs : cs + rm.cells ≤ R.cells ∧ ss + rm.slots ≤ R.slots := by
    rw [h0, h1]
    exact ⟨X.2.2.2.2.2.2.2.1, X.2.2.2.2.2.2.2.2.1⟩
  rcases hlk with hlk | ⟨host, hlk⟩
  · exact gz_go X h0 h1 (va_runS (Ts := []) ⟨X.1.1, X.1.2.1, X.1.2.2.1, X.1.2.2.2.2.2.1, fun _ h => by cases h⟩ (hM D kc ad H.size) ⟨gz_callB X.1 hZ hlk hR, X.1.2.2.2.2.2.2.1 _ hV⟩ hpre rfl (by rw [List.length_map]; exact hn) X.2.2.2.2.2.2.1.1 hstk (lv_room (gz_cat hcat)) d hcs) kk
  · exact gz_go X h0 h1 (va_runSN (Ts := []) ⟨X.1.1, X.1.2.1, X.1.2.2.1, X.1.2.2.2.2.2.1, fun _ h => by cases h⟩ (hM D kc ad H.size) ⟨gz_callN X.1 hZ hlk hR, X.1.2.2.2.2.2.2.1 _ hV, trivial⟩ hpre rfl (by rw [List.length_map]; exact hn) X.2.2.2.2.2.2.1.1 hstk (lv_room (gz_cat hcat)) d hcs) kk
theorem go_objInit {k : Nat} (hlk : gin (.methodLink Y.1.cls idx Lib.objectInit)) (hi : gin (.instanceMethod Lib.objectInit)) (hc : gin (.code Lib.objectInit ⟨#[0xb1]⟩ 1 none)) (hfr : 1 ≤ R.frames) (hlo : (st.map Value.category).sum + 12 ≤ R.locals) (d : decode Y.2.1 pc = .ok (.invokespecial idx, 3)) (kk : Go E Y al R cs ss (pc + 3) L st M Φ) : Go E Y al R cs ss pc L (.ref k :: st) M Φ := by
  intro p e s m args below meth c D kc ad A H locs ls Q X
  refine W.objInit X.1.1 X.1.2.1 X.1.2.2.2.2.2.1 (X.1.2.2.2.2.2.2.1 _ hlk) (X.1.2.2.2.2.2.2.1 _ hi) (X.1.2.2.2.2.2.2.1 _ hc) rfl (by rw [X.1.2.2.1]; exact X.2.2.2.2.2.2.1.1) rfl d hfr ?_ (kk p e s m args below meth c D kc ad A H locs ls Q X)
  have h2 : ((st.map (gv ad)).map fun v => v.category) = st.map Value.category := by
    rw [List.map_map]
    exact List.map_congr_left fun v _ => gv_cat ad v
  show 2 * 0 + ((st.map (gv ad)).map fun v => v.category).sum + 12 ≤ R.locals
  rw [h2]
  omega
end GOCALLS
