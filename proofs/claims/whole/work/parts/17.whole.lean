/-! THE CLAIM OUT OF ONE WALK OF THE LAW'S BODY. Your part is whole_start (and what it stands on); all else here is the same for every law, but numbers. -/
def R_law : String := "TenantHostLaw"
def lw_P (b : Addr) (xs : List Int32) (args : Array Value) (s : State) : Prop := args = #[.ref b] ∧ s.IntsAt b xs ∧ xs.length ≤ 2049 ∧ (Jvm.Cond.and given_1 narrow_1).before args s = true
def lw_Q (_ : Array Value) (s : State) (o : Outcome) (t : State) : Prop := o = .returned (some (.int 1)) ∧ Framed s o t [] 600000 7302250
def lw_Z (below : List Frame) (a : Array Value) (s : State) : State → Prop := fun t => ∃ o, t.status = .running ∧ Ended t below o ∧ lw_Q a s o t
/-- the law's own end, with 1 on the stack, nothing written that was there before, its room as the claim has it -/
theorem lw_ret {p : Program} {l : Launch} {e : Env} {s : State} {m : MethodId} {below : List Frame} {meth : Method} {c : Code} {b : Nat} (hx : p.tables.exec = Jvm.exec) (hb : c.code = code) (hr : meth.sig.returnType = ret) (hlocks : meth.locks = false) {pc : Nat} {H : Heap} {ls : Array Slot} (hdg : decode code pc = .ok (.ireturn, 1)) : W p l e room_1 s m #[Value.ref b] below meth c H [] 600000 7302250 (lw_Z below #[Value.ref b] s) (F0 m pc ls [.int 1]) := by
  intro T hT X
  obtain ⟨fs, hret, hrun, hended, hW, hframe⟩ := X.leave (v := some (.int 1)) (hlocks := hlocks) (fun h => by rw [hr] at h; cases h)
  have hmeth' : T.vm.method? m = some meth := X.method'
  refine ⟨T.setFrames fs, ?_, .returned (some (.int 1)), hrun, hended, rfl, ⟨_, rfl⟩, hW, hframe⟩
  jvm_step X.here [X.here.top, hx, hb, hdg, hmeth', hr, ret, narrow_b1]
  (try refine ⟨rfl, ?_⟩); (try refine ⟨rfl, ?_⟩)
  first | (intro acts; rw [hret _ acts rfl rfl rfl]) | rw [hret _ _ rfl rfl rfl]
  exact Steps.refl _
/-- what holds at the law's entry: the machine, the code, the tables' words (any of lw_tbl by 'hts w (by decide +kernel)'), the script of L ints xs at the cell b, what the Statement gives of the start (any of its parts by flat_of_before) -/
def lw_At (p : Program) (s : State) (m : MethodId) (meth : Method) (c : Code) (b L : Nat) (xs : Nat → Int32) : Prop :=
  p.tables.exec = Jvm.exec ∧ c.code = code ∧ meth.sig.returnType = ret ∧ c.maxLocals = 4 ∧ s.vm.findClass R_law = some m.cls ∧ (∀ w ∈ lw_tbl, w.before #[Value.ref b] s = true) ∧ va_X b L xs s s.heap ∧ b < s.heap.size ∧ meth.locks = false ∧ (Jvm.Cond.and given_1 narrow_1).before #[Value.ref b] s = true
theorem nest_of {w : Cond} (h : isNest w = true) {A : Array Value} {s : State} (hb : w.before A s = true) : va_Nw w s := by
  cases w with
  | fieldLinkNest a i b n d h => exact va_Nw.of rfl hb
  | methodLinkNest a i x h => exact va_Nw.of rfl hb
  | arrayOver t =>
    cases t with
    | object C => exact va_AO.of hb
    | _ => cases h
  | _ => cases h
/-- the three tables of Instructions, as the start has them -/
theorem sta_start {s : State} {args : Array Value} {A : Nat → Prop} (hts : ∀ w, gin w → w.before args s = true) (hl : ∀ i, i < 3 → (Cond.laysStatic sta_C (sta_n i) "[I").before args s = true) (hgv : (Jvm.Cond.and given_1 narrow_1).before args s = true) (hA : ∀ a : Nat, a < s.heap.size → ¬ A a) : ∀ i, i < 3 → ∃ t : Nat, va_Z sta_C (sta_n i) "[I" (.ref t) A s s.heap ∧ va_T .int t 25 (fun j => .int (sta_v i j)) A s s.heap := by
  have hs := flat_of_before _ hgv
  have hall : ∀ i, i < 3 → ∀ j, j < 25 → Cond.eq (.elem (.static sta_C (sta_n i) "[I") (.int (Int32.ofNat j))) (.int (sta_v i j)) ∈ flatC (Jvm.Cond.and given_1 narrow_1) := by decide +kernel
  have harr : ∀ i, i < 3 → Cond.arrayOf (.static sta_C (sta_n i) "[I") .int ∈ flatC (Jvm.Cond.and given_1 narrow_1) := by decide +kernel
  have hlen : ∀ i, i < 3 → Cond.eq (.length (.static sta_C (sta_n i) "[I")) (.int 25) ∈ flatC (Jvm.Cond.and given_1 narrow_1) := by decide +kernel
  intro i hi
  obtain ⟨t, ht, hT⟩ := va_Tof (A := A) (f := fun j => .int (sta_v i j)) (N := 25) (by decide) (hs _ (harr i hi)) (va_eqt (hs _ (hlen i hi))) (fun j hj => va_eqt (hs _ (hall i hi j hj))) hA
  exact ⟨t, va_Zof (hl i hi) (hts _ ini_Ins) ht hA, hT⟩
theorem kn_start {s : State} {args : Array Value} (hts : ∀ w, gin w → w.before args s = true) : ∃ D : va_G, va_K D gcl [] s := by
  have one : ∀ {C : String} {T : u_T} {N : Nat}, (∀ w ∈ u_ws C T N, gin w) → gin (.instantiable C N) → ∃ (cC : ClassId) (iS : Nat → Nat), u_Kn s C T N cC iS := fun {C T N} h1 h2 =>
    u_known (ws := u_ws C T N) (fun w hw => hts w (h1 w hw)) (fun _ h => h) (hts _ h2)
  obtain ⟨c0, i0, h0⟩ := one uw_Heap it_Heap
  obtain ⟨c1, i1, h1⟩ := one uw_Line it_Line
  obtain ⟨c2, i2, h2⟩ := one uw_Prog it_Prog
  obtain ⟨c3, i3, h3⟩ := one uw_Stk it_Stk
  obtain ⟨c4, i4, h4⟩ := one uw_Ten it_Ten
  obtain ⟨c5, i5, h5⟩ := one uw_Host it_Host
  obtain ⟨c6, i6, h6⟩ := one uw_Mod it_Mod
  refine ⟨(fun k => match k with | 0 => c0 | 1 => c1 | 2 => c2 | 3 => c3 | 4 => c4 | 5 => c5 | _ => c6, fun k => match k with | 0 => i0 | 1 => i1 | 2 => i2 | 3 => i3 | 4 => i4 | 5 => i5 | _ => i6), ?_, fun k q h => by simp at h⟩
  intro c q hq
  match c, hq with
  | 0, hq => cases hq; exact h0
  | 1, hq => cases hq; exact h1
  | 2, hq => cases hq; exact h2
  | 3, hq => cases hq; exact h3
  | 4, hq => cases hq; exact h4
  | 5, hq => cases hq; exact h5
  | 6, hq => cases hq; exact h6
  | c + 7, hq => simp [gcl] at hq
set_option maxHeartbeats 4000000 in
set_option maxRecDepth 100000 in
/-- the law's walk, out of what is to be proved of its printed precondition -/
theorem whole_start_open (hpure : ∀ (sn : Nat) (sx : Nat → Int32), sn ≤ 2049 → wp_Law_main sn sx (mu0 (c0 sn sx)) (fun x _ => x = 1)) {p : Program} {e : Env} {s : State} {m : MethodId} {below : List Frame} {meth : Method} {c : Code} (l : Launch) {b L : Nat} {xs : Nat → Int32} (hL : L ≤ 2049) (C0 : lw_At p s m meth c b L xs) : W p l e room_1 s m #[Value.ref b] below meth c s.heap [] 0 0 (lw_Z below #[Value.ref b] s) (entryFrame m ([Value.ref b] : List Value).toArray 4) := by
  obtain ⟨hx, hb, hr, hml, hown, hts0, hX, hbl, hlocks, hgv⟩ := C0
  have hts : ∀ w, gin w → w.before #[Value.ref b] s = true := fun w hw => hts0 w hw.1
  have hA : ∀ a : Nat, a < s.heap.size → ¬ s.heap.size ≤ a := fun a h => by omega
  have hstat := sta_start (A := fun q => s.heap.size ≤ q) hts (fun i hi => hts0 _ (by revert hi; revert i; decide +kernel)) hgv hA
  obtain ⟨D, hK⟩ := kn_start hts
  obtain ⟨t0, z0, y0⟩ := hstat 0 (by decide)
  obtain ⟨t1, z1, y1⟩ := hstat 1 (by decide)
  obtain ⟨t2, z2, y2⟩ := hstat 2 (by decide)
  have hg := law_start (l := l) (sn := L) (sx := xs) (by omega) (hpure L xs hL)
  rw [lg_entry_eq]
  have hl := lv_entry ([.ref b] : List Value) (n := 4) (Nat.le_of_ble_eq_true rfl)
  have hl2 : lv_has (lg_sl [Value.ref b] ++ List.replicate (4 - (lg_sl [Value.ref b]).length) Slot.unset).toArray 4 (lp (fun k => if k = 100003 then b else if k = 100000 then t0 else if k = 100001 then t1 else t2) 0 [some (.ref 100003), none, none, none]) := hl
  refine hg p e s m #[Value.ref b] below meth c D (fun _ => 0) (fun k => if k = 100003 then b else if k = 100000 then t0 else if k = 100001 then t1 else t2) (fun q => s.heap.size ≤ q) s.heap [] _ _ ⟨⟨hx, hb, hml, hr, hlocks, hown, hts, fun w hw => nest_of hw.2 (hts0 w hw.1), fun h => absurd h (by decide)⟩, ⟨fun k q h => by simp [gw] at h, hK, fun k t a h => by simp at h⟩, ⟨fun i j p q h => by simp [gw] at h, fun k q h => by simp [gw] at h⟩, va_S.rf, fun q h => h, ⟨fun i hi => ?_, ⟨hX, hbl, by show ¬ s.heap.size ≤ b; omega⟩⟩, hl2, Nat.zero_le _, Nat.zero_le _, ?_⟩
  · match i, hi with
    | 0, _ => exact ⟨z0, y0⟩
    | 1, _ => exact ⟨z1, y1⟩
    | 2, _ => exact ⟨z2, y2⟩
  · intro r M' kc' ad' H' locs' cs' ss' pc' ls' hΦ hrt hln hag hW' hD' hS' hc hs
    obtain ⟨x, μ', rfl, rfl, rfl⟩ := hΦ
    refine va_forget (fun q hq => hS'.2.2 q hq) ?_
    refine W.widen hc hs ?_
    exact lw_ret hx hb hr hlocks hrt.2
