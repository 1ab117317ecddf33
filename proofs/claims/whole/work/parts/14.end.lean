/-! THE CLAIM OUT OF ONE WALK OF THE LAW'S BODY. Your part is whole_start (and what it stands on); all else here is the same for every law, but numbers. -/
def R_law : String := "ChalkChainLaw"
def lw_P (b : Addr) (xs : List Int32) (args : Array Value) (s : State) : Prop := args = #[.ref b] ∧ s.IntsAt b xs ∧ xs.length ≤ 3072 ∧ (Jvm.Cond.and given_1 narrow_1).before args s = true
def lw_Q (_ : Array Value) (s : State) (o : Outcome) (t : State) : Prop := o = .returned (some (.int 1)) ∧ Framed s o t [] 600000 7302250
def lw_Z (below : List Frame) (a : Array Value) (s : State) : State → Prop := fun t => ∃ o, t.status = .running ∧ Ended t below o ∧ lw_Q a s o t
/-- the law's own end, with 1 on the stack, nothing written that was there before, its room as the claim has it -/
theorem lw_ret {p : Program} {l : Launch} {e : Env} {s : State} {m : MethodId} {below : List Frame} {meth : Method} {c : Code} {b : Nat} (hx : p.tables.exec = Jvm.exec) (hb : c.code = code) (hr : meth.sig.returnType = ret) (hlocks : meth.locks = false) {pc : Nat} {H : Heap} {ls : Array Slot} (hdg : decode code pc = .ok (.ireturn, 1)) : W p l e room_1 s m #[Value.ref b] below meth c H [] 600000 7302250 (lw_Z below #[Value.ref b] s) (F0 m pc ls [.int 1]) := by
  intro T hT X
  obtain ⟨fs, hret, hrun, hended, hW, hframe⟩ := X.leave (v := some (.int 1)) (hlocks := hlocks) (fun h => by rw [hr] at h; cases h)
  have hmeth' : T.vm.method? m = some meth := X.method'
  refine ⟨T.setFrames fs, ?_, .returned (some (.int 1)), hrun, hended, rfl, ⟨_, rfl⟩, hW, hframe⟩
  jvm_step X.here [X.here.top, hx, hb, hdg, hmeth', hr, ret, narrow_b1]
  (try refine ⟨rfl, ?_⟩); (try refine ⟨rfl, ?_⟩)
  first | (intro acts; rw [hret _ acts rfl rfl rfl]) | rw [hret _ _ rfl rfl rfl]
  exact Steps.refl _
/-- what holds at the law's entry: the machine, the code, the tables' words (any of lw_tbl by 'hts w (by decide +kernel)'), the script of L ints xs at the cell b, what the Statement gives of the start (any of its parts by flat_of_before) -/
def lw_At (p : Program) (s : State) (m : MethodId) (meth : Method) (c : Code) (b L : Nat) (xs : Nat → Int32) : Prop :=
  p.tables.exec = Jvm.exec ∧ c.code = code ∧ meth.sig.returnType = ret ∧ c.maxLocals = 4 ∧ s.vm.findClass R_law = some m.cls ∧ (∀ w ∈ lw_tbl, w.before #[Value.ref b] s = true) ∧ va_X b L xs s s.heap ∧ b < s.heap.size ∧ meth.locks = false ∧ (Jvm.Cond.and given_1 narrow_1).before #[Value.ref b] s = true
/-- the law as a method -/
def m_law : zM := (RL, x, code, 4, ret)
def g_zero : zG := (0, fun _ => (0, 0), fun _ _ => none)
def s_zero : zS := (fun _ _ => 0, fun _ _ => 0, fun _ _ => none)
theorem lw_retR {p : Program} {l : Launch} {e : Env} {R : Room} {s : State} {m : MethodId} {below : List Frame} {meth : Method} {c : Code} {b : Nat} (hx : p.tables.exec = Jvm.exec) (hb : c.code = code) (hr : meth.sig.returnType = ret) (hlocks : meth.locks = false) {pc : Nat} {H : Heap} {ls : Array Slot} (hdg : decode code pc = .ok (.ireturn, 1)) : W p l e R s m #[Value.ref b] below meth c H [] 600000 7302250 (lw_Z below #[Value.ref b] s) (F0 m pc ls [.int 1]) := by
  intro T hT X
  obtain ⟨fs, hret, hrun, hended, hW, hframe⟩ := X.leave (v := some (.int 1)) (hlocks := hlocks) (fun h => by rw [hr] at h; cases h)
  have hmeth' : T.vm.method? m = some meth := X.method'
  refine ⟨T.setFrames fs, ?_, .returned (some (.int 1)), hrun, hended, rfl, ⟨_, rfl⟩, hW, hframe⟩
  jvm_step X.here [X.here.top, hx, hb, hdg, hmeth', hr, ret, narrow_b1]
  (try refine ⟨rfl, ?_⟩); (try refine ⟨rfl, ?_⟩)
  first | (intro acts; rw [hret _ acts rfl rfl rfl]) | rw [hret _ _ rfl rfl rfl]
  exact Steps.refl _
theorem z_lessRoom {p : Program} {l : Launch} {e : Env} {R R' : Room} {s : State} {m : MethodId} {args : Array Value} {below : List Frame} {meth : Method} {c : Code} {H : Heap} {locs : List Loc} {cells slots : Nat} {Q : State → Prop} {g : JFrame} (h1 : R'.frames ≤ R.frames) (h2 : R'.cells ≤ R.cells) (h3 : R'.slots ≤ R.slots) (h4 : R'.locals ≤ R.locals)
    (w : W p l e R' s m args below meth c H locs cells slots Q g) : W p l e R s m args below meth c H locs cells slots Q g := by
  intro T hT X
  refine w T hT { X with room := ?_ }
  have h := X.room
  simp only [State.hasRoom, Bool.and_eq_true, decide_eq_true_eq] at h ⊢
  obtain ⟨⟨⟨⟨a1, a2, a3, a4, a5, a6⟩, a7⟩, a8⟩, a9⟩ := h
  exact ⟨⟨⟨⟨by omega, by omega, by omega, by omega, by omega, a6⟩, by omega⟩, by omega⟩, a9⟩
theorem z_ownEq : ∀ j : Fin 13, Cond.eq (Term.elem (Term.static "ChalkChain$Lexer" "OWN_WORDS" "[J") (.int (Int32.ofNat j.val))) (.long (i64 (z_own.getD j.val 0))) ∈ flatC (Jvm.Cond.and given_1 narrow_1) := by decide +kernel
theorem z_arr {s : State} {args : Array Value} {ty : FieldType} (h : (Cond.arrayClass ty).before args s = true) (hty : ∀ C, ty ≠ .object C) : ∃ cA : ClassId, ArrOfT s cA ty ∧ va_RA s cA ty := by
  obtain ⟨cA, kA, comp, h1, h2, h3⟩ := Cond.arrayClass_spec h
  refine ⟨cA, fun n z => ⟨fun k h => (by cases h), kA, h2, comp, h3⟩, ?_⟩
  unfold va_RA
  cases ty with
  | object C => exact absurd rfl (hty C)
  | _ => exact h1
set_option maxHeartbeats 4000000 in
theorem z_start (KC KS : Nat) (hKC : KC ≤ 600000) (hKS : KS ≤ 7302250)
    (hlaw : ∀ E : zE, en E ≤ 3072 → zAt E 9 KC KS m_law 0 [vo 1000000, vn, vn, vn] [] g_zero s_zero (fun r _ _ => r = some (vi 1)))
    {p : Program} {e : Env} {s : State} {m : MethodId} {below : List Frame} {meth : Method} {c : Code} (l : Launch) {b L : Nat} {xs : Nat → Int32} (hL : L ≤ 3072) (C0 : lw_At p s m meth c b L xs) : W p l e room_1 s m #[Value.ref b] below meth c s.heap [] 0 0 (lw_Z below #[Value.ref b] s) (entryFrame m ([Value.ref b] : List Value).toArray 4) := by
  obtain ⟨hx, hb, hr, hml, hown, hts, hX, hbl, hlocks, hgv⟩ := C0
  have hw : ∀ (i : Nat) {w : Cond}, lw_tbl[i]? = some w → w.before #[Value.ref b] s = true := fun i w h => hts w (List.mem_of_getElem? h)
  have htz : ∀ w ∈ z_tbl, w.before #[Value.ref b] s = true := fun w h => hts w (List.mem_filter.mp h).1
  obtain ⟨c0, iS0, hKn0⟩ := u_known (C := (zC 0).1) (T := (zC 0).2.1) (N := (zC 0).2.2) (n := (zC 0).2.2) htz (z_in 0 (by omega)) (hw 165 (by decide +kernel))
  obtain ⟨c1, iS1, hKn1⟩ := u_known (C := (zC 1).1) (T := (zC 1).2.1) (N := (zC 1).2.2) (n := (zC 1).2.2) htz (z_in 1 (by omega)) (hw 330 (by decide +kernel))
  obtain ⟨c2, iS2, hKn2⟩ := u_known (C := (zC 2).1) (T := (zC 2).2.1) (N := (zC 2).2.2) (n := (zC 2).2.2) htz (z_in 2 (by omega)) (hw 397 (by decide +kernel))
  obtain ⟨c3, iS3, hKn3⟩ := u_known (C := (zC 3).1) (T := (zC 3).2.1) (N := (zC 3).2.2) (n := (zC 3).2.2) htz (z_in 3 (by omega)) (hw 263 (by decide +kernel))
  obtain ⟨c4, iS4, hKn4⟩ := u_known (C := (zC 4).1) (T := (zC 4).2.1) (N := (zC 4).2.2) (n := (zC 4).2.2) htz (z_in 4 (by omega)) (hw 269 (by decide +kernel))
  obtain ⟨c5, iS5, hKn5⟩ := u_known (C := (zC 5).1) (T := (zC 5).2.1) (N := (zC 5).2.2) (n := (zC 5).2.2) htz (z_in 5 (by omega)) (hw 114 (by decide +kernel))
  obtain ⟨c6, iS6, hKn6⟩ := u_known (C := (zC 6).1) (T := (zC 6).2.1) (N := (zC 6).2.2) (n := (zC 6).2.2) htz (z_in 6 (by omega)) (hw 108 (by decide +kernel))
  obtain ⟨c7, iS7, hKn7⟩ := u_known (C := (zC 7).1) (T := (zC 7).2.1) (N := (zC 7).2.2) (n := (zC 7).2.2) htz (z_in 7 (by omega)) (hw 306 (by decide +kernel))
  obtain ⟨c8, iS8, hKn8⟩ := u_known (C := (zC 8).1) (T := (zC 8).2.1) (N := (zC 8).2.2) (n := (zC 8).2.2) htz (z_in 8 (by omega)) (hw 338 (by decide +kernel))
  obtain ⟨c9, iS9, hKn9⟩ := u_known (C := (zC 9).1) (T := (zC 9).2.1) (N := (zC 9).2.2) (n := (zC 9).2.2) htz (z_in 9 (by omega)) (hw 100 (by decide +kernel))
  obtain ⟨c10, iS10, hKn10⟩ := u_known (C := (zC 10).1) (T := (zC 10).2.1) (N := (zC 10).2.2) (n := (zC 10).2.2) htz (z_in 10 (by omega)) (hw 970 (by decide +kernel))
  obtain ⟨dC, dI, hKc⟩ : ∃ (dC : Nat → ClassId) (dI : Nat → Nat → Nat), ∀ (k : Nat) (q : vw_C), vwCl[k]? = some q → u_Kn s q.1 q.2.1 q.2.2 (dC k) (dI k) := by
    refine ⟨fun k => if k = 0 then c0 else if k = 1 then c1 else if k = 2 then c2 else if k = 3 then c3 else if k = 4 then c4 else if k = 5 then c5 else if k = 6 then c6 else if k = 7 then c7 else if k = 8 then c8 else if k = 9 then c9 else c10, fun k => if k = 0 then iS0 else if k = 1 then iS1 else if k = 2 then iS2 else if k = 3 then iS3 else if k = 4 then iS4 else if k = 5 then iS5 else if k = 6 then iS6 else if k = 7 then iS7 else if k = 8 then iS8 else if k = 9 then iS9 else iS10, ?_⟩
    intro k q hq
    match k, hq with
    | 0, hq => cases hq; exact hKn0
    | 1, hq => cases hq; exact hKn1
    | 2, hq => cases hq; exact hKn2
    | 3, hq => cases hq; exact hKn3
    | 4, hq => cases hq; exact hKn4
    | 5, hq => cases hq; exact hKn5
    | 6, hq => cases hq; exact hKn6
    | 7, hq => cases hq; exact hKn7
    | 8, hq => cases hq; exact hKn8
    | 9, hq => cases hq; exact hKn9
    | 10, hq => cases hq; exact hKn10
    | k + 11, hq => simp at hq
  obtain ⟨y0, a0, r0⟩ := z_arr (hw 261 (w := .arrayClass .int) (by decide +kernel)) (fun _ e => by cases e)
  obtain ⟨y1, a1, r1⟩ := z_arr (hw 145 (w := .arrayClass .byte) (by decide +kernel)) (fun _ e => by cases e)
  obtain ⟨y2, a2, r2⟩ := z_arr (hw 1183 (w := .arrayClass .boolean) (by decide +kernel)) (fun _ e => by cases e)
  obtain ⟨y3, a3, r3⟩ := z_arr (hw 260 (w := .arrayClass .long) (by decide +kernel)) (fun _ e => by cases e)
  have hover := hw 395 (w := .arrayOver (.object "ChalkChain$Earnest")) (by decide +kernel)
  obtain ⟨comp, y4, k4, o1, o2, o3, o4, o5⟩ := Cond.arrayOver_spec hover
  have hs := flat_of_before _ hgv
  obtain ⟨t, ht, hT⟩ := va_Tof (tm := Term.static "ChalkChain$Lexer" "OWN_WORDS" "[J") (ty := .long) (N := 13) (f := fun j => .long (i64 (z_own.getD j 0))) (A := fun q => s.heap.size ≤ q) (by omega) (hs (Cond.arrayOf (Term.static "ChalkChain$Lexer" "OWN_WORDS" "[J") .long) (by decide +kernel)) (va_eqt (hs (Cond.eq (Term.length (Term.static "ChalkChain$Lexer" "OWN_WORDS" "[J")) (.int 13)) (by decide +kernel))) (fun j hj => va_eqtl (hs _ (z_ownEq ⟨j, hj⟩))) (fun a ha => Nat.not_le.mpr ha)
  have hZ : va_Z "ChalkChain$Lexer" "OWN_WORDS" "[J" (.ref t) (fun q => s.heap.size ≤ q) s s.heap := va_Zof (hw 510 (by decide +kernel)) (hw 86 (by decide +kernel)) ht (fun a ha => Nat.not_le.mpr ha)
  have hK : ∀ cy : Nat → ClassId, cy 0 = y0 → cy 1 = y1 → cy 2 = y2 → cy 3 = y3 → cy 4 = y4 → va_K (dC, dI) vwCl [(cy 0, .int), (cy 1, .byte), (cy 2, .boolean), (cy 3, .long), (cy 4, .object "ChalkChain$Earnest")] s := by
    intro cy e0 e1 e2 e3 e4
    refine ⟨hKc, fun k q hq => ?_⟩
    match k, hq with
    | 0, hq => cases hq; rw [e0]; exact ⟨a0, r0⟩
    | 1, hq => cases hq; rw [e1]; exact ⟨a1, r1⟩
    | 2, hq => cases hq; rw [e2]; exact ⟨a2, r2⟩
    | 3, hq => cases hq; rw [e3]; exact ⟨a3, r3⟩
    | 4, hq => cases hq; rw [e4]; exact ⟨fun n z => ⟨fun k h => (by cases h), k4, o3, comp, o4⟩, k4, comp, o3, o4, o1, o5⟩
    | k + 5, hq => simp at hq
  let cy : Nat → ClassId := fun k => if k = 0 then y0 else if k = 1 then y1 else if k = 2 then y2 else if k = 3 then y3 else y4
  let E : zE := (l, (dC, dI), cy, (s.heap.size, b, t, L), xs)
  have hfix : zFix E s := ⟨hK cy rfl rfl rfl rfl rfl, fun w hw => va_Nw.of (by
      have hn : z_isNest w = true := (List.mem_filter.mp hw).2
      match w, hn with
      | .methodLinkNest _ _ _ _, _ => rfl) (hts w (List.mem_filter.mp hw).1), hX, hbl, hZ, hT, va_AO.of hover, Nat.le_refl _⟩
  have C : zCtx E m_law p s m #[Value.ref b] meth c := ⟨hx, hb, hml, hr, hlocks, (fun q => absurd q (by decide)), hown, htz, hfix⟩
  refine z_lessRoom (R' := { frames := 10, cells := KC, slots := KS, locals := 362 }) (Nat.le_refl _) hKC hKS (Nat.le_refl _) ?_
  rw [lg_entry_eq]
  have hls := zls_in (E := E) (args := [vo 1000000]) (n := 4) (by decide) (by intro v hv; simp at hv; subst hv; trivial)
  refine hlaw E hL p e _ s m _ below meth c C (by show 9 ≤ 10; omega) (by show 40 * 9 ≤ 362; omega) s.heap [] 0 0 _ (Nat.zero_add _) (Nat.zero_add _) rfl ⟨fun k q h => by simp [zws, gN, g_zero] at h, ⟨fun _ _ => r32_0, fun _ _ => ⟨by show (-9223372036854775808 : Int) ≤ 0; omega, by show (0 : Int) < 9223372036854775808; omega⟩⟩, Nat.zero_le _⟩ va_S.rf hls (by simp) (lw_Z below #[Value.ref b] s) ?_
  intro r G' h' hr1 pc H locs lr hH hS hsz hokr hfit hdec
  subst hr1
  refine va_forget (fun q hq => hS.2.2 q hq) ?_
  refine W.widen (k := 600000) (n := 7302250) hKC hKS ?_
  exact lw_retR hx hb hr hlocks hdec
