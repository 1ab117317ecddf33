/-! rules: calls -/
def zmk : List zV → List zV
  | [] => []
  | .inr (.inl x) :: vs => vl x :: vn :: zmk vs
  | .inl x :: vs => vi x :: zmk vs
  | .inr (.inr r) :: vs => .inr (.inr r) :: zmk vs
def zls (args : List zV) (n : Nat) : List zV := zmk args ++ List.replicate (n - (zmk args).length) vn
theorem lg_sl_c (v : Value) (vs : List Value) : lg_sl (v :: vs) = (if v.category = 2 then [.val v, .second] else [.val v]) ++ lg_sl vs := rfl
theorem zmk_len (E : zE) : ∀ args : List zV, (lg_sl (args.map (zenc E))).length = (zmk args).length
  | [] => rfl
  | .inr (.inl x) :: vs => by
    show (lg_sl (zenc E (vl x) :: vs.map (zenc E))).length = _
    rw [lg_sl_c, List.length_append, zmk_len E vs]; show 2 + _ = _ + 1 + 1; omega
  | .inl x :: vs => by
    show (lg_sl (zenc E (vi x) :: vs.map (zenc E))).length = _
    rw [lg_sl_c, List.length_append, zmk_len E vs]; show 1 + _ = _ + 1; omega
  | .inr (.inr none) :: vs => by
    show (lg_sl (zenc E vn :: vs.map (zenc E))).length = _
    rw [lg_sl_c, List.length_append, zmk_len E vs]; show 1 + _ = _ + 1; omega
  | .inr (.inr (some k)) :: vs => by
    show (lg_sl (zenc E (vo k) :: vs.map (zenc E))).length = _
    rw [lg_sl_c, List.length_append, zmk_len E vs]; show 1 + _ = _ + 1; omega
theorem zmk_at (E : zE) : ∀ (args : List zV) (i : Nat) (v : zV), (zmk args)[i]? = some v → v ≠ vn → (lg_sl (args.map (zenc E)))[i]? = some (.val (zenc E v))
  | [], i, v, h, _ => by simp [zmk] at h
  | .inr (.inl x) :: vs, i, v, h, hv => by
    show (lg_sl (zenc E (vl x) :: vs.map (zenc E)))[i]? = _
    rw [lg_sl_c]
    match i, h with
    | 0, h => simp [zmk] at h; subst h; rfl
    | 1, h => simp [zmk] at h; exact absurd h.symm hv
    | i + 2, h => exact zmk_at E vs i v (by simpa [zmk] using h) hv
  | .inl x :: vs, i, v, h, hv => by
    show (lg_sl (zenc E (vi x) :: vs.map (zenc E)))[i]? = _
    rw [lg_sl_c]
    match i, h with
    | 0, h => simp [zmk] at h; subst h; rfl
    | i + 1, h => exact zmk_at E vs i v (by simpa [zmk] using h) hv
  | .inr (.inr none) :: vs, i, v, h, hv => by
    show (lg_sl (zenc E vn :: vs.map (zenc E)))[i]? = _
    rw [lg_sl_c]
    match i, h with
    | 0, h => simp [zmk] at h; exact absurd h.symm hv
    | i + 1, h => exact zmk_at E vs i v (by simpa [zmk] using h) hv
  | .inr (.inr (some k)) :: vs, i, v, h, hv => by
    show (lg_sl (zenc E (vo k) :: vs.map (zenc E)))[i]? = _
    rw [lg_sl_c]
    match i, h with
    | 0, h => simp [zmk] at h; subst h; rfl
    | i + 1, h => exact zmk_at E vs i v (by simpa [zmk] using h) hv
theorem zmk_ok : ∀ args : List zV, (∀ v ∈ args, zok v) → ∀ v ∈ zmk args, zok v
  | [], _ => by simp [zmk]
  | .inr (.inl x) :: vs, h => z_cons (z_hd h) (z_cons trivial (zmk_ok vs (z_tl h)))
  | .inl x :: vs, h => z_cons (z_hd h) (zmk_ok vs (z_tl h))
  | .inr (.inr r) :: vs, h => z_cons trivial (zmk_ok vs (z_tl h))
theorem zls_in {E : zE} {args : List zV} {n : Nat} (hn : (zmk args).length ≤ n) (hok : ∀ v ∈ args, zok v) : zLs E n (zls args n) (lg_sl (args.map (zenc E)) ++ List.replicate (n - (lg_sl (args.map (zenc E))).length) Slot.unset).toArray := by
  have he := zmk_len E args
  have hl := lv_entry (args.map (zenc E)) (n := n) (by rw [he]; exact hn)
  refine ⟨by unfold zls; rw [List.length_append, List.length_replicate]; omega, hl.1, hl.2.1, ?_, fun i v hi hv => ?_⟩
  · intro v hv
    rcases List.mem_append.mp hv with h | h
    · exact zmk_ok args hok v h
    · rw [(List.mem_replicate.mp h).2]; trivial
  · unfold zls at hi
    by_cases h : i < (zmk args).length
    · rw [List.getElem?_append_left h] at hi
      have := zmk_at E args i v hi hv
      rw [List.getElem?_toArray, List.getElem?_append_left (by rw [he]; exact h)]
      exact this
    · rw [List.getElem?_append_right (by omega)] at hi
      have := List.mem_of_getElem? hi
      exact absurd (List.mem_replicate.mp this).2 hv
abbrev zwsM (M : zM) : List Cond := Cond.code M.2.1 M.2.2.1 M.2.2.2.1 M.2.2.2.2 :: z_tbl
def zPc (E : zE) (args : List zV) (G : zG) (h : zS) : Array Value → State → Prop := fun a U => a = (args.map (zenc E)).toArray ∧ U.heap.size = eB E + gN G ∧ va_P E.2.1 vwCl (zws E G h) U.heap ∧ zFix E U
def zQc (E : zE) (M : zM) (kc : Nat) (G : zG) (F : Option zV → zG → zS → Prop) : Array Value → State → Outcome → State → Prop := fun _ st oc t =>
  ∃ r G' h', oc = .returned (r.map (zenc E)) ∧ F r G' h' ∧ zHp E G' h' t.heap ∧ zokR r ∧ zFit M.2.2.2.2 r ∧ gN G' = gN G + kc ∧ va_F (eA E) st t
theorem z_met {E : zE} {d kc ks : Nat} {M : zM} {args : List zV} {G : zG} {h : zS} {F : Option zV → zG → zS → Prop} (hA : zAt E d kc ks M 0 (zls args M.2.2.2.1) [] G h F) (hok : ∀ v ∈ args, zok v) (hH : zokH h) (hN : gN G ≤ 1000000) (hlen : (zmk args).length ≤ M.2.2.2.1) (hy : plainName M.2.1.cls = true) (hown : M.2.1.cls = M.1) :
    Met E.1 M.2.1 (zwsM M) { frames := d, cells := kc, slots := ks, locals := 40 * d } (zPc E args G h) (zQc E M kc G F) kc ks (eA E) := by
  refine Met.ofW (cc := M.2.2.1) (maxL := M.2.2.2.1) (ret := M.2.2.2.2) hy rfl ?_
  intro p e s m args' below meth c s₁ B hml hv
  obtain ⟨rfl, hsz, hP, hF⟩ := hv
  have hfc : s.vm.findClass M.2.1.cls = some m.cls := findClass_of_methodNamed B.named
  have hlocks : meth.locks = false := B.notSynchronized
  have C : zCtx E M p s m (args.map (zenc E)).toArray meth c := ⟨B.exec, B.bytes, hml, B.returns, hlocks, (fun q => by rw [(name_of_methodNamed B.named B.method).1]; exact q), by rw [← hown]; exact hfc, fun w hw => atoms_spec (ws := zwsM M) B.pre w (List.mem_cons_of_mem _ hw), hF⟩
  rw [lg_entry_eq]
  refine hA p e _ s m _ below meth c C (Nat.le_refl d) (Nat.le_refl _) s.heap [] 0 0 _ (Nat.zero_add _) (Nat.zero_add _) hsz ⟨hP, hH, hN⟩ va_S.rf (zls_in hlen hok) (by simp) (MQ below (zQc E M kc G F) _ s kc ks (eA E)) ?_
  intro r G' h' hf pc H locs lr hH' hS' hsz' hokr hfit hdec
  have hsz' : s.heap.size + kc = eB E + gN G' := hsz'
  have hpost : ∀ t : State, t.heap = H → zQc E M kc G F (args.map (zenc E)).toArray s (.returned (r.map (zenc E))) t := fun t ht => ⟨r, G', h', rfl, hf, by rw [ht]; exact hH', hokr, hfit, by omega, ⟨by rw [ht]; exact hS'.1, fun q h1 h2 => by rw [ht]; exact hS'.2.1 q h1 h2⟩⟩
  have hret := C.2.2.2.1
  have hx := C.1
  have hb := C.2.1
  revert hret hfit
  generalize M.2.2.2.2 = rt
  intro hfit hret
  rcases r with _ | (x | (x | x))
  · rcases rt with _ | t
    · exact W.vret hx hb hret (fun t ht _ => hpost t ht) hS'.2.2 hdec
    · cases t <;> exact hfit.elim
  · rcases rt with _ | t
    · exact hfit.elim
    · cases t with
      | int => exact W.iret hx hb hret (fun t ht _ => hpost t ht) hS'.2.2 hdec
      | boolean => exact W.zret hx hb hret (z_boolOK (E := E) hfit).1 (fun t ht _ => hpost t ht) hS'.2.2 hdec
      | _ => exact hfit.elim
  · rcases rt with _ | t
    · exact hfit.elim
    · cases t with
      | long => exact W.lret hx hb hret (fun t ht _ => hpost t ht) hS'.2.2 hdec
      | _ => exact hfit.elim
  · exact hdec.elim
theorem zFix_blind {E : zE} {u U : State} (hvm : u.vm = U.vm) (hh : u.heap = U.heap) (h : zFix E u) : zFix E U := by
  have hal : u.vm.Alike U.vm := by rw [hvm]; exact Vm.Alike.refl U.vm
  obtain ⟨h1, h2, ⟨scr, a1, a2, a3⟩, h4, h5, h6, h7, h8⟩ := h
  refine ⟨va_K.moved hal h1, fun w hw => ?_, ⟨scr, by rw [← hh]; exact a1, State.isArrayOf_alike hal a2, a3⟩, h4, by rw [← hh]; exact va_Z.moved hal h5, by rw [← hh]; exact va_T.moved hal h6, va_AO.moved hal h7, by rw [← hh]; exact h8⟩
  have hn : z_isNest w = true := (List.mem_filter.mp hw).2
  have : w.onTables = true := by
    match w, hn with
    | .methodLinkNest _ _ _ _, _ => rfl
  exact va_Nw.same this hvm (h2 w hw)
theorem zFix_warm {E : zE} {G : zG} {h : zS} {s U : State} {locs : List Loc} {H : Heap} (hW : s.WarmedH U.vm) (hH : U.heap = H) (hS : va_S (eA E) s.heap H locs) (hf : zFix E s) : zFix E U := by
  have hal : s.vm.Alike U.vm := hW.alike
  obtain ⟨h1, h2, ⟨scr, a1, a2, a3⟩, h4, h5, h6, h7, h8⟩ := hf
  have hb : eb E < s.heap.size := Nat.lt_of_lt_of_le h4 h8
  have hq : ∀ a : Nat, a < s.heap.size → ¬ eA E a → U.heap[a]? = s.heap[a]? := fun a h1 h2 => by rw [hH]; exact hS.2.1 a h1 h2
  refine ⟨va_K.moved hal h1, fun w hw => ?_, ⟨scr, by rw [hq _ hb (Nat.not_le.mpr h4)]; exact a1, State.isArrayOf_alike hal a2, a3⟩, h4, va_Z.kept (va_Z.moved hal h5) hq, va_T.kept (va_T.moved hal h6) hq, va_AO.moved hal h7, by rw [hH]; exact Nat.le_trans h8 hS.1⟩
  have hn : z_isNest w = true := (List.mem_filter.mp hw).2
  match w, hn, hw with
  | .methodLinkNest _ _ _ _, _, hw => exact va_Nw.warmM hW (h2 _ hw)
theorem zPc_blind {E : zE} {args : List zV} {G : zG} {h : zS} : FrameBlind (zPc E args G h) := fun a U g mk q => ⟨q.1, q.2.1, q.2.2.1, zFix_blind (u := U) (U := U.calling g mk a) rfl rfl q.2.2.2⟩
theorem z_good {ws : List Cond} (h : ∀ w ∈ ws, w ∈ z_tbl) : GoodIn z_tbl ws := fun w hw => ⟨h w hw, good_of_word (List.mem_filter.mp (h w hw)).2⟩
theorem z_pre {E : zE} {G : zG} {h : zS} {args : List zV} {s : State} {H : Heap} {locs : List Loc} {cells : Nat} (hH : zHp E G h H) (hsz : s.heap.size + cells = eB E + gN G) (hle : H.size ≤ s.heap.size + cells) (hS : va_S (eA E) s.heap H locs) (hf : zFix E s) : ∀ U : State, U.heap = H → s.WarmedH U.vm → zPc E args G h (args.map (zenc E)).toArray U := by
  intro U hU hW
  have hge : eB E + gN G ≤ H.size := by
    by_cases h0 : gN G = 0
    · have := hS.1
      have := hf.2.2.2.2.2.2.2
      omega
    · have := (hH.1 (gN G - 1) _ (zws_get (by omega))).lt
      have e : (eB E + (gN G - 1), zcell E G h (gN G - 1)).1 = eB E + (gN G - 1) := rfl
      rw [e] at this
      omega
  exact ⟨rfl, by rw [hU]; omega, by rw [hU]; exact hH.1, zFix_warm (G := G) (h := h) hW hU hS hf⟩
theorem z_cont {E : zE} {p : Program} {e : Env} {R : Room} {s : State} {m : MethodId} {args a : Array Value} {below : List Frame} {meth : Method} {c : Code} {H : Heap} {locs : List Loc} {cells slots kc ks pc : Nat} {Q : State → Prop} {M : zM} {G : zG} {F : Option zV → zG → zS → Prop} {lr : Array Slot} {st0 rest : List Value}
    (hr : va_Run p E.1 e R s m args below meth c H locs cells slots kc ks (F0 m pc lr st0) rest (zQc E M kc G F a) (eA E)) (hS : va_S (eA E) s.heap H locs)
    (kk : ∀ r G' h' H1 locs1, F r G' h' → zHp E G' h' H1 → zokR r → zFit M.2.2.2.2 r → gN G' = gN G + kc → va_S (eA E) s.heap H1 locs1 → W p E.1 e R s m args below meth c H1 locs1 (cells + kc) (slots + ks) Q (F0 m (pc + 3) lr (r.toList.map (zenc E) ++ rest))) : W p E.1 e R s m args below meth c H locs cells slots Q (F0 m pc lr st0) := by
  intro T hT X
  obtain ⟨v, st₀, t, T', L, h0, X', hL, e1, e2, ⟨r, G', h', hv, hf, hH, hokr, hfit, hN, hz, hk⟩, st⟩ := hr T hT X
  cases hv
  rw [h0] at hz hk
  have el : (r.map (zenc E)).toList = r.toList.map (zenc E) := by cases r <;> rfl
  rw [el] at st
  obtain ⟨t2, a1, b1⟩ := kk r G' h' T'.heap (locs ++ L) hf (by rw [e1]; exact hH) hokr hfit hN ⟨Nat.le_trans hS.1 (by rw [e1]; exact hz), fun q h1 h2 => by rw [e1, hk q (Nat.lt_of_lt_of_le h1 hS.1) h2]; exact hS.2.1 q h1 h2, fun q hq => by
      rcases List.mem_append.mp hq with h | h
      · exact hS.2.2 q h
      · exact hL q h⟩ T' rfl X'
  exact ⟨t2, st t2 a1, b1⟩
def zcs (st : List zV) : Nat := (st.map (fun v => if z_c1 v then 1 else 2)).sum
theorem zcs_eq (E : zE) : ∀ st : List zV, ((st.map (zenc E)).map fun v => v.category).sum = zcs st
  | [] => rfl
  | .inl x :: vs => congrArg (1 + ·) (zcs_eq E vs)
  | .inr (.inl x) :: vs => congrArg (2 + ·) (zcs_eq E vs)
  | .inr (.inr none) :: vs => congrArg (1 + ·) (zcs_eq E vs)
  | .inr (.inr (some k)) :: vs => congrArg (1 + ·) (zcs_eq E vs)
/-- what any call of M with n arguments (its own object apart) asks of the tables -/
def zlkM (M : zM) (n : Nat) : Prop := Cond.code M.2.1 M.2.2.1 M.2.2.2.1 M.2.2.2.2 ∈ z_tbl ∧ Cond.initialized M.2.1.cls ∈ z_tbl ∧ (M.2.1.cls ≠ "java/lang/invoke/MethodHandle" ∧ M.2.1.cls ≠ "java/lang/invoke/VarHandle" ∧ (parseMethodDescriptor M.2.1.desc).map (fun d => d.parameters.length) = some n) ∧ plainName M.2.1.cls = true ∧ M.2.1.cls = M.1 ∧ M.2.2.2.1 ≤ 21
theorem z_wsM {M : zM} {n : Nat} (h : zlkM M n) : ∀ w ∈ zwsM M, w ∈ z_tbl := List.forall_mem_cons.mpr ⟨h.1, fun _ h => h⟩
def zlkS (own : String) (idx : Nat) (M : zM) (n : Nat) : Prop := Cond.methodLink own idx M.2.1 ∈ z_tbl ∧ Cond.static M.2.1 ∈ z_tbl ∧ zlkM M n
def zlkV (own : String) (idx : Nat) (M : zM) (n c : Nat) : Prop := Cond.methodLink own idx M.2.1 ∈ z_tbl ∧ Cond.instanceMethod M.2.1 ∈ z_tbl ∧ Cond.selects M.2.1.cls M.2.1 M.2.1 ∈ z_tbl ∧ zlkM M n ∧ M.2.1.cls = (zC c).1
def zlkVN (own : String) (idx : Nat) (M : zM) (n c : Nat) (host : String) : Prop := Cond.methodLinkNest own idx M.2.1 host ∈ z_nest ∧ Cond.instanceMethod M.2.1 ∈ z_tbl ∧ Cond.selects M.2.1.cls M.2.1 M.2.1 ∈ z_tbl ∧ zlkM M n ∧ M.2.1.cls = (zC c).1
def zlkSN (own : String) (idx : Nat) (M : zM) (n : Nat) (host : String) : Prop := Cond.methodLinkNest own idx M.2.1 host ∈ z_nest ∧ Cond.static M.2.1 ∈ z_tbl ∧ zlkM M n
def zlkIn (own : String) (idx : Nat) (M : zM) (n : Nat) : Prop := Cond.methodLink own idx M.2.1 ∈ z_tbl ∧ Cond.instanceMethod M.2.1 ∈ z_tbl ∧ M.2.1.name = "<init>" ∧ zlkM M n ∧ M.2.2.2.2 = none
def zlkInN (own : String) (idx : Nat) (M : zM) (n : Nat) (host : String) : Prop := Cond.methodLinkNest own idx M.2.1 host ∈ z_nest ∧ Cond.instanceMethod M.2.1 ∈ z_tbl ∧ M.2.1.name = "<init>" ∧ zlkM M n ∧ M.2.2.2.2 = none
section ZC
variable {E : zE} {d kc ks kc' ks' : Nat} {M M' : zM} {pc : Nat} {ls st st0 : List zV} {G : zG} {h : zS} {P : Option zV → zG → zS → Prop}
theorem a_callS {idx : Nat} (as : List zV) (hd : decode M.2.2.1 pc = .ok (.invokestatic idx, 3)) (hl : zlkS M.1 idx M' as.length) (hst : as.reverse ++ st = st0) (hs : zcs st ≤ 8) (hlen : (zmk as).length ≤ M'.2.2.2.1)
    (w : zAt E d kc' ks' M' 0 (zls as M'.2.2.2.1) [] G h (fun r G' h' => zAt E (d + 1) kc ks M (pc + 3) ls (r.toList ++ st) G' h' P)) : zAt E (d + 1) (kc' + kc) (ks' + ks) M pc ls st0 G h P := by
  subst hst
  intro p e R s m args below meth c0 C hd1 hl1 H locs cells slots lr h1 h2 h3 h4 h5 h6 h7 Q hq
  have hts := C.2.2.2.2.2.2.2.1
  have hM := z_met w (fun v hv => h7 v (List.mem_append_left _ (List.mem_reverse.mpr hv))) h4.2.1 h4.2.2 hlen hl.2.2.2.2.2.1 hl.2.2.2.2.2.2.1
  have h8 := hl.2.2.2.2.2.2.2
  refine z_size (fun hz => ?_)
  have hrun := va_runS (rest := st.map (zenc E)) (As := as.map (zenc E)) (g := F0 m pc lr ((as.reverse ++ st).map (zenc E))) (e := e) (below := below) (meth := meth) (cells := cells) (slots := slots) (locs := locs) (nL := c0.maxLocals) ⟨C.1, C.2.1, rfl, C.2.2.2.2.2.2.1, hts⟩ hM (va_cwS (R := R) (own := M.1) (index := idx) as.length hts (z_good (by
      intro w hw
      rcases List.mem_append.mp hw with q | q
      · simp only [List.mem_cons, List.not_mem_nil, or_false] at q
        rcases q with q | q | q <;> subst q
        · exact hl.1
        · exact hl.2.1
        · exact hl.2.2.2.1
      · exact z_wsM hl.2.2 w q)) rfl rfl rfl hl.2.2.2.2.1 ⟨hd1, by show 8 + (M'.2.2.2.1 + 11) + 40 * d ≤ _; omega⟩) ⟨zPc_blind, z_pre h4 h3 hz h5 C.2.2.2.2.2.2.2.2⟩ rfl (by simp) (by rw [C.2.2.1]; exact h6.2.1) (by simp) (lv_room (by rw [zcs_eq]; exact hs)) hd (by omega)
  refine z_cont hrun h5 (fun r G' h' H1 locs1 hf hH hokr hfit hN hS => ?_)
  have e1 : r.toList.map (zenc E) ++ st.map (zenc E) = (r.toList ++ st).map (zenc E) := by simp
  rw [e1]
  exact hf p e R s m args below meth c0 C hd1 hl1 H1 locs1 (cells + kc') (slots + ks') lr (by omega) (by omega) (by omega) hH hS h6 (by
    intro v hv
    rcases List.mem_append.mp hv with q | q
    · cases r with
      | none => simp at q
      | some u => simp at q; subst q; exact hokr
    · exact h7 v (List.mem_append_right _ q)) Q hq
theorem a_callSN {idx : Nat} {host : String} (as : List zV) (hd : decode M.2.2.1 pc = .ok (.invokestatic idx, 3)) (hl : zlkSN M.1 idx M' as.length host) (hst : as.reverse ++ st = st0) (hs : zcs st ≤ 8) (hlen : (zmk (as)).length ≤ M'.2.2.2.1)
    (w : zAt E d kc' ks' M' 0 (zls (as) M'.2.2.2.1) [] G h (fun r G' h' => zAt E (d + 1) kc ks M (pc + 3) ls (r.toList ++ st) G' h' P)) : zAt E (d + 1) (kc' + kc) (ks' + ks) M pc ls st0 G h P := by
  subst hst
  intro p e R s m args below meth c0 C hd1 hl1 H locs cells slots lr h1 h2 h3 h4 h5 h6 h7 Q hq
  have hts := C.2.2.2.2.2.2.2.1
  have hF := C.2.2.2.2.2.2.2.2
  have hlm := hl.2.2
  have hM := z_met w (fun v hv => h7 v (List.mem_append_left _ (List.mem_reverse.mpr hv))) h4.2.1 h4.2.2 hlen hlm.2.2.2.1 hlm.2.2.2.2.1
  have h8 := hlm.2.2.2.2.2
  refine z_size (fun hz => ?_)
  have hrun := va_runSN (rest := st.map (zenc E)) (As := as.map (zenc E)) (g := F0 m pc lr ((as.reverse ++ st).map (zenc E))) (e := e) (below := below) (meth := meth) (cells := cells) (slots := slots) (locs := locs) (nL := c0.maxLocals) ⟨C.1, C.2.1, rfl, C.2.2.2.2.2.2.1, hts⟩ hM ⟨va_cnB (R := R) (own := M.1) (index := idx) (host := host) as.length hts (z_good (z_wsM hlm)) rfl rfl rfl (hF.2.1 _ hl.1) (hts _ hlm.2.1) hlm.2.2.1 ⟨hd1, by show 8 + (M'.2.2.2.1 + 11) + 40 * d ≤ _; omega⟩, hts _ hl.2.1, trivial⟩ ⟨zPc_blind, z_pre (args := as) h4 h3 hz h5 hF⟩ rfl (by simp) (by rw [C.2.2.1]; exact h6.2.1) (by simp) (lv_room (by rw [zcs_eq]; exact hs)) hd (by omega)
  refine z_cont hrun h5 (fun r G' h' H1 locs1 hf hH hokr hfit hN hS => ?_)
  have e1 : r.toList.map (zenc E) ++ st.map (zenc E) = (r.toList ++ st).map (zenc E) := by simp
  rw [e1]
  exact hf p e R s m args below meth c0 C hd1 hl1 H1 locs1 (cells + kc') (slots + ks') lr (by omega) (by omega) (by omega) hH hS h6 (by
    intro v hv
    rcases List.mem_append.mp hv with q | q
    · cases r with
      | none => simp at q
      | some u => simp at q; subst q; exact hokr
    · exact h7 v (List.mem_append_right _ q)) Q hq
theorem a_callV {idx k c : Nat} (as : List zV) (hd : decode M.2.2.1 pc = .ok (.invokevirtual idx, 3)) (hl : zlkV M.1 idx M' as.length c) (hk : zObj G k c) (hst : as.reverse ++ vo k :: st = st0) (hs : zcs st ≤ 8) (hlen : (zmk (vo k :: as)).length ≤ M'.2.2.2.1)
    (w : zAt E d kc' ks' M' 0 (zls (vo k :: as) M'.2.2.2.1) [] G h (fun r G' h' => zAt E (d + 1) kc ks M (pc + 3) ls (r.toList ++ st) G' h' P)) : zAt E (d + 1) (kc' + kc) (ks' + ks) M pc ls st0 G h P := by
  subst hst
  intro p e R s m args below meth c0 C hd1 hl1 H locs cells slots lr h1 h2 h3 h4 h5 h6 h7 Q hq
  have hts := C.2.2.2.2.2.2.2.1
  have hF := C.2.2.2.2.2.2.2.2
  have hlm := hl.2.2.2.1
  have hM := z_met w (z_cons trivial (fun v hv => h7 v (List.mem_append_left _ (List.mem_reverse.mpr hv)))) h4.2.1 h4.2.2 hlen hlm.2.2.2.1 hlm.2.2.2.2.1
  have h8 := hlm.2.2.2.2.2
  refine z_size (fun hz => ?_)
  have hrun := va_runV (C := M'.2.1.cls) (rest := st.map (zenc E)) (As := as.map (zenc E)) (g := F0 m pc lr ((as.reverse ++ vo k :: st).map (zenc E))) (b := zad E k) (e := e) (below := below) (meth := meth) (cells := cells) (slots := slots) (locs := locs) (nL := c0.maxLocals) ⟨C.1, C.2.1, rfl, C.2.2.2.2.2.2.1, hts⟩ hM (cwV (R := R) (own := M.1) (index := idx) (C := M'.2.1.cls) as.length hts (z_good (by
      intro w hw
      rcases List.mem_append.mp hw with q | q
      · simp only [List.mem_cons, List.not_mem_nil, or_false] at q
        rcases q with q | q | q | q <;> subst q
        · exact hl.1
        · exact hl.2.1
        · exact hl.2.2.1
        · exact hlm.2.1
      · exact z_wsM hlm w q)) rfl rfl rfl ⟨rfl, hlm.2.2.1⟩ ⟨hd1, by show 8 + (M'.2.2.2.1 + 11) + 40 * d ≤ _; omega⟩) ⟨zPc_blind, by rw [zad_k hk.1 h4.2.2]; have := va_recv (q0 := k) hF.1 h4.1 (zC_at hk.2.2) (by rw [zws_get hk.1, zcell_o hk.2.1]); rw [hl.2.2.2.2]; exact this, z_pre (args := vo k :: as) h4 h3 hz h5 hF⟩ rfl (by simp) (by rw [C.2.2.1]; exact h6.2.1) (by simp; rfl) (lv_room (by rw [zcs_eq]; exact hs)) hd (by omega)
  refine z_cont hrun h5 (fun r G' h' H1 locs1 hf hH hokr hfit hN hS => ?_)
  have e1 : r.toList.map (zenc E) ++ st.map (zenc E) = (r.toList ++ st).map (zenc E) := by simp
  rw [e1]
  exact hf p e R s m args below meth c0 C hd1 hl1 H1 locs1 (cells + kc') (slots + ks') lr (by omega) (by omega) (by omega) hH hS h6 (by
    intro v hv
    rcases List.mem_append.mp hv with q | q
    · cases r with
      | none => simp at q
      | some u => simp at q; subst q; exact hokr
    · exact h7 v (List.mem_append_right _ (List.mem_cons_of_mem _ q))) Q hq
theorem a_callVN {idx k c : Nat} {host : String} (as : List zV) (hd : decode M.2.2.1 pc = .ok (.invokevirtual idx, 3)) (hl : zlkVN M.1 idx M' as.length c host) (hk : zObj G k c) (hst : as.reverse ++ vo k :: st = st0) (hs : zcs st ≤ 8) (hlen : (zmk (vo k :: as)).length ≤ M'.2.2.2.1)
    (w : zAt E d kc' ks' M' 0 (zls (vo k :: as) M'.2.2.2.1) [] G h (fun r G' h' => zAt E (d + 1) kc ks M (pc + 3) ls (r.toList ++ st) G' h' P)) : zAt E (d + 1) (kc' + kc) (ks' + ks) M pc ls st0 G h P := by
  subst hst
  intro p e R s m args below meth c0 C hd1 hl1 H locs cells slots lr h1 h2 h3 h4 h5 h6 h7 Q hq
  have hts := C.2.2.2.2.2.2.2.1
  have hF := C.2.2.2.2.2.2.2.2
  have hlm := hl.2.2.2.1
  have hM := z_met w (z_cons trivial (fun v hv => h7 v (List.mem_append_left _ (List.mem_reverse.mpr hv)))) h4.2.1 h4.2.2 hlen hlm.2.2.2.1 hlm.2.2.2.2.1
  have h8 := hlm.2.2.2.2.2
  refine z_size (fun hz => ?_)
  have hrun := va_runVN (C := M'.2.1.cls) (rest := st.map (zenc E)) (As := as.map (zenc E)) (g := F0 m pc lr ((as.reverse ++ vo k :: st).map (zenc E))) (b := zad E k) (e := e) (below := below) (meth := meth) (cells := cells) (slots := slots) (locs := locs) (nL := c0.maxLocals) ⟨C.1, C.2.1, rfl, C.2.2.2.2.2.2.1, hts⟩ hM ⟨va_cnB (R := R) (own := M.1) (index := idx) (host := host) as.length hts (z_good (z_wsM hlm)) rfl rfl rfl (hF.2.1 _ hl.1) (hts _ hlm.2.1) hlm.2.2.1 ⟨hd1, by show 8 + (M'.2.2.2.1 + 11) + 40 * d ≤ _; omega⟩, hts _ hl.2.1, hts _ hl.2.2.1⟩ ⟨zPc_blind, by rw [zad_k hk.1 h4.2.2]; have := va_recv (q0 := k) hF.1 h4.1 (zC_at hk.2.2) (by rw [zws_get hk.1, zcell_o hk.2.1]); rw [hl.2.2.2.2]; exact this, z_pre (args := vo k :: as) h4 h3 hz h5 hF⟩ rfl (by simp) (by rw [C.2.2.1]; exact h6.2.1) (by simp; rfl) (lv_room (by rw [zcs_eq]; exact hs)) hd (by omega)
  refine z_cont hrun h5 (fun r G' h' H1 locs1 hf hH hokr hfit hN hS => ?_)
  have e1 : r.toList.map (zenc E) ++ st.map (zenc E) = (r.toList ++ st).map (zenc E) := by simp
  rw [e1]
  exact hf p e R s m args below meth c0 C hd1 hl1 H1 locs1 (cells + kc') (slots + ks') lr (by omega) (by omega) (by omega) hH hS h6 (by
    intro v hv
    rcases List.mem_append.mp hv with q | q
    · cases r with
      | none => simp at q
      | some u => simp at q; subst q; exact hokr
    · exact h7 v (List.mem_append_right _ (List.mem_cons_of_mem _ q))) Q hq
theorem a_callI {idx k : Nat} (as : List zV) (hd : decode M.2.2.1 pc = .ok (.invokespecial idx, 3)) (hl : zlkIn M.1 idx M' as.length) (hst : as.reverse ++ vo k :: st = st0) (hs : zcs st ≤ 8) (hlen : (zmk (vo k :: as)).length ≤ M'.2.2.2.1)
    (w : zAt E d kc' ks' M' 0 (zls (vo k :: as) M'.2.2.2.1) [] G h (fun r G' h' => zAt E (d + 1) kc ks M (pc + 3) ls (r.toList ++ st) G' h' P)) : zAt E (d + 1) (kc' + kc) (ks' + ks) M pc ls st0 G h P := by
  subst hst
  intro p e R s m args below meth c0 C hd1 hl1 H locs cells slots lr h1 h2 h3 h4 h5 h6 h7 Q hq
  have hts := C.2.2.2.2.2.2.2.1
  have hF := C.2.2.2.2.2.2.2.2
  have hlm := hl.2.2.2.1
  have hM := z_met w (z_cons trivial (fun v hv => h7 v (List.mem_append_left _ (List.mem_reverse.mpr hv)))) h4.2.1 h4.2.2 hlen hlm.2.2.2.1 hlm.2.2.2.2.1
  have h8 := hlm.2.2.2.2.2
  refine z_size (fun hz => ?_)
  have hrun := va_runI (rest := st.map (zenc E)) (As := as.map (zenc E)) (g := F0 m pc lr ((as.reverse ++ vo k :: st).map (zenc E))) (b := zad E k) (e := e) (below := below) (meth := meth) (cells := cells) (slots := slots) (locs := locs) (nL := c0.maxLocals) ⟨C.1, C.2.1, rfl, C.2.2.2.2.2.2.1, hts⟩ hM (cwI (R := R) (own := M.1) (index := idx) as.length hts (z_good (z_wsM hlm)) (show zwsM M' = Cond.code M'.2.1 M'.2.2.1 M'.2.2.2.1 none :: z_tbl by show Cond.code M'.2.1 M'.2.2.1 M'.2.2.2.1 M'.2.2.2.2 :: z_tbl = _; rw [hl.2.2.2.2]) rfl rfl (hts _ hlm.2.1) (hts _ hl.1) (hts _ hl.2.1) hl.2.2.1 hlm.2.2.1 ⟨hd1, by show 8 + (M'.2.2.2.1 + 11) + 40 * d ≤ _; omega⟩) ⟨zPc_blind, z_pre (args := vo k :: as) h4 h3 hz h5 hF⟩ rfl (by simp) (by rw [C.2.2.1]; exact h6.2.1) (by simp; rfl) (lv_room (by rw [zcs_eq]; exact hs)) hd (by omega)
  refine z_cont hrun h5 (fun r G' h' H1 locs1 hf hH hokr hfit hN hS => ?_)
  have e1 : r.toList.map (zenc E) ++ st.map (zenc E) = (r.toList ++ st).map (zenc E) := by simp
  rw [e1]
  exact hf p e R s m args below meth c0 C hd1 hl1 H1 locs1 (cells + kc') (slots + ks') lr (by omega) (by omega) (by omega) hH hS h6 (by
    intro v hv
    rcases List.mem_append.mp hv with q | q
    · cases r with
      | none => simp at q
      | some u => simp at q; subst q; exact hokr
    · exact h7 v (List.mem_append_right _ (List.mem_cons_of_mem _ q))) Q hq
theorem a_callIN {idx k : Nat} {host : String} (as : List zV) (hd : decode M.2.2.1 pc = .ok (.invokespecial idx, 3)) (hl : zlkInN M.1 idx M' as.length host) (hst : as.reverse ++ vo k :: st = st0) (hs : zcs st ≤ 8) (hlen : (zmk (vo k :: as)).length ≤ M'.2.2.2.1)
    (w : zAt E d kc' ks' M' 0 (zls (vo k :: as) M'.2.2.2.1) [] G h (fun r G' h' => zAt E (d + 1) kc ks M (pc + 3) ls (r.toList ++ st) G' h' P)) : zAt E (d + 1) (kc' + kc) (ks' + ks) M pc ls st0 G h P := by
  subst hst
  intro p e R s m args below meth c0 C hd1 hl1 H locs cells slots lr h1 h2 h3 h4 h5 h6 h7 Q hq
  have hts := C.2.2.2.2.2.2.2.1
  have hF := C.2.2.2.2.2.2.2.2
  have hlm := hl.2.2.2.1
  have hM := z_met w (z_cons trivial (fun v hv => h7 v (List.mem_append_left _ (List.mem_reverse.mpr hv)))) h4.2.1 h4.2.2 hlen hlm.2.2.2.1 hlm.2.2.2.2.1
  have h8 := hlm.2.2.2.2.2
  refine z_size (fun hz => ?_)
  have hrun := va_runIN (rest := st.map (zenc E)) (As := as.map (zenc E)) (g := F0 m pc lr ((as.reverse ++ vo k :: st).map (zenc E))) (b := zad E k) (e := e) (below := below) (meth := meth) (cells := cells) (slots := slots) (locs := locs) (nL := c0.maxLocals) ⟨C.1, C.2.1, rfl, C.2.2.2.2.2.2.1, hts⟩ hM ⟨va_cnB (R := R) (own := M.1) (index := idx) (host := host) as.length hts (z_good (z_wsM hlm)) (show zwsM M' = Cond.code M'.2.1 M'.2.2.1 M'.2.2.2.1 none :: z_tbl by show Cond.code M'.2.1 M'.2.2.1 M'.2.2.2.1 M'.2.2.2.2 :: z_tbl = _; rw [hl.2.2.2.2]) rfl rfl (hF.2.1 _ hl.1) (hts _ hlm.2.1) hlm.2.2.1 ⟨hd1, by show 8 + (M'.2.2.2.1 + 11) + 40 * d ≤ _; omega⟩, hl.2.2.1, hts _ hl.2.1⟩ ⟨zPc_blind, z_pre (args := vo k :: as) h4 h3 hz h5 hF⟩ rfl (by simp) (by rw [C.2.2.1]; exact h6.2.1) (by simp; rfl) (lv_room (by rw [zcs_eq]; exact hs)) hd (by omega)
  refine z_cont hrun h5 (fun r G' h' H1 locs1 hf hH hokr hfit hN hS => ?_)
  have e1 : r.toList.map (zenc E) ++ st.map (zenc E) = (r.toList ++ st).map (zenc E) := by simp
  rw [e1]
  exact hf p e R s m args below meth c0 C hd1 hl1 H1 locs1 (cells + kc') (slots + ks') lr (by omega) (by omega) (by omega) hH hS h6 (by
    intro v hv
    rcases List.mem_append.mp hv with q | q
    · cases r with
      | none => simp at q
      | some u => simp at q; subst q; exact hokr
    · exact h7 v (List.mem_append_right _ (List.mem_cons_of_mem _ q))) Q hq
/-- Object's own start -/
def zlkO (own : String) (idx : Nat) : Prop := Cond.methodLink own idx Lib.objectInit ∈ z_tbl ∧ Cond.instanceMethod Lib.objectInit ∈ z_tbl ∧ Cond.code Lib.objectInit ⟨#[0xb1]⟩ 1 none ∈ z_tbl
theorem a_objInit {idx k : Nat} (hd : decode M.2.2.1 pc = .ok (.invokespecial idx, 3)) (hl : zlkO M.1 idx) (hd0 : 0 < d) (hs : zcs st ≤ 8) (w : zAt E d kc ks M (pc + 3) ls st G h P) : zAt E d kc ks M pc ls (vo k :: st) G h P := by
  intro p e R s m args below meth c0 C hd1 hl1 H locs cells slots lr h1 h2 h3 h4 h5 h6 h7 Q hq
  have hts := C.2.2.2.2.2.2.2.1
  refine W.objInit C.1 C.2.1 C.2.2.2.2.2.2.1 (hts _ hl.1) (hts _ hl.2.1) (hts _ hl.2.2) rfl (by rw [C.2.2.1]; exact h6.2.1) (a := zad E k) (rest := st.map (zenc E)) rfl hd (Nat.le_trans hd0 hd1) (by show 2 * 0 + _ + 12 ≤ _; rw [zcs_eq]; omega) ?_
  exact w p e R s m args below meth c0 C hd1 hl1 H locs cells slots lr h1 h2 h3 h4 h5 h6 (z_tl h7) Q hq
end ZC
