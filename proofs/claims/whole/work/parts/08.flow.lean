/-! rules: stores into locals, branches, switches, ends -/
def zpk (E : zE) (i : Nat) : Option zV → Option (Nat × Value)
  | none => none
  | some (.inr (.inr none)) => none
  | some (.inl x) => some (i, zenc E (.inl x))
  | some (.inr (.inl x)) => some (i, zenc E (.inr (.inl x)))
  | some (.inr (.inr (some x))) => some (i, zenc E (.inr (.inr (some x))))
def zml (E : zE) (ls : List zV) : List (Nat × Value) := (List.range ls.length).filterMap (fun i => zpk E i ls[i]?)
theorem zml_of {E : zE} {ls : List zV} {i : Nat} {v : zV} (hi : ls[i]? = some v) (hv : v ≠ vn) : (i, zenc E v) ∈ zml E ls := by
  refine List.mem_filterMap.mpr ⟨i, List.mem_range.mpr (List.getElem?_eq_some_iff.mp hi).1, ?_⟩
  rw [hi]
  match v, hv with
  | .inl x, _ => rfl
  | .inr (.inl x), _ => rfl
  | .inr (.inr (some x)), _ => rfl
  | .inr (.inr none), hv => exact absurd rfl hv
theorem zml_to {E : zE} {ls : List zV} {q : Nat × Value} (hq : q ∈ zml E ls) : ∃ v, ls[q.1]? = some v ∧ v ≠ vn ∧ q.2 = zenc E v := by
  obtain ⟨i, -, hi⟩ := List.mem_filterMap.mp hq
  cases hv : ls[i]? with
  | none => rw [hv] at hi; cases hi
  | some v =>
    rw [hv] at hi
    match v, hv, hi with
    | .inl x, hv, hi => cases hi; exact ⟨_, hv, (fun e => by cases e), rfl⟩
    | .inr (.inl x), hv, hi => cases hi; exact ⟨_, hv, (fun e => by cases e), rfl⟩
    | .inr (.inr (some x)), hv, hi => cases hi; exact ⟨_, hv, (fun e => by cases e), rfl⟩
    | .inr (.inr none), hv, hi => cases hi
theorem zLs_has {E : zE} {n : Nat} {ls : List zV} {lr : Array Slot} (h : zLs E n ls lr) : lv_has lr n (zml E ls) := by
  refine ⟨h.2.1, h.2.2.1, fun q hq => ?_⟩
  obtain ⟨v, h1, h2, h3⟩ := zml_to hq
  rw [h3]; exact h.2.2.2.2 _ _ h1 h2
/-- no long lies just below place i -/
def z_isl : Option zV → Bool
  | some (.inr (.inl _)) => true
  | _ => false
def z_free (ls : List zV) : Nat → Bool
  | 0 => true
  | i + 1 => !z_isl ls[i]?
theorem z_set_ok {ls : List zV} {i : Nat} {v : zV} (h : ∀ u ∈ ls, zok u) (hv : zok v) : ∀ u ∈ ls.set i v, zok u := by
  intro u hu
  rcases List.mem_or_eq_of_mem_set hu with h1 | h1
  · exact h u h1
  · rw [h1]; exact hv
theorem z_nc2 {E : zE} {ls : List zV} {i j : Nat} {u : zV} (hf : z_free ls i = true) (hj : ls[j]? = some u) (hji : j + 1 = i) : ((zenc E u).category == 2) = false := by
  subst hji
  have hf : (!z_isl ls[j]?) = true := hf
  rw [hj] at hf
  match u, hf with
  | .inl x, _ => rfl
  | .inr (.inl x), hf => simp [z_isl] at hf
  | .inr (.inr none), _ => rfl
  | .inr (.inr (some k)), _ => rfl
theorem zLs_put1 {E : zE} {n : Nat} {ls : List zV} {lr : Array Slot} {i : Nat} {v : zV} (h : zLs E n ls lr) (hi : i < n) (hv : zok v) (hf : z_free ls i = true) {ls' : Array Slot}
    (h' : lv_has ls' n ((i, zenc E v) :: (zml E ls).filter (fun q => !(q.1 == i) && !(q.1 + 1 == i && q.2.category == 2)))) : zLs E n (ls.set i v) ls' := by
  refine ⟨by rw [List.length_set]; exact h.1, h'.1, h'.2.1, z_set_ok h.2.2.2.1 hv, fun j u hj hu => ?_⟩
  by_cases hji : j = i
  · subst hji
    have hl : j < ls.length := by rw [h.1]; exact hi
    rw [List.getElem?_set_self hl] at hj
    cases hj
    exact h'.2.2 _ List.mem_cons_self
  · rw [List.getElem?_set_ne (Ne.symm hji)] at hj
    refine h'.2.2 (j, zenc E u) (List.mem_cons_of_mem _ (List.mem_filter.mpr ⟨zml_of hj hu, ?_⟩))
    have e1 : (j == i) = false := by simpa using hji
    simp only [e1, Bool.not_false, Bool.true_and]
    by_cases hj2 : j + 1 = i
    · rw [z_nc2 hf hj hj2]; simp
    · have : (j + 1 == i) = false := by simpa using hj2
      rw [this]; rfl
theorem zLs_put2 {E : zE} {n : Nat} {ls : List zV} {lr : Array Slot} {i : Nat} {x : Int} (h : zLs E n ls lr) (hi : i + 1 < n) (hv : zok (vl x)) (hf : z_free ls i = true) {ls' : Array Slot}
    (h' : lv_has ls' n ((i, zenc E (vl x)) :: (zml E ls).filter (fun q => !(q.1 == i) && (!(q.1 == i + 1) && !(q.1 + 1 == i && q.2.category == 2))))) : zLs E n ((ls.set i (vl x)).set (i + 1) vn) ls' := by
  refine ⟨by rw [List.length_set, List.length_set]; exact h.1, h'.1, h'.2.1, z_set_ok (z_set_ok h.2.2.2.1 hv) trivial, fun j u hj hu => ?_⟩
  by_cases hj1 : j = i + 1
  · subst hj1
    have hl : i + 1 < (ls.set i (vl x)).length := by rw [List.length_set, h.1]; exact hi
    rw [List.getElem?_set_self hl] at hj
    cases hj
    exact absurd rfl hu
  · rw [List.getElem?_set_ne (Ne.symm hj1)] at hj
    by_cases hji : j = i
    · subst hji
      have hl : j < ls.length := by rw [h.1]; omega
      rw [List.getElem?_set_self hl] at hj
      cases hj
      exact h'.2.2 _ List.mem_cons_self
    · rw [List.getElem?_set_ne (Ne.symm hji)] at hj
      refine h'.2.2 (j, zenc E u) (List.mem_cons_of_mem _ (List.mem_filter.mpr ⟨zml_of hj hu, ?_⟩))
      have e1 : (j == i) = false := by simpa using hji
      have e2 : (j == i + 1) = false := by simpa using hj1
      simp only [e1, e2, Bool.not_false, Bool.true_and]
      by_cases hj2 : j + 1 = i
      · rw [z_nc2 hf hj hj2]; simp
      · have : (j + 1 == i) = false := by simpa using hj2
        rw [this]; rfl
section ZF
variable {E : zE} {d kc ks : Nat} {M : zM} {pc : Nat} {ls st : List zV} {G : zG} {h : zS} {P : Option zV → zG → zS → Prop}
theorem a_istore_n {i : Fin 4} {x : Int} {ls' : List zV} (hd : decode M.2.2.1 pc = .ok (.istore_n i, 1)) (hi : (decide (i.val < M.2.2.2.1) && z_free ls i.val) = true) (hl : ls.set i.val (vi x) = ls') (k : zAt E d kc ks M (pc + 1) ls' st G h P) : zAt E d kc ks M pc ls (vi x :: st) G h P := by
  subst hl
  simp only [Bool.and_eq_true, decide_eq_true_eq] at hi
  intro p e R s m args below meth c C hd1 hl1 H locs cells slots lr h1 h2 h3 h4 h5 h6 h7 Q hq
  exact lv_istore_n C.1 C.2.1 hd rfl (zLs_has h6) hi.1 rfl (fun lr' hl' => k p e R s m args below meth c C hd1 hl1 H locs cells slots lr' h1 h2 h3 h4 h5 (zLs_put1 h6 hi.1 (z_hd h7) hi.2 hl') (z_tl h7) Q hq)
theorem a_istore {i : Nat} {x : Int} {ls' : List zV} (hd : decode M.2.2.1 pc = .ok (.istore i, 2)) (hi : (decide (i < M.2.2.2.1) && z_free ls i) = true) (hl : ls.set i (vi x) = ls') (k : zAt E d kc ks M (pc + 2) ls' st G h P) : zAt E d kc ks M pc ls (vi x :: st) G h P := by
  subst hl
  simp only [Bool.and_eq_true, decide_eq_true_eq] at hi
  intro p e R s m args below meth c C hd1 hl1 H locs cells slots lr h1 h2 h3 h4 h5 h6 h7 Q hq
  exact lv_istore C.1 C.2.1 hd (zLs_has h6) hi.1 rfl (fun lr' hl' => k p e R s m args below meth c C hd1 hl1 H locs cells slots lr' h1 h2 h3 h4 h5 (zLs_put1 h6 hi.1 (z_hd h7) hi.2 hl') (z_tl h7) Q hq)
theorem a_astore_n {i : Fin 4} {x : Nat} {ls' : List zV} (hd : decode M.2.2.1 pc = .ok (.astore_n i, 1)) (hi : (decide (i.val < M.2.2.2.1) && z_free ls i.val) = true) (hl : ls.set i.val (vo x) = ls') (k : zAt E d kc ks M (pc + 1) ls' st G h P) : zAt E d kc ks M pc ls (vo x :: st) G h P := by
  subst hl
  simp only [Bool.and_eq_true, decide_eq_true_eq] at hi
  intro p e R s m args below meth c C hd1 hl1 H locs cells slots lr h1 h2 h3 h4 h5 h6 h7 Q hq
  exact lv_astore_n C.1 C.2.1 hd rfl (zLs_has h6) hi.1 rfl (fun lr' hl' => k p e R s m args below meth c C hd1 hl1 H locs cells slots lr' h1 h2 h3 h4 h5 (zLs_put1 (v := vo x) h6 hi.1 trivial hi.2 hl') (z_tl h7) Q hq)
theorem a_lstore_n {i : Fin 4} {x : Int} {ls' : List zV} (hd : decode M.2.2.1 pc = .ok (.lstore_n i, 1)) (hi : (decide (i.val + 1 < M.2.2.2.1) && z_free ls i.val) = true) (hl : (ls.set i.val (vl x)).set (i.val + 1) vn = ls') (k : zAt E d kc ks M (pc + 1) ls' st G h P) : zAt E d kc ks M pc ls (vl x :: st) G h P := by
  subst hl
  simp only [Bool.and_eq_true, decide_eq_true_eq] at hi
  intro p e R s m args below meth c C hd1 hl1 H locs cells slots lr h1 h2 h3 h4 h5 h6 h7 Q hq
  exact lv_lstore_n C.1 C.2.1 hd rfl (zLs_has h6) hi.1 rfl (fun lr' hl' => k p e R s m args below meth c C hd1 hl1 H locs cells slots lr' h1 h2 h3 h4 h5 (zLs_put2 h6 hi.1 (z_hd h7) hi.2 hl') (z_tl h7) Q hq)
theorem a_lstore {i : Nat} {x : Int} {ls' : List zV} (hd : decode M.2.2.1 pc = .ok (.lstore i, 2)) (hi : (decide (i + 1 < M.2.2.2.1) && z_free ls i) = true) (hl : (ls.set i (vl x)).set (i + 1) vn = ls') (k : zAt E d kc ks M (pc + 2) ls' st G h P) : zAt E d kc ks M pc ls (vl x :: st) G h P := by
  subst hl
  simp only [Bool.and_eq_true, decide_eq_true_eq] at hi
  intro p e R s m args below meth c C hd1 hl1 H locs cells slots lr h1 h2 h3 h4 h5 h6 h7 Q hq
  exact lv_lstore C.1 C.2.1 hd (zLs_has h6) hi.1 rfl (fun lr' hl' => k p e R s m args below meth c C hd1 hl1 H locs cells slots lr' h1 h2 h3 h4 h5 (zLs_put2 h6 hi.1 (z_hd h7) hi.2 hl') (z_tl h7) Q hq)
theorem a_iinc {i : Nat} {n x : Int} {ls' : List zV} (hd : decode M.2.2.1 pc = .ok (.iinc i n, 3)) (hx : ls[i]? = some (vi x)) (hi : (decide (i < M.2.2.2.1) && z_free ls i) = true) (hl : ls.set i (vi (w32 (x + n))) = ls') (k : zAt E d kc ks M (pc + 3) ls' st G h P) : zAt E d kc ks M pc ls st G h P := by
  subst hl
  simp only [Bool.and_eq_true, decide_eq_true_eq] at hi
  intro p e R s m args below meth c C hd1 hl1 H locs cells slots lr h1 h2 h3 h4 h5 h6 h7 Q hq
  obtain ⟨j, hj⟩ := List.getElem?_of_mem (zml_of (E := E) hx (fun e => by cases e))
  exact lv_iinc (x := i32 x) C.1 C.2.1 hd (zLs_has h6) hj (i32_add x n) hi.1 rfl (fun lr' hl' => k p e R s m args below meth c C hd1 hl1 H locs cells slots lr' h1 h2 h3 h4 h5 (zLs_put1 (v := vi (w32 (x + n))) h6 hi.1 (r32_w _) hi.2 hl') h7 Q hq)
theorem z_br {A B : Prop} {p1 p2 : Nat} {st' : List zV} (kt : A → zAt E d kc ks M p1 ls st' G h P) (kf : B → zAt E d kc ks M p2 ls st' G h P) (hok : (∀ v ∈ st, zok v) → ∀ v ∈ st', zok v)
    (step : ∀ (p : Program) (e : Env) (R : Room) (s : State) (m : MethodId) (args : Array Value) (below : List Frame) (meth : Method) (c : Code) (H : Heap) (locs : List Loc) (cells slots : Nat) (lr : Array Slot) (Q : State → Prop),
      zCtx E M p s m args meth c → (∀ v ∈ st, zok v) → (A → W p E.1 e R s m args below meth c H locs cells slots Q (F0 m p1 lr (st'.map (zenc E)))) → (B → W p E.1 e R s m args below meth c H locs cells slots Q (F0 m p2 lr (st'.map (zenc E)))) → W p E.1 e R s m args below meth c H locs cells slots Q (F0 m pc lr (st.map (zenc E)))) :
    zAt E d kc ks M pc ls st G h P := by
  intro p e R s m args below meth c C hd hl H locs cells slots lr h1 h2 h3 h4 h5 h6 h7 Q hq
  exact step p e R s m args below meth c H locs cells slots lr Q C h7 (fun a => kt a p e R s m args below meth c C hd hl H locs cells slots lr h1 h2 h3 h4 h5 h6 (hok h7) Q hq) (fun b => kf b p e R s m args below meth c C hd hl H locs cells slots lr h1 h2 h3 h4 h5 h6 (hok h7) Q hq)
theorem a_if_eq {a off : Int} {tgt : Nat} (hd : decode M.2.2.1 pc = .ok (.ifCond .eq off, 3)) (ht : (pc : Int) + off = (tgt : Int)) (kt : a = 0 → zAt E d kc ks M tgt ls st G h P) (kf : a ≠ 0 → zAt E d kc ks M (pc + 3) ls st G h P) : zAt E d kc ks M pc ls (vi a :: st) G h P :=
  z_br kt kf (fun q => z_tl q) (fun p e R s m args below meth c H locs cells slots lr Q C q wt wf => by
    have ha : r32 a := z_hd q
    have E1 := i32_eq ha r32_0
    rw [← i32_0] at E1
    exact lv_if_eq (x := i32 a) C.1 C.2.1 hd ht (fun x => wt (E1.mp x)) (fun x => wf (fun e => x (E1.mpr e))))
theorem a_icmp_eq {a b off : Int} {tgt : Nat} (hd : decode M.2.2.1 pc = .ok (.if_icmp .eq off, 3)) (ht : (pc : Int) + off = (tgt : Int)) (kt : a = b → zAt E d kc ks M tgt ls st G h P) (kf : a ≠ b → zAt E d kc ks M (pc + 3) ls st G h P) : zAt E d kc ks M pc ls (vi b :: vi a :: st) G h P :=
  z_br kt kf (fun q => z_tl (z_tl q)) (fun p e R s m args below meth c H locs cells slots lr Q C q wt wf => by
    have hb : r32 b := z_hd q
    have ha : r32 a := z_hd (z_tl q)
    have E1 := i32_eq ha hb
    exact lv_icmp_eq (x := i32 a) (y := i32 b) C.1 C.2.1 hd ht (fun x => wt (E1.mp x)) (fun x => wf (fun e => x (E1.mpr e))))
theorem a_if_ne {a off : Int} {tgt : Nat} (hd : decode M.2.2.1 pc = .ok (.ifCond .ne off, 3)) (ht : (pc : Int) + off = (tgt : Int)) (kt : a ≠ 0 → zAt E d kc ks M tgt ls st G h P) (kf : a = 0 → zAt E d kc ks M (pc + 3) ls st G h P) : zAt E d kc ks M pc ls (vi a :: st) G h P :=
  z_br kt kf (fun q => z_tl q) (fun p e R s m args below meth c H locs cells slots lr Q C q wt wf => by
    have ha : r32 a := z_hd q
    have E1 := i32_eq ha r32_0
    rw [← i32_0] at E1
    exact lv_if_ne (x := i32 a) C.1 C.2.1 hd ht (fun x => wt (fun e => x (E1.mpr e))) (fun x => wf (E1.mp x)))
theorem a_icmp_ne {a b off : Int} {tgt : Nat} (hd : decode M.2.2.1 pc = .ok (.if_icmp .ne off, 3)) (ht : (pc : Int) + off = (tgt : Int)) (kt : a ≠ b → zAt E d kc ks M tgt ls st G h P) (kf : a = b → zAt E d kc ks M (pc + 3) ls st G h P) : zAt E d kc ks M pc ls (vi b :: vi a :: st) G h P :=
  z_br kt kf (fun q => z_tl (z_tl q)) (fun p e R s m args below meth c H locs cells slots lr Q C q wt wf => by
    have hb : r32 b := z_hd q
    have ha : r32 a := z_hd (z_tl q)
    have E1 := i32_eq ha hb
    exact lv_icmp_ne (x := i32 a) (y := i32 b) C.1 C.2.1 hd ht (fun x => wt (fun e => x (E1.mpr e))) (fun x => wf (E1.mp x)))
theorem a_if_lt {a off : Int} {tgt : Nat} (hd : decode M.2.2.1 pc = .ok (.ifCond .lt off, 3)) (ht : (pc : Int) + off = (tgt : Int)) (kt : a < 0 → zAt E d kc ks M tgt ls st G h P) (kf : 0 ≤ a → zAt E d kc ks M (pc + 3) ls st G h P) : zAt E d kc ks M pc ls (vi a :: st) G h P :=
  z_br kt kf (fun q => z_tl q) (fun p e R s m args below meth c H locs cells slots lr Q C q wt wf => by
    have ha : r32 a := z_hd q
    have E1 := i32_lt ha r32_0
    rw [← i32_0] at E1
    exact lv_if_lt (x := i32 a) C.1 C.2.1 hd ht (fun x => wt (E1.mp x)) (fun x => wf (by have := mt E1.mpr x; omega)))
theorem a_icmp_lt {a b off : Int} {tgt : Nat} (hd : decode M.2.2.1 pc = .ok (.if_icmp .lt off, 3)) (ht : (pc : Int) + off = (tgt : Int)) (kt : a < b → zAt E d kc ks M tgt ls st G h P) (kf : b ≤ a → zAt E d kc ks M (pc + 3) ls st G h P) : zAt E d kc ks M pc ls (vi b :: vi a :: st) G h P :=
  z_br kt kf (fun q => z_tl (z_tl q)) (fun p e R s m args below meth c H locs cells slots lr Q C q wt wf => by
    have hb : r32 b := z_hd q
    have ha : r32 a := z_hd (z_tl q)
    have E1 := i32_lt ha hb
    exact lv_icmp_lt (x := i32 a) (y := i32 b) C.1 C.2.1 hd ht (fun x => wt (E1.mp x)) (fun x => wf (by have := mt E1.mpr x; omega)))
theorem a_if_ge {a off : Int} {tgt : Nat} (hd : decode M.2.2.1 pc = .ok (.ifCond .ge off, 3)) (ht : (pc : Int) + off = (tgt : Int)) (kt : 0 ≤ a → zAt E d kc ks M tgt ls st G h P) (kf : a < 0 → zAt E d kc ks M (pc + 3) ls st G h P) : zAt E d kc ks M pc ls (vi a :: st) G h P :=
  z_br kt kf (fun q => z_tl q) (fun p e R s m args below meth c H locs cells slots lr Q C q wt wf => by
    have ha : r32 a := z_hd q
    have E1 := i32_le r32_0 ha
    rw [← i32_0] at E1
    exact lv_if_ge (x := i32 a) C.1 C.2.1 hd ht (fun x => wt (E1.mp x)) (fun x => wf (by have := mt E1.mpr x; omega)))
theorem a_icmp_ge {a b off : Int} {tgt : Nat} (hd : decode M.2.2.1 pc = .ok (.if_icmp .ge off, 3)) (ht : (pc : Int) + off = (tgt : Int)) (kt : b ≤ a → zAt E d kc ks M tgt ls st G h P) (kf : a < b → zAt E d kc ks M (pc + 3) ls st G h P) : zAt E d kc ks M pc ls (vi b :: vi a :: st) G h P :=
  z_br kt kf (fun q => z_tl (z_tl q)) (fun p e R s m args below meth c H locs cells slots lr Q C q wt wf => by
    have hb : r32 b := z_hd q
    have ha : r32 a := z_hd (z_tl q)
    have E1 := i32_le hb ha
    exact lv_icmp_ge (x := i32 a) (y := i32 b) C.1 C.2.1 hd ht (fun x => wt (E1.mp x)) (fun x => wf (by have := mt E1.mpr x; omega)))
theorem a_if_gt {a off : Int} {tgt : Nat} (hd : decode M.2.2.1 pc = .ok (.ifCond .gt off, 3)) (ht : (pc : Int) + off = (tgt : Int)) (kt : 0 < a → zAt E d kc ks M tgt ls st G h P) (kf : a ≤ 0 → zAt E d kc ks M (pc + 3) ls st G h P) : zAt E d kc ks M pc ls (vi a :: st) G h P :=
  z_br kt kf (fun q => z_tl q) (fun p e R s m args below meth c H locs cells slots lr Q C q wt wf => by
    have ha : r32 a := z_hd q
    have E1 := i32_lt r32_0 ha
    rw [← i32_0] at E1
    exact lv_if_gt (x := i32 a) C.1 C.2.1 hd ht (fun x => wt (E1.mp x)) (fun x => wf (by have := mt E1.mpr x; omega)))
theorem a_icmp_gt {a b off : Int} {tgt : Nat} (hd : decode M.2.2.1 pc = .ok (.if_icmp .gt off, 3)) (ht : (pc : Int) + off = (tgt : Int)) (kt : b < a → zAt E d kc ks M tgt ls st G h P) (kf : a ≤ b → zAt E d kc ks M (pc + 3) ls st G h P) : zAt E d kc ks M pc ls (vi b :: vi a :: st) G h P :=
  z_br kt kf (fun q => z_tl (z_tl q)) (fun p e R s m args below meth c H locs cells slots lr Q C q wt wf => by
    have hb : r32 b := z_hd q
    have ha : r32 a := z_hd (z_tl q)
    have E1 := i32_lt hb ha
    exact lv_icmp_gt (x := i32 a) (y := i32 b) C.1 C.2.1 hd ht (fun x => wt (E1.mp x)) (fun x => wf (by have := mt E1.mpr x; omega)))
theorem a_if_le {a off : Int} {tgt : Nat} (hd : decode M.2.2.1 pc = .ok (.ifCond .le off, 3)) (ht : (pc : Int) + off = (tgt : Int)) (kt : a ≤ 0 → zAt E d kc ks M tgt ls st G h P) (kf : 0 < a → zAt E d kc ks M (pc + 3) ls st G h P) : zAt E d kc ks M pc ls (vi a :: st) G h P :=
  z_br kt kf (fun q => z_tl q) (fun p e R s m args below meth c H locs cells slots lr Q C q wt wf => by
    have ha : r32 a := z_hd q
    have E1 := i32_le ha r32_0
    rw [← i32_0] at E1
    exact lv_if_le (x := i32 a) C.1 C.2.1 hd ht (fun x => wt (E1.mp x)) (fun x => wf (by have := mt E1.mpr x; omega)))
theorem a_icmp_le {a b off : Int} {tgt : Nat} (hd : decode M.2.2.1 pc = .ok (.if_icmp .le off, 3)) (ht : (pc : Int) + off = (tgt : Int)) (kt : a ≤ b → zAt E d kc ks M tgt ls st G h P) (kf : b < a → zAt E d kc ks M (pc + 3) ls st G h P) : zAt E d kc ks M pc ls (vi b :: vi a :: st) G h P :=
  z_br kt kf (fun q => z_tl (z_tl q)) (fun p e R s m args below meth c H locs cells slots lr Q C q wt wf => by
    have hb : r32 b := z_hd q
    have ha : r32 a := z_hd (z_tl q)
    have E1 := i32_le ha hb
    exact lv_icmp_le (x := i32 a) (y := i32 b) C.1 C.2.1 hd ht (fun x => wt (E1.mp x)) (fun x => wf (by have := mt E1.mpr x; omega)))
/-- a table of targets: j counts from lo on -/
def zAll : List Nat → Int → (Int → Nat → Prop) → Prop
  | [], _, _ => True
  | t :: ts, j, F => F j t ∧ zAll ts (j + 1) F
theorem zAll_at {F : Int → Nat → Prop} : ∀ (ts : List Nat) (j : Int) (n t : Nat), zAll ts j F → ts[n]? = some t → F (j + n) t
  | [], _, n, t, _, h => by simp at h
  | u :: ts, j, 0, t, q, h => by
    simp at h; subst h; have := q.1; simpa using this
  | u :: ts, j, n + 1, t, q, h => by
    have := zAll_at ts (j + 1) n t q.2 (by simpa using h)
    have e : j + 1 + (n : Int) = j + ((n + 1 : Nat) : Int) := by omega
    rw [e] at this; exact this
theorem a_tsw {dflt lo hi x : Int} {offs : Array Int} {len td : Nat} {tg : List Nat} (hd : decode M.2.2.1 pc = .ok (.tableswitch dflt lo hi offs, len)) (hn : (offs.toList.map (fun o => (pc : Int) + o)) = tg.map (fun (t : Nat) => (t : Int))) (hs : (tg.length : Int) = hi - lo + 1) (htd : (pc : Int) + dflt = (td : Int))
    (kin : zAll tg lo (fun j t => x = j → zAt E d kc ks M t ls st G h P)) (kout : x < lo ∨ hi < x → zAt E d kc ks M td ls st G h P) : zAt E d kc ks M pc ls (vi x :: st) G h P := by
  intro p e R s m args below meth c C hd1 hl H locs cells slots lr h1 h2 h3 h4 h5 h6 h7 Q hq
  have hx : r32 x := z_hd h7
  by_cases ho : x < lo ∨ hi < x
  · exact lv_tableOut (x := i32 x) C.1 C.2.1 hd (by rw [i32_t hx]; exact ho) htd (kout ho p e R s m args below meth c C hd1 hl H locs cells slots lr h1 h2 h3 h4 h5 h6 (z_tl h7) Q hq)
  · have hlt : (x - lo).toNat < tg.length := by omega
    have hlen : offs.toList.length = tg.length := by have := congrArg List.length hn; simpa using this
    obtain ⟨t, ht⟩ : ∃ t, tg[(x - lo).toNat]? = some t := ⟨_, List.getElem?_eq_getElem hlt⟩
    obtain ⟨off, hof⟩ : ∃ off, offs.toList[(x - lo).toNat]? = some off := ⟨_, List.getElem?_eq_getElem (by omega)⟩
    have e1 := congrArg (fun l => l[(x - lo).toNat]?) hn
    simp only [List.getElem?_map, hof, ht, Option.map_some, Option.some.injEq] at e1
    have hk := zAll_at tg lo _ t kin ht (by omega)
    exact lv_tableIn (x := i32 x) (off := off) C.1 C.2.1 hd (by rw [i32_t hx]; omega) (by rw [i32_t hx]; omega) (by rw [i32_t hx]; rw [← Array.getElem?_toList]; exact hof) e1 (hk p e R s m args below meth c C hd1 hl H locs cells slots lr h1 h2 h3 h4 h5 h6 (z_tl h7) Q hq)
theorem a_lsw {dflt x : Int} {ps : Array (Int × Int)} {len : Nat} (hd : decode M.2.2.1 pc = .ok (.lookupswitch dflt ps, len)) (hp : (ps.toList.zip (ps.toList.drop 1)).all (fun (a, next) => a.1 < next.1) = true) (kin : ∃ tgt : Nat, (pc : Int) + Op.lookupswitch.offset ps.toList dflt x = (tgt : Int) ∧ zAt E d kc ks M tgt ls st G h P) : zAt E d kc ks M pc ls (vi x :: st) G h P := by
  intro p e R s m args below meth c C hd1 hl H locs cells slots lr h1 h2 h3 h4 h5 h6 h7 Q hq
  have hx : r32 x := z_hd h7
  obtain ⟨tgt, ht, k⟩ := kin
  exact lv_lookup (x := i32 x) C.1 C.2.1 hd hp (by rw [i32_t hx]) ht (k p e R s m args below meth c C hd1 hl H locs cells slots lr h1 h2 h3 h4 h5 h6 (z_tl h7) Q hq)
theorem a_ireturn {x : Int} (hd : decode M.2.2.1 pc = .ok (.ireturn, 1)) (hf : zFit M.2.2.2.2 (some (vi x))) (k : P (some (vi x)) G h) : zAt E d 0 0 M pc ls [vi x] G h P := by
  intro p e R s m args below meth c C hd1 hl H locs cells slots lr h1 h2 h3 h4 h5 h6 h7 Q hq
  have h1 : cells = R.cells := h1
  have h2 : slots = R.slots := h2
  subst h1; subst h2
  exact hq _ _ _ k pc H locs lr h4 h5 h3 (z_hd h7) hf hd
theorem a_lreturn {x : Int} (hd : decode M.2.2.1 pc = .ok (.lreturn, 1)) (hf : zFit M.2.2.2.2 (some (vl x))) (k : P (some (vl x)) G h) : zAt E d 0 0 M pc ls [vl x] G h P := by
  intro p e R s m args below meth c C hd1 hl H locs cells slots lr h1 h2 h3 h4 h5 h6 h7 Q hq
  have h1 : cells = R.cells := h1
  have h2 : slots = R.slots := h2
  subst h1; subst h2
  exact hq _ _ _ k pc H locs lr h4 h5 h3 (z_hd h7) hf hd
theorem a_return (hd : decode M.2.2.1 pc = .ok (.return_, 1)) (hf : zFit M.2.2.2.2 none) (k : P none G h) : zAt E d 0 0 M pc ls [] G h P := by
  intro p e R s m args below meth c C hd1 hl H locs cells slots lr h1 h2 h3 h4 h5 h6 h7 Q hq
  have h1 : cells = R.cells := h1
  have h2 : slots = R.slots := h2
  subst h1; subst h2
  exact hq _ _ _ k pc H locs lr h4 h5 h3 trivial hf hd
end ZF
