/-! rules: new cells, a row copied -/
def stRow (h : zS) (k : Nat) (f : Nat → Int) : zS := (fun k' i => if k' = k then f i else hI h k' i, hL h, hR h)
theorem hI_stRow (h : zS) (k k' i : Nat) (f : Nat → Int) : hI (stRow h k f) k' i = if k' = k then f i else hI h k' i := rfl
theorem hL_stRow (h : zS) (k : Nat) (f : Nat → Int) : hL (stRow h k f) = hL h := rfl
theorem hR_stRow (h : zS) (k : Nat) (f : Nat → Int) : hR (stRow h k f) = hR h := rfl
theorem z_noRow {E : zE} {G : zG} {h : zS} {k : Nat} {f : Nat → Int} {j : Nat} (hj : j ≠ k) : zcell E G (stRow h k f) j = zcell E G h j :=
  zcell_congr rfl (fun _ => rfl) (fun _ => by rw [hI_stRow, if_neg hj]) (fun _ => rfl) (fun _ => rfl)
theorem zokH_Row {h : zS} {k : Nat} {f : Nat → Int} (q : zokH h) (hx : ∀ i, r32 (f i)) : zokH (stRow h k f) := by
  refine ⟨fun k' i' => ?_, q.2⟩
  rw [hI_stRow]
  split
  · exact hx i'
  · exact q.1 k' i'
theorem z_size {p : Program} {l : Launch} {e : Env} {R : Room} {s : State} {m : MethodId} {args : Array Value} {below : List Frame} {meth : Method} {c : Code} {H : Heap} {locs : List Loc} {cells slots : Nat} {Q : State → Prop} {g : JFrame}
    (k : H.size ≤ s.heap.size + cells → W p l e R s m args below meth c H locs cells slots Q g) : W p l e R s m args below meth c H locs cells slots Q g :=
  fun T hT X => k (by rw [← hT]; exact X.heapSize) T hT X
theorem zHp_new {E : zE} {G : zG} {h : zS} {H : Heap} {kd len : Nat} {x : va_E} (h0 : zHp E G h H) (hN : gN G < 1000000) (hx : zcell E (gNew G kd len) (stNew h (gN G)) (gN G) = x) {H1 : Heap} {q : Nat} (hq : q = eB E + gN G) (hP : va_P E.2.1 vwCl (zws E G h ++ [(q, x)]) H1) : zHp E (gNew G kd len) (stNew h (gN G)) H1 := by
  subst hq; subst hx
  refine ⟨?_, ⟨fun k i => ?_, fun k i => ?_⟩, hN⟩
  · have e : zws E (gNew G kd len) (stNew h (gN G)) = zws E G h ++ [(eB E + gN G, zcell E (gNew G kd len) (stNew h (gN G)) (gN G))] := by
      have hn : gN (gNew G kd len) = gN G + 1 := rfl
      show (List.range (gN (gNew G kd len))).map _ = _
      rw [hn, List.range_succ, List.map_append]
      congr 1
      unfold zws
      apply z_mapcongr
      intro i hi
      congr 1
      refine zcell_congr ?_ (fun j => ?_) (fun j => ?_) (fun j => ?_) (fun j => ?_)
      · show (if _ then _ else _) = _; rw [if_neg (by omega)]
      · show (if _ then _ else _) = _; rw [if_neg (by omega)]
      · show (if _ then _ else _) = _; rw [if_neg (by omega)]
      · show (if _ then _ else _) = _; rw [if_neg (by omega)]
      · show (if _ then _ else _) = _; rw [if_neg (by omega)]
    rw [e]; exact hP
  · show r32 (if _ then _ else _); split
    · exact r32_0
    · exact h0.2.1.1 k i
  · show r64 (if _ then _ else _); split
    · unfold r64; omega
    · exact h0.2.1.2 k i
theorem z_addr {E : zE} {G : zG} {h : zS} {x : va_E} {q : Nat} {H1 : Heap} {n : Nat} (hP : va_P E.2.1 vwCl (zws E G h ++ [(q, x)]) H1) (hD : va_D (eA E) (zws E G h ++ [(q, x)])) (hz : H1.size ≤ n) (hn : n = eB E + gN G + 1) : q = eB E + gN G := by
  have hl : (zws E G h ++ [(q, x)])[gN G]? = some (q, x) := by rw [List.getElem?_append_right (by rw [zws_len]; omega), zws_len]; simp
  have h1 : eB E ≤ q := hD.2 (gN G) _ hl
  have h2 : q < H1.size := (hP (gN G) _ hl).lt
  have h3 : ¬ q < eB E + gN G := by
    intro hq
    have hk : q - eB E < gN G := by omega
    have hg : (zws E G h ++ [(q, x)])[q - eB E]? = some (eB E + (q - eB E), zcell E G h (q - eB E)) := by rw [List.getElem?_append_left (by rw [zws_len]; exact hk), zws_get hk]
    have := hD.1 _ _ _ _ hg hl (show eB E + (q - eB E) = q by omega)
    omega
  omega
section ZN
variable {E : zE} {d kc ks : Nat} {M : zM} {pc : Nat} {ls st : List zV} {G : zG} {h : zS} {P : Option zV → zG → zS → Prop}
def zlkN (own : String) (idx c : Nat) : Prop := Cond.classLink own idx (zC c).1 ∈ z_tbl ∧ Cond.instantiable (zC c).1 (zC c).2.2 ∈ z_tbl ∧ Cond.initialized (zC c).1 ∈ z_tbl ∧ c < 11
theorem z_born : ∀ c, c < 11 → (List.range (zC c).2.2).all (fun j => match zfk c j, defaultValue (zty c j) with
  | 0, .int x => x == 0
  | 1, .long x => x == 0
  | 2, .null => true
  | 3, .null => true
  | _, _ => false) = true := by decide +kernel
theorem z_dflt {E : zE} {G : zG} {h : zS} {c k : Nat} (hc : c < 11) (h1 : ∀ j, hI h k j = 0) (h2 : ∀ j, hL h k j = 0) (h3 : ∀ j, hR h k j = none) (h4 : ∀ j, gF G k j = none) {j : Nat} (hj : j < (zC c).2.2) : defaultValue (zty c j) = zfld E G h c k j := by
  have hb := List.all_eq_true.mp (z_born c hc) j (List.mem_range.mpr hj)
  unfold zfld
  rw [h1, h2, h3, h4]
  revert hb
  generalize zfk c j = a
  generalize defaultValue (zty c j) = v
  intro hb
  split at hb
  · have : i32 0 = 0 := by decide +kernel
    simp at hb; subst hb; rw [this]; rfl
  · have : i64 0 = 0 := by decide +kernel
    simp at hb; subst hb; rw [this]; rfl
  · rfl
  · rfl
  · cases hb
theorem a_new {idx c : Nat} (hd : decode M.2.2.1 pc = .ok (.new idx, 3)) (hl : zlkN M.1 idx c) (hN : gN G < 1000000) (w : zAt E d kc ks M (pc + 3) ls (vo (gN G) :: st) (gNew G (c + 5) 0) (stNew h (gN G)) P) : zAt E d (kc + 1) (ks + (zC c).2.2) M pc ls st G h P := by
  intro p e R s m args below meth c0 C hd1 hl1 H locs cells slots lr h1 h2 h3 h4 h5 h6 h7 Q hq
  have hts := C.2.2.2.2.2.2.2.1
  have hcell : zcell E (gNew G (c + 5) 0) (stNew h (gN G)) (gN G) = .inr (c, (List.range (zC c).2.2).map (zfld E (gNew G (c + 5) 0) (stNew h (gN G)) c (gN G))) := zcell_o (by show (if _ then _ else _ : Nat × Nat).1 = _; rw [if_pos rfl])
  refine va_new (D := E.2.1) (cl := vwCl) (ws := zws E G h) (tys := z_tys E) (C := (zC c).1) (T := (zC c).2.1) (N := (zC c).2.2) (ci := c) (own := M.1) C.1 C.2.1 hts (z_in c hl.2.2.2) (zty c) (z_tyok c hl.2.2.2) C.2.2.2.2.2.2.1 (hts _ hl.1) (hts _ hl.2.1) (hts _ hl.2.2.1) C.2.2.2.2.2.2.2.2.1 h4.1 (zwsD E G h) h5 (fun q hq => Nat.le_trans C.2.2.2.2.2.2.2.2.2.2.2.2.2.2.2 hq) (zC_at hl.2.2.2)
    (fs := (List.range (zC c).2.2).map (zfld E (gNew G (c + 5) 0) (stNew h (gN G)) c (gN G))) (fun j hj => ?_) (by omega) (by omega) hd (fun q H1 g1 g2 g3 => ?_)
  · unfold vp_V
    rw [List.getD_eq_getElem?_getD, List.getElem?_map, List.getElem?_range hj]
    exact z_dflt hl.2.2.2 (fun j => by show (if _ then _ else _) = _; rw [if_pos rfl]) (fun j => by show (if _ then _ else _) = _; rw [if_pos rfl]) (fun j => by show (if _ then _ else _) = _; rw [if_pos rfl]) (fun j => by show (if _ then _ else _) = _; rw [if_pos rfl]) hj
  · refine z_size (fun hz => ?_)
    have ha := z_addr g1 g2 hz (by omega)
    have hH := zHp_new h4 hN hcell ha g1
    have hq1 : Value.ref q = zenc E (vo (gN G)) := by rw [ha]; exact (z_ea (G := gNew G (c + 5) 0) (show gN G < gN G + 1 by omega) hH).symm
    rw [hq1]
    exact w p e R s m args below meth c0 C hd1 hl1 H1 locs (cells + 1) (slots + (zC c).2.2) lr (by omega) (by omega) (by show s.heap.size + (cells + 1) = eB E + (gN G + 1); omega) hH g3 h6 (z_cons trivial h7) Q hq
theorem a_newarray {at_ : ArrayType} {ty : FieldType} {kd n : Nat} {a0 : vp_A} {x : Int} (hd : decode M.2.2.1 pc = .ok (.newarray at_, 2)) (hty : newarray.typeOf at_ = ty) (hkd : kd < 4) (htk : (z_tys E)[kd]? = some (ecy E kd, ty)) (hac : Cond.arrayClass (newarray.typeOf at_) ∈ z_tbl) (hx : x = n) (hn : n ≤ 100000) (hb : componentBytes ty ≤ 8) (ha : ∀ cA : ClassId, vp_cell cA a0 = arrV cA n (fun _ => defaultValue ty))
    (hc : zcell E (gNew G kd n) (stNew h (gN G)) (gN G) = .inl (ecy E kd, a0)) (hnm : ∀ C, ty ≠ .object C) (hN : gN G < 1000000) (w : zAt E d kc ks M (pc + 2) ls (vo (gN G) :: st) (gNew G kd n) (stNew h (gN G)) P) : zAt E d (kc + 1) (ks + n) M pc ls (vi x :: st) G h P := by
  intro p e R s m args below meth c0 C hd1 hl1 H locs cells slots lr h1 h2 h3 h4 h5 h6 h7 Q hq
  have hts := C.2.2.2.2.2.2.2.1
  have hK := C.2.2.2.2.2.2.2.2.1
  have hrx : r32 x := z_hd h7
  refine va_newa (D := E.2.1) (cl := vwCl) (ws := zws E G h) (tys := z_tys E) (N' := n) (a0 := a0) C.1 C.2.1 (hts _ hac) hty hK h4.1 (zwsD E G h) h5 (fun q hq => Nat.le_trans C.2.2.2.2.2.2.2.2.2.2.2.2.2.2.2 hq) (n := i32 x) ha (by rw [i32_0, i32_lt hrx r32_0]; omega) (by rw [i32_c hrx]; omega) (by have := Nat.mul_le_mul hn hb; omega) (by omega) (by omega) hd (fun q cA H1 gK1 g1 g2 g3 => ?_)
  have hcA : cA = ecy E kd := by
    have e1 := (gK1.2 5 (cA, ty) rfl).2
    have e2 := (hK.2 kd _ htk).2
    unfold va_RA at e1 e2
    cases ty with
    | object C => exact absurd rfl (hnm C)
    | _ => exact Option.some.inj (e1.symm.trans e2)
  subst hcA
  refine z_size (fun hz => ?_)
  have ha := z_addr g1 g2 hz (by omega)
  have hH := zHp_new h4 hN hc ha g1
  have hq1 : Value.ref q = zenc E (vo (gN G)) := by rw [ha]; exact (z_ea (G := gNew G kd n) (show gN G < gN G + 1 by omega) hH).symm
  rw [hq1]
  exact w p e R s m args below meth c0 C hd1 hl1 H1 locs (cells + 1) (slots + n) lr (by omega) (by omega) (by show s.heap.size + (cells + 1) = eB E + (gN G + 1); omega) hH g3 h6 (z_cons trivial (z_tl h7)) Q hq
theorem z_kd {G : zG} {kd n : Nat} : gK (gNew G kd n) (gN G) = kd ∧ gLn (gNew G kd n) (gN G) = n := by
  constructor
  · show (if _ then _ else _ : Nat × Nat).1 = _; rw [if_pos rfl]
  · show (if _ then _ else _ : Nat × Nat).2 = _; rw [if_pos rfl]
theorem z_fI {h : zS} {k : Nat} : (fun i => i32 (hI (stNew h k) k i)) = fun _ => 0 := by
  funext i
  have : i32 0 = 0 := by decide +kernel
  show i32 (if _ then _ else _) = _; rw [if_pos rfl, this]
theorem z_fL {h : zS} {k : Nat} : (fun i => i64 (hL (stNew h k) k i)) = fun _ => 0 := by
  funext i
  have : i64 0 = 0 := by decide +kernel
  show i64 (if _ then _ else _) = _; rw [if_pos rfl, this]
theorem z_fR {E : zE} {h : zS} {k : Nat} : (fun i => (hR (stNew h k) k i).map (zad E)) = fun _ => none := by
  funext i
  show Option.map _ (if _ then _ else _) = _; rw [if_pos rfl]; rfl
theorem a_newI {n : Nat} {x : Int} (hd : decode M.2.2.1 pc = .ok (.newarray .int, 2)) (hac : Cond.arrayClass .int ∈ z_tbl) (hx : x = n) (hn : n ≤ 100000) (hN : gN G < 1000000) (w : zAt E d kc ks M (pc + 2) ls (vo (gN G) :: st) (gNew G 0 n) (stNew h (gN G)) P) : zAt E d (kc + 1) (ks + n) M pc ls (vi x :: st) G h P :=
  a_newarray (ty := .int) (kd := 0) (a0 := (n, .inl (fun _ => 0))) hd rfl (by omega) rfl hac hx hn (by decide) (fun _ => rfl) (by rw [zcell_0 z_kd.1, z_kd.2, z_fI]) (fun _ e => by cases e) hN w
theorem a_newB {n : Nat} {x : Int} (hd : decode M.2.2.1 pc = .ok (.newarray .byte, 2)) (hac : Cond.arrayClass .byte ∈ z_tbl) (hx : x = n) (hn : n ≤ 100000) (hN : gN G < 1000000) (w : zAt E d kc ks M (pc + 2) ls (vo (gN G) :: st) (gNew G 1 n) (stNew h (gN G)) P) : zAt E d (kc + 1) (ks + n) M pc ls (vi x :: st) G h P :=
  a_newarray (ty := .byte) (kd := 1) (a0 := (n, .inl (fun _ => 0))) hd rfl (by omega) rfl hac hx hn (by decide) (fun _ => rfl) (by rw [zcell_1 z_kd.1, z_kd.2, z_fI]) (fun _ e => by cases e) hN w
theorem a_newZ {n : Nat} {x : Int} (hd : decode M.2.2.1 pc = .ok (.newarray .boolean, 2)) (hac : Cond.arrayClass .boolean ∈ z_tbl) (hx : x = n) (hn : n ≤ 100000) (hN : gN G < 1000000) (w : zAt E d kc ks M (pc + 2) ls (vo (gN G) :: st) (gNew G 2 n) (stNew h (gN G)) P) : zAt E d (kc + 1) (ks + n) M pc ls (vi x :: st) G h P :=
  a_newarray (ty := .boolean) (kd := 2) (a0 := (n, .inl (fun _ => 0))) hd rfl (by omega) rfl hac hx hn (by decide) (fun _ => rfl) (by rw [zcell_2 z_kd.1, z_kd.2, z_fI]) (fun _ e => by cases e) hN w
theorem a_newJ {n : Nat} {x : Int} (hd : decode M.2.2.1 pc = .ok (.newarray .long, 2)) (hac : Cond.arrayClass .long ∈ z_tbl) (hx : x = n) (hn : n ≤ 100000) (hN : gN G < 1000000) (w : zAt E d kc ks M (pc + 2) ls (vo (gN G) :: st) (gNew G 3 n) (stNew h (gN G)) P) : zAt E d (kc + 1) (ks + n) M pc ls (vi x :: st) G h P :=
  a_newarray (ty := .long) (kd := 3) (a0 := (n, .inr (.inl (fun _ => 0)))) hd rfl (by omega) rfl hac hx hn (by decide) (fun _ => rfl) (by rw [zcell_3 z_kd.1, z_kd.2, z_fL]) (fun _ e => by cases e) hN w
theorem a_newQ {idx n : Nat} {x : Int} (hd : decode M.2.2.1 pc = .ok (.anewarray idx, 3)) (hcl : Cond.classLink M.1 idx "ChalkChain$Earnest" ∈ z_tbl) (hx : x = n) (hn : n ≤ 100000) (hN : gN G < 1000000) (w : zAt E d kc ks M (pc + 3) ls (vo (gN G) :: st) (gNew G 4 n) (stNew h (gN G)) P) : zAt E d (kc + 1) (ks + n) M pc ls (vi x :: st) G h P := by
  intro p e R s m args below meth c0 C hd1 hl1 H locs cells slots lr h1 h2 h3 h4 h5 h6 h7 Q hq
  have hts := C.2.2.2.2.2.2.2.1
  have hK := C.2.2.2.2.2.2.2.2.1
  have hrx : r32 x := z_hd h7
  refine va_newq (D := E.2.1) (cl := vwCl) (ws := zws E G h) (tys := z_tys E) (N' := n) C.1 C.2.1 C.2.2.2.2.2.2.1 (hts _ hcl) C.2.2.2.2.2.2.2.2.2.2.2.2.2.2.1 hK h4.1 (zwsD E G h) h5 (fun q hq => Nat.le_trans C.2.2.2.2.2.2.2.2.2.2.2.2.2.2.2 hq) (n := i32 x) (by rw [i32_0, i32_lt hrx r32_0]; omega) (by rw [i32_c hrx]; omega) (by omega) (by omega) (by omega) hd (fun q cA H1 gK1 g1 g2 g3 => ?_)
  have hcA : cA = ecy E 4 := by
    obtain ⟨_, _, _, _, _, e1⟩ := (gK1.2 5 (cA, .object "ChalkChain$Earnest") rfl).2
    obtain ⟨_, _, _, _, _, e2⟩ := (hK.2 4 _ rfl).2
    exact Option.some.inj (e1.symm.trans e2)
  subst hcA
  refine z_size (fun hz => ?_)
  have ha := z_addr g1 g2 hz (by omega)
  have hH := zHp_new (kd := 4) (len := n) h4 hN (by rw [zcell_4 z_kd.1, z_kd.2, z_fR]) ha g1
  have hq1 : Value.ref q = zenc E (vo (gN G)) := by rw [ha]; exact (z_ea (G := gNew G 4 n) (show gN G < gN G + 1 by omega) hH).symm
  rw [hq1]
  exact w p e R s m args below meth c0 C hd1 hl1 H1 locs (cells + 1) (slots + n) lr (by omega) (by omega) (by show s.heap.size + (cells + 1) = eB E + (gN G + 1); omega) hH g3 h6 (z_cons trivial (z_tl h7)) Q hq
/-- System.arraycopy of whole int rows -/
def zlkC (own : String) (idx : Nat) : Prop := Cond.methodLink own idx arraycopyName ∈ z_tbl ∧ Cond.native arraycopyName ∈ z_tbl ∧ Cond.static arraycopyName ∈ z_tbl ∧ Cond.initialized "java/lang/System" ∈ z_tbl
theorem a_copy {idx k0 k1 n0 n1 : Nat} {n : Int} (hd : decode M.2.2.1 pc = .ok (.invokestatic idx, 3)) (hl : zlkC M.1 idx) (hd0 : 0 < d) (hk0 : zArr G k0 0 n0) (hk1 : zArr G k1 0 n1) (hn : 0 ≤ n ∧ n ≤ n0 ∧ n ≤ n1) (w : zAt E d kc ks M (pc + 3) ls [] G (stRow h k1 (fun i => if i < n.toNat then hI h k0 i else hI h k1 i)) P) : zAt E d kc ks M pc ls [vi n, vi 0, vo k1, vi 0, vo k0] G h P := by
  intro p e R s m args below meth c0 C hd1 hl1 H locs cells slots lr h1 h2 h3 h4 h5 h6 h7 Q hq
  have hts := C.2.2.2.2.2.2.2.1
  have hK := C.2.2.2.2.2.2.2.2.1
  have hrn : r32 n := z_hd h7
  have hr0 : r32 0 := r32_0
  show W _ _ _ _ _ _ _ _ _ _ _ _ _ _ _ (F0 _ _ _ [zenc E (vi n), zenc E (vi 0), zenc E (vo k1), zenc E (vi 0), zenc E (vo k0)])
  rw [z_ea hk0.1 h4, z_ea hk1.1 h4]
  have hloc : (([] : List Value).map fun v => v.category).sum + (nativeFrameWords "java/lang/System" "arraycopy" 5 + 11) ≤ R.locals := by
    have : nativeFrameWords "java/lang/System" "arraycopy" 5 = 7 := by decide +kernel
    rw [this]; show 0 + (7 + 11) ≤ _; omega
  have hz : ¬ i32 0 < 0 := by rw [i32_0, i32_lt r32_0 r32_0]; omega
  refine va_copyi (D := E.2.1) (cl := vwCl) (ws := zws E G h) (tys := z_tys E) (ty := .int) (sp := i32 0) (dp := i32 0) (n := i32 n) (rest := []) C.1 C.2.1 (by rw [C.2.2.1, h6.2.1]) C.2.2.2.2.2.2.1 (hts _ hl.1) (hts _ hl.2.1) (hts _ hl.2.2.1) (hts _ hl.2.2.2) hK h4.1 (zwsD E G h) h5 k0 k1 0 0 (by rw [zws_get hk0.1, zcell_0 hk0.2.1]) (by rw [zws_get hk1.1, zcell_0 hk1.2.1]) rfl rfl rfl hz hz (by rw [i32_0, i32_lt hrn r32_0]; omega) (by rw [i32_c hrn, i32_c r32_0, hk0.2.2]; omega) (by rw [i32_c hrn, i32_c r32_0, hk1.2.2]; omega) (fun _ _ => rfl) (Nat.le_trans hd0 hd1) hloc hd (fun H1 locs1 g1 g2 g3 => ?_)
  rw [zws_set (G' := G) (h' := stRow h k1 (fun i => if i < n.toNat then hI h k0 i else hI h k1 i)) rfl (by
    rw [zcell_0 hk1.2.1, i32_c r32_0, i32_c hrn]; congr 4; funext j; unfold va_cpy; rw [hI_stRow, if_pos rfl]
    by_cases e : j < n.toNat
    · rw [if_pos e, if_pos (by omega)]; congr 2; omega
    · rw [if_neg e, if_neg (by omega)]) (fun j _ hj => z_noRow hj)] at g1
  exact w p e R s m args below meth c0 C hd1 hl1 H1 locs1 cells slots lr h1 h2 h3 ⟨g1, zokH_Row h4.2.1 (fun i => by split; exact h4.2.1.1 _ _; exact h4.2.1.1 _ _), h4.2.2⟩ g3 h6 (by simp) Q hq
end ZN
