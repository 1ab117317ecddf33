/-! the world: which words hold, the fixed things, the cells -/
def z_tbl : List Cond := lw_tbl.filter goodWord
def z_isNest : Cond → Bool
  | .methodLinkNest _ _ _ _ => true
  | _ => false
def z_nest : List Cond := lw_tbl.filter z_isNest
theorem z_mem (i : Nat) {w : Cond} (h : lw_tbl[i]? = some w) (hg : goodWord w = true) : w ∈ z_tbl := List.mem_filter.mpr ⟨List.mem_of_getElem? h, hg⟩
theorem z_memN (i : Nat) {w : Cond} (h : lw_tbl[i]? = some w) (hg : z_isNest w = true) : w ∈ z_nest := List.mem_filter.mpr ⟨List.mem_of_getElem? h, hg⟩
def zC (c : Nat) : vw_C := vwCl.getD c (RX10, TX10, 69)
theorem zC_at {c : Nat} (h : c < 11) : vwCl[c]? = some (zC c) := by
  unfold zC
  rw [List.getD_eq_getElem?_getD]
  have : c < vwCl.length := h
  rw [List.getElem?_eq_getElem this]; rfl
def z_fkT : List (List Nat) := [[0, 0, 0, 0, 0, 3, 3, 3, 3, 3, 3, 3, 3, 3, 0, 0, 0], [0, 3, 3, 3, 3, 3], [0, 0, 3, 3, 3, 3, 3], [3, 3, 3, 3], [0, 0, 3], [2, 0, 0, 0, 0, 1, 0], [3, 2, 0, 0, 0], [3, 3, 0, 3, 0], [0, 3, 3, 3, 3, 3], [3, 0, 3, 2, 2, 3, 3, 3, 3, 0, 3], [3, 0, 0, 0, 0, 0, 0, 0, 0, 1, 3, 3, 3, 3, 3, 3, 3, 3, 3, 3, 3, 3, 3, 3, 0, 0, 0, 0, 0, 0, 0, 0, 0, 0, 3, 3, 3, 0, 3, 3, 3, 3, 3, 3, 3, 3, 3, 3, 3, 3, 3, 3, 3, 3, 0, 0, 3, 3, 3, 3, 3, 3, 0, 0, 3, 3, 3, 3, 3]]
def zfk (c j : Nat) : Nat := (z_fkT.getD c []).getD j 0
abbrev zE : Type := Launch × va_G × (Nat → ClassId) × (Nat × Nat × Nat × Nat) × (Nat → Int32)
def eB (E : zE) : Nat := E.2.2.2.1.1
def eb (E : zE) : Nat := E.2.2.2.1.2.1
def eo (E : zE) : Nat := E.2.2.2.1.2.2.1
def en (E : zE) : Nat := E.2.2.2.1.2.2.2
def eX (E : zE) : Nat → Int32 := E.2.2.2.2
def ecy (E : zE) : Nat → ClassId := E.2.2.1
abbrev eA (E : zE) : Nat → Prop := fun q => eB E ≤ q
/-- a method: the owner's name, its name, bytes, places for locals, what it answers -/
abbrev zM : Type := String × MethodName × ByteArray × Nat × Option FieldType
abbrev zG : Type := Nat × (Nat → Nat × Nat) × (Nat → Nat → Option Nat)
abbrev zS : Type := (Nat → Nat → Int) × (Nat → Nat → Int) × (Nat → Nat → Option Nat)
def gN (G : zG) : Nat := G.1
def gK (G : zG) (k : Nat) : Nat := (G.2.1 k).1
def gLn (G : zG) (k : Nat) : Nat := (G.2.1 k).2
def gF (G : zG) (k j : Nat) : Option Nat := G.2.2 k j
def hI (s : zS) : Nat → Nat → Int := s.1
def hL (s : zS) : Nat → Nat → Int := s.2.1
def hR (s : zS) : Nat → Nat → Option Nat := s.2.2
def stI (s : zS) (k i : Nat) (x : Int) : zS := (fun k' i' => if k' = k ∧ i' = i then x else hI s k' i', hL s, hR s)
def stL (s : zS) (k i : Nat) (x : Int) : zS := (hI s, fun k' i' => if k' = k ∧ i' = i then x else hL s k' i', hR s)
def stR (s : zS) (k i : Nat) (x : Option Nat) : zS := (hI s, hL s, fun k' i' => if k' = k ∧ i' = i then x else hR s k' i')
def stF (G : zG) (k j : Nat) (x : Option Nat) : zG := (gN G, G.2.1, fun k' j' => if k' = k ∧ j' = j then x else gF G k' j')
/-- one cell more: its kind, its length -/
def gNew (G : zG) (kd len : Nat) : zG := (gN G + 1, fun k => if k = gN G then (kd, len) else G.2.1 k, fun k j => if k = gN G then none else gF G k j)
/-- what a new cell holds -/
def stNew (s : zS) (k : Nat) : zS := (fun k' i => if k' = k then 0 else hI s k' i, fun k' i => if k' = k then 0 else hL s k' i, fun k' i => if k' = k then none else hR s k' i)
def zad (E : zE) (k : Nat) : Nat := if k = 1000000 then eb E else if k = 1000001 then eo E else eB E + k
def zenc (E : zE) : zV → Value
  | .inl x => .int (i32 x)
  | .inr (.inl x) => .long (i64 x)
  | .inr (.inr r) => va_rf (r.map (zad E))
def zfld (E : zE) (G : zG) (s : zS) (c k j : Nat) : Value := match zfk c j with
  | 0 => .int (i32 (hI s k j))
  | 1 => .long (i64 (hL s k j))
  | 2 => va_rf ((hR s k j).map (zad E))
  | _ => va_rf ((gF G k j).map (zad E))
def zcell (E : zE) (G : zG) (s : zS) (k : Nat) : va_E := match gK G k with
  | 0 => .inl (ecy E 0, gLn G k, .inl (fun i => i32 (hI s k i)))
  | 1 => .inl (ecy E 1, gLn G k, .inl (fun i => i32 (hI s k i)))
  | 2 => .inl (ecy E 2, gLn G k, .inl (fun i => i32 (hI s k i)))
  | 3 => .inl (ecy E 3, gLn G k, .inr (.inl (fun i => i64 (hL s k i))))
  | 4 => .inl (ecy E 4, gLn G k, .inr (.inr (.inr (.inr (fun i => (hR s k i).map (zad E))))))
  | c + 5 => .inr (c, (List.range (zC c).2.2).map (zfld E G s c k))
def zws (E : zE) (G : zG) (s : zS) : va_W := (List.range (gN G)).map (fun k => (eB E + k, zcell E G s k))
abbrev z_tys (E : zE) : List (ClassId × FieldType) := [(ecy E 0, .int), (ecy E 1, .byte), (ecy E 2, .boolean), (ecy E 3, .long), (ecy E 4, .object "ChalkChain$Earnest")]
def z_own : List Int := [0x6F6E65, 0x626C696E64, 0x626F75676874, 0x626F78, 0x736C6F77, 0x686F6C6473, 0x7269736B, 0x6B65657073, 0x6769766573, 0x74616B6573, 0x66726F6D, 0x746F, 0x6C75636B]
def zok : zV → Prop
  | .inl x => r32 x
  | .inr (.inl x) => r64 x
  | .inr (.inr _) => True
def zokH (s : zS) : Prop := (∀ k i, r32 (hI s k i)) ∧ ∀ k i, r64 (hL s k i)
def zHp (E : zE) (G : zG) (s : zS) (H : Heap) : Prop := va_P E.2.1 vwCl (zws E G s) H ∧ zokH s ∧ gN G ≤ 1000000
def zFix (E : zE) (U : State) : Prop :=
  va_K E.2.1 vwCl (z_tys E) U ∧ (∀ w ∈ z_nest, va_Nw w U) ∧ va_X (eb E) (en E) (eX E) U U.heap ∧ eb E < eB E ∧ va_Z "ChalkChain$Lexer" "OWN_WORDS" "[J" (.ref (eo E)) (eA E) U U.heap ∧ va_T .long (eo E) 13 (fun j => .long (i64 (z_own.getD j 0))) (eA E) U U.heap ∧ va_AO "ChalkChain$Earnest" U ∧ eB E ≤ U.heap.size
def zCtx (E : zE) (M : zM) (p : Program) (s : State) (m : MethodId) (args : Array Value) (meth : Method) (c : Code) : Prop :=
  p.tables.exec = Jvm.exec ∧ c.code = M.2.2.1 ∧ c.maxLocals = M.2.2.2.1 ∧ meth.sig.returnType = M.2.2.2.2 ∧ meth.locks = false ∧ (M.2.1.name = "<init>" → meth.name = "<init>") ∧ s.vm.findClass M.1 = some m.cls ∧ (∀ w ∈ z_tbl, w.before args s = true) ∧ zFix E s
def zLs (E : zE) (n : Nat) (ls : List zV) (lr : Array Slot) : Prop :=
  ls.length = n ∧ lr.size = n ∧ lv_wf lr ∧ (∀ v ∈ ls, zok v) ∧ ∀ (i : Nat) (v : zV), ls[i]? = some v → v ≠ vn → lr[i]? = some (.val (zenc E v))
def zRdec (cc : ByteArray) (pc : Nat) : Option zV → Prop
  | none => decode cc pc = .ok (.return_, 1)
  | some (.inl _) => decode cc pc = .ok (.ireturn, 1)
  | some (.inr (.inl _)) => decode cc pc = .ok (.lreturn, 1)
  | _ => False
def zFit : Option FieldType → Option zV → Prop
  | none, none => True
  | some .int, some (.inl _) => True
  | some .boolean, some (.inl x) => x = 0 ∨ x = 1
  | some .long, some (.inr (.inl _)) => True
  | _, _ => False
def zokR : Option zV → Prop
  | none => True
  | some v => zok v
def zRet (E : zE) (M : zM) (p : Program) (e : Env) (R : Room) (s : State) (m : MethodId) (args : Array Value) (below : List Frame) (meth : Method) (c : Code) (Q : State → Prop) (r : Option zV) (G : zG) (h : zS) : Prop :=
  ∀ (pc : Nat) (H : Heap) (locs : List Loc) (lr : Array Slot), zHp E G h H → va_S (eA E) s.heap H locs → s.heap.size + R.cells = eB E + gN G → zokR r → zFit M.2.2.2.2 r → zRdec M.2.2.1 pc r →
    W p E.1 e R s m args below meth c H locs R.cells R.slots Q (F0 m pc lr (r.toList.map (zenc E)))
/-- from here the method comes to its end, and P holds of its answer and the world then -/
def zAt (E : zE) (d kc ks : Nat) (M : zM) (pc : Nat) (ls st : List zV) (G : zG) (h : zS) (P : Option zV → zG → zS → Prop) : Prop :=
  ∀ (p : Program) (e : Env) (R : Room) (s : State) (m : MethodId) (args : Array Value) (below : List Frame) (meth : Method) (c : Code),
    zCtx E M p s m args meth c → d ≤ R.frames → 40 * d ≤ R.locals → ∀ (H : Heap) (locs : List Loc) (cells slots : Nat) (lr : Array Slot),
      cells + kc = R.cells → slots + ks = R.slots → s.heap.size + cells = eB E + gN G → zHp E G h H → va_S (eA E) s.heap H locs → zLs E M.2.2.2.1 ls lr → (∀ v ∈ st, zok v) →
      ∀ Q : State → Prop, (∀ r G' h', P r G' h' → zRet E M p e R s m args below meth c Q r G' h') → W p E.1 e R s m args below meth c H locs cells slots Q (F0 m pc lr (st.map (zenc E)))
