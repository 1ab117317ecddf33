/-! rules: what stays in the frame -/
theorem z_loc {E : zE} {d kc ks : Nat} {M : zM} {pc pc' : Nat} {ls st st' : List zV} {G : zG} {h : zS} {P : Option zV → zG → zS → Prop}
    (k : zAt E d kc ks M pc' ls st' G h P)
    (hok : (∀ v ∈ ls, zok v) → zokH h → (∀ v ∈ st, zok v) → ∀ v ∈ st', zok v)
    (step : ∀ (p : Program) (e : Env) (R : Room) (s : State) (m : MethodId) (args : Array Value) (below : List Frame) (meth : Method) (c : Code) (H : Heap) (locs : List Loc) (cells slots : Nat) (lr : Array Slot) (Q : State → Prop),
      zCtx E M p s m args meth c → zHp E G h H → va_S (eA E) s.heap H locs → zLs E M.2.2.2.1 ls lr → (∀ v ∈ st, zok v) →
      W p E.1 e R s m args below meth c H locs cells slots Q (F0 m pc' lr (st'.map (zenc E))) → W p E.1 e R s m args below meth c H locs cells slots Q (F0 m pc lr (st.map (zenc E)))) : zAt E d kc ks M pc ls st G h P := by
  intro p e R s m args below meth c C hd hl H locs cells slots lr h1 h2 h3 h4 h5 h6 h7 Q hq
  exact step p e R s m args below meth c H locs cells slots lr Q C h4 h5 h6 h7 (k p e R s m args below meth c C hd hl H locs cells slots lr h1 h2 h3 h4 h5 h6 (hok h6.2.2.2.1 h4.2.1 h7) Q hq)
theorem z_cons {v : zV} {st : List zV} (hv : zok v) (h : ∀ v ∈ st, zok v) : ∀ u ∈ v :: st, zok u := List.forall_mem_cons.mpr ⟨hv, h⟩
theorem z_tl {v : zV} {st : List zV} (h : ∀ u ∈ v :: st, zok u) : ∀ u ∈ st, zok u := (List.forall_mem_cons.mp h).2
theorem z_hd {v : zV} {st : List zV} (h : ∀ u ∈ v :: st, zok u) : zok v := (List.forall_mem_cons.mp h).1
theorem zLs_at {E : zE} {n : Nat} {ls : List zV} {lr : Array Slot} (h : zLs E n ls lr) {i : Nat} {v : zV} (hi : ls[i]? = some v) (hv : v ≠ vn) : lr[i]? = some (.val (zenc E v)) := h.2.2.2.2 i v hi hv
theorem zLs_ok {ls : List zV} (h : ∀ v ∈ ls, zok v) {i : Nat} {v : zV} (hi : ls[i]? = some v) : zok v := h v (List.mem_of_getElem? hi)
section ZL
variable {E : zE} {d kc ks : Nat} {M : zM} {pc : Nat} {ls st : List zV} {G : zG} {h : zS} {P : Option zV → zG → zS → Prop}
theorem a_iconst {n : Int} (hd : decode M.2.2.1 pc = .ok (.iconst n, 1)) (hn : (decide (-2147483648 ≤ n) && decide (n < 2147483648)) = true) (k : zAt E d kc ks M (pc + 1) ls (vi n :: st) G h P) : zAt E d kc ks M pc ls st G h P := by
  simp only [Bool.and_eq_true, decide_eq_true_eq] at hn
  exact z_loc k (fun _ _ q => z_cons hn q) (fun _ _ _ _ _ _ _ _ _ _ _ _ _ _ _ C _ _ _ _ w => lv_iconst C.1 C.2.1 hd rfl w)
theorem z_b8 : ∀ n : Fin 256, (Int8.ofInt ((n.val : Int) - 128)).toInt32 = i32 ((n.val : Int) - 128) := by decide +kernel
theorem z_bip {n : Int} (h1 : -128 ≤ n) (h2 : n < 128) : (Int8.ofInt n).toInt32 = i32 n := by
  have e := z_b8 ⟨(n + 128).toNat, by omega⟩
  have e2 : (((n + 128).toNat : Nat) : Int) - 128 = n := by omega
  simp only [e2] at e
  exact e
theorem a_bipush {n : Int} (hd : decode M.2.2.1 pc = .ok (.bipush n, 2)) (hn : (decide (-128 ≤ n) && decide (n < 128)) = true) (k : zAt E d kc ks M (pc + 2) ls (vi n :: st) G h P) : zAt E d kc ks M pc ls st G h P := by
  simp only [Bool.and_eq_true, decide_eq_true_eq] at hn
  exact z_loc k (fun _ _ q => z_cons (show r32 n by unfold r32; omega) q) (fun _ _ _ _ _ _ _ _ _ _ _ _ _ _ _ C _ _ _ _ w => lv_bipush C.1 C.2.1 hd (z_bip hn.1 hn.2) w)
theorem z_sip {n : Int} (h1 : -32768 ≤ n) (h2 : n < 32768) : (Int16.ofInt n).toInt32 = i32 n := by
  apply Int32.toInt_inj.mp
  rw [i32_t (show r32 n by unfold r32; omega), Int16.toInt_toInt32, Int16.toInt_ofInt]
  show (if n % ((65536 : Nat) : Int) < (((65536 : Nat) : Int) + 1) / 2 then n % ((65536 : Nat) : Int) else n % ((65536 : Nat) : Int) - ((65536 : Nat) : Int)) = n
  split <;> omega
theorem a_sipush {n : Int} (hd : decode M.2.2.1 pc = .ok (.sipush n, 3)) (hn : (decide (-32768 ≤ n) && decide (n < 32768)) = true) (k : zAt E d kc ks M (pc + 3) ls (vi n :: st) G h P) : zAt E d kc ks M pc ls st G h P := by
  simp only [Bool.and_eq_true, decide_eq_true_eq] at hn
  exact z_loc k (fun _ _ q => z_cons (show r32 n by unfold r32; omega) q) (fun _ _ _ _ _ _ _ _ _ _ _ _ _ _ _ C _ _ _ _ w => lv_sipush C.1 C.2.1 hd (z_sip hn.1 hn.2) w)
theorem a_lconst0 (hd : decode M.2.2.1 pc = .ok (.lconst 0, 1)) (k : zAt E d kc ks M (pc + 1) ls (vl 0 :: st) G h P) : zAt E d kc ks M pc ls st G h P :=
  z_loc k (fun _ _ q => z_cons (show r64 0 by unfold r64; omega) q) (fun _ _ _ _ _ _ _ _ _ _ _ _ _ _ _ C _ _ _ _ w => lv_lconst C.1 C.2.1 hd (show _ = i64 0 by decide +kernel) w)
theorem a_lconst1 (hd : decode M.2.2.1 pc = .ok (.lconst 1, 1)) (k : zAt E d kc ks M (pc + 1) ls (vl 1 :: st) G h P) : zAt E d kc ks M pc ls st G h P :=
  z_loc k (fun _ _ q => z_cons (show r64 1 by unfold r64; omega) q) (fun _ _ _ _ _ _ _ _ _ _ _ _ _ _ _ C _ _ _ _ w => lv_lconst C.1 C.2.1 hd (show _ = i64 1 by decide +kernel) w)
theorem a_ldc {i : Nat} {v : Int} (hd : decode M.2.2.1 pc = .ok (.ldc i, 2)) (hc : Cond.constant M.1 i (i32 v) ∈ z_tbl) (hr : (decide (-2147483648 ≤ v) && decide (v < 2147483648)) = true) (k : zAt E d kc ks M (pc + 2) ls (vi v :: st) G h P) : zAt E d kc ks M pc ls st G h P := by
  simp only [Bool.and_eq_true, decide_eq_true_eq] at hr
  exact z_loc k (fun _ _ q => z_cons hr q) (fun _ _ _ _ _ _ _ _ _ _ _ _ _ _ _ C _ _ _ _ w => lv_ldc C.1 C.2.1 C.2.2.2.2.2.2.1 (C.2.2.2.2.2.2.2.1 _ hc) hd w)
theorem a_ldcw {i : Nat} {v : Int} (hd : decode M.2.2.1 pc = .ok (.ldc_w i, 3)) (hc : Cond.constant M.1 i (i32 v) ∈ z_tbl) (hr : (decide (-2147483648 ≤ v) && decide (v < 2147483648)) = true) (k : zAt E d kc ks M (pc + 3) ls (vi v :: st) G h P) : zAt E d kc ks M pc ls st G h P := by
  simp only [Bool.and_eq_true, decide_eq_true_eq] at hr
  exact z_loc k (fun _ _ q => z_cons hr q) (fun _ _ _ _ _ _ _ _ _ _ _ _ _ _ _ C _ _ _ _ w => lv_ldcw C.1 C.2.1 C.2.2.2.2.2.2.1 (C.2.2.2.2.2.2.2.1 _ hc) hd w)
theorem a_ldc2 {i : Nat} {v : Int} (hd : decode M.2.2.1 pc = .ok (.ldc2_w i, 3)) (hc : Cond.constantLong M.1 i (i64 v) ∈ z_tbl) (hr : (decide (-9223372036854775808 ≤ v) && decide (v < 9223372036854775808)) = true) (k : zAt E d kc ks M (pc + 3) ls (vl v :: st) G h P) : zAt E d kc ks M pc ls st G h P := by
  simp only [Bool.and_eq_true, decide_eq_true_eq] at hr
  exact z_loc k (fun _ _ q => z_cons hr q) (fun _ _ _ _ _ _ _ _ _ _ _ _ _ _ _ C _ _ _ _ w => lv_ldc2 C.1 C.2.1 C.2.2.2.2.2.2.1 (C.2.2.2.2.2.2.2.1 _ hc) hd w)
theorem a_iload_n {i : Fin 4} {x : Int} (hd : decode M.2.2.1 pc = .ok (.iload_n i, 1)) (hx : ls[i.val]? = some (vi x)) (k : zAt E d kc ks M (pc + 1) ls (vi x :: st) G h P) : zAt E d kc ks M pc ls st G h P :=
  z_loc k (fun q _ q2 => z_cons (zLs_ok q hx) q2) (fun _ _ _ _ _ _ _ _ _ _ _ _ _ _ _ C _ _ L _ w => lv_iload_n C.1 C.2.1 hd rfl (zLs_at L hx (fun e => by cases e)) w)
theorem a_iload {i : Nat} {x : Int} (hd : decode M.2.2.1 pc = .ok (.iload i, 2)) (hx : ls[i]? = some (vi x)) (k : zAt E d kc ks M (pc + 2) ls (vi x :: st) G h P) : zAt E d kc ks M pc ls st G h P :=
  z_loc k (fun q _ q2 => z_cons (zLs_ok q hx) q2) (fun _ _ _ _ _ _ _ _ _ _ _ _ _ _ _ C _ _ L _ w => lv_iload C.1 C.2.1 hd (zLs_at L hx (fun e => by cases e)) w)
theorem a_lload_n {i : Fin 4} {x : Int} (hd : decode M.2.2.1 pc = .ok (.lload_n i, 1)) (hx : ls[i.val]? = some (vl x)) (k : zAt E d kc ks M (pc + 1) ls (vl x :: st) G h P) : zAt E d kc ks M pc ls st G h P :=
  z_loc k (fun q _ q2 => z_cons (zLs_ok q hx) q2) (fun _ _ _ _ _ _ _ _ _ _ _ _ _ _ _ C _ _ L _ w => lv_lload_n C.1 C.2.1 hd rfl (zLs_at L hx (fun e => by cases e)) w)
theorem a_lload {i : Nat} {x : Int} (hd : decode M.2.2.1 pc = .ok (.lload i, 2)) (hx : ls[i]? = some (vl x)) (k : zAt E d kc ks M (pc + 2) ls (vl x :: st) G h P) : zAt E d kc ks M pc ls st G h P :=
  z_loc k (fun q _ q2 => z_cons (zLs_ok q hx) q2) (fun _ _ _ _ _ _ _ _ _ _ _ _ _ _ _ C _ _ L _ w => lv_lload C.1 C.2.1 hd (zLs_at L hx (fun e => by cases e)) w)
theorem a_aload_n {i : Fin 4} {x : Nat} (hd : decode M.2.2.1 pc = .ok (.aload_n i, 1)) (hx : ls[i.val]? = some (vo x)) (k : zAt E d kc ks M (pc + 1) ls (vo x :: st) G h P) : zAt E d kc ks M pc ls st G h P :=
  z_loc k (fun q _ q2 => z_cons trivial q2) (fun _ _ _ _ _ _ _ _ _ _ _ _ _ _ _ C _ _ L _ w => lv_aload_n C.1 C.2.1 hd rfl (zLs_at L hx (fun e => by cases e)) w)
theorem a_iadd {a b : Int} (hd : decode M.2.2.1 pc = .ok (.iadd, 1)) (k : zAt E d kc ks M (pc + 1) ls (vi (w32 (a + b)) :: st) G h P) : zAt E d kc ks M pc ls (vi b :: vi a :: st) G h P :=
  z_loc k (fun _ _ q => z_cons (r32_w _) (z_tl (z_tl q))) (fun _ _ _ _ _ _ _ _ _ _ _ _ _ _ _ C _ _ _ _ w => lv_iadd C.1 C.2.1 hd (by rw [i32_add]; exact w))
theorem a_isub {a b : Int} (hd : decode M.2.2.1 pc = .ok (.isub, 1)) (k : zAt E d kc ks M (pc + 1) ls (vi (w32 (a - b)) :: st) G h P) : zAt E d kc ks M pc ls (vi b :: vi a :: st) G h P :=
  z_loc k (fun _ _ q => z_cons (r32_w _) (z_tl (z_tl q))) (fun _ _ _ _ _ _ _ _ _ _ _ _ _ _ _ C _ _ _ _ w => lv_isub C.1 C.2.1 hd (by rw [i32_sub]; exact w))
theorem a_imul {a b : Int} (hd : decode M.2.2.1 pc = .ok (.imul, 1)) (k : zAt E d kc ks M (pc + 1) ls (vi (w32 (a * b)) :: st) G h P) : zAt E d kc ks M pc ls (vi b :: vi a :: st) G h P :=
  z_loc k (fun _ _ q => z_cons (r32_w _) (z_tl (z_tl q))) (fun _ _ _ _ _ _ _ _ _ _ _ _ _ _ _ C _ _ _ _ w => lv_imul C.1 C.2.1 hd (by rw [i32_mul]; exact w))
def z_and (a b : Int) : Int := (i32 a &&& i32 b).toInt
def z_or (a b : Int) : Int := (i32 a ||| i32 b).toInt
def z_xor (a b : Int) : Int := (i32 a ^^^ i32 b).toInt
def z_shl (a b : Int) : Int := (i32 a <<< (i32 b &&& 31)).toInt
def z_shr (a b : Int) : Int := (i32 a >>> (i32 b &&& 31)).toInt
def z_ushr (a b : Int) : Int := ((i32 a).toUInt32 >>> ((i32 b).toUInt32 &&& Int32.toUInt32 31)).toInt32.toInt
theorem a_iand {a b : Int} (hd : decode M.2.2.1 pc = .ok (.iand, 1)) (k : zAt E d kc ks M (pc + 1) ls (vi (z_and a b) :: st) G h P) : zAt E d kc ks M pc ls (vi b :: vi a :: st) G h P :=
  z_loc k (fun _ _ q => z_cons (r32_i _) (z_tl (z_tl q))) (fun _ _ _ _ _ _ _ _ _ _ _ _ _ _ _ C _ _ _ _ w => lv_iand C.1 C.2.1 hd (by rw [← i32_of (i32 a &&& i32 b)]; exact w))
theorem a_ior {a b : Int} (hd : decode M.2.2.1 pc = .ok (.ior, 1)) (k : zAt E d kc ks M (pc + 1) ls (vi (z_or a b) :: st) G h P) : zAt E d kc ks M pc ls (vi b :: vi a :: st) G h P :=
  z_loc k (fun _ _ q => z_cons (r32_i _) (z_tl (z_tl q))) (fun _ _ _ _ _ _ _ _ _ _ _ _ _ _ _ C _ _ _ _ w => lv_ior C.1 C.2.1 hd (by rw [← i32_of (i32 a ||| i32 b)]; exact w))
theorem a_ixor {a b : Int} (hd : decode M.2.2.1 pc = .ok (.ixor, 1)) (k : zAt E d kc ks M (pc + 1) ls (vi (z_xor a b) :: st) G h P) : zAt E d kc ks M pc ls (vi b :: vi a :: st) G h P :=
  z_loc k (fun _ _ q => z_cons (r32_i _) (z_tl (z_tl q))) (fun _ _ _ _ _ _ _ _ _ _ _ _ _ _ _ C _ _ _ _ w => lv_ixor C.1 C.2.1 hd (by rw [← i32_of (i32 a ^^^ i32 b)]; exact w))
theorem a_ishl {a b : Int} (hd : decode M.2.2.1 pc = .ok (.ishl, 1)) (k : zAt E d kc ks M (pc + 1) ls (vi (z_shl a b) :: st) G h P) : zAt E d kc ks M pc ls (vi b :: vi a :: st) G h P :=
  z_loc k (fun _ _ q => z_cons (r32_i _) (z_tl (z_tl q))) (fun _ _ _ _ _ _ _ _ _ _ _ _ _ _ _ C _ _ _ _ w => lv_ishl C.1 C.2.1 hd (by rw [← i32_of (i32 a <<< (i32 b &&& 31))]; exact w))
theorem a_ishr {a b : Int} (hd : decode M.2.2.1 pc = .ok (.ishr, 1)) (k : zAt E d kc ks M (pc + 1) ls (vi (z_shr a b) :: st) G h P) : zAt E d kc ks M pc ls (vi b :: vi a :: st) G h P :=
  z_loc k (fun _ _ q => z_cons (r32_i _) (z_tl (z_tl q))) (fun _ _ _ _ _ _ _ _ _ _ _ _ _ _ _ C _ _ _ _ w => lv_ishr C.1 C.2.1 hd (by rw [← i32_of (i32 a >>> (i32 b &&& 31))]; exact w))
theorem a_iushr {a b : Int} (hd : decode M.2.2.1 pc = .ok (.iushr, 1)) (k : zAt E d kc ks M (pc + 1) ls (vi (z_ushr a b) :: st) G h P) : zAt E d kc ks M pc ls (vi b :: vi a :: st) G h P :=
  z_loc k (fun _ _ q => z_cons (r32_i _) (z_tl (z_tl q))) (fun _ _ _ _ _ _ _ _ _ _ _ _ _ _ _ C _ _ _ _ w => lv_iushr C.1 C.2.1 hd (i32_of _).symm w)
theorem a_ladd {a b : Int} (hd : decode M.2.2.1 pc = .ok (.ladd, 1)) (k : zAt E d kc ks M (pc + 1) ls (vl (w64 (a + b)) :: st) G h P) : zAt E d kc ks M pc ls (vl b :: vl a :: st) G h P :=
  z_loc k (fun _ _ q => z_cons (r64_w _) (z_tl (z_tl q))) (fun _ _ _ _ _ _ _ _ _ _ _ _ _ _ _ C _ _ _ _ w => lv_ladd C.1 C.2.1 hd (by rw [i64_add]; exact w))
theorem a_lsub {a b : Int} (hd : decode M.2.2.1 pc = .ok (.lsub, 1)) (k : zAt E d kc ks M (pc + 1) ls (vl (w64 (a - b)) :: st) G h P) : zAt E d kc ks M pc ls (vl b :: vl a :: st) G h P :=
  z_loc k (fun _ _ q => z_cons (r64_w _) (z_tl (z_tl q))) (fun _ _ _ _ _ _ _ _ _ _ _ _ _ _ _ C _ _ _ _ w => lv_lsub C.1 C.2.1 hd (by rw [i64_sub]; exact w))
theorem a_lmul {a b : Int} (hd : decode M.2.2.1 pc = .ok (.lmul, 1)) (k : zAt E d kc ks M (pc + 1) ls (vl (w64 (a * b)) :: st) G h P) : zAt E d kc ks M pc ls (vl b :: vl a :: st) G h P :=
  z_loc k (fun _ _ q => z_cons (r64_w _) (z_tl (z_tl q))) (fun _ _ _ _ _ _ _ _ _ _ _ _ _ _ _ C _ _ _ _ w => lv_lmul C.1 C.2.1 hd (by rw [i64_mul]; exact w))
theorem a_lneg {a : Int} (hd : decode M.2.2.1 pc = .ok (.lneg, 1)) (k : zAt E d kc ks M (pc + 1) ls (vl (w64 (-a)) :: st) G h P) : zAt E d kc ks M pc ls (vl a :: st) G h P :=
  z_loc k (fun _ _ q => z_cons (r64_w _) (z_tl q)) (fun _ _ _ _ _ _ _ _ _ _ _ _ _ _ _ C _ _ _ _ w => lv_lneg C.1 C.2.1 hd (by rw [i64_neg]; exact w))
def z_ldiv (a b : Int) : Int := (i64 a / i64 b).toInt
def z_lrem (a b : Int) : Int := (i64 a - i64 a / i64 b * i64 b).toInt
def z_lor (a b : Int) : Int := (i64 a ||| i64 b).toInt
def z_lshl (a b : Int) : Int := (i64 a <<< ((i32 b).toInt64 &&& 63)).toInt
theorem z_ne0 {b : Int} (hb : zok (vl b)) (h : b ≠ 0) : ¬ i64 b = 0 := by
  have e : (0 : Int64) = i64 0 := by decide +kernel
  rw [e, i64_eq hb (show r64 0 by unfold r64; omega)]; exact h
theorem a_ldiv {a b : Int} (hd : decode M.2.2.1 pc = .ok (.ldiv, 1)) (hb : b ≠ 0) (k : zAt E d kc ks M (pc + 1) ls (vl (z_ldiv a b) :: st) G h P) : zAt E d kc ks M pc ls (vl b :: vl a :: st) G h P :=
  z_loc k (fun _ _ q => z_cons (r64_i _) (z_tl (z_tl q))) (fun _ _ _ _ _ _ _ _ _ _ _ _ _ _ _ C _ _ _ q w => lv_ldiv C.1 C.2.1 hd (z_ne0 (z_hd q) hb) (by rw [← i64_of (i64 a / i64 b)]; exact w))
theorem a_lrem {a b : Int} (hd : decode M.2.2.1 pc = .ok (.lrem, 1)) (hb : b ≠ 0) (k : zAt E d kc ks M (pc + 1) ls (vl (z_lrem a b) :: st) G h P) : zAt E d kc ks M pc ls (vl b :: vl a :: st) G h P :=
  z_loc k (fun _ _ q => z_cons (r64_i _) (z_tl (z_tl q))) (fun _ _ _ _ _ _ _ _ _ _ _ _ _ _ _ C _ _ _ q w => lv_lrem C.1 C.2.1 hd (z_ne0 (z_hd q) hb) (by rw [← i64_of (i64 a - i64 a / i64 b * i64 b)]; exact w))
theorem a_lor {a b : Int} (hd : decode M.2.2.1 pc = .ok (.lor, 1)) (k : zAt E d kc ks M (pc + 1) ls (vl (z_lor a b) :: st) G h P) : zAt E d kc ks M pc ls (vl b :: vl a :: st) G h P :=
  z_loc k (fun _ _ q => z_cons (r64_i _) (z_tl (z_tl q))) (fun _ _ _ _ _ _ _ _ _ _ _ _ _ _ _ C _ _ _ _ w => lv_lor C.1 C.2.1 hd (by rw [← i64_of (i64 a ||| i64 b)]; exact w))
theorem a_lshl {a b : Int} (hd : decode M.2.2.1 pc = .ok (.lshl, 1)) (k : zAt E d kc ks M (pc + 1) ls (vl (z_lshl a b) :: st) G h P) : zAt E d kc ks M pc ls (vi b :: vl a :: st) G h P :=
  z_loc k (fun _ _ q => z_cons (r64_i _) (z_tl (z_tl q))) (fun _ _ _ _ _ _ _ _ _ _ _ _ _ _ _ C _ _ _ _ w => lv_lshl C.1 C.2.1 hd (i64_of _).symm w)
def z_lcmp (a b : Int) : Int := if b < a then 1 else if a = b then 0 else -1
theorem a_lcmp {a b : Int} (hd : decode M.2.2.1 pc = .ok (.lcmp, 1)) (k : zAt E d kc ks M (pc + 1) ls (vi (z_lcmp a b) :: st) G h P) : zAt E d kc ks M pc ls (vl b :: vl a :: st) G h P :=
  z_loc k (fun _ _ q => z_cons (show r32 _ by unfold z_lcmp r32; split; omega; split <;> omega) (z_tl (z_tl q))) (fun _ _ _ _ _ _ _ _ _ _ _ _ _ _ _ C _ _ _ q w => W.lcmp C.1 C.2.1 hd (by
    have e : lg_cmp (i64 a) (i64 b) = i32 (z_lcmp a b) := by
      unfold lg_cmp z_lcmp
      have e1 : (i64 a > i64 b) ↔ b < a := i64_lt (z_hd q) (z_hd (z_tl q))
      have e2 := i64_eq (a := a) (b := b) (z_hd (z_tl q)) (z_hd q)
      simp only [e1, e2]
      split
      · decide +kernel
      · split <;> decide +kernel
    rw [e]; exact w))
theorem a_i2l {a : Int} (hd : decode M.2.2.1 pc = .ok (.i2l, 1)) (k : zAt E d kc ks M (pc + 1) ls (vl a :: st) G h P) : zAt E d kc ks M pc ls (vi a :: st) G h P :=
  z_loc k (fun _ _ q => z_cons (by have := z_hd q; simp only [zok, r32, r64] at *; omega) (z_tl q)) (fun _ _ _ _ _ _ _ _ _ _ _ _ _ _ _ C _ _ _ q w => lv_i2l C.1 C.2.1 hd (i32_l (z_hd q)) w)
theorem a_l2i {a : Int} (hd : decode M.2.2.1 pc = .ok (.l2i, 1)) (k : zAt E d kc ks M (pc + 1) ls (vi (w32 a) :: st) G h P) : zAt E d kc ks M pc ls (vl a :: st) G h P :=
  z_loc k (fun _ _ q => z_cons (r32_w _) (z_tl q)) (fun _ _ _ _ _ _ _ _ _ _ _ _ _ _ _ C _ _ _ q w => lv_l2i C.1 C.2.1 hd (i64_i a) w)
theorem a_i2b {a : Int} (hd : decode M.2.2.1 pc = .ok (.i2b, 1)) (k : zAt E d kc ks M (pc + 1) ls (vi (w8 a) :: st) G h P) : zAt E d kc ks M pc ls (vi a :: st) G h P :=
  z_loc k (fun _ _ q => z_cons (r32_w8 _) (z_tl q)) (fun _ _ _ _ _ _ _ _ _ _ _ _ _ _ _ C _ _ _ q w => lv_i2b C.1 C.2.1 hd (i32_b a) w)
def z_c1 : zV → Bool
  | .inr (.inl _) => false
  | _ => true
theorem z_cat {E : zE} {v : zV} (hv : z_c1 v = true) : (zenc E v).category = 1 := by
  match v, hv with
  | .inl x, _ => rfl
  | .inr (.inr none), _ => rfl
  | .inr (.inr (some k)), _ => rfl
theorem a_dup {v : zV} (hd : decode M.2.2.1 pc = .ok (.dup, 1)) (hv : z_c1 v = true) (k : zAt E d kc ks M (pc + 1) ls (v :: v :: st) G h P) : zAt E d kc ks M pc ls (v :: st) G h P :=
  z_loc k (fun _ _ q => z_cons (z_hd q) q) (fun _ _ _ _ _ _ _ _ _ _ _ _ _ _ _ C _ _ _ q w => lv_dup C.1 C.2.1 hd (z_cat hv) w)
theorem a_dup2 {u v : zV} (hd : decode M.2.2.1 pc = .ok (.dup2, 1)) (hu : z_c1 u = true) (hv : z_c1 v = true) (k : zAt E d kc ks M (pc + 1) ls (u :: v :: u :: v :: st) G h P) : zAt E d kc ks M pc ls (u :: v :: st) G h P :=
  z_loc k (fun _ _ q => z_cons (z_hd q) (z_cons (z_hd (z_tl q)) q)) (fun _ _ _ _ _ _ _ _ _ _ _ _ _ _ _ C _ _ _ q w => lv_dup2_11 C.1 C.2.1 hd (z_cat hu) (z_cat hv) w)
theorem a_pop {v : zV} (hd : decode M.2.2.1 pc = .ok (.pop, 1)) (hv : z_c1 v = true) (k : zAt E d kc ks M (pc + 1) ls st G h P) : zAt E d kc ks M pc ls (v :: st) G h P :=
  z_loc k (fun _ _ q => z_tl q) (fun _ _ _ _ _ _ _ _ _ _ _ _ _ _ _ C _ _ _ q w => lv_pop C.1 C.2.1 hd (z_cat hv) w)
theorem a_goto {off : Int} {tgt : Nat} (hd : decode M.2.2.1 pc = .ok (.goto off, 3)) (ht : (pc : Int) + off = (tgt : Int)) (k : zAt E d kc ks M tgt ls st G h P) : zAt E d kc ks M pc ls st G h P :=
  z_loc k (fun _ _ q => q) (fun _ _ _ _ _ _ _ _ _ _ _ _ _ _ _ C _ _ _ q w => lv_goto C.1 C.2.1 hd ht w)
theorem a_ifnonnull {x : Nat} {off : Int} {tgt : Nat} (hd : decode M.2.2.1 pc = .ok (.ifnonnull off, 3)) (ht : (pc : Int) + off = (tgt : Int)) (k : zAt E d kc ks M tgt ls st G h P) : zAt E d kc ks M pc ls (vo x :: st) G h P :=
  z_loc k (fun _ _ q => z_tl q) (fun _ _ _ _ _ _ _ _ _ _ _ _ _ _ _ C _ _ _ q w => lv_ifnonnull C.1 C.2.1 hd ht w)
end ZL
