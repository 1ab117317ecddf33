/-! rules: Math.min -/
theorem mi_c : Cond.code Lib.Math.min.name Lib.Math.min.code 2 (some .int) ∈ z_tbl := z_mem 493 (by decide +kernel) (by decide +kernel)
theorem mi_s : Cond.static Lib.Math.min.name ∈ z_tbl := z_mem 492 (by decide +kernel) (by decide +kernel)
theorem mj_c : Cond.code Lib.MathLoose.min_long.x Lib.MathLoose.min_long.code 4 (some .long) ∈ z_tbl := z_mem 705 (by decide +kernel) (by decide +kernel)
theorem mj_s : Cond.static Lib.MathLoose.min_long.x ∈ z_tbl := z_mem 704 (by decide +kernel) (by decide +kernel)
theorem mm_i : Cond.initialized "java/lang/Math" ∈ z_tbl := z_mem 96 (by decide +kernel) (by decide +kernel)
theorem ml_X5_17 : Cond.methodLink RX5 17 Lib.Math.min.name ∈ z_tbl := z_mem 491 (by decide +kernel) (by decide +kernel)
theorem ml_X1_141 : Cond.methodLink RX1 141 Lib.Math.min.name ∈ z_tbl := z_mem 822 (by decide +kernel) (by decide +kernel)
theorem ml_X7_98 : Cond.methodLink RX7 98 Lib.MathLoose.min_long.x ∈ z_tbl := z_mem 703 (by decide +kernel) (by decide +kernel)
section ZMN
variable {E : zE} {d kc ks : Nat} {M : zM} {pc : Nat} {ls st : List zV} {G : zG} {h : zS} {P : Option zV → zG → zS → Prop}
theorem a_minI {idx : Nat} {a b : Int} (hd : decode M.2.2.1 pc = .ok (.invokestatic idx, 3)) (hl : Cond.methodLink M.1 idx Lib.Math.min.name ∈ z_tbl) (hd0 : 0 < d) (hs : zcs st ≤ 8) (w : zAt E d kc ks M (pc + 3) ls (vi (if b < a then b else a) :: st) G h P) : zAt E d kc ks M pc ls (vi b :: vi a :: st) G h P := by
  intro p e R s m args below meth c0 C hd1 hl1 H locs cells slots lr h1 h2 h3 h4 h5 h6 h7 Q hq
  have hts := C.2.2.2.2.2.2.2.1
  have hb : r32 b := z_hd h7
  have ha : r32 a := z_hd (z_tl h7)
  refine va_mmin (x := i32 a) (y := i32 b) (rest := st.map (zenc E)) C.1 C.2.1 (by rw [C.2.2.1, h6.2.1]) C.2.2.2.2.2.2.1 (hts _ hl) (hts _ mi_s) (hts _ mm_i) (hts _ mi_c) (Nat.le_trans hd0 hd1) (by rw [zcs_eq]; omega) (by omega) (by omega) hd ?_
  have e1 : (if i32 b < i32 a then i32 b else i32 a) = i32 (if b < a then b else a) := by
    rw [ite_congr (propext (i32_lt hb ha)) (fun _ => rfl) (fun _ => rfl)]; split <;> rfl
  rw [e1]
  exact w p e R s m args below meth c0 C hd1 hl1 H locs cells slots lr h1 h2 h3 h4 h5 h6 (z_cons (show r32 _ by split; exact hb; exact ha) (z_tl (z_tl h7))) Q hq
theorem a_minL {idx : Nat} {a b : Int} (hd : decode M.2.2.1 pc = .ok (.invokestatic idx, 3)) (hl : Cond.methodLink M.1 idx Lib.MathLoose.min_long.x ∈ z_tbl) (hd0 : 0 < d) (hs : zcs st ≤ 8) (w : zAt E d kc ks M (pc + 3) ls (vl (if b < a then b else a) :: st) G h P) : zAt E d kc ks M pc ls (vl b :: vl a :: st) G h P := by
  intro p e R s m args below meth c0 C hd1 hl1 H locs cells slots lr h1 h2 h3 h4 h5 h6 h7 Q hq
  have hts := C.2.2.2.2.2.2.2.1
  have hb : r64 b := z_hd h7
  have ha : r64 a := z_hd (z_tl h7)
  refine va_mmin_long (x := i64 a) (y := i64 b) (rest := st.map (zenc E)) C.1 C.2.1 (by rw [C.2.2.1, h6.2.1]) C.2.2.2.2.2.2.1 (hts _ hl) (hts _ mj_s) (hts _ mm_i) (hts _ mj_c) (Nat.le_trans hd0 hd1) (by rw [zcs_eq]; omega) (by omega) (by omega) hd ?_
  have e1 : (if i64 b < i64 a then i64 b else i64 a) = i64 (if b < a then b else a) := by
    rw [ite_congr (propext (i64_lt hb ha)) (fun _ => rfl) (fun _ => rfl)]; split <;> rfl
  rw [e1]
  exact w p e R s m args below meth c0 C hd1 hl1 H locs cells slots lr h1 h2 h3 h4 h5 h6 (z_cons (show r64 _ by split; exact hb; exact ha) (z_tl (z_tl h7))) Q hq
/-- P of a method's end may be weakened -/
theorem z_post {P' : Option zV → zG → zS → Prop} (w : zAt E d kc ks M pc ls st G h P) (hp : ∀ r G' h', P r G' h' → P' r G' h') : zAt E d kc ks M pc ls st G h P' := by
  intro p e R s m args below meth c0 C hd1 hl1 H locs cells slots lr h1 h2 h3 h4 h5 h6 h7 Q hq
  exact w p e R s m args below meth c0 C hd1 hl1 H locs cells slots lr h1 h2 h3 h4 h5 h6 h7 Q (fun r G' h' hP => hq r G' h' (hp r G' h' hP))
/-- what is known of locals may be forgotten -/
def z_sub : List zV → List zV → Bool
  | [], [] => true
  | .inr (.inr none) :: a, _ :: b => z_sub a b
  | _ :: _, [] => false
  | [], _ :: _ => false
  | _ :: a, _ :: b => z_sub a b
def zLe : List zV → List zV → Prop
  | [], [] => True
  | u :: a, v :: b => (u = vn ∨ u = v) ∧ zLe a b
  | _, _ => False
theorem zLe_at : ∀ (a b : List zV), zLe a b → a.length = b.length ∧ ∀ (i : Nat) (v : zV), a[i]? = some v → v ≠ vn → b[i]? = some v
  | [], [], _ => ⟨rfl, fun i v h _ => by simp at h⟩
  | u :: a, v :: b, h => by
    obtain ⟨q1, q2⟩ := zLe_at a b h.2
    refine ⟨by simp [q1], fun i w hw hn => ?_⟩
    match i, hw with
    | 0, hw =>
      simp at hw
      rcases h.1 with e | e
      · rw [e] at hw; exact absurd hw.symm hn
      · rw [e] at hw; simp [hw]
    | i + 1, hw => simpa using q2 i w (by simpa using hw) hn
  | [], _ :: _, h => h.elim
  | _ :: _, [], h => h.elim
theorem z_forget {ls' : List zV} (hle : zLe ls' ls) (w : zAt E d kc ks M pc ls' st G h P) : zAt E d kc ks M pc ls st G h P := by
  intro p e R s m args below meth c0 C hd1 hl1 H locs cells slots lr h1 h2 h3 h4 h5 h6 h7 Q hq
  obtain ⟨q1, q2⟩ := zLe_at ls' ls hle
  refine w p e R s m args below meth c0 C hd1 hl1 H locs cells slots lr h1 h2 h3 h4 h5 ⟨by rw [q1]; exact h6.1, h6.2.1, h6.2.2.1, fun v hv => ?_, fun i v hi hv => h6.2.2.2.2 i v (q2 i v hi hv) hv⟩ h7 Q hq
  obtain ⟨i, hi⟩ := List.getElem?_of_mem hv
  by_cases hn : v = vn
  · rw [hn]; trivial
  · exact h6.2.2.2.1 v (List.mem_of_getElem? (q2 i v hi hn))
/-- another table of cells that says the same -/
theorem z_regard {G2 : zG} (hN : gN G2 = gN G) (hs : ∀ k, k < gN G → G2.2.1 k = G.2.1 k) (hf : ∀ k, k < gN G → ∀ j, gF G2 k j = gF G k j) (w : zAt E d kc ks M pc ls st G2 h P) : zAt E d kc ks M pc ls st G h P := by
  intro p e R s m args below meth c0 C hd1 hl1 H locs cells slots lr h1 h2 h3 h4 h5 h6 h7 Q hq
  have ew : zws E G2 h = zws E G h := by
    unfold zws; rw [hN]
    exact z_mapcongr (fun i hi => by rw [zcell_congr (hs i hi) (hf i hi) (fun _ => rfl) (fun _ => rfl) (fun _ => rfl)])
  exact w p e R s m args below meth c0 C hd1 hl1 H locs cells slots lr h1 h2 (by rw [hN]; exact h3) ⟨by rw [ew]; exact h4.1, h4.2.1, by rw [hN]; exact h4.2.2⟩ h5 h6 h7 Q hq
end ZMN
