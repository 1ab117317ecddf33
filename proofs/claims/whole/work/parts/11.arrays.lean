/-! rules: arrays -/
theorem zcell_0 {E : zE} {G : zG} {h : zS} {k : Nat} (hk : gK G k = 0) : zcell E G h k = .inl (ecy E 0, gLn G k, .inl (fun i => i32 (hI h k i))) := by unfold zcell; rw [hk]
theorem zcell_1 {E : zE} {G : zG} {h : zS} {k : Nat} (hk : gK G k = 1) : zcell E G h k = .inl (ecy E 1, gLn G k, .inl (fun i => i32 (hI h k i))) := by unfold zcell; rw [hk]
theorem zcell_2 {E : zE} {G : zG} {h : zS} {k : Nat} (hk : gK G k = 2) : zcell E G h k = .inl (ecy E 2, gLn G k, .inl (fun i => i32 (hI h k i))) := by unfold zcell; rw [hk]
theorem zcell_3 {E : zE} {G : zG} {h : zS} {k : Nat} (hk : gK G k = 3) : zcell E G h k = .inl (ecy E 3, gLn G k, .inr (.inl (fun i => i64 (hL h k i)))) := by unfold zcell; rw [hk]
theorem zcell_4 {E : zE} {G : zG} {h : zS} {k : Nat} (hk : gK G k = 4) : zcell E G h k = .inl (ecy E 4, gLn G k, .inr (.inr (.inr (.inr (fun i => (hR h k i).map (zad E)))))) := by unfold zcell; rw [hk]
theorem z_ea {E : zE} {G : zG} {h : zS} {H : Heap} {k : Nat} (hk : k < gN G) (hP : zHp E G h H) : zenc E (vo k) = .ref (eB E + k) := by show Value.ref (zad E k) = _; rw [zad_k hk hP.2.2]
section ZA
variable {E : zE} {d kc ks : Nat} {M : zM} {pc : Nat} {ls st : List zV} {G : zG} {h : zS} {P : Option zV → zG → zS → Prop}
theorem a_iaload {k n : Nat} {i : Int} (hd : decode M.2.2.1 pc = .ok (.iaload, 1)) (hk : zArr G k 0 n) (hi : 0 ≤ i ∧ i < n) (w : zAt E d kc ks M (pc + 1) ls (vi (hI h k i.toNat) :: st) G h P) : zAt E d kc ks M pc ls (vi i :: vo k :: st) G h P :=
  z_loc w (fun _ q q2 => z_cons (q.1 _ _) (z_tl (z_tl q2))) (fun _ _ _ _ _ _ _ _ _ _ _ _ _ _ _ C hP hS L q w => by
    have hri : r32 i := z_hd q
    show W _ _ _ _ _ _ _ _ _ _ _ _ _ _ _ (F0 _ _ _ (zenc E (vi i) :: zenc E (vo k) :: _))
    rw [z_ea hk.1 hP]
    refine va_iald (D := E.2.1) (cl := vwCl) (ws := zws E G h) (tys := z_tys E) C.1 C.2.1 C.2.2.2.2.2.2.2.2.1 hP.1 k 0 (by rw [zws_get hk.1, zcell_0 hk.2.1]) rfl (i := i32 i) (by rw [hk.2.2]; exact z_in_of hri hi.1 hi.2) hd ?_
    rw [i32_c hri]; exact w)
theorem a_baload {k n : Nat} {i : Int} (hd : decode M.2.2.1 pc = .ok (.baload, 1)) (hk : zArr G k 1 n) (hi : 0 ≤ i ∧ i < n) (w : zAt E d kc ks M (pc + 1) ls (vi (hI h k i.toNat) :: st) G h P) : zAt E d kc ks M pc ls (vi i :: vo k :: st) G h P :=
  z_loc w (fun _ q q2 => z_cons (q.1 _ _) (z_tl (z_tl q2))) (fun _ _ _ _ _ _ _ _ _ _ _ _ _ _ _ C hP hS L q w => by
    have hri : r32 i := z_hd q
    show W _ _ _ _ _ _ _ _ _ _ _ _ _ _ _ (F0 _ _ _ (zenc E (vi i) :: zenc E (vo k) :: _))
    rw [z_ea hk.1 hP]
    refine va_bald (D := E.2.1) (cl := vwCl) (ws := zws E G h) (tys := z_tys E) C.1 C.2.1 C.2.2.2.2.2.2.2.2.1 hP.1 k 1 (by rw [zws_get hk.1, zcell_1 hk.2.1]) rfl (i := i32 i) (by rw [hk.2.2]; exact z_in_of hri hi.1 hi.2) hd ?_
    rw [i32_c hri]; exact w)
theorem a_zaload {k n : Nat} {i : Int} (hd : decode M.2.2.1 pc = .ok (.baload, 1)) (hk : zArr G k 2 n) (hi : 0 ≤ i ∧ i < n) (w : zAt E d kc ks M (pc + 1) ls (vi (hI h k i.toNat) :: st) G h P) : zAt E d kc ks M pc ls (vi i :: vo k :: st) G h P :=
  z_loc w (fun _ q q2 => z_cons (q.1 _ _) (z_tl (z_tl q2))) (fun _ _ _ _ _ _ _ _ _ _ _ _ _ _ _ C hP hS L q w => by
    have hri : r32 i := z_hd q
    show W _ _ _ _ _ _ _ _ _ _ _ _ _ _ _ (F0 _ _ _ (zenc E (vi i) :: zenc E (vo k) :: _))
    rw [z_ea hk.1 hP]
    refine va_zald (D := E.2.1) (cl := vwCl) (ws := zws E G h) (tys := z_tys E) C.1 C.2.1 C.2.2.2.2.2.2.2.2.1 hP.1 k 2 (by rw [zws_get hk.1, zcell_2 hk.2.1]) rfl (i := i32 i) (by rw [hk.2.2]; exact z_in_of hri hi.1 hi.2) hd ?_
    rw [i32_c hri]; exact w)
theorem a_laload {k n : Nat} {i : Int} (hd : decode M.2.2.1 pc = .ok (.laload, 1)) (hk : zArr G k 3 n) (hi : 0 ≤ i ∧ i < n) (w : zAt E d kc ks M (pc + 1) ls (vl (hL h k i.toNat) :: st) G h P) : zAt E d kc ks M pc ls (vi i :: vo k :: st) G h P :=
  z_loc w (fun _ q q2 => z_cons (q.2 _ _) (z_tl (z_tl q2))) (fun _ _ _ _ _ _ _ _ _ _ _ _ _ _ _ C hP hS L q w => by
    have hri : r32 i := z_hd q
    show W _ _ _ _ _ _ _ _ _ _ _ _ _ _ _ (F0 _ _ _ (zenc E (vi i) :: zenc E (vo k) :: _))
    rw [z_ea hk.1 hP]
    refine va_lald (D := E.2.1) (cl := vwCl) (ws := zws E G h) (tys := z_tys E) C.1 C.2.1 C.2.2.2.2.2.2.2.2.1 hP.1 k 3 (by rw [zws_get hk.1, zcell_3 hk.2.1]) rfl (i := i32 i) (by rw [hk.2.2]; exact z_in_of hri hi.1 hi.2) hd ?_
    rw [i32_c hri]; exact w)
theorem a_aaload {k n q : Nat} {i : Int} (hd : decode M.2.2.1 pc = .ok (.aaload, 1)) (hk : zArr G k 4 n) (hi : 0 ≤ i ∧ i < n) (hq : hR h k i.toNat = some q) (w : zAt E d kc ks M (pc + 1) ls (vo q :: st) G h P) : zAt E d kc ks M pc ls (vi i :: vo k :: st) G h P :=
  z_loc w (fun _ q q2 => z_cons trivial (z_tl (z_tl q2))) (fun _ _ _ _ _ _ _ _ _ _ _ _ _ _ _ C hP hS L q w => by
    have hri : r32 i := z_hd q
    show W _ _ _ _ _ _ _ _ _ _ _ _ _ _ _ (F0 _ _ _ (zenc E (vi i) :: zenc E (vo k) :: _))
    rw [z_ea hk.1 hP]
    refine va_aldq (D := E.2.1) (cl := vwCl) (ws := zws E G h) (tys := z_tys E) C.1 C.2.1 C.2.2.2.2.2.2.2.2.1 hP.1 k 4 (by rw [zws_get hk.1, zcell_4 hk.2.1]) rfl (i := i32 i) (by rw [hk.2.2]; exact z_in_of hri hi.1 hi.2) hd ?_
    rw [i32_c hri, hq]; exact w)
theorem a_sload {i : Int} (hd : decode M.2.2.1 pc = .ok (.iaload, 1)) (hi : 0 ≤ i ∧ i < (en E : Int)) (w : zAt E d kc ks M (pc + 1) ls (vi (eX E i.toNat).toInt :: st) G h P) : zAt E d kc ks M pc ls (vi i :: vo 1000000 :: st) G h P :=
  z_loc w (fun _ q q2 => z_cons (r32_i _) (z_tl (z_tl q2))) (fun _ _ _ _ _ _ _ _ _ _ _ _ _ _ _ C hP hS L q w => by
    have hri : r32 i := z_hd q
    have hF := C.2.2.2.2.2.2.2.2
    refine va_sld (b := eb E) (L := en E) (xs := eX E) C.1 C.2.1 hF.2.2.1 (Nat.lt_of_lt_of_le hF.2.2.2.1 hF.2.2.2.2.2.2.2) (show ¬ eB E ≤ eb E from Nat.not_le.mpr hF.2.2.2.1) hS (i := i32 i) (z_in_of hri hi.1 hi.2) hd ?_
    rw [i32_c hri, ← i32_of (eX E i.toNat)]; exact w)
theorem z_ofNat (n : Nat) : Int32.ofNat n = i32 n := by unfold i32; rw [Int32.ofInt_eq_ofNat]
theorem a_slen (hd : decode M.2.2.1 pc = .ok (.arraylength, 1)) (hn : en E < 2147483648) (w : zAt E d kc ks M (pc + 1) ls (vi (en E) :: st) G h P) : zAt E d kc ks M pc ls (vo 1000000 :: st) G h P :=
  z_loc w (fun _ q q2 => z_cons (show r32 _ by unfold r32; omega) (z_tl q2)) (fun _ _ _ _ _ _ _ _ _ _ _ _ _ _ _ C hP hS L q w => by
    have hF := C.2.2.2.2.2.2.2.2
    refine va_slen (b := eb E) (L := en E) (xs := eX E) C.1 C.2.1 hF.2.2.1 (Nat.lt_of_lt_of_le hF.2.2.2.1 hF.2.2.2.2.2.2.2) (show ¬ eB E ≤ eb E from Nat.not_le.mpr hF.2.2.2.1) hS hd ?_
    rw [z_ofNat]; exact w)
theorem a_getstatic {idx : Nat} (hd : decode M.2.2.1 pc = .ok (.getstatic idx, 3)) (hl : Cond.fieldLink M.1 idx "ChalkChain$Lexer" "OWN_WORDS" "[J" ∈ z_tbl) (w : zAt E d kc ks M (pc + 3) ls (vo 1000001 :: st) G h P) : zAt E d kc ks M pc ls st G h P :=
  z_loc w (fun _ q q2 => z_cons trivial q2) (fun _ _ _ _ _ _ _ _ _ _ _ _ _ _ _ C hP hS L q w => by
    have hF := C.2.2.2.2.2.2.2.2
    exact va_gets C.1 C.2.1 hF.2.2.2.2.1 hS C.2.2.2.2.2.2.1 (C.2.2.2.2.2.2.2.1 _ hl) (fun _ q => q) hd w)
theorem a_oload {i : Int} (hd : decode M.2.2.1 pc = .ok (.laload, 1)) (hi : 0 ≤ i ∧ i < 13) (w : zAt E d kc ks M (pc + 1) ls (vl (z_own.getD i.toNat 0) :: st) G h P) : zAt E d kc ks M pc ls (vi i :: vo 1000001 :: st) G h P :=
  z_loc w (fun _ q q2 => z_cons (by
      show r64 _
      have : ∀ j : Fin 13, (-9223372036854775808 ≤ z_own.getD j.val 0 ∧ z_own.getD j.val 0 < 9223372036854775808) := by decide +kernel
      exact this ⟨i.toNat, by omega⟩) (z_tl (z_tl q2))) (fun _ _ _ _ _ _ _ _ _ _ _ _ _ _ _ C hP hS L q w => by
    have hri : r32 i := z_hd q
    have hF := C.2.2.2.2.2.2.2.2
    exact va_tl (t := eo E) (N := 13) C.1 C.2.1 hF.2.2.2.2.2.1 hS (i := i32 i) (z_in_of hri hi.1 (by omega)) (by rw [i32_c hri]; rfl) hd w)
theorem a_olen (hd : decode M.2.2.1 pc = .ok (.arraylength, 1)) (w : zAt E d kc ks M (pc + 1) ls (vi 13 :: st) G h P) : zAt E d kc ks M pc ls (vo 1000001 :: st) G h P :=
  z_loc w (fun _ q q2 => z_cons (show r32 _ by unfold r32; omega) (z_tl q2)) (fun _ _ _ _ _ _ _ _ _ _ _ _ _ _ _ C hP hS L q w => by
    have hF := C.2.2.2.2.2.2.2.2
    exact va_tlen (t := eo E) (N := 13) C.1 C.2.1 hF.2.2.2.2.2.1 hS (z_ofNat 13) hd w)
theorem a_alen {k kd n : Nat} (hd : decode M.2.2.1 pc = .ok (.arraylength, 1)) (hk : zArr G k kd n) (hkd : kd < 5) (hn : n < 2147483648) (w : zAt E d kc ks M (pc + 1) ls (vi (n : Int) :: st) G h P) : zAt E d kc ks M pc ls (vo k :: st) G h P :=
  z_loc w (fun _ q q2 => z_cons (show r32 _ by unfold r32; omega) (z_tl q2)) (fun _ _ _ _ _ _ _ _ _ _ _ _ _ _ _ C hP hS L q w => by
    show W _ _ _ _ _ _ _ _ _ _ _ _ _ _ _ (F0 _ _ _ (zenc E (vo k) :: _))
    rw [z_ea hk.1 hP]
    have hK := C.2.2.2.2.2.2.2.2.1
    have hg := hk.2.1
    match kd, hkd, hg with
    | 0, _, hg => exact va_alen (D := E.2.1) (cl := vwCl) (ws := zws E G h) (tys := z_tys E) C.1 C.2.1 hK hP.1 k 0 (by rw [zws_get hk.1, zcell_0 hg]) rfl (by rw [hk.2.2]; exact z_ofNat n) hd w
    | 1, _, hg => exact va_alen (D := E.2.1) (cl := vwCl) (ws := zws E G h) (tys := z_tys E) C.1 C.2.1 hK hP.1 k 1 (by rw [zws_get hk.1, zcell_1 hg]) rfl (by rw [hk.2.2]; exact z_ofNat n) hd w
    | 2, _, hg => exact va_alen (D := E.2.1) (cl := vwCl) (ws := zws E G h) (tys := z_tys E) C.1 C.2.1 hK hP.1 k 2 (by rw [zws_get hk.1, zcell_2 hg]) rfl (by rw [hk.2.2]; exact z_ofNat n) hd w
    | 3, _, hg => exact va_alen (D := E.2.1) (cl := vwCl) (ws := zws E G h) (tys := z_tys E) C.1 C.2.1 hK hP.1 k 3 (by rw [zws_get hk.1, zcell_3 hg]) rfl (by rw [hk.2.2]; exact z_ofNat n) hd w
    | 4, _, hg => exact va_alen (D := E.2.1) (cl := vwCl) (ws := zws E G h) (tys := z_tys E) C.1 C.2.1 hK hP.1 k 4 (by rw [zws_get hk.1, zcell_4 hg]) rfl (by rw [hk.2.2]; exact z_ofNat n) hd w)
theorem z_updI {E : zE} {h : zS} {k i : Nat} {x : Int} : (fun j => i32 (hI (stI h k i x) k j)) = upd (fun j => i32 (hI h k j)) i (i32 x) := by
  funext j
  unfold upd
  rw [hI_stI]
  by_cases e : j = i
  · simp [e]
  · simp [e]
theorem a_iastore {k n : Nat} {i x : Int} (hd : decode M.2.2.1 pc = .ok (.iastore, 1)) (hk : zArr G k 0 n) (hi : 0 ≤ i ∧ i < n) (w : zAt E d kc ks M (pc + 1) ls st G (stI h k i.toNat x) P) : zAt E d kc ks M pc ls (vi x :: vi i :: vo k :: st) G h P := by
  intro p e R s m args below meth c0 C hd1 hl1 H locs cells slots lr h1 h2 h3 h4 h5 h6 h7 Q hq
  have hri : r32 i := z_hd (z_tl h7)
  show W _ _ _ _ _ _ _ _ _ _ _ _ _ _ _ (F0 _ _ _ (zenc E (vi x) :: zenc E (vi i) :: zenc E (vo k) :: _))
  rw [z_ea hk.1 h4]
  refine va_iast (D := E.2.1) (cl := vwCl) (ws := zws E G h) (tys := z_tys E) C.1 C.2.1 C.2.2.2.2.2.2.2.2.1 h4.1 (zwsD E G h) h5 k 0 (by rw [zws_get hk.1, zcell_0 hk.2.1]) rfl (i := i32 i) (x := i32 x) (by rw [hk.2.2]; exact z_in_of hri hi.1 hi.2) hd (fun H1 locs1 g1 g2 g3 => ?_)
  rw [zws_set (G' := G) (h' := stI h k i.toNat x) rfl (by rw [zcell_0 hk.2.1, z_updI (E := E), i32_c hri]) (fun j _ hj => z_noI hj)] at g1
  exact w p e R s m args below meth c0 C hd1 hl1 H1 locs1 cells slots lr h1 h2 h3 ⟨g1, zokH_I h4.2.1 (z_hd h7), h4.2.2⟩ g3 h6 (z_tl (z_tl (z_tl h7))) Q hq
theorem a_bastore {k n : Nat} {i x : Int} (hd : decode M.2.2.1 pc = .ok (.bastore, 1)) (hk : zArr G k 1 n) (hi : 0 ≤ i ∧ i < n) (w : zAt E d kc ks M (pc + 1) ls st G (stI h k i.toNat (w8 x)) P) : zAt E d kc ks M pc ls (vi x :: vi i :: vo k :: st) G h P := by
  intro p e R s m args below meth c0 C hd1 hl1 H locs cells slots lr h1 h2 h3 h4 h5 h6 h7 Q hq
  have hri : r32 i := z_hd (z_tl h7)
  show W _ _ _ _ _ _ _ _ _ _ _ _ _ _ _ (F0 _ _ _ (zenc E (vi x) :: zenc E (vi i) :: zenc E (vo k) :: _))
  rw [z_ea hk.1 h4]
  refine va_bast (D := E.2.1) (cl := vwCl) (ws := zws E G h) (tys := z_tys E) C.1 C.2.1 C.2.2.2.2.2.2.2.2.1 h4.1 (zwsD E G h) h5 k 1 (by rw [zws_get hk.1, zcell_1 hk.2.1]) rfl (i := i32 i) (x := i32 x) (by rw [hk.2.2]; exact z_in_of hri hi.1 hi.2) hd (fun H1 locs1 g1 g2 g3 => ?_)
  rw [zws_set (G' := G) (h' := stI h k i.toNat (w8 x)) rfl (by rw [zcell_1 hk.2.1, z_updI (E := E), i32_c hri, vp_nar_byte, i32_b]) (fun j _ hj => z_noI hj)] at g1
  exact w p e R s m args below meth c0 C hd1 hl1 H1 locs1 cells slots lr h1 h2 h3 ⟨g1, zokH_I h4.2.1 (r32_w8 _), h4.2.2⟩ g3 h6 (z_tl (z_tl (z_tl h7))) Q hq
theorem a_zastore {k n : Nat} {i x : Int} (hd : decode M.2.2.1 pc = .ok (.bastore, 1)) (hk : zArr G k 2 n) (hi : 0 ≤ i ∧ i < n) (hx : x = 0 ∨ x = 1) (w : zAt E d kc ks M (pc + 1) ls st G (stI h k i.toNat x) P) : zAt E d kc ks M pc ls (vi x :: vi i :: vo k :: st) G h P := by
  intro p e R s m args below meth c0 C hd1 hl1 H locs cells slots lr h1 h2 h3 h4 h5 h6 h7 Q hq
  have hri : r32 i := z_hd (z_tl h7)
  have hnx : vp_nar .boolean (i32 x) = i32 x := by rcases hx with hx | hx <;> subst hx <;> decide +kernel
  show W _ _ _ _ _ _ _ _ _ _ _ _ _ _ _ (F0 _ _ _ (zenc E (vi x) :: zenc E (vi i) :: zenc E (vo k) :: _))
  rw [z_ea hk.1 h4]
  refine va_zast (D := E.2.1) (cl := vwCl) (ws := zws E G h) (tys := z_tys E) C.1 C.2.1 C.2.2.2.2.2.2.2.2.1 h4.1 (zwsD E G h) h5 k 2 (by rw [zws_get hk.1, zcell_2 hk.2.1]) rfl (i := i32 i) (x := i32 x) (by rw [hk.2.2]; exact z_in_of hri hi.1 hi.2) hd (fun H1 locs1 g1 g2 g3 => ?_)
  rw [zws_set (G' := G) (h' := stI h k i.toNat x) rfl (by rw [zcell_2 hk.2.1, z_updI (E := E), i32_c hri, hnx]) (fun j _ hj => z_noI hj)] at g1
  exact w p e R s m args below meth c0 C hd1 hl1 H1 locs1 cells slots lr h1 h2 h3 ⟨g1, zokH_I h4.2.1 (z_hd h7), h4.2.2⟩ g3 h6 (z_tl (z_tl (z_tl h7))) Q hq
theorem a_lastore {k n : Nat} {i x : Int} (hd : decode M.2.2.1 pc = .ok (.lastore, 1)) (hk : zArr G k 3 n) (hi : 0 ≤ i ∧ i < n) (w : zAt E d kc ks M (pc + 1) ls st G (stL h k i.toNat x) P) : zAt E d kc ks M pc ls (vl x :: vi i :: vo k :: st) G h P := by
  intro p e R s m args below meth c0 C hd1 hl1 H locs cells slots lr h1 h2 h3 h4 h5 h6 h7 Q hq
  have hri : r32 i := z_hd (z_tl h7)
  show W _ _ _ _ _ _ _ _ _ _ _ _ _ _ _ (F0 _ _ _ (zenc E (vl x) :: zenc E (vi i) :: zenc E (vo k) :: _))
  rw [z_ea hk.1 h4]
  refine va_last (D := E.2.1) (cl := vwCl) (ws := zws E G h) (tys := z_tys E) C.1 C.2.1 C.2.2.2.2.2.2.2.2.1 h4.1 (zwsD E G h) h5 k 3 (by rw [zws_get hk.1, zcell_3 hk.2.1]) rfl (i := i32 i) (x := i64 x) (by rw [hk.2.2]; exact z_in_of hri hi.1 hi.2) hd (fun H1 locs1 g1 g2 g3 => ?_)
  rw [zws_set (G' := G) (h' := stL h k i.toNat x) rfl (by
    rw [zcell_3 hk.2.1, i32_c hri]; congr 5; funext j; unfold vp_updL; rw [hL_stL]
    by_cases e : j = i.toNat <;> simp [e]) (fun j _ hj => z_noL hj)] at g1
  exact w p e R s m args below meth c0 C hd1 hl1 H1 locs1 cells slots lr h1 h2 h3 ⟨g1, zokH_L h4.2.1 (z_hd h7), h4.2.2⟩ g3 h6 (z_tl (z_tl (z_tl h7))) Q hq
theorem a_aastore {k n q : Nat} {i : Int} (hd : decode M.2.2.1 pc = .ok (.aastore, 1)) (hk : zArr G k 4 n) (hi : 0 ≤ i ∧ i < n) (hq1 : zObj G q 1) (w : zAt E d kc ks M (pc + 1) ls st G (stR h k i.toNat (some q)) P) : zAt E d kc ks M pc ls (vo q :: vi i :: vo k :: st) G h P := by
  intro p e R s m args below meth c0 C hd1 hl1 H locs cells slots lr h1 h2 h3 h4 h5 h6 h7 Q hq
  have hri : r32 i := z_hd (z_tl h7)
  show W _ _ _ _ _ _ _ _ _ _ _ _ _ _ _ (F0 _ _ _ (zenc E (vo q) :: zenc E (vi i) :: zenc E (vo k) :: _))
  rw [z_ea hk.1 h4, z_ea hq1.1 h4]
  refine va_astq (D := E.2.1) (cl := vwCl) (ws := zws E G h) (tys := z_tys E) C.1 C.2.1 C.2.2.2.2.2.2.2.2.1 h4.1 (zwsD E G h) h5 k 4 q 1 (r := zC 1) (by rw [zws_get hk.1, zcell_4 hk.2.1]) rfl (by rw [zws_get hq1.1, zcell_o hq1.2.1]) (zC_at (by omega)) (i := i32 i) (by rw [hk.2.2]; exact z_in_of hri hi.1 hi.2) hd (fun H1 locs1 g1 g2 g3 => ?_)
  rw [zws_set (G' := G) (h' := stR h k i.toNat (some q)) rfl (by
    rw [zcell_4 hk.2.1, i32_c hri]; congr 8; funext j; unfold va_up; rw [hR_stR]
    by_cases e : j = i.toNat
    · simp only [e, and_self, if_true]; show some (zad E q) = _; rw [zad_k hq1.1 h4.2.2]
    · simp [e]) (fun j _ hj => z_noR hj)] at g1
  exact w p e R s m args below meth c0 C hd1 hl1 H1 locs1 cells slots lr h1 h2 h3 ⟨g1, h4.2.1, h4.2.2⟩ g3 h6 (z_tl (z_tl (z_tl h7))) Q hq
end ZA
