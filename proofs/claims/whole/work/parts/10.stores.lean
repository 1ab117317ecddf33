/-! rules: stores, arrays, new cells -/
theorem zokH_I {h : zS} {k i : Nat} {x : Int} (q : zokH h) (hx : r32 x) : zokH (stI h k i x) := by
  refine ⟨fun k' i' => ?_, q.2⟩
  show r32 (if k' = k ∧ i' = i then x else hI h k' i')
  split
  · exact hx
  · exact q.1 k' i'
theorem zokH_L {h : zS} {k i : Nat} {x : Int} (q : zokH h) (hx : r64 x) : zokH (stL h k i x) := by
  refine ⟨q.1, fun k' i' => ?_⟩
  show r64 (if k' = k ∧ i' = i then x else hL h k' i')
  split
  · exact hx
  · exact q.2 k' i'
theorem hI_stI (h : zS) (k i k' i' : Nat) (x : Int) : hI (stI h k i x) k' i' = if k' = k ∧ i' = i then x else hI h k' i' := rfl
theorem hL_stI (h : zS) (k i : Nat) (x : Int) : hL (stI h k i x) = hL h := rfl
theorem hR_stI (h : zS) (k i : Nat) (x : Int) : hR (stI h k i x) = hR h := rfl
theorem hL_stL (h : zS) (k i k' i' : Nat) (x : Int) : hL (stL h k i x) k' i' = if k' = k ∧ i' = i then x else hL h k' i' := rfl
theorem hI_stL (h : zS) (k i : Nat) (x : Int) : hI (stL h k i x) = hI h := rfl
theorem hR_stL (h : zS) (k i : Nat) (x : Int) : hR (stL h k i x) = hR h := rfl
theorem hR_stR (h : zS) (k i k' i' : Nat) (x : Option Nat) : hR (stR h k i x) k' i' = if k' = k ∧ i' = i then x else hR h k' i' := rfl
theorem hI_stR (h : zS) (k i : Nat) (x : Option Nat) : hI (stR h k i x) = hI h := rfl
theorem hL_stR (h : zS) (k i : Nat) (x : Option Nat) : hL (stR h k i x) = hL h := rfl
theorem z_noI {E : zE} {G : zG} {h : zS} {k i : Nat} {x : Int} {j : Nat} (hj : j ≠ k) : zcell E G (stI h k i x) j = zcell E G h j :=
  zcell_congr rfl (fun _ => rfl) (fun _ => by rw [hI_stI, if_neg (fun e => hj e.1)]) (fun _ => rfl) (fun _ => rfl)
theorem z_noL {E : zE} {G : zG} {h : zS} {k i : Nat} {x : Int} {j : Nat} (hj : j ≠ k) : zcell E G (stL h k i x) j = zcell E G h j :=
  zcell_congr rfl (fun _ => rfl) (fun _ => rfl) (fun _ => by rw [hL_stL, if_neg (fun e => hj e.1)]) (fun _ => rfl)
theorem z_noR {E : zE} {G : zG} {h : zS} {k i : Nat} {x : Option Nat} {j : Nat} (hj : j ≠ k) : zcell E G (stR h k i x) j = zcell E G h j :=
  zcell_congr rfl (fun _ => rfl) (fun _ => rfl) (fun _ => rfl) (fun _ => by rw [hR_stR, if_neg (fun e => hj e.1)])
theorem z_noF {E : zE} {G : zG} {h : zS} {k i : Nat} {x : Option Nat} {j : Nat} (hj : j ≠ k) : zcell E (stF G k i x) h j = zcell E G h j :=
  zcell_congr rfl (fun _ => by show (if _ then _ else _) = _; rw [if_neg (fun e => hj e.1)]) (fun _ => rfl) (fun _ => rfl) (fun _ => rfl)
theorem z_in_of {i : Int} {n : Nat} (hi : r32 i) (h1 : 0 ≤ i) (h2 : i < n) : vp_in (i32 i) n := by
  unfold vp_in
  rw [i32_c hi, i32_0, i32_lt hi r32_0]
  omega
theorem z_boolOK {E : zE} {x : Int} (hx : x = 0 ∨ x = 1) : narrow .boolean (zenc E (vi x)) = zenc E (vi x) ∧ fits .boolean (zenc E (vi x)) = true := by
  show narrow .boolean (.int (i32 x)) = .int (i32 x) ∧ fits .boolean (.int (i32 x)) = true
  rcases hx with hx | hx <;> subst hx <;> decide +kernel
section ZS1
variable {E : zE} {d kc ks : Nat} {M : zM} {pc : Nat} {ls st : List zV} {G : zG} {h : zS} {P : Option zV → zG → zS → Prop}
theorem z_put {idx c j k : Nat} {v : zV} {h' : zS} (w : zAt E d kc ks M (pc + 3) ls st G h' P) (hd : decode M.2.2.1 pc = .ok (.putfield idx, 3)) (hk : zObj G k c) (hl : zlk M.1 idx c j) (hfin : ((zC c).2.1 j).2.2.2 = false) (hn : zok v → narrow (zty c j) (zenc E v) = zenc E v ∧ fits (zty c j) (zenc E v) = true)
    (hv : ∀ i, i < (zC c).2.2 → zfld E G h' c k i = if i = j then zenc E v else zfld E G h c k i) (ho : ∀ i, i ≠ k → zcell E G h' i = zcell E G h i) (hok : zok v → zokH h → zokH h') : zAt E d kc ks M pc ls (v :: vo k :: st) G h P := by
  intro p e R s m args below meth c0 C hd1 hl1 H locs cells slots lr h1 h2 h3 h4 h5 h6 h7 Q hq
  have ea : zenc E (vo k) = .ref (eB E + k) := by show Value.ref (zad E k) = _; rw [zad_k hk.1 h4.2.2]
  show W _ _ _ _ _ _ _ _ _ _ _ _ _ _ _ (F0 _ _ _ (zenc E v :: zenc E (vo k) :: _))
  rw [ea]
  have hvk := z_hd h7
  have hN := hn hvk
  refine va_put (D := E.2.1) (cl := vwCl) (ws := zws E G h) (C := (zC c).1) (T := (zC c).2.1) (N := (zC c).2.2) (ci := c) (v := zenc E v) (own := M.1) (ref := ((zC c).2.1 j).1) C.1 C.2.1 C.2.2.2.2.2.2.2.1 (z_in c hk.2.2) (zty c) (z_tyok c hk.2.2) (z_nm c hk.2.2) C.2.2.2.2.2.2.1 C.2.2.2.2.2.2.2.2.1 h4.1 (zwsD E G h) h5 k (by rw [zws_get hk.1, zcell_o hk.2.1]) (zC_at hk.2.2) j hl.2 (C.2.2.2.2.2.2.2.1 _ hl.1) (fun _ q => q) hfin (z_tyok c hk.2.2 j hl.2) hN.1 hN.2 (by rw [List.length_map, List.length_range]; exact hl.2) hd (fun H1 locs1 g1 g2 g3 => ?_)
  rw [zws_set (G' := G) (h' := h') rfl (by rw [zcell_o hk.2.1, z_mapset]; congr 2; exact z_mapcongr (fun i hi => hv i hi)) (fun i _ hi => ho i hi)] at g1
  exact w p e R s m args below meth c0 C hd1 hl1 H1 locs1 cells slots lr h1 h2 h3 ⟨g1, hok hvk h4.2.1, h4.2.2⟩ g3 h6 (z_tl (z_tl h7)) Q hq
theorem a_putI {idx c j k : Nat} {x : Int} (hd : decode M.2.2.1 pc = .ok (.putfield idx, 3)) (hl : zlkI M.1 idx c j) (hk : zObj G k c) (w : zAt E d kc ks M (pc + 3) ls st G (stI h k j x) P) : zAt E d kc ks M pc ls (vi x :: vo k :: st) G h P :=
  z_put w hd hk hl.1 hl.2.2.1 (fun _ => by rw [hl.2.2.2]; exact ⟨rfl, rfl⟩) (fun i _ => by
    unfold zfld
    by_cases e : i = j
    · subst e; rw [if_pos rfl, hl.2.1, hI_stI]; simp [zenc]
    · rw [if_neg e]; simp only [hI_stI, e, and_false, if_false]; rfl) (fun i hi => z_noI hi) (fun q1 q2 => zokH_I q2 q1)
theorem a_putZ {idx c j k : Nat} {x : Int} (hd : decode M.2.2.1 pc = .ok (.putfield idx, 3)) (hl : zlkZ M.1 idx c j) (hk : zObj G k c) (hx : x = 0 ∨ x = 1) (w : zAt E d kc ks M (pc + 3) ls st G (stI h k j x) P) : zAt E d kc ks M pc ls (vi x :: vo k :: st) G h P :=
  z_put w hd hk hl.1 hl.2.2.1 (fun _ => by rw [hl.2.2.2]; exact z_boolOK hx) (fun i _ => by
    unfold zfld
    by_cases e : i = j
    · subst e; rw [if_pos rfl, hl.2.1, hI_stI]; simp [zenc]
    · rw [if_neg e]; simp only [hI_stI, e, and_false, if_false]; rfl) (fun i hi => z_noI hi) (fun q1 q2 => zokH_I q2 q1)
theorem a_putL {idx c j k : Nat} {x : Int} (hd : decode M.2.2.1 pc = .ok (.putfield idx, 3)) (hl : zlkL M.1 idx c j) (hk : zObj G k c) (w : zAt E d kc ks M (pc + 3) ls st G (stL h k j x) P) : zAt E d kc ks M pc ls (vl x :: vo k :: st) G h P :=
  z_put w hd hk hl.1 hl.2.2.1 (fun _ => by rw [hl.2.2.2]; exact ⟨rfl, rfl⟩) (fun i _ => by
    unfold zfld
    by_cases e : i = j
    · subst e; rw [if_pos rfl, hl.2.1, hL_stL]; simp [zenc]
    · rw [if_neg e]; simp only [hL_stL, e, and_false, if_false]; rfl) (fun i hi => z_noL hi) (fun q1 q2 => zokH_L q2 q1)
theorem z_refOK {E : zE} {ty : FieldType} {q : Nat} (h : z_isR ty = true) : narrow ty (zenc E (vo q)) = zenc E (vo q) ∧ fits ty (zenc E (vo q)) = true := by
  match ty, h with
  | .object _, _ => exact ⟨rfl, rfl⟩
  | .array _, _ => exact ⟨rfl, rfl⟩
theorem a_putR {idx c j k q : Nat} (hd : decode M.2.2.1 pc = .ok (.putfield idx, 3)) (hl : zlkR M.1 idx c j) (hk : zObj G k c) (w : zAt E d kc ks M (pc + 3) ls st G (stR h k j (some q)) P) : zAt E d kc ks M pc ls (vo q :: vo k :: st) G h P :=
  z_put w hd hk hl.1 hl.2.2.1 (fun _ => z_refOK hl.2.2.2) (fun i _ => by
    unfold zfld
    by_cases e : i = j
    · subst e; rw [if_pos rfl, hl.2.1, hR_stR]; simp [zenc]
    · rw [if_neg e]; simp only [hR_stR, e, and_false, if_false]; rfl) (fun i hi => z_noR hi) (fun q1 q2 => q2)
theorem a_putF {idx c j k q : Nat} (hd : decode M.2.2.1 pc = .ok (.putfield idx, 3)) (hl : zlkF M.1 idx c j) (hin : M.2.1.name = "<init>") (hk : zObj G k c) (w : zAt E d kc ks M (pc + 3) ls st (stF G k j (some q)) h P) : zAt E d kc ks M pc ls (vo q :: vo k :: st) G h P := by
  intro p e R s m args below meth c0 C hd1 hl1 H locs cells slots lr h1 h2 h3 h4 h5 h6 h7 Q hq
  have ea : zenc E (vo k) = .ref (eB E + k) := by show Value.ref (zad E k) = _; rw [zad_k hk.1 h4.2.2]
  show W _ _ _ _ _ _ _ _ _ _ _ _ _ _ _ (F0 _ _ _ (zenc E (vo q) :: zenc E (vo k) :: _))
  rw [ea]
  have hN := z_refOK (E := E) (q := q) hl.2.2.2.1
  refine va_putF (D := E.2.1) (cl := vwCl) (ws := zws E G h) (C := (zC c).1) (T := (zC c).2.1) (N := (zC c).2.2) (ci := c) (v := zenc E (vo q)) (own := M.1) (ref := ((zC c).2.1 j).1) C.1 C.2.1 C.2.2.2.2.2.2.2.1 (z_in c hk.2.2) (zty c) (z_tyok c hk.2.2) (z_nm c hk.2.2) C.2.2.2.2.2.2.1 C.2.2.2.2.2.2.2.2.1 h4.1 (zwsD E G h) h5 k (by rw [zws_get hk.1, zcell_o hk.2.1]) (zC_at hk.2.2) j hl.1.2 (C.2.2.2.2.2.2.2.1 _ hl.1.1) (fun _ q => q) hl.2.2.1 (C.2.2.2.2.2.1 hin) hl.2.2.2.2 (z_tyok c hk.2.2 j hl.1.2) hN.1 hN.2 (by rw [List.length_map, List.length_range]; exact hl.1.2) hd (fun H1 locs1 g1 g2 g3 => ?_)
  rw [zws_set (G := G) (G' := stF G k j (some q)) (h := h) (h' := h) rfl (by
    rw [zcell_o (show gK (stF G k j (some q)) k = c + 5 from hk.2.1), z_mapset]; congr 2
    refine z_mapcongr (fun i hi => ?_)
    unfold zfld
    by_cases e : i = j
    · subst e; rw [if_pos rfl, hl.2.1]; show va_rf (Option.map _ (if _ then _ else _)) = _; simp [zenc]
    · rw [if_neg e]
      have : gF (stF G k j (some q)) k i = gF G k i := by show (if _ then _ else _) = _; rw [if_neg (fun x => e x.2)]
      rw [this]) (fun i _ hi => z_noF hi)] at g1
  exact w p e R s m args below meth c0 C hd1 hl1 H1 locs1 cells slots lr h1 h2 h3 ⟨g1, h4.2.1, h4.2.2⟩ g3 h6 (z_tl (z_tl h7)) Q hq
end ZS1
