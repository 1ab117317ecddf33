/-! rules: cells -/
theorem z_in0 : ∀ w ∈ u_ws RX0 TX0 17, w ∈ z_tbl := by
  have e : u_ws RX0 TX0 17 = ([225, 227, 229, 231, 233, 235, 237, 239, 241, 243, 245, 247, 249, 251, 253, 255, 257] : List Nat).filterMap (fun i => lw_tbl[i]?) := by decide +kernel
  have g : (u_ws RX0 TX0 17).all goodWord = true := by decide +kernel
  intro w hw
  have hg := List.all_eq_true.mp g w hw
  rw [e] at hw
  obtain ⟨i, -, hi⟩ := List.mem_filterMap.mp hw
  exact z_mem i hi hg
theorem z_in1 : ∀ w ∈ u_ws RX1 TX1 6, w ∈ z_tbl := by
  have e : u_ws RX1 TX1 6 = ([382, 384, 386, 388, 390, 392] : List Nat).filterMap (fun i => lw_tbl[i]?) := by decide +kernel
  have g : (u_ws RX1 TX1 6).all goodWord = true := by decide +kernel
  intro w hw
  have hg := List.all_eq_true.mp g w hw
  rw [e] at hw
  obtain ⟨i, -, hi⟩ := List.mem_filterMap.mp hw
  exact z_mem i hi hg
theorem z_in2 : ∀ w ∈ u_ws RX2 TX2 7, w ∈ z_tbl := by
  have e : u_ws RX2 TX2 7 = ([411, 413, 415, 417, 419, 421, 423] : List Nat).filterMap (fun i => lw_tbl[i]?) := by decide +kernel
  have g : (u_ws RX2 TX2 7).all goodWord = true := by decide +kernel
  intro w hw
  have hg := List.all_eq_true.mp g w hw
  rw [e] at hw
  obtain ⟨i, -, hi⟩ := List.mem_filterMap.mp hw
  exact z_mem i hi hg
theorem z_in3 : ∀ w ∈ u_ws RX3 TX3 4, w ∈ z_tbl := by
  have e : u_ws RX3 TX3 4 = ([296, 298, 300, 302] : List Nat).filterMap (fun i => lw_tbl[i]?) := by decide +kernel
  have g : (u_ws RX3 TX3 4).all goodWord = true := by decide +kernel
  intro w hw
  have hg := List.all_eq_true.mp g w hw
  rw [e] at hw
  obtain ⟨i, -, hi⟩ := List.mem_filterMap.mp hw
  exact z_mem i hi hg
theorem z_in4 : ∀ w ∈ u_ws RX4 TX4 3, w ∈ z_tbl := by
  have e : u_ws RX4 TX4 3 = ([281, 283, 285] : List Nat).filterMap (fun i => lw_tbl[i]?) := by decide +kernel
  have g : (u_ws RX4 TX4 3).all goodWord = true := by decide +kernel
  intro w hw
  have hg := List.all_eq_true.mp g w hw
  rw [e] at hw
  obtain ⟨i, -, hi⟩ := List.mem_filterMap.mp hw
  exact z_mem i hi hg
theorem z_in5 : ∀ w ∈ u_ws RX5 TX5 7, w ∈ z_tbl := by
  have e : u_ws RX5 TX5 7 = ([130, 132, 134, 136, 138, 140, 142] : List Nat).filterMap (fun i => lw_tbl[i]?) := by decide +kernel
  have g : (u_ws RX5 TX5 7).all goodWord = true := by decide +kernel
  intro w hw
  have hg := List.all_eq_true.mp g w hw
  rw [e] at hw
  obtain ⟨i, -, hi⟩ := List.mem_filterMap.mp hw
  exact z_mem i hi hg
theorem z_in6 : ∀ w ∈ u_ws RX6 TX6 5, w ∈ z_tbl := by
  have e : u_ws RX6 TX6 5 = ([153, 155, 157, 159, 161] : List Nat).filterMap (fun i => lw_tbl[i]?) := by decide +kernel
  have g : (u_ws RX6 TX6 5).all goodWord = true := by decide +kernel
  intro w hw
  have hg := List.all_eq_true.mp g w hw
  rw [e] at hw
  obtain ⟨i, -, hi⟩ := List.mem_filterMap.mp hw
  exact z_mem i hi hg
theorem z_in7 : ∀ w ∈ u_ws RX7 TX7 5, w ∈ z_tbl := by
  have e : u_ws RX7 TX7 5 = ([318, 320, 322, 324, 326] : List Nat).filterMap (fun i => lw_tbl[i]?) := by decide +kernel
  have g : (u_ws RX7 TX7 5).all goodWord = true := by decide +kernel
  intro w hw
  have hg := List.all_eq_true.mp g w hw
  rw [e] at hw
  obtain ⟨i, -, hi⟩ := List.mem_filterMap.mp hw
  exact z_mem i hi hg
theorem z_in8 : ∀ w ∈ u_ws RX8 TX8 6, w ∈ z_tbl := by
  have e : u_ws RX8 TX8 6 = ([359, 361, 363, 365, 367, 369] : List Nat).filterMap (fun i => lw_tbl[i]?) := by decide +kernel
  have g : (u_ws RX8 TX8 6).all goodWord = true := by decide +kernel
  intro w hw
  have hg := List.all_eq_true.mp g w hw
  rw [e] at hw
  obtain ⟨i, -, hi⟩ := List.mem_filterMap.mp hw
  exact z_mem i hi hg
theorem z_in9 : ∀ w ∈ u_ws RX9 TX9 11, w ∈ z_tbl := by
  have e : u_ws RX9 TX9 11 = ([437, 439, 441, 443, 445, 447, 449, 451, 453, 455, 457] : List Nat).filterMap (fun i => lw_tbl[i]?) := by decide +kernel
  have g : (u_ws RX9 TX9 11).all goodWord = true := by decide +kernel
  intro w hw
  have hg := List.all_eq_true.mp g w hw
  rw [e] at hw
  obtain ⟨i, -, hi⟩ := List.mem_filterMap.mp hw
  exact z_mem i hi hg
theorem z_in10 : ∀ w ∈ u_ws RX10 TX10 69, w ∈ z_tbl := by
  have e : u_ws RX10 TX10 69 = ([1044, 1046, 1048, 1050, 1052, 1054, 1056, 1058, 1060, 1062, 1064, 1066, 1068, 1070, 1072, 1074, 1076, 1078, 1080, 1082, 1084, 1086, 1088, 1090, 1092, 1094, 1096, 1098, 1100, 1102, 1104, 1106, 1108, 1110, 1112, 1114, 1116, 1118, 1120, 1122, 1124, 1126, 1128, 1130, 1132, 1134, 1136, 1138, 1140, 1142, 1144, 1146, 1148, 1150, 1152, 1154, 1156, 1158, 1160, 1162, 1164, 1166, 1168, 1170, 1172, 1174, 1176, 1178, 1180] : List Nat).filterMap (fun i => lw_tbl[i]?) := by decide +kernel
  have g : (u_ws RX10 TX10 69).all goodWord = true := by decide +kernel
  intro w hw
  have hg := List.all_eq_true.mp g w hw
  rw [e] at hw
  obtain ⟨i, -, hi⟩ := List.mem_filterMap.mp hw
  exact z_mem i hi hg
def zty : Nat → (Nat → FieldType)
  | 0 => tyX0
  | 1 => tyX1
  | 2 => tyX2
  | 3 => tyX3
  | 4 => tyX4
  | 5 => tyX5
  | 6 => tyX6
  | 7 => tyX7
  | 8 => tyX8
  | 9 => tyX9
  | _ => tyX10
theorem z_in : ∀ c, c < 11 → ∀ w ∈ u_ws (zC c).1 (zC c).2.1 (zC c).2.2, w ∈ z_tbl
  | 0, _ => z_in0
  | 1, _ => z_in1
  | 2, _ => z_in2
  | 3, _ => z_in3
  | 4, _ => z_in4
  | 5, _ => z_in5
  | 6, _ => z_in6
  | 7, _ => z_in7
  | 8, _ => z_in8
  | 9, _ => z_in9
  | 10, _ => z_in10
  | c + 11, h => absurd h (by omega)
theorem z_tyok : ∀ c, c < 11 → ∀ k, k < (zC c).2.2 → parseFieldDescriptor ((zC c).2.1 k).2.2.1 = some (zty c k)
  | 0, _ => tyX0_ok
  | 1, _ => tyX1_ok
  | 2, _ => tyX2_ok
  | 3, _ => tyX3_ok
  | 4, _ => tyX4_ok
  | 5, _ => tyX5_ok
  | 6, _ => tyX6_ok
  | 7, _ => tyX7_ok
  | 8, _ => tyX8_ok
  | 9, _ => tyX9_ok
  | 10, _ => tyX10_ok
  | c + 11, h => absurd h (by omega)
theorem z_nm : ∀ c, c < 11 → ∀ a, a < (zC c).2.2 → ∀ b, b < (zC c).2.2 → a ≠ b → ((zC c).2.1 a).2.1 ≠ ((zC c).2.1 b).2.1
  | 0, _ => nmX0
  | 1, _ => nmX1
  | 2, _ => nmX2
  | 3, _ => nmX3
  | 4, _ => nmX4
  | 5, _ => nmX5
  | 6, _ => nmX6
  | 7, _ => nmX7
  | 8, _ => nmX8
  | 9, _ => nmX9
  | 10, _ => nmX10
  | c + 11, h => absurd h (by omega)
theorem z_mapset {α : Type} (n k : Nat) (f : Nat → α) (x : α) : ((List.range n).map f).set k x = (List.range n).map (fun i => if i = k then x else f i) := by
  apply List.ext_getElem?
  intro i
  rw [List.getElem?_set]
  simp only [List.getElem?_map, List.length_map, List.length_range]
  by_cases h : k = i
  · subst h
    by_cases h2 : k < n
    · simp [h2, List.getElem?_range h2]
    · simp [h2]
  · simp only [h, if_false]
    by_cases h2 : i < n
    · rw [List.getElem?_range h2]; simp [Ne.symm h]
    · have : (List.range n)[i]? = none := by simp; omega
      rw [this]; rfl
theorem z_mapcongr {α : Type} {n : Nat} {f g : Nat → α} (h : ∀ i, i < n → f i = g i) : (List.range n).map f = (List.range n).map g := by
  apply List.map_congr_left
  intro a ha
  exact h a (List.mem_range.mp ha)
theorem zws_get {E : zE} {G : zG} {h : zS} {k : Nat} (hk : k < gN G) : (zws E G h)[k]? = some (eB E + k, zcell E G h k) := by
  unfold zws
  rw [List.getElem?_map, List.getElem?_range hk]; rfl
theorem zws_len {E : zE} {G : zG} {h : zS} : (zws E G h).length = gN G := by unfold zws; simp
theorem zws_set {E : zE} {G G' : zG} {h h' : zS} {k : Nat} {x : va_E} (hN : gN G' = gN G) (hk : zcell E G' h' k = x) (ho : ∀ j, j < gN G → j ≠ k → zcell E G' h' j = zcell E G h j) : (zws E G h).set k (eB E + k, x) = zws E G' h' := by
  unfold zws
  rw [z_mapset, hN]
  apply z_mapcongr
  intro i hi
  by_cases hik : i = k
  · subst hik; simp [hk]
  · simp [hik, ho i hi hik]
theorem zwsD (E : zE) (G : zG) (h : zS) : va_D (eA E) (zws E G h) := by
  have key : ∀ (i : Nat) (p : Nat × va_E), (zws E G h)[i]? = some p → p.1 = eB E + i := by
    intro i p hp
    have hi : i < gN G := by have := (List.getElem?_eq_some_iff.mp hp).1; rw [zws_len] at this; exact this
    rw [zws_get hi] at hp
    cases hp; rfl
  refine ⟨fun i j p q hp hq e => ?_, fun k q hq => ?_⟩
  · rw [key i p hp, key j q hq] at e; omega
  · show eB E ≤ q.1
    rw [key k q hq]; omega
theorem zad_k {E : zE} {G : zG} {k : Nat} (hk : k < gN G) (hN : gN G ≤ 1000000) : zad E k = eB E + k := by
  unfold zad
  rw [if_neg (by omega), if_neg (by omega)]
theorem zcell_congr {E : zE} {G G' : zG} {h h' : zS} {k : Nat} (hK : G'.2.1 k = G.2.1 k) (hF : ∀ j, gF G' k j = gF G k j) (h1 : ∀ i, hI h' k i = hI h k i) (h2 : ∀ i, hL h' k i = hL h k i) (h3 : ∀ i, hR h' k i = hR h k i) : zcell E G' h' k = zcell E G h k := by
  have e : ∀ c j, zfld E G' h' c k j = zfld E G h c k j := by
    intro c j; unfold zfld; rw [h1, h2, h3, hF]
  unfold zcell gK gLn
  rw [hK]
  simp only [h1, h2, h3]
  split <;> first | rfl | (congr 2; apply z_mapcongr; intro i _; exact e _ i)
def zObj (G : zG) (k c : Nat) : Prop := k < gN G ∧ gK G k = c + 5 ∧ c < 11
def zArr (G : zG) (k kd n : Nat) : Prop := k < gN G ∧ gK G k = kd ∧ gLn G k = n
theorem zcell_o {E : zE} {G : zG} {h : zS} {k c : Nat} (hk : gK G k = c + 5) : zcell E G h k = .inr (c, (List.range (zC c).2.2).map (zfld E G h c k)) := by
  unfold zcell; rw [hk]
theorem zfs_get {E : zE} {G : zG} {h : zS} {k c j : Nat} (hj : j < (zC c).2.2) : ((List.range (zC c).2.2).map (zfld E G h c k))[j]? = some (zfld E G h c k j) := by
  rw [List.getElem?_map, List.getElem?_range hj]; rfl
/-- the link (own, index) names field j of kind c -/
def zlk (own : String) (idx c j : Nat) : Prop := Cond.fieldLink own idx ((zC c).2.1 j).1 ((zC c).2.1 j).2.1 ((zC c).2.1 j).2.2.1 ∈ z_tbl ∧ j < (zC c).2.2
def zlkI (own : String) (idx c j : Nat) : Prop := zlk own idx c j ∧ zfk c j = 0 ∧ ((zC c).2.1 j).2.2.2 = false ∧ zty c j = .int
def zlkZ (own : String) (idx c j : Nat) : Prop := zlk own idx c j ∧ zfk c j = 0 ∧ ((zC c).2.1 j).2.2.2 = false ∧ zty c j = .boolean
def zlkL (own : String) (idx c j : Nat) : Prop := zlk own idx c j ∧ zfk c j = 1 ∧ ((zC c).2.1 j).2.2.2 = false ∧ zty c j = .long
def z_isR : FieldType → Bool
  | .object _ => true
  | .array _ => true
  | _ => false
def zlkR (own : String) (idx c j : Nat) : Prop := zlk own idx c j ∧ zfk c j = 2 ∧ ((zC c).2.1 j).2.2.2 = false ∧ z_isR (zty c j) = true
def zlkF (own : String) (idx c j : Nat) : Prop := zlk own idx c j ∧ zfk c j = 3 ∧ ((zC c).2.1 j).2.2.2 = true ∧ z_isR (zty c j) = true ∧ ((zC c).2.1 j).1 = own
section ZH
variable {E : zE} {d kc ks : Nat} {M : zM} {pc : Nat} {ls st : List zV} {G : zG} {h : zS} {P : Option zV → zG → zS → Prop}
theorem z_get {idx c j k : Nat} {v : zV} (w : zAt E d kc ks M (pc + 3) ls (v :: st) G h P) (hd : decode M.2.2.1 pc = .ok (.getfield idx, 3)) (hk : zObj G k c) (hl : zlk M.1 idx c j) (hv : zfld E G h c k j = zenc E v) (hok : zokH h → zok v) : zAt E d kc ks M pc ls (vo k :: st) G h P :=
  z_loc w (fun _ q q2 => z_cons (hok q) (z_tl q2)) (fun _ _ _ _ _ _ _ _ _ _ _ _ _ _ _ C hP hS L _ w => by
    have ea : zenc E (vo k) = .ref (eB E + k) := by show Value.ref (zad E k) = _; rw [zad_k hk.1 hP.2.2]
    show W _ _ _ _ _ _ _ _ _ _ _ _ _ _ _ (F0 _ _ _ (zenc E (vo k) :: _))
    rw [ea]
    refine va_get (D := E.2.1) (cl := vwCl) (ws := zws E G h) (C := (zC c).1) (T := (zC c).2.1) (N := (zC c).2.2) (ci := c) (v := zenc E v) (own := M.1) (ref := ((zC c).2.1 j).1) C.1 C.2.1 C.2.2.2.2.2.2.2.1 (z_in c hk.2.2) C.2.2.2.2.2.2.1 C.2.2.2.2.2.2.2.2.1 hP.1 k (by rw [zws_get hk.1, zcell_o hk.2.1]) (zC_at hk.2.2) j hl.2 (C.2.2.2.2.2.2.2.1 _ hl.1) (fun _ q => q) (by rw [zfs_get hl.2, hv]) hd w)
theorem a_getI {idx c j k : Nat} (hd : decode M.2.2.1 pc = .ok (.getfield idx, 3)) (hl : zlkI M.1 idx c j) (hk : zObj G k c) (w : zAt E d kc ks M (pc + 3) ls (vi (hI h k j) :: st) G h P) : zAt E d kc ks M pc ls (vo k :: st) G h P :=
  z_get w hd hk hl.1 (by unfold zfld; rw [hl.2.1]; rfl) (fun q => q.1 k j)
theorem a_getZ {idx c j k : Nat} (hd : decode M.2.2.1 pc = .ok (.getfield idx, 3)) (hl : zlkZ M.1 idx c j) (hk : zObj G k c) (w : zAt E d kc ks M (pc + 3) ls (vi (hI h k j) :: st) G h P) : zAt E d kc ks M pc ls (vo k :: st) G h P :=
  z_get w hd hk hl.1 (by unfold zfld; rw [hl.2.1]; rfl) (fun q => q.1 k j)
theorem a_getL {idx c j k : Nat} (hd : decode M.2.2.1 pc = .ok (.getfield idx, 3)) (hl : zlkL M.1 idx c j) (hk : zObj G k c) (w : zAt E d kc ks M (pc + 3) ls (vl (hL h k j) :: st) G h P) : zAt E d kc ks M pc ls (vo k :: st) G h P :=
  z_get w hd hk hl.1 (by unfold zfld; rw [hl.2.1]; rfl) (fun q => q.2 k j)
theorem a_getR {idx c j k q : Nat} (hd : decode M.2.2.1 pc = .ok (.getfield idx, 3)) (hl : zlkR M.1 idx c j) (hk : zObj G k c) (hq : hR h k j = some q) (w : zAt E d kc ks M (pc + 3) ls (vo q :: st) G h P) : zAt E d kc ks M pc ls (vo k :: st) G h P :=
  z_get w hd hk hl.1 (by unfold zfld; rw [hl.2.1]; show va_rf _ = _; rw [hq]; rfl) (fun _ => trivial)
theorem a_getF {idx c j k q : Nat} (hd : decode M.2.2.1 pc = .ok (.getfield idx, 3)) (hl : zlkF M.1 idx c j) (hk : zObj G k c) (hq : gF G k j = some q) (w : zAt E d kc ks M (pc + 3) ls (vo q :: st) G h P) : zAt E d kc ks M pc ls (vo k :: st) G h P :=
  z_get w hd hk hl.1 (by unfold zfld; rw [hl.2.1]; show va_rf _ = _; rw [hq]; rfl) (fun _ => trivial)
end ZH
