/-! the constructors: tables of cells by number -/
def qF : List (Nat × Nat) := [(0, 0), (2, 0), (0, 2), (4, 5), (4, 6), (4, 7), (4, 8), (4, 9), (4, 10), (4, 11), (4, 12), (4, 13), (14, 5), (14, 6), (14, 7), (14, 8), (14, 9), (14, 10), (14, 11), (14, 12), (14, 13), (24, 0), (24, 1), (24, 2), (28, 2), (24, 3), (0, 5), (30, 0), (30, 1), (30, 3), (0, 6), (35, 2), (34, 1), (37, 1), (37, 2), (37, 3), (37, 4), (37, 5), (34, 2), (34, 3), (34, 4), (34, 5), (0, 7), (0, 8), (48, 2), (47, 1), (50, 1), (50, 2), (50, 3), (50, 4), (50, 5), (47, 2), (47, 3), (47, 4), (47, 5), (60, 2), (59, 1), (62, 1), (62, 2), (62, 3), (62, 4), (62, 5), (59, 2), (59, 3), (59, 4), (59, 5), (72, 2), (71, 1), (74, 1), (74, 2), (74, 3), (74, 4), (74, 5), (71, 2), (71, 3), (71, 4), (71, 5), (83, 2), (83, 3), (83, 4), (83, 5), (83, 6), (0, 10), (89, 0), (89, 10), (89, 11), (89, 12), (89, 13), (89, 14), (89, 15), (89, 16), (89, 17), (89, 18), (89, 19), (89, 20), (89, 21), (89, 22), (89, 23), (89, 34), (89, 35), (89, 36), (89, 38), (89, 39), (89, 40), (89, 41), (89, 42), (89, 43), (89, 44), (89, 45), (89, 46), (89, 47), (89, 48), (89, 49), (89, 50), (89, 51), (89, 52), (89, 53), (89, 56), (89, 57), (89, 58), (89, 59), (89, 60), (89, 61), (89, 64), (89, 65), (89, 66), (89, 67), (89, 68)]
def gQ (n m : Nat) : zG := (n, fun k => g0_sh.getD k (0, 0), fun k j => if (k, j) ∈ qF.take m then gF g0 k j else none)
/-- nothing is held from cell n on -/
def qZ (h : zS) (n : Nat) : Prop := ∀ k i, n ≤ k → hI h k i = 0 ∧ hL h k i = 0 ∧ hR h k i = none
theorem qZ_I {h : zS} {n k j : Nat} {x : Int} (q : k < n) (w : qZ h n) : qZ (stI h k j x) n := by
  intro k' i hk
  refine ⟨?_, (w k' i hk).2⟩
  show (if _ then _ else _) = _
  rw [if_neg (by omega)]; exact (w k' i hk).1
theorem qZ_R {h : zS} {n k j : Nat} {x : Option Nat} (q : k < n) (w : qZ h n) : qZ (stR h k j x) n := by
  intro k' i hk
  refine ⟨(w k' i hk).1, (w k' i hk).2.1, ?_⟩
  show (if _ then _ else _) = _
  rw [if_neg (by omega)]; exact (w k' i hk).2.2
theorem qZ_new {h : zS} {n : Nat} (w : qZ h n) : stNew h n = h := by
  have e1 : (fun k' i => if k' = n then (0 : Int) else hI h k' i) = hI h := by
    funext k i; by_cases c : k = n
    · rw [if_pos c, (w k i (by omega)).1]
    · rw [if_neg c]
  have e2 : (fun k' i => if k' = n then (0 : Int) else hL h k' i) = hL h := by
    funext k i; by_cases c : k = n
    · rw [if_pos c, (w k i (by omega)).2.1]
    · rw [if_neg c]
  have e3 : (fun k' i => if k' = n then (none : Option Nat) else hR h k' i) = hR h := by
    funext k i; by_cases c : k = n
    · rw [if_pos c, (w k i (by omega)).2.2]
    · rw [if_neg c]
  show (_, _, _) = h
  rw [e1, e2, e3]; rfl
def qh0 : zS := s_zero
theorem hz0 {n : Nat} (_ : 0 ≤ n) : qZ qh0 n := fun _ _ _ => ⟨rfl, rfl, rfl⟩
def qh1 : zS := stI qh0 3 3 (16)
theorem hz1 {n : Nat} (q : 4 ≤ n) : qZ qh1 n := qZ_I (by omega) (hz0 (by omega))
def qh2 : zS := stI qh1 2 4 (-1)
theorem hz2 {n : Nat} (q : 4 ≤ n) : qZ qh2 n := qZ_I (by omega) (hz1 (by omega))
def qh3 : zS := stI qh2 4 2 (-1)
theorem hz3 {n : Nat} (q : 5 ≤ n) : qZ qh3 n := qZ_I (by omega) (hz2 (by omega))
def qh4 : zS := stI qh3 4 3 (-1)
theorem hz4 {n : Nat} (q : 5 ≤ n) : qZ qh4 n := qZ_I (by omega) (hz3 (by omega))
def qh5 : zS := stR qh4 0 3 (some 4)
theorem hz5 {n : Nat} (q : 5 ≤ n) : qZ qh5 n := qZ_R (by omega) (hz4 (by omega))
def qh6 : zS := stI qh5 14 2 (-1)
theorem hz6 {n : Nat} (q : 15 ≤ n) : qZ qh6 n := qZ_I (by omega) (hz5 (by omega))
def qh7 : zS := stI qh6 14 3 (-1)
theorem hz7 {n : Nat} (q : 15 ≤ n) : qZ qh7 n := qZ_I (by omega) (hz6 (by omega))
def qh8 : zS := stR qh7 0 4 (some 14)
theorem hz8 {n : Nat} (q : 15 ≤ n) : qZ qh8 n := qZ_R (by omega) (hz7 (by omega))
def qh9 : zS := stR qh8 46 0 (some 47)
theorem hz9 {n : Nat} (q : 47 ≤ n) : qZ qh9 n := qZ_R (by omega) (hz8 (by omega))
def qh10 : zS := stR qh9 46 1 (some 59)
theorem hz10 {n : Nat} (q : 47 ≤ n) : qZ qh10 n := qZ_R (by omega) (hz9 (by omega))
def qh11 : zS := stR qh10 46 2 (some 71)
theorem hz11 {n : Nat} (q : 47 ≤ n) : qZ qh11 n := qZ_R (by omega) (hz10 (by omega))
def qh12 : zS := stI qh11 89 3 (-1)
theorem hz12 {n : Nat} (q : 90 ≤ n) : qZ qh12 n := qZ_I (by omega) (hz11 (by omega))
def qh13 : zS := stI qh12 89 31 (-1)
theorem hz13 {n : Nat} (q : 90 ≤ n) : qZ qh13 n := qZ_I (by omega) (hz12 (by omega))
def qh14 : zS := stI qh13 89 32 (-1)
theorem hz14 {n : Nat} (q : 90 ≤ n) : qZ qh14 n := qZ_I (by omega) (hz13 (by omega))
abbrev qP (G : zG) (h : zS) : Option zV → zG → zS → Prop := fun r G' h' => r = none ∧ G' = G ∧ h' = h
theorem qo {n m k c : Nat} (h1 : k < n) (h2 : (g0_sh.getD k (0, 0)).1 = c + 5) (h3 : c < 11) : zObj (gQ n m) k c := ⟨h1, h2, h3⟩
theorem qF_at {i m : Nat} {x : Nat × Nat} (h1 : qF[i]? = some x) (h2 : Nat.ble (i + 1) m = true) : x ∈ qF.take m := by
  have : (qF.take m)[i]? = some x := by rw [List.getElem?_take_of_lt (Nat.le_of_ble_eq_true h2)]; exact h1
  exact List.mem_of_getElem? this
theorem qf {n m k j q : Nat} (i : Nat) (h1 : (qF[i]? == some (k, j) && Nat.ble (i + 1) m) = true) (h3 : gF g0 k j = some q) : gF (gQ n m) k j = some q := by
  rw [Bool.and_eq_true, beq_iff_eq] at h1
  show (if _ then _ else _) = _
  rw [if_pos (qF_at h1.1 h1.2)]; exact h3
section ZQ
variable {E : zE} {d kc ks kc' ks' : Nat} {M M' : zM} {pc : Nat} {ls st st0 : List zV} {G : zG} {h : zS} {P : Option zV → zG → zS → Prop}
theorem q_reg {n m kd len : Nat} (hs : g0_sh.getD n (0, 0) = (kd, len)) (hm : (qF.take m).all (fun x => decide (x.1 < n)) = true) (hz : qZ h n) (w : zAt E d kc ks M pc ls st (gQ (n + 1) m) h P) : zAt E d kc ks M pc ls st (gNew (gQ n m) kd len) (stNew h (gN (gQ n m))) P := by
  have e : stNew h (gN (gQ n m)) = h := qZ_new hz
  rw [e]
  refine z_regard (G2 := gQ (n + 1) m) rfl (fun k _ => ?_) (fun k _ j => ?_) w
  · show g0_sh.getD k (0, 0) = if k = n then (kd, len) else g0_sh.getD k (0, 0)
    by_cases c : k = n
    · rw [if_pos c, c, hs]
    · rw [if_neg c]
  · show (if (k, j) ∈ qF.take m then gF g0 k j else none) = if k = n then none else (if (k, j) ∈ qF.take m then gF g0 k j else none)
    by_cases c : k = n
    · rw [if_pos c, if_neg]
      intro q
      have := List.all_eq_true.mp hm _ q
      simp at this
      omega
    · rw [if_neg c]
theorem q_new {idx c n n' m : Nat} (hd : decode M.2.2.1 pc = .ok (.new idx, 3)) (hl : zlkN M.1 idx c) (hs : g0_sh.getD n (0, 0) = (c + 5, 0)) (hm : (qF.take m).all (fun x => decide (x.1 < n)) = true) (hz : qZ h n) (hN : n < 1000000) (e0 : n' = n + 1) (e1 : kc' = kc + 1) (e2 : ks' = ks + (zC c).2.2) (w : zAt E d kc ks M (pc + 3) ls (vo n :: st) (gQ n' m) h P) : zAt E d kc' ks' M pc ls st (gQ n m) h P := by
  subst e0; subst e1; subst e2
  exact a_new hd hl hN (q_reg hs hm hz w)
theorem q_newI {n n' m len : Nat} {x : Int} (hd : decode M.2.2.1 pc = .ok (.newarray .int, 2)) (hac : Cond.arrayClass .int ∈ z_tbl) (hx : x = len) (hn : len ≤ 100000) (hs : g0_sh.getD n (0, 0) = (0, len)) (hm : (qF.take m).all (fun x => decide (x.1 < n)) = true) (hz : qZ h n) (hN : n < 1000000) (e0 : n' = n + 1) (e1 : kc' = kc + 1) (e2 : ks' = ks + len) (w : zAt E d kc ks M (pc + 2) ls (vo n :: st) (gQ n' m) h P) : zAt E d kc' ks' M pc ls (vi x :: st) (gQ n m) h P := by
  subst e0; subst e1; subst e2
  exact a_newI hd hac hx hn hN (q_reg hs hm hz w)
theorem q_newB {n n' m len : Nat} {x : Int} (hd : decode M.2.2.1 pc = .ok (.newarray .byte, 2)) (hac : Cond.arrayClass .byte ∈ z_tbl) (hx : x = len) (hn : len ≤ 100000) (hs : g0_sh.getD n (0, 0) = (1, len)) (hm : (qF.take m).all (fun x => decide (x.1 < n)) = true) (hz : qZ h n) (hN : n < 1000000) (e0 : n' = n + 1) (e1 : kc' = kc + 1) (e2 : ks' = ks + len) (w : zAt E d kc ks M (pc + 2) ls (vo n :: st) (gQ n' m) h P) : zAt E d kc' ks' M pc ls (vi x :: st) (gQ n m) h P := by
  subst e0; subst e1; subst e2
  exact a_newB hd hac hx hn hN (q_reg hs hm hz w)
theorem q_newZ {n n' m len : Nat} {x : Int} (hd : decode M.2.2.1 pc = .ok (.newarray .boolean, 2)) (hac : Cond.arrayClass .boolean ∈ z_tbl) (hx : x = len) (hn : len ≤ 100000) (hs : g0_sh.getD n (0, 0) = (2, len)) (hm : (qF.take m).all (fun x => decide (x.1 < n)) = true) (hz : qZ h n) (hN : n < 1000000) (e0 : n' = n + 1) (e1 : kc' = kc + 1) (e2 : ks' = ks + len) (w : zAt E d kc ks M (pc + 2) ls (vo n :: st) (gQ n' m) h P) : zAt E d kc' ks' M pc ls (vi x :: st) (gQ n m) h P := by
  subst e0; subst e1; subst e2
  exact a_newZ hd hac hx hn hN (q_reg hs hm hz w)
theorem q_newJ {n n' m len : Nat} {x : Int} (hd : decode M.2.2.1 pc = .ok (.newarray .long, 2)) (hac : Cond.arrayClass .long ∈ z_tbl) (hx : x = len) (hn : len ≤ 100000) (hs : g0_sh.getD n (0, 0) = (3, len)) (hm : (qF.take m).all (fun x => decide (x.1 < n)) = true) (hz : qZ h n) (hN : n < 1000000) (e0 : n' = n + 1) (e1 : kc' = kc + 1) (e2 : ks' = ks + len) (w : zAt E d kc ks M (pc + 2) ls (vo n :: st) (gQ n' m) h P) : zAt E d kc' ks' M pc ls (vi x :: st) (gQ n m) h P := by
  subst e0; subst e1; subst e2
  exact a_newJ hd hac hx hn hN (q_reg hs hm hz w)
theorem q_newQ {idx n n' m len : Nat} {x : Int} (hd : decode M.2.2.1 pc = .ok (.anewarray idx, 3)) (hcl : Cond.classLink M.1 idx "ChalkChain$Earnest" ∈ z_tbl) (hx : x = len) (hn : len ≤ 100000) (hs : g0_sh.getD n (0, 0) = (4, len)) (hm : (qF.take m).all (fun x => decide (x.1 < n)) = true) (hz : qZ h n) (hN : n < 1000000) (e0 : n' = n + 1) (e1 : kc' = kc + 1) (e2 : ks' = ks + len) (w : zAt E d kc ks M (pc + 3) ls (vo n :: st) (gQ n' m) h P) : zAt E d kc' ks' M pc ls (vi x :: st) (gQ n m) h P := by
  subst e0; subst e1; subst e2
  exact a_newQ hd hcl hx hn hN (q_reg hs hm hz w)
theorem q_putF {idx c j k q n m m' : Nat} (hd : decode M.2.2.1 pc = .ok (.putfield idx, 3)) (hl : zlkF M.1 idx c j) (hin : M.2.1.name = "<init>") (hk : zObj (gQ n m) k c) (hq : qF[m]? = some (k, j)) (hg : gF g0 k j = some q) (em : m' = m + 1) (w : zAt E d kc ks M (pc + 3) ls st (gQ n m') h P) : zAt E d kc ks M pc ls (vo q :: vo k :: st) (gQ n m) h P := by
  subst em
  refine a_putF hd hl hin hk (z_regard (G2 := gQ n (m + 1)) rfl (fun _ _ => rfl) (fun k' _ j' => ?_) w)
  show (if (k', j') ∈ qF.take (m + 1) then gF g0 k' j' else none) = if k' = k ∧ j' = j then some q else (if (k', j') ∈ qF.take m then gF g0 k' j' else none)
  have e : (k', j') ∈ qF.take (m + 1) ↔ (k', j') ∈ qF.take m ∨ (k' = k ∧ j' = j) := by
    rw [List.take_succ, hq]; simp
  by_cases c : k' = k ∧ j' = j
  · rw [if_pos c, if_pos (e.mpr (.inr c)), c.1, c.2, hg]
  · rw [if_neg c]
    by_cases c2 : (k', j') ∈ qF.take m
    · rw [if_pos c2, if_pos (e.mpr (.inl c2))]
    · rw [if_neg c2, if_neg (fun x => (e.mp x).elim c2 c)]
theorem q_putI {idx c j k : Nat} {x : Int} {h' : zS} (hd : decode M.2.2.1 pc = .ok (.putfield idx, 3)) (hl : zlkI M.1 idx c j) (hk : zObj G k c) (e : stI h k j x = h') (w : zAt E d kc ks M (pc + 3) ls st G h' P) : zAt E d kc ks M pc ls (vi x :: vo k :: st) G h P := by
  subst e; exact a_putI hd hl hk w
theorem q_putR {idx c j k q : Nat} {h' : zS} (hd : decode M.2.2.1 pc = .ok (.putfield idx, 3)) (hl : zlkR M.1 idx c j) (hk : zObj G k c) (e : stR h k j (some q) = h') (w : zAt E d kc ks M (pc + 3) ls st G h' P) : zAt E d kc ks M pc ls (vo q :: vo k :: st) G h P := by
  subst e; exact a_putR hd hl hk w
theorem q_aastore {k n q : Nat} {i : Int} {h' : zS} (hd : decode M.2.2.1 pc = .ok (.aastore, 1)) (hk : zArr G k 4 n) (hi : 0 ≤ i ∧ i < n) (hq1 : zObj G q 1) (e : stR h k i.toNat (some q) = h') (w : zAt E d kc ks M (pc + 1) ls st G h' P) : zAt E d kc ks M pc ls (vo q :: vi i :: vo k :: st) G h P := by
  subst e; exact a_aastore hd hk hi hq1 w
theorem q_callI {idx k kt st2 : Nat} {G' : zG} {h' : zS} (hd : decode M.2.2.1 pc = .ok (.invokespecial idx, 3)) (hl : zlkIn M.1 idx M' 0) (hst : vo k :: st = st0) (hs : zcs st ≤ 8) (hlen : (zmk [vo k]).length ≤ M'.2.2.2.1) (e1 : kt = kc' + kc) (e2 : st2 = ks' + ks)
    (w : zAt E d kc' ks' M' 0 (zls [vo k] M'.2.2.2.1) [] G h (qP G' h')) (w2 : zAt E (d + 1) kc ks M (pc + 3) ls st G' h' P) : zAt E (d + 1) kt st2 M pc ls st0 G h P := by
  subst e1; subst e2
  refine a_callI [] hd hl hst hs hlen (z_post w (fun r G1 h1 q => ?_))
  obtain ⟨rfl, rfl, rfl⟩ := q
  exact w2
theorem q_callIN {idx k kt st2 : Nat} {host : String} {G' : zG} {h' : zS} (hd : decode M.2.2.1 pc = .ok (.invokespecial idx, 3)) (hl : zlkInN M.1 idx M' 0 host) (hst : vo k :: st = st0) (hs : zcs st ≤ 8) (hlen : (zmk [vo k]).length ≤ M'.2.2.2.1) (e1 : kt = kc' + kc) (e2 : st2 = ks' + ks)
    (w : zAt E d kc' ks' M' 0 (zls [vo k] M'.2.2.2.1) [] G h (qP G' h')) (w2 : zAt E (d + 1) kc ks M (pc + 3) ls st G' h' P) : zAt E (d + 1) kt st2 M pc ls st0 G h P := by
  subst e1; subst e2
  refine a_callIN [] hd hl hst hs hlen (z_post w (fun r G1 h1 q => ?_))
  obtain ⟨rfl, rfl, rfl⟩ := q
  exact w2
end ZQ
theorem gQ_all : ∀ k : Fin 135, (List.range (g0_f.getD k.val []).length).all (fun j => ((g0_f.getD k.val []).getD j none).isNone || qF.any (fun y => Nat.beq y.1 k.val && Nat.beq y.2 j)) = true := by decide +kernel
theorem gQ_g0 {m : Nat} (hm : qF.length ≤ m) {k : Nat} (hk : k < 135) (j : Nat) : gF g0 k j = gF (gQ 135 m) k j := by
  show gF g0 k j = (if (k, j) ∈ qF.take m then gF g0 k j else none)
  rw [List.take_of_length_le hm]
  by_cases c : gF g0 k j = none
  · rw [c]; split <;> rfl
  · have hj : j < (g0_f.getD k []).length := by
      apply Nat.lt_of_not_le
      intro q
      apply c
      show (g0_f.getD k []).getD j none = none
      rw [List.getD_eq_getElem?_getD, List.getElem?_eq_none q]; rfl
    have w := List.all_eq_true.mp (gQ_all ⟨k, hk⟩) j (List.mem_range.mpr hj)
    have n : ((g0_f.getD k []).getD j none).isNone = false := by
      cases e : (g0_f.getD k []).getD j none with
      | none => exact absurd e c
      | some v => rfl
    simp only [n, Bool.false_or] at w
    obtain ⟨y, hy, q⟩ := List.any_eq_true.mp w
    rw [Bool.and_eq_true] at q
    have e1 := Nat.eq_of_beq_eq_true q.1
    have e2 := Nat.eq_of_beq_eq_true q.2
    have : (k, j) ∈ qF := by rw [← e1, ← e2]; exact hy
    rw [if_pos this]
