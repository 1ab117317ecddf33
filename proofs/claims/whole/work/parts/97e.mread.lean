/-! the model's reader -/
def tkM (T : zTk) : Prop := (tcd T ≤ 13 → tcd T = mean (twd T)) ∧ (tcd T ≤ 17)
theorem tok_mn {n i : Nat} {b : Nat → Nat} : tkM (tokF n b i) := by
  unfold tokF tokJ
  generalize i + rn isSp b (n - i) i = j
  split
  · exact ⟨fun h => by have h : (16 : Nat) ≤ 13 := h; omega, by show (16 : Nat) ≤ 17; omega⟩
  · split
    · refine ⟨fun h => ?_, ?_⟩
      · have h : (if 8 < rn isLt b (n - j) j then 17 else mean (wd b j (rn isLt b (n - j) j) : Nat)) ≤ 13 := h
        show (if 8 < rn isLt b (n - j) j then 17 else mean (wd b j (rn isLt b (n - j) j) : Nat)) = mean (wd b j (rn isLt b (n - j) j) : Nat)
        split at h
        · omega
        · rename_i c; rw [if_neg c]
      · show (if 8 < rn isLt b (n - j) j then 17 else mean (wd b j (rn isLt b (n - j) j) : Nat)) ≤ 17
        have := (mean_is (wd b j (rn isLt b (n - j) j) : Nat)).1
        split <;> omega
    · split
      · refine ⟨fun h => ?_, ?_⟩
        · have h : (if 4 < rn isDg b (n - j) j ∨ 0 < rn isLt b (n - (j + rn isDg b (n - j) j)) (j + rn isDg b (n - j) j) then 17 else 14) ≤ 13 := h
          split at h <;> omega
        · show (if 4 < rn isDg b (n - j) j ∨ 0 < rn isLt b (n - (j + rn isDg b (n - j) j)) (j + rn isDg b (n - j) j) then 17 else 14) ≤ 17
          split <;> omega
      · refine ⟨fun h => ?_, ?_⟩
        · have h : (if b j = 59 then 15 else 17) ≤ 13 := h
          split at h <;> omega
        · show (if b j = 59 then 15 else 17) ≤ 17
          split <;> omega
theorem srt_1 {c : Nat} (hc : c ≤ 17) : srt c = 1 ↔ c ≤ 13 := by unfold srt; split; omega; split; omega; split; omega; split <;> omega
theorem srt_2 {c : Nat} (hc : c ≤ 17) : srt c = 2 ↔ c = 14 := by unfold srt; split; omega; split; omega; split; omega; split <;> omega
theorem srt_3 {c : Nat} (hc : c ≤ 17) : srt c = 3 ↔ c = 17 := by unfold srt; split; omega; split; omega; split; omega; split <;> omega
theorem srt_0 {c : Nat} (hc : c ≤ 17) : srt c = 0 ↔ c = 16 := by unfold srt; split; omega; split; omega; split; omega; split <;> omega
theorem srt_59 {c : Nat} (hc : c ≤ 17) : srt c = 59 ↔ c = 15 := by unfold srt; split; omega; split; omega; split; omega; split <;> omega
def MRd (h : zS) (n : Nat) (b : Nat → Nat) : zSt → Prop
  | .inl e => hI h 89 2 = e.1 ∧ hI h 89 3 = e.2 ∧ 0 < e.1
  | .inr T => hI h 89 2 = 0 ∧ hI h 89 3 = -1 ∧ MLex h n b T ∧ tnx T ≤ n ∧ tkM T
def rM (c i : Nat) : Prop := ¬ (c = 89 ∧ (i = 2 ∨ i = 3 ∨ i = 4 ∨ i = 6 ∨ i = 7 ∨ i = 8))
def mF (h h1 : zS) : Prop := zEw rM h h1 ∧ zEq (fun c => c ≠ 89) h h1
theorem mF.tr {h h1 h2 : zS} (a : mF h h1) (b : mF h1 h2) : mF h h2 := ⟨a.1.tr b.1, a.2.tr b.2⟩
theorem mF.rf {h : zS} : mF h h := ⟨zEw.rf, zEq.rf⟩
theorem fz_po {T : zTk} {why : Int} (hw : 0 < why) : 0 < (fz T why).1 := by
  unfold fz
  show 0 < (if tcd T = 17 then (1 : Int) else why)
  split <;> omega
theorem MRd.w {h h1 : zS} {n : Nat} {b : Nat → Nat} {s : zSt} (w : MRd h n b s) (e1 : ∀ i, 2 ≤ i → i ≤ 9 → hI h1 89 i = hI h 89 i ∧ hL h1 89 i = hL h 89 i) (e2 : ∀ i, hI h1 90 i = hI h 90 i) : MRd h1 n b s := by
  cases s with
  | inl e =>
    obtain ⟨a, b', c⟩ := w
    exact ⟨by rw [(e1 2 (by omega) (by omega)).1]; exact a, by rw [(e1 3 (by omega) (by omega)).1]; exact b', c⟩
  | inr T =>
    obtain ⟨a, b', ⟨x1, x2, x3, x4, x5, x6, x7⟩, c, dd⟩ := w
    exact ⟨by rw [(e1 2 (by omega) (by omega)).1]; exact a, by rw [(e1 3 (by omega) (by omega)).1]; exact b', ⟨by rw [(e1 5 (by omega) (by omega)).1]; exact x1, fun k hk => by rw [e2]; exact x2 k hk, fun z => by rw [(e1 4 (by omega) (by omega)).1]; exact x3 z, by rw [(e1 6 (by omega) (by omega)).1]; exact x4, by rw [(e1 7 (by omega) (by omega)).1]; exact x5, fun z => by rw [(e1 9 (by omega) (by omega)).2]; exact x6 z, fun z => by rw [(e1 8 (by omega) (by omega)).1]; exact x7 z⟩, c, dd⟩
section MR
variable {E : zE} {d : Nat} {h : zS}
theorem c_M_wrong {n : Nat} {b : Nat → Nat} {T : zTk} {why : Int} {Q : zS → Prop} (w : MRd h n b (.inr T)) (hw : 0 < why) (HQ : ∀ h1, MRd h1 n b (.inl (fz T why)) → mF h h1 → Q h1) : zCv E d m_X10_wrong [vo 89, vi why] h Q := by
  obtain ⟨w1, w2, w3, w4, w5⟩ := w
  refine v_X10_wrong ?_
  rw [w1]
  refine ⟨fun _ => ?_, fun c => by omega⟩
  have k6 := w3.2.2.2.1
  have k7 := w3.2.2.2.2.1
  intro h2 e2
  have W2 : zEw rM h h2 := by rw [e2]; exact zEw_I (by unfold rM; simp)
  obtain ⟨v2, n2, q2⟩ := st_cp e2
  clear e2
  have ev : (if hI h 89 6 ≠ 3 then why else 1) = (fz T why).1 := by
    unfold fz
    show _ = (if tcd T = 17 then (1 : Int) else why)
    by_cases c : tcd T = 17
    · rw [if_pos c, if_neg (by rw [k6]; exact fun q => q ((srt_3 w5.2).mpr c))]
    · rw [if_neg c, if_pos (by rw [k6]; exact fun q => c ((srt_3 w5.2).mp q))]
  rw [ev] at v2
  have p2 : hI h2 89 7 = (tpl T : Int) := by rw [n2 _ _ (by omega)]; exact k7
  rw [p2]
  intro h3 e3
  have W3 : zEw rM h2 h3 := by rw [e3]; exact zEw_I (by unfold rM; simp)
  obtain ⟨v3, n3, q3⟩ := st_cp e3
  clear e3
  exact HQ h3 ⟨by rw [n3 _ _ (by omega)]; exact v2, v3, fz_po hw⟩ ⟨W2.tr W3, q2.tr q3⟩
theorem c_M_tk {n : Nat} {b : Nat → Nat} {T : zTk} {Q : zS → Prop} (hn : n ≤ 1600) (w : MRd h n b (.inr T)) (nb : tcd T ≠ 17) (HQ : ∀ h1, MRd h1 n b (.inr (adv n b T)) → mF h h1 → Q h1) : zCv E (d + 1) m_X10_token [vo 89] h Q := by
  obtain ⟨w1, w2, w3, w4, w5⟩ := w
  refine c_M_token (n := n) (b := b) (i := tnx T) ⟨w3.1, w3.2.2.1 nb, w3.2.1⟩ hn w4 (fun h1 x1 y1 z1 => HQ h1 ⟨?_, ?_, x1, (tok_nx w4).1, tok_mn⟩ ⟨y1.wk (fun c i q => by unfold mW; unfold rM at q; omega), z1⟩)
  · rw [(y1 89 2 (by unfold mW; omega)).1]; exact w1
  · rw [(y1 89 3 (by unfold mW; omega)).1]; exact w2
theorem c_M_isWord {n k : Nat} {b : Nat → Nat} {T : zTk} {x : Int} {Q : Int → zS → Prop} (w : MRd h n b (.inr T)) (hk : k < 13) (hx : x = z_own.getD k 0) (HQ : Q (if tcd T = k then 1 else 0) h) : zCi E d m_X10_isWord [vo 89, vl x] h Q := by
  obtain ⟨w1, w2, w3, w4, w5⟩ := w
  refine v_X10_isWord ?_
  rw [w3.2.2.2.1]
  refine ⟨fun c => ?_, fun c => ?_⟩
  · have c : ¬ tcd T ≤ 13 := fun q => c ((srt_1 w5.2).mpr q)
    rw [if_neg (by omega)] at HQ; exact HQ
  · have c := (srt_1 w5.2).mp c
    rw [w3.2.2.2.2.2.1 c]
    have m := mean_k (w := twd T) hk
    rw [← w5.1 c] at m
    refine ⟨fun c2 => ?_, fun c2 => ?_⟩
    · rw [if_neg (fun q => c2 (lc_0.mpr (by rw [hx]; exact m.mp q)))] at HQ; exact HQ
    · rw [if_pos (m.mpr (by rw [← hx]; exact lc_0.mp c2))] at HQ; exact HQ
theorem c_M_isName {n : Nat} {b : Nat → Nat} {T : zTk} {Q : Int → zS → Prop} (w : MRd h n b (.inr T)) (HQ : Q (if tcd T = 13 then 1 else 0) h) : zCi E d m_X10_isName [vo 89] h Q := by
  obtain ⟨w1, w2, w3, w4, w5⟩ := w
  refine v_X10_isName ?_
  rw [w3.2.2.2.1]
  refine ⟨fun c => ?_, fun c => ?_⟩
  · have c := (srt_1 w5.2).mp c
    rw [w3.2.2.2.2.2.1 c]
    have m : ∀ k, k < 13 → (z_lcmp (twd T) (z_own.getD k 0) = 0 ↔ tcd T = k) := fun k hk => by
      have m := mean_k (w := twd T) hk
      rw [← w5.1 c] at m
      exact lc_0.trans m.symm
    have m0 : z_lcmp (twd T) 7302757 = 0 ↔ tcd T = 0 := m 0 (by omega)
    have m1 : z_lcmp (twd T) 422725643876 = 0 ↔ tcd T = 1 := m 1 (by omega)
    have m2 : z_lcmp (twd T) 108230850603124 = 0 ↔ tcd T = 2 := m 2 (by omega)
    have m3 : z_lcmp (twd T) 6451064 = 0 ↔ tcd T = 3 := m 3 (by omega)
    have m4 : z_lcmp (twd T) 1936486263 = 0 ↔ tcd T = 4 := m 4 (by omega)
    have m5 : z_lcmp (twd T) 448545973363 = 0 ↔ tcd T = 5 := m 5 (by omega)
    have m6 : z_lcmp (twd T) 1919513451 = 0 ↔ tcd T = 6 := m 6 (by omega)
    have m7 : z_lcmp (twd T) 461262647411 = 0 ↔ tcd T = 7 := m 7 (by omega)
    have m8 : z_lcmp (twd T) 444150998387 = 0 ↔ tcd T = 8 := m 8 (by omega)
    have m9 : z_lcmp (twd T) 499850634611 = 0 ↔ tcd T = 9 := m 9 (by omega)
    have m10 : z_lcmp (twd T) 1718775661 = 0 ↔ tcd T = 10 := m 10 (by omega)
    have m11 : z_lcmp (twd T) 29807 = 0 ↔ tcd T = 11 := m 11 (by omega)
    have m12 : z_lcmp (twd T) 1819632491 = 0 ↔ tcd T = 12 := m 12 (by omega)
    clear m
    intro y8 hy8 y15 hy15
    have e8 : y8 = if tcd T ≤ 6 then 1 else 0 := by
      rw [hy8]
      by_cases a0 : tcd T = 0
      · rw [if_pos (m0.mpr a0), if_pos (by omega)]
      · rw [if_neg (fun q => a0 (m0.mp q))]
        by_cases a1 : tcd T = 1
        · rw [if_pos (m1.mpr a1), if_pos (by omega)]
        · rw [if_neg (fun q => a1 (m1.mp q))]
          by_cases a2 : tcd T = 2
          · rw [if_pos (m2.mpr a2), if_pos (by omega)]
          · rw [if_neg (fun q => a2 (m2.mp q))]
            by_cases a3 : tcd T = 3
            · rw [if_pos (m3.mpr a3), if_pos (by omega)]
            · rw [if_neg (fun q => a3 (m3.mp q))]
              by_cases a4 : tcd T = 4
              · rw [if_pos (m4.mpr a4), if_pos (by omega)]
              · rw [if_neg (fun q => a4 (m4.mp q))]
                by_cases a5 : tcd T = 5
                · rw [if_pos (m5.mpr a5), if_pos (by omega)]
                · rw [if_neg (fun q => a5 (m5.mp q))]
                  by_cases a6 : tcd T = 6
                  · rw [if_neg (fun q => q (m6.mpr a6)), if_pos (by omega)]
                  · rw [if_pos (fun q => a6 (m6.mp q)), if_neg (by omega)]
    have e15 : y15 = if 7 ≤ tcd T ∧ tcd T ≤ 12 then 1 else 0 := by
      rw [hy15]
      by_cases a0 : tcd T = 7
      · rw [if_pos (m7.mpr a0), if_pos (by omega)]
      · rw [if_neg (fun q => a0 (m7.mp q))]
        by_cases a1 : tcd T = 8
        · rw [if_pos (m8.mpr a1), if_pos (by omega)]
        · rw [if_neg (fun q => a1 (m8.mp q))]
          by_cases a2 : tcd T = 9
          · rw [if_pos (m9.mpr a2), if_pos (by omega)]
          · rw [if_neg (fun q => a2 (m9.mp q))]
            by_cases a3 : tcd T = 10
            · rw [if_pos (m10.mpr a3), if_pos (by omega)]
            · rw [if_neg (fun q => a3 (m10.mp q))]
              by_cases a4 : tcd T = 11
              · rw [if_pos (m11.mpr a4), if_pos (by omega)]
              · rw [if_neg (fun q => a4 (m11.mp q))]
                by_cases a5 : tcd T = 12
                · rw [if_neg (fun q => q (m12.mpr a5)), if_pos (by omega)]
                · rw [if_pos (fun q => a5 (m12.mp q)), if_neg (by omega)]
    rw [e8, e15]
    by_cases c6 : tcd T ≤ 6
    · rw [if_pos c6]
      rw [if_neg (by omega)] at HQ
      exact ⟨fun _ => HQ, fun e => by omega⟩
    · rw [if_neg c6]
      refine ⟨fun e => absurd rfl e, fun _ => ?_⟩
      by_cases c12 : 7 ≤ tcd T ∧ tcd T ≤ 12
      · rw [if_pos c12]
        rw [if_neg (by omega)] at HQ
        exact ⟨fun _ => HQ, fun e => by omega⟩
      · rw [if_neg c12]
        rw [if_pos (by omega)] at HQ
        exact ⟨fun e => absurd rfl e, fun _ => HQ⟩
  · have c : ¬ tcd T ≤ 13 := fun q => c ((srt_1 w5.2).mpr q)
    rw [if_neg (by omega)] at HQ; exact HQ
theorem c_M_want {n k : Nat} {b : Nat → Nat} {s : zSt} {x : Int} {Q : zS → Prop} (hn : n ≤ 1600) (w : MRd h n b s) (hk : k < 13) (hx : x = z_own.getD k 0) (HQ : ∀ h1, MRd h1 n b (psS n b k s) → mF h h1 → Q h1) : zCv E (d + 2) m_X10_want [vo 89, vl x] h Q := by
  refine v_X10_want ?_
  cases s with
  | inl e =>
    have := w.2.2
    rw [w.1]
    exact ⟨fun c => by omega, fun _ => HQ h w mF.rf⟩
  | inr T =>
    rw [w.1]
    refine ⟨fun _ => ?_, fun c => by omega⟩
    refine c_M_isWord w hk hx ?_
    rw [psS_i] at HQ
    by_cases c : tcd T = k
    · rw [if_pos c] at HQ ⊢
      refine ⟨fun _ => ?_, fun e => by omega⟩
      exact c_M_tk hn w (by omega) HQ
    · rw [if_neg c] at HQ ⊢
      refine ⟨fun e => absurd rfl e, fun _ => ?_⟩
      exact c_M_wrong w (by omega) HQ
theorem c_M_toldNumber {n : Nat} {b : Nat → Nat} {lo hi : Int} {s : zSt} {Q : Int → zS → Prop} (hn : n ≤ 1600) (w : MRd h n b s) (HQ : ∀ y h1, MRd h1 n b (nmS n b lo hi s) → (∀ T', nmS n b lo hi s = .inr T' → y = nmV s) → mF h h1 → Q y h1) : zCi E (d + 2) m_X10_toldNumber [vo 89, vi lo, vi hi] h Q := by
  refine v_X10_toldNumber ?_
  cases s with
  | inl e =>
    have := w.2.2
    rw [w.1]
    exact ⟨fun c => by omega, fun _ => HQ 0 h w (fun T' q => by cases q) mF.rf⟩
  | inr T =>
    have x := w.2.2.1
    have tk := w.2.2.2.2
    rw [w.1]
    refine ⟨fun _ => ?_, fun c => by omega⟩
    rw [x.2.2.2.1]
    rw [nmS_i] at HQ
    have bad : ∀ why : Int, 0 < why → (∀ y h1, MRd h1 n b (.inl (fz T why)) → mF h h1 → Q y h1) → zCv E (d + 1) m_X10_wrong [vo 89, vi why] h (fun h1 => (((hI h1 89 2) ≠ 0 → (Q (hI h1 89 8) h1)) ∧ ((hI h1 89 2) = 0 → (zCv E (d + 1) m_X10_token [vo 89] h1 (fun h2 => Q (hI h1 89 8) h2))))) := by
      intro why hw q
      refine c_M_wrong w hw (fun h1 w1 e1 => ⟨fun _ => q _ h1 w1 e1, fun c => ?_⟩)
      have := w1.2.2
      rw [w1.1] at c; omega
    refine ⟨fun c => ?_, fun c => ?_⟩
    · have c := (srt_2 tk.2).mp c
      rw [x.2.2.2.2.2.2 c]
      rw [if_neg (by omega)] at HQ
      refine ⟨fun c2 => ?_, fun c2 => ⟨fun c3 => ⟨fun e => absurd rfl e, fun _ => ?_⟩, fun c3 => ?_⟩⟩
      · rw [if_pos (.inl c2)] at HQ
        exact bad 4 (by omega) (fun y h1 w1 e1 => HQ y h1 w1 (fun T' q => by cases q) e1)
      · rw [if_neg (by omega)] at HQ
        exact c_M_tk hn w (by omega) (fun h1 w1 e1 => HQ _ h1 w1 (fun T' q => rfl) e1)
      · rw [if_pos (.inr c3)] at HQ
        exact bad 4 (by omega) (fun y h1 w1 e1 => HQ y h1 w1 (fun T' q => by cases q) e1)
    · have c : tcd T ≠ 14 := fun q => c ((srt_2 tk.2).mpr q)
      rw [if_pos c] at HQ
      exact bad 2 (by omega) (fun y h1 w1 e1 => HQ y h1 w1 (fun T' q => by cases q) e1)
theorem c_M_told {n k : Nat} {b : Nat → Nat} {lo hi : Int} {s : zSt} {x : Int} {Q : Int → zS → Prop} (hn : n ≤ 1600) (w : MRd h n b s) (hk : k < 13) (hx : x = z_own.getD k 0) (HQ : ∀ y h1, MRd h1 n b (nmS n b lo hi (psS n b k s)) → (∀ T', nmS n b lo hi (psS n b k s) = .inr T' → y = nmV (psS n b k s)) → mF h h1 → Q y h1) : zCi E (d + 3) m_X10_told [vo 89, vl x, vi lo, vi hi] h Q := by
  refine v_X10_told ?_
  refine c_M_want hn w hk hx (fun h1 w1 e1 => ?_)
  exact c_M_toldNumber hn w1 (fun y h2 w2 z2 e2 => HQ y h2 w2 z2 (e1.tr e2))
def MDr (h : zS) (D : zDf) : Prop := hI h 89 24 = cn (dC D) ∧ hI h 89 25 = cgl (dC D) ∧ hI h 89 26 = cga (dC D) ∧ hI h 89 27 = cse (dC D) ∧ (hI h 89 28 = if dL D then clu (dC D) else -1) ∧ (∀ i, i < cn (dC D) → hL h 91 i = dN D i ∧ hI h 92 i = ckd (dC D) i ∧ hI h 93 i = csl (dC D) i ∧ hI h 94 i = cho (dC D) i ∧ hI h 95 i = cri (dC D) i ∧ hI h 96 i = cke (dC D) i) ∧ (∀ x y, x < 12 → y < 12 → hI h 97 (12 * x + y) = ctk (dC D) x y)
theorem MDr.w {h h1 : zS} {D : zDf} (w : MDr h D) (e : mF h h1) : MDr h1 D := by
  obtain ⟨a, b, c, d, f, g, i⟩ := w
  have q : ∀ k, 24 ≤ k → k ≤ 28 → hI h1 89 k = hI h 89 k := fun k h1' h2 => (e.1 89 k (by unfold rM; omega)).1
  refine ⟨by rw [q 24 (by omega) (by omega)]; exact a, by rw [q 25 (by omega) (by omega)]; exact b, by rw [q 26 (by omega) (by omega)]; exact c, by rw [q 27 (by omega) (by omega)]; exact d, by rw [q 28 (by omega) (by omega)]; exact f, fun x hx => ?_, fun x y hx hy => by rw [e.2.I (by omega)]; exact i x y hx hy⟩
  rw [e.2.L (by omega), e.2.I (by omega), e.2.I (by omega), e.2.I (by omega), e.2.I (by omega), e.2.I (by omega)]
  exact g x hx
theorem c_M_find {D : zDf} {w : Int} {Q : Int → zS → Prop} (hn12 : cn (dC D) ≤ 12) (h0 : hI h 89 24 = (cn (dC D) : Int)) (hN : ∀ i, i < cn (dC D) → hL h 91 i = dN D i) (hw : hL h 89 9 = w) (HQ : Q (fnd (dN D) w (cn (dC D))) h) : zCi E d m_X10_find [vo 89] h Q := by
  refine v_X10_find ?_
  refine z_upS (σ := Unit) (n := cn (dC D)) (fun i _ => zWi E d m_X10_find 4 [vo 89, vi (fnd (dN D) w i), vi i] h Q) (fun _ _ => True) ?_ ?_ 0 () (by omega) trivial
  · intro _ _
    exact r_X10_find_4 ⟨fun _ => HQ, fun c => by rw [h0] at c; omega⟩
  · intro i _ hi _ ih
    refine r_X10_find_4 ⟨fun c => by rw [h0] at c; omega, fun _ => ⟨by omega, ?_⟩⟩
    simp only [Int.toNat_natCast]
    rw [w32s (by omega)]
    have e1 := hN i hi
    intro y3 hy3
    have ey : y3 = fnd (dN D) w (i + 1) := by
      rw [hy3]
      show _ = (if dN D i = w then (i : Int) else fnd (dN D) w i)
      by_cases c : dN D i = w
      · rw [if_pos c, if_neg (by rw [e1, hw]; exact fun q => q (lc_0.mpr c))]
      · rw [if_neg c, if_pos (by rw [e1, hw]; exact fun q => c (lc_0.mp q))]
    rw [ey]
    exact ih () trivial
theorem c_M_old {n : Nat} {b : Nat → Nat} {D : zDf} {s : zSt} {Q : Int → zS → Prop} (hn : n ≤ 1600) (hD : okD D) (wD : (∃ T, s = .inr T) → MDr h D) (w : MRd h n b s) (HQ : ∀ y h1, MRd h1 n b (knS n b D s) → (∀ T', knS n b D s = .inr T' → y = knV D s) → mF h h1 → Q y h1) : zCi E (d + 2) m_X10_old [vo 89] h Q := by
  refine v_X10_old ?_
  cases s with
  | inl e =>
    have := w.2.2
    rw [w.1]
    exact ⟨fun c => by omega, fun _ => HQ 0 h w (fun T' q => by cases q) mF.rf⟩
  | inr T =>
    have x := w.2.2.1
    have tk := w.2.2.2.2
    have wd' := wD ⟨T, rfl⟩
    rw [w.1]
    refine ⟨fun _ => ?_, fun c => by omega⟩
    refine c_M_find (D := D) hD.1.1 wd'.1 (fun i hi => (wd'.2.2.2.2.2.1 i hi).1) rfl ?_
    refine c_M_isName w ?_
    rw [w.1]
    rw [knS_i] at HQ
    have bad : ∀ (y why : Int), 0 < why → (∀ h1, MRd h1 n b (.inl (fz T why)) → mF h h1 → Q y h1) → zCv E (d + 1) m_X10_wrong [vo 89, vi why] h (fun h6 => (((hI h6 89 2) ≠ 0 → (Q y h6)) ∧ ((hI h6 89 2) = 0 → (zCv E (d + 1) m_X10_token [vo 89] h6 (fun h7 => Q y h7))))) := by
      intro y why hw q
      refine c_M_wrong w hw (fun h1 w1 e1 => ⟨fun _ => q h1 w1 e1, fun c => ?_⟩)
      have := w1.2.2
      rw [w1.1] at c; omega
    by_cases c : tcd T = 13
    · rw [if_pos c]
      rw [if_neg (by omega)] at HQ
      rw [x.2.2.2.2.2.1 (by omega)]
      have eF : fnd (dN D) (twd T) (cn (dC D)) = dF D T := rfl
      rw [eF]
      refine ⟨fun _ => ⟨fun c2 => ⟨fun e => absurd rfl e, fun _ => ?_⟩, fun c2 => ?_⟩, fun e => by omega⟩
      · rw [if_neg (by omega)] at HQ
        exact c_M_tk hn w (by omega) (fun h1 w1 e1 => HQ _ h1 w1 (fun T' q => rfl) e1)
      · have c3 : dF D T = -1 := by
          rcases fnd_is (nm := dN D) (w := twd T) (cn (dC D)) with ⟨q, _⟩ | ⟨k, q, _⟩
          · exact q
          · rw [eF] at q; omega
        rw [if_pos c3] at HQ
        exact bad _ 5 (by omega) (fun h1 w1 e1 => HQ _ h1 w1 (fun T' q => by cases q) e1)
    · rw [if_neg c]
      rw [if_pos c] at HQ
      exact ⟨fun e => absurd rfl e, fun _ => bad _ 2 (by omega) (fun h1 w1 e1 => HQ _ h1 w1 (fun T' q => by cases q) e1)⟩
end MR
