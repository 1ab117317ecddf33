/-! the law: its loop -/
abbrev ar (E : zE) (i : Nat) (c : Int) : Int := (eX E (w32 ((i : Int) + c)).toNat).toInt
theorem kb {E : zE} {i c : Nat} (hc : c ≤ 5) (hi : i + 6 ≤ en E) (hn : en E ≤ 3072) : 0 ≤ w32 ((i : Int) + (c : Int)) ∧ w32 ((i : Int) + (c : Int)) < (en E : Int) := by rw [w32_id] <;> omega
theorem lcmp_0 (y : Int) : z_lcmp y y = 0 := by unfold z_lcmp; rw [if_neg (Int.lt_irrefl y), if_pos rfl]
theorem k_feed {E : zE} {i : Nat} {P : Option zV → zG → zS → Prop} {h : zS} (hi : i + 6 ≤ en E) (hn : en E ≤ 3072) (w : zGo h) (J : ∀ h, zGo h → zAt E 9 0 0 m_law 902 [vo 1000000, vo 0, vo 89, vi (i : Int)] [] g0 h P) : zAt E 9 0 0 m_law 164 [vo 1000000, vo 0, vo 89, vi (i : Int)] [] g0 h P := by
  refine a_aload_n (pc := 164) dL_law_164 rfl ?_
  refine a_aload_n (pc := 165) dL_law_165 rfl ?_
  refine a_iload_n (pc := 166) dL_law_166 rfl ?_
  refine a_iconst (pc := 167) dL_law_167 (by decide) ?_
  refine a_iadd (pc := 168) dL_law_168 ?_
  refine a_sload (pc := 169) dL_law_169 (kb (c := 1) (by decide) hi hn) ?_
  refine a_aload_n (pc := 170) dL_law_170 rfl ?_
  refine a_iload_n (pc := 171) dL_law_171 rfl ?_
  refine a_iconst (pc := 172) dL_law_172 (by decide) ?_
  refine a_iadd (pc := 173) dL_law_173 ?_
  refine a_sload (pc := 174) dL_law_174 (kb (c := 2) (by decide) hi hn) ?_
  refine a_aload_n (pc := 175) dL_law_175 rfl ?_
  refine a_iload_n (pc := 176) dL_law_176 rfl ?_
  refine a_iconst (pc := 177) dL_law_177 (by decide) ?_
  refine a_iadd (pc := 178) dL_law_178 ?_
  refine a_sload (pc := 179) dL_law_179 (kb (c := 3) (by decide) hi hn) ?_
  refine a_aload_n (pc := 180) dL_law_180 rfl ?_
  refine a_iload_n (pc := 181) dL_law_181 rfl ?_
  refine a_iconst (pc := 182) dL_law_182 (by decide) ?_
  refine a_iadd (pc := 183) dL_law_183 ?_
  refine a_sload (pc := 184) dL_law_184 (kb (c := 4) (by decide) hi hn) ?_
  refine a_aload_n (pc := 185) dL_law_185 rfl ?_
  refine a_iload_n (pc := 186) dL_law_186 rfl ?_
  refine a_iconst (pc := 187) dL_law_187 (by decide) ?_
  refine a_iadd (pc := 188) dL_law_188 ?_
  refine a_sload (pc := 189) dL_law_189 (kb (c := 5) (by decide) hi hn) ?_
  refine a_callV (pc := 190) (kc := 0) (ks := 0) (kc' := 0) (ks' := 0) (st := []) [vi (ar E i 1), vi (ar E i 2), vi (ar E i 3), vi (ar E i 4), vi (ar E i 5)] dL_law_190 ml_L_13 go_0 rfl (Nat.le_of_ble_eq_true rfl) (Nat.le_of_ble_eq_true rfl) (z_post (p_feed w) (fun r G1 h1 q => ?_))
  obtain ⟨y, rfl, rfl, H⟩ := q
  show zAt E 9 0 0 m_law 193 [vo 1000000, vo 0, vo 89, vi (i : Int)] [vi y] g0 h1 P
  refine a_aload_n (pc := 193) dL_law_193 rfl ?_
  refine a_aload_n (pc := 194) dL_law_194 rfl ?_
  refine a_iload_n (pc := 195) dL_law_195 rfl ?_
  refine a_iconst (pc := 196) dL_law_196 (by decide) ?_
  refine a_iadd (pc := 197) dL_law_197 ?_
  refine a_sload (pc := 198) dL_law_198 (kb (c := 1) (by decide) hi hn) ?_
  refine a_aload_n (pc := 199) dL_law_199 rfl ?_
  refine a_iload_n (pc := 200) dL_law_200 rfl ?_
  refine a_iconst (pc := 201) dL_law_201 (by decide) ?_
  refine a_iadd (pc := 202) dL_law_202 ?_
  refine a_sload (pc := 203) dL_law_203 (kb (c := 2) (by decide) hi hn) ?_
  refine a_aload_n (pc := 204) dL_law_204 rfl ?_
  refine a_iload_n (pc := 205) dL_law_205 rfl ?_
  refine a_iconst (pc := 206) dL_law_206 (by decide) ?_
  refine a_iadd (pc := 207) dL_law_207 ?_
  refine a_sload (pc := 208) dL_law_208 (kb (c := 3) (by decide) hi hn) ?_
  refine a_aload_n (pc := 209) dL_law_209 rfl ?_
  refine a_iload_n (pc := 210) dL_law_210 rfl ?_
  refine a_iconst (pc := 211) dL_law_211 (by decide) ?_
  refine a_iadd (pc := 212) dL_law_212 ?_
  refine a_sload (pc := 213) dL_law_213 (kb (c := 4) (by decide) hi hn) ?_
  refine a_aload_n (pc := 214) dL_law_214 rfl ?_
  refine a_iload_n (pc := 215) dL_law_215 rfl ?_
  refine a_iconst (pc := 216) dL_law_216 (by decide) ?_
  refine a_iadd (pc := 217) dL_law_217 ?_
  refine a_sload (pc := 218) dL_law_218 (kb (c := 5) (by decide) hi hn) ?_
  refine a_callV (pc := 219) (kc := 0) (ks := 0) (kc' := 0) (ks' := 0) (st := [vi y]) [vi (ar E i 1), vi (ar E i 2), vi (ar E i 3), vi (ar E i 4), vi (ar E i 5)] dL_law_219 ml_L_17 go_89 rfl (Nat.le_of_ble_eq_true rfl) (Nat.le_of_ble_eq_true rfl) (z_post H (fun r G1 h2 q => ?_))
  obtain ⟨y2, rfl, rfl, e, w2⟩ := q
  subst e
  show zAt E 9 0 0 m_law 222 [vo 1000000, vo 0, vo 89, vi (i : Int)] [vi y, vi y] g0 h2 P
  exact a_icmp_eq (pc := 222) (tgt := 902) dL_law_222 (by decide) (fun _ => J _ w2) (fun c => absurd rfl c)
theorem k_end {E : zE} {i : Nat} {P : Option zV → zG → zS → Prop} {h : zS} (hi : i + 6 ≤ en E) (hn : en E ≤ 3072) (w : zGo h) (J : ∀ h, zGo h → zAt E 9 0 0 m_law 902 [vo 1000000, vo 0, vo 89, vi (i : Int)] [] g0 h P) : zAt E 9 0 0 m_law 227 [vo 1000000, vo 0, vo 89, vi (i : Int)] [] g0 h P := by
  refine a_aload_n (pc := 227) dL_law_227 rfl ?_
  refine a_aload_n (pc := 228) dL_law_228 rfl ?_
  refine a_iload_n (pc := 229) dL_law_229 rfl ?_
  refine a_iconst (pc := 230) dL_law_230 (by decide) ?_
  refine a_iadd (pc := 231) dL_law_231 ?_
  refine a_sload (pc := 232) dL_law_232 (kb (c := 1) (by decide) hi hn) ?_
  refine a_callV (pc := 233) (kc := 0) (ks := 0) (kc' := 0) (ks' := 0) (st := []) [vi (ar E i 1)] dL_law_233 ml_L_18 go_0 rfl (Nat.le_of_ble_eq_true rfl) (Nat.le_of_ble_eq_true rfl) (z_post (p_end w) (fun r G1 h1 q => ?_))
  obtain ⟨y, rfl, rfl, H⟩ := q
  show zAt E 9 0 0 m_law 236 [vo 1000000, vo 0, vo 89, vi (i : Int)] [vi y] g0 h1 P
  refine a_aload_n (pc := 236) dL_law_236 rfl ?_
  refine a_aload_n (pc := 237) dL_law_237 rfl ?_
  refine a_iload_n (pc := 238) dL_law_238 rfl ?_
  refine a_iconst (pc := 239) dL_law_239 (by decide) ?_
  refine a_iadd (pc := 240) dL_law_240 ?_
  refine a_sload (pc := 241) dL_law_241 (kb (c := 1) (by decide) hi hn) ?_
  refine a_callV (pc := 242) (kc := 0) (ks := 0) (kc' := 0) (ks' := 0) (st := [vi y]) [vi (ar E i 1)] dL_law_242 ml_L_22 go_89 rfl (Nat.le_of_ble_eq_true rfl) (Nat.le_of_ble_eq_true rfl) (z_post H (fun r G1 h2 q => ?_))
  obtain ⟨y2, rfl, rfl, e, w2⟩ := q
  subst e
  show zAt E 9 0 0 m_law 245 [vo 1000000, vo 0, vo 89, vi (i : Int)] [vi y, vi y] g0 h2 P
  exact a_icmp_eq (pc := 245) (tgt := 902) dL_law_245 (by decide) (fun _ => J _ w2) (fun c => absurd rfl c)
theorem k_city {E : zE} {i : Nat} {P : Option zV → zG → zS → Prop} {h : zS} (hi : i + 6 ≤ en E) (hn : en E ≤ 3072) (w : zGo h) (J : ∀ h, zGo h → zAt E 9 0 0 m_law 902 [vo 1000000, vo 0, vo 89, vi (i : Int)] [] g0 h P) : zAt E 9 0 0 m_law 250 [vo 1000000, vo 0, vo 89, vi (i : Int)] [] g0 h P := by
  refine a_aload_n (pc := 250) dL_law_250 rfl ?_
  refine a_callV (pc := 251) (kc := 0) (ks := 0) (kc' := 0) (ks' := 0) (st := []) [] dL_law_251 ml_L_23 go_0 rfl (Nat.le_of_ble_eq_true rfl) (Nat.le_of_ble_eq_true rfl) (z_post (p_city w) (fun r G1 h1 q => ?_))
  obtain ⟨y, rfl, rfl, H⟩ := q
  show zAt E 9 0 0 m_law 254 [vo 1000000, vo 0, vo 89, vi (i : Int)] [vi y] g0 h1 P
  refine a_aload_n (pc := 254) dL_law_254 rfl ?_
  refine a_callV (pc := 255) (kc := 0) (ks := 0) (kc' := 0) (ks' := 0) (st := [vi y]) [] dL_law_255 ml_L_27 go_89 rfl (Nat.le_of_ble_eq_true rfl) (Nat.le_of_ble_eq_true rfl) (z_post H (fun r G1 h2 q => ?_))
  obtain ⟨y2, rfl, rfl, e, w2⟩ := q
  subst e
  show zAt E 9 0 0 m_law 258 [vo 1000000, vo 0, vo 89, vi (i : Int)] [vi y, vi y] g0 h2 P
  exact a_icmp_eq (pc := 258) (tgt := 902) dL_law_258 (by decide) (fun _ => J _ w2) (fun c => absurd rfl c)
theorem k_fault {E : zE} {i : Nat} {P : Option zV → zG → zS → Prop} {h : zS} (hi : i + 6 ≤ en E) (hn : en E ≤ 3072) (w : zGo h) (J : ∀ h, zGo h → zAt E 9 0 0 m_law 902 [vo 1000000, vo 0, vo 89, vi (i : Int)] [] g0 h P) : zAt E 9 0 0 m_law 263 [vo 1000000, vo 0, vo 89, vi (i : Int)] [] g0 h P := by
  refine a_aload_n (pc := 263) dL_law_263 rfl ?_
  refine a_aload_n (pc := 264) dL_law_264 rfl ?_
  refine a_iload_n (pc := 265) dL_law_265 rfl ?_
  refine a_iconst (pc := 266) dL_law_266 (by decide) ?_
  refine a_iadd (pc := 267) dL_law_267 ?_
  refine a_sload (pc := 268) dL_law_268 (kb (c := 1) (by decide) hi hn) ?_
  refine a_callV (pc := 269) (kc := 0) (ks := 0) (kc' := 0) (ks' := 0) (st := []) [vi (ar E i 1)] dL_law_269 ml_L_28 go_0 rfl (Nat.le_of_ble_eq_true rfl) (Nat.le_of_ble_eq_true rfl) (z_post (p_fault w) (fun r G1 h1 q => ?_))
  obtain ⟨y, rfl, rfl, H⟩ := q
  show zAt E 9 0 0 m_law 272 [vo 1000000, vo 0, vo 89, vi (i : Int)] [vi y] g0 h1 P
  refine a_aload_n (pc := 272) dL_law_272 rfl ?_
  refine a_aload_n (pc := 273) dL_law_273 rfl ?_
  refine a_iload_n (pc := 274) dL_law_274 rfl ?_
  refine a_iconst (pc := 275) dL_law_275 (by decide) ?_
  refine a_iadd (pc := 276) dL_law_276 ?_
  refine a_sload (pc := 277) dL_law_277 (kb (c := 1) (by decide) hi hn) ?_
  refine a_callV (pc := 278) (kc := 0) (ks := 0) (kc' := 0) (ks' := 0) (st := [vi y]) [vi (ar E i 1)] dL_law_278 ml_L_31 go_89 rfl (Nat.le_of_ble_eq_true rfl) (Nat.le_of_ble_eq_true rfl) (z_post H (fun r G1 h2 q => ?_))
  obtain ⟨y2, rfl, rfl, e, w2⟩ := q
  subst e
  show zAt E 9 0 0 m_law 281 [vo 1000000, vo 0, vo 89, vi (i : Int)] [vi y, vi y] g0 h2 P
  exact a_icmp_eq (pc := 281) (tgt := 902) dL_law_281 (by decide) (fun _ => J _ w2) (fun c => absurd rfl c)
theorem k_knows {E : zE} {i : Nat} {P : Option zV → zG → zS → Prop} {h : zS} (hi : i + 6 ≤ en E) (hn : en E ≤ 3072) (w : zGo h) (J : ∀ h, zGo h → zAt E 9 0 0 m_law 902 [vo 1000000, vo 0, vo 89, vi (i : Int)] [] g0 h P) : zAt E 9 0 0 m_law 286 [vo 1000000, vo 0, vo 89, vi (i : Int)] [] g0 h P := by
  refine a_aload_n (pc := 286) dL_law_286 rfl ?_
  refine a_aload_n (pc := 287) dL_law_287 rfl ?_
  refine a_iload_n (pc := 288) dL_law_288 rfl ?_
  refine a_iconst (pc := 289) dL_law_289 (by decide) ?_
  refine a_iadd (pc := 290) dL_law_290 ?_
  refine a_sload (pc := 291) dL_law_291 (kb (c := 1) (by decide) hi hn) ?_
  refine a_callV (pc := 292) (kc := 0) (ks := 0) (kc' := 0) (ks' := 0) (st := []) [vi (ar E i 1)] dL_law_292 ml_L_32 go_0 rfl (Nat.le_of_ble_eq_true rfl) (Nat.le_of_ble_eq_true rfl) (z_post (p_knows w) (fun r G1 h1 q => ?_))
  obtain ⟨y, rfl, rfl, H⟩ := q
  show zAt E 9 0 0 m_law 295 [vo 1000000, vo 0, vo 89, vi (i : Int)] [vi y] g0 h1 P
  refine a_aload_n (pc := 295) dL_law_295 rfl ?_
  refine a_aload_n (pc := 296) dL_law_296 rfl ?_
  refine a_iload_n (pc := 297) dL_law_297 rfl ?_
  refine a_iconst (pc := 298) dL_law_298 (by decide) ?_
  refine a_iadd (pc := 299) dL_law_299 ?_
  refine a_sload (pc := 300) dL_law_300 (kb (c := 1) (by decide) hi hn) ?_
  refine a_callV (pc := 301) (kc := 0) (ks := 0) (kc' := 0) (ks' := 0) (st := [vi y]) [vi (ar E i 1)] dL_law_301 ml_L_35 go_89 rfl (Nat.le_of_ble_eq_true rfl) (Nat.le_of_ble_eq_true rfl) (z_post H (fun r G1 h2 q => ?_))
  obtain ⟨y2, rfl, rfl, e, w2⟩ := q
  subst e
  show zAt E 9 0 0 m_law 304 [vo 1000000, vo 0, vo 89, vi (i : Int)] [vi y, vi y] g0 h2 P
  exact a_icmp_eq (pc := 304) (tgt := 902) dL_law_304 (by decide) (fun _ => J _ w2) (fun c => absurd rfl c)
theorem k_quick {E : zE} {i : Nat} {P : Option zV → zG → zS → Prop} {h : zS} (hi : i + 6 ≤ en E) (hn : en E ≤ 3072) (w : zGo h) (J : ∀ h, zGo h → zAt E 9 0 0 m_law 902 [vo 1000000, vo 0, vo 89, vi (i : Int)] [] g0 h P) : zAt E 9 0 0 m_law 309 [vo 1000000, vo 0, vo 89, vi (i : Int)] [] g0 h P := by
  refine a_aload_n (pc := 309) dL_law_309 rfl ?_
  refine a_callV (pc := 310) (kc := 0) (ks := 0) (kc' := 0) (ks' := 0) (st := []) [] dL_law_310 ml_L_36 go_0 rfl (Nat.le_of_ble_eq_true rfl) (Nat.le_of_ble_eq_true rfl) (z_post (p_quick w) (fun r G1 h1 q => ?_))
  obtain ⟨y, rfl, rfl, H⟩ := q
  show zAt E 9 0 0 m_law 313 [vo 1000000, vo 0, vo 89, vi (i : Int)] [vi y] g0 h1 P
  refine a_aload_n (pc := 313) dL_law_313 rfl ?_
  refine a_callV (pc := 314) (kc := 0) (ks := 0) (kc' := 0) (ks' := 0) (st := [vi y]) [] dL_law_314 ml_L_39 go_89 rfl (Nat.le_of_ble_eq_true rfl) (Nat.le_of_ble_eq_true rfl) (z_post H (fun r G1 h2 q => ?_))
  obtain ⟨y2, rfl, rfl, e, w2⟩ := q
  subst e
  show zAt E 9 0 0 m_law 317 [vo 1000000, vo 0, vo 89, vi (i : Int)] [vi y, vi y] g0 h2 P
  exact a_icmp_eq (pc := 317) (tgt := 902) dL_law_317 (by decide) (fun _ => J _ w2) (fun c => absurd rfl c)
theorem k_safe {E : zE} {i : Nat} {P : Option zV → zG → zS → Prop} {h : zS} (hi : i + 6 ≤ en E) (hn : en E ≤ 3072) (w : zGo h) (J : ∀ h, zGo h → zAt E 9 0 0 m_law 902 [vo 1000000, vo 0, vo 89, vi (i : Int)] [] g0 h P) : zAt E 9 0 0 m_law 322 [vo 1000000, vo 0, vo 89, vi (i : Int)] [] g0 h P := by
  refine a_aload_n (pc := 322) dL_law_322 rfl ?_
  refine a_aload_n (pc := 323) dL_law_323 rfl ?_
  refine a_iload_n (pc := 324) dL_law_324 rfl ?_
  refine a_iconst (pc := 325) dL_law_325 (by decide) ?_
  refine a_iadd (pc := 326) dL_law_326 ?_
  refine a_sload (pc := 327) dL_law_327 (kb (c := 1) (by decide) hi hn) ?_
  refine a_callV (pc := 328) (kc := 0) (ks := 0) (kc' := 0) (ks' := 0) (st := []) [vi (ar E i 1)] dL_law_328 ml_L_40 go_0 rfl (Nat.le_of_ble_eq_true rfl) (Nat.le_of_ble_eq_true rfl) (z_post (p_safe w) (fun r G1 h1 q => ?_))
  obtain ⟨y, rfl, rfl, H⟩ := q
  show zAt E 9 0 0 m_law 331 [vo 1000000, vo 0, vo 89, vi (i : Int)] [vl y] g0 h1 P
  refine a_aload_n (pc := 331) dL_law_331 rfl ?_
  refine a_aload_n (pc := 332) dL_law_332 rfl ?_
  refine a_iload_n (pc := 333) dL_law_333 rfl ?_
  refine a_iconst (pc := 334) dL_law_334 (by decide) ?_
  refine a_iadd (pc := 335) dL_law_335 ?_
  refine a_sload (pc := 336) dL_law_336 (kb (c := 1) (by decide) hi hn) ?_
  refine a_callV (pc := 337) (kc := 0) (ks := 0) (kc' := 0) (ks' := 0) (st := [vl y]) [vi (ar E i 1)] dL_law_337 ml_L_44 go_89 rfl (Nat.le_of_ble_eq_true rfl) (Nat.le_of_ble_eq_true rfl) (z_post H (fun r G1 h2 q => ?_))
  obtain ⟨y2, rfl, rfl, e, w2⟩ := q
  subst e
  show zAt E 9 0 0 m_law 340 [vo 1000000, vo 0, vo 89, vi (i : Int)] [vl y, vl y] g0 h2 P
  refine a_lcmp (pc := 340) dL_law_340 ?_
  exact a_if_eq (pc := 341) (tgt := 902) dL_law_341 (by decide) (fun _ => J _ w2) (fun c => absurd (lcmp_0 _) c)
theorem k_cheap {E : zE} {i : Nat} {P : Option zV → zG → zS → Prop} {h : zS} (hi : i + 6 ≤ en E) (hn : en E ≤ 3072) (w : zGo h) (J : ∀ h, zGo h → zAt E 9 0 0 m_law 902 [vo 1000000, vo 0, vo 89, vi (i : Int)] [] g0 h P) : zAt E 9 0 0 m_law 346 [vo 1000000, vo 0, vo 89, vi (i : Int)] [] g0 h P := by
  refine a_aload_n (pc := 346) dL_law_346 rfl ?_
  refine a_callV (pc := 347) (kc := 0) (ks := 0) (kc' := 0) (ks' := 0) (st := []) [] dL_law_347 ml_L_45 go_0 rfl (Nat.le_of_ble_eq_true rfl) (Nat.le_of_ble_eq_true rfl) (z_post (p_cheap w) (fun r G1 h1 q => ?_))
  obtain ⟨y, rfl, rfl, H⟩ := q
  show zAt E 9 0 0 m_law 350 [vo 1000000, vo 0, vo 89, vi (i : Int)] [vi y] g0 h1 P
  refine a_aload_n (pc := 350) dL_law_350 rfl ?_
  refine a_callV (pc := 351) (kc := 0) (ks := 0) (kc' := 0) (ks' := 0) (st := [vi y]) [] dL_law_351 ml_L_48 go_89 rfl (Nat.le_of_ble_eq_true rfl) (Nat.le_of_ble_eq_true rfl) (z_post H (fun r G1 h2 q => ?_))
  obtain ⟨y2, rfl, rfl, e, w2⟩ := q
  subst e
  show zAt E 9 0 0 m_law 354 [vo 1000000, vo 0, vo 89, vi (i : Int)] [vi y, vi y] g0 h2 P
  exact a_icmp_eq (pc := 354) (tgt := 902) dL_law_354 (by decide) (fun _ => J _ w2) (fun c => absurd rfl c)
theorem k_lies {E : zE} {i : Nat} {P : Option zV → zG → zS → Prop} {h : zS} (hi : i + 6 ≤ en E) (hn : en E ≤ 3072) (w : zGo h) (J : ∀ h, zGo h → zAt E 9 0 0 m_law 902 [vo 1000000, vo 0, vo 89, vi (i : Int)] [] g0 h P) : zAt E 9 0 0 m_law 359 [vo 1000000, vo 0, vo 89, vi (i : Int)] [] g0 h P := by
  refine a_aload_n (pc := 359) dL_law_359 rfl ?_
  refine a_aload_n (pc := 360) dL_law_360 rfl ?_
  refine a_iload_n (pc := 361) dL_law_361 rfl ?_
  refine a_iconst (pc := 362) dL_law_362 (by decide) ?_
  refine a_iadd (pc := 363) dL_law_363 ?_
  refine a_sload (pc := 364) dL_law_364 (kb (c := 1) (by decide) hi hn) ?_
  refine a_callV (pc := 365) (kc := 0) (ks := 0) (kc' := 0) (ks' := 0) (st := []) [vi (ar E i 1)] dL_law_365 ml_L_49 go_0 rfl (Nat.le_of_ble_eq_true rfl) (Nat.le_of_ble_eq_true rfl) (z_post (p_lies w) (fun r G1 h1 q => ?_))
  obtain ⟨y, rfl, rfl, H⟩ := q
  show zAt E 9 0 0 m_law 368 [vo 1000000, vo 0, vo 89, vi (i : Int)] [vi y] g0 h1 P
  refine a_aload_n (pc := 368) dL_law_368 rfl ?_
  refine a_aload_n (pc := 369) dL_law_369 rfl ?_
  refine a_iload_n (pc := 370) dL_law_370 rfl ?_
  refine a_iconst (pc := 371) dL_law_371 (by decide) ?_
  refine a_iadd (pc := 372) dL_law_372 ?_
  refine a_sload (pc := 373) dL_law_373 (kb (c := 1) (by decide) hi hn) ?_
  refine a_callV (pc := 374) (kc := 0) (ks := 0) (kc' := 0) (ks' := 0) (st := [vi y]) [vi (ar E i 1)] dL_law_374 ml_L_52 go_89 rfl (Nat.le_of_ble_eq_true rfl) (Nat.le_of_ble_eq_true rfl) (z_post H (fun r G1 h2 q => ?_))
  obtain ⟨y2, rfl, rfl, e, w2⟩ := q
  subst e
  show zAt E 9 0 0 m_law 377 [vo 1000000, vo 0, vo 89, vi (i : Int)] [vi y, vi y] g0 h2 P
  exact a_icmp_eq (pc := 377) (tgt := 902) dL_law_377 (by decide) (fun _ => J _ w2) (fun c => absurd rfl c)
theorem k_apart {E : zE} {i : Nat} {P : Option zV → zG → zS → Prop} {h : zS} (hi : i + 6 ≤ en E) (hn : en E ≤ 3072) (w : zGo h) (J : ∀ h, zGo h → zAt E 9 0 0 m_law 902 [vo 1000000, vo 0, vo 89, vi (i : Int)] [] g0 h P) : zAt E 9 0 0 m_law 382 [vo 1000000, vo 0, vo 89, vi (i : Int)] [] g0 h P := by
  refine a_aload_n (pc := 382) dL_law_382 rfl ?_
  refine a_callV (pc := 383) (kc := 0) (ks := 0) (kc' := 0) (ks' := 0) (st := []) [] dL_law_383 ml_L_53 go_0 rfl (Nat.le_of_ble_eq_true rfl) (Nat.le_of_ble_eq_true rfl) (z_post (p_apart w) (fun r G1 h1 q => ?_))
  obtain ⟨y, rfl, rfl, H⟩ := q
  show zAt E 9 0 0 m_law 386 [vo 1000000, vo 0, vo 89, vi (i : Int)] [vi y] g0 h1 P
  refine a_aload_n (pc := 386) dL_law_386 rfl ?_
  refine a_callV (pc := 387) (kc := 0) (ks := 0) (kc' := 0) (ks' := 0) (st := [vi y]) [] dL_law_387 ml_L_56 go_89 rfl (Nat.le_of_ble_eq_true rfl) (Nat.le_of_ble_eq_true rfl) (z_post H (fun r G1 h2 q => ?_))
  obtain ⟨y2, rfl, rfl, e, w2⟩ := q
  subst e
  show zAt E 9 0 0 m_law 390 [vo 1000000, vo 0, vo 89, vi (i : Int)] [vi y, vi y] g0 h2 P
  exact a_icmp_eq (pc := 390) (tgt := 902) dL_law_390 (by decide) (fun _ => J _ w2) (fun c => absurd rfl c)
theorem k_cut {E : zE} {i : Nat} {P : Option zV → zG → zS → Prop} {h : zS} (hi : i + 6 ≤ en E) (hn : en E ≤ 3072) (w : zGo h) (J : ∀ h, zGo h → zAt E 9 0 0 m_law 902 [vo 1000000, vo 0, vo 89, vi (i : Int)] [] g0 h P) : zAt E 9 0 0 m_law 395 [vo 1000000, vo 0, vo 89, vi (i : Int)] [] g0 h P := by
  refine a_aload_n (pc := 395) dL_law_395 rfl ?_
  refine a_callV (pc := 396) (kc := 0) (ks := 0) (kc' := 0) (ks' := 0) (st := []) [] dL_law_396 ml_L_57 go_0 rfl (Nat.le_of_ble_eq_true rfl) (Nat.le_of_ble_eq_true rfl) (z_post (p_cut w) (fun r G1 h1 q => ?_))
  obtain ⟨y, rfl, rfl, H⟩ := q
  show zAt E 9 0 0 m_law 399 [vo 1000000, vo 0, vo 89, vi (i : Int)] [vi y] g0 h1 P
  refine a_aload_n (pc := 399) dL_law_399 rfl ?_
  refine a_callV (pc := 400) (kc := 0) (ks := 0) (kc' := 0) (ks' := 0) (st := [vi y]) [] dL_law_400 ml_L_60 go_89 rfl (Nat.le_of_ble_eq_true rfl) (Nat.le_of_ble_eq_true rfl) (z_post H (fun r G1 h2 q => ?_))
  obtain ⟨y2, rfl, rfl, e, w2⟩ := q
  subst e
  show zAt E 9 0 0 m_law 403 [vo 1000000, vo 0, vo 89, vi (i : Int)] [vi y, vi y] g0 h2 P
  exact a_icmp_eq (pc := 403) (tgt := 902) dL_law_403 (by decide) (fun _ => J _ w2) (fun c => absurd rfl c)
theorem k_fall {E : zE} {i : Nat} {P : Option zV → zG → zS → Prop} {h : zS} (hi : i + 6 ≤ en E) (hn : en E ≤ 3072) (w : zGo h) (J : ∀ h, zGo h → zAt E 9 0 0 m_law 902 [vo 1000000, vo 0, vo 89, vi (i : Int)] [] g0 h P) : zAt E 9 0 0 m_law 408 [vo 1000000, vo 0, vo 89, vi (i : Int)] [] g0 h P := by
  refine a_aload_n (pc := 408) dL_law_408 rfl ?_
  refine a_aload_n (pc := 409) dL_law_409 rfl ?_
  refine a_iload_n (pc := 410) dL_law_410 rfl ?_
  refine a_iconst (pc := 411) dL_law_411 (by decide) ?_
  refine a_iadd (pc := 412) dL_law_412 ?_
  refine a_sload (pc := 413) dL_law_413 (kb (c := 1) (by decide) hi hn) ?_
  refine a_aload_n (pc := 414) dL_law_414 rfl ?_
  refine a_iload_n (pc := 415) dL_law_415 rfl ?_
  refine a_iconst (pc := 416) dL_law_416 (by decide) ?_
  refine a_iadd (pc := 417) dL_law_417 ?_
  refine a_sload (pc := 418) dL_law_418 (kb (c := 2) (by decide) hi hn) ?_
  refine a_aload_n (pc := 419) dL_law_419 rfl ?_
  refine a_iload_n (pc := 420) dL_law_420 rfl ?_
  refine a_iconst (pc := 421) dL_law_421 (by decide) ?_
  refine a_iadd (pc := 422) dL_law_422 ?_
  refine a_sload (pc := 423) dL_law_423 (kb (c := 3) (by decide) hi hn) ?_
  refine a_callV (pc := 424) (kc := 0) (ks := 0) (kc' := 0) (ks' := 0) (st := []) [vi (ar E i 1), vi (ar E i 2), vi (ar E i 3)] dL_law_424 ml_L_61 go_0 rfl (Nat.le_of_ble_eq_true rfl) (Nat.le_of_ble_eq_true rfl) (z_post (p_fall w) (fun r G1 h1 q => ?_))
  obtain ⟨y, rfl, rfl, H⟩ := q
  show zAt E 9 0 0 m_law 427 [vo 1000000, vo 0, vo 89, vi (i : Int)] [vi y] g0 h1 P
  refine a_aload_n (pc := 427) dL_law_427 rfl ?_
  refine a_aload_n (pc := 428) dL_law_428 rfl ?_
  refine a_iload_n (pc := 429) dL_law_429 rfl ?_
  refine a_iconst (pc := 430) dL_law_430 (by decide) ?_
  refine a_iadd (pc := 431) dL_law_431 ?_
  refine a_sload (pc := 432) dL_law_432 (kb (c := 1) (by decide) hi hn) ?_
  refine a_aload_n (pc := 433) dL_law_433 rfl ?_
  refine a_iload_n (pc := 434) dL_law_434 rfl ?_
  refine a_iconst (pc := 435) dL_law_435 (by decide) ?_
  refine a_iadd (pc := 436) dL_law_436 ?_
  refine a_sload (pc := 437) dL_law_437 (kb (c := 2) (by decide) hi hn) ?_
  refine a_aload_n (pc := 438) dL_law_438 rfl ?_
  refine a_iload_n (pc := 439) dL_law_439 rfl ?_
  refine a_iconst (pc := 440) dL_law_440 (by decide) ?_
  refine a_iadd (pc := 441) dL_law_441 ?_
  refine a_sload (pc := 442) dL_law_442 (kb (c := 3) (by decide) hi hn) ?_
  refine a_callV (pc := 443) (kc := 0) (ks := 0) (kc' := 0) (ks' := 0) (st := [vi y]) [vi (ar E i 1), vi (ar E i 2), vi (ar E i 3)] dL_law_443 ml_L_65 go_89 rfl (Nat.le_of_ble_eq_true rfl) (Nat.le_of_ble_eq_true rfl) (z_post H (fun r G1 h2 q => ?_))
  obtain ⟨y2, rfl, rfl, e, w2⟩ := q
  subst e
  show zAt E 9 0 0 m_law 446 [vo 1000000, vo 0, vo 89, vi (i : Int)] [vi y, vi y] g0 h2 P
  exact a_icmp_eq (pc := 446) (tgt := 902) dL_law_446 (by decide) (fun _ => J _ w2) (fun c => absurd rfl c)
theorem k_worst {E : zE} {i : Nat} {P : Option zV → zG → zS → Prop} {h : zS} (hi : i + 6 ≤ en E) (hn : en E ≤ 3072) (w : zGo h) (J : ∀ h, zGo h → zAt E 9 0 0 m_law 902 [vo 1000000, vo 0, vo 89, vi (i : Int)] [] g0 h P) : zAt E 9 0 0 m_law 451 [vo 1000000, vo 0, vo 89, vi (i : Int)] [] g0 h P := by
  refine a_aload_n (pc := 451) dL_law_451 rfl ?_
  refine a_aload_n (pc := 452) dL_law_452 rfl ?_
  refine a_iload_n (pc := 453) dL_law_453 rfl ?_
  refine a_iconst (pc := 454) dL_law_454 (by decide) ?_
  refine a_iadd (pc := 455) dL_law_455 ?_
  refine a_sload (pc := 456) dL_law_456 (kb (c := 1) (by decide) hi hn) ?_
  refine a_callV (pc := 457) (kc := 0) (ks := 0) (kc' := 0) (ks' := 0) (st := []) [vi (ar E i 1)] dL_law_457 ml_L_66 go_0 rfl (Nat.le_of_ble_eq_true rfl) (Nat.le_of_ble_eq_true rfl) (z_post (p_worst w) (fun r G1 h1 q => ?_))
  obtain ⟨y, rfl, rfl, H⟩ := q
  show zAt E 9 0 0 m_law 460 [vo 1000000, vo 0, vo 89, vi (i : Int)] [vi y] g0 h1 P
  refine a_aload_n (pc := 460) dL_law_460 rfl ?_
  refine a_aload_n (pc := 461) dL_law_461 rfl ?_
  refine a_iload_n (pc := 462) dL_law_462 rfl ?_
  refine a_iconst (pc := 463) dL_law_463 (by decide) ?_
  refine a_iadd (pc := 464) dL_law_464 ?_
  refine a_sload (pc := 465) dL_law_465 (kb (c := 1) (by decide) hi hn) ?_
  refine a_callV (pc := 466) (kc := 0) (ks := 0) (kc' := 0) (ks' := 0) (st := [vi y]) [vi (ar E i 1)] dL_law_466 ml_L_69 go_89 rfl (Nat.le_of_ble_eq_true rfl) (Nat.le_of_ble_eq_true rfl) (z_post H (fun r G1 h2 q => ?_))
  obtain ⟨y2, rfl, rfl, e, w2⟩ := q
  subst e
  show zAt E 9 0 0 m_law 469 [vo 1000000, vo 0, vo 89, vi (i : Int)] [vi y, vi y] g0 h2 P
  exact a_icmp_eq (pc := 469) (tgt := 902) dL_law_469 (by decide) (fun _ => J _ w2) (fun c => absurd rfl c)
theorem k_send {E : zE} {i : Nat} {P : Option zV → zG → zS → Prop} {h : zS} (hi : i + 6 ≤ en E) (hn : en E ≤ 3072) (w : zGo h) (J : ∀ h, zGo h → zAt E 9 0 0 m_law 902 [vo 1000000, vo 0, vo 89, vi (i : Int)] [] g0 h P) : zAt E 9 0 0 m_law 474 [vo 1000000, vo 0, vo 89, vi (i : Int)] [] g0 h P := by
  refine a_aload_n (pc := 474) dL_law_474 rfl ?_
  refine a_callV (pc := 475) (kc := 0) (ks := 0) (kc' := 0) (ks' := 0) (st := []) [] dL_law_475 ml_L_70 go_0 rfl (Nat.le_of_ble_eq_true rfl) (Nat.le_of_ble_eq_true rfl) (z_post (p_send w) (fun r G1 h1 q => ?_))
  obtain ⟨y, rfl, rfl, H⟩ := q
  show zAt E 9 0 0 m_law 478 [vo 1000000, vo 0, vo 89, vi (i : Int)] [vi y] g0 h1 P
  refine a_aload_n (pc := 478) dL_law_478 rfl ?_
  refine a_callV (pc := 479) (kc := 0) (ks := 0) (kc' := 0) (ks' := 0) (st := [vi y]) [] dL_law_479 ml_L_73 go_89 rfl (Nat.le_of_ble_eq_true rfl) (Nat.le_of_ble_eq_true rfl) (z_post H (fun r G1 h2 q => ?_))
  obtain ⟨y2, rfl, rfl, e, w2⟩ := q
  subst e
  show zAt E 9 0 0 m_law 482 [vo 1000000, vo 0, vo 89, vi (i : Int)] [vi y, vi y] g0 h2 P
  exact a_icmp_eq (pc := 482) (tgt := 902) dL_law_482 (by decide) (fun _ => J _ w2) (fun c => absurd rfl c)
theorem k_day {E : zE} {i : Nat} {P : Option zV → zG → zS → Prop} {h : zS} (hi : i + 6 ≤ en E) (hn : en E ≤ 3072) (w : zGo h) (J : ∀ h, zGo h → zAt E 9 0 0 m_law 902 [vo 1000000, vo 0, vo 89, vi (i : Int)] [] g0 h P) : zAt E 9 0 0 m_law 487 [vo 1000000, vo 0, vo 89, vi (i : Int)] [] g0 h P := by
  refine a_aload_n (pc := 487) dL_law_487 rfl ?_
  refine a_aload_n (pc := 488) dL_law_488 rfl ?_
  refine a_iload_n (pc := 489) dL_law_489 rfl ?_
  refine a_iconst (pc := 490) dL_law_490 (by decide) ?_
  refine a_iadd (pc := 491) dL_law_491 ?_
  refine a_sload (pc := 492) dL_law_492 (kb (c := 1) (by decide) hi hn) ?_
  refine a_callV (pc := 493) (kc := 0) (ks := 0) (kc' := 0) (ks' := 0) (st := []) [vi (ar E i 1)] dL_law_493 ml_L_74 go_0 rfl (Nat.le_of_ble_eq_true rfl) (Nat.le_of_ble_eq_true rfl) (z_post (p_day w) (fun r G1 h1 q => ?_))
  obtain ⟨y, rfl, rfl, H⟩ := q
  show zAt E 9 0 0 m_law 496 [vo 1000000, vo 0, vo 89, vi (i : Int)] [vi y] g0 h1 P
  refine a_aload_n (pc := 496) dL_law_496 rfl ?_
  refine a_aload_n (pc := 497) dL_law_497 rfl ?_
  refine a_iload_n (pc := 498) dL_law_498 rfl ?_
  refine a_iconst (pc := 499) dL_law_499 (by decide) ?_
  refine a_iadd (pc := 500) dL_law_500 ?_
  refine a_sload (pc := 501) dL_law_501 (kb (c := 1) (by decide) hi hn) ?_
  refine a_callV (pc := 502) (kc := 0) (ks := 0) (kc' := 0) (ks' := 0) (st := [vi y]) [vi (ar E i 1)] dL_law_502 ml_L_77 go_89 rfl (Nat.le_of_ble_eq_true rfl) (Nat.le_of_ble_eq_true rfl) (z_post H (fun r G1 h2 q => ?_))
  obtain ⟨y2, rfl, rfl, e, w2⟩ := q
  subst e
  show zAt E 9 0 0 m_law 505 [vo 1000000, vo 0, vo 89, vi (i : Int)] [vi y, vi y] g0 h2 P
  exact a_icmp_eq (pc := 505) (tgt := 902) dL_law_505 (by decide) (fun _ => J _ w2) (fun c => absurd rfl c)
theorem k_take {E : zE} {i : Nat} {P : Option zV → zG → zS → Prop} {h : zS} (hi : i + 6 ≤ en E) (hn : en E ≤ 3072) (w : zGo h) (J : ∀ h, zGo h → zAt E 9 0 0 m_law 902 [vo 1000000, vo 0, vo 89, vi (i : Int)] [] g0 h P) : zAt E 9 0 0 m_law 510 [vo 1000000, vo 0, vo 89, vi (i : Int)] [] g0 h P := by
  refine a_aload_n (pc := 510) dL_law_510 rfl ?_
  refine a_aload_n (pc := 511) dL_law_511 rfl ?_
  refine a_iload_n (pc := 512) dL_law_512 rfl ?_
  refine a_iconst (pc := 513) dL_law_513 (by decide) ?_
  refine a_iadd (pc := 514) dL_law_514 ?_
  refine a_sload (pc := 515) dL_law_515 (kb (c := 1) (by decide) hi hn) ?_
  refine a_callV (pc := 516) (kc := 0) (ks := 0) (kc' := 0) (ks' := 0) (st := []) [vi (ar E i 1)] dL_law_516 ml_L_78 go_0 rfl (Nat.le_of_ble_eq_true rfl) (Nat.le_of_ble_eq_true rfl) (z_post (p_take w) (fun r G1 h1 q => ?_))
  obtain ⟨y, rfl, rfl, H⟩ := q
  show zAt E 9 0 0 m_law 519 [vo 1000000, vo 0, vo 89, vi (i : Int)] [vi y] g0 h1 P
  refine a_aload_n (pc := 519) dL_law_519 rfl ?_
  refine a_aload_n (pc := 520) dL_law_520 rfl ?_
  refine a_iload_n (pc := 521) dL_law_521 rfl ?_
  refine a_iconst (pc := 522) dL_law_522 (by decide) ?_
  refine a_iadd (pc := 523) dL_law_523 ?_
  refine a_sload (pc := 524) dL_law_524 (kb (c := 1) (by decide) hi hn) ?_
  refine a_callV (pc := 525) (kc := 0) (ks := 0) (kc' := 0) (ks' := 0) (st := [vi y]) [vi (ar E i 1)] dL_law_525 ml_L_81 go_89 rfl (Nat.le_of_ble_eq_true rfl) (Nat.le_of_ble_eq_true rfl) (z_post H (fun r G1 h2 q => ?_))
  obtain ⟨y2, rfl, rfl, e, w2⟩ := q
  subst e
  show zAt E 9 0 0 m_law 528 [vo 1000000, vo 0, vo 89, vi (i : Int)] [vi y, vi y] g0 h2 P
  exact a_icmp_eq (pc := 528) (tgt := 902) dL_law_528 (by decide) (fun _ => J _ w2) (fun c => absurd rfl c)
theorem k_meet {E : zE} {i : Nat} {P : Option zV → zG → zS → Prop} {h : zS} (hi : i + 6 ≤ en E) (hn : en E ≤ 3072) (w : zGo h) (J : ∀ h, zGo h → zAt E 9 0 0 m_law 902 [vo 1000000, vo 0, vo 89, vi (i : Int)] [] g0 h P) : zAt E 9 0 0 m_law 533 [vo 1000000, vo 0, vo 89, vi (i : Int)] [] g0 h P := by
  refine a_aload_n (pc := 533) dL_law_533 rfl ?_
  refine a_aload_n (pc := 534) dL_law_534 rfl ?_
  refine a_iload_n (pc := 535) dL_law_535 rfl ?_
  refine a_iconst (pc := 536) dL_law_536 (by decide) ?_
  refine a_iadd (pc := 537) dL_law_537 ?_
  refine a_sload (pc := 538) dL_law_538 (kb (c := 1) (by decide) hi hn) ?_
  refine a_aload_n (pc := 539) dL_law_539 rfl ?_
  refine a_iload_n (pc := 540) dL_law_540 rfl ?_
  refine a_iconst (pc := 541) dL_law_541 (by decide) ?_
  refine a_iadd (pc := 542) dL_law_542 ?_
  refine a_sload (pc := 543) dL_law_543 (kb (c := 2) (by decide) hi hn) ?_
  refine a_aload_n (pc := 544) dL_law_544 rfl ?_
  refine a_iload_n (pc := 545) dL_law_545 rfl ?_
  refine a_iconst (pc := 546) dL_law_546 (by decide) ?_
  refine a_iadd (pc := 547) dL_law_547 ?_
  refine a_sload (pc := 548) dL_law_548 (kb (c := 3) (by decide) hi hn) ?_
  refine a_callV (pc := 549) (kc := 0) (ks := 0) (kc' := 0) (ks' := 0) (st := []) [vi (ar E i 1), vi (ar E i 2), vi (ar E i 3)] dL_law_549 ml_L_82 go_0 rfl (Nat.le_of_ble_eq_true rfl) (Nat.le_of_ble_eq_true rfl) (z_post (p_meet w) (fun r G1 h1 q => ?_))
  obtain ⟨y, rfl, rfl, H⟩ := q
  show zAt E 9 0 0 m_law 552 [vo 1000000, vo 0, vo 89, vi (i : Int)] [vi y] g0 h1 P
  refine a_aload_n (pc := 552) dL_law_552 rfl ?_
  refine a_aload_n (pc := 553) dL_law_553 rfl ?_
  refine a_iload_n (pc := 554) dL_law_554 rfl ?_
  refine a_iconst (pc := 555) dL_law_555 (by decide) ?_
  refine a_iadd (pc := 556) dL_law_556 ?_
  refine a_sload (pc := 557) dL_law_557 (kb (c := 1) (by decide) hi hn) ?_
  refine a_aload_n (pc := 558) dL_law_558 rfl ?_
  refine a_iload_n (pc := 559) dL_law_559 rfl ?_
  refine a_iconst (pc := 560) dL_law_560 (by decide) ?_
  refine a_iadd (pc := 561) dL_law_561 ?_
  refine a_sload (pc := 562) dL_law_562 (kb (c := 2) (by decide) hi hn) ?_
  refine a_aload_n (pc := 563) dL_law_563 rfl ?_
  refine a_iload_n (pc := 564) dL_law_564 rfl ?_
  refine a_iconst (pc := 565) dL_law_565 (by decide) ?_
  refine a_iadd (pc := 566) dL_law_566 ?_
  refine a_sload (pc := 567) dL_law_567 (kb (c := 3) (by decide) hi hn) ?_
  refine a_callV (pc := 568) (kc := 0) (ks := 0) (kc' := 0) (ks' := 0) (st := [vi y]) [vi (ar E i 1), vi (ar E i 2), vi (ar E i 3)] dL_law_568 ml_L_86 go_89 rfl (Nat.le_of_ble_eq_true rfl) (Nat.le_of_ble_eq_true rfl) (z_post H (fun r G1 h2 q => ?_))
  obtain ⟨y2, rfl, rfl, e, w2⟩ := q
  subst e
  show zAt E 9 0 0 m_law 571 [vo 1000000, vo 0, vo 89, vi (i : Int)] [vi y, vi y] g0 h2 P
  exact a_icmp_eq (pc := 571) (tgt := 902) dL_law_571 (by decide) (fun _ => J _ w2) (fun c => absurd rfl c)
theorem k_one {E : zE} {i : Nat} {P : Option zV → zG → zS → Prop} {h : zS} (hi : i + 6 ≤ en E) (hn : en E ≤ 3072) (w : zGo h) (J : ∀ h, zGo h → zAt E 9 0 0 m_law 902 [vo 1000000, vo 0, vo 89, vi (i : Int)] [] g0 h P) : zAt E 9 0 0 m_law 576 [vo 1000000, vo 0, vo 89, vi (i : Int)] [] g0 h P := by
  refine a_aload_n (pc := 576) dL_law_576 rfl ?_
  refine a_aload_n (pc := 577) dL_law_577 rfl ?_
  refine a_iload_n (pc := 578) dL_law_578 rfl ?_
  refine a_iconst (pc := 579) dL_law_579 (by decide) ?_
  refine a_iadd (pc := 580) dL_law_580 ?_
  refine a_sload (pc := 581) dL_law_581 (kb (c := 1) (by decide) hi hn) ?_
  refine a_aload_n (pc := 582) dL_law_582 rfl ?_
  refine a_iload_n (pc := 583) dL_law_583 rfl ?_
  refine a_iconst (pc := 584) dL_law_584 (by decide) ?_
  refine a_iadd (pc := 585) dL_law_585 ?_
  refine a_sload (pc := 586) dL_law_586 (kb (c := 2) (by decide) hi hn) ?_
  refine a_callV (pc := 587) (kc := 0) (ks := 0) (kc' := 0) (ks' := 0) (st := []) [vi (ar E i 1), vi (ar E i 2)] dL_law_587 ml_L_87 go_0 rfl (Nat.le_of_ble_eq_true rfl) (Nat.le_of_ble_eq_true rfl) (z_post (p_one w) (fun r G1 h1 q => ?_))
  obtain ⟨y, rfl, rfl, H⟩ := q
  show zAt E 9 0 0 m_law 590 [vo 1000000, vo 0, vo 89, vi (i : Int)] [vi y] g0 h1 P
  refine a_aload_n (pc := 590) dL_law_590 rfl ?_
  refine a_aload_n (pc := 591) dL_law_591 rfl ?_
  refine a_iload_n (pc := 592) dL_law_592 rfl ?_
  refine a_iconst (pc := 593) dL_law_593 (by decide) ?_
  refine a_iadd (pc := 594) dL_law_594 ?_
  refine a_sload (pc := 595) dL_law_595 (kb (c := 1) (by decide) hi hn) ?_
  refine a_aload_n (pc := 596) dL_law_596 rfl ?_
  refine a_iload_n (pc := 597) dL_law_597 rfl ?_
  refine a_iconst (pc := 598) dL_law_598 (by decide) ?_
  refine a_iadd (pc := 599) dL_law_599 ?_
  refine a_sload (pc := 600) dL_law_600 (kb (c := 2) (by decide) hi hn) ?_
  refine a_callV (pc := 601) (kc := 0) (ks := 0) (kc' := 0) (ks' := 0) (st := [vi y]) [vi (ar E i 1), vi (ar E i 2)] dL_law_601 ml_L_91 go_89 rfl (Nat.le_of_ble_eq_true rfl) (Nat.le_of_ble_eq_true rfl) (z_post H (fun r G1 h2 q => ?_))
  obtain ⟨y2, rfl, rfl, e, w2⟩ := q
  subst e
  show zAt E 9 0 0 m_law 604 [vo 1000000, vo 0, vo 89, vi (i : Int)] [vi y, vi y] g0 h2 P
  exact a_icmp_eq (pc := 604) (tgt := 902) dL_law_604 (by decide) (fun _ => J _ w2) (fun c => absurd rfl c)
theorem k_thing {E : zE} {i : Nat} {P : Option zV → zG → zS → Prop} {h : zS} (hi : i + 6 ≤ en E) (hn : en E ≤ 3072) (w : zGo h) (J : ∀ h, zGo h → zAt E 9 0 0 m_law 902 [vo 1000000, vo 0, vo 89, vi (i : Int)] [] g0 h P) : zAt E 9 0 0 m_law 609 [vo 1000000, vo 0, vo 89, vi (i : Int)] [] g0 h P := by
  refine a_aload_n (pc := 609) dL_law_609 rfl ?_
  refine a_aload_n (pc := 610) dL_law_610 rfl ?_
  refine a_iload_n (pc := 611) dL_law_611 rfl ?_
  refine a_iconst (pc := 612) dL_law_612 (by decide) ?_
  refine a_iadd (pc := 613) dL_law_613 ?_
  refine a_sload (pc := 614) dL_law_614 (kb (c := 1) (by decide) hi hn) ?_
  refine a_aload_n (pc := 615) dL_law_615 rfl ?_
  refine a_iload_n (pc := 616) dL_law_616 rfl ?_
  refine a_iconst (pc := 617) dL_law_617 (by decide) ?_
  refine a_iadd (pc := 618) dL_law_618 ?_
  refine a_sload (pc := 619) dL_law_619 (kb (c := 2) (by decide) hi hn) ?_
  refine a_callV (pc := 620) (kc := 0) (ks := 0) (kc' := 0) (ks' := 0) (st := []) [vi (ar E i 1), vi (ar E i 2)] dL_law_620 ml_L_92 go_0 rfl (Nat.le_of_ble_eq_true rfl) (Nat.le_of_ble_eq_true rfl) (z_post (p_thing w) (fun r G1 h1 q => ?_))
  obtain ⟨y, rfl, rfl, H⟩ := q
  show zAt E 9 0 0 m_law 623 [vo 1000000, vo 0, vo 89, vi (i : Int)] [vi y] g0 h1 P
  refine a_aload_n (pc := 623) dL_law_623 rfl ?_
  refine a_aload_n (pc := 624) dL_law_624 rfl ?_
  refine a_iload_n (pc := 625) dL_law_625 rfl ?_
  refine a_iconst (pc := 626) dL_law_626 (by decide) ?_
  refine a_iadd (pc := 627) dL_law_627 ?_
  refine a_sload (pc := 628) dL_law_628 (kb (c := 1) (by decide) hi hn) ?_
  refine a_aload_n (pc := 629) dL_law_629 rfl ?_
  refine a_iload_n (pc := 630) dL_law_630 rfl ?_
  refine a_iconst (pc := 631) dL_law_631 (by decide) ?_
  refine a_iadd (pc := 632) dL_law_632 ?_
  refine a_sload (pc := 633) dL_law_633 (kb (c := 2) (by decide) hi hn) ?_
  refine a_callV (pc := 634) (kc := 0) (ks := 0) (kc' := 0) (ks' := 0) (st := [vi y]) [vi (ar E i 1), vi (ar E i 2)] dL_law_634 ml_L_95 go_89 rfl (Nat.le_of_ble_eq_true rfl) (Nat.le_of_ble_eq_true rfl) (z_post H (fun r G1 h2 q => ?_))
  obtain ⟨y2, rfl, rfl, e, w2⟩ := q
  subst e
  show zAt E 9 0 0 m_law 637 [vo 1000000, vo 0, vo 89, vi (i : Int)] [vi y, vi y] g0 h2 P
  exact a_icmp_eq (pc := 637) (tgt := 902) dL_law_637 (by decide) (fun _ => J _ w2) (fun c => absurd rfl c)
theorem k_gap {E : zE} {i : Nat} {P : Option zV → zG → zS → Prop} {h : zS} (hi : i + 6 ≤ en E) (hn : en E ≤ 3072) (w : zGo h) (J : ∀ h, zGo h → zAt E 9 0 0 m_law 902 [vo 1000000, vo 0, vo 89, vi (i : Int)] [] g0 h P) : zAt E 9 0 0 m_law 642 [vo 1000000, vo 0, vo 89, vi (i : Int)] [] g0 h P := by
  refine a_aload_n (pc := 642) dL_law_642 rfl ?_
  refine a_callV (pc := 643) (kc := 0) (ks := 0) (kc' := 0) (ks' := 0) (st := []) [] dL_law_643 ml_L_96 go_0 rfl (Nat.le_of_ble_eq_true rfl) (Nat.le_of_ble_eq_true rfl) (z_post (p_gap w) (fun r G1 h1 q => ?_))
  obtain ⟨y, rfl, rfl, H⟩ := q
  show zAt E 9 0 0 m_law 646 [vo 1000000, vo 0, vo 89, vi (i : Int)] [vi y] g0 h1 P
  refine a_aload_n (pc := 646) dL_law_646 rfl ?_
  refine a_callV (pc := 647) (kc := 0) (ks := 0) (kc' := 0) (ks' := 0) (st := [vi y]) [] dL_law_647 ml_L_99 go_89 rfl (Nat.le_of_ble_eq_true rfl) (Nat.le_of_ble_eq_true rfl) (z_post H (fun r G1 h2 q => ?_))
  obtain ⟨y2, rfl, rfl, e, w2⟩ := q
  subst e
  show zAt E 9 0 0 m_law 650 [vo 1000000, vo 0, vo 89, vi (i : Int)] [vi y, vi y] g0 h2 P
  exact a_icmp_eq (pc := 650) (tgt := 902) dL_law_650 (by decide) (fun _ => J _ w2) (fun c => absurd rfl c)
theorem k_late {E : zE} {i : Nat} {P : Option zV → zG → zS → Prop} {h : zS} (hi : i + 6 ≤ en E) (hn : en E ≤ 3072) (w : zGo h) (J : ∀ h, zGo h → zAt E 9 0 0 m_law 902 [vo 1000000, vo 0, vo 89, vi (i : Int)] [] g0 h P) : zAt E 9 0 0 m_law 655 [vo 1000000, vo 0, vo 89, vi (i : Int)] [] g0 h P := by
  refine a_aload_n (pc := 655) dL_law_655 rfl ?_
  refine a_aload_n (pc := 656) dL_law_656 rfl ?_
  refine a_iload_n (pc := 657) dL_law_657 rfl ?_
  refine a_iconst (pc := 658) dL_law_658 (by decide) ?_
  refine a_iadd (pc := 659) dL_law_659 ?_
  refine a_sload (pc := 660) dL_law_660 (kb (c := 1) (by decide) hi hn) ?_
  refine a_aload_n (pc := 661) dL_law_661 rfl ?_
  refine a_iload_n (pc := 662) dL_law_662 rfl ?_
  refine a_iconst (pc := 663) dL_law_663 (by decide) ?_
  refine a_iadd (pc := 664) dL_law_664 ?_
  refine a_sload (pc := 665) dL_law_665 (kb (c := 2) (by decide) hi hn) ?_
  refine a_callV (pc := 666) (kc := 0) (ks := 0) (kc' := 0) (ks' := 0) (st := []) [vi (ar E i 1), vi (ar E i 2)] dL_law_666 ml_L_100 go_0 rfl (Nat.le_of_ble_eq_true rfl) (Nat.le_of_ble_eq_true rfl) (z_post (p_late w) (fun r G1 h1 q => ?_))
  obtain ⟨y, rfl, rfl, H⟩ := q
  show zAt E 9 0 0 m_law 669 [vo 1000000, vo 0, vo 89, vi (i : Int)] [vi y] g0 h1 P
  refine a_aload_n (pc := 669) dL_law_669 rfl ?_
  refine a_aload_n (pc := 670) dL_law_670 rfl ?_
  refine a_iload_n (pc := 671) dL_law_671 rfl ?_
  refine a_iconst (pc := 672) dL_law_672 (by decide) ?_
  refine a_iadd (pc := 673) dL_law_673 ?_
  refine a_sload (pc := 674) dL_law_674 (kb (c := 1) (by decide) hi hn) ?_
  refine a_aload_n (pc := 675) dL_law_675 rfl ?_
  refine a_iload_n (pc := 676) dL_law_676 rfl ?_
  refine a_iconst (pc := 677) dL_law_677 (by decide) ?_
  refine a_iadd (pc := 678) dL_law_678 ?_
  refine a_sload (pc := 679) dL_law_679 (kb (c := 2) (by decide) hi hn) ?_
  refine a_callV (pc := 680) (kc := 0) (ks := 0) (kc' := 0) (ks' := 0) (st := [vi y]) [vi (ar E i 1), vi (ar E i 2)] dL_law_680 ml_L_103 go_89 rfl (Nat.le_of_ble_eq_true rfl) (Nat.le_of_ble_eq_true rfl) (z_post H (fun r G1 h2 q => ?_))
  obtain ⟨y2, rfl, rfl, e, w2⟩ := q
  subst e
  show zAt E 9 0 0 m_law 683 [vo 1000000, vo 0, vo 89, vi (i : Int)] [vi y, vi y] g0 h2 P
  exact a_icmp_eq (pc := 683) (tgt := 902) dL_law_683 (by decide) (fun _ => J _ w2) (fun c => absurd rfl c)
theorem k_taken {E : zE} {i : Nat} {P : Option zV → zG → zS → Prop} {h : zS} (hi : i + 6 ≤ en E) (hn : en E ≤ 3072) (w : zGo h) (J : ∀ h, zGo h → zAt E 9 0 0 m_law 902 [vo 1000000, vo 0, vo 89, vi (i : Int)] [] g0 h P) : zAt E 9 0 0 m_law 688 [vo 1000000, vo 0, vo 89, vi (i : Int)] [] g0 h P := by
  refine a_aload_n (pc := 688) dL_law_688 rfl ?_
  refine a_aload_n (pc := 689) dL_law_689 rfl ?_
  refine a_iload_n (pc := 690) dL_law_690 rfl ?_
  refine a_iconst (pc := 691) dL_law_691 (by decide) ?_
  refine a_iadd (pc := 692) dL_law_692 ?_
  refine a_sload (pc := 693) dL_law_693 (kb (c := 1) (by decide) hi hn) ?_
  refine a_aload_n (pc := 694) dL_law_694 rfl ?_
  refine a_iload_n (pc := 695) dL_law_695 rfl ?_
  refine a_iconst (pc := 696) dL_law_696 (by decide) ?_
  refine a_iadd (pc := 697) dL_law_697 ?_
  refine a_sload (pc := 698) dL_law_698 (kb (c := 2) (by decide) hi hn) ?_
  refine a_callV (pc := 699) (kc := 0) (ks := 0) (kc' := 0) (ks' := 0) (st := []) [vi (ar E i 1), vi (ar E i 2)] dL_law_699 ml_L_104 go_0 rfl (Nat.le_of_ble_eq_true rfl) (Nat.le_of_ble_eq_true rfl) (z_post (p_taken w) (fun r G1 h1 q => ?_))
  obtain ⟨y, rfl, rfl, H⟩ := q
  show zAt E 9 0 0 m_law 702 [vo 1000000, vo 0, vo 89, vi (i : Int)] [vi y] g0 h1 P
  refine a_aload_n (pc := 702) dL_law_702 rfl ?_
  refine a_aload_n (pc := 703) dL_law_703 rfl ?_
  refine a_iload_n (pc := 704) dL_law_704 rfl ?_
  refine a_iconst (pc := 705) dL_law_705 (by decide) ?_
  refine a_iadd (pc := 706) dL_law_706 ?_
  refine a_sload (pc := 707) dL_law_707 (kb (c := 1) (by decide) hi hn) ?_
  refine a_aload_n (pc := 708) dL_law_708 rfl ?_
  refine a_iload_n (pc := 709) dL_law_709 rfl ?_
  refine a_iconst (pc := 710) dL_law_710 (by decide) ?_
  refine a_iadd (pc := 711) dL_law_711 ?_
  refine a_sload (pc := 712) dL_law_712 (kb (c := 2) (by decide) hi hn) ?_
  refine a_callV (pc := 713) (kc := 0) (ks := 0) (kc' := 0) (ks' := 0) (st := [vi y]) [vi (ar E i 1), vi (ar E i 2)] dL_law_713 ml_L_107 go_89 rfl (Nat.le_of_ble_eq_true rfl) (Nat.le_of_ble_eq_true rfl) (z_post H (fun r G1 h2 q => ?_))
  obtain ⟨y2, rfl, rfl, e, w2⟩ := q
  subst e
  show zAt E 9 0 0 m_law 716 [vo 1000000, vo 0, vo 89, vi (i : Int)] [vi y, vi y] g0 h2 P
  exact a_icmp_eq (pc := 716) (tgt := 902) dL_law_716 (by decide) (fun _ => J _ w2) (fun c => absurd rfl c)
theorem k_untell {E : zE} {i : Nat} {P : Option zV → zG → zS → Prop} {h : zS} (hi : i + 6 ≤ en E) (hn : en E ≤ 3072) (w : zGo h) (J : ∀ h, zGo h → zAt E 9 0 0 m_law 902 [vo 1000000, vo 0, vo 89, vi (i : Int)] [] g0 h P) : zAt E 9 0 0 m_law 721 [vo 1000000, vo 0, vo 89, vi (i : Int)] [] g0 h P := by
  refine a_aload_n (pc := 721) dL_law_721 rfl ?_
  refine a_aload_n (pc := 722) dL_law_722 rfl ?_
  refine a_iload_n (pc := 723) dL_law_723 rfl ?_
  refine a_iconst (pc := 724) dL_law_724 (by decide) ?_
  refine a_iadd (pc := 725) dL_law_725 ?_
  refine a_sload (pc := 726) dL_law_726 (kb (c := 1) (by decide) hi hn) ?_
  refine a_callV (pc := 727) (kc := 0) (ks := 0) (kc' := 0) (ks' := 0) (st := []) [vi (ar E i 1)] dL_law_727 ml_L_108 go_0 rfl (Nat.le_of_ble_eq_true rfl) (Nat.le_of_ble_eq_true rfl) (z_post (p_untell w) (fun r G1 h1 q => ?_))
  obtain ⟨y, rfl, rfl, H⟩ := q
  show zAt E 9 0 0 m_law 730 [vo 1000000, vo 0, vo 89, vi (i : Int)] [vi y] g0 h1 P
  refine a_aload_n (pc := 730) dL_law_730 rfl ?_
  refine a_aload_n (pc := 731) dL_law_731 rfl ?_
  refine a_iload_n (pc := 732) dL_law_732 rfl ?_
  refine a_iconst (pc := 733) dL_law_733 (by decide) ?_
  refine a_iadd (pc := 734) dL_law_734 ?_
  refine a_sload (pc := 735) dL_law_735 (kb (c := 1) (by decide) hi hn) ?_
  refine a_callV (pc := 736) (kc := 0) (ks := 0) (kc' := 0) (ks' := 0) (st := [vi y]) [vi (ar E i 1)] dL_law_736 ml_L_112 go_89 rfl (Nat.le_of_ble_eq_true rfl) (Nat.le_of_ble_eq_true rfl) (z_post H (fun r G1 h2 q => ?_))
  obtain ⟨y2, rfl, rfl, e, w2⟩ := q
  subst e
  show zAt E 9 0 0 m_law 739 [vo 1000000, vo 0, vo 89, vi (i : Int)] [vi y, vi y] g0 h2 P
  exact a_icmp_eq (pc := 739) (tgt := 902) dL_law_739 (by decide) (fun _ => J _ w2) (fun c => absurd rfl c)
theorem k_later {E : zE} {i : Nat} {P : Option zV → zG → zS → Prop} {h : zS} (hi : i + 6 ≤ en E) (hn : en E ≤ 3072) (w : zGo h) (J : ∀ h, zGo h → zAt E 9 0 0 m_law 902 [vo 1000000, vo 0, vo 89, vi (i : Int)] [] g0 h P) : zAt E 9 0 0 m_law 744 [vo 1000000, vo 0, vo 89, vi (i : Int)] [] g0 h P := by
  refine a_aload_n (pc := 744) dL_law_744 rfl ?_
  refine a_aload_n (pc := 745) dL_law_745 rfl ?_
  refine a_iload_n (pc := 746) dL_law_746 rfl ?_
  refine a_iconst (pc := 747) dL_law_747 (by decide) ?_
  refine a_iadd (pc := 748) dL_law_748 ?_
  refine a_sload (pc := 749) dL_law_749 (kb (c := 1) (by decide) hi hn) ?_
  refine a_callV (pc := 750) (kc := 0) (ks := 0) (kc' := 0) (ks' := 0) (st := []) [vi (ar E i 1)] dL_law_750 ml_L_113 go_0 rfl (Nat.le_of_ble_eq_true rfl) (Nat.le_of_ble_eq_true rfl) (z_post (p_later w) (fun r G1 h1 q => ?_))
  obtain ⟨y, rfl, rfl, H⟩ := q
  show zAt E 9 0 0 m_law 753 [vo 1000000, vo 0, vo 89, vi (i : Int)] [vi y] g0 h1 P
  refine a_aload_n (pc := 753) dL_law_753 rfl ?_
  refine a_aload_n (pc := 754) dL_law_754 rfl ?_
  refine a_iload_n (pc := 755) dL_law_755 rfl ?_
  refine a_iconst (pc := 756) dL_law_756 (by decide) ?_
  refine a_iadd (pc := 757) dL_law_757 ?_
  refine a_sload (pc := 758) dL_law_758 (kb (c := 1) (by decide) hi hn) ?_
  refine a_callV (pc := 759) (kc := 0) (ks := 0) (kc' := 0) (ks' := 0) (st := [vi y]) [vi (ar E i 1)] dL_law_759 ml_L_116 go_89 rfl (Nat.le_of_ble_eq_true rfl) (Nat.le_of_ble_eq_true rfl) (z_post H (fun r G1 h2 q => ?_))
  obtain ⟨y2, rfl, rfl, e, w2⟩ := q
  subst e
  show zAt E 9 0 0 m_law 762 [vo 1000000, vo 0, vo 89, vi (i : Int)] [vi y, vi y] g0 h2 P
  exact a_icmp_eq (pc := 762) (tgt := 902) dL_law_762 (by decide) (fun _ => J _ w2) (fun c => absurd rfl c)
theorem k_spies {E : zE} {i : Nat} {P : Option zV → zG → zS → Prop} {h : zS} (hi : i + 6 ≤ en E) (hn : en E ≤ 3072) (w : zGo h) (J : ∀ h, zGo h → zAt E 9 0 0 m_law 902 [vo 1000000, vo 0, vo 89, vi (i : Int)] [] g0 h P) : zAt E 9 0 0 m_law 767 [vo 1000000, vo 0, vo 89, vi (i : Int)] [] g0 h P := by
  refine a_aload_n (pc := 767) dL_law_767 rfl ?_
  refine a_aload_n (pc := 768) dL_law_768 rfl ?_
  refine a_iload_n (pc := 769) dL_law_769 rfl ?_
  refine a_iconst (pc := 770) dL_law_770 (by decide) ?_
  refine a_iadd (pc := 771) dL_law_771 ?_
  refine a_sload (pc := 772) dL_law_772 (kb (c := 1) (by decide) hi hn) ?_
  refine a_aload_n (pc := 773) dL_law_773 rfl ?_
  refine a_iload_n (pc := 774) dL_law_774 rfl ?_
  refine a_iconst (pc := 775) dL_law_775 (by decide) ?_
  refine a_iadd (pc := 776) dL_law_776 ?_
  refine a_sload (pc := 777) dL_law_777 (kb (c := 2) (by decide) hi hn) ?_
  refine a_callV (pc := 778) (kc := 0) (ks := 0) (kc' := 0) (ks' := 0) (st := []) [vi (ar E i 1), vi (ar E i 2)] dL_law_778 ml_L_117 go_0 rfl (Nat.le_of_ble_eq_true rfl) (Nat.le_of_ble_eq_true rfl) (z_post (p_spies w) (fun r G1 h1 q => ?_))
  obtain ⟨y, rfl, rfl, H⟩ := q
  show zAt E 9 0 0 m_law 781 [vo 1000000, vo 0, vo 89, vi (i : Int)] [vi y] g0 h1 P
  refine a_aload_n (pc := 781) dL_law_781 rfl ?_
  refine a_aload_n (pc := 782) dL_law_782 rfl ?_
  refine a_iload_n (pc := 783) dL_law_783 rfl ?_
  refine a_iconst (pc := 784) dL_law_784 (by decide) ?_
  refine a_iadd (pc := 785) dL_law_785 ?_
  refine a_sload (pc := 786) dL_law_786 (kb (c := 1) (by decide) hi hn) ?_
  refine a_aload_n (pc := 787) dL_law_787 rfl ?_
  refine a_iload_n (pc := 788) dL_law_788 rfl ?_
  refine a_iconst (pc := 789) dL_law_789 (by decide) ?_
  refine a_iadd (pc := 790) dL_law_790 ?_
  refine a_sload (pc := 791) dL_law_791 (kb (c := 2) (by decide) hi hn) ?_
  refine a_callV (pc := 792) (kc := 0) (ks := 0) (kc' := 0) (ks' := 0) (st := [vi y]) [vi (ar E i 1), vi (ar E i 2)] dL_law_792 ml_L_120 go_89 rfl (Nat.le_of_ble_eq_true rfl) (Nat.le_of_ble_eq_true rfl) (z_post H (fun r G1 h2 q => ?_))
  obtain ⟨y2, rfl, rfl, e, w2⟩ := q
  subst e
  show zAt E 9 0 0 m_law 795 [vo 1000000, vo 0, vo 89, vi (i : Int)] [vi y, vi y] g0 h2 P
  exact a_icmp_eq (pc := 795) (tgt := 902) dL_law_795 (by decide) (fun _ => J _ w2) (fun c => absurd rfl c)
theorem k_origins {E : zE} {i : Nat} {P : Option zV → zG → zS → Prop} {h : zS} (hi : i + 6 ≤ en E) (hn : en E ≤ 3072) (w : zGo h) (J : ∀ h, zGo h → zAt E 9 0 0 m_law 902 [vo 1000000, vo 0, vo 89, vi (i : Int)] [] g0 h P) : zAt E 9 0 0 m_law 800 [vo 1000000, vo 0, vo 89, vi (i : Int)] [] g0 h P := by
  refine a_aload_n (pc := 800) dL_law_800 rfl ?_
  refine a_aload_n (pc := 801) dL_law_801 rfl ?_
  refine a_iload_n (pc := 802) dL_law_802 rfl ?_
  refine a_iconst (pc := 803) dL_law_803 (by decide) ?_
  refine a_iadd (pc := 804) dL_law_804 ?_
  refine a_sload (pc := 805) dL_law_805 (kb (c := 1) (by decide) hi hn) ?_
  refine a_aload_n (pc := 806) dL_law_806 rfl ?_
  refine a_iload_n (pc := 807) dL_law_807 rfl ?_
  refine a_iconst (pc := 808) dL_law_808 (by decide) ?_
  refine a_iadd (pc := 809) dL_law_809 ?_
  refine a_sload (pc := 810) dL_law_810 (kb (c := 2) (by decide) hi hn) ?_
  refine a_callV (pc := 811) (kc := 0) (ks := 0) (kc' := 0) (ks' := 0) (st := []) [vi (ar E i 1), vi (ar E i 2)] dL_law_811 ml_L_121 go_0 rfl (Nat.le_of_ble_eq_true rfl) (Nat.le_of_ble_eq_true rfl) (z_post (p_origins w) (fun r G1 h1 q => ?_))
  obtain ⟨y, rfl, rfl, H⟩ := q
  show zAt E 9 0 0 m_law 814 [vo 1000000, vo 0, vo 89, vi (i : Int)] [vi y] g0 h1 P
  refine a_aload_n (pc := 814) dL_law_814 rfl ?_
  refine a_aload_n (pc := 815) dL_law_815 rfl ?_
  refine a_iload_n (pc := 816) dL_law_816 rfl ?_
  refine a_iconst (pc := 817) dL_law_817 (by decide) ?_
  refine a_iadd (pc := 818) dL_law_818 ?_
  refine a_sload (pc := 819) dL_law_819 (kb (c := 1) (by decide) hi hn) ?_
  refine a_aload_n (pc := 820) dL_law_820 rfl ?_
  refine a_iload_n (pc := 821) dL_law_821 rfl ?_
  refine a_iconst (pc := 822) dL_law_822 (by decide) ?_
  refine a_iadd (pc := 823) dL_law_823 ?_
  refine a_sload (pc := 824) dL_law_824 (kb (c := 2) (by decide) hi hn) ?_
  refine a_callV (pc := 825) (kc := 0) (ks := 0) (kc' := 0) (ks' := 0) (st := [vi y]) [vi (ar E i 1), vi (ar E i 2)] dL_law_825 ml_L_124 go_89 rfl (Nat.le_of_ble_eq_true rfl) (Nat.le_of_ble_eq_true rfl) (z_post H (fun r G1 h2 q => ?_))
  obtain ⟨y2, rfl, rfl, e, w2⟩ := q
  subst e
  show zAt E 9 0 0 m_law 828 [vo 1000000, vo 0, vo 89, vi (i : Int)] [vi y, vi y] g0 h2 P
  exact a_icmp_eq (pc := 828) (tgt := 902) dL_law_828 (by decide) (fun _ => J _ w2) (fun c => absurd rfl c)
theorem k_image {E : zE} {i : Nat} {P : Option zV → zG → zS → Prop} {h : zS} (hi : i + 6 ≤ en E) (hn : en E ≤ 3072) (w : zGo h) (J : ∀ h, zGo h → zAt E 9 0 0 m_law 902 [vo 1000000, vo 0, vo 89, vi (i : Int)] [] g0 h P) : zAt E 9 0 0 m_law 833 [vo 1000000, vo 0, vo 89, vi (i : Int)] [] g0 h P := by
  refine a_aload_n (pc := 833) dL_law_833 rfl ?_
  refine a_aload_n (pc := 834) dL_law_834 rfl ?_
  refine a_iload_n (pc := 835) dL_law_835 rfl ?_
  refine a_iconst (pc := 836) dL_law_836 (by decide) ?_
  refine a_iadd (pc := 837) dL_law_837 ?_
  refine a_sload (pc := 838) dL_law_838 (kb (c := 1) (by decide) hi hn) ?_
  refine a_callV (pc := 839) (kc := 0) (ks := 0) (kc' := 0) (ks' := 0) (st := []) [vi (ar E i 1)] dL_law_839 ml_L_125 go_0 rfl (Nat.le_of_ble_eq_true rfl) (Nat.le_of_ble_eq_true rfl) (z_post (p_image w) (fun r G1 h1 q => ?_))
  obtain ⟨y, rfl, rfl, H⟩ := q
  show zAt E 9 0 0 m_law 842 [vo 1000000, vo 0, vo 89, vi (i : Int)] [vi y] g0 h1 P
  refine a_aload_n (pc := 842) dL_law_842 rfl ?_
  refine a_aload_n (pc := 843) dL_law_843 rfl ?_
  refine a_iload_n (pc := 844) dL_law_844 rfl ?_
  refine a_iconst (pc := 845) dL_law_845 (by decide) ?_
  refine a_iadd (pc := 846) dL_law_846 ?_
  refine a_sload (pc := 847) dL_law_847 (kb (c := 1) (by decide) hi hn) ?_
  refine a_callV (pc := 848) (kc := 0) (ks := 0) (kc' := 0) (ks' := 0) (st := [vi y]) [vi (ar E i 1)] dL_law_848 ml_L_128 go_89 rfl (Nat.le_of_ble_eq_true rfl) (Nat.le_of_ble_eq_true rfl) (z_post H (fun r G1 h2 q => ?_))
  obtain ⟨y2, rfl, rfl, e, w2⟩ := q
  subst e
  show zAt E 9 0 0 m_law 851 [vo 1000000, vo 0, vo 89, vi (i : Int)] [vi y, vi y] g0 h2 P
  exact a_icmp_eq (pc := 851) (tgt := 902) dL_law_851 (by decide) (fun _ => J _ w2) (fun c => absurd rfl c)
theorem k_back {E : zE} {i : Nat} {P : Option zV → zG → zS → Prop} {h : zS} (hi : i + 6 ≤ en E) (hn : en E ≤ 3072) (w : zGo h) (J : ∀ h, zGo h → zAt E 9 0 0 m_law 902 [vo 1000000, vo 0, vo 89, vi (i : Int)] [] g0 h P) : zAt E 9 0 0 m_law 856 [vo 1000000, vo 0, vo 89, vi (i : Int)] [] g0 h P := by
  refine a_aload_n (pc := 856) dL_law_856 rfl ?_
  refine a_aload_n (pc := 857) dL_law_857 rfl ?_
  refine a_iload_n (pc := 858) dL_law_858 rfl ?_
  refine a_iconst (pc := 859) dL_law_859 (by decide) ?_
  refine a_iadd (pc := 860) dL_law_860 ?_
  refine a_sload (pc := 861) dL_law_861 (kb (c := 1) (by decide) hi hn) ?_
  refine a_callV (pc := 862) (kc := 0) (ks := 0) (kc' := 0) (ks' := 0) (st := []) [vi (ar E i 1)] dL_law_862 ml_L_129 go_0 rfl (Nat.le_of_ble_eq_true rfl) (Nat.le_of_ble_eq_true rfl) (z_post (p_back w) (fun r G1 h1 q => ?_))
  obtain ⟨y, rfl, rfl, H⟩ := q
  show zAt E 9 0 0 m_law 865 [vo 1000000, vo 0, vo 89, vi (i : Int)] [vi y] g0 h1 P
  refine a_aload_n (pc := 865) dL_law_865 rfl ?_
  refine a_aload_n (pc := 866) dL_law_866 rfl ?_
  refine a_iload_n (pc := 867) dL_law_867 rfl ?_
  refine a_iconst (pc := 868) dL_law_868 (by decide) ?_
  refine a_iadd (pc := 869) dL_law_869 ?_
  refine a_sload (pc := 870) dL_law_870 (kb (c := 1) (by decide) hi hn) ?_
  refine a_callV (pc := 871) (kc := 0) (ks := 0) (kc' := 0) (ks' := 0) (st := [vi y]) [vi (ar E i 1)] dL_law_871 ml_L_132 go_89 rfl (Nat.le_of_ble_eq_true rfl) (Nat.le_of_ble_eq_true rfl) (z_post H (fun r G1 h2 q => ?_))
  obtain ⟨y2, rfl, rfl, e, w2⟩ := q
  subst e
  show zAt E 9 0 0 m_law 874 [vo 1000000, vo 0, vo 89, vi (i : Int)] [vi y, vi y] g0 h2 P
  exact a_icmp_eq (pc := 874) (tgt := 902) dL_law_874 (by decide) (fun _ => J _ w2) (fun c => absurd rfl c)
theorem k_about {E : zE} {i : Nat} {P : Option zV → zG → zS → Prop} {h : zS} (hi : i + 6 ≤ en E) (hn : en E ≤ 3072) (w : zGo h) (J : ∀ h, zGo h → zAt E 9 0 0 m_law 902 [vo 1000000, vo 0, vo 89, vi (i : Int)] [] g0 h P) : zAt E 9 0 0 m_law 879 [vo 1000000, vo 0, vo 89, vi (i : Int)] [] g0 h P := by
  refine a_aload_n (pc := 879) dL_law_879 rfl ?_
  refine a_aload_n (pc := 880) dL_law_880 rfl ?_
  refine a_iload_n (pc := 881) dL_law_881 rfl ?_
  refine a_iconst (pc := 882) dL_law_882 (by decide) ?_
  refine a_iadd (pc := 883) dL_law_883 ?_
  refine a_sload (pc := 884) dL_law_884 (kb (c := 1) (by decide) hi hn) ?_
  refine a_callV (pc := 885) (kc := 0) (ks := 0) (kc' := 0) (ks' := 0) (st := []) [vi (ar E i 1)] dL_law_885 ml_L_133 go_0 rfl (Nat.le_of_ble_eq_true rfl) (Nat.le_of_ble_eq_true rfl) (z_post (p_about w) (fun r G1 h1 q => ?_))
  obtain ⟨y, rfl, rfl, H⟩ := q
  show zAt E 9 0 0 m_law 888 [vo 1000000, vo 0, vo 89, vi (i : Int)] [vi y] g0 h1 P
  refine a_aload_n (pc := 888) dL_law_888 rfl ?_
  refine a_aload_n (pc := 889) dL_law_889 rfl ?_
  refine a_iload_n (pc := 890) dL_law_890 rfl ?_
  refine a_iconst (pc := 891) dL_law_891 (by decide) ?_
  refine a_iadd (pc := 892) dL_law_892 ?_
  refine a_sload (pc := 893) dL_law_893 (kb (c := 1) (by decide) hi hn) ?_
  refine a_callV (pc := 894) (kc := 0) (ks := 0) (kc' := 0) (ks' := 0) (st := [vi y]) [vi (ar E i 1)] dL_law_894 ml_L_136 go_89 rfl (Nat.le_of_ble_eq_true rfl) (Nat.le_of_ble_eq_true rfl) (z_post H (fun r G1 h2 q => ?_))
  obtain ⟨y2, rfl, rfl, e, w2⟩ := q
  subst e
  show zAt E 9 0 0 m_law 897 [vo 1000000, vo 0, vo 89, vi (i : Int)] [vi y, vi y] g0 h2 P
  exact a_icmp_eq (pc := 897) (tgt := 902) dL_law_897 (by decide) (fun _ => J _ w2) (fun c => absurd rfl c)
theorem z_law {E : zE} (hn : en E ≤ 3072) {P : Option zV → zG → zS → Prop} (hP : ∀ G h, P (some (vi 1)) G h) : ∀ (f i : Nat) (h : zS), zGo h → en E ≤ i + f → i ≤ 4000 → zAt E 9 0 0 m_law 18 [vo 1000000, vo 0, vo 89, vi (i : Int)] [] g0 h P := by
  intro f
  induction f with
  | zero =>
    intro i h w hf hb
    refine a_iload_n (pc := 18) dL_law_18 rfl ?_
    refine a_aload_n (pc := 19) dL_law_19 rfl ?_
    refine a_slen (pc := 20) dL_law_20 (by omega) ?_
    refine a_bipush (pc := 21) dL_law_21 (by decide) ?_
    refine a_isub (pc := 23) dL_law_23 ?_
    have e : w32 ((en E : Int) - 6) = (en E : Int) - 6 := by rw [w32_id] <;> omega
    rw [e]
    refine a_icmp_gt (pc := 24) (tgt := 908) dL_law_24 (by decide) (fun _ => ?_) (fun c => ?_)
    · refine a_iconst (pc := 908) dL_law_908 (by decide) ?_
      exact a_ireturn (pc := 909) dL_law_909 (.inr rfl) (hP _ _)
    · exfalso; clear e; omega
  | succ f ih =>
    intro i h w hf hb
    refine a_iload_n (pc := 18) dL_law_18 rfl ?_
    refine a_aload_n (pc := 19) dL_law_19 rfl ?_
    refine a_slen (pc := 20) dL_law_20 (by omega) ?_
    refine a_bipush (pc := 21) dL_law_21 (by decide) ?_
    refine a_isub (pc := 23) dL_law_23 ?_
    have e : w32 ((en E : Int) - 6) = (en E : Int) - 6 := by rw [w32_id] <;> omega
    rw [e]
    clear e
    refine a_icmp_gt (pc := 24) (tgt := 908) dL_law_24 (by decide) (fun _ => ?_) (fun c => ?_)
    · refine a_iconst (pc := 908) dL_law_908 (by decide) ?_
      exact a_ireturn (pc := 909) dL_law_909 (.inr rfl) (hP _ _)
    · have hi : i + 6 ≤ en E := by omega
      have J : ∀ h, zGo h → zAt E 9 0 0 m_law 902 [vo 1000000, vo 0, vo 89, vi (i : Int)] [] g0 h P := by
        intro h1 w1
        have e6 : w32 ((i : Int) + 6) = ((i + 6 : Nat) : Int) := by rw [w32_id] <;> omega
        refine a_iinc (pc := 902) (ls' := [vo 1000000, vo 0, vo 89, vi (w32 ((i : Int) + 6))]) dL_law_902 rfl rfl rfl ?_
        rw [e6]
        refine a_goto (pc := 905) (tgt := 18) dL_law_905 (by decide) ?_
        clear e6
        exact ih (i + 6) h1 w1 (by omega) (by omega)
      refine a_aload_n (pc := 27) dL_law_27 rfl ?_
      refine a_iload_n (pc := 28) dL_law_28 rfl ?_
      refine a_sload (pc := 29) dL_law_29 ⟨by omega, by omega⟩ ?_
      refine a_bipush (pc := 30) dL_law_30 (by decide) ?_
      refine a_iand (pc := 32) dL_law_32 ?_
      exact a_tsw (pc := 33) (tg := [164, 227, 250, 263, 286, 309, 322, 346, 359, 382, 395, 408, 451, 474, 487, 510, 533, 576, 609, 642, 655, 688, 721, 744, 767, 800, 833, 856, 879]) (td := 902) dL_law_33 (by decide) (by decide) (by decide) ⟨(fun _ => k_feed hi hn w J), (fun _ => k_end hi hn w J), (fun _ => k_city hi hn w J), (fun _ => k_fault hi hn w J), (fun _ => k_knows hi hn w J), (fun _ => k_quick hi hn w J), (fun _ => k_safe hi hn w J), (fun _ => k_cheap hi hn w J), (fun _ => k_lies hi hn w J), (fun _ => k_apart hi hn w J), (fun _ => k_cut hi hn w J), (fun _ => k_fall hi hn w J), (fun _ => k_worst hi hn w J), (fun _ => k_send hi hn w J), (fun _ => k_day hi hn w J), (fun _ => k_take hi hn w J), (fun _ => k_meet hi hn w J), (fun _ => k_one hi hn w J), (fun _ => k_thing hi hn w J), (fun _ => k_gap hi hn w J), (fun _ => k_late hi hn w J), (fun _ => k_taken hi hn w J), (fun _ => k_untell hi hn w J), (fun _ => k_later hi hn w J), (fun _ => k_spies hi hn w J), (fun _ => k_origins hi hn w J), (fun _ => k_image hi hn w J), (fun _ => k_back hi hn w J), (fun _ => k_about hi hn w J), trivial⟩ (fun _ => J _ w)
theorem z_whole {E : zE} (hn : en E ≤ 3072) : zAt E 9 135 8089 m_law 0 [vo 1000000, vn, vn, vn] [] g_zero s_zero (fun r _ _ => r = some (vi 1)) := by
  refine z_regard (G2 := gQ 0 0) rfl (fun k hk => absurd hk (Nat.not_lt_zero _)) (fun k hk => absurd hk (Nat.not_lt_zero _)) ?_
  show zAt E 9 135 8089 m_law 0 [vo 1000000, vn, vn, vn] [] (gQ 0 0) qh0 _
  refine q_new (kc := 134) (ks := 8078) (n := 0) (n' := 1) (m := 0) (c := 9) (pc := 0) dL_law_0 nl_L_7 rfl (by decide +kernel) (hz0 (by decide)) (by decide) rfl rfl (by decide) ?_
  refine a_dup (pc := 3) dL_law_3 rfl ?_
  refine q_callI (kc := 46) (ks := 4098) (kc' := 88) (ks' := 3980) (k := 0) (st := [vo 0]) (pc := 4) dL_law_4 ml_L_9 rfl (Nat.le_of_ble_eq_true rfl) (Nat.le_of_ble_eq_true rfl) rfl rfl q_X9_init_0 ?_
  refine a_astore_n (pc := 7) (ls' := [vo 1000000, vo 0, vn, vn]) dL_law_7 rfl rfl ?_
  refine q_new (kc := 45) (ks := 4029) (n := 89) (n' := 90) (m := 83) (c := 10) (pc := 8) dL_law_8 nl_L_10 rfl (by decide +kernel) (hz11 (by decide)) (by decide) rfl rfl (by decide) ?_
  refine a_dup (pc := 11) dL_law_11 rfl ?_
  refine q_callI (kc := 0) (ks := 0) (kc' := 45) (ks' := 4029) (k := 89) (st := [vo 89]) (pc := 12) dL_law_12 ml_L_12 rfl (Nat.le_of_ble_eq_true rfl) (Nat.le_of_ble_eq_true rfl) rfl rfl q_X10_init_89 ?_
  refine a_astore_n (pc := 15) (ls' := [vo 1000000, vo 0, vo 89, vn]) dL_law_15 rfl rfl ?_
  refine a_iconst (pc := 16) dL_law_16 (by decide) ?_
  refine a_istore_n (pc := 17) (ls' := [vo 1000000, vo 0, vo 89, vi 0]) dL_law_17 rfl rfl ?_
  refine z_regard (G2 := g0) rfl (fun _ _ => rfl) (fun k hk j => gQ_g0 (by decide +kernel) hk j) ?_
  exact z_law hn (fun _ _ => rfl) (en E) 0 qh14 zGo_0 (by omega) (by omega)
