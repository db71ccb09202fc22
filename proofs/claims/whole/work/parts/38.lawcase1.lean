section LJC
variable {p : Program} {l : Launch} {e : Env} {s : State} {m : MethodId} {below : List Frame} {meth : Method} {c : Code} {b L : Nat} {xs : Nat → Int32} {g : hm_G} {cells slots : Nat}
set_option maxRecDepth 100000 in
theorem lj_person {P : hm_M → Prop} (hP : pu_all P) (C : lw_C g p s m meth c b L xs) (hL : L ≤ 3072) {j : Nat} (hj : j + 5 < L) {μ : hm_M} (h : P μ) (hk : cells + 4 ≤ 600000) (hs : slots + 878 ≤ 7302250) (K : ∀ μ2, P μ2 → lj g p l e s m below meth c b (Int32.ofNat j) 1135 [] μ2 (cells + 4) (slots + 878)) : lj g p l e s m below meth c b (Int32.ofNat j) 200 [] μ cells slots := by
  obtain ⟨ν, hν⟩ := hP.1 μ h
  obtain ⟨r, μ1, μ2, e9, e10, h2⟩ := hP.2.1.1 (xs (j + 1)) (xs (j + 2)) (xs (j + 3)) μ h
  refine lj_x C (show decode code 200 = .ok (.aload_n 1, 1) by decide +kernel) (pc' := 201) rfl ?_
  refine lj_arg (k := 1) C hL (by omega) rfl (show decode code 201 = .ok (.aload_n 0, 1) by decide +kernel) (show decode code 202 = .ok (.iload_n 3, 1) by decide +kernel) (show decode code 203 = .ok (.iconst 1, 1) by decide +kernel) (show decode code 204 = .ok (.iadd, 1) by decide +kernel) (show decode code 205 = .ok (.iaload, 1) by decide +kernel) (pc' := 206) rfl ?_
  refine lj_arg (k := 2) C hL (by omega) rfl (show decode code 206 = .ok (.aload_n 0, 1) by decide +kernel) (show decode code 207 = .ok (.iload_n 3, 1) by decide +kernel) (show decode code 208 = .ok (.iconst 2, 1) by decide +kernel) (show decode code 209 = .ok (.iadd, 1) by decide +kernel) (show decode code 210 = .ok (.iaload, 1) by decide +kernel) (pc' := 211) rfl ?_
  refine lj_arg (k := 3) C hL (by omega) rfl (show decode code 211 = .ok (.aload_n 0, 1) by decide +kernel) (show decode code 212 = .ok (.iload_n 3, 1) by decide +kernel) (show decode code 213 = .ok (.iconst 3, 1) by decide +kernel) (show decode code 214 = .ok (.iadd, 1) by decide +kernel) (show decode code 215 = .ok (.iaload, 1) by decide +kernel) (pc' := 216) rfl ?_
  have c9 := ok_X9_person (fr := 2000) (ν := ν) (by decide) (xs (j + 1)) (xs (j + 2)) (xs (j + 3)) μ hν e9
  refine lj_call (As := [.int (xs (j + 1)), .int (xs (j + 2)), .int (xs (j + 3))]) (ci := 9) (st := []) C okm_X9_person (hm_tb_in (tb_2 (List.mem_of_getElem? (i := 138) rfl)) rfl) (show decode code 216 = .ok (.invokevirtual 13, 3) by decide +kernel) (pc' := 219) rfl rfl rfl (by decide) (la_o hν (by decide) rfl) rfl rfl (Nat.le_of_ble_eq_true rfl) (Nat.le_of_ble_eq_true rfl) (by omega) (by omega) c9 ?_
  obtain ⟨ν1, hν1⟩ : hm_LX μ1 := ⟨_, c9.1⟩
  refine lj_m C (show decode code 219 = .ok (.aload_n 2, 1) by decide +kernel) (pc' := 220) rfl ?_
  refine lj_arg (k := 1) C hL (by omega) rfl (show decode code 220 = .ok (.aload_n 0, 1) by decide +kernel) (show decode code 221 = .ok (.iload_n 3, 1) by decide +kernel) (show decode code 222 = .ok (.iconst 1, 1) by decide +kernel) (show decode code 223 = .ok (.iadd, 1) by decide +kernel) (show decode code 224 = .ok (.iaload, 1) by decide +kernel) (pc' := 225) rfl ?_
  refine lj_arg (k := 2) C hL (by omega) rfl (show decode code 225 = .ok (.aload_n 0, 1) by decide +kernel) (show decode code 226 = .ok (.iload_n 3, 1) by decide +kernel) (show decode code 227 = .ok (.iconst 2, 1) by decide +kernel) (show decode code 228 = .ok (.iadd, 1) by decide +kernel) (show decode code 229 = .ok (.iaload, 1) by decide +kernel) (pc' := 230) rfl ?_
  refine lj_arg (k := 3) C hL (by omega) rfl (show decode code 230 = .ok (.aload_n 0, 1) by decide +kernel) (show decode code 231 = .ok (.iload_n 3, 1) by decide +kernel) (show decode code 232 = .ok (.iconst 3, 1) by decide +kernel) (show decode code 233 = .ok (.iadd, 1) by decide +kernel) (show decode code 234 = .ok (.iaload, 1) by decide +kernel) (pc' := 235) rfl ?_
  have c10 := ok_X10_person (fr := 2000) (ν := ν1) (by decide) (xs (j + 1)) (xs (j + 2)) (xs (j + 3)) μ1 hν1 e10
  refine lj_call (As := [.int (xs (j + 1)), .int (xs (j + 2)), .int (xs (j + 3))]) (ci := 10) (st := [.int r]) C okm_X10_person (hm_tb_in (tb_6 (List.mem_of_getElem? (i := 95) rfl)) rfl) (show decode code 235 = .ok (.invokevirtual 17, 3) by decide +kernel) (pc' := 238) rfl rfl rfl (by decide) (la_o hν1 (by decide) rfl) rfl rfl (Nat.le_of_ble_eq_true rfl) (Nat.le_of_ble_eq_true rfl) (by omega) (by omega) c10 ?_
  refine lj_eq C (show decode code 238 = .ok (.if_icmp .eq 897, 3) by decide +kernel) (pc' := 1135) (by decide) ?_
  exact lj_w (by omega) (by omega) (K μ2 h2)
set_option maxRecDepth 100000 in
theorem lj_of {P : hm_M → Prop} (hP : pu_all P) (C : lw_C g p s m meth c b L xs) (hL : L ≤ 3072) {j : Nat} (hj : j + 5 < L) {μ : hm_M} (h : P μ) (hk : cells + 4 ≤ 600000) (hs : slots + 878 ≤ 7302250) (K : ∀ μ2, P μ2 → lj g p l e s m below meth c b (Int32.ofNat j) 1135 [] μ2 (cells + 4) (slots + 878)) : lj g p l e s m below meth c b (Int32.ofNat j) 243 [] μ cells slots := by
  obtain ⟨ν, hν⟩ := hP.1 μ h
  obtain ⟨r, μ1, μ2, e9, e10, h2⟩ := hP.2.1.2.1 (xs (j + 1)) (xs (j + 2)) μ h
  refine lj_x C (show decode code 243 = .ok (.aload_n 1, 1) by decide +kernel) (pc' := 244) rfl ?_
  refine lj_arg (k := 1) C hL (by omega) rfl (show decode code 244 = .ok (.aload_n 0, 1) by decide +kernel) (show decode code 245 = .ok (.iload_n 3, 1) by decide +kernel) (show decode code 246 = .ok (.iconst 1, 1) by decide +kernel) (show decode code 247 = .ok (.iadd, 1) by decide +kernel) (show decode code 248 = .ok (.iaload, 1) by decide +kernel) (pc' := 249) rfl ?_
  refine lj_arg (k := 2) C hL (by omega) rfl (show decode code 249 = .ok (.aload_n 0, 1) by decide +kernel) (show decode code 250 = .ok (.iload_n 3, 1) by decide +kernel) (show decode code 251 = .ok (.iconst 2, 1) by decide +kernel) (show decode code 252 = .ok (.iadd, 1) by decide +kernel) (show decode code 253 = .ok (.iaload, 1) by decide +kernel) (pc' := 254) rfl ?_
  have c9 := ok_X9_of (fr := 2000) (ν := ν) (by decide) (xs (j + 1)) (xs (j + 2)) μ hν e9
  refine lj_call (As := [.int (xs (j + 1)), .int (xs (j + 2))]) (ci := 9) (st := []) C okm_X9_of (hm_tb_in (tb_2 (List.mem_of_getElem? (i := 161) rfl)) rfl) (show decode code 254 = .ok (.invokevirtual 18, 3) by decide +kernel) (pc' := 257) rfl rfl rfl (by decide) (la_o hν (by decide) rfl) rfl rfl (Nat.le_of_ble_eq_true rfl) (Nat.le_of_ble_eq_true rfl) (by omega) (by omega) c9 ?_
  obtain ⟨ν1, hν1⟩ : hm_LX μ1 := ⟨_, c9.1⟩
  refine lj_m C (show decode code 257 = .ok (.aload_n 2, 1) by decide +kernel) (pc' := 258) rfl ?_
  refine lj_arg (k := 1) C hL (by omega) rfl (show decode code 258 = .ok (.aload_n 0, 1) by decide +kernel) (show decode code 259 = .ok (.iload_n 3, 1) by decide +kernel) (show decode code 260 = .ok (.iconst 1, 1) by decide +kernel) (show decode code 261 = .ok (.iadd, 1) by decide +kernel) (show decode code 262 = .ok (.iaload, 1) by decide +kernel) (pc' := 263) rfl ?_
  refine lj_arg (k := 2) C hL (by omega) rfl (show decode code 263 = .ok (.aload_n 0, 1) by decide +kernel) (show decode code 264 = .ok (.iload_n 3, 1) by decide +kernel) (show decode code 265 = .ok (.iconst 2, 1) by decide +kernel) (show decode code 266 = .ok (.iadd, 1) by decide +kernel) (show decode code 267 = .ok (.iaload, 1) by decide +kernel) (pc' := 268) rfl ?_
  have c10 := ok_X10_of (fr := 2000) (ν := ν1) (by decide) (xs (j + 1)) (xs (j + 2)) μ1 hν1 e10
  refine lj_call (As := [.int (xs (j + 1)), .int (xs (j + 2))]) (ci := 10) (st := [.int r]) C okm_X10_of (hm_tb_in (tb_6 (List.mem_of_getElem? (i := 110) rfl)) rfl) (show decode code 268 = .ok (.invokevirtual 22, 3) by decide +kernel) (pc' := 271) rfl rfl rfl (by decide) (la_o hν1 (by decide) rfl) rfl rfl (Nat.le_of_ble_eq_true rfl) (Nat.le_of_ble_eq_true rfl) (by omega) (by omega) c10 ?_
  refine lj_eq C (show decode code 271 = .ok (.if_icmp .eq 864, 3) by decide +kernel) (pc' := 1135) (by decide) ?_
  exact lj_w (by omega) (by omega) (K μ2 h2)
set_option maxRecDepth 100000 in
theorem lj_asks {P : hm_M → Prop} (hP : pu_all P) (C : lw_C g p s m meth c b L xs) (hL : L ≤ 3072) {j : Nat} (hj : j + 5 < L) {μ : hm_M} (h : P μ) (hk : cells + 4 ≤ 600000) (hs : slots + 878 ≤ 7302250) (K : ∀ μ2, P μ2 → lj g p l e s m below meth c b (Int32.ofNat j) 1135 [] μ2 (cells + 4) (slots + 878)) : lj g p l e s m below meth c b (Int32.ofNat j) 276 [] μ cells slots := by
  obtain ⟨ν, hν⟩ := hP.1 μ h
  obtain ⟨r, μ1, μ2, e9, e10, h2⟩ := hP.2.1.2.2.1 (xs (j + 1)) (xs (j + 2)) (xs (j + 3)) μ h
  refine lj_x C (show decode code 276 = .ok (.aload_n 1, 1) by decide +kernel) (pc' := 277) rfl ?_
  refine lj_arg (k := 1) C hL (by omega) rfl (show decode code 277 = .ok (.aload_n 0, 1) by decide +kernel) (show decode code 278 = .ok (.iload_n 3, 1) by decide +kernel) (show decode code 279 = .ok (.iconst 1, 1) by decide +kernel) (show decode code 280 = .ok (.iadd, 1) by decide +kernel) (show decode code 281 = .ok (.iaload, 1) by decide +kernel) (pc' := 282) rfl ?_
  refine lj_arg (k := 2) C hL (by omega) rfl (show decode code 282 = .ok (.aload_n 0, 1) by decide +kernel) (show decode code 283 = .ok (.iload_n 3, 1) by decide +kernel) (show decode code 284 = .ok (.iconst 2, 1) by decide +kernel) (show decode code 285 = .ok (.iadd, 1) by decide +kernel) (show decode code 286 = .ok (.iaload, 1) by decide +kernel) (pc' := 287) rfl ?_
  refine lj_arg (k := 3) C hL (by omega) rfl (show decode code 287 = .ok (.aload_n 0, 1) by decide +kernel) (show decode code 288 = .ok (.iload_n 3, 1) by decide +kernel) (show decode code 289 = .ok (.iconst 3, 1) by decide +kernel) (show decode code 290 = .ok (.iadd, 1) by decide +kernel) (show decode code 291 = .ok (.iaload, 1) by decide +kernel) (pc' := 292) rfl ?_
  have c9 := ok_X9_asks (fr := 2000) (ν := ν) (by decide) (xs (j + 1)) (xs (j + 2)) (xs (j + 3)) μ hν e9
  refine lj_call (As := [.int (xs (j + 1)), .int (xs (j + 2)), .int (xs (j + 3))]) (ci := 9) (st := []) C okm_X9_asks (hm_tb_in (tb_2 (List.mem_of_getElem? (i := 232) rfl)) rfl) (show decode code 292 = .ok (.invokevirtual 23, 3) by decide +kernel) (pc' := 295) rfl rfl rfl (by decide) (la_o hν (by decide) rfl) rfl rfl (Nat.le_of_ble_eq_true rfl) (Nat.le_of_ble_eq_true rfl) (by omega) (by omega) c9 ?_
  obtain ⟨ν1, hν1⟩ : hm_LX μ1 := ⟨_, c9.1⟩
  refine lj_m C (show decode code 295 = .ok (.aload_n 2, 1) by decide +kernel) (pc' := 296) rfl ?_
  refine lj_arg (k := 1) C hL (by omega) rfl (show decode code 296 = .ok (.aload_n 0, 1) by decide +kernel) (show decode code 297 = .ok (.iload_n 3, 1) by decide +kernel) (show decode code 298 = .ok (.iconst 1, 1) by decide +kernel) (show decode code 299 = .ok (.iadd, 1) by decide +kernel) (show decode code 300 = .ok (.iaload, 1) by decide +kernel) (pc' := 301) rfl ?_
  refine lj_arg (k := 2) C hL (by omega) rfl (show decode code 301 = .ok (.aload_n 0, 1) by decide +kernel) (show decode code 302 = .ok (.iload_n 3, 1) by decide +kernel) (show decode code 303 = .ok (.iconst 2, 1) by decide +kernel) (show decode code 304 = .ok (.iadd, 1) by decide +kernel) (show decode code 305 = .ok (.iaload, 1) by decide +kernel) (pc' := 306) rfl ?_
  refine lj_arg (k := 3) C hL (by omega) rfl (show decode code 306 = .ok (.aload_n 0, 1) by decide +kernel) (show decode code 307 = .ok (.iload_n 3, 1) by decide +kernel) (show decode code 308 = .ok (.iconst 3, 1) by decide +kernel) (show decode code 309 = .ok (.iadd, 1) by decide +kernel) (show decode code 310 = .ok (.iaload, 1) by decide +kernel) (pc' := 311) rfl ?_
  have c10 := ok_X10_asks (fr := 2000) (ν := ν1) (by decide) (xs (j + 1)) (xs (j + 2)) (xs (j + 3)) μ1 hν1 e10
  refine lj_call (As := [.int (xs (j + 1)), .int (xs (j + 2)), .int (xs (j + 3))]) (ci := 10) (st := [.int r]) C okm_X10_asks (hm_tb_in (tb_6 (List.mem_of_getElem? (i := 215) rfl)) rfl) (show decode code 311 = .ok (.invokevirtual 26, 3) by decide +kernel) (pc' := 314) rfl rfl rfl (by decide) (la_o hν1 (by decide) rfl) rfl rfl (Nat.le_of_ble_eq_true rfl) (Nat.le_of_ble_eq_true rfl) (by omega) (by omega) c10 ?_
  refine lj_eq C (show decode code 314 = .ok (.if_icmp .eq 821, 3) by decide +kernel) (pc' := 1135) (by decide) ?_
  exact lj_w (by omega) (by omega) (K μ2 h2)
set_option maxRecDepth 100000 in
theorem lj_terms {P : hm_M → Prop} (hP : pu_all P) (C : lw_C g p s m meth c b L xs) (hL : L ≤ 3072) {j : Nat} (hj : j + 5 < L) {μ : hm_M} (h : P μ) (hk : cells + 4 ≤ 600000) (hs : slots + 878 ≤ 7302250) (K : ∀ μ2, P μ2 → lj g p l e s m below meth c b (Int32.ofNat j) 1135 [] μ2 (cells + 4) (slots + 878)) : lj g p l e s m below meth c b (Int32.ofNat j) 319 [] μ cells slots := by
  obtain ⟨ν, hν⟩ := hP.1 μ h
  obtain ⟨r, μ1, μ2, e9, e10, h2⟩ := hP.2.1.2.2.2.1 (xs (j + 1)) (xs (j + 2)) μ h
  refine lj_x C (show decode code 319 = .ok (.aload_n 1, 1) by decide +kernel) (pc' := 320) rfl ?_
  refine lj_arg (k := 1) C hL (by omega) rfl (show decode code 320 = .ok (.aload_n 0, 1) by decide +kernel) (show decode code 321 = .ok (.iload_n 3, 1) by decide +kernel) (show decode code 322 = .ok (.iconst 1, 1) by decide +kernel) (show decode code 323 = .ok (.iadd, 1) by decide +kernel) (show decode code 324 = .ok (.iaload, 1) by decide +kernel) (pc' := 325) rfl ?_
  refine lj_arg (k := 2) C hL (by omega) rfl (show decode code 325 = .ok (.aload_n 0, 1) by decide +kernel) (show decode code 326 = .ok (.iload_n 3, 1) by decide +kernel) (show decode code 327 = .ok (.iconst 2, 1) by decide +kernel) (show decode code 328 = .ok (.iadd, 1) by decide +kernel) (show decode code 329 = .ok (.iaload, 1) by decide +kernel) (pc' := 330) rfl ?_
  have c9 := ok_X9_terms (fr := 2000) (ν := ν) (by decide) (xs (j + 1)) (xs (j + 2)) μ hν e9
  refine lj_call (As := [.int (xs (j + 1)), .int (xs (j + 2))]) (ci := 9) (st := []) C okm_X9_terms (hm_tb_in (tb_3 (List.mem_of_getElem? (i := 5) rfl)) rfl) (show decode code 330 = .ok (.invokevirtual 27, 3) by decide +kernel) (pc' := 333) rfl rfl rfl (by decide) (la_o hν (by decide) rfl) rfl rfl (Nat.le_of_ble_eq_true rfl) (Nat.le_of_ble_eq_true rfl) (by omega) (by omega) c9 ?_
  obtain ⟨ν1, hν1⟩ : hm_LX μ1 := ⟨_, c9.1⟩
  refine lj_m C (show decode code 333 = .ok (.aload_n 2, 1) by decide +kernel) (pc' := 334) rfl ?_
  refine lj_arg (k := 1) C hL (by omega) rfl (show decode code 334 = .ok (.aload_n 0, 1) by decide +kernel) (show decode code 335 = .ok (.iload_n 3, 1) by decide +kernel) (show decode code 336 = .ok (.iconst 1, 1) by decide +kernel) (show decode code 337 = .ok (.iadd, 1) by decide +kernel) (show decode code 338 = .ok (.iaload, 1) by decide +kernel) (pc' := 339) rfl ?_
  refine lj_arg (k := 2) C hL (by omega) rfl (show decode code 339 = .ok (.aload_n 0, 1) by decide +kernel) (show decode code 340 = .ok (.iload_n 3, 1) by decide +kernel) (show decode code 341 = .ok (.iconst 2, 1) by decide +kernel) (show decode code 342 = .ok (.iadd, 1) by decide +kernel) (show decode code 343 = .ok (.iaload, 1) by decide +kernel) (pc' := 344) rfl ?_
  have c10 := ok_X10_terms (fr := 2000) (ν := ν1) (by decide) (xs (j + 1)) (xs (j + 2)) μ1 hν1 e10
  refine lj_call (As := [.int (xs (j + 1)), .int (xs (j + 2))]) (ci := 10) (st := [.int r]) C okm_X10_terms (hm_tb_in (tb_6 (List.mem_of_getElem? (i := 227) rfl)) rfl) (show decode code 344 = .ok (.invokevirtual 30, 3) by decide +kernel) (pc' := 347) rfl rfl rfl (by decide) (la_o hν1 (by decide) rfl) rfl rfl (Nat.le_of_ble_eq_true rfl) (Nat.le_of_ble_eq_true rfl) (by omega) (by omega) c10 ?_
  refine lj_eq C (show decode code 347 = .ok (.if_icmp .eq 788, 3) by decide +kernel) (pc' := 1135) (by decide) ?_
  exact lj_w (by omega) (by omega) (K μ2 h2)
set_option maxRecDepth 100000 in
theorem lj_feed {P : hm_M → Prop} (hP : pu_all P) (C : lw_C g p s m meth c b L xs) (hL : L ≤ 3072) {j : Nat} (hj : j + 5 < L) {μ : hm_M} (h : P μ) (hk : cells + 4 ≤ 600000) (hs : slots + 878 ≤ 7302250) (K : ∀ μ2, P μ2 → lj g p l e s m below meth c b (Int32.ofNat j) 1135 [] μ2 (cells + 4) (slots + 878)) : lj g p l e s m below meth c b (Int32.ofNat j) 352 [] μ cells slots := by
  obtain ⟨ν, hν⟩ := hP.1 μ h
  obtain ⟨r, μ1, μ2, e9, e10, h2⟩ := hP.2.1.2.2.2.2.1 (xs (j + 1)) (xs (j + 2)) (xs (j + 3)) (xs (j + 4)) (xs (j + 5)) μ h
  refine lj_x C (show decode code 352 = .ok (.aload_n 1, 1) by decide +kernel) (pc' := 353) rfl ?_
  refine lj_arg (k := 1) C hL (by omega) rfl (show decode code 353 = .ok (.aload_n 0, 1) by decide +kernel) (show decode code 354 = .ok (.iload_n 3, 1) by decide +kernel) (show decode code 355 = .ok (.iconst 1, 1) by decide +kernel) (show decode code 356 = .ok (.iadd, 1) by decide +kernel) (show decode code 357 = .ok (.iaload, 1) by decide +kernel) (pc' := 358) rfl ?_
  refine lj_arg (k := 2) C hL (by omega) rfl (show decode code 358 = .ok (.aload_n 0, 1) by decide +kernel) (show decode code 359 = .ok (.iload_n 3, 1) by decide +kernel) (show decode code 360 = .ok (.iconst 2, 1) by decide +kernel) (show decode code 361 = .ok (.iadd, 1) by decide +kernel) (show decode code 362 = .ok (.iaload, 1) by decide +kernel) (pc' := 363) rfl ?_
  refine lj_arg (k := 3) C hL (by omega) rfl (show decode code 363 = .ok (.aload_n 0, 1) by decide +kernel) (show decode code 364 = .ok (.iload_n 3, 1) by decide +kernel) (show decode code 365 = .ok (.iconst 3, 1) by decide +kernel) (show decode code 366 = .ok (.iadd, 1) by decide +kernel) (show decode code 367 = .ok (.iaload, 1) by decide +kernel) (pc' := 368) rfl ?_
  refine lj_arg (k := 4) C hL (by omega) rfl (show decode code 368 = .ok (.aload_n 0, 1) by decide +kernel) (show decode code 369 = .ok (.iload_n 3, 1) by decide +kernel) (show decode code 370 = .ok (.iconst 4, 1) by decide +kernel) (show decode code 371 = .ok (.iadd, 1) by decide +kernel) (show decode code 372 = .ok (.iaload, 1) by decide +kernel) (pc' := 373) rfl ?_
  refine lj_arg (k := 5) C hL (by omega) rfl (show decode code 373 = .ok (.aload_n 0, 1) by decide +kernel) (show decode code 374 = .ok (.iload_n 3, 1) by decide +kernel) (show decode code 375 = .ok (.iconst 5, 1) by decide +kernel) (show decode code 376 = .ok (.iadd, 1) by decide +kernel) (show decode code 377 = .ok (.iaload, 1) by decide +kernel) (pc' := 378) rfl ?_
  have c9 := ok_X9_feed (fr := 2000) (ν := ν) (by decide) (xs (j + 1)) (xs (j + 2)) (xs (j + 3)) (xs (j + 4)) (xs (j + 5)) μ hν e9
  refine lj_call (As := [.int (xs (j + 1)), .int (xs (j + 2)), .int (xs (j + 3)), .int (xs (j + 4)), .int (xs (j + 5))]) (ci := 9) (st := []) C okm_X9_feed (hm_tb_in (tb_3 (List.mem_of_getElem? (i := 11) rfl)) rfl) (show decode code 378 = .ok (.invokevirtual 31, 3) by decide +kernel) (pc' := 381) rfl rfl rfl (by decide) (la_o hν (by decide) rfl) rfl rfl (Nat.le_of_ble_eq_true rfl) (Nat.le_of_ble_eq_true rfl) (by omega) (by omega) c9 ?_
  obtain ⟨ν1, hν1⟩ : hm_LX μ1 := ⟨_, c9.1⟩
  refine lj_m C (show decode code 381 = .ok (.aload_n 2, 1) by decide +kernel) (pc' := 382) rfl ?_
  refine lj_arg (k := 1) C hL (by omega) rfl (show decode code 382 = .ok (.aload_n 0, 1) by decide +kernel) (show decode code 383 = .ok (.iload_n 3, 1) by decide +kernel) (show decode code 384 = .ok (.iconst 1, 1) by decide +kernel) (show decode code 385 = .ok (.iadd, 1) by decide +kernel) (show decode code 386 = .ok (.iaload, 1) by decide +kernel) (pc' := 387) rfl ?_
  refine lj_arg (k := 2) C hL (by omega) rfl (show decode code 387 = .ok (.aload_n 0, 1) by decide +kernel) (show decode code 388 = .ok (.iload_n 3, 1) by decide +kernel) (show decode code 389 = .ok (.iconst 2, 1) by decide +kernel) (show decode code 390 = .ok (.iadd, 1) by decide +kernel) (show decode code 391 = .ok (.iaload, 1) by decide +kernel) (pc' := 392) rfl ?_
  refine lj_arg (k := 3) C hL (by omega) rfl (show decode code 392 = .ok (.aload_n 0, 1) by decide +kernel) (show decode code 393 = .ok (.iload_n 3, 1) by decide +kernel) (show decode code 394 = .ok (.iconst 3, 1) by decide +kernel) (show decode code 395 = .ok (.iadd, 1) by decide +kernel) (show decode code 396 = .ok (.iaload, 1) by decide +kernel) (pc' := 397) rfl ?_
  refine lj_arg (k := 4) C hL (by omega) rfl (show decode code 397 = .ok (.aload_n 0, 1) by decide +kernel) (show decode code 398 = .ok (.iload_n 3, 1) by decide +kernel) (show decode code 399 = .ok (.iconst 4, 1) by decide +kernel) (show decode code 400 = .ok (.iadd, 1) by decide +kernel) (show decode code 401 = .ok (.iaload, 1) by decide +kernel) (pc' := 402) rfl ?_
  refine lj_arg (k := 5) C hL (by omega) rfl (show decode code 402 = .ok (.aload_n 0, 1) by decide +kernel) (show decode code 403 = .ok (.iload_n 3, 1) by decide +kernel) (show decode code 404 = .ok (.iconst 5, 1) by decide +kernel) (show decode code 405 = .ok (.iadd, 1) by decide +kernel) (show decode code 406 = .ok (.iaload, 1) by decide +kernel) (pc' := 407) rfl ?_
  have c10 := ok_X10_feed (fr := 2000) (ν := ν1) (by decide) (xs (j + 1)) (xs (j + 2)) (xs (j + 3)) (xs (j + 4)) (xs (j + 5)) μ1 hν1 e10
  refine lj_call (As := [.int (xs (j + 1)), .int (xs (j + 2)), .int (xs (j + 3)), .int (xs (j + 4)), .int (xs (j + 5))]) (ci := 10) (st := [.int r]) C okm_X10_feed (hm_tb_in (tb_7 (List.mem_of_getElem? (i := 5) rfl)) rfl) (show decode code 407 = .ok (.invokevirtual 35, 3) by decide +kernel) (pc' := 410) rfl rfl rfl (by decide) (la_o hν1 (by decide) rfl) rfl rfl (Nat.le_of_ble_eq_true rfl) (Nat.le_of_ble_eq_true rfl) (by omega) (by omega) c10 ?_
  refine lj_eq C (show decode code 410 = .ok (.if_icmp .eq 725, 3) by decide +kernel) (pc' := 1135) (by decide) ?_
  exact lj_w (by omega) (by omega) (K μ2 h2)
set_option maxRecDepth 100000 in
theorem lj_end {P : hm_M → Prop} (hP : pu_all P) (C : lw_C g p s m meth c b L xs) (hL : L ≤ 3072) {j : Nat} (hj : j + 5 < L) {μ : hm_M} (h : P μ) (hk : cells + 4 ≤ 600000) (hs : slots + 878 ≤ 7302250) (K : ∀ μ2, P μ2 → lj g p l e s m below meth c b (Int32.ofNat j) 1135 [] μ2 (cells + 4) (slots + 878)) : lj g p l e s m below meth c b (Int32.ofNat j) 415 [] μ cells slots := by
  obtain ⟨ν, hν⟩ := hP.1 μ h
  obtain ⟨r, μ1, μ2, e9, e10, h2⟩ := hP.2.1.2.2.2.2.2.1 (xs (j + 1)) μ h
  refine lj_x C (show decode code 415 = .ok (.aload_n 1, 1) by decide +kernel) (pc' := 416) rfl ?_
  refine lj_arg (k := 1) C hL (by omega) rfl (show decode code 416 = .ok (.aload_n 0, 1) by decide +kernel) (show decode code 417 = .ok (.iload_n 3, 1) by decide +kernel) (show decode code 418 = .ok (.iconst 1, 1) by decide +kernel) (show decode code 419 = .ok (.iadd, 1) by decide +kernel) (show decode code 420 = .ok (.iaload, 1) by decide +kernel) (pc' := 421) rfl ?_
  have c9 := ok_X9_end (fr := 2000) (ν := ν) (by decide) (xs (j + 1)) μ hν e9
  refine lj_call (As := [.int (xs (j + 1))]) (ci := 9) (st := []) C okm_X9_end (hm_tb_in (tb_3 (List.mem_of_getElem? (i := 19) rfl)) rfl) (show decode code 421 = .ok (.invokevirtual 36, 3) by decide +kernel) (pc' := 424) rfl rfl rfl (by decide) (la_o hν (by decide) rfl) rfl rfl (Nat.le_of_ble_eq_true rfl) (Nat.le_of_ble_eq_true rfl) (by omega) (by omega) c9 ?_
  obtain ⟨ν1, hν1⟩ : hm_LX μ1 := ⟨_, c9.1⟩
  refine lj_m C (show decode code 424 = .ok (.aload_n 2, 1) by decide +kernel) (pc' := 425) rfl ?_
  refine lj_arg (k := 1) C hL (by omega) rfl (show decode code 425 = .ok (.aload_n 0, 1) by decide +kernel) (show decode code 426 = .ok (.iload_n 3, 1) by decide +kernel) (show decode code 427 = .ok (.iconst 1, 1) by decide +kernel) (show decode code 428 = .ok (.iadd, 1) by decide +kernel) (show decode code 429 = .ok (.iaload, 1) by decide +kernel) (pc' := 430) rfl ?_
  have c10 := ok_X10_end (fr := 2000) (ν := ν1) (by decide) (xs (j + 1)) μ1 hν1 e10
  refine lj_call (As := [.int (xs (j + 1))]) (ci := 10) (st := [.int r]) C okm_X10_end (hm_tb_in (tb_7 (List.mem_of_getElem? (i := 9) rfl)) rfl) (show decode code 430 = .ok (.invokevirtual 40, 3) by decide +kernel) (pc' := 433) rfl rfl rfl (by decide) (la_o hν1 (by decide) rfl) rfl rfl (Nat.le_of_ble_eq_true rfl) (Nat.le_of_ble_eq_true rfl) (by omega) (by omega) c10 ?_
  refine lj_eq C (show decode code 433 = .ok (.if_icmp .eq 702, 3) by decide +kernel) (pc' := 1135) (by decide) ?_
  exact lj_w (by omega) (by omega) (K μ2 h2)
set_option maxRecDepth 100000 in
theorem lj_row {P : hm_M → Prop} (hP : pu_all P) (C : lw_C g p s m meth c b L xs) (hL : L ≤ 3072) {j : Nat} (hj : j + 5 < L) {μ : hm_M} (h : P μ) (hk : cells + 4 ≤ 600000) (hs : slots + 878 ≤ 7302250) (K : ∀ μ2, P μ2 → lj g p l e s m below meth c b (Int32.ofNat j) 1135 [] μ2 (cells + 4) (slots + 878)) : lj g p l e s m below meth c b (Int32.ofNat j) 438 [] μ cells slots := by
  obtain ⟨ν, hν⟩ := hP.1 μ h
  obtain ⟨r, μ1, μ2, e9, e10, h2⟩ := hP.2.1.2.2.2.2.2.2.1  μ h
  refine lj_x C (show decode code 438 = .ok (.aload_n 1, 1) by decide +kernel) (pc' := 439) rfl ?_
  have c9 := ok_X9_row (fr := 2000) (ν := ν) (by decide)  μ hν e9
  refine lj_call (As := []) (ci := 9) (st := []) C okm_X9_row (hm_tb_in (tb_3 (List.mem_of_getElem? (i := 23) rfl)) rfl) (show decode code 439 = .ok (.invokevirtual 41, 3) by decide +kernel) (pc' := 442) rfl rfl rfl (by decide) (la_o hν (by decide) rfl) rfl rfl (Nat.le_of_ble_eq_true rfl) (Nat.le_of_ble_eq_true rfl) (by omega) (by omega) c9 ?_
  obtain ⟨ν1, hν1⟩ : hm_LX μ1 := ⟨_, c9.1⟩
  refine lj_m C (show decode code 442 = .ok (.aload_n 2, 1) by decide +kernel) (pc' := 443) rfl ?_
  have c10 := ok_X10_row (fr := 2000) (ν := ν1) (by decide)  μ1 hν1 e10
  refine lj_call (As := []) (ci := 10) (st := [.int r]) C okm_X10_row (hm_tb_in (tb_6 (List.mem_of_getElem? (i := 237) rfl)) rfl) (show decode code 443 = .ok (.invokevirtual 45, 3) by decide +kernel) (pc' := 446) rfl rfl rfl (by decide) (la_o hν1 (by decide) rfl) rfl rfl (Nat.le_of_ble_eq_true rfl) (Nat.le_of_ble_eq_true rfl) (by omega) (by omega) c10 ?_
  refine lj_eq C (show decode code 446 = .ok (.if_icmp .eq 689, 3) by decide +kernel) (pc' := 1135) (by decide) ?_
  exact lj_w (by omega) (by omega) (K μ2 h2)
set_option maxRecDepth 100000 in
theorem lj_gaps {P : hm_M → Prop} (hP : pu_all P) (C : lw_C g p s m meth c b L xs) (hL : L ≤ 3072) {j : Nat} (hj : j + 5 < L) {μ : hm_M} (h : P μ) (hk : cells + 4 ≤ 600000) (hs : slots + 878 ≤ 7302250) (K : ∀ μ2, P μ2 → lj g p l e s m below meth c b (Int32.ofNat j) 1135 [] μ2 (cells + 4) (slots + 878)) : lj g p l e s m below meth c b (Int32.ofNat j) 451 [] μ cells slots := by
  obtain ⟨ν, hν⟩ := hP.1 μ h
  obtain ⟨r, e9, e10⟩ := hP.2.1.2.2.2.2.2.2.2  μ h
  refine lj_x C (show decode code 451 = .ok (.aload_n 1, 1) by decide +kernel) (pc' := 452) rfl ?_
  have c9 := ok_X9_gaps (fr := 2000) (ν := ν) (by decide)  μ hν e9
  refine lj_call (As := []) (ci := 9) (st := []) C okm_X9_gaps (hm_tb_in (tb_3 (List.mem_of_getElem? (i := 31) rfl)) rfl) (show decode code 452 = .ok (.invokevirtual 46, 3) by decide +kernel) (pc' := 455) rfl rfl rfl (by decide) (la_o hν (by decide) rfl) rfl rfl (Nat.le_of_ble_eq_true rfl) (Nat.le_of_ble_eq_true rfl) (by omega) (by omega) c9 ?_
  obtain ⟨ν1, hν1⟩ : hm_LX μ := ⟨_, c9.1⟩
  refine lj_m C (show decode code 455 = .ok (.aload_n 2, 1) by decide +kernel) (pc' := 456) rfl ?_
  have c10 := ok_X10_gaps (fr := 2000) (ν := ν1) (by decide)  μ hν1 e10
  refine lj_call (As := []) (ci := 10) (st := [.int r]) C okm_X10_gaps (hm_tb_in (tb_7 (List.mem_of_getElem? (i := 1) rfl)) rfl) (show decode code 456 = .ok (.invokevirtual 49, 3) by decide +kernel) (pc' := 459) rfl rfl rfl (by decide) (la_o hν1 (by decide) rfl) rfl rfl (Nat.le_of_ble_eq_true rfl) (Nat.le_of_ble_eq_true rfl) (by omega) (by omega) c10 ?_
  refine lj_eq C (show decode code 459 = .ok (.if_icmp .eq 676, 3) by decide +kernel) (pc' := 1135) (by decide) ?_
  exact lj_w (by omega) (by omega) (K μ h)
set_option maxRecDepth 100000 in
theorem lj_law {P : hm_M → Prop} (hP : pu_all P) (C : lw_C g p s m meth c b L xs) (hL : L ≤ 3072) {j : Nat} (hj : j + 5 < L) {μ : hm_M} (h : P μ) (hk : cells + 4 ≤ 600000) (hs : slots + 878 ≤ 7302250) (K : ∀ μ2, P μ2 → lj g p l e s m below meth c b (Int32.ofNat j) 1135 [] μ2 (cells + 4) (slots + 878)) : lj g p l e s m below meth c b (Int32.ofNat j) 464 [] μ cells slots := by
  obtain ⟨ν, hν⟩ := hP.1 μ h
  obtain ⟨r, μ1, μ2, e9, e10, h2⟩ := hP.2.2.1.1  μ h
  refine lj_x C (show decode code 464 = .ok (.aload_n 1, 1) by decide +kernel) (pc' := 465) rfl ?_
  have c9 := ok_X9_law (fr := 2000) (ν := ν) (by decide)  μ hν e9
  refine lj_call (As := []) (ci := 9) (st := []) C okm_X9_law (hm_tb_in (tb_3 (List.mem_of_getElem? (i := 35) rfl)) rfl) (show decode code 465 = .ok (.invokevirtual 50, 3) by decide +kernel) (pc' := 468) rfl rfl rfl (by decide) (la_o hν (by decide) rfl) rfl rfl (Nat.le_of_ble_eq_true rfl) (Nat.le_of_ble_eq_true rfl) (by omega) (by omega) c9 ?_
  obtain ⟨ν1, hν1⟩ : hm_LX μ1 := c9.1
  refine lj_m C (show decode code 468 = .ok (.aload_n 2, 1) by decide +kernel) (pc' := 469) rfl ?_
  have c10 := ok_X10_law (fr := 2000) (ν := ν1) (by decide)  μ1 hν1 e10
  refine lj_call (As := []) (ci := 10) (st := [.int r]) C okm_X10_law (hm_tb_in (tb_7 (List.mem_of_getElem? (i := 13) rfl)) rfl) (show decode code 469 = .ok (.invokevirtual 53, 3) by decide +kernel) (pc' := 472) rfl rfl rfl (by decide) (la_o hν1 (by decide) rfl) rfl rfl (Nat.le_of_ble_eq_true rfl) (Nat.le_of_ble_eq_true rfl) (by omega) (by omega) c10 ?_
  refine lj_eq C (show decode code 472 = .ok (.if_icmp .eq 663, 3) by decide +kernel) (pc' := 1135) (by decide) ?_
  exact lj_w (by omega) (by omega) (K μ2 h2)
set_option maxRecDepth 100000 in
theorem lj_orders {P : hm_M → Prop} (hP : pu_all P) (C : lw_C g p s m meth c b L xs) (hL : L ≤ 3072) {j : Nat} (hj : j + 5 < L) {μ : hm_M} (h : P μ) (hk : cells + 4 ≤ 600000) (hs : slots + 878 ≤ 7302250) (K : ∀ μ2, P μ2 → lj g p l e s m below meth c b (Int32.ofNat j) 1135 [] μ2 (cells + 4) (slots + 878)) : lj g p l e s m below meth c b (Int32.ofNat j) 477 [] μ cells slots := by
  obtain ⟨ν, hν⟩ := hP.1 μ h
  obtain ⟨r, μ1, μ2, e9, e10, h2⟩ := hP.2.2.1.2.1  μ h
  refine lj_x C (show decode code 477 = .ok (.aload_n 1, 1) by decide +kernel) (pc' := 478) rfl ?_
  have c9 := ok_X9_orders (fr := 2000) (ν := (some 156, ν.2)) (τ := ν.1) (by decide) rfl μ hν e9
  refine lj_call (As := []) (ci := 9) (st := []) C okm_X9_orders (hm_tb_in (tb_3 (List.mem_of_getElem? (i := 212) rfl)) rfl) (show decode code 478 = .ok (.invokevirtual 54, 3) by decide +kernel) (pc' := 481) rfl rfl rfl (by decide) (la_o hν (by decide) rfl) rfl rfl (Nat.le_of_ble_eq_true rfl) (Nat.le_of_ble_eq_true rfl) (by omega) (by omega) c9 ?_
  obtain ⟨ν1, hν1⟩ : hm_LX μ1 := ⟨_, c9.1⟩
  refine lj_m C (show decode code 481 = .ok (.aload_n 2, 1) by decide +kernel) (pc' := 482) rfl ?_
  have c10 := ok_X10_orders (fr := 2000) (ν := ν1) (by decide)  μ1 hν1 e10
  refine lj_call (As := []) (ci := 10) (st := [.int r]) C okm_X10_orders (hm_tb_in (tb_8 (List.mem_of_getElem? (i := 81) rfl)) rfl) (show decode code 482 = .ok (.invokevirtual 57, 3) by decide +kernel) (pc' := 485) rfl rfl rfl (by decide) (la_o hν1 (by decide) rfl) rfl rfl (Nat.le_of_ble_eq_true rfl) (Nat.le_of_ble_eq_true rfl) (by omega) (by omega) c10 ?_
  refine lj_eq C (show decode code 485 = .ok (.if_icmp .eq 650, 3) by decide +kernel) (pc' := 1135) (by decide) ?_
  exact lj_w (by omega) (by omega) (K μ2 h2)
set_option maxRecDepth 100000 in
theorem lj_fault {P : hm_M → Prop} (hP : pu_all P) (C : lw_C g p s m meth c b L xs) (hL : L ≤ 3072) {j : Nat} (hj : j + 5 < L) {μ : hm_M} (h : P μ) (hk : cells + 4 ≤ 600000) (hs : slots + 878 ≤ 7302250) (K : ∀ μ2, P μ2 → lj g p l e s m below meth c b (Int32.ofNat j) 1135 [] μ2 (cells + 4) (slots + 878)) : lj g p l e s m below meth c b (Int32.ofNat j) 490 [] μ cells slots := by
  obtain ⟨ν, hν⟩ := hP.1 μ h
  obtain ⟨r, e9, e10⟩ := hP.2.2.1.2.2.1  μ h
  refine lj_x C (show decode code 490 = .ok (.aload_n 1, 1) by decide +kernel) (pc' := 491) rfl ?_
  have c9 := ok_X9_fault (fr := 2000) (ν := ν) (by decide)  μ hν e9
  refine lj_call (As := []) (ci := 9) (st := []) C okm_X9_fault (hm_tb_in (tb_4 (List.mem_of_getElem? (i := 80) rfl)) rfl) (show decode code 491 = .ok (.invokevirtual 58, 3) by decide +kernel) (pc' := 494) rfl rfl rfl (by decide) (la_o hν (by decide) rfl) rfl rfl (Nat.le_of_ble_eq_true rfl) (Nat.le_of_ble_eq_true rfl) (by omega) (by omega) c9 ?_
  obtain ⟨ν1, hν1⟩ : hm_LX μ := ⟨_, c9.1⟩
  refine lj_m C (show decode code 494 = .ok (.aload_n 2, 1) by decide +kernel) (pc' := 495) rfl ?_
  have c10 := ok_X10_fault (fr := 2000) (ν := ν1) (by decide)  μ hν1 e10
  refine lj_call (As := []) (ci := 10) (st := [.int r]) C okm_X10_fault (hm_tb_in (tb_7 (List.mem_of_getElem? (i := 108) rfl)) rfl) (show decode code 495 = .ok (.invokevirtual 61, 3) by decide +kernel) (pc' := 498) rfl rfl rfl (by decide) (la_o hν1 (by decide) rfl) rfl rfl (Nat.le_of_ble_eq_true rfl) (Nat.le_of_ble_eq_true rfl) (by omega) (by omega) c10 ?_
  refine lj_eq C (show decode code 498 = .ok (.if_icmp .eq 637, 3) by decide +kernel) (pc' := 1135) (by decide) ?_
  exact lj_w (by omega) (by omega) (K μ h)
set_option maxRecDepth 100000 in
theorem lj_stopped {P : hm_M → Prop} (hP : pu_all P) (C : lw_C g p s m meth c b L xs) (hL : L ≤ 3072) {j : Nat} (hj : j + 5 < L) {μ : hm_M} (h : P μ) (hk : cells + 4 ≤ 600000) (hs : slots + 878 ≤ 7302250) (K : ∀ μ2, P μ2 → lj g p l e s m below meth c b (Int32.ofNat j) 1135 [] μ2 (cells + 4) (slots + 878)) : lj g p l e s m below meth c b (Int32.ofNat j) 503 [] μ cells slots := by
  obtain ⟨ν, hν⟩ := hP.1 μ h
  obtain ⟨r, e9, e10⟩ := hP.2.2.1.2.2.2.1  μ h
  refine lj_x C (show decode code 503 = .ok (.aload_n 1, 1) by decide +kernel) (pc' := 504) rfl ?_
  have c9 := ok_X9_stopped (fr := 2000) (ν := ν) (by decide)  μ hν e9
  refine lj_call (As := []) (ci := 9) (st := []) C okm_X9_stopped (hm_tb_in (tb_4 (List.mem_of_getElem? (i := 84) rfl)) rfl) (show decode code 504 = .ok (.invokevirtual 62, 3) by decide +kernel) (pc' := 507) rfl rfl rfl (by decide) (la_o hν (by decide) rfl) rfl rfl (Nat.le_of_ble_eq_true rfl) (Nat.le_of_ble_eq_true rfl) (by omega) (by omega) c9 ?_
  obtain ⟨ν1, hν1⟩ : hm_LX μ := ⟨_, c9.1⟩
  refine lj_m C (show decode code 507 = .ok (.aload_n 2, 1) by decide +kernel) (pc' := 508) rfl ?_
  have c10 := ok_X10_stopped (fr := 2000) (ν := ν1) (by decide)  μ hν1 e10
  refine lj_call (As := []) (ci := 10) (st := [.int r]) C okm_X10_stopped (hm_tb_in (tb_8 (List.mem_of_getElem? (i := 77) rfl)) rfl) (show decode code 508 = .ok (.invokevirtual 65, 3) by decide +kernel) (pc' := 511) rfl rfl rfl (by decide) (la_o hν1 (by decide) rfl) rfl rfl (Nat.le_of_ble_eq_true rfl) (Nat.le_of_ble_eq_true rfl) (by omega) (by omega) c10 ?_
  refine lj_eq C (show decode code 511 = .ok (.if_icmp .eq 624, 3) by decide +kernel) (pc' := 1135) (by decide) ?_
  exact lj_w (by omega) (by omega) (K μ h)
set_option maxRecDepth 100000 in
theorem lj_force {P : hm_M → Prop} (hP : pu_all P) (C : lw_C g p s m meth c b L xs) (hL : L ≤ 3072) {j : Nat} (hj : j + 5 < L) {μ : hm_M} (h : P μ) (hk : cells + 4 ≤ 600000) (hs : slots + 878 ≤ 7302250) (K : ∀ μ2, P μ2 → lj g p l e s m below meth c b (Int32.ofNat j) 1135 [] μ2 (cells + 4) (slots + 878)) : lj g p l e s m below meth c b (Int32.ofNat j) 516 [] μ cells slots := by
  obtain ⟨ν, hν⟩ := hP.1 μ h
  obtain ⟨r, μ1, μ2, e9, e10, h2⟩ := hP.2.2.1.2.2.2.2.1 (xs (j + 1)) μ h
  refine lj_x C (show decode code 516 = .ok (.aload_n 1, 1) by decide +kernel) (pc' := 517) rfl ?_
  refine lj_arg (k := 1) C hL (by omega) rfl (show decode code 517 = .ok (.aload_n 0, 1) by decide +kernel) (show decode code 518 = .ok (.iload_n 3, 1) by decide +kernel) (show decode code 519 = .ok (.iconst 1, 1) by decide +kernel) (show decode code 520 = .ok (.iadd, 1) by decide +kernel) (show decode code 521 = .ok (.iaload, 1) by decide +kernel) (pc' := 522) rfl ?_
  have c9 := ok_X9_force (fr := 2000) (ν := ν) (by decide) (xs (j + 1)) μ hν e9
  refine lj_call (As := [.int (xs (j + 1))]) (ci := 9) (st := []) C okm_X9_force (hm_tb_in (tb_4 (List.mem_of_getElem? (i := 88) rfl)) rfl) (show decode code 522 = .ok (.invokevirtual 66, 3) by decide +kernel) (pc' := 525) rfl rfl rfl (by decide) (la_o hν (by decide) rfl) rfl rfl (Nat.le_of_ble_eq_true rfl) (Nat.le_of_ble_eq_true rfl) (by omega) (by omega) c9 ?_
  obtain ⟨ν1, hν1⟩ : hm_LX μ1 := ⟨_, c9.1⟩
  refine lj_m C (show decode code 525 = .ok (.aload_n 2, 1) by decide +kernel) (pc' := 526) rfl ?_
  refine lj_arg (k := 1) C hL (by omega) rfl (show decode code 526 = .ok (.aload_n 0, 1) by decide +kernel) (show decode code 527 = .ok (.iload_n 3, 1) by decide +kernel) (show decode code 528 = .ok (.iconst 1, 1) by decide +kernel) (show decode code 529 = .ok (.iadd, 1) by decide +kernel) (show decode code 530 = .ok (.iaload, 1) by decide +kernel) (pc' := 531) rfl ?_
  have c10 := ok_X10_force (fr := 2000) (ν := ν1) (by decide) (xs (j + 1)) μ1 hν1 e10
  refine lj_call (As := [.int (xs (j + 1))]) (ci := 10) (st := [.int r]) C okm_X10_force (hm_tb_in (tb_7 (List.mem_of_getElem? (i := 112) rfl)) rfl) (show decode code 531 = .ok (.invokevirtual 69, 3) by decide +kernel) (pc' := 534) rfl rfl rfl (by decide) (la_o hν1 (by decide) rfl) rfl rfl (Nat.le_of_ble_eq_true rfl) (Nat.le_of_ble_eq_true rfl) (by omega) (by omega) c10 ?_
  refine lj_eq C (show decode code 534 = .ok (.if_icmp .eq 601, 3) by decide +kernel) (pc' := 1135) (by decide) ?_
  exact lj_w (by omega) (by omega) (K μ2 h2)
set_option maxRecDepth 100000 in
theorem lj_take {P : hm_M → Prop} (hP : pu_all P) (C : lw_C g p s m meth c b L xs) (hL : L ≤ 3072) {j : Nat} (hj : j + 5 < L) {μ : hm_M} (h : P μ) (hk : cells + 4 ≤ 600000) (hs : slots + 878 ≤ 7302250) (K : ∀ μ2, P μ2 → lj g p l e s m below meth c b (Int32.ofNat j) 1135 [] μ2 (cells + 4) (slots + 878)) : lj g p l e s m below meth c b (Int32.ofNat j) 539 [] μ cells slots := by
  obtain ⟨ν, hν⟩ := hP.1 μ h
  obtain ⟨r, μ1, μ2, e9, e10, h2⟩ := hP.2.2.1.2.2.2.2.2.1 (xs (j + 1)) (xs (j + 2)) μ h
  refine lj_x C (show decode code 539 = .ok (.aload_n 1, 1) by decide +kernel) (pc' := 540) rfl ?_
  refine lj_arg (k := 1) C hL (by omega) rfl (show decode code 540 = .ok (.aload_n 0, 1) by decide +kernel) (show decode code 541 = .ok (.iload_n 3, 1) by decide +kernel) (show decode code 542 = .ok (.iconst 1, 1) by decide +kernel) (show decode code 543 = .ok (.iadd, 1) by decide +kernel) (show decode code 544 = .ok (.iaload, 1) by decide +kernel) (pc' := 545) rfl ?_
  refine lj_arg (k := 2) C hL (by omega) rfl (show decode code 545 = .ok (.aload_n 0, 1) by decide +kernel) (show decode code 546 = .ok (.iload_n 3, 1) by decide +kernel) (show decode code 547 = .ok (.iconst 2, 1) by decide +kernel) (show decode code 548 = .ok (.iadd, 1) by decide +kernel) (show decode code 549 = .ok (.iaload, 1) by decide +kernel) (pc' := 550) rfl ?_
  have c9 := ok_X9_take (fr := 2000) (ν := ν) (by decide) (xs (j + 1)) (xs (j + 2)) μ hν e9
  refine lj_call (As := [.int (xs (j + 1)), .int (xs (j + 2))]) (ci := 9) (st := []) C okm_X9_take (hm_tb_in (tb_4 (List.mem_of_getElem? (i := 93) rfl)) rfl) (show decode code 550 = .ok (.invokevirtual 70, 3) by decide +kernel) (pc' := 553) rfl rfl rfl (by decide) (la_o hν (by decide) rfl) rfl rfl (Nat.le_of_ble_eq_true rfl) (Nat.le_of_ble_eq_true rfl) (by omega) (by omega) c9 ?_
  obtain ⟨ν1, hν1⟩ : hm_LX μ1 := ⟨_, c9.1⟩
  refine lj_m C (show decode code 553 = .ok (.aload_n 2, 1) by decide +kernel) (pc' := 554) rfl ?_
  refine lj_arg (k := 1) C hL (by omega) rfl (show decode code 554 = .ok (.aload_n 0, 1) by decide +kernel) (show decode code 555 = .ok (.iload_n 3, 1) by decide +kernel) (show decode code 556 = .ok (.iconst 1, 1) by decide +kernel) (show decode code 557 = .ok (.iadd, 1) by decide +kernel) (show decode code 558 = .ok (.iaload, 1) by decide +kernel) (pc' := 559) rfl ?_
  refine lj_arg (k := 2) C hL (by omega) rfl (show decode code 559 = .ok (.aload_n 0, 1) by decide +kernel) (show decode code 560 = .ok (.iload_n 3, 1) by decide +kernel) (show decode code 561 = .ok (.iconst 2, 1) by decide +kernel) (show decode code 562 = .ok (.iadd, 1) by decide +kernel) (show decode code 563 = .ok (.iaload, 1) by decide +kernel) (pc' := 564) rfl ?_
  have c10 := ok_X10_take (fr := 2000) (ν := ν1) (by decide) (xs (j + 1)) (xs (j + 2)) μ1 hν1 e10
  refine lj_call (As := [.int (xs (j + 1)), .int (xs (j + 2))]) (ci := 10) (st := [.int r]) C okm_X10_take (hm_tb_in (tb_7 (List.mem_of_getElem? (i := 124) rfl)) rfl) (show decode code 564 = .ok (.invokevirtual 73, 3) by decide +kernel) (pc' := 567) rfl rfl rfl (by decide) (la_o hν1 (by decide) rfl) rfl rfl (Nat.le_of_ble_eq_true rfl) (Nat.le_of_ble_eq_true rfl) (by omega) (by omega) c10 ?_
  refine lj_eq C (show decode code 567 = .ok (.if_icmp .eq 568, 3) by decide +kernel) (pc' := 1135) (by decide) ?_
  exact lj_w (by omega) (by omega) (K μ2 h2)
set_option maxRecDepth 100000 in
theorem lj_loose {P : hm_M → Prop} (hP : pu_all P) (C : lw_C g p s m meth c b L xs) (hL : L ≤ 3072) {j : Nat} (hj : j + 5 < L) {μ : hm_M} (h : P μ) (hk : cells + 4 ≤ 600000) (hs : slots + 878 ≤ 7302250) (K : ∀ μ2, P μ2 → lj g p l e s m below meth c b (Int32.ofNat j) 1135 [] μ2 (cells + 4) (slots + 878)) : lj g p l e s m below meth c b (Int32.ofNat j) 572 [] μ cells slots := by
  obtain ⟨ν, hν⟩ := hP.1 μ h
  obtain ⟨r, μ1, μ2, e9, e10, h2⟩ := hP.2.2.1.2.2.2.2.2.2.1 (xs (j + 1)) (xs (j + 2)) μ h
  refine lj_x C (show decode code 572 = .ok (.aload_n 1, 1) by decide +kernel) (pc' := 573) rfl ?_
  refine lj_arg (k := 1) C hL (by omega) rfl (show decode code 573 = .ok (.aload_n 0, 1) by decide +kernel) (show decode code 574 = .ok (.iload_n 3, 1) by decide +kernel) (show decode code 575 = .ok (.iconst 1, 1) by decide +kernel) (show decode code 576 = .ok (.iadd, 1) by decide +kernel) (show decode code 577 = .ok (.iaload, 1) by decide +kernel) (pc' := 578) rfl ?_
  refine lj_arg (k := 2) C hL (by omega) rfl (show decode code 578 = .ok (.aload_n 0, 1) by decide +kernel) (show decode code 579 = .ok (.iload_n 3, 1) by decide +kernel) (show decode code 580 = .ok (.iconst 2, 1) by decide +kernel) (show decode code 581 = .ok (.iadd, 1) by decide +kernel) (show decode code 582 = .ok (.iaload, 1) by decide +kernel) (pc' := 583) rfl ?_
  have c9 := ok_X9_loose (fr := 2000) (ν := ν) (by decide) (xs (j + 1)) (xs (j + 2)) μ hν e9
  refine lj_call (As := [.int (xs (j + 1)), .int (xs (j + 2))]) (ci := 9) (st := []) C okm_X9_loose (hm_tb_in (tb_4 (List.mem_of_getElem? (i := 108) rfl)) rfl) (show decode code 583 = .ok (.invokevirtual 74, 3) by decide +kernel) (pc' := 586) rfl rfl rfl (by decide) (la_o hν (by decide) rfl) rfl rfl (Nat.le_of_ble_eq_true rfl) (Nat.le_of_ble_eq_true rfl) (by omega) (by omega) c9 ?_
  obtain ⟨ν1, hν1⟩ : hm_LX μ1 := ⟨_, c9.1⟩
  refine lj_m C (show decode code 586 = .ok (.aload_n 2, 1) by decide +kernel) (pc' := 587) rfl ?_
  refine lj_arg (k := 1) C hL (by omega) rfl (show decode code 587 = .ok (.aload_n 0, 1) by decide +kernel) (show decode code 588 = .ok (.iload_n 3, 1) by decide +kernel) (show decode code 589 = .ok (.iconst 1, 1) by decide +kernel) (show decode code 590 = .ok (.iadd, 1) by decide +kernel) (show decode code 591 = .ok (.iaload, 1) by decide +kernel) (pc' := 592) rfl ?_
  refine lj_arg (k := 2) C hL (by omega) rfl (show decode code 592 = .ok (.aload_n 0, 1) by decide +kernel) (show decode code 593 = .ok (.iload_n 3, 1) by decide +kernel) (show decode code 594 = .ok (.iconst 2, 1) by decide +kernel) (show decode code 595 = .ok (.iadd, 1) by decide +kernel) (show decode code 596 = .ok (.iaload, 1) by decide +kernel) (pc' := 597) rfl ?_
  have c10 := ok_X10_loose (fr := 2000) (ν := ν1) (by decide) (xs (j + 1)) (xs (j + 2)) μ1 hν1 e10
  refine lj_call (As := [.int (xs (j + 1)), .int (xs (j + 2))]) (ci := 10) (st := [.int r]) C okm_X10_loose (hm_tb_in (tb_7 (List.mem_of_getElem? (i := 151) rfl)) rfl) (show decode code 597 = .ok (.invokevirtual 77, 3) by decide +kernel) (pc' := 600) rfl rfl rfl (by decide) (la_o hν1 (by decide) rfl) rfl rfl (Nat.le_of_ble_eq_true rfl) (Nat.le_of_ble_eq_true rfl) (by omega) (by omega) c10 ?_
  refine lj_eq C (show decode code 600 = .ok (.if_icmp .eq 535, 3) by decide +kernel) (pc' := 1135) (by decide) ?_
  exact lj_w (by omega) (by omega) (K μ2 h2)
set_option maxRecDepth 100000 in
theorem lj_walk {P : hm_M → Prop} (hP : pu_all P) (C : lw_C g p s m meth c b L xs) (hL : L ≤ 3072) {j : Nat} (hj : j + 5 < L) {μ : hm_M} (h : P μ) (hk : cells + 4 ≤ 600000) (hs : slots + 878 ≤ 7302250) (K : ∀ μ2, P μ2 → lj g p l e s m below meth c b (Int32.ofNat j) 1135 [] μ2 (cells + 4) (slots + 878)) : lj g p l e s m below meth c b (Int32.ofNat j) 605 [] μ cells slots := by
  obtain ⟨ν, hν⟩ := hP.1 μ h
  obtain ⟨r, μ1, μ2, e9, e10, h2⟩ := hP.2.2.1.2.2.2.2.2.2.2 (xs (j + 1)) (xs (j + 2)) μ h
  refine lj_x C (show decode code 605 = .ok (.aload_n 1, 1) by decide +kernel) (pc' := 606) rfl ?_
  refine lj_arg (k := 1) C hL (by omega) rfl (show decode code 606 = .ok (.aload_n 0, 1) by decide +kernel) (show decode code 607 = .ok (.iload_n 3, 1) by decide +kernel) (show decode code 608 = .ok (.iconst 1, 1) by decide +kernel) (show decode code 609 = .ok (.iadd, 1) by decide +kernel) (show decode code 610 = .ok (.iaload, 1) by decide +kernel) (pc' := 611) rfl ?_
  refine lj_arg (k := 2) C hL (by omega) rfl (show decode code 611 = .ok (.aload_n 0, 1) by decide +kernel) (show decode code 612 = .ok (.iload_n 3, 1) by decide +kernel) (show decode code 613 = .ok (.iconst 2, 1) by decide +kernel) (show decode code 614 = .ok (.iadd, 1) by decide +kernel) (show decode code 615 = .ok (.iaload, 1) by decide +kernel) (pc' := 616) rfl ?_
  have c9 := ok_X9_walk (fr := 2000) (ν := ν) (by decide) (xs (j + 1)) (xs (j + 2)) μ hν e9
  refine lj_call (As := [.int (xs (j + 1)), .int (xs (j + 2))]) (ci := 9) (st := []) C okm_X9_walk (hm_tb_in (tb_4 (List.mem_of_getElem? (i := 112) rfl)) rfl) (show decode code 616 = .ok (.invokevirtual 78, 3) by decide +kernel) (pc' := 619) rfl rfl rfl (by decide) (la_o hν (by decide) rfl) rfl rfl (Nat.le_of_ble_eq_true rfl) (Nat.le_of_ble_eq_true rfl) (by omega) (by omega) c9 ?_
  obtain ⟨ν1, hν1⟩ : hm_LX μ1 := ⟨_, c9.1⟩
  refine lj_m C (show decode code 619 = .ok (.aload_n 2, 1) by decide +kernel) (pc' := 620) rfl ?_
  refine lj_arg (k := 1) C hL (by omega) rfl (show decode code 620 = .ok (.aload_n 0, 1) by decide +kernel) (show decode code 621 = .ok (.iload_n 3, 1) by decide +kernel) (show decode code 622 = .ok (.iconst 1, 1) by decide +kernel) (show decode code 623 = .ok (.iadd, 1) by decide +kernel) (show decode code 624 = .ok (.iaload, 1) by decide +kernel) (pc' := 625) rfl ?_
  refine lj_arg (k := 2) C hL (by omega) rfl (show decode code 625 = .ok (.aload_n 0, 1) by decide +kernel) (show decode code 626 = .ok (.iload_n 3, 1) by decide +kernel) (show decode code 627 = .ok (.iconst 2, 1) by decide +kernel) (show decode code 628 = .ok (.iadd, 1) by decide +kernel) (show decode code 629 = .ok (.iaload, 1) by decide +kernel) (pc' := 630) rfl ?_
  have c10 := ok_X10_walk (fr := 2000) (ν := ν1) (by decide) (xs (j + 1)) (xs (j + 2)) μ1 hν1 e10
  refine lj_call (As := [.int (xs (j + 1)), .int (xs (j + 2))]) (ci := 10) (st := [.int r]) C okm_X10_walk (hm_tb_in (tb_7 (List.mem_of_getElem? (i := 159) rfl)) rfl) (show decode code 630 = .ok (.invokevirtual 81, 3) by decide +kernel) (pc' := 633) rfl rfl rfl (by decide) (la_o hν1 (by decide) rfl) rfl rfl (Nat.le_of_ble_eq_true rfl) (Nat.le_of_ble_eq_true rfl) (by omega) (by omega) c10 ?_
  refine lj_eq C (show decode code 633 = .ok (.if_icmp .eq 502, 3) by decide +kernel) (pc' := 1135) (by decide) ?_
  exact lj_w (by omega) (by omega) (K μ2 h2)
set_option maxRecDepth 100000 in
theorem lj_pass {P : hm_M → Prop} (hP : pu_all P) (C : lw_C g p s m meth c b L xs) (hL : L ≤ 3072) {j : Nat} (hj : j + 5 < L) {μ : hm_M} (h : P μ) (hk : cells + 4 ≤ 600000) (hs : slots + 878 ≤ 7302250) (K : ∀ μ2, P μ2 → lj g p l e s m below meth c b (Int32.ofNat j) 1135 [] μ2 (cells + 4) (slots + 878)) : lj g p l e s m below meth c b (Int32.ofNat j) 638 [] μ cells slots := by
  obtain ⟨ν, hν⟩ := hP.1 μ h
  obtain ⟨r, μ1, μ2, e9, e10, h2⟩ := hP.2.2.2.1.1  μ h
  refine lj_x C (show decode code 638 = .ok (.aload_n 1, 1) by decide +kernel) (pc' := 639) rfl ?_
  have c9 := ok_X9_pass (fr := 2000) (ν := ν) (by decide)  μ hν e9
  refine lj_call (As := []) (ci := 9) (st := []) C okm_X9_pass (hm_tb_in (tb_4 (List.mem_of_getElem? (i := 116) rfl)) rfl) (show decode code 639 = .ok (.invokevirtual 82, 3) by decide +kernel) (pc' := 642) rfl rfl rfl (by decide) (la_o hν (by decide) rfl) rfl rfl (Nat.le_of_ble_eq_true rfl) (Nat.le_of_ble_eq_true rfl) (by omega) (by omega) c9 ?_
  obtain ⟨ν1, hν1⟩ : hm_LX μ1 := ⟨_, c9.1⟩
  refine lj_m C (show decode code 642 = .ok (.aload_n 2, 1) by decide +kernel) (pc' := 643) rfl ?_
  have c10 := ok_X10_pass (fr := 2000) (ν := ν1) (by decide)  μ1 hν1 e10
  refine lj_call (As := []) (ci := 10) (st := [.int r]) C okm_X10_pass (hm_tb_in (tb_7 (List.mem_of_getElem? (i := 174) rfl)) rfl) (show decode code 643 = .ok (.invokevirtual 85, 3) by decide +kernel) (pc' := 646) rfl rfl rfl (by decide) (la_o hν1 (by decide) rfl) rfl rfl (Nat.le_of_ble_eq_true rfl) (Nat.le_of_ble_eq_true rfl) (by omega) (by omega) c10 ?_
  refine lj_eq C (show decode code 646 = .ok (.if_icmp .eq 489, 3) by decide +kernel) (pc' := 1135) (by decide) ?_
  exact lj_w (by omega) (by omega) (K μ2 h2)
set_option maxRecDepth 100000 in
theorem lj_undo {P : hm_M → Prop} (hP : pu_all P) (C : lw_C g p s m meth c b L xs) (hL : L ≤ 3072) {j : Nat} (hj : j + 5 < L) {μ : hm_M} (h : P μ) (hk : cells + 4 ≤ 600000) (hs : slots + 878 ≤ 7302250) (K : ∀ μ2, P μ2 → lj g p l e s m below meth c b (Int32.ofNat j) 1135 [] μ2 (cells + 4) (slots + 878)) : lj g p l e s m below meth c b (Int32.ofNat j) 651 [] μ cells slots := by
  obtain ⟨ν, hν⟩ := hP.1 μ h
  obtain ⟨r, μ1, μ2, e9, e10, h2⟩ := hP.2.2.2.1.2.1  μ h
  refine lj_x C (show decode code 651 = .ok (.aload_n 1, 1) by decide +kernel) (pc' := 652) rfl ?_
  have c9 := ok_X9_undo (fr := 2000) (ν := ν) (by decide)  μ hν e9
  refine lj_call (As := []) (ci := 9) (st := []) C okm_X9_undo (hm_tb_in (tb_4 (List.mem_of_getElem? (i := 120) rfl)) rfl) (show decode code 652 = .ok (.invokevirtual 86, 3) by decide +kernel) (pc' := 655) rfl rfl rfl (by decide) (la_o hν (by decide) rfl) rfl rfl (Nat.le_of_ble_eq_true rfl) (Nat.le_of_ble_eq_true rfl) (by omega) (by omega) c9 ?_
  obtain ⟨ν1, hν1⟩ : hm_LX μ1 := ⟨_, c9.1⟩
  refine lj_m C (show decode code 655 = .ok (.aload_n 2, 1) by decide +kernel) (pc' := 656) rfl ?_
  have c10 := ok_X10_undo (fr := 2000) (ν := ν1) (by decide)  μ1 hν1 e10
  refine lj_call (As := []) (ci := 10) (st := [.int r]) C okm_X10_undo (hm_tb_in (tb_7 (List.mem_of_getElem? (i := 120) rfl)) rfl) (show decode code 656 = .ok (.invokevirtual 89, 3) by decide +kernel) (pc' := 659) rfl rfl rfl (by decide) (la_o hν1 (by decide) rfl) rfl rfl (Nat.le_of_ble_eq_true rfl) (Nat.le_of_ble_eq_true rfl) (by omega) (by omega) c10 ?_
  refine lj_eq C (show decode code 659 = .ok (.if_icmp .eq 476, 3) by decide +kernel) (pc' := 1135) (by decide) ?_
  exact lj_w (by omega) (by omega) (K μ2 h2)
set_option maxRecDepth 100000 in
theorem lj_lights {P : hm_M → Prop} (hP : pu_all P) (C : lw_C g p s m meth c b L xs) (hL : L ≤ 3072) {j : Nat} (hj : j + 5 < L) {μ : hm_M} (h : P μ) (hk : cells + 4 ≤ 600000) (hs : slots + 878 ≤ 7302250) (K : ∀ μ2, P μ2 → lj g p l e s m below meth c b (Int32.ofNat j) 1135 [] μ2 (cells + 4) (slots + 878)) : lj g p l e s m below meth c b (Int32.ofNat j) 664 [] μ cells slots := by
  obtain ⟨ν, hν⟩ := hP.1 μ h
  obtain ⟨r, μ1, μ2, e9, e10, h2⟩ := hP.2.2.2.1.2.2.1 (xs (j + 1)) μ h
  refine lj_x C (show decode code 664 = .ok (.aload_n 1, 1) by decide +kernel) (pc' := 665) rfl ?_
  refine lj_arg (k := 1) C hL (by omega) rfl (show decode code 665 = .ok (.aload_n 0, 1) by decide +kernel) (show decode code 666 = .ok (.iload_n 3, 1) by decide +kernel) (show decode code 667 = .ok (.iconst 1, 1) by decide +kernel) (show decode code 668 = .ok (.iadd, 1) by decide +kernel) (show decode code 669 = .ok (.iaload, 1) by decide +kernel) (pc' := 670) rfl ?_
  have c9 := ok_X9_lights (fr := 2000) (ν := ν) (by decide) (xs (j + 1)) μ hν e9
  refine lj_call (As := [.int (xs (j + 1))]) (ci := 9) (st := []) C okm_X9_lights (hm_tb_in (tb_4 (List.mem_of_getElem? (i := 128) rfl)) rfl) (show decode code 670 = .ok (.invokevirtual 90, 3) by decide +kernel) (pc' := 673) rfl rfl rfl (by decide) (la_o hν (by decide) rfl) rfl rfl (Nat.le_of_ble_eq_true rfl) (Nat.le_of_ble_eq_true rfl) (by omega) (by omega) c9 ?_
  obtain ⟨ν1, hν1⟩ : hm_LX μ1 := ⟨_, c9.1⟩
  refine lj_m C (show decode code 673 = .ok (.aload_n 2, 1) by decide +kernel) (pc' := 674) rfl ?_
  refine lj_arg (k := 1) C hL (by omega) rfl (show decode code 674 = .ok (.aload_n 0, 1) by decide +kernel) (show decode code 675 = .ok (.iload_n 3, 1) by decide +kernel) (show decode code 676 = .ok (.iconst 1, 1) by decide +kernel) (show decode code 677 = .ok (.iadd, 1) by decide +kernel) (show decode code 678 = .ok (.iaload, 1) by decide +kernel) (pc' := 679) rfl ?_
  have c10 := ok_X10_lights (fr := 2000) (ν := ν1) (by decide) (xs (j + 1)) μ1 hν1 e10
  refine lj_call (As := [.int (xs (j + 1))]) (ci := 10) (st := [.int r]) C okm_X10_lights (hm_tb_in (tb_7 (List.mem_of_getElem? (i := 186) rfl)) rfl) (show decode code 679 = .ok (.invokevirtual 93, 3) by decide +kernel) (pc' := 682) rfl rfl rfl (by decide) (la_o hν1 (by decide) rfl) rfl rfl (Nat.le_of_ble_eq_true rfl) (Nat.le_of_ble_eq_true rfl) (by omega) (by omega) c10 ?_
  refine lj_eq C (show decode code 682 = .ok (.if_icmp .eq 453, 3) by decide +kernel) (pc' := 1135) (by decide) ?_
  exact lj_w (by omega) (by omega) (K μ2 h2)
end LJC
