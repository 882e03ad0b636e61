/-! the cases of the law's switch (made by mklaw.py) -/
def zLw (p : Program) (s : State) (m : MethodId) (c : Code) (D : va_G) (cy : Nat → ClassId) (b L : Nat) (xs : Nat → Int32) : Prop := zCt RL cL_law 4 p s m #[Value.ref b] c D cy ∧ va_X b L xs s s.heap ∧ b < s.heap.size ∧ L ≤ 2048
abbrev zAw (s : State) : Nat → Prop := fun q => s.heap.size ≤ q
section S88
variable {p : Program} {l : Launch} {e : Env} {s : State} {m : MethodId} {below : List Frame} {meth : Method} {c : Code} {D : va_G} {cy : Nat → ClassId} {b L i : Nat} {xs : Nat → Int32} {al : Nat → Nat} {mu : Mem} {H : Heap} {locs : List Loc} {ls : Array Slot} {Q : State → Prop}
theorem zl_ld (B : zLw p s m c D cy b L xs) (St : zSt (zAw s) s D (zwl 93 al cy mu) H locs) (hl : lv_has ls 4 [(0, .ref b), (1, .ref (al 0)), (2, .ref (al 64)), (3, .int (nI i))]) {pc k : Nat} {kI : Int} {rest : List Value} (hk : i + k < L) (d0 : decode cL_law pc = .ok (.aload_n 0, 1)) (d1 : decode cL_law (pc + 1) = .ok (.iload_n 3, 1)) (d2 : decode cL_law (pc + 2) = .ok (.iconst kI, 1)) (hv : Int32.ofInt kI = nI k) (d3 : decode cL_law (pc + 3) = .ok (.iadd, 1)) (d4 : decode cL_law (pc + 4) = .ok (.iaload, 1)) (kk : W p l e room_1 s m #[Value.ref b] below meth c H locs 93 79816 Q (F0 m (pc + 5) ls (.int (xs (i + k)) :: rest))) : W p l e room_1 s m #[Value.ref b] below meth c H locs 93 79816 Q (F0 m pc ls rest) := by
  have hL := B.2.2.2
  refine lv_aload_n B.1.1 B.1.2.1 d0 rfl (lv_at hl 0 rfl) ?_
  refine lv_iload_n B.1.1 B.1.2.1 d1 rfl (lv_at hl 3 rfl) ?_
  refine lv_iconst (v := nI k) B.1.1 B.1.2.1 d2 hv ?_
  refine lv_iadd B.1.1 B.1.2.1 d3 ?_
  rw [nI_add]
  refine va_sld B.1.1 B.1.2.1 B.2.1 B.2.2.1 (Nat.not_le.mpr B.2.2.1) St.2.2 (vp_in_nI hk (by omega)) d4 ?_
  rw [nI_clamp (by omega)]
  exact kk
theorem zl_arg (B : zLw p s m c D cy b L xs) (St : zSt (zAw s) s D (zwl 93 al cy mu) H locs) (hl : lv_has ls 4 [(0, .ref b), (1, .ref (al 0)), (2, .ref (al 64)), (3, .int (nI i))]) {pc k : Nat} {kI : Int} {rest : List Value} (hk : i + k < L) (d0 : decode cL_law pc = .ok (.aload_n 0, 1)) (d1 : decode cL_law (pc + 1) = .ok (.iload_n 3, 1)) (d2 : decode cL_law (pc + 2) = .ok (.iconst kI, 1)) (hv : Int32.ofInt kI = nI k) (d3 : decode cL_law (pc + 3) = .ok (.iadd, 1)) (d4 : decode cL_law (pc + 4) = .ok (.iaload, 1)) (kk : W p l e room_1 s m #[Value.ref b] below meth c H locs 93 79816 Q (F0 m (pc + 5) ls (zcv al (zI (xs (i + k)).toInt) :: rest))) : W p l e room_1 s m #[Value.ref b] below meth c H locs 93 79816 Q (F0 m pc ls rest) := by
  refine zl_ld B St hl hk d0 d1 d2 hv d3 d4 ?_
  have hx : Value.int (xs (i + k)) = zcv al (zI (xs (i + k)).toInt) := by
    show _ = Value.int (z32 _)
    rw [z32_of]
  rw [hx]
  exact kk
theorem lg_cmp_self (x : Int64) : lg_cmp x x = 0 := by
  have h : ¬ x > x := fun q => by
    have := Int64.lt_iff_toInt_lt.mp q
    omega
  unfold lg_cmp
  rw [if_neg h, if_pos rfl]
set_option maxHeartbeats 2000000 in
/-- case 0: write -/
theorem lw_c0 (B : zLw p s m c D cy b L xs) (St : zSt (zAw s) s D (zwl 93 al cy mu) H locs) (hl : lv_has ls 4 [(0, .ref b), (1, .ref (al 0)), (2, .ref (al 64)), (3, .int (nI i))]) {P : Int} (hJ : jJ mu P) (hi : i + 3 < L) (kk : ∀ (nu : Mem) (P : Int) (H : Heap) (locs : List Loc), jJ nu P → zSt (zAw s) s D (zwl 93 al cy nu) H locs → W p l e room_1 s m #[Value.ref b] below meth c H locs 93 79816 Q (F0 m 773 ls [])) : W p l e room_1 s m #[Value.ref b] below meth c H locs 93 79816 Q (F0 m 152 ls []) := by
  refine lv_aload_n B.1.1 B.1.2.1 dL_law_152 rfl (lv_at hl 1 rfl) ?_
  refine zl_arg B St hl (k := 1) (by omega) dL_law_153 dL_law_154 dL_law_155 rfl dL_law_156 dL_law_157 ?_
  refine zl_ld B St hl (k := 2) (by omega) dL_law_158 dL_law_159 dL_law_160 rfl dL_law_161 dL_law_162 ?_
  refine lv_i2l B.1.1 B.1.2.1 dL_law_163 rfl ?_
  refine lv_bipush (v := 32) B.1.1 B.1.2.1 dL_law_164 (by decide) ?_
  refine lv_lshl B.1.1 B.1.2.1 dL_law_166 rfl ?_
  refine zl_ld B St hl (k := 3) (by omega) dL_law_167 dL_law_168 dL_law_169 rfl dL_law_170 dL_law_171 ?_
  refine lv_i2l B.1.1 B.1.2.1 dL_law_172 rfl ?_
  refine lv_ldc2 B.1.1 B.1.2.1 B.1.2.2.2.1 (B.1.2.2.2.2.1 _ kL_13) dL_law_173 ?_
  refine lv_land B.1.1 B.1.2.1 dL_law_176 ?_
  refine lv_lor B.1.1 B.1.2.1 dL_law_177 ?_
  generalize hy : ((xs (i + 2)).toInt64 <<< ((32 : Int32).toInt64 &&& 63)) ||| ((xs (i + 3)).toInt64 &&& 4294967295) = y
  have hz : Value.long y = zcv al (zJ y.toInt) := by
    show _ = Value.long (z64 _)
    rw [z64_of]
  rw [hz]
  refine zt_callV B.1 (As := [zI (xs (i + 1)).toInt, zJ y.toInt]) (rest := []) (k := 0) (d' := 1) (Y' := mX8_write) St (fun _ h => h) hl.1 dL_law_178 lL_15 vX8_write ⟨Nat.le_of_ble_eq_true rfl, Nat.le_of_ble_eq_true rfl⟩ (o0 (Nat.le_of_ble_eq_true rfl)) rfl rfl (Nat.le_of_ble_eq_true rfl) rfl ⟨Nat.le_of_ble_eq_true rfl, Nat.le_of_ble_eq_true rfl⟩ (op_write _  _  (zin_toInt _) (zil_toInt _) mu P hJ) (fun v nu H locs hQ St => ?_)
  obtain ⟨r, hr, rfl, hC⟩ := hQ
  refine W.eq (g2 := F0 m 181 ls [zcv al (zI r)]) rfl ?_
  refine lv_aload_n B.1.1 B.1.2.1 dL_law_181 rfl (lv_at hl 2 rfl) ?_
  refine zl_arg B St hl (k := 1) (by omega) dL_law_182 dL_law_183 dL_law_184 rfl dL_law_185 dL_law_186 ?_
  refine zl_ld B St hl (k := 2) (by omega) dL_law_187 dL_law_188 dL_law_189 rfl dL_law_190 dL_law_191 ?_
  refine lv_i2l B.1.1 B.1.2.1 dL_law_192 rfl ?_
  refine lv_bipush (v := 32) B.1.1 B.1.2.1 dL_law_193 (by decide) ?_
  refine lv_lshl B.1.1 B.1.2.1 dL_law_195 rfl ?_
  refine zl_ld B St hl (k := 3) (by omega) dL_law_196 dL_law_197 dL_law_198 rfl dL_law_199 dL_law_200 ?_
  refine lv_i2l B.1.1 B.1.2.1 dL_law_201 rfl ?_
  refine lv_ldc2 B.1.1 B.1.2.1 B.1.2.2.2.1 (B.1.2.2.2.2.1 _ kL_13) dL_law_202 ?_
  refine lv_land B.1.1 B.1.2.1 dL_law_205 ?_
  refine lv_lor B.1.1 B.1.2.1 dL_law_206 ?_
  rw [hy]
  rw [hz]
  refine zt_callV B.1 (As := [zI (xs (i + 1)).toInt, zJ y.toInt]) (rest := [zI r]) (k := 64) (d' := 1) (Y' := mX9_write) St (fun _ h => h) hl.1 dL_law_207 lL_19 vX9_write ⟨Nat.le_of_ble_eq_true rfl, Nat.le_of_ble_eq_true rfl⟩ (o64 (Nat.le_refl 93)) rfl rfl (Nat.le_of_ble_eq_true rfl) rfl ⟨Nat.le_of_ble_eq_true rfl, Nat.le_of_ble_eq_true rfl⟩ hC (fun v nu H locs hQ St => ?_)
  obtain ⟨rfl, P2, hJ2⟩ := hQ
  refine W.eq (g2 := F0 m 210 ls [.int (z32 r), .int (z32 r)]) rfl ?_
  refine lv_icmp_eq (tgt := 773) B.1.1 B.1.2.1 dL_law_210 (by decide) (fun _ => ?_) (fun h => absurd rfl h)
  exact kk nu P2 H locs hJ2 St
set_option maxHeartbeats 2000000 in
/-- case 1: wipe -/
theorem lw_c1 (B : zLw p s m c D cy b L xs) (St : zSt (zAw s) s D (zwl 93 al cy mu) H locs) (hl : lv_has ls 4 [(0, .ref b), (1, .ref (al 0)), (2, .ref (al 64)), (3, .int (nI i))]) {P : Int} (hJ : jJ mu P) (hi : i + 3 < L) (kk : ∀ (nu : Mem) (P : Int) (H : Heap) (locs : List Loc), jJ nu P → zSt (zAw s) s D (zwl 93 al cy nu) H locs → W p l e room_1 s m #[Value.ref b] below meth c H locs 93 79816 Q (F0 m 773 ls [])) : W p l e room_1 s m #[Value.ref b] below meth c H locs 93 79816 Q (F0 m 215 ls []) := by
  refine lv_aload_n B.1.1 B.1.2.1 dL_law_215 rfl (lv_at hl 1 rfl) ?_
  refine zt_callV B.1 (As := []) (rest := []) (k := 0) (d' := 0) (Y' := mX8_wipe) St (fun _ h => h) hl.1 dL_law_216 lL_20 vX8_wipe ⟨Nat.le_of_ble_eq_true rfl, Nat.le_of_ble_eq_true rfl⟩ (o0 (Nat.le_of_ble_eq_true rfl)) rfl rfl (Nat.le_of_ble_eq_true rfl) rfl ⟨Nat.le_of_ble_eq_true rfl, Nat.le_of_ble_eq_true rfl⟩ (op_wipe mu P hJ) (fun v nu H locs hQ St => ?_)
  obtain ⟨r, hr, rfl, hC⟩ := hQ
  refine W.eq (g2 := F0 m 219 ls [zcv al (zI r)]) rfl ?_
  refine lv_aload_n B.1.1 B.1.2.1 dL_law_219 rfl (lv_at hl 2 rfl) ?_
  refine zt_callV B.1 (As := []) (rest := [zI r]) (k := 64) (d' := 0) (Y' := mX9_wipe) St (fun _ h => h) hl.1 dL_law_220 lL_24 vX9_wipe ⟨Nat.le_of_ble_eq_true rfl, Nat.le_of_ble_eq_true rfl⟩ (o64 (Nat.le_refl 93)) rfl rfl (Nat.le_of_ble_eq_true rfl) rfl ⟨Nat.le_of_ble_eq_true rfl, Nat.le_of_ble_eq_true rfl⟩ hC (fun v nu H locs hQ St => ?_)
  obtain ⟨rfl, P2, hJ2⟩ := hQ
  refine W.eq (g2 := F0 m 223 ls [.int (z32 r), .int (z32 r)]) rfl ?_
  refine lv_icmp_eq (tgt := 773) B.1.1 B.1.2.1 dL_law_223 (by decide) (fun _ => ?_) (fun h => absurd rfl h)
  exact kk nu P2 H locs hJ2 St
set_option maxHeartbeats 2000000 in
/-- case 2: fault -/
theorem lw_c2 (B : zLw p s m c D cy b L xs) (St : zSt (zAw s) s D (zwl 93 al cy mu) H locs) (hl : lv_has ls 4 [(0, .ref b), (1, .ref (al 0)), (2, .ref (al 64)), (3, .int (nI i))]) {P : Int} (hJ : jJ mu P) (hi : i + 3 < L) (kk : ∀ (nu : Mem) (P : Int) (H : Heap) (locs : List Loc), jJ nu P → zSt (zAw s) s D (zwl 93 al cy nu) H locs → W p l e room_1 s m #[Value.ref b] below meth c H locs 93 79816 Q (F0 m 773 ls [])) : W p l e room_1 s m #[Value.ref b] below meth c H locs 93 79816 Q (F0 m 228 ls []) := by
  refine lv_aload_n B.1.1 B.1.2.1 dL_law_228 rfl (lv_at hl 1 rfl) ?_
  refine zt_callV B.1 (As := []) (rest := []) (k := 0) (d' := 6) (Y' := mX8_fault) St (fun _ h => h) hl.1 dL_law_229 lL_25 vX8_fault ⟨Nat.le_of_ble_eq_true rfl, Nat.le_of_ble_eq_true rfl⟩ (o0 (Nat.le_of_ble_eq_true rfl)) rfl rfl (Nat.le_of_ble_eq_true rfl) rfl ⟨Nat.le_of_ble_eq_true rfl, Nat.le_of_ble_eq_true rfl⟩ (op_fault mu P hJ) (fun v nu H locs hQ St => ?_)
  obtain ⟨r, hr, rfl, hC⟩ := hQ
  refine W.eq (g2 := F0 m 232 ls [zcv al (zI r)]) rfl ?_
  refine lv_aload_n B.1.1 B.1.2.1 dL_law_232 rfl (lv_at hl 2 rfl) ?_
  refine zt_callV B.1 (As := []) (rest := [zI r]) (k := 64) (d' := 5) (Y' := mX9_fault) St (fun _ h => h) hl.1 dL_law_233 lL_28 vX9_fault ⟨Nat.le_of_ble_eq_true rfl, Nat.le_of_ble_eq_true rfl⟩ (o64 (Nat.le_refl 93)) rfl rfl (Nat.le_of_ble_eq_true rfl) rfl ⟨Nat.le_of_ble_eq_true rfl, Nat.le_of_ble_eq_true rfl⟩ hC (fun v nu H locs hQ St => ?_)
  obtain ⟨rfl, P2, hJ2⟩ := hQ
  refine W.eq (g2 := F0 m 236 ls [.int (z32 r), .int (z32 r)]) rfl ?_
  refine lv_icmp_eq (tgt := 773) B.1.1 B.1.2.1 dL_law_236 (by decide) (fun _ => ?_) (fun h => absurd rfl h)
  exact kk nu P2 H locs hJ2 St
set_option maxHeartbeats 2000000 in
/-- case 3: lay -/
theorem lw_c3 (B : zLw p s m c D cy b L xs) (St : zSt (zAw s) s D (zwl 93 al cy mu) H locs) (hl : lv_has ls 4 [(0, .ref b), (1, .ref (al 0)), (2, .ref (al 64)), (3, .int (nI i))]) {P : Int} (hJ : jJ mu P) (hi : i + 3 < L) (kk : ∀ (nu : Mem) (P : Int) (H : Heap) (locs : List Loc), jJ nu P → zSt (zAw s) s D (zwl 93 al cy nu) H locs → W p l e room_1 s m #[Value.ref b] below meth c H locs 93 79816 Q (F0 m 773 ls [])) : W p l e room_1 s m #[Value.ref b] below meth c H locs 93 79816 Q (F0 m 241 ls []) := by
  refine lv_aload_n B.1.1 B.1.2.1 dL_law_241 rfl (lv_at hl 1 rfl) ?_
  refine zt_callV B.1 (As := []) (rest := []) (k := 0) (d' := 6) (Y' := mX8_lay) St (fun _ h => h) hl.1 dL_law_242 lL_29 vX8_lay ⟨Nat.le_of_ble_eq_true rfl, Nat.le_of_ble_eq_true rfl⟩ (o0 (Nat.le_of_ble_eq_true rfl)) rfl rfl (Nat.le_of_ble_eq_true rfl) rfl ⟨Nat.le_of_ble_eq_true rfl, Nat.le_of_ble_eq_true rfl⟩ (op_lay mu P hJ) (fun v nu H locs hQ St => ?_)
  obtain ⟨r, hr, rfl, hC⟩ := hQ
  refine W.eq (g2 := F0 m 245 ls [zcv al (zI r)]) rfl ?_
  refine lv_aload_n B.1.1 B.1.2.1 dL_law_245 rfl (lv_at hl 2 rfl) ?_
  refine zt_callV B.1 (As := []) (rest := [zI r]) (k := 64) (d' := 5) (Y' := mX9_lay) St (fun _ h => h) hl.1 dL_law_246 lL_32 vX9_lay ⟨Nat.le_of_ble_eq_true rfl, Nat.le_of_ble_eq_true rfl⟩ (o64 (Nat.le_refl 93)) rfl rfl (Nat.le_of_ble_eq_true rfl) rfl ⟨Nat.le_of_ble_eq_true rfl, Nat.le_of_ble_eq_true rfl⟩ hC (fun v nu H locs hQ St => ?_)
  obtain ⟨rfl, P2, hJ2⟩ := hQ
  refine W.eq (g2 := F0 m 249 ls [.int (z32 r), .int (z32 r)]) rfl ?_
  refine lv_icmp_eq (tgt := 773) B.1.1 B.1.2.1 dL_law_249 (by decide) (fun _ => ?_) (fun h => absurd rfl h)
  exact kk nu P2 H locs hJ2 St
set_option maxHeartbeats 2000000 in
/-- case 4: worth -/
theorem lw_c4 (B : zLw p s m c D cy b L xs) (St : zSt (zAw s) s D (zwl 93 al cy mu) H locs) (hl : lv_has ls 4 [(0, .ref b), (1, .ref (al 0)), (2, .ref (al 64)), (3, .int (nI i))]) {P : Int} (hJ : jJ mu P) (hi : i + 3 < L) (kk : ∀ (nu : Mem) (P : Int) (H : Heap) (locs : List Loc), jJ nu P → zSt (zAw s) s D (zwl 93 al cy nu) H locs → W p l e room_1 s m #[Value.ref b] below meth c H locs 93 79816 Q (F0 m 773 ls [])) : W p l e room_1 s m #[Value.ref b] below meth c H locs 93 79816 Q (F0 m 254 ls []) := by
  refine lv_aload_n B.1.1 B.1.2.1 dL_law_254 rfl (lv_at hl 1 rfl) ?_
  refine zl_arg B St hl (k := 1) (by omega) dL_law_255 dL_law_256 dL_law_257 rfl dL_law_258 dL_law_259 ?_
  refine zl_arg B St hl (k := 2) (by omega) dL_law_260 dL_law_261 dL_law_262 rfl dL_law_263 dL_law_264 ?_
  refine zt_callV B.1 (As := [zI (xs (i + 1)).toInt, zI (xs (i + 2)).toInt]) (rest := []) (k := 0) (d' := 3) (Y' := mX8_worth) St (fun _ h => h) hl.1 dL_law_265 lL_33 vX8_worth ⟨Nat.le_of_ble_eq_true rfl, Nat.le_of_ble_eq_true rfl⟩ (o0 (Nat.le_of_ble_eq_true rfl)) rfl rfl (Nat.le_of_ble_eq_true rfl) rfl ⟨Nat.le_of_ble_eq_true rfl, Nat.le_of_ble_eq_true rfl⟩ (op_worth _  _  (zin_toInt _) (zin_toInt _) mu P hJ) (fun v nu H locs hQ St => ?_)
  obtain ⟨r, hr, rfl, hC⟩ := hQ
  refine W.eq (g2 := F0 m 268 ls [zcv al (zI r)]) rfl ?_
  refine lv_aload_n B.1.1 B.1.2.1 dL_law_268 rfl (lv_at hl 2 rfl) ?_
  refine zl_arg B St hl (k := 1) (by omega) dL_law_269 dL_law_270 dL_law_271 rfl dL_law_272 dL_law_273 ?_
  refine zl_arg B St hl (k := 2) (by omega) dL_law_274 dL_law_275 dL_law_276 rfl dL_law_277 dL_law_278 ?_
  refine zt_callV B.1 (As := [zI (xs (i + 1)).toInt, zI (xs (i + 2)).toInt]) (rest := [zI r]) (k := 64) (d' := 3) (Y' := mX9_worth) St (fun _ h => h) hl.1 dL_law_279 lL_37 vX9_worth ⟨Nat.le_of_ble_eq_true rfl, Nat.le_of_ble_eq_true rfl⟩ (o64 (Nat.le_refl 93)) rfl rfl (Nat.le_of_ble_eq_true rfl) rfl ⟨Nat.le_of_ble_eq_true rfl, Nat.le_of_ble_eq_true rfl⟩ hC (fun v nu H locs hQ St => ?_)
  obtain ⟨rfl, P2, hJ2⟩ := hQ
  refine W.eq (g2 := F0 m 282 ls [.int (z32 r), .int (z32 r)]) rfl ?_
  refine lv_icmp_eq (tgt := 773) B.1.1 B.1.2.1 dL_law_282 (by decide) (fun _ => ?_) (fun h => absurd rfl h)
  exact kk nu P2 H locs hJ2 St
set_option maxHeartbeats 2000000 in
/-- case 5: given -/
theorem lw_c5 (B : zLw p s m c D cy b L xs) (St : zSt (zAw s) s D (zwl 93 al cy mu) H locs) (hl : lv_has ls 4 [(0, .ref b), (1, .ref (al 0)), (2, .ref (al 64)), (3, .int (nI i))]) {P : Int} (hJ : jJ mu P) (hi : i + 3 < L) (kk : ∀ (nu : Mem) (P : Int) (H : Heap) (locs : List Loc), jJ nu P → zSt (zAw s) s D (zwl 93 al cy nu) H locs → W p l e room_1 s m #[Value.ref b] below meth c H locs 93 79816 Q (F0 m 773 ls [])) : W p l e room_1 s m #[Value.ref b] below meth c H locs 93 79816 Q (F0 m 287 ls []) := by
  refine lv_aload_n B.1.1 B.1.2.1 dL_law_287 rfl (lv_at hl 1 rfl) ?_
  refine zl_arg B St hl (k := 1) (by omega) dL_law_288 dL_law_289 dL_law_290 rfl dL_law_291 dL_law_292 ?_
  refine zt_callV B.1 (As := [zI (xs (i + 1)).toInt]) (rest := []) (k := 0) (d' := 3) (Y' := mX8_given) St (fun _ h => h) hl.1 dL_law_293 lL_38 vX8_given ⟨Nat.le_of_ble_eq_true rfl, Nat.le_of_ble_eq_true rfl⟩ (o0 (Nat.le_of_ble_eq_true rfl)) rfl rfl (Nat.le_of_ble_eq_true rfl) rfl ⟨Nat.le_of_ble_eq_true rfl, Nat.le_of_ble_eq_true rfl⟩ (op_given _  (zin_toInt _) mu P hJ) (fun v nu H locs hQ St => ?_)
  obtain ⟨r, hr, rfl, hC⟩ := hQ
  refine W.eq (g2 := F0 m 296 ls [zcv al (zI r)]) rfl ?_
  refine lv_aload_n B.1.1 B.1.2.1 dL_law_296 rfl (lv_at hl 2 rfl) ?_
  refine zl_arg B St hl (k := 1) (by omega) dL_law_297 dL_law_298 dL_law_299 rfl dL_law_300 dL_law_301 ?_
  refine zt_callV B.1 (As := [zI (xs (i + 1)).toInt]) (rest := [zI r]) (k := 64) (d' := 3) (Y' := mX9_given) St (fun _ h => h) hl.1 dL_law_302 lL_42 vX9_given ⟨Nat.le_of_ble_eq_true rfl, Nat.le_of_ble_eq_true rfl⟩ (o64 (Nat.le_refl 93)) rfl rfl (Nat.le_of_ble_eq_true rfl) rfl ⟨Nat.le_of_ble_eq_true rfl, Nat.le_of_ble_eq_true rfl⟩ hC (fun v nu H locs hQ St => ?_)
  obtain ⟨rfl, P2, hJ2⟩ := hQ
  refine W.eq (g2 := F0 m 305 ls [.int (z32 r), .int (z32 r)]) rfl ?_
  refine lv_icmp_eq (tgt := 773) B.1.1 B.1.2.1 dL_law_305 (by decide) (fun _ => ?_) (fun h => absurd rfl h)
  exact kk nu P2 H locs hJ2 St
set_option maxHeartbeats 2000000 in
/-- case 6: have -/
theorem lw_c6 (B : zLw p s m c D cy b L xs) (St : zSt (zAw s) s D (zwl 93 al cy mu) H locs) (hl : lv_has ls 4 [(0, .ref b), (1, .ref (al 0)), (2, .ref (al 64)), (3, .int (nI i))]) {P : Int} (hJ : jJ mu P) (hi : i + 3 < L) (kk : ∀ (nu : Mem) (P : Int) (H : Heap) (locs : List Loc), jJ nu P → zSt (zAw s) s D (zwl 93 al cy nu) H locs → W p l e room_1 s m #[Value.ref b] below meth c H locs 93 79816 Q (F0 m 773 ls [])) : W p l e room_1 s m #[Value.ref b] below meth c H locs 93 79816 Q (F0 m 310 ls []) := by
  refine lv_aload_n B.1.1 B.1.2.1 dL_law_310 rfl (lv_at hl 1 rfl) ?_
  refine zt_callV B.1 (As := []) (rest := []) (k := 0) (d' := 3) (Y' := mX8_have) St (fun _ h => h) hl.1 dL_law_311 lL_43 vX8_have ⟨Nat.le_of_ble_eq_true rfl, Nat.le_of_ble_eq_true rfl⟩ (o0 (Nat.le_of_ble_eq_true rfl)) rfl rfl (Nat.le_of_ble_eq_true rfl) rfl ⟨Nat.le_of_ble_eq_true rfl, Nat.le_of_ble_eq_true rfl⟩ (op_have mu P hJ) (fun v nu H locs hQ St => ?_)
  obtain ⟨r, hr, rfl, hC⟩ := hQ
  refine W.eq (g2 := F0 m 314 ls [zcv al (zI r)]) rfl ?_
  refine lv_aload_n B.1.1 B.1.2.1 dL_law_314 rfl (lv_at hl 2 rfl) ?_
  refine zt_callV B.1 (As := []) (rest := [zI r]) (k := 64) (d' := 3) (Y' := mX9_have) St (fun _ h => h) hl.1 dL_law_315 lL_46 vX9_have ⟨Nat.le_of_ble_eq_true rfl, Nat.le_of_ble_eq_true rfl⟩ (o64 (Nat.le_refl 93)) rfl rfl (Nat.le_of_ble_eq_true rfl) rfl ⟨Nat.le_of_ble_eq_true rfl, Nat.le_of_ble_eq_true rfl⟩ hC (fun v nu H locs hQ St => ?_)
  obtain ⟨rfl, P2, hJ2⟩ := hQ
  refine W.eq (g2 := F0 m 318 ls [.int (z32 r), .int (z32 r)]) rfl ?_
  refine lv_icmp_eq (tgt := 773) B.1.1 B.1.2.1 dL_law_318 (by decide) (fun _ => ?_) (fun h => absurd rfl h)
  exact kk nu P2 H locs hJ2 St
set_option maxHeartbeats 2000000 in
/-- case 7: other -/
theorem lw_c7 (B : zLw p s m c D cy b L xs) (St : zSt (zAw s) s D (zwl 93 al cy mu) H locs) (hl : lv_has ls 4 [(0, .ref b), (1, .ref (al 0)), (2, .ref (al 64)), (3, .int (nI i))]) {P : Int} (hJ : jJ mu P) (hi : i + 3 < L) (kk : ∀ (nu : Mem) (P : Int) (H : Heap) (locs : List Loc), jJ nu P → zSt (zAw s) s D (zwl 93 al cy nu) H locs → W p l e room_1 s m #[Value.ref b] below meth c H locs 93 79816 Q (F0 m 773 ls [])) : W p l e room_1 s m #[Value.ref b] below meth c H locs 93 79816 Q (F0 m 323 ls []) := by
  refine lv_aload_n B.1.1 B.1.2.1 dL_law_323 rfl (lv_at hl 1 rfl) ?_
  refine zl_arg B St hl (k := 1) (by omega) dL_law_324 dL_law_325 dL_law_326 rfl dL_law_327 dL_law_328 ?_
  refine zt_callV B.1 (As := [zI (xs (i + 1)).toInt]) (rest := []) (k := 0) (d' := 4) (Y' := mX8_other) St (fun _ h => h) hl.1 dL_law_329 lL_47 vX8_other ⟨Nat.le_of_ble_eq_true rfl, Nat.le_of_ble_eq_true rfl⟩ (o0 (Nat.le_of_ble_eq_true rfl)) rfl rfl (Nat.le_of_ble_eq_true rfl) rfl ⟨Nat.le_of_ble_eq_true rfl, Nat.le_of_ble_eq_true rfl⟩ (op_other _  (zin_toInt _) mu P hJ) (fun v nu H locs hQ St => ?_)
  obtain ⟨r, hr, rfl, hC⟩ := hQ
  refine W.eq (g2 := F0 m 332 ls [zcv al (zI r)]) rfl ?_
  refine lv_aload_n B.1.1 B.1.2.1 dL_law_332 rfl (lv_at hl 2 rfl) ?_
  refine zl_arg B St hl (k := 1) (by omega) dL_law_333 dL_law_334 dL_law_335 rfl dL_law_336 dL_law_337 ?_
  refine zt_callV B.1 (As := [zI (xs (i + 1)).toInt]) (rest := [zI r]) (k := 64) (d' := 3) (Y' := mX9_other) St (fun _ h => h) hl.1 dL_law_338 lL_50 vX9_other ⟨Nat.le_of_ble_eq_true rfl, Nat.le_of_ble_eq_true rfl⟩ (o64 (Nat.le_refl 93)) rfl rfl (Nat.le_of_ble_eq_true rfl) rfl ⟨Nat.le_of_ble_eq_true rfl, Nat.le_of_ble_eq_true rfl⟩ hC (fun v nu H locs hQ St => ?_)
  obtain ⟨rfl, P2, hJ2⟩ := hQ
  refine W.eq (g2 := F0 m 341 ls [.int (z32 r), .int (z32 r)]) rfl ?_
  refine lv_icmp_eq (tgt := 773) B.1.1 B.1.2.1 dL_law_341 (by decide) (fun _ => ?_) (fun h => absurd rfl h)
  exact kk nu P2 H locs hJ2 St
set_option maxHeartbeats 2000000 in
/-- case 8: order -/
theorem lw_c8 (B : zLw p s m c D cy b L xs) (St : zSt (zAw s) s D (zwl 93 al cy mu) H locs) (hl : lv_has ls 4 [(0, .ref b), (1, .ref (al 0)), (2, .ref (al 64)), (3, .int (nI i))]) {P : Int} (hJ : jJ mu P) (hi : i + 3 < L) (kk : ∀ (nu : Mem) (P : Int) (H : Heap) (locs : List Loc), jJ nu P → zSt (zAw s) s D (zwl 93 al cy nu) H locs → W p l e room_1 s m #[Value.ref b] below meth c H locs 93 79816 Q (F0 m 773 ls [])) : W p l e room_1 s m #[Value.ref b] below meth c H locs 93 79816 Q (F0 m 346 ls []) := by
  refine lv_aload_n B.1.1 B.1.2.1 dL_law_346 rfl (lv_at hl 1 rfl) ?_
  refine zl_arg B St hl (k := 1) (by omega) dL_law_347 dL_law_348 dL_law_349 rfl dL_law_350 dL_law_351 ?_
  refine zl_arg B St hl (k := 2) (by omega) dL_law_352 dL_law_353 dL_law_354 rfl dL_law_355 dL_law_356 ?_
  refine zt_callV B.1 (As := [zI (xs (i + 1)).toInt, zI (xs (i + 2)).toInt]) (rest := []) (k := 0) (d' := 34) (Y' := mX8_order) St (fun _ h => h) hl.1 dL_law_357 lL_51 vX8_order ⟨Nat.le_of_ble_eq_true rfl, Nat.le_of_ble_eq_true rfl⟩ (o0 (Nat.le_of_ble_eq_true rfl)) rfl rfl (Nat.le_of_ble_eq_true rfl) rfl ⟨Nat.le_of_ble_eq_true rfl, Nat.le_of_ble_eq_true rfl⟩ (op_order _  _  (zin_toInt _) (zin_toInt _) mu P hJ) (fun v nu H locs hQ St => ?_)
  obtain ⟨r, hr, rfl, hC⟩ := hQ
  refine W.eq (g2 := F0 m 360 ls [zcv al (zI r)]) rfl ?_
  refine lv_aload_n B.1.1 B.1.2.1 dL_law_360 rfl (lv_at hl 2 rfl) ?_
  refine zl_arg B St hl (k := 1) (by omega) dL_law_361 dL_law_362 dL_law_363 rfl dL_law_364 dL_law_365 ?_
  refine zl_arg B St hl (k := 2) (by omega) dL_law_366 dL_law_367 dL_law_368 rfl dL_law_369 dL_law_370 ?_
  refine zt_callV B.1 (As := [zI (xs (i + 1)).toInt, zI (xs (i + 2)).toInt]) (rest := [zI r]) (k := 64) (d' := 4) (Y' := mX9_order) St (fun _ h => h) hl.1 dL_law_371 lL_54 vX9_order ⟨Nat.le_of_ble_eq_true rfl, Nat.le_of_ble_eq_true rfl⟩ (o64 (Nat.le_refl 93)) rfl rfl (Nat.le_of_ble_eq_true rfl) rfl ⟨Nat.le_of_ble_eq_true rfl, Nat.le_of_ble_eq_true rfl⟩ hC (fun v nu H locs hQ St => ?_)
  obtain ⟨rfl, P2, hJ2⟩ := hQ
  refine W.eq (g2 := F0 m 374 ls [.int (z32 r), .int (z32 r)]) rfl ?_
  refine lv_icmp_eq (tgt := 773) B.1.1 B.1.2.1 dL_law_374 (by decide) (fun _ => ?_) (fun h => absurd rfl h)
  exact kk nu P2 H locs hJ2 St
set_option maxHeartbeats 2000000 in
/-- case 9: strangers -/
theorem lw_c9 (B : zLw p s m c D cy b L xs) (St : zSt (zAw s) s D (zwl 93 al cy mu) H locs) (hl : lv_has ls 4 [(0, .ref b), (1, .ref (al 0)), (2, .ref (al 64)), (3, .int (nI i))]) {P : Int} (hJ : jJ mu P) (hi : i + 3 < L) (kk : ∀ (nu : Mem) (P : Int) (H : Heap) (locs : List Loc), jJ nu P → zSt (zAw s) s D (zwl 93 al cy nu) H locs → W p l e room_1 s m #[Value.ref b] below meth c H locs 93 79816 Q (F0 m 773 ls [])) : W p l e room_1 s m #[Value.ref b] below meth c H locs 93 79816 Q (F0 m 379 ls []) := by
  refine lv_aload_n B.1.1 B.1.2.1 dL_law_379 rfl (lv_at hl 1 rfl) ?_
  refine zl_arg B St hl (k := 1) (by omega) dL_law_380 dL_law_381 dL_law_382 rfl dL_law_383 dL_law_384 ?_
  refine zl_arg B St hl (k := 2) (by omega) dL_law_385 dL_law_386 dL_law_387 rfl dL_law_388 dL_law_389 ?_
  refine zt_callV B.1 (As := [zI (xs (i + 1)).toInt, zI (xs (i + 2)).toInt]) (rest := []) (k := 0) (d' := 7) (Y' := mX8_strangers) St (fun _ h => h) hl.1 dL_law_390 lL_55 vX8_strangers ⟨Nat.le_of_ble_eq_true rfl, Nat.le_of_ble_eq_true rfl⟩ (o0 (Nat.le_of_ble_eq_true rfl)) rfl rfl (Nat.le_of_ble_eq_true rfl) rfl ⟨Nat.le_of_ble_eq_true rfl, Nat.le_of_ble_eq_true rfl⟩ (op_strangers _  _  (zin_toInt _) (zin_toInt _) mu P hJ) (fun v nu H locs hQ St => ?_)
  obtain ⟨r, hr, rfl, hC⟩ := hQ
  refine W.eq (g2 := F0 m 393 ls [zcv al (zI r)]) rfl ?_
  refine lv_aload_n B.1.1 B.1.2.1 dL_law_393 rfl (lv_at hl 2 rfl) ?_
  refine zl_arg B St hl (k := 1) (by omega) dL_law_394 dL_law_395 dL_law_396 rfl dL_law_397 dL_law_398 ?_
  refine zl_arg B St hl (k := 2) (by omega) dL_law_399 dL_law_400 dL_law_401 rfl dL_law_402 dL_law_403 ?_
  refine zt_callV B.1 (As := [zI (xs (i + 1)).toInt, zI (xs (i + 2)).toInt]) (rest := [zI r]) (k := 64) (d' := 5) (Y' := mX9_strangers) St (fun _ h => h) hl.1 dL_law_404 lL_58 vX9_strangers ⟨Nat.le_of_ble_eq_true rfl, Nat.le_of_ble_eq_true rfl⟩ (o64 (Nat.le_refl 93)) rfl rfl (Nat.le_of_ble_eq_true rfl) rfl ⟨Nat.le_of_ble_eq_true rfl, Nat.le_of_ble_eq_true rfl⟩ hC (fun v nu H locs hQ St => ?_)
  obtain ⟨rfl, P2, hJ2⟩ := hQ
  refine W.eq (g2 := F0 m 407 ls [.int (z32 r), .int (z32 r)]) rfl ?_
  refine lv_icmp_eq (tgt := 773) B.1.1 B.1.2.1 dL_law_407 (by decide) (fun _ => ?_) (fun h => absurd rfl h)
  exact kk nu P2 H locs hJ2 St
set_option maxHeartbeats 2000000 in
/-- case 10: ahead -/
theorem lw_c10 (B : zLw p s m c D cy b L xs) (St : zSt (zAw s) s D (zwl 93 al cy mu) H locs) (hl : lv_has ls 4 [(0, .ref b), (1, .ref (al 0)), (2, .ref (al 64)), (3, .int (nI i))]) {P : Int} (hJ : jJ mu P) (hi : i + 3 < L) (kk : ∀ (nu : Mem) (P : Int) (H : Heap) (locs : List Loc), jJ nu P → zSt (zAw s) s D (zwl 93 al cy nu) H locs → W p l e room_1 s m #[Value.ref b] below meth c H locs 93 79816 Q (F0 m 773 ls [])) : W p l e room_1 s m #[Value.ref b] below meth c H locs 93 79816 Q (F0 m 412 ls []) := by
  refine lv_aload_n B.1.1 B.1.2.1 dL_law_412 rfl (lv_at hl 1 rfl) ?_
  refine zl_arg B St hl (k := 1) (by omega) dL_law_413 dL_law_414 dL_law_415 rfl dL_law_416 dL_law_417 ?_
  refine zl_arg B St hl (k := 2) (by omega) dL_law_418 dL_law_419 dL_law_420 rfl dL_law_421 dL_law_422 ?_
  refine zt_callV B.1 (As := [zI (xs (i + 1)).toInt, zI (xs (i + 2)).toInt]) (rest := []) (k := 0) (d' := 7) (Y' := mX8_ahead) St (fun _ h => h) hl.1 dL_law_423 lL_59 vX8_ahead ⟨Nat.le_of_ble_eq_true rfl, Nat.le_of_ble_eq_true rfl⟩ (o0 (Nat.le_of_ble_eq_true rfl)) rfl rfl (Nat.le_of_ble_eq_true rfl) rfl ⟨Nat.le_of_ble_eq_true rfl, Nat.le_of_ble_eq_true rfl⟩ (op_ahead _  _  (zin_toInt _) (zin_toInt _) mu P hJ) (fun v nu H locs hQ St => ?_)
  obtain ⟨r, hr, rfl, hC⟩ := hQ
  refine W.eq (g2 := F0 m 426 ls [zcv al (zI r)]) rfl ?_
  refine lv_aload_n B.1.1 B.1.2.1 dL_law_426 rfl (lv_at hl 2 rfl) ?_
  refine zl_arg B St hl (k := 1) (by omega) dL_law_427 dL_law_428 dL_law_429 rfl dL_law_430 dL_law_431 ?_
  refine zl_arg B St hl (k := 2) (by omega) dL_law_432 dL_law_433 dL_law_434 rfl dL_law_435 dL_law_436 ?_
  refine zt_callV B.1 (As := [zI (xs (i + 1)).toInt, zI (xs (i + 2)).toInt]) (rest := [zI r]) (k := 64) (d' := 5) (Y' := mX9_ahead) St (fun _ h => h) hl.1 dL_law_437 lL_62 vX9_ahead ⟨Nat.le_of_ble_eq_true rfl, Nat.le_of_ble_eq_true rfl⟩ (o64 (Nat.le_refl 93)) rfl rfl (Nat.le_of_ble_eq_true rfl) rfl ⟨Nat.le_of_ble_eq_true rfl, Nat.le_of_ble_eq_true rfl⟩ hC (fun v nu H locs hQ St => ?_)
  obtain ⟨rfl, P2, hJ2⟩ := hQ
  refine W.eq (g2 := F0 m 440 ls [.int (z32 r), .int (z32 r)]) rfl ?_
  refine lv_icmp_eq (tgt := 773) B.1.1 B.1.2.1 dL_law_440 (by decide) (fun _ => ?_) (fun h => absurd rfl h)
  exact kk nu P2 H locs hJ2 St
set_option maxHeartbeats 2000000 in
/-- case 11: asks -/
theorem lw_c11 (B : zLw p s m c D cy b L xs) (St : zSt (zAw s) s D (zwl 93 al cy mu) H locs) (hl : lv_has ls 4 [(0, .ref b), (1, .ref (al 0)), (2, .ref (al 64)), (3, .int (nI i))]) {P : Int} (hJ : jJ mu P) (hi : i + 3 < L) (kk : ∀ (nu : Mem) (P : Int) (H : Heap) (locs : List Loc), jJ nu P → zSt (zAw s) s D (zwl 93 al cy nu) H locs → W p l e room_1 s m #[Value.ref b] below meth c H locs 93 79816 Q (F0 m 773 ls [])) : W p l e room_1 s m #[Value.ref b] below meth c H locs 93 79816 Q (F0 m 445 ls []) := by
  refine lv_aload_n B.1.1 B.1.2.1 dL_law_445 rfl (lv_at hl 1 rfl) ?_
  refine zl_arg B St hl (k := 1) (by omega) dL_law_446 dL_law_447 dL_law_448 rfl dL_law_449 dL_law_450 ?_
  refine zl_arg B St hl (k := 2) (by omega) dL_law_451 dL_law_452 dL_law_453 rfl dL_law_454 dL_law_455 ?_
  refine zt_callV B.1 (As := [zI (xs (i + 1)).toInt, zI (xs (i + 2)).toInt]) (rest := []) (k := 0) (d' := 5) (Y' := mX8_asks) St (fun _ h => h) hl.1 dL_law_456 lL_63 vX8_asks ⟨Nat.le_of_ble_eq_true rfl, Nat.le_of_ble_eq_true rfl⟩ (o0 (Nat.le_of_ble_eq_true rfl)) rfl rfl (Nat.le_of_ble_eq_true rfl) rfl ⟨Nat.le_of_ble_eq_true rfl, Nat.le_of_ble_eq_true rfl⟩ (op_asks _  _  (zin_toInt _) (zin_toInt _) mu P hJ) (fun v nu H locs hQ St => ?_)
  obtain ⟨r, hr, rfl, hC⟩ := hQ
  refine W.eq (g2 := F0 m 459 ls [zcv al (zI r)]) rfl ?_
  refine lv_aload_n B.1.1 B.1.2.1 dL_law_459 rfl (lv_at hl 2 rfl) ?_
  refine zl_arg B St hl (k := 1) (by omega) dL_law_460 dL_law_461 dL_law_462 rfl dL_law_463 dL_law_464 ?_
  refine zl_arg B St hl (k := 2) (by omega) dL_law_465 dL_law_466 dL_law_467 rfl dL_law_468 dL_law_469 ?_
  refine zt_callV B.1 (As := [zI (xs (i + 1)).toInt, zI (xs (i + 2)).toInt]) (rest := [zI r]) (k := 64) (d' := 3) (Y' := mX9_asks) St (fun _ h => h) hl.1 dL_law_470 lL_66 vX9_asks ⟨Nat.le_of_ble_eq_true rfl, Nat.le_of_ble_eq_true rfl⟩ (o64 (Nat.le_refl 93)) rfl rfl (Nat.le_of_ble_eq_true rfl) rfl ⟨Nat.le_of_ble_eq_true rfl, Nat.le_of_ble_eq_true rfl⟩ hC (fun v nu H locs hQ St => ?_)
  obtain ⟨rfl, P2, hJ2⟩ := hQ
  refine W.eq (g2 := F0 m 473 ls [.int (z32 r), .int (z32 r)]) rfl ?_
  refine lv_icmp_eq (tgt := 773) B.1.1 B.1.2.1 dL_law_473 (by decide) (fun _ => ?_) (fun h => absurd rfl h)
  exact kk nu P2 H locs hJ2 St
set_option maxHeartbeats 2000000 in
/-- case 12: otherwise -/
theorem lw_c12 (B : zLw p s m c D cy b L xs) (St : zSt (zAw s) s D (zwl 93 al cy mu) H locs) (hl : lv_has ls 4 [(0, .ref b), (1, .ref (al 0)), (2, .ref (al 64)), (3, .int (nI i))]) {P : Int} (hJ : jJ mu P) (hi : i + 3 < L) (kk : ∀ (nu : Mem) (P : Int) (H : Heap) (locs : List Loc), jJ nu P → zSt (zAw s) s D (zwl 93 al cy nu) H locs → W p l e room_1 s m #[Value.ref b] below meth c H locs 93 79816 Q (F0 m 773 ls [])) : W p l e room_1 s m #[Value.ref b] below meth c H locs 93 79816 Q (F0 m 478 ls []) := by
  refine lv_aload_n B.1.1 B.1.2.1 dL_law_478 rfl (lv_at hl 1 rfl) ?_
  refine zt_callV B.1 (As := []) (rest := []) (k := 0) (d' := 5) (Y' := mX8_otherwise) St (fun _ h => h) hl.1 dL_law_479 lL_67 vX8_otherwise ⟨Nat.le_of_ble_eq_true rfl, Nat.le_of_ble_eq_true rfl⟩ (o0 (Nat.le_of_ble_eq_true rfl)) rfl rfl (Nat.le_of_ble_eq_true rfl) rfl ⟨Nat.le_of_ble_eq_true rfl, Nat.le_of_ble_eq_true rfl⟩ (op_otherwise mu P hJ) (fun v nu H locs hQ St => ?_)
  obtain ⟨r, hr, rfl, hC⟩ := hQ
  refine W.eq (g2 := F0 m 482 ls [zcv al (zI r)]) rfl ?_
  refine lv_aload_n B.1.1 B.1.2.1 dL_law_482 rfl (lv_at hl 2 rfl) ?_
  refine zt_callV B.1 (As := []) (rest := [zI r]) (k := 64) (d' := 3) (Y' := mX9_otherwise) St (fun _ h => h) hl.1 dL_law_483 lL_70 vX9_otherwise ⟨Nat.le_of_ble_eq_true rfl, Nat.le_of_ble_eq_true rfl⟩ (o64 (Nat.le_refl 93)) rfl rfl (Nat.le_of_ble_eq_true rfl) rfl ⟨Nat.le_of_ble_eq_true rfl, Nat.le_of_ble_eq_true rfl⟩ hC (fun v nu H locs hQ St => ?_)
  obtain ⟨rfl, P2, hJ2⟩ := hQ
  refine W.eq (g2 := F0 m 486 ls [.int (z32 r), .int (z32 r)]) rfl ?_
  refine lv_icmp_eq (tgt := 773) B.1.1 B.1.2.1 dL_law_486 (by decide) (fun _ => ?_) (fun h => absurd rfl h)
  exact kk nu P2 H locs hJ2 St
set_option maxHeartbeats 2000000 in
/-- case 13: swaps -/
theorem lw_c13 (B : zLw p s m c D cy b L xs) (St : zSt (zAw s) s D (zwl 93 al cy mu) H locs) (hl : lv_has ls 4 [(0, .ref b), (1, .ref (al 0)), (2, .ref (al 64)), (3, .int (nI i))]) {P : Int} (hJ : jJ mu P) (hi : i + 3 < L) (kk : ∀ (nu : Mem) (P : Int) (H : Heap) (locs : List Loc), jJ nu P → zSt (zAw s) s D (zwl 93 al cy nu) H locs → W p l e room_1 s m #[Value.ref b] below meth c H locs 93 79816 Q (F0 m 773 ls [])) : W p l e room_1 s m #[Value.ref b] below meth c H locs 93 79816 Q (F0 m 491 ls []) := by
  refine lv_aload_n B.1.1 B.1.2.1 dL_law_491 rfl (lv_at hl 1 rfl) ?_
  refine zl_arg B St hl (k := 1) (by omega) dL_law_492 dL_law_493 dL_law_494 rfl dL_law_495 dL_law_496 ?_
  refine zt_callV B.1 (As := [zI (xs (i + 1)).toInt]) (rest := []) (k := 0) (d' := 4) (Y' := mX8_swaps) St (fun _ h => h) hl.1 dL_law_497 lL_71 vX8_swaps ⟨Nat.le_of_ble_eq_true rfl, Nat.le_of_ble_eq_true rfl⟩ (o0 (Nat.le_of_ble_eq_true rfl)) rfl rfl (Nat.le_of_ble_eq_true rfl) rfl ⟨Nat.le_of_ble_eq_true rfl, Nat.le_of_ble_eq_true rfl⟩ (op_swaps _  (zin_toInt _) mu P hJ) (fun v nu H locs hQ St => ?_)
  obtain ⟨r, hr, rfl, hC⟩ := hQ
  refine W.eq (g2 := F0 m 500 ls [zcv al (zI r)]) rfl ?_
  refine lv_aload_n B.1.1 B.1.2.1 dL_law_500 rfl (lv_at hl 2 rfl) ?_
  refine zl_arg B St hl (k := 1) (by omega) dL_law_501 dL_law_502 dL_law_503 rfl dL_law_504 dL_law_505 ?_
  refine zt_callV B.1 (As := [zI (xs (i + 1)).toInt]) (rest := [zI r]) (k := 64) (d' := 3) (Y' := mX9_swaps) St (fun _ h => h) hl.1 dL_law_506 lL_74 vX9_swaps ⟨Nat.le_of_ble_eq_true rfl, Nat.le_of_ble_eq_true rfl⟩ (o64 (Nat.le_refl 93)) rfl rfl (Nat.le_of_ble_eq_true rfl) rfl ⟨Nat.le_of_ble_eq_true rfl, Nat.le_of_ble_eq_true rfl⟩ hC (fun v nu H locs hQ St => ?_)
  obtain ⟨rfl, P2, hJ2⟩ := hQ
  refine W.eq (g2 := F0 m 509 ls [.int (z32 r), .int (z32 r)]) rfl ?_
  refine lv_icmp_eq (tgt := 773) B.1.1 B.1.2.1 dL_law_509 (by decide) (fun _ => ?_) (fun h => absurd rfl h)
  exact kk nu P2 H locs hJ2 St
set_option maxHeartbeats 2000000 in
/-- case 14: gift -/
theorem lw_c14 (B : zLw p s m c D cy b L xs) (St : zSt (zAw s) s D (zwl 93 al cy mu) H locs) (hl : lv_has ls 4 [(0, .ref b), (1, .ref (al 0)), (2, .ref (al 64)), (3, .int (nI i))]) {P : Int} (hJ : jJ mu P) (hi : i + 3 < L) (kk : ∀ (nu : Mem) (P : Int) (H : Heap) (locs : List Loc), jJ nu P → zSt (zAw s) s D (zwl 93 al cy nu) H locs → W p l e room_1 s m #[Value.ref b] below meth c H locs 93 79816 Q (F0 m 773 ls [])) : W p l e room_1 s m #[Value.ref b] below meth c H locs 93 79816 Q (F0 m 514 ls []) := by
  refine lv_aload_n B.1.1 B.1.2.1 dL_law_514 rfl (lv_at hl 1 rfl) ?_
  refine zl_arg B St hl (k := 1) (by omega) dL_law_515 dL_law_516 dL_law_517 rfl dL_law_518 dL_law_519 ?_
  refine zt_callV B.1 (As := [zI (xs (i + 1)).toInt]) (rest := []) (k := 0) (d' := 3) (Y' := mX8_gift) St (fun _ h => h) hl.1 dL_law_520 lL_75 vX8_gift ⟨Nat.le_of_ble_eq_true rfl, Nat.le_of_ble_eq_true rfl⟩ (o0 (Nat.le_of_ble_eq_true rfl)) rfl rfl (Nat.le_of_ble_eq_true rfl) rfl ⟨Nat.le_of_ble_eq_true rfl, Nat.le_of_ble_eq_true rfl⟩ (op_gift _  (zin_toInt _) mu P hJ) (fun v nu H locs hQ St => ?_)
  obtain ⟨r, hr, rfl, hC⟩ := hQ
  refine W.eq (g2 := F0 m 523 ls [zcv al (zI r)]) rfl ?_
  refine lv_aload_n B.1.1 B.1.2.1 dL_law_523 rfl (lv_at hl 2 rfl) ?_
  refine zl_arg B St hl (k := 1) (by omega) dL_law_524 dL_law_525 dL_law_526 rfl dL_law_527 dL_law_528 ?_
  refine zt_callV B.1 (As := [zI (xs (i + 1)).toInt]) (rest := [zI r]) (k := 64) (d' := 3) (Y' := mX9_gift) St (fun _ h => h) hl.1 dL_law_529 lL_78 vX9_gift ⟨Nat.le_of_ble_eq_true rfl, Nat.le_of_ble_eq_true rfl⟩ (o64 (Nat.le_refl 93)) rfl rfl (Nat.le_of_ble_eq_true rfl) rfl ⟨Nat.le_of_ble_eq_true rfl, Nat.le_of_ble_eq_true rfl⟩ hC (fun v nu H locs hQ St => ?_)
  obtain ⟨rfl, P2, hJ2⟩ := hQ
  refine W.eq (g2 := F0 m 532 ls [.int (z32 r), .int (z32 r)]) rfl ?_
  refine lv_icmp_eq (tgt := 773) B.1.1 B.1.2.1 dL_law_532 (by decide) (fun _ => ?_) (fun h => absurd rfl h)
  exact kk nu P2 H locs hJ2 St
set_option maxHeartbeats 2000000 in
/-- case 15: noGifts -/
theorem lw_c15 (B : zLw p s m c D cy b L xs) (St : zSt (zAw s) s D (zwl 93 al cy mu) H locs) (hl : lv_has ls 4 [(0, .ref b), (1, .ref (al 0)), (2, .ref (al 64)), (3, .int (nI i))]) {P : Int} (hJ : jJ mu P) (hi : i + 3 < L) (kk : ∀ (nu : Mem) (P : Int) (H : Heap) (locs : List Loc), jJ nu P → zSt (zAw s) s D (zwl 93 al cy nu) H locs → W p l e room_1 s m #[Value.ref b] below meth c H locs 93 79816 Q (F0 m 773 ls [])) : W p l e room_1 s m #[Value.ref b] below meth c H locs 93 79816 Q (F0 m 537 ls []) := by
  refine lv_aload_n B.1.1 B.1.2.1 dL_law_537 rfl (lv_at hl 1 rfl) ?_
  refine zt_callV B.1 (As := []) (rest := []) (k := 0) (d' := 0) (Y' := mX8_noGifts) St (fun _ h => h) hl.1 dL_law_538 lL_79 vX8_noGifts ⟨Nat.le_of_ble_eq_true rfl, Nat.le_of_ble_eq_true rfl⟩ (o0 (Nat.le_of_ble_eq_true rfl)) rfl rfl (Nat.le_of_ble_eq_true rfl) rfl ⟨Nat.le_of_ble_eq_true rfl, Nat.le_of_ble_eq_true rfl⟩ (op_noGifts mu P hJ) (fun v nu H locs hQ St => ?_)
  obtain ⟨r, hr, rfl, hC⟩ := hQ
  refine W.eq (g2 := F0 m 541 ls [zcv al (zI r)]) rfl ?_
  refine lv_aload_n B.1.1 B.1.2.1 dL_law_541 rfl (lv_at hl 2 rfl) ?_
  refine zt_callV B.1 (As := []) (rest := [zI r]) (k := 64) (d' := 0) (Y' := mX9_noGifts) St (fun _ h => h) hl.1 dL_law_542 lL_82 vX9_noGifts ⟨Nat.le_of_ble_eq_true rfl, Nat.le_of_ble_eq_true rfl⟩ (o64 (Nat.le_refl 93)) rfl rfl (Nat.le_of_ble_eq_true rfl) rfl ⟨Nat.le_of_ble_eq_true rfl, Nat.le_of_ble_eq_true rfl⟩ hC (fun v nu H locs hQ St => ?_)
  obtain ⟨rfl, P2, hJ2⟩ := hQ
  refine W.eq (g2 := F0 m 545 ls [.int (z32 r), .int (z32 r)]) rfl ?_
  refine lv_icmp_eq (tgt := 773) B.1.1 B.1.2.1 dL_law_545 (by decide) (fun _ => ?_) (fun h => absurd rfl h)
  exact kk nu P2 H locs hJ2 St
set_option maxHeartbeats 2000000 in
/-- case 16: rows -/
theorem lw_c16 (B : zLw p s m c D cy b L xs) (St : zSt (zAw s) s D (zwl 93 al cy mu) H locs) (hl : lv_has ls 4 [(0, .ref b), (1, .ref (al 0)), (2, .ref (al 64)), (3, .int (nI i))]) {P : Int} (hJ : jJ mu P) (hi : i + 3 < L) (kk : ∀ (nu : Mem) (P : Int) (H : Heap) (locs : List Loc), jJ nu P → zSt (zAw s) s D (zwl 93 al cy nu) H locs → W p l e room_1 s m #[Value.ref b] below meth c H locs 93 79816 Q (F0 m 773 ls [])) : W p l e room_1 s m #[Value.ref b] below meth c H locs 93 79816 Q (F0 m 550 ls []) := by
  refine lv_aload_n B.1.1 B.1.2.1 dL_law_550 rfl (lv_at hl 1 rfl) ?_
  refine zl_arg B St hl (k := 1) (by omega) dL_law_551 dL_law_552 dL_law_553 rfl dL_law_554 dL_law_555 ?_
  refine zt_callV B.1 (As := [zI (xs (i + 1)).toInt]) (rest := []) (k := 0) (d' := 6) (Y' := mX8_rows) St (fun _ h => h) hl.1 dL_law_556 lL_83 vX8_rows ⟨Nat.le_of_ble_eq_true rfl, Nat.le_of_ble_eq_true rfl⟩ (o0 (Nat.le_of_ble_eq_true rfl)) rfl rfl (Nat.le_of_ble_eq_true rfl) rfl ⟨Nat.le_of_ble_eq_true rfl, Nat.le_of_ble_eq_true rfl⟩ (op_rows _  (zin_toInt _) mu P hJ) (fun v nu H locs hQ St => ?_)
  obtain ⟨r, hr, rfl, hC⟩ := hQ
  refine W.eq (g2 := F0 m 559 ls [zcv al (zJ r)]) rfl ?_
  refine lv_aload_n B.1.1 B.1.2.1 dL_law_559 rfl (lv_at hl 2 rfl) ?_
  refine zl_arg B St hl (k := 1) (by omega) dL_law_560 dL_law_561 dL_law_562 rfl dL_law_563 dL_law_564 ?_
  refine zt_callV B.1 (As := [zI (xs (i + 1)).toInt]) (rest := [zJ r]) (k := 64) (d' := 3) (Y' := mX9_rows) St (fun _ h => h) hl.1 dL_law_565 lL_87 vX9_rows ⟨Nat.le_of_ble_eq_true rfl, Nat.le_of_ble_eq_true rfl⟩ (o64 (Nat.le_refl 93)) rfl rfl (Nat.le_of_ble_eq_true rfl) rfl ⟨Nat.le_of_ble_eq_true rfl, Nat.le_of_ble_eq_true rfl⟩ hC (fun v nu H locs hQ St => ?_)
  obtain ⟨rfl, P2, hJ2⟩ := hQ
  refine W.eq (g2 := F0 m 568 ls [.long (z64 r), .long (z64 r)]) rfl ?_
  refine W.lcmp B.1.1 B.1.2.1 dL_law_568 ?_
  rw [lg_cmp_self]
  refine lv_if_eq (tgt := 773) B.1.1 B.1.2.1 dL_law_569 (by decide) (fun _ => ?_) (fun h => absurd rfl h)
  exact kk nu P2 H locs hJ2 St
set_option maxHeartbeats 2000000 in
/-- case 17: odds -/
theorem lw_c17 (B : zLw p s m c D cy b L xs) (St : zSt (zAw s) s D (zwl 93 al cy mu) H locs) (hl : lv_has ls 4 [(0, .ref b), (1, .ref (al 0)), (2, .ref (al 64)), (3, .int (nI i))]) {P : Int} (hJ : jJ mu P) (hi : i + 3 < L) (kk : ∀ (nu : Mem) (P : Int) (H : Heap) (locs : List Loc), jJ nu P → zSt (zAw s) s D (zwl 93 al cy nu) H locs → W p l e room_1 s m #[Value.ref b] below meth c H locs 93 79816 Q (F0 m 773 ls [])) : W p l e room_1 s m #[Value.ref b] below meth c H locs 93 79816 Q (F0 m 574 ls []) := by
  refine lv_aload_n B.1.1 B.1.2.1 dL_law_574 rfl (lv_at hl 1 rfl) ?_
  refine zl_arg B St hl (k := 1) (by omega) dL_law_575 dL_law_576 dL_law_577 rfl dL_law_578 dL_law_579 ?_
  refine zl_arg B St hl (k := 2) (by omega) dL_law_580 dL_law_581 dL_law_582 rfl dL_law_583 dL_law_584 ?_
  refine zl_arg B St hl (k := 3) (by omega) dL_law_585 dL_law_586 dL_law_587 rfl dL_law_588 dL_law_589 ?_
  refine zt_callV B.1 (As := [zI (xs (i + 1)).toInt, zI (xs (i + 2)).toInt, zI (xs (i + 3)).toInt]) (rest := []) (k := 0) (d' := 6) (Y' := mX8_odds) St (fun _ h => h) hl.1 dL_law_590 lL_88 vX8_odds ⟨Nat.le_of_ble_eq_true rfl, Nat.le_of_ble_eq_true rfl⟩ (o0 (Nat.le_of_ble_eq_true rfl)) rfl rfl (Nat.le_of_ble_eq_true rfl) rfl ⟨Nat.le_of_ble_eq_true rfl, Nat.le_of_ble_eq_true rfl⟩ (op_odds _  _  _  (zin_toInt _) (zin_toInt _) (zin_toInt _) mu P hJ) (fun v nu H locs hQ St => ?_)
  obtain ⟨r, hr, rfl, hC⟩ := hQ
  refine W.eq (g2 := F0 m 593 ls [zcv al (zJ r)]) rfl ?_
  refine lv_aload_n B.1.1 B.1.2.1 dL_law_593 rfl (lv_at hl 2 rfl) ?_
  refine zl_arg B St hl (k := 1) (by omega) dL_law_594 dL_law_595 dL_law_596 rfl dL_law_597 dL_law_598 ?_
  refine zl_arg B St hl (k := 2) (by omega) dL_law_599 dL_law_600 dL_law_601 rfl dL_law_602 dL_law_603 ?_
  refine zl_arg B St hl (k := 3) (by omega) dL_law_604 dL_law_605 dL_law_606 rfl dL_law_607 dL_law_608 ?_
  refine zt_callV B.1 (As := [zI (xs (i + 1)).toInt, zI (xs (i + 2)).toInt, zI (xs (i + 3)).toInt]) (rest := [zJ r]) (k := 64) (d' := 3) (Y' := mX9_odds) St (fun _ h => h) hl.1 dL_law_609 lL_92 vX9_odds ⟨Nat.le_of_ble_eq_true rfl, Nat.le_of_ble_eq_true rfl⟩ (o64 (Nat.le_refl 93)) rfl rfl (Nat.le_of_ble_eq_true rfl) rfl ⟨Nat.le_of_ble_eq_true rfl, Nat.le_of_ble_eq_true rfl⟩ hC (fun v nu H locs hQ St => ?_)
  obtain ⟨rfl, P2, hJ2⟩ := hQ
  refine W.eq (g2 := F0 m 612 ls [.long (z64 r), .long (z64 r)]) rfl ?_
  refine W.lcmp B.1.1 B.1.2.1 dL_law_612 ?_
  rw [lg_cmp_self]
  refine lv_if_eq (tgt := 773) B.1.1 B.1.2.1 dL_law_613 (by decide) (fun _ => ?_) (fun h => absurd rfl h)
  exact kk nu P2 H locs hJ2 St
set_option maxHeartbeats 2000000 in
/-- case 18: likeliest -/
theorem lw_c18 (B : zLw p s m c D cy b L xs) (St : zSt (zAw s) s D (zwl 93 al cy mu) H locs) (hl : lv_has ls 4 [(0, .ref b), (1, .ref (al 0)), (2, .ref (al 64)), (3, .int (nI i))]) {P : Int} (hJ : jJ mu P) (hi : i + 3 < L) (kk : ∀ (nu : Mem) (P : Int) (H : Heap) (locs : List Loc), jJ nu P → zSt (zAw s) s D (zwl 93 al cy nu) H locs → W p l e room_1 s m #[Value.ref b] below meth c H locs 93 79816 Q (F0 m 773 ls [])) : W p l e room_1 s m #[Value.ref b] below meth c H locs 93 79816 Q (F0 m 618 ls []) := by
  refine lv_aload_n B.1.1 B.1.2.1 dL_law_618 rfl (lv_at hl 1 rfl) ?_
  refine zl_arg B St hl (k := 1) (by omega) dL_law_619 dL_law_620 dL_law_621 rfl dL_law_622 dL_law_623 ?_
  refine zt_callV B.1 (As := [zI (xs (i + 1)).toInt]) (rest := []) (k := 0) (d' := 5) (Y' := mX8_likeliest) St (fun _ h => h) hl.1 dL_law_624 lL_93 vX8_likeliest ⟨Nat.le_of_ble_eq_true rfl, Nat.le_of_ble_eq_true rfl⟩ (o0 (Nat.le_of_ble_eq_true rfl)) rfl rfl (Nat.le_of_ble_eq_true rfl) rfl ⟨Nat.le_of_ble_eq_true rfl, Nat.le_of_ble_eq_true rfl⟩ (op_likeliest _  (zin_toInt _) mu P hJ) (fun v nu H locs hQ St => ?_)
  obtain ⟨r, hr, rfl, hC⟩ := hQ
  refine W.eq (g2 := F0 m 627 ls [zcv al (zI r)]) rfl ?_
  refine lv_aload_n B.1.1 B.1.2.1 dL_law_627 rfl (lv_at hl 2 rfl) ?_
  refine zl_arg B St hl (k := 1) (by omega) dL_law_628 dL_law_629 dL_law_630 rfl dL_law_631 dL_law_632 ?_
  refine zt_callV B.1 (As := [zI (xs (i + 1)).toInt]) (rest := [zI r]) (k := 64) (d' := 3) (Y' := mX9_likeliest) St (fun _ h => h) hl.1 dL_law_633 lL_96 vX9_likeliest ⟨Nat.le_of_ble_eq_true rfl, Nat.le_of_ble_eq_true rfl⟩ (o64 (Nat.le_refl 93)) rfl rfl (Nat.le_of_ble_eq_true rfl) rfl ⟨Nat.le_of_ble_eq_true rfl, Nat.le_of_ble_eq_true rfl⟩ hC (fun v nu H locs hQ St => ?_)
  obtain ⟨rfl, P2, hJ2⟩ := hQ
  refine W.eq (g2 := F0 m 636 ls [.int (z32 r), .int (z32 r)]) rfl ?_
  refine lv_icmp_eq (tgt := 773) B.1.1 B.1.2.1 dL_law_636 (by decide) (fun _ => ?_) (fun h => absurd rfl h)
  exact kk nu P2 H locs hJ2 St
set_option maxHeartbeats 2000000 in
/-- case 19: post -/
theorem lw_c19 (B : zLw p s m c D cy b L xs) (St : zSt (zAw s) s D (zwl 93 al cy mu) H locs) (hl : lv_has ls 4 [(0, .ref b), (1, .ref (al 0)), (2, .ref (al 64)), (3, .int (nI i))]) {P : Int} (hJ : jJ mu P) (hi : i + 3 < L) (kk : ∀ (nu : Mem) (P : Int) (H : Heap) (locs : List Loc), jJ nu P → zSt (zAw s) s D (zwl 93 al cy nu) H locs → W p l e room_1 s m #[Value.ref b] below meth c H locs 93 79816 Q (F0 m 773 ls [])) : W p l e room_1 s m #[Value.ref b] below meth c H locs 93 79816 Q (F0 m 641 ls []) := by
  refine lv_aload_n B.1.1 B.1.2.1 dL_law_641 rfl (lv_at hl 1 rfl) ?_
  refine zl_arg B St hl (k := 1) (by omega) dL_law_642 dL_law_643 dL_law_644 rfl dL_law_645 dL_law_646 ?_
  refine zl_arg B St hl (k := 2) (by omega) dL_law_647 dL_law_648 dL_law_649 rfl dL_law_650 dL_law_651 ?_
  refine zt_callV B.1 (As := [zI (xs (i + 1)).toInt, zI (xs (i + 2)).toInt]) (rest := []) (k := 0) (d' := 1) (Y' := mX8_post) St (fun _ h => h) hl.1 dL_law_652 lL_97 vX8_post ⟨Nat.le_of_ble_eq_true rfl, Nat.le_of_ble_eq_true rfl⟩ (o0 (Nat.le_of_ble_eq_true rfl)) rfl rfl (Nat.le_of_ble_eq_true rfl) rfl ⟨Nat.le_of_ble_eq_true rfl, Nat.le_of_ble_eq_true rfl⟩ (op_post _  _  (zin_toInt _) (zin_toInt _) mu P hJ) (fun v nu H locs hQ St => ?_)
  obtain ⟨r, hr, rfl, hC⟩ := hQ
  refine W.eq (g2 := F0 m 655 ls [zcv al (zI r)]) rfl ?_
  refine lv_aload_n B.1.1 B.1.2.1 dL_law_655 rfl (lv_at hl 2 rfl) ?_
  refine zl_arg B St hl (k := 1) (by omega) dL_law_656 dL_law_657 dL_law_658 rfl dL_law_659 dL_law_660 ?_
  refine zl_arg B St hl (k := 2) (by omega) dL_law_661 dL_law_662 dL_law_663 rfl dL_law_664 dL_law_665 ?_
  refine zt_callV B.1 (As := [zI (xs (i + 1)).toInt, zI (xs (i + 2)).toInt]) (rest := [zI r]) (k := 64) (d' := 2) (Y' := mX9_post) St (fun _ h => h) hl.1 dL_law_666 lL_100 vX9_post ⟨Nat.le_of_ble_eq_true rfl, Nat.le_of_ble_eq_true rfl⟩ (o64 (Nat.le_refl 93)) rfl rfl (Nat.le_of_ble_eq_true rfl) rfl ⟨Nat.le_of_ble_eq_true rfl, Nat.le_of_ble_eq_true rfl⟩ hC (fun v nu H locs hQ St => ?_)
  obtain ⟨rfl, P2, hJ2⟩ := hQ
  refine W.eq (g2 := F0 m 669 ls [.int (z32 r), .int (z32 r)]) rfl ?_
  refine lv_icmp_eq (tgt := 773) B.1.1 B.1.2.1 dL_law_669 (by decide) (fun _ => ?_) (fun h => absurd rfl h)
  exact kk nu P2 H locs hJ2 St
set_option maxHeartbeats 2000000 in
/-- case 20: round -/
theorem lw_c20 (B : zLw p s m c D cy b L xs) (St : zSt (zAw s) s D (zwl 93 al cy mu) H locs) (hl : lv_has ls 4 [(0, .ref b), (1, .ref (al 0)), (2, .ref (al 64)), (3, .int (nI i))]) {P : Int} (hJ : jJ mu P) (hi : i + 3 < L) (kk : ∀ (nu : Mem) (P : Int) (H : Heap) (locs : List Loc), jJ nu P → zSt (zAw s) s D (zwl 93 al cy nu) H locs → W p l e room_1 s m #[Value.ref b] below meth c H locs 93 79816 Q (F0 m 773 ls [])) : W p l e room_1 s m #[Value.ref b] below meth c H locs 93 79816 Q (F0 m 674 ls []) := by
  refine lv_aload_n B.1.1 B.1.2.1 dL_law_674 rfl (lv_at hl 1 rfl) ?_
  refine zt_callV B.1 (As := []) (rest := []) (k := 0) (d' := 2) (Y' := mX8_round) St (fun _ h => h) hl.1 dL_law_675 lL_101 vX8_round ⟨Nat.le_of_ble_eq_true rfl, Nat.le_of_ble_eq_true rfl⟩ (o0 (Nat.le_of_ble_eq_true rfl)) rfl rfl (Nat.le_of_ble_eq_true rfl) rfl ⟨Nat.le_of_ble_eq_true rfl, Nat.le_of_ble_eq_true rfl⟩ (op_round mu P hJ) (fun v nu H locs hQ St => ?_)
  obtain ⟨r, hr, rfl, hC⟩ := hQ
  refine W.eq (g2 := F0 m 678 ls [zcv al (zI r)]) rfl ?_
  refine lv_aload_n B.1.1 B.1.2.1 dL_law_678 rfl (lv_at hl 2 rfl) ?_
  refine zt_callV B.1 (As := []) (rest := [zI r]) (k := 64) (d' := 2) (Y' := mX9_round) St (fun _ h => h) hl.1 dL_law_679 lL_104 vX9_round ⟨Nat.le_of_ble_eq_true rfl, Nat.le_of_ble_eq_true rfl⟩ (o64 (Nat.le_refl 93)) rfl rfl (Nat.le_of_ble_eq_true rfl) rfl ⟨Nat.le_of_ble_eq_true rfl, Nat.le_of_ble_eq_true rfl⟩ hC (fun v nu H locs hQ St => ?_)
  obtain ⟨rfl, P2, hJ2⟩ := hQ
  refine W.eq (g2 := F0 m 682 ls [.int (z32 r), .int (z32 r)]) rfl ?_
  refine lv_icmp_eq (tgt := 773) B.1.1 B.1.2.1 dL_law_682 (by decide) (fun _ => ?_) (fun h => absurd rfl h)
  exact kk nu P2 H locs hJ2 St
set_option maxHeartbeats 2000000 in
/-- case 21: ring -/
theorem lw_c21 (B : zLw p s m c D cy b L xs) (St : zSt (zAw s) s D (zwl 93 al cy mu) H locs) (hl : lv_has ls 4 [(0, .ref b), (1, .ref (al 0)), (2, .ref (al 64)), (3, .int (nI i))]) {P : Int} (hJ : jJ mu P) (hi : i + 3 < L) (kk : ∀ (nu : Mem) (P : Int) (H : Heap) (locs : List Loc), jJ nu P → zSt (zAw s) s D (zwl 93 al cy nu) H locs → W p l e room_1 s m #[Value.ref b] below meth c H locs 93 79816 Q (F0 m 773 ls [])) : W p l e room_1 s m #[Value.ref b] below meth c H locs 93 79816 Q (F0 m 687 ls []) := by
  refine lv_aload_n B.1.1 B.1.2.1 dL_law_687 rfl (lv_at hl 1 rfl) ?_
  refine zl_arg B St hl (k := 1) (by omega) dL_law_688 dL_law_689 dL_law_690 rfl dL_law_691 dL_law_692 ?_
  refine zt_callV B.1 (As := [zI (xs (i + 1)).toInt]) (rest := []) (k := 0) (d' := 3) (Y' := mX8_ring) St (fun _ h => h) hl.1 dL_law_693 lL_105 vX8_ring ⟨Nat.le_of_ble_eq_true rfl, Nat.le_of_ble_eq_true rfl⟩ (o0 (Nat.le_of_ble_eq_true rfl)) rfl rfl (Nat.le_of_ble_eq_true rfl) rfl ⟨Nat.le_of_ble_eq_true rfl, Nat.le_of_ble_eq_true rfl⟩ (op_ring _  (zin_toInt _) mu P hJ) (fun v nu H locs hQ St => ?_)
  obtain ⟨r, hr, rfl, hC⟩ := hQ
  refine W.eq (g2 := F0 m 696 ls [zcv al (zI r)]) rfl ?_
  refine lv_aload_n B.1.1 B.1.2.1 dL_law_696 rfl (lv_at hl 2 rfl) ?_
  refine zl_arg B St hl (k := 1) (by omega) dL_law_697 dL_law_698 dL_law_699 rfl dL_law_700 dL_law_701 ?_
  refine zt_callV B.1 (As := [zI (xs (i + 1)).toInt]) (rest := [zI r]) (k := 64) (d' := 2) (Y' := mX9_ring) St (fun _ h => h) hl.1 dL_law_702 lL_108 vX9_ring ⟨Nat.le_of_ble_eq_true rfl, Nat.le_of_ble_eq_true rfl⟩ (o64 (Nat.le_refl 93)) rfl rfl (Nat.le_of_ble_eq_true rfl) rfl ⟨Nat.le_of_ble_eq_true rfl, Nat.le_of_ble_eq_true rfl⟩ hC (fun v nu H locs hQ St => ?_)
  obtain ⟨rfl, P2, hJ2⟩ := hQ
  refine W.eq (g2 := F0 m 705 ls [.int (z32 r), .int (z32 r)]) rfl ?_
  refine lv_icmp_eq (tgt := 773) B.1.1 B.1.2.1 dL_law_705 (by decide) (fun _ => ?_) (fun h => absurd rfl h)
  exact kk nu P2 H locs hJ2 St
set_option maxHeartbeats 2000000 in
/-- case 22: before -/
theorem lw_c22 (B : zLw p s m c D cy b L xs) (St : zSt (zAw s) s D (zwl 93 al cy mu) H locs) (hl : lv_has ls 4 [(0, .ref b), (1, .ref (al 0)), (2, .ref (al 64)), (3, .int (nI i))]) {P : Int} (hJ : jJ mu P) (hi : i + 3 < L) (kk : ∀ (nu : Mem) (P : Int) (H : Heap) (locs : List Loc), jJ nu P → zSt (zAw s) s D (zwl 93 al cy nu) H locs → W p l e room_1 s m #[Value.ref b] below meth c H locs 93 79816 Q (F0 m 773 ls [])) : W p l e room_1 s m #[Value.ref b] below meth c H locs 93 79816 Q (F0 m 710 ls []) := by
  refine lv_aload_n B.1.1 B.1.2.1 dL_law_710 rfl (lv_at hl 1 rfl) ?_
  refine zt_callV B.1 (As := []) (rest := []) (k := 0) (d' := 3) (Y' := mX8_before) St (fun _ h => h) hl.1 dL_law_711 lL_109 vX8_before ⟨Nat.le_of_ble_eq_true rfl, Nat.le_of_ble_eq_true rfl⟩ (o0 (Nat.le_of_ble_eq_true rfl)) rfl rfl (Nat.le_of_ble_eq_true rfl) rfl ⟨Nat.le_of_ble_eq_true rfl, Nat.le_of_ble_eq_true rfl⟩ (op_before mu P hJ) (fun v nu H locs hQ St => ?_)
  obtain ⟨r, hr, rfl, hC⟩ := hQ
  refine W.eq (g2 := F0 m 714 ls [zcv al (zJ r)]) rfl ?_
  refine lv_aload_n B.1.1 B.1.2.1 dL_law_714 rfl (lv_at hl 2 rfl) ?_
  refine zt_callV B.1 (As := []) (rest := [zJ r]) (k := 64) (d' := 1) (Y' := mX9_before) St (fun _ h => h) hl.1 dL_law_715 lL_113 vX9_before ⟨Nat.le_of_ble_eq_true rfl, Nat.le_of_ble_eq_true rfl⟩ (o64 (Nat.le_refl 93)) rfl rfl (Nat.le_of_ble_eq_true rfl) rfl ⟨Nat.le_of_ble_eq_true rfl, Nat.le_of_ble_eq_true rfl⟩ hC (fun v nu H locs hQ St => ?_)
  obtain ⟨rfl, P2, hJ2⟩ := hQ
  refine W.eq (g2 := F0 m 718 ls [.long (z64 r), .long (z64 r)]) rfl ?_
  refine W.lcmp B.1.1 B.1.2.1 dL_law_718 ?_
  rw [lg_cmp_self]
  refine lv_if_eq (tgt := 773) B.1.1 B.1.2.1 dL_law_719 (by decide) (fun _ => ?_) (fun h => absurd rfl h)
  exact kk nu P2 H locs hJ2 St
set_option maxHeartbeats 2000000 in
/-- case 23: keep -/
theorem lw_c23 (B : zLw p s m c D cy b L xs) (St : zSt (zAw s) s D (zwl 93 al cy mu) H locs) (hl : lv_has ls 4 [(0, .ref b), (1, .ref (al 0)), (2, .ref (al 64)), (3, .int (nI i))]) {P : Int} (hJ : jJ mu P) (hi : i + 3 < L) (kk : ∀ (nu : Mem) (P : Int) (H : Heap) (locs : List Loc), jJ nu P → zSt (zAw s) s D (zwl 93 al cy nu) H locs → W p l e room_1 s m #[Value.ref b] below meth c H locs 93 79816 Q (F0 m 773 ls [])) : W p l e room_1 s m #[Value.ref b] below meth c H locs 93 79816 Q (F0 m 724 ls []) := by
  refine lv_aload_n B.1.1 B.1.2.1 dL_law_724 rfl (lv_at hl 1 rfl) ?_
  refine zt_callV B.1 (As := []) (rest := []) (k := 0) (d' := 2) (Y' := mX8_keep) St (fun _ h => h) hl.1 dL_law_725 lL_114 vX8_keep ⟨Nat.le_of_ble_eq_true rfl, Nat.le_of_ble_eq_true rfl⟩ (o0 (Nat.le_of_ble_eq_true rfl)) rfl rfl (Nat.le_of_ble_eq_true rfl) rfl ⟨Nat.le_of_ble_eq_true rfl, Nat.le_of_ble_eq_true rfl⟩ (op_keep mu P hJ) (fun v nu H locs hQ St => ?_)
  obtain ⟨r, hr, rfl, hC⟩ := hQ
  refine W.eq (g2 := F0 m 728 ls [zcv al (zI r)]) rfl ?_
  refine lv_aload_n B.1.1 B.1.2.1 dL_law_728 rfl (lv_at hl 2 rfl) ?_
  refine zt_callV B.1 (As := []) (rest := [zI r]) (k := 64) (d' := 1) (Y' := mX9_keep) St (fun _ h => h) hl.1 dL_law_729 lL_117 vX9_keep ⟨Nat.le_of_ble_eq_true rfl, Nat.le_of_ble_eq_true rfl⟩ (o64 (Nat.le_refl 93)) rfl rfl (Nat.le_of_ble_eq_true rfl) rfl ⟨Nat.le_of_ble_eq_true rfl, Nat.le_of_ble_eq_true rfl⟩ hC (fun v nu H locs hQ St => ?_)
  obtain ⟨rfl, P2, hJ2⟩ := hQ
  refine W.eq (g2 := F0 m 732 ls [.int (z32 r), .int (z32 r)]) rfl ?_
  refine lv_icmp_eq (tgt := 773) B.1.1 B.1.2.1 dL_law_732 (by decide) (fun _ => ?_) (fun h => absurd rfl h)
  exact kk nu P2 H locs hJ2 St
set_option maxHeartbeats 2000000 in
/-- case 24: back -/
theorem lw_c24 (B : zLw p s m c D cy b L xs) (St : zSt (zAw s) s D (zwl 93 al cy mu) H locs) (hl : lv_has ls 4 [(0, .ref b), (1, .ref (al 0)), (2, .ref (al 64)), (3, .int (nI i))]) {P : Int} (hJ : jJ mu P) (hi : i + 3 < L) (kk : ∀ (nu : Mem) (P : Int) (H : Heap) (locs : List Loc), jJ nu P → zSt (zAw s) s D (zwl 93 al cy nu) H locs → W p l e room_1 s m #[Value.ref b] below meth c H locs 93 79816 Q (F0 m 773 ls [])) : W p l e room_1 s m #[Value.ref b] below meth c H locs 93 79816 Q (F0 m 737 ls []) := by
  refine lv_aload_n B.1.1 B.1.2.1 dL_law_737 rfl (lv_at hl 1 rfl) ?_
  refine zt_callV B.1 (As := []) (rest := []) (k := 0) (d' := 2) (Y' := mX8_back) St (fun _ h => h) hl.1 dL_law_738 lL_118 vX8_back ⟨Nat.le_of_ble_eq_true rfl, Nat.le_of_ble_eq_true rfl⟩ (o0 (Nat.le_of_ble_eq_true rfl)) rfl rfl (Nat.le_of_ble_eq_true rfl) rfl ⟨Nat.le_of_ble_eq_true rfl, Nat.le_of_ble_eq_true rfl⟩ (op_back mu P hJ) (fun v nu H locs hQ St => ?_)
  obtain ⟨r, hr, rfl, hC⟩ := hQ
  refine W.eq (g2 := F0 m 741 ls [zcv al (zI r)]) rfl ?_
  refine lv_aload_n B.1.1 B.1.2.1 dL_law_741 rfl (lv_at hl 2 rfl) ?_
  refine zt_callV B.1 (As := []) (rest := [zI r]) (k := 64) (d' := 1) (Y' := mX9_back) St (fun _ h => h) hl.1 dL_law_742 lL_121 vX9_back ⟨Nat.le_of_ble_eq_true rfl, Nat.le_of_ble_eq_true rfl⟩ (o64 (Nat.le_refl 93)) rfl rfl (Nat.le_of_ble_eq_true rfl) rfl ⟨Nat.le_of_ble_eq_true rfl, Nat.le_of_ble_eq_true rfl⟩ hC (fun v nu H locs hQ St => ?_)
  obtain ⟨rfl, P2, hJ2⟩ := hQ
  refine W.eq (g2 := F0 m 745 ls [.int (z32 r), .int (z32 r)]) rfl ?_
  refine lv_icmp_eq (tgt := 773) B.1.1 B.1.2.1 dL_law_745 (by decide) (fun _ => ?_) (fun h => absurd rfl h)
  exact kk nu P2 H locs hJ2 St
set_option maxHeartbeats 2000000 in
/-- case 25: count -/
theorem lw_c25 (B : zLw p s m c D cy b L xs) (St : zSt (zAw s) s D (zwl 93 al cy mu) H locs) (hl : lv_has ls 4 [(0, .ref b), (1, .ref (al 0)), (2, .ref (al 64)), (3, .int (nI i))]) {P : Int} (hJ : jJ mu P) (hi : i + 3 < L) (kk : ∀ (nu : Mem) (P : Int) (H : Heap) (locs : List Loc), jJ nu P → zSt (zAw s) s D (zwl 93 al cy nu) H locs → W p l e room_1 s m #[Value.ref b] below meth c H locs 93 79816 Q (F0 m 773 ls [])) : W p l e room_1 s m #[Value.ref b] below meth c H locs 93 79816 Q (F0 m 750 ls []) := by
  refine lv_aload_n B.1.1 B.1.2.1 dL_law_750 rfl (lv_at hl 1 rfl) ?_
  refine zl_arg B St hl (k := 1) (by omega) dL_law_751 dL_law_752 dL_law_753 rfl dL_law_754 dL_law_755 ?_
  refine zt_callV B.1 (As := [zI (xs (i + 1)).toInt]) (rest := []) (k := 0) (d' := 0) (Y' := mX8_count) St (fun _ h => h) hl.1 dL_law_756 lL_122 vX8_count ⟨Nat.le_of_ble_eq_true rfl, Nat.le_of_ble_eq_true rfl⟩ (o0 (Nat.le_of_ble_eq_true rfl)) rfl rfl (Nat.le_of_ble_eq_true rfl) rfl ⟨Nat.le_of_ble_eq_true rfl, Nat.le_of_ble_eq_true rfl⟩ (op_count _  (zin_toInt _) mu P hJ) (fun v nu H locs hQ St => ?_)
  obtain ⟨r, hr, rfl, hC⟩ := hQ
  refine W.eq (g2 := F0 m 759 ls [zcv al (zI r)]) rfl ?_
  refine lv_aload_n B.1.1 B.1.2.1 dL_law_759 rfl (lv_at hl 2 rfl) ?_
  refine zl_arg B St hl (k := 1) (by omega) dL_law_760 dL_law_761 dL_law_762 rfl dL_law_763 dL_law_764 ?_
  refine zt_callV B.1 (As := [zI (xs (i + 1)).toInt]) (rest := [zI r]) (k := 64) (d' := 0) (Y' := mX9_count) St (fun _ h => h) hl.1 dL_law_765 lL_125 vX9_count ⟨Nat.le_of_ble_eq_true rfl, Nat.le_of_ble_eq_true rfl⟩ (o64 (Nat.le_refl 93)) rfl rfl (Nat.le_of_ble_eq_true rfl) rfl ⟨Nat.le_of_ble_eq_true rfl, Nat.le_of_ble_eq_true rfl⟩ hC (fun v nu H locs hQ St => ?_)
  obtain ⟨rfl, P2, hJ2⟩ := hQ
  refine W.eq (g2 := F0 m 768 ls [.int (z32 r), .int (z32 r)]) rfl ?_
  refine lv_icmp_eq (tgt := 773) B.1.1 B.1.2.1 dL_law_768 (by decide) (fun _ => ?_) (fun h => absurd rfl h)
  exact kk nu P2 H locs hJ2 St
end S88
