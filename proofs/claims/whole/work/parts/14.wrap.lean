/-! wrappers: slots and lengths as plain numbers; cells by name; bit functions -/
theorem zin_d {x : Int} (h : (decide (-2147483648 ≤ x) && decide (x < 2147483648)) = true) : zin x := by
  simp only [Bool.and_eq_true, decide_eq_true_eq] at h
  exact h
theorem zil_d {x : Int} (h : (decide (-9223372036854775808 ≤ x) && decide (x < 9223372036854775808)) = true) : zil x := by
  simp only [Bool.and_eq_true, decide_eq_true_eq] at h
  exact h
def zwk (L L' : List AV) : Prop := ∀ (i : Nat) (v : AV), L'[i]? = some v → v.1 < 3 → L[i]? = some v
theorem zwk_n : zwk [] [] := fun _ _ h _ => h
theorem zwk_s {v : AV} {L L' : List AV} (h : zwk L L') : zwk (v :: L) (v :: L') := fun i w hi hw => by
  match i, hi with
  | 0, hi => exact hi
  | i + 1, hi => exact h i w hi hw
theorem zwk_u {v : AV} {L L' : List AV} (h : zwk L L') : zwk (v :: L) (zU :: L') := fun i w hi hw => by
  match i, hi with
  | 0, hi => cases hi; exact absurd hw (by decide)
  | i + 1, hi => exact h i w hi hw
theorem g_wk {K d : Nat} {Y : MI} {pc : Nat} {L L' st : List AV} {mu : Mem} {Q : AV → Mem → Prop} (h : zwk L L') (k : zG K d Y pc L' st mu Q) : zG K d Y pc L st mu Q := by
  intro p l e s m args below meth c D cy al C H locs ls hP hS hL
  exact k p l e s m args below meth c D cy al C H locs ls hP hS ⟨hL.1, hL.2.1, fun i v hi hv => hL.2.2 i v (h i v hi hv) hv⟩
section ZW
variable {K d : Nat} {Y : MI} {pc : Nat} {L st : List AV} {mu : Mem} {Q : AV → Mem → Prop}
theorem g_getI' {idx ci j : Nat} {k jj : Int} (hd : decode Y.2.1 pc = .ok (.getfield idx, 3)) (ho : zOb K ci k) (hf : zFL Y.1.cls idx ci j) (hs : zsl ci j = -1) (hj : ((j : Nat) : Int) = jj) (kk : zG K d Y (pc + 3) L (zI (mu k jj) :: st) mu Q) : zG K d Y pc L (zR k :: st) mu Q := by subst hj; exact g_getI hd ho hf hs kk
theorem g_getM' {idx ci j : Nat} {k jj : Int} (hd : decode Y.2.1 pc = .ok (.getfield idx, 3)) (ho : zOb K ci k) (hf : zFL Y.1.cls idx ci j) (hs : zsl ci j = -2) (hj : ((j : Nat) : Int) = jj) (kk : zG K d Y (pc + 3) L (zR (mu k jj) :: st) mu Q) : zG K d Y pc L (zR k :: st) mu Q := by subst hj; exact g_getM hd ho hf hs kk
theorem g_putI' {idx ci j : Nat} {k v jj : Int} (hd : decode Y.2.1 pc = .ok (.putfield idx, 3)) (ho : zOb K ci k) (hf : zFP Y.1.cls idx ci j .int) (hs : zsl ci j = -1) (hj : ((j : Nat) : Int) = jj) (kk : zG K d Y (pc + 3) L st (zup mu k jj v) Q) : zG K d Y pc L (zI v :: zR k :: st) mu Q := by subst hj; exact g_putI hd ho hf hs kk
theorem g_putM' {idx ci j : Nat} {k v jj : Int} {Cn : String} (hd : decode Y.2.1 pc = .ok (.putfield idx, 3)) (ho : zOb K ci k) (hf : zFP Y.1.cls idx ci j (.object Cn)) (hs : zsl ci j = -2) (hj : ((j : Nat) : Int) = jj) (kk : zG K d Y (pc + 3) L st (zup mu k jj v) Q) : zG K d Y pc L (zR v :: zR k :: st) mu Q := by subst hj; exact g_putM hd ho hf hs kk
theorem g_iald' {k i nn : Int} {n : Nat} (hd : decode Y.2.1 pc = .ok (.iaload, 1)) (ha : zAr K 11 k n) (hn : ((n : Nat) : Int) = nn) (h0 : 0 ≤ i) (h1 : i < nn) (kk : zG K d Y (pc + 1) L (zI (mu k i) :: st) mu Q) : zG K d Y pc L (zI i :: zR k :: st) mu Q := by subst hn; exact g_iald hd ha h0 h1 kk
theorem g_iast' {k i v nn : Int} {n : Nat} (hd : decode Y.2.1 pc = .ok (.iastore, 1)) (ha : zAr K 11 k n) (hn : ((n : Nat) : Int) = nn) (h0 : 0 ≤ i) (h1 : i < nn) (kk : zG K d Y (pc + 1) L st (zup mu k i v) Q) : zG K d Y pc L (zI v :: zI i :: zR k :: st) mu Q := by subst hn; exact g_iast hd ha h0 h1 kk
theorem g_lald' {k i nn : Int} {n : Nat} (hd : decode Y.2.1 pc = .ok (.laload, 1)) (ha : zAr K 12 k n) (hn : ((n : Nat) : Int) = nn) (h0 : 0 ≤ i) (h1 : i < nn) (kk : zG K d Y (pc + 1) L (zJ (mu k i) :: st) mu Q) : zG K d Y pc L (zI i :: zR k :: st) mu Q := by subst hn; exact g_lald hd ha h0 h1 kk
theorem g_last' {k i v nn : Int} {n : Nat} (hd : decode Y.2.1 pc = .ok (.lastore, 1)) (ha : zAr K 12 k n) (hn : ((n : Nat) : Int) = nn) (h0 : 0 ≤ i) (h1 : i < nn) (kk : zG K d Y (pc + 1) L st (zup mu k i v) Q) : zG K d Y pc L (zJ v :: zI i :: zR k :: st) mu Q := by subst hn; exact g_last hd ha h0 h1 kk
theorem g_bald' {k i nn : Int} {n : Nat} (hd : decode Y.2.1 pc = .ok (.baload, 1)) (ha : zAr K 10 k n) (hn : ((n : Nat) : Int) = nn) (h0 : 0 ≤ i) (h1 : i < nn) (kk : zG K d Y (pc + 1) L (zI (mu k i) :: st) mu Q) : zG K d Y pc L (zI i :: zR k :: st) mu Q := by subst hn; exact g_bald hd ha h0 h1 kk
theorem g_bast' {k i v nn : Int} {n : Nat} (hd : decode Y.2.1 pc = .ok (.bastore, 1)) (ha : zAr K 10 k n) (hn : ((n : Nat) : Int) = nn) (h0 : 0 ≤ i) (h1 : i < nn) (kk : zG K d Y (pc + 1) L st (zup mu k i (v.bmod 256)) Q) : zG K d Y pc L (zI v :: zI i :: zR k :: st) mu Q := by subst hn; exact g_bast hd ha h0 h1 kk
theorem g_aald' {k i k' nn : Int} {n : Nat} (hd : decode Y.2.1 pc = .ok (.aaload, 1)) (ha : zAr K 13 k n) (hn : ((n : Nat) : Int) = nn) (h0 : 0 ≤ i) (h1 : i < nn) (hk : k + 1 + 5 * i = k') (kk : zG K d Y (pc + 1) L (zR k' :: st) mu Q) : zG K d Y pc L (zI i :: zR k :: st) mu Q := by subst hn; exact g_aald hd ha h0 h1 hk kk
theorem g_alen' {kd : Nat} {k nn : Int} {n : Nat} (hd : decode Y.2.1 pc = .ok (.arraylength, 1)) (ha : zAr K kd k n) (hk : kd = 10 ∨ kd = 11 ∨ kd = 12) (hn : ((n : Nat) : Int) = nn) (kk : zG K d Y (pc + 1) L (zI nn :: st) mu Q) : zG K d Y pc L (zR k :: st) mu Q := by subst hn; exact g_alen hd ha hk kk
end ZW
def zshl (a b : Int) : Int := (z32 a <<< (z32 b &&& 31)).toInt
theorem zshl_ok (a b : Int) : z32 a <<< (z32 b &&& 31) = z32 (zshl a b) := (z32_of _).symm
def zshr (a b : Int) : Int := (z32 a >>> (z32 b &&& 31)).toInt
theorem zshr_ok (a b : Int) : z32 a >>> (z32 b &&& 31) = z32 (zshr a b) := (z32_of _).symm
def zand (a b : Int) : Int := (z32 a &&& z32 b).toInt
theorem zand_ok (a b : Int) : z32 a &&& z32 b = z32 (zand a b) := (z32_of _).symm
def zor (a b : Int) : Int := (z32 a ||| z32 b).toInt
theorem zor_ok (a b : Int) : z32 a ||| z32 b = z32 (zor a b) := (z32_of _).symm
def zxor (a b : Int) : Int := (z32 a ^^^ z32 b).toInt
theorem zxor_ok (a b : Int) : z32 a ^^^ z32 b = z32 (zxor a b) := (z32_of _).symm
def zlan (a b : Int) : Int := (z64 a &&& z64 b).toInt
theorem zlan_ok (a b : Int) : z64 a &&& z64 b = z64 (zlan a b) := (z64_of _).symm
def zlor (a b : Int) : Int := (z64 a ||| z64 b).toInt
theorem zlor_ok (a b : Int) : z64 a ||| z64 b = z64 (zlor a b) := (z64_of _).symm
def zlsl (a b : Int) : Int := (z64 a <<< ((z32 b).toInt64 &&& 63)).toInt
theorem zlsl_ok (a b : Int) : z64 a <<< ((z32 b).toInt64 &&& 63) = z64 (zlsl a b) := (z64_of _).symm
def zlsr (a b : Int) : Int := (z64 a >>> ((z32 b).toInt64 &&& 63)).toInt
theorem zlsr_ok (a b : Int) : z64 a >>> ((z32 b).toInt64 &&& 63) = z64 (zlsr a b) := (z64_of _).symm
def zlus (a b : Int) : Int := (((z64 a).toUInt64 >>> ((z32 b).toInt64.toUInt64 &&& Int64.toUInt64 63)).toInt64).toInt
theorem zlus_ok (a b : Int) : ((z64 a).toUInt64 >>> ((z32 b).toInt64.toUInt64 &&& Int64.toUInt64 63)).toInt64 = z64 (zlus a b) := (z64_of _).symm
def isP (K : Nat) (P : Int) : Prop := 64 ≤ K ∧ (P = 4 ∨ P = 13)
def isS (K : Nat) (S : Int) : Prop := 64 ≤ K ∧ (S = 22 ∨ S = 28 ∨ S = 33 ∨ S = 58)
theorem isP.ob {K : Nat} {P : Int} (h : isP K P) : zOb K 2 P := by
  obtain ⟨hK, rfl | rfl⟩ := h <;> exact zOb.mk hK (by decide) (by decide) rfl (by decide)
theorem isS.ob {K : Nat} {S : Int} (h : isS K S) : zOb K 6 S := by
  obtain ⟨hK, rfl | rfl | rfl | rfl⟩ := h <;> exact zOb.mk hK (by decide) (by decide) rfl (by decide)
theorem isP.a1 {K : Nat} {P : Int} (h : isP K P) : zAr K 11 (P + 1) 6 := by
  obtain ⟨hK, rfl | rfl⟩ := h <;> exact zAr.mk hK (by decide) (by decide) rfl rfl
theorem isP.a2 {K : Nat} {P : Int} (h : isP K P) : zAr K 11 (P + 2) 10 := by
  obtain ⟨hK, rfl | rfl⟩ := h <;> exact zAr.mk hK (by decide) (by decide) rfl rfl
theorem isP.a3 {K : Nat} {P : Int} (h : isP K P) : zAr K 11 (P + 3) 42 := by
  obtain ⟨hK, rfl | rfl⟩ := h <;> exact zAr.mk hK (by decide) (by decide) rfl rfl
theorem isP.a4 {K : Nat} {P : Int} (h : isP K P) : zAr K 11 (P + 4) 6 := by
  obtain ⟨hK, rfl | rfl⟩ := h <;> exact zAr.mk hK (by decide) (by decide) rfl rfl
theorem isP.a5 {K : Nat} {P : Int} (h : isP K P) : zAr K 11 (P + 5) 6 := by
  obtain ⟨hK, rfl | rfl⟩ := h <;> exact zAr.mk hK (by decide) (by decide) rfl rfl
theorem isP.a6 {K : Nat} {P : Int} (h : isP K P) : zAr K 11 (P + 6) 6 := by
  obtain ⟨hK, rfl | rfl⟩ := h <;> exact zAr.mk hK (by decide) (by decide) rfl rfl
theorem isP.a7 {K : Nat} {P : Int} (h : isP K P) : zAr K 11 (P + 7) 6 := by
  obtain ⟨hK, rfl | rfl⟩ := h <;> exact zAr.mk hK (by decide) (by decide) rfl rfl
theorem isP.a8 {K : Nat} {P : Int} (h : isP K P) : zAr K 11 (P + 8) 6 := by
  obtain ⟨hK, rfl | rfl⟩ := h <;> exact zAr.mk hK (by decide) (by decide) rfl rfl
theorem isS.a1 {K : Nat} {S : Int} (h : isS K S) : zAr K 11 (S + 1) 6 := by
  obtain ⟨hK, rfl | rfl | rfl | rfl⟩ := h <;> exact zAr.mk hK (by decide) (by decide) rfl rfl
theorem isS.a2 {K : Nat} {S : Int} (h : isS K S) : zAr K 11 (S + 2) 6 := by
  obtain ⟨hK, rfl | rfl | rfl | rfl⟩ := h <;> exact zAr.mk hK (by decide) (by decide) rfl rfl
theorem isS.a3 {K : Nat} {S : Int} (h : isS K S) : zAr K 11 (S + 3) 6 := by
  obtain ⟨hK, rfl | rfl | rfl | rfl⟩ := h <;> exact zAr.mk hK (by decide) (by decide) rfl rfl
theorem isS.a4 {K : Nat} {S : Int} (h : isS K S) : zAr K 11 (S + 4) 10 := by
  obtain ⟨hK, rfl | rfl | rfl | rfl⟩ := h <;> exact zAr.mk hK (by decide) (by decide) rfl rfl
theorem o0 {K : Nat} (hK : 64 ≤ K) : zOb K 8 0 := zOb.mk hK (by decide) (by decide) rfl (by decide)
theorem r1 {K : Nat} (hK : 64 ≤ K) : zAr K 10 1 300 := zAr.mk hK (by decide) (by decide) rfl rfl
theorem o2 {K : Nat} (hK : 64 ≤ K) : zOb K 4 2 := zOb.mk hK (by decide) (by decide) rfl (by decide)
theorem r3 {K : Nat} (hK : 64 ≤ K) : zAr K 11 3 4 := zAr.mk hK (by decide) (by decide) rfl rfl
theorem o4 {K : Nat} (hK : 64 ≤ K) : zOb K 2 4 := zOb.mk hK (by decide) (by decide) rfl (by decide)
theorem r5 {K : Nat} (hK : 64 ≤ K) : zAr K 11 5 6 := zAr.mk hK (by decide) (by decide) rfl rfl
theorem r6 {K : Nat} (hK : 64 ≤ K) : zAr K 11 6 10 := zAr.mk hK (by decide) (by decide) rfl rfl
theorem r7 {K : Nat} (hK : 64 ≤ K) : zAr K 11 7 42 := zAr.mk hK (by decide) (by decide) rfl rfl
theorem r8 {K : Nat} (hK : 64 ≤ K) : zAr K 11 8 6 := zAr.mk hK (by decide) (by decide) rfl rfl
theorem r9 {K : Nat} (hK : 64 ≤ K) : zAr K 11 9 6 := zAr.mk hK (by decide) (by decide) rfl rfl
theorem r10 {K : Nat} (hK : 64 ≤ K) : zAr K 11 10 6 := zAr.mk hK (by decide) (by decide) rfl rfl
theorem r11 {K : Nat} (hK : 64 ≤ K) : zAr K 11 11 6 := zAr.mk hK (by decide) (by decide) rfl rfl
theorem r12 {K : Nat} (hK : 64 ≤ K) : zAr K 11 12 6 := zAr.mk hK (by decide) (by decide) rfl rfl
theorem o13 {K : Nat} (hK : 64 ≤ K) : zOb K 2 13 := zOb.mk hK (by decide) (by decide) rfl (by decide)
theorem r14 {K : Nat} (hK : 64 ≤ K) : zAr K 11 14 6 := zAr.mk hK (by decide) (by decide) rfl rfl
theorem r15 {K : Nat} (hK : 64 ≤ K) : zAr K 11 15 10 := zAr.mk hK (by decide) (by decide) rfl rfl
theorem r16 {K : Nat} (hK : 64 ≤ K) : zAr K 11 16 42 := zAr.mk hK (by decide) (by decide) rfl rfl
theorem r17 {K : Nat} (hK : 64 ≤ K) : zAr K 11 17 6 := zAr.mk hK (by decide) (by decide) rfl rfl
theorem r18 {K : Nat} (hK : 64 ≤ K) : zAr K 11 18 6 := zAr.mk hK (by decide) (by decide) rfl rfl
theorem r19 {K : Nat} (hK : 64 ≤ K) : zAr K 11 19 6 := zAr.mk hK (by decide) (by decide) rfl rfl
theorem r20 {K : Nat} (hK : 64 ≤ K) : zAr K 11 20 6 := zAr.mk hK (by decide) (by decide) rfl rfl
theorem r21 {K : Nat} (hK : 64 ≤ K) : zAr K 11 21 6 := zAr.mk hK (by decide) (by decide) rfl rfl
theorem o22 {K : Nat} (hK : 64 ≤ K) : zOb K 6 22 := zOb.mk hK (by decide) (by decide) rfl (by decide)
theorem r23 {K : Nat} (hK : 64 ≤ K) : zAr K 11 23 6 := zAr.mk hK (by decide) (by decide) rfl rfl
theorem r24 {K : Nat} (hK : 64 ≤ K) : zAr K 11 24 6 := zAr.mk hK (by decide) (by decide) rfl rfl
theorem r25 {K : Nat} (hK : 64 ≤ K) : zAr K 11 25 6 := zAr.mk hK (by decide) (by decide) rfl rfl
theorem r26 {K : Nat} (hK : 64 ≤ K) : zAr K 11 26 10 := zAr.mk hK (by decide) (by decide) rfl rfl
theorem r27 {K : Nat} (hK : 64 ≤ K) : zAr K 13 27 2 := zAr.mk hK (by decide) (by decide) rfl rfl
theorem o28 {K : Nat} (hK : 64 ≤ K) : zOb K 6 28 := zOb.mk hK (by decide) (by decide) rfl (by decide)
theorem r29 {K : Nat} (hK : 64 ≤ K) : zAr K 11 29 6 := zAr.mk hK (by decide) (by decide) rfl rfl
theorem r30 {K : Nat} (hK : 64 ≤ K) : zAr K 11 30 6 := zAr.mk hK (by decide) (by decide) rfl rfl
theorem r31 {K : Nat} (hK : 64 ≤ K) : zAr K 11 31 6 := zAr.mk hK (by decide) (by decide) rfl rfl
theorem r32 {K : Nat} (hK : 64 ≤ K) : zAr K 11 32 10 := zAr.mk hK (by decide) (by decide) rfl rfl
theorem o33 {K : Nat} (hK : 64 ≤ K) : zOb K 6 33 := zOb.mk hK (by decide) (by decide) rfl (by decide)
theorem r34 {K : Nat} (hK : 64 ≤ K) : zAr K 11 34 6 := zAr.mk hK (by decide) (by decide) rfl rfl
theorem r35 {K : Nat} (hK : 64 ≤ K) : zAr K 11 35 6 := zAr.mk hK (by decide) (by decide) rfl rfl
theorem r36 {K : Nat} (hK : 64 ≤ K) : zAr K 11 36 6 := zAr.mk hK (by decide) (by decide) rfl rfl
theorem r37 {K : Nat} (hK : 64 ≤ K) : zAr K 11 37 10 := zAr.mk hK (by decide) (by decide) rfl rfl
theorem o38 {K : Nat} (hK : 64 ≤ K) : zOb K 3 38 := zOb.mk hK (by decide) (by decide) rfl (by decide)
theorem r39 {K : Nat} (hK : 64 ≤ K) : zAr K 11 39 10 := zAr.mk hK (by decide) (by decide) rfl rfl
theorem r40 {K : Nat} (hK : 64 ≤ K) : zAr K 11 40 10 := zAr.mk hK (by decide) (by decide) rfl rfl
theorem r41 {K : Nat} (hK : 64 ≤ K) : zAr K 11 41 16 := zAr.mk hK (by decide) (by decide) rfl rfl
theorem o42 {K : Nat} (hK : 64 ≤ K) : zOb K 1 42 := zOb.mk hK (by decide) (by decide) rfl (by decide)
theorem r43 {K : Nat} (hK : 64 ≤ K) : zAr K 11 43 10 := zAr.mk hK (by decide) (by decide) rfl rfl
theorem r44 {K : Nat} (hK : 64 ≤ K) : zAr K 11 44 10 := zAr.mk hK (by decide) (by decide) rfl rfl
theorem r45 {K : Nat} (hK : 64 ≤ K) : zAr K 11 45 7168 := zAr.mk hK (by decide) (by decide) rfl rfl
theorem o46 {K : Nat} (hK : 64 ≤ K) : zOb K 7 46 := zOb.mk hK (by decide) (by decide) rfl (by decide)
theorem r47 {K : Nat} (hK : 64 ≤ K) : zAr K 11 47 12 := zAr.mk hK (by decide) (by decide) rfl rfl
theorem r48 {K : Nat} (hK : 64 ≤ K) : zAr K 11 48 12 := zAr.mk hK (by decide) (by decide) rfl rfl
theorem r49 {K : Nat} (hK : 64 ≤ K) : zAr K 11 49 539 := zAr.mk hK (by decide) (by decide) rfl rfl
theorem r50 {K : Nat} (hK : 64 ≤ K) : zAr K 11 50 7 := zAr.mk hK (by decide) (by decide) rfl rfl
theorem o51 {K : Nat} (hK : 64 ≤ K) : zOb K 5 51 := zOb.mk hK (by decide) (by decide) rfl (by decide)
theorem r52 {K : Nat} (hK : 64 ≤ K) : zAr K 11 52 10 := zAr.mk hK (by decide) (by decide) rfl rfl
theorem r53 {K : Nat} (hK : 64 ≤ K) : zAr K 12 53 539 := zAr.mk hK (by decide) (by decide) rfl rfl
theorem r54 {K : Nat} (hK : 64 ≤ K) : zAr K 12 54 539 := zAr.mk hK (by decide) (by decide) rfl rfl
theorem r55 {K : Nat} (hK : 64 ≤ K) : zAr K 12 55 6 := zAr.mk hK (by decide) (by decide) rfl rfl
theorem o56 {K : Nat} (hK : 64 ≤ K) : zOb K 0 56 := zOb.mk hK (by decide) (by decide) rfl (by decide)
theorem r57 {K : Nat} (hK : 64 ≤ K) : zAr K 11 57 6 := zAr.mk hK (by decide) (by decide) rfl rfl
theorem o58 {K : Nat} (hK : 64 ≤ K) : zOb K 6 58 := zOb.mk hK (by decide) (by decide) rfl (by decide)
theorem r59 {K : Nat} (hK : 64 ≤ K) : zAr K 11 59 6 := zAr.mk hK (by decide) (by decide) rfl rfl
theorem r60 {K : Nat} (hK : 64 ≤ K) : zAr K 11 60 6 := zAr.mk hK (by decide) (by decide) rfl rfl
theorem r61 {K : Nat} (hK : 64 ≤ K) : zAr K 11 61 6 := zAr.mk hK (by decide) (by decide) rfl rfl
theorem r62 {K : Nat} (hK : 64 ≤ K) : zAr K 11 62 10 := zAr.mk hK (by decide) (by decide) rfl rfl
theorem r63 {K : Nat} (hK : 64 ≤ K) : zAr K 12 63 601 := zAr.mk hK (by decide) (by decide) rfl rfl
theorem o64 {K : Nat} (hK : 93 ≤ K) : zOb K 9 64 := zOb.mk hK (by decide) (by decide) rfl (by decide)
theorem r65 {K : Nat} (hK : 93 ≤ K) : zAr K 11 65 300 := zAr.mk hK (by decide) (by decide) rfl rfl
theorem r66 {K : Nat} (hK : 93 ≤ K) : zAr K 11 66 2 := zAr.mk hK (by decide) (by decide) rfl rfl
theorem r67 {K : Nat} (hK : 93 ≤ K) : zAr K 11 67 2 := zAr.mk hK (by decide) (by decide) rfl rfl
theorem r68 {K : Nat} (hK : 93 ≤ K) : zAr K 11 68 2 := zAr.mk hK (by decide) (by decide) rfl rfl
theorem r69 {K : Nat} (hK : 93 ≤ K) : zAr K 11 69 12 := zAr.mk hK (by decide) (by decide) rfl rfl
theorem r70 {K : Nat} (hK : 93 ≤ K) : zAr K 11 70 2 := zAr.mk hK (by decide) (by decide) rfl rfl
theorem r71 {K : Nat} (hK : 93 ≤ K) : zAr K 11 71 20 := zAr.mk hK (by decide) (by decide) rfl rfl
theorem r72 {K : Nat} (hK : 93 ≤ K) : zAr K 11 72 84 := zAr.mk hK (by decide) (by decide) rfl rfl
theorem r73 {K : Nat} (hK : 93 ≤ K) : zAr K 11 73 12 := zAr.mk hK (by decide) (by decide) rfl rfl
theorem r74 {K : Nat} (hK : 93 ≤ K) : zAr K 11 74 2 := zAr.mk hK (by decide) (by decide) rfl rfl
theorem r75 {K : Nat} (hK : 93 ≤ K) : zAr K 11 75 12 := zAr.mk hK (by decide) (by decide) rfl rfl
theorem r76 {K : Nat} (hK : 93 ≤ K) : zAr K 11 76 36 := zAr.mk hK (by decide) (by decide) rfl rfl
theorem r77 {K : Nat} (hK : 93 ≤ K) : zAr K 11 77 54 := zAr.mk hK (by decide) (by decide) rfl rfl
theorem r78 {K : Nat} (hK : 93 ≤ K) : zAr K 11 78 3 := zAr.mk hK (by decide) (by decide) rfl rfl
theorem r79 {K : Nat} (hK : 93 ≤ K) : zAr K 11 79 30 := zAr.mk hK (by decide) (by decide) rfl rfl
theorem r80 {K : Nat} (hK : 93 ≤ K) : zAr K 11 80 4 := zAr.mk hK (by decide) (by decide) rfl rfl
theorem r81 {K : Nat} (hK : 93 ≤ K) : zAr K 11 81 16 := zAr.mk hK (by decide) (by decide) rfl rfl
theorem r82 {K : Nat} (hK : 93 ≤ K) : zAr K 11 82 65536 := zAr.mk hK (by decide) (by decide) rfl rfl
theorem r83 {K : Nat} (hK : 93 ≤ K) : zAr K 11 83 704 := zAr.mk hK (by decide) (by decide) rfl rfl
theorem r84 {K : Nat} (hK : 93 ≤ K) : zAr K 11 84 12 := zAr.mk hK (by decide) (by decide) rfl rfl
theorem r85 {K : Nat} (hK : 93 ≤ K) : zAr K 11 85 12 := zAr.mk hK (by decide) (by decide) rfl rfl
theorem r86 {K : Nat} (hK : 93 ≤ K) : zAr K 11 86 10 := zAr.mk hK (by decide) (by decide) rfl rfl
theorem r87 {K : Nat} (hK : 93 ≤ K) : zAr K 12 87 704 := zAr.mk hK (by decide) (by decide) rfl rfl
theorem r88 {K : Nat} (hK : 93 ≤ K) : zAr K 12 88 704 := zAr.mk hK (by decide) (by decide) rfl rfl
theorem r89 {K : Nat} (hK : 93 ≤ K) : zAr K 12 89 704 := zAr.mk hK (by decide) (by decide) rfl rfl
theorem r90 {K : Nat} (hK : 93 ≤ K) : zAr K 11 90 18 := zAr.mk hK (by decide) (by decide) rfl rfl
theorem r91 {K : Nat} (hK : 93 ≤ K) : zAr K 11 91 6 := zAr.mk hK (by decide) (by decide) rfl rfl
theorem r92 {K : Nat} (hK : 93 ≤ K) : zAr K 12 92 601 := zAr.mk hK (by decide) (by decide) rfl rfl
