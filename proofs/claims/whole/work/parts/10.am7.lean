/-! constants, switches, copies -/
theorem iv_toInt {n : Int} (h1 : -2147483648 ≤ n) (h2 : n < 2147483648) : (iv n).toInt = n := by
  rw [← iv_ofInt]; exact Int32.toInt_ofInt_of_le h1 h2
/-- a switch as a chain of questions -/
def tsw (x : Int32) (K : Int → Prop) (d : Int) : Int → List Int → Prop
  | _, [] => K d
  | lo, o :: os => (x = iv lo → K o) ∧ (¬ x = iv lo → tsw x K d (lo + 1) os)
theorem tsw_out {x : Int32} {K : Int → Prop} {d : Int} : ∀ (os : List Int) (lo : Int), -2147483648 ≤ lo → lo + os.length ≤ 2147483648 → tsw x K d lo os → (x.toInt < lo ∨ lo + os.length ≤ x.toInt) → K d := by
  intro os
  induction os with
  | nil => intro lo _ _ h _; exact h
  | cons o os ih =>
    intro lo h1 h2 h hx
    rw [List.length_cons] at h2 hx
    have hne : ¬ x = iv lo := fun e => by rw [e, iv_toInt h1 (by omega)] at hx; omega
    exact ih (lo + 1) (by omega) (by omega) (h.2 hne) (by omega)
theorem tsw_in {x : Int32} {K : Int → Prop} {d : Int} : ∀ (os : List Int) (lo : Int) (j : Nat) (o : Int), -2147483648 ≤ lo → lo + os.length ≤ 2147483648 → tsw x K d lo os → x.toInt = lo + j → os[j]? = some o → K o := by
  intro os
  induction os with
  | nil => intro lo j o _ _ _ _ ho; simp at ho
  | cons o' os ih =>
    intro lo j o h1 h2 h hx ho
    rw [List.length_cons] at h2
    cases j with
    | zero =>
      have e : x = iv lo := Int32.toInt_inj.mp (by rw [iv_toInt h1 (by omega)]; omega)
      simp only [List.getElem?_cons_zero, Option.some.injEq] at ho
      rw [← ho]; exact h.1 e
    | succ j =>
      have hne : ¬ x = iv lo := fun e => by rw [e, iv_toInt h1 (by omega)] at hx; omega
      exact ih (lo + 1) j o (by omega) (by omega) (h.2 hne) (by omega) (by simpa using ho)
theorem cE_cpI {g : Gl} {μ : Mem} {k t : Nat} {f : Nat → Int32} (hc : (sh k).1 = 100 + t) (h1 : t ≠ 1) (h4 : t ≠ 4) : cE g (sRI μ k f) k = .inl (gA g t, (sh k).2, .inl f) := by
  rw [cE_i hc h1 h4]
  have : mI (sRI μ k f) k = f := by funext b; exact if_pos rfl
  rw [this]
theorem cE_cpL {g : Gl} {μ : Mem} {k : Nat} {f : Nat → Int64} (hc : (sh k).1 = 101) : cE g (sRL μ k f) k = .inl (gA g 1, (sh k).2, .inr (.inl f)) := by
  rw [cE_l hc]
  have : mL (sRL μ k f) k = f := by funext b; exact if_pos rfl
  rw [this]
theorem acpW : nativeFrameWords "java/lang/System" "arraycopy" 5 + 11 ≤ 90 := by decide +kernel
def acpB (own : String) (q : Nat × Nat × Nat × Nat × Nat) : Bool := tbAt (q.2.1, .methodLink own q.1 arraycopyName) && tbAt (q.2.2.1, .native arraycopyName) && tbAt (q.2.2.2.1, .static arraycopyName) && tbAt (q.2.2.2.2, .initialized "java/lang/System")
def acpOK (sp dp n : Int32) (k0 k1 : Nat) : Prop := ¬ sp < 0 ∧ ¬ dp < 0 ∧ ¬ n < 0 ∧ nx sp + nx n ≤ (sh k0).2 ∧ nx dp + nx n ≤ (sh k1).2
section AM7
variable {g : Gl} {mi : MI} {R : Room} {Q : QT} {nc ns pc : Nat} {ls : List (Nat × Value)} {st : List Value} {μ : Mem}
theorem am_ldc {idx pl : Nat} {v : Int32} (hq : tbAt (pl, .constant (miY mi).cls idx v) = true) (hd : decode (miC mi) pc = .ok (.ldc idx, 2)) (k : Wm g mi R Q nc ns (pc + 2) ls (.int v :: st) μ) : Wm g mi R Q nc ns pc ls st μ := fun p e s m args below meth c C H locs L hR hS hl =>
  lv_ldc C.1 C.2.1 C.2.2.2.2.2.1 (C.2.2.2.2.2.2.1 _ (tb_of hq)) hd (k p e s m args below meth c C H locs L hR hS hl)
theorem am_ldcw {idx pl : Nat} {v : Int32} (hq : tbAt (pl, .constant (miY mi).cls idx v) = true) (hd : decode (miC mi) pc = .ok (.ldc_w idx, 3)) (k : Wm g mi R Q nc ns (pc + 3) ls (.int v :: st) μ) : Wm g mi R Q nc ns pc ls st μ := fun p e s m args below meth c C H locs L hR hS hl =>
  lv_ldcw C.1 C.2.1 C.2.2.2.2.2.1 (C.2.2.2.2.2.2.1 _ (tb_of hq)) hd (k p e s m args below meth c C H locs L hR hS hl)
theorem am_ldc2 {idx pl : Nat} {v : Int64} (hq : tbAt (pl, .constantLong (miY mi).cls idx v) = true) (hd : decode (miC mi) pc = .ok (.ldc2_w idx, 3)) (k : Wm g mi R Q nc ns (pc + 3) ls (.long v :: st) μ) : Wm g mi R Q nc ns pc ls st μ := fun p e s m args below meth c C H locs L hR hS hl =>
  lv_ldc2 C.1 C.2.1 C.2.2.2.2.2.1 (C.2.2.2.2.2.2.1 _ (tb_of hq)) hd (k p e s m args below meth c C H locs L hR hS hl)
def strB (own : String) (q : Nat × Nat) : Bool := Nat.blt q.2 61 && decide ((STR.getD q.2 ("", 0, "")).1 = own) && decide ((STR.getD q.2 ("", 0, "")).2.1 = q.1)
theorem am_ldcS {idx j : Nat} (hq : strB (miY mi).cls (idx, j) = true) (hd : decode (miC mi) pc = .ok (.ldc idx, 2)) (k : Wm g mi R Q nc ns (pc + 2) ls (.ref (1000 + j) :: st) μ) : Wm g mi R Q nc ns pc ls st μ := by
  intro p e s m args below meth c C H locs L hR hS hl
  have k9 := k p e s m args below meth c C H locs L hR hS hl
  simp only [strB, Bool.and_eq_true, decide_eq_true_eq] at hq
  obtain ⟨⟨h1, h2⟩, h3⟩ := hq
  have h1 : j < 61 := Nat.le_of_ble_eq_true h1
  have hs := (C.2.2.2.2.2.2.2.2.2.2.1 j h1).1
  rw [h2, h3] at hs
  have e1 : tv g (.ref (1000 + j)) = .ref (gs g j) := by
    show Value.ref (gr g (1000 + j)) = _
    unfold gr
    rw [if_neg (by omega), if_pos (by omega), Nat.add_sub_cancel_left]
  rw [List.map_cons, e1] at k9
  exact va_ldcS C.1 C.2.1 C.2.2.2.2.2.1 hs hd k9
theorem am_tsw {x : Int32} {d lo hi : Int} {offs : Array Int} {len : Nat} (h1 : -2147483648 ≤ lo) (h2 : hi < 2147483648) (h3 : lo + offs.toList.length = hi + 1) (h4 : 0 ≤ (pc : Int) + d) (h5 : ∀ o ∈ offs.toList, 0 ≤ (pc : Int) + o) (hd : decode (miC mi) pc = .ok (.tableswitch d lo hi offs, len))
    (k : tsw x (fun o => Wm g mi R Q nc ns (jt pc o) ls st μ) d lo offs.toList) : Wm g mi R Q nc ns pc ls (.int x :: st) μ := by
  intro p e s m args below meth c C H locs L hR hS hl
  by_cases hx : x.toInt < lo ∨ hi < x.toInt
  · exact lv_tableOut C.1 C.2.1 hd hx (jt_ok h4) (tsw_out _ _ h1 (by omega) k (by omega) p e s m args below meth c C H locs L hR hS hl)
  · have hx1 : ¬ x.toInt < lo := fun z => hx (Or.inl z)
    have hx2 : ¬ hi < x.toInt := fun z => hx (Or.inr z)
    obtain ⟨j, hj⟩ : ∃ j : Nat, x.toInt = lo + j := ⟨(x.toInt - lo).toNat, by omega⟩
    have hjl : j < offs.toList.length := by omega
    have ho : offs.toList[j]? = some offs.toList[j] := List.getElem?_eq_getElem hjl
    refine lv_tableIn C.1 C.2.1 hd hx1 hx2 (off := offs.toList[j]) ?_ (jt_ok (h5 _ (List.getElem_mem hjl))) (tsw_in _ _ j _ h1 (by omega) k hj ho p e s m args below meth c C H locs L hR hS hl)
    have : (x.toInt - lo).toNat = j := by omega
    rw [this, ← Array.getElem?_toList]; exact ho
theorem am_acpI {idx a1 a2 a3 a4 k0 k1 : Nat} {sp dp n : Int32} (hq : acpB (miY mi).cls (idx, a1, a2, a3, a4) = true) (hR1 : 1 ≤ R.frames) (hR2 : 90 ≤ R.locals) (hk0 : k0 < NC) (hk1 : k1 < NC) (hc0 : (sh k0).1 = 100) (hc1 : (sh k1).1 = 100) (hn : acpOK sp dp n k0 k1) (hd : decode (miC mi) pc = .ok (.invokestatic idx, 3))
    (kk : Wm g mi R Q nc ns (pc + 3) ls [] (sRI μ k1 (va_cpy (mI μ k0) (mI μ k1) (nx sp) (nx dp) (nx n)))) : Wm g mi R Q nc ns pc ls [.int n, .int dp, .ref k1, .int sp, .ref k0] μ := by
  intro p e s m args below meth c C H locs L hR hS hl
  have C' := C
  obtain ⟨hx, hb, hml, hr, hlk, hown, hts, hex, hE⟩ := C'
  simp only [acpB, Bool.and_eq_true] at hq
  obtain ⟨⟨⟨q1, q2⟩, q3⟩, q4⟩ := hq
  obtain ⟨n1, n2, n3, n4, n5⟩ := hn
  refine va_copyi hx hb (hml.trans hl.1.symm) hown (hts _ (tb_of q1)) (hts _ (tb_of q2)) (hts _ (tb_of q3)) (hts _ (tb_of q4)) hE.1 hR (D_wd hE) hS k0 k1 0 0 (ty := .int) (by rw [wd_at hk0, cE_i (t := 0) hc0 (by decide) (by decide)]; rw [gr_lt hk0]) (by rw [wd_at hk1, cE_i (t := 0) hc1 (by decide) (by decide)]; rw [gr_lt hk1]) rfl rfl rfl n1 n2 n3 n4 n5 (fun i _ => rfl) hR1 (Nat.le_trans (by simpa using acpW) hR2) hd fun H1 locs1 hP1 hD1 hS1 => ?_
  rw [wd_set hk1 (cE_cpI (t := 0) hc1 (by decide) (by decide)) (fun a ha => cE_RI ha)] at hP1
  exact kk p e s m args below meth c C H1 locs1 L hP1 hS1 hl
theorem am_acpZ {idx a1 a2 a3 a4 k0 k1 : Nat} {sp dp n : Int32} (hq : acpB (miY mi).cls (idx, a1, a2, a3, a4) = true) (hR1 : 1 ≤ R.frames) (hR2 : 90 ≤ R.locals) (hk0 : k0 < NC) (hk1 : k1 < NC) (hc0 : (sh k0).1 = 103) (hc1 : (sh k1).1 = 103) (hn : acpOK sp dp n k0 k1) (hz : ∀ i, i < nx n → mI μ k0 (nx sp + i) = 0 ∨ mI μ k0 (nx sp + i) = 1) (hd : decode (miC mi) pc = .ok (.invokestatic idx, 3))
    (kk : Wm g mi R Q nc ns (pc + 3) ls [] (sRI μ k1 (va_cpy (mI μ k0) (mI μ k1) (nx sp) (nx dp) (nx n)))) : Wm g mi R Q nc ns pc ls [.int n, .int dp, .ref k1, .int sp, .ref k0] μ := by
  intro p e s m args below meth c C H locs L hR hS hl
  have C' := C
  obtain ⟨hx, hb, hml, hr, hlk, hown, hts, hex, hE⟩ := C'
  simp only [acpB, Bool.and_eq_true] at hq
  obtain ⟨⟨⟨q1, q2⟩, q3⟩, q4⟩ := hq
  obtain ⟨n1, n2, n3, n4, n5⟩ := hn
  refine va_copyi hx hb (hml.trans hl.1.symm) hown (hts _ (tb_of q1)) (hts _ (tb_of q2)) (hts _ (tb_of q3)) (hts _ (tb_of q4)) hE.1 hR (D_wd hE) hS k0 k1 3 3 (ty := .boolean) (by rw [wd_at hk0, cE_i (t := 3) hc0 (by decide) (by decide)]; rw [gr_lt hk0]) (by rw [wd_at hk1, cE_i (t := 3) hc1 (by decide) (by decide)]; rw [gr_lt hk1]) rfl rfl rfl n1 n2 n3 n4 n5 (fun i hi => by rcases hz i hi with h | h <;> (unfold nx at h; rw [h]; decide +kernel)) hR1 (Nat.le_trans (by simpa using acpW) hR2) hd fun H1 locs1 hP1 hD1 hS1 => ?_
  rw [wd_set hk1 (cE_cpI (t := 3) hc1 (by decide) (by decide)) (fun a ha => cE_RI ha)] at hP1
  exact kk p e s m args below meth c C H1 locs1 L hP1 hS1 hl
theorem am_acpL {idx a1 a2 a3 a4 k0 k1 : Nat} {sp dp n : Int32} (hq : acpB (miY mi).cls (idx, a1, a2, a3, a4) = true) (hR1 : 1 ≤ R.frames) (hR2 : 90 ≤ R.locals) (hk0 : k0 < NC) (hk1 : k1 < NC) (hc0 : (sh k0).1 = 101) (hc1 : (sh k1).1 = 101) (hn : acpOK sp dp n k0 k1) (hd : decode (miC mi) pc = .ok (.invokestatic idx, 3))
    (kk : Wm g mi R Q nc ns (pc + 3) ls [] (sRL μ k1 (va_cpy (mL μ k0) (mL μ k1) (nx sp) (nx dp) (nx n)))) : Wm g mi R Q nc ns pc ls [.int n, .int dp, .ref k1, .int sp, .ref k0] μ := by
  intro p e s m args below meth c C H locs L hR hS hl
  have C' := C
  obtain ⟨hx, hb, hml, hr, hlk, hown, hts, hex, hE⟩ := C'
  simp only [acpB, Bool.and_eq_true] at hq
  obtain ⟨⟨⟨q1, q2⟩, q3⟩, q4⟩ := hq
  obtain ⟨n1, n2, n3, n4, n5⟩ := hn
  refine va_copyl hx hb (hml.trans hl.1.symm) hown (hts _ (tb_of q1)) (hts _ (tb_of q2)) (hts _ (tb_of q3)) (hts _ (tb_of q4)) hE.1 hR (D_wd hE) hS k0 k1 1 1 (ty := .long) (by rw [wd_at hk0, cE_l hc0]; rw [gr_lt hk0]) (by rw [wd_at hk1, cE_l hc1]; rw [gr_lt hk1]) rfl rfl rfl n1 n2 n3 n4 n5 (fun i _ => rfl) hR1 (Nat.le_trans (by simpa using acpW) hR2) hd fun H1 locs1 hP1 hD1 hS1 => ?_
  rw [wd_set hk1 (cE_cpL hc1) (fun a ha => cE_RL ha)] at hP1
  exact kk p e s m args below meth c C H1 locs1 L hP1 hS1 hl
/-- the bytes of a text -/
def sby (k : Nat) : List Int32 := SBY.getD (k - 1000) []
theorem gr_str {k : Nat} (h1 : 1000 ≤ k) (h2 : k < 1061) : gr g k = gs g (k - 1000) := by unfold gr; rw [if_neg (by omega), if_pos (by omega)]
theorem gr_byt {k : Nat} (h1 : 1000 ≤ k) (h2 : k < 1061) : gr g (k + 2000) = gv g (k - 1000) := by unfold gr; rw [if_neg (by omega), if_neg (by omega), if_neg (by omega), if_pos (by omega), show k + 2000 - 3000 = k - 1000 by omega]
theorem am_sval {idx pl k : Nat} (hq : tbAt (pl, .fieldLink (miY mi).cls idx "java/lang/String" "value" "[B") = true) (h1 : 1000 ≤ k) (h2 : k < 1061) (hd : decode (miC mi) pc = .ok (.getfield idx, 3)) (kk : Wm g mi R Q nc ns (pc + 3) ls (.ref (k + 2000) :: st) μ) : Wm g mi R Q nc ns pc ls (.ref k :: st) μ := by
  intro p e s m args below meth c C H locs L hR hS hl
  have k9 := kk p e s m args below meth c C H locs L hR hS hl
  obtain ⟨hx, hb, hml, hr, hlk, hown, hts, hex, hE⟩ := C
  obtain ⟨-, -, -, z, -⟩ := hE.2.2.1 (k - 1000) (by omega)
  rw [List.map_cons, show tv g (.ref (k + 2000)) = .ref (gv g (k - 1000)) by rw [← gr_byt h1 h2]; rfl] at k9
  rw [List.map_cons, show tv g (.ref k) = .ref (gs g (k - 1000)) by rw [← gr_str h1 h2]; rfl]
  exact vk_getf hx hb z hS hown (hts _ (tb_of hq)) (fun _ h => h) hd k9
theorem am_scod {idx pl k : Nat} (hq : tbAt (pl, .fieldLink (miY mi).cls idx "java/lang/String" "coder" "B") = true) (h1 : 1000 ≤ k) (h2 : k < 1061) (hd : decode (miC mi) pc = .ok (.getfield idx, 3)) (kk : Wm g mi R Q nc ns (pc + 3) ls (.int 0 :: st) μ) : Wm g mi R Q nc ns pc ls (.ref k :: st) μ := by
  intro p e s m args below meth c C H locs L hR hS hl
  have k9 := kk p e s m args below meth c C H locs L hR hS hl
  obtain ⟨hx, hb, hml, hr, hlk, hown, hts, hex, hE⟩ := C
  obtain ⟨-, -, z, -, -⟩ := hE.2.2.1 (k - 1000) (by omega)
  rw [List.map_cons, show tv g (.ref k) = .ref (gs g (k - 1000)) by rw [← gr_str h1 h2]; rfl]
  exact vk_getf hx hb z hS hown (hts _ (tb_of hq)) (fun _ h => h) hd k9
theorem am_slenB {k : Nat} (h1 : 1000 ≤ k) (h2 : k < 1061) (hd : decode (miC mi) pc = .ok (.arraylength, 1)) (kk : Wm g mi R Q nc ns (pc + 1) ls (.int (nI (sby k).length) :: st) μ) : Wm g mi R Q nc ns pc ls (.ref (k + 2000) :: st) μ := by
  intro p e s m args below meth c C H locs L hR hS hl
  have k9 := kk p e s m args below meth c C H locs L hR hS hl
  obtain ⟨hx, hb, hml, hr, hlk, hown, hts, hex, hE⟩ := C
  obtain ⟨-, -, -, -, z⟩ := hE.2.2.1 (k - 1000) (by omega)
  rw [List.map_cons, show tv g (.ref (k + 2000)) = .ref (gv g (k - 1000)) by rw [← gr_byt h1 h2]; rfl]
  exact va_tlen hx hb z hS rfl hd k9
theorem am_sbald {k : Nat} {i : Int32} (h1 : 1000 ≤ k) (h2 : k < 1061) (hi : vp_in i (sby k).length) (hd : decode (miC mi) pc = .ok (.baload, 1)) (kk : Wm g mi R Q nc ns (pc + 1) ls (.int ((sby k).getD (nx i) 0) :: st) μ) : Wm g mi R Q nc ns pc ls (.int i :: .ref (k + 2000) :: st) μ := by
  intro p e s m args below meth c C H locs L hR hS hl
  have k9 := kk p e s m args below meth c C H locs L hR hS hl
  obtain ⟨hx, hb, hml, hr, hlk, hown, hts, hex, hE⟩ := C
  obtain ⟨-, -, -, -, z⟩ := hE.2.2.1 (k - 1000) (by omega)
  rw [List.map_cons, List.map_cons, show tv g (.ref (k + 2000)) = .ref (gv g (k - 1000)) by rw [← gr_byt h1 h2]; rfl]
  exact va_tb hx hb z hS hi rfl hd k9
theorem am_gcs {idx pl : Nat} (hq : tbAt (pl, .fieldLink (miY mi).cls idx "java/lang/String" "COMPACT_STRINGS" "Z") = true) (hd : decode (miC mi) pc = .ok (.getstatic idx, 3)) (kk : Wm g mi R Q nc ns (pc + 3) ls (.int 1 :: st) μ) : Wm g mi R Q nc ns pc ls st μ := by
  intro p e s m args below meth c C H locs L hR hS hl
  have k9 := kk p e s m args below meth c C H locs L hR hS hl
  obtain ⟨hx, hb, hml, hr, hlk, hown, hts, hex, hE⟩ := C
  exact va_gets hx hb hE.2.2.2.2.2.1 hS hown (hts _ (tb_of hq)) (fun _ h => h) hd k9
theorem am_gsz {idx pl : Nat} (hq : tbAt (pl, .fieldLink (miY mi).cls idx "jdk/internal/util/Preconditions" "SIOOBE_FORMATTER" "Ljava/util/function/BiFunction;") = true) (hd : decode (miC mi) pc = .ok (.getstatic idx, 3)) (kk : Wm g mi R Q nc ns (pc + 3) ls (szv g :: st) μ) : Wm g mi R Q nc ns pc ls st μ := by
  intro p e s m args below meth c C H locs L hR hS hl
  have k9 := kk p e s m args below meth c C H locs L hR hS hl
  obtain ⟨hx, hb, hml, hr, hlk, hown, hts, hex, hE⟩ := C
  rw [List.map_cons, tv_szv] at k9
  exact va_gets hx hb hE.2.2.2.2.2.2.2.2.2.2.2.2.2 hS hown (hts _ (tb_of hq)) (fun _ h => h) hd k9
theorem am_i2c {x : Int32} (hd : decode (miC mi) pc = .ok (.i2c, 1)) (kk : Wm g mi R Q nc ns (pc + 1) ls (.int (x.toUInt32 % 65536).toInt32 :: st) μ) : Wm g mi R Q nc ns pc ls (.int x :: st) μ := fun p e s m args below meth c C H locs L hR hS hl =>
  lv_i2c C.1 C.2.1 hd rfl (kk p e s m args below meth c C H locs L hR hS hl)
end AM7
