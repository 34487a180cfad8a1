/-! arrays -/
def nx (i : Int32) : Nat := i.toNatClampNeg
theorem cE_i {g : Gl} {μ : Mem} {k t : Nat} (h : (sh k).1 = 100 + t) (h1 : t ≠ 1) (h4 : t ≠ 4) : cE g μ k = .inl (gA g t, (sh k).2, .inl (mI μ k)) := by
  unfold cE; rw [h, if_neg (by omega), if_neg (by omega), if_neg (by omega), Nat.add_sub_cancel_left]
theorem cE_l {g : Gl} {μ : Mem} {k : Nat} (h : (sh k).1 = 101) : cE g μ k = .inl (gA g 1, (sh k).2, .inr (.inl (mL μ k))) := by
  unfold cE; rw [h, if_neg (by omega), if_pos rfl]
theorem cE_a {g : Gl} {μ : Mem} {k : Nat} (h : (sh k).1 = 104) : cE g μ k = .inl (gA g 4, (sh k).2, .inr (.inr (.inr (.inr fun i => some (ga g (mP μ i)))))) := by
  unfold cE; rw [h, if_neg (by omega), if_neg (by omega), if_pos rfl]
theorem past_only : ∀ k, k < NC → (sh k).1 = 104 → k = 91 := by decide +kernel
section AM6
variable {g : Gl} {mi : MI} {R : Room} {Q : QT} {nc ns pc : Nat} {ls : List (Nat × Value)} {st : List Value} {μ : Mem}
theorem am_iald {k : Nat} {i : Int32} (hk : k < NC) (hc : (sh k).1 = 100) (hi : vp_in i (sh k).2) (hd : decode (miC mi) pc = .ok (.iaload, 1)) (kk : Wm g mi R Q nc ns (pc + 1) ls (.int (mI μ k (nx i)) :: st) μ) : Wm g mi R Q nc ns pc ls (.int i :: .ref k :: st) μ := by
  intro p e s m args below meth c C H locs L hR hS hl
  exact va_iald C.1 C.2.1 C.2.2.2.2.2.2.2.2.1 hR k 0 (by rw [wd_at hk, cE_i (t := 0) hc (by decide) (by decide)]; rw [gr_lt hk]) rfl hi hd (kk p e s m args below meth c C H locs L hR hS hl)
theorem am_bald {k : Nat} {i : Int32} (hk : k < NC) (hc : (sh k).1 = 102) (hi : vp_in i (sh k).2) (hd : decode (miC mi) pc = .ok (.baload, 1)) (kk : Wm g mi R Q nc ns (pc + 1) ls (.int (mI μ k (nx i)) :: st) μ) : Wm g mi R Q nc ns pc ls (.int i :: .ref k :: st) μ := by
  intro p e s m args below meth c C H locs L hR hS hl
  exact va_bald C.1 C.2.1 C.2.2.2.2.2.2.2.2.1 hR k 2 (by rw [wd_at hk, cE_i (t := 2) hc (by decide) (by decide)]; rw [gr_lt hk]) rfl hi hd (kk p e s m args below meth c C H locs L hR hS hl)
theorem am_zald {k : Nat} {i : Int32} (hk : k < NC) (hc : (sh k).1 = 103) (hi : vp_in i (sh k).2) (hd : decode (miC mi) pc = .ok (.baload, 1)) (kk : Wm g mi R Q nc ns (pc + 1) ls (.int (mI μ k (nx i)) :: st) μ) : Wm g mi R Q nc ns pc ls (.int i :: .ref k :: st) μ := by
  intro p e s m args below meth c C H locs L hR hS hl
  exact va_zald C.1 C.2.1 C.2.2.2.2.2.2.2.2.1 hR k 3 (by rw [wd_at hk, cE_i (t := 3) hc (by decide) (by decide)]; rw [gr_lt hk]) rfl hi hd (kk p e s m args below meth c C H locs L hR hS hl)
theorem am_lald {k : Nat} {i : Int32} (hk : k < NC) (hc : (sh k).1 = 101) (hi : vp_in i (sh k).2) (hd : decode (miC mi) pc = .ok (.laload, 1)) (kk : Wm g mi R Q nc ns (pc + 1) ls (.long (mL μ k (nx i)) :: st) μ) : Wm g mi R Q nc ns pc ls (.int i :: .ref k :: st) μ := by
  intro p e s m args below meth c C H locs L hR hS hl
  exact va_lald C.1 C.2.1 C.2.2.2.2.2.2.2.2.1 hR k 1 (by rw [wd_at hk, cE_l hc]; rw [gr_lt hk]) rfl hi hd (kk p e s m args below meth c C H locs L hR hS hl)
theorem am_aald {k : Nat} {i : Int32} (hk : k < NC) (hc : (sh k).1 = 104) (hi : vp_in i (sh k).2) (hv : mP μ (nx i) < NC) (hd : decode (miC mi) pc = .ok (.aaload, 1)) (kk : Wm g mi R Q nc ns (pc + 1) ls (.ref (mP μ (nx i)) :: st) μ) : Wm g mi R Q nc ns pc ls (.int i :: .ref k :: st) μ := by
  intro p e s m args below meth c C H locs L hR hS hl
  have k9 := kk p e s m args below meth c C H locs L hR hS hl
  rw [List.map_cons, show tv g (.ref (mP μ (nx i))) = .ref (ga g (mP μ (nx i))) by rw [← gr_lt hv]; rfl] at k9
  have ha : (wd g μ)[k]? = some (gr g k, .inl (gA g 4, (sh k).2, .inr (.inr (.inr (.inr fun i => some (ga g (mP μ i))))))) := by rw [wd_at hk, cE_a hc, gr_lt hk]
  exact va_aldq C.1 C.2.1 C.2.2.2.2.2.2.2.2.1 hR k 4 ha rfl hi hd k9
theorem am_sald {i : Int32} (hi : vp_in i (gN g)) (hd : decode (miC mi) pc = .ok (.iaload, 1)) (kk : Wm g mi R Q nc ns (pc + 1) ls (.int (gX g (nx i)) :: st) μ) : Wm g mi R Q nc ns pc ls (.int i :: .ref 2000 :: st) μ := by
  intro p e s m args below meth c C H locs L hR hS hl
  obtain ⟨-, -, -, -, -, -, h7, -, h9, h10, -⟩ := C.2.2.2.2.2.2.2.2
  exact va_sld C.1 C.2.1 h9 (Nat.lt_of_lt_of_le h10 h7) (Nat.not_le.mpr h10) hS hi hd (kk p e s m args below meth c C H locs L hR hS hl)
theorem am_slen (hd : decode (miC mi) pc = .ok (.arraylength, 1)) (kk : Wm g mi R Q nc ns (pc + 1) ls (.int (nI (gN g)) :: st) μ) : Wm g mi R Q nc ns pc ls (.ref 2000 :: st) μ := by
  intro p e s m args below meth c C H locs L hR hS hl
  obtain ⟨-, -, -, -, -, -, h7, -, h9, h10, -⟩ := C.2.2.2.2.2.2.2.2
  exact va_slen C.1 C.2.1 h9 (Nat.lt_of_lt_of_le h10 h7) (Nat.not_le.mpr h10) hS hd (kk p e s m args below meth c C H locs L hR hS hl)
theorem am_len {k : Nat} (hk : k < NC) (hc : 100 ≤ (sh k).1) (hc5 : (sh k).1 < 105) (hd : decode (miC mi) pc = .ok (.arraylength, 1)) (kk : Wm g mi R Q nc ns (pc + 1) ls (.int (nI (sh k).2) :: st) μ) : Wm g mi R Q nc ns pc ls (.ref k :: st) μ := by
  intro p e s m args below meth c C H locs L hR hS hl
  have k9 := kk p e s m args below meth c C H locs L hR hS hl
  have hE := C.2.2.2.2.2.2.2.2
  obtain ⟨t, ht⟩ : ∃ t, (sh k).1 = 100 + t := ⟨(sh k).1 - 100, by omega⟩
  have ht5 : t < 5 := by omega
  match t, ht5, ht with
  | 0, _, ht => exact va_alen (x := ((sh k).2, .inl (mI μ k))) C.1 C.2.1 hE.1 hR k 0 (by rw [wd_at hk, cE_i (t := 0) ht (by decide) (by decide)]; rw [gr_lt hk]) rfl rfl hd k9
  | 1, _, ht => exact va_alen (x := ((sh k).2, .inr (.inl (mL μ k)))) C.1 C.2.1 hE.1 hR k 1 (by rw [wd_at hk, cE_l ht]; rw [gr_lt hk]) rfl rfl hd k9
  | 2, _, ht => exact va_alen (x := ((sh k).2, .inl (mI μ k))) C.1 C.2.1 hE.1 hR k 2 (by rw [wd_at hk, cE_i (t := 2) ht (by decide) (by decide)]; rw [gr_lt hk]) rfl rfl hd k9
  | 3, _, ht => exact va_alen (x := ((sh k).2, .inl (mI μ k))) C.1 C.2.1 hE.1 hR k 3 (by rw [wd_at hk, cE_i (t := 3) ht (by decide) (by decide)]; rw [gr_lt hk]) rfl rfl hd k9
  | 4, _, ht => exact va_alen (x := ((sh k).2, .inr (.inr (.inr (.inr fun i => some (ga g (mP μ i))))))) C.1 C.2.1 hE.1 hR k 4 (by rw [wd_at hk, cE_a ht]; rw [gr_lt hk]) rfl rfl hd k9
theorem cE_setI {μ : Mem} {k i t : Nat} {x : Int32} (hc : (sh k).1 = 100 + t) (h1 : t ≠ 1) (h4 : t ≠ 4) : cE g (sI μ k i x) k = .inl (gA g t, (sh k).2, .inl (upd (mI μ k) i x)) := by
  rw [cE_i hc h1 h4]
  have : mI (sI μ k i x) k = upd (mI μ k) i x := by funext b; exact u2_self
  rw [this]
theorem am_iast {k : Nat} {i x : Int32} (hk : k < NC) (hc : (sh k).1 = 100) (hi : vp_in i (sh k).2) (hd : decode (miC mi) pc = .ok (.iastore, 1)) (kk : Wm g mi R Q nc ns (pc + 1) ls st (sI μ k (nx i) x)) : Wm g mi R Q nc ns pc ls (.int x :: .int i :: .ref k :: st) μ := by
  intro p e s m args below meth c C H locs L hR hS hl
  have hE := C.2.2.2.2.2.2.2.2
  refine va_iast C.1 C.2.1 hE.1 hR (D_wd hE) hS k 0 (by rw [wd_at hk, cE_i (t := 0) hc (by decide) (by decide)]; rw [gr_lt hk]) rfl hi hd fun H1 locs1 hP1 hD1 hS1 => ?_
  rw [wd_set hk (cE_setI (t := 0) hc (by decide) (by decide)) (fun a ha => cE_I ha)] at hP1
  exact kk p e s m args below meth c C H1 locs1 L hP1 hS1 hl
theorem am_bast {k : Nat} {i x : Int32} (hk : k < NC) (hc : (sh k).1 = 102) (hi : vp_in i (sh k).2) (hd : decode (miC mi) pc = .ok (.bastore, 1)) (kk : Wm g mi R Q nc ns (pc + 1) ls st (sI μ k (nx i) x.toInt8.toInt32)) : Wm g mi R Q nc ns pc ls (.int x :: .int i :: .ref k :: st) μ := by
  intro p e s m args below meth c C H locs L hR hS hl
  have hE := C.2.2.2.2.2.2.2.2
  refine va_bast C.1 C.2.1 hE.1 hR (D_wd hE) hS k 2 (by rw [wd_at hk, cE_i (t := 2) hc (by decide) (by decide)]; rw [gr_lt hk]) rfl hi hd fun H1 locs1 hP1 hD1 hS1 => ?_
  rw [vp_nar_byte, wd_set hk (cE_setI (t := 2) hc (by decide) (by decide)) (fun a ha => cE_I ha)] at hP1
  exact kk p e s m args below meth c C H1 locs1 L hP1 hS1 hl
theorem am_zast {k : Nat} {i x : Int32} (hk : k < NC) (hc : (sh k).1 = 103) (hi : vp_in i (sh k).2) (hx : x = 0 ∨ x = 1) (hd : decode (miC mi) pc = .ok (.bastore, 1)) (kk : Wm g mi R Q nc ns (pc + 1) ls st (sI μ k (nx i) x)) : Wm g mi R Q nc ns pc ls (.int x :: .int i :: .ref k :: st) μ := by
  intro p e s m args below meth c C H locs L hR hS hl
  have hE := C.2.2.2.2.2.2.2.2
  have hz : vp_nar .boolean x = x := by rcases hx with rfl | rfl <;> decide +kernel
  refine va_zast C.1 C.2.1 hE.1 hR (D_wd hE) hS k 3 (by rw [wd_at hk, cE_i (t := 3) hc (by decide) (by decide)]; rw [gr_lt hk]) rfl hi hd fun H1 locs1 hP1 hD1 hS1 => ?_
  rw [hz, wd_set hk (cE_setI (t := 3) hc (by decide) (by decide)) (fun a ha => cE_I ha)] at hP1
  exact kk p e s m args below meth c C H1 locs1 L hP1 hS1 hl
theorem am_last {k : Nat} {i : Int32} {x : Int64} (hk : k < NC) (hc : (sh k).1 = 101) (hi : vp_in i (sh k).2) (hd : decode (miC mi) pc = .ok (.lastore, 1)) (kk : Wm g mi R Q nc ns (pc + 1) ls st (sL μ k (nx i) x)) : Wm g mi R Q nc ns pc ls (.long x :: .int i :: .ref k :: st) μ := by
  intro p e s m args below meth c C H locs L hR hS hl
  have hE := C.2.2.2.2.2.2.2.2
  refine va_last C.1 C.2.1 hE.1 hR (D_wd hE) hS k 1 (by rw [wd_at hk, cE_l hc]; rw [gr_lt hk]) rfl hi hd fun H1 locs1 hP1 hD1 hS1 => ?_
  rw [wd_set (μ' := sL μ k (nx i) x) hk ?_ (fun a ha => cE_L ha)] at hP1
  · exact kk p e s m args below meth c C H1 locs1 L hP1 hS1 hl
  · rw [cE_l hc]
    have : mL (sL μ k (nx i) x) k = vp_updL (mL μ k) (nx i) x := by funext b; exact u2_self
    rw [this]; rfl
theorem am_aast {k v : Nat} {i : Int32} (hk : k < NC) (hc : (sh k).1 = 104) (hi : vp_in i (sh k).2) (hv : v < NC) (hs : (sh v).1 = 8) (hd : decode (miC mi) pc = .ok (.aastore, 1)) (kk : Wm g mi R Q nc ns (pc + 1) ls st (sP μ (nx i) v)) : Wm g mi R Q nc ns pc ls (.ref v :: .int i :: .ref k :: st) μ := by
  intro p e s m args below meth c C H locs L hR hS hl
  have hE := C.2.2.2.2.2.2.2.2
  have hv1 : (wd g μ)[v]? = some (gr g v, .inr (8, (List.range (sh v).2).map fun j => fv g μ v j (ftc 8 j))) := by rw [wd_at hv, cE_obj hs (by decide), gr_lt hv]
  refine va_astq C.1 C.2.1 hE.1 hR (D_wd hE) hS k 4 v 8 (r := ("SaidOnce$State", cT8, 8)) (by rw [wd_at hk, cE_a hc]; rw [gr_lt hk]) rfl hv1 rfl hi hd fun H1 locs1 hP1 hD1 hS1 => ?_
  rw [wd_set (μ' := sP μ (nx i) v) hk ?_ ?_] at hP1
  · exact kk p e s m args below meth c C H1 locs1 L hP1 hS1 hl
  · rw [cE_a hc]
    have : (fun j => some (ga g (mP (sP μ (nx i) v) j))) = va_up (fun j => some (ga g (mP μ j))) (nx i) (some (gr g v)) := by
      funext b
      show some (ga g (va_up (mP μ) (nx i) v b)) = _
      unfold va_up
      by_cases h : b = nx i
      · rw [if_pos h, if_pos h, gr_lt hv]
      · rw [if_neg h, if_neg h]
    rw [this]; rfl
  · intro a ha
    have e1 : mI (sP μ (nx i) v) = mI μ := rfl
    have e2 : mL (sP μ (nx i) v) = mL μ := rfl
    by_cases h4 : (sh a).1 = 104
    · by_cases han : a < NC
      · exact absurd ((past_only a han h4).trans (past_only k hk hc).symm) ha
      · exfalso
        have h5 : sh a = (999, 0) ∨ a < 160 := by
          by_cases h : a < 160
          · exact Or.inr h
          · left
            have h10 : SH.length = 10 := by decide +kernel
            have : SH.getD (a / 16) [] = [] := by rw [List.getD_eq_getElem?_getD, List.getElem?_eq_none (by omega)]; rfl
            unfold sh; rw [this]; rfl
        rcases h5 with h5 | h5
        · rw [h5] at h4; cases h4
        · have : ∀ a, a < 160 → ¬ a < NC → (sh a).1 ≠ 104 := by decide +kernel
          exact this a h5 han h4
    · unfold cE fv; rw [e1, e2, if_neg h4, if_neg h4]
end AM6
