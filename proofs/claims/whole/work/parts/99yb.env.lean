/-! what stands at the law's entry, by program (wip/whole/gen_env.py) -/
def NRW : List Cond := flatC (Jvm.Cond.and given_1 narrow_1)
def strT (j : Nat) : Term := .string (STR.getD j ("", 0, "")).1 (STR.getD j ("", 0, "")).2.1
def strC (j : Nat) : List Cond := .exactly (strT j) "java/lang/String" :: .eq (.field (strT j) "java/lang/String" "coder" "B") (.int 0) :: .arrayOf (.field (strT j) "java/lang/String" "value" "[B") .byte :: .eq (.length (.field (strT j) "java/lang/String" "value" "[B")) (.int (Int32.ofNat (SBY.getD j []).length)) :: (List.range (SBY.getD j []).length).map fun i => .eq (.elem (.field (strT j) "java/lang/String" "value" "[B") (.int (Int32.ofNat i))) (.int ((SBY.getD j []).getD i 0))
def PJ : List Nat := [91, 98, 106, 112, 118, 125, 134, 143, 154, 161, 169, 178, 185, 192, 199, 205, 215, 225, 233, 244, 253, 263, 271, 281, 289, 324, 356, 388, 414, 452, 479, 518, 555, 571, 599, 622, 656, 699, 733, 780, 791, 802, 811, 823, 833, 844, 853, 864, 873, 880, 888, 897, 904, 912, 922, 934, 942, 951, 961, 969, 977]
def PL : List Nat := [13209, 14022, 14023, 14033, 14051, 14060, 14070, 14071, 14072, 14073, 14074, 14075, 14076, 14090, 14091, 14099, 14107, 14117, 14119, 14120, 14129, 14134, 14142, 14147, 14200, 14235, 15024, 15048, 15083, 15101, 15102, 15110, 15122, 15135, 15178, 15231, 16119, 16124, 17057, 17207, 17226, 18006, 18011, 18012, 18025, 18034, 18043, 18044, 18049, 18050, 18051, 18052, 18069, 18074, 18083, 18084, 18085, 18086, 18087, 18088, 18089]
set_option maxRecDepth 100000 in
theorem str_at : ∀ j, j < 61 → (NRW.drop (PJ.getD j 0)).take (strC j).length = strC j := by decide +kernel
theorem str_in {j : Nat} (hj : j < 61) {c : Cond} (h : c ∈ strC j) : c ∈ NRW := by
  rw [← str_at j hj] at h
  exact List.mem_of_mem_drop (List.mem_of_mem_take h)
set_option maxRecDepth 100000 in
theorem str_rf : ∀ j, j < 61 → (tbl (PL.getD j 0 / 1000))[PL.getD j 0 % 1000]? = some (.stringRef (STR.getD j ("", 0, "")).1 (STR.getD j ("", 0, "")).2.1 (STR.getD j ("", 0, "")).2.2) := by decide +kernel
theorem exc_in : ∀ a, a < 5 → ∀ b, b < 5 → a ≠ b → Cond.not (.castable (EN a) (EN b)) ∈ NRW := by decide +kernel
theorem cls_in : ∀ (k : Nat) (q : vw_C), cls[k]? = some q → Cond.instantiable q.1 q.2.2 ∈ TB := by
  intro k q h
  match k, h with
  | 0, h => cases h; exact (tb_of (i := 11205) (by decide +kernel))
  | 1, h => cases h; exact (tb_of (i := 12136) (by decide +kernel))
  | 2, h => cases h; exact (tb_of (i := 12005) (by decide +kernel))
  | 3, h => cases h; exact (tb_of (i := 12071) (by decide +kernel))
  | 4, h => cases h; exact (tb_of (i := 11076) (by decide +kernel))
  | 5, h => cases h; exact (tb_of (i := 12109) (by decide +kernel))
  | 6, h => cases h; exact (tb_of (i := 12096) (by decide +kernel))
  | 7, h => cases h; exact (tb_of (i := 11082) (by decide +kernel))
  | 8, h => cases h; exact (tb_of (i := 11155) (by decide +kernel))
  | 9, h => cases h; exact (tb_of (i := 11040) (by decide +kernel))
  | 10, h => cases h; exact (tb_of (i := 11032) (by decide +kernel))
  | 11, h => cases h; exact (tb_of (i := 17063) (by decide +kernel))
  | k + 12, h => simp [cls] at h
theorem lw_of {i : Nat} {w : Cond} (h : (tbl (i / 1000))[i % 1000]? = some w) : w ∈ lw_tbl := tbl_in (List.mem_of_getElem? h)
theorem tb_lw {w : Cond} (h : w ∈ TB) : w ∈ lw_tbl := (List.mem_filter.mp h).1
theorem env_cls {args : Array Value} {s : State} (hts : ∀ w ∈ lw_tbl, w.before args s = true) : ∃ (dC : Nat → ClassId) (dI : Nat → Nat → Nat), ∀ (k : Nat) (q : vw_C), cls[k]? = some q → u_Kn s q.1 q.2.1 q.2.2 (dC k) (dI k) := by
  have hk : ∀ k : Nat, ∃ z : ClassId × (Nat → Nat), ∀ q, cls[k]? = some q → u_Kn s q.1 q.2.1 q.2.2 z.1 z.2 := by
    intro k
    cases h : cls[k]? with
    | none => exact ⟨(0, fun _ => 0), fun q hq => nomatch hq⟩
    | some q =>
      obtain ⟨c, i, hk⟩ := u_known (ws := lw_tbl) (n := q.2.2) hts (fun w hw => tb_lw ((cls_ok h).1 w hw)) (hts _ (tb_lw (cls_in k q h)))
      exact ⟨(c, i), fun q' hq => by cases hq; exact hk⟩
  exact ⟨fun k => (Classical.choose (hk k)).1, fun k => (Classical.choose (hk k)).2, fun k q h => Classical.choose_spec (hk k) q h⟩
theorem env_arr {args : Array Value} {s : State} {ty : FieldType} (h : (Cond.arrayClass ty).before args s = true) (hn : ∀ C, ty ≠ .object C) : ∃ c : ClassId, ArrOfT s c ty ∧ va_RA s c ty := by
  obtain ⟨c, k, comp, h1, h2, h3⟩ := Cond.arrayClass_spec h
  refine ⟨c, fun n z => ⟨fun k h => (by cases h), k, h2, comp, h3⟩, ?_⟩
  cases ty <;> first | exact h1 | exact absurd rfl (hn _)
theorem env_str {b : Nat} {s : State} (hts : ∀ w ∈ lw_tbl, w.before #[Value.ref b] s = true) (hgv : (Jvm.Cond.and given_1 narrow_1).before #[Value.ref b] s = true) (j : Nat) : ∃ q : Nat × Nat, j < 61 → vk_R (STR.getD j ("", 0, "")).1 (STR.getD j ("", 0, "")).2.1 (STR.getD j ("", 0, "")).2.2 q.1 s ∧
    va_O "java/lang/String" q.1 (fun a => s.heap.size ≤ a) s s.heap ∧ va_OF "java/lang/String" "coder" "B" (.int 0) q.1 (fun a => s.heap.size ≤ a) s s.heap ∧ va_OF "java/lang/String" "value" "[B" (.ref q.2) q.1 (fun a => s.heap.size ≤ a) s s.heap ∧
    va_T .byte q.2 (SBY.getD j []).length (fun i => .int ((SBY.getD j []).getD i 0)) (fun a => s.heap.size ≤ a) s s.heap := by
  by_cases hj : j < 61
  · have fl : ∀ c ∈ strC j, c.before #[Value.ref b] s = true := fun c hc => flat_of_before _ hgv c (str_in hj hc)
    have hl : (SBY.getD j []).length < 2 ^ 31 := by
      have : ∀ j, j < 61 → (SBY.getD j []).length < 1000 := by decide +kernel
      have := this j hj
      omega
    obtain ⟨aK, aV, h1, h2⟩ := vk_Sof (args := #[Value.ref b]) (s := s) (N := 1) (tm := fun _ => strT j) (len := [(SBY.getD j []).length]) (byt := [SBY.getD j []]) (A := fun a => s.heap.size ≤ a)
      (fun i hi => by rw [show i = 0 by omega]; exact hl) (fun i _ => fl _ List.mem_cons_self) (fun i _ => fl _ (List.mem_cons_of_mem _ List.mem_cons_self)) (fun i _ => fl _ (List.mem_cons_of_mem _ (List.mem_cons_of_mem _ List.mem_cons_self)))
      (fun i hi => by rw [show i = 0 by omega]; exact fl _ (List.mem_cons_of_mem _ (List.mem_cons_of_mem _ (List.mem_cons_of_mem _ List.mem_cons_self))))
      (fun i hi k hk => by
        rw [show i = 0 by omega] at hk ⊢
        exact fl _ (List.mem_cons_of_mem _ (List.mem_cons_of_mem _ (List.mem_cons_of_mem _ (List.mem_cons_of_mem _ (List.mem_map.mpr ⟨k, List.mem_range.mpr hk, rfl⟩))))))
      (fun i k hi hk hn => absurd (show i = k by omega) hn) (fun a h1 h2 => by omega)
    obtain ⟨a1, a2, a3, a4⟩ := h1.1 0 (by omega)
    exact ⟨(aK 0, aV 0), fun _ => ⟨vk_R.of (hts _ (tbl_in (List.mem_of_getElem? (str_rf j hj)))) (h2 0 (by omega)), a1, a2, a3, a4⟩⟩
  · exact ⟨(0, 0), fun h => absurd h hj⟩
theorem env_ok {s : State} {b L : Nat} {xs : Nat → Int32} (l : Launch) (hflags : l.flags = flags0) (hts : ∀ w ∈ lw_tbl, w.before #[Value.ref b] s = true) (hX : va_X b L xs s s.heap) (hbl : b < s.heap.size) (hgv : (Jvm.Cond.and given_1 narrow_1).before #[Value.ref b] s = true) :
    ∃ g : Gl, gl g = l ∧ GL g ∧ gb g = s.heap.size ∧ gB g = b ∧ gN g = L ∧ gX g = xs ∧ EnvS g s ∧ va_AO "SaidOnce$State" s := by
  have fl : ∀ c ∈ NRW, c.before #[Value.ref b] s = true := flat_of_before _ hgv
  have hA : ∀ a : Nat, a < s.heap.size → ¬ (fun q : Nat => s.heap.size ≤ q) a := fun a h1 h2 => by
    have h2 : s.heap.size ≤ a := h2
    omega
  obtain ⟨dC, dI, hK⟩ := env_cls hts
  obtain ⟨cI, i1, i2⟩ := env_arr (ty := .int) (hts _ (tb_lw (tb_of (i := 11153) (by decide +kernel)))) (fun C h => nomatch h)
  obtain ⟨cJ, j1, j2⟩ := env_arr (ty := .long) (hts _ (tb_lw (tb_of (i := 12040) (by decide +kernel)))) (fun C h => nomatch h)
  obtain ⟨cB, b1, b2⟩ := env_arr (ty := .byte) (hts _ (tb_lw (tb_of (i := 11074) (by decide +kernel)))) (fun C h => nomatch h)
  obtain ⟨cZ, z1, z2⟩ := env_arr (ty := .boolean) (hts _ (tb_lw (tb_of (i := 12041) (by decide +kernel)))) (fun C h => nomatch h)
  have hAO : (Cond.arrayOver (.object "SaidOnce$State")).before #[Value.ref b] s = true := hts _ (tbl_in (k := 12) (List.mem_of_getElem? (i := 162) (by decide +kernel)))
  obtain ⟨comp, cQ, kQ, q1, -, q3, q4, q5⟩ := Cond.arrayOver_spec hAO
  obtain ⟨st, hst⟩ : ∃ st : Nat → Nat × Nat, ∀ j, j < 61 → vk_R (STR.getD j ("", 0, "")).1 (STR.getD j ("", 0, "")).2.1 (STR.getD j ("", 0, "")).2.2 (st j).1 s ∧
    va_O "java/lang/String" (st j).1 (fun a => s.heap.size ≤ a) s s.heap ∧ va_OF "java/lang/String" "coder" "B" (.int 0) (st j).1 (fun a => s.heap.size ≤ a) s s.heap ∧ va_OF "java/lang/String" "value" "[B" (.ref (st j).2) (st j).1 (fun a => s.heap.size ≤ a) s s.heap ∧
    va_T .byte (st j).2 (SBY.getD j []).length (fun i => .int ((SBY.getD j []).getD i 0)) (fun a => s.heap.size ≤ a) s s.heap := ⟨fun j => Classical.choose (env_str hts hgv j), fun j hj => Classical.choose_spec (env_str hts hgv j) hj⟩
  obtain ⟨zz, hzz⟩ : ∃ zz : Option Nat, va_Z "jdk/internal/util/Preconditions" "SIOOBE_FORMATTER" "Ljava/util/function/BiFunction;" (match zz with | none => .null | some t => .ref t) (fun q => s.heap.size ≤ q) s s.heap := by
    rcases va_Zqof (C := "jdk/internal/util/Preconditions") (n := "SIOOBE_FORMATTER") (d := "Ljava/util/function/BiFunction;") (A := fun q => s.heap.size ≤ q) (hts _ (lw_of (i := 13239) (by decide +kernel))) (hts _ (tb_lw (tb_of (i := 11017) (by decide +kernel)))) (fl _ (List.mem_of_getElem? (i := 5) (by decide +kernel))) hA with h | ⟨t, h⟩
    · exact ⟨none, h⟩
    · exact ⟨some t, h⟩
  refine ⟨(l, (dC, dI), (fun t => match t with | 0 => cI | 1 => cJ | 2 => cB | 3 => cZ | _ => cQ), fun k => s.heap.size + k, fun j => (st j).1, fun j => (st j).2, s.heap.size, b, L, xs, zz), rfl, fun _ => rfl, rfl, rfl, rfl, rfl, ?_, va_AO.of hAO⟩
  refine ⟨⟨hK, fun k q hq => ?_⟩, fun w hw => ?_, hst, vx_Zqof (hts _ (lw_of (i := 14184) (by decide +kernel))) (hts _ (tb_lw (tb_of (i := 11019) (by decide +kernel)))) (fl _ (List.mem_of_getElem? (i := 9) (by decide +kernel))) hA,
    vx_Zqof (hts _ (lw_of (i := 14186) (by decide +kernel))) (hts _ (tb_lw (tb_of (i := 11019) (by decide +kernel)))) (fl _ (List.mem_of_getElem? (i := 10) (by decide +kernel))) hA,
    va_Zof (hts _ (lw_of (i := 13223) (by decide +kernel))) (hts _ (tb_lw (tb_of (i := 11015) (by decide +kernel)))) (va_eqi (fl _ (List.mem_of_getElem? (i := 4) (by decide +kernel)))) hA, Nat.le_refl _, ?_, hX, hbl, fun k _ => Nat.le_add_right _ _, fun i j _ _ e => Nat.add_left_cancel e, fun a b' ha hb hn => va_Nc.of (fl _ (exc_in a ha b' hb hn)), ?_⟩
  · match k, hq with
    | 0, hq => cases hq; exact ⟨i1, i2⟩
    | 1, hq => cases hq; exact ⟨j1, j2⟩
    | 2, hq => cases hq; exact ⟨b1, b2⟩
    | 3, hq => cases hq; exact ⟨z1, z2⟩
    | 4, hq => cases hq; exact ⟨fun n z => ⟨fun k h => (by cases h), kQ, q3, comp, q4⟩, kQ, comp, q3, q4, q1, q5⟩
    | k + 5, hq => simp [tysG] at hq
  · have h1 := (List.mem_filter.mp hw).2
    have h2 := hts w (List.mem_filter.mp hw).1
    refine va_Nw.of ?_ h2
    cases w <;> first | rfl | exact absurd h1 (by simp [isNw])
  · show l.stackTraces = false
    unfold Launch.stackTraces
    rw [hflags]
    decide +kernel
  · cases zz with
    | none => exact hzz
    | some t => exact hzz
