/-! the world at the start: what the makers leave -/
def m0 : Mem := (fun _ => 0, fun _ _ => 0, fun _ _ => 0)
def mE9 : Mem := w_Mo (ml 12 0 (w_SO0 m0))
def w0 : WD := (upd (upd (fun _ => 0) 6 2) 8 1, 0)
set_option maxRecDepth 1000000 in
theorem mE9_wv : wv mE9 = w0 := by
  refine Prod.ext ?_ rfl
  funext j
  rfl
theorem w0_0 {j : Nat} (h6 : j ≠ 6) (h8 : j ≠ 8) : w0.1 j = 0 := by
  show upd (upd (fun _ => 0) 6 2) 8 1 j = 0
  rw [upd_n h8, upd_n h6]
theorem w0_pf {p k : Nat} : pf w0 p k = 0 := w0_0 (by omega) (by omega)
theorem bt_0 : ∀ i, i < 32 → bt 0 i = false := by decide +kernel
theorem w0_th : th w0 = 0 := by decide +kernel
theorem w0_pe : pe w0 = 0 := by decide +kernel
theorem w0_ru : ru w0 = 0 := by decide +kernel
theorem w0_lg : lg w0 = 0 := by decide +kernel
theorem w0_li : li w0 = 0 := by decide +kernel
theorem w0_WF : WF w0 := by
  have z0 : nI 0 = 0 := rfl
  refine ⟨⟨⟨0, by omega, w0_0 (by omega) (by omega)⟩, ⟨0, by omega, w0_0 (by omega) (by omega)⟩, ⟨0, by omega, w0_0 (by omega) (by omega)⟩, ⟨0, by omega, w0_0 (by omega) (by omega)⟩, ⟨2, by omega, rfl⟩, ⟨0, by omega, w0_0 (by omega) (by omega)⟩, fun t ht => ⟨0, by omega, w0_0 (by omega) (by omega), fun h => ?_, fun _ => rfl⟩, fun p hp => ?_, fun k hk => ?_, fun t ht q hq hs => ?_, ?_, fun r hr => ?_⟩, Or.inl (w0_0 (by omega) (by omega)), fun h => ?_, fun n hn => ?_⟩
  · rw [w0_th] at h; omega
  · exact ⟨⟨0, by omega, w0_pf⟩, ⟨0, by omega, w0_pf⟩, ⟨0, by omega, w0_pf⟩, ⟨0, by omega, w0_pf⟩, fun i _ hi => by rw [w0_pf]; exact bt_0 i hi, Or.inl w0_pf, fun _ => w0_pf⟩
  · rw [w0_ru] at hk; omega
  · have key : ∀ t, t < 10 → ∀ q, q < 6 → sai w0 t q = false := by decide +kernel
    rw [key t ht q hq] at hs; cases hs
  · rw [w0_lg]; exact Nat.zero_le _
  · rw [w0_lg] at hr; omega
  · rw [w0_0 (by omega) (by omega)] at h; exact absurd h (by decide)
  · rw [w0_li] at hn; omega
theorem w0_DS : DS w0 := fun p q h _ => by rw [w0_pe] at h; omega
theorem mE9_z : ∀ k ∈ [5, 6, 7, 8, 9, 10, 12, 13, 14, 28], ∀ j, j < 60 → mI mE9 k j = 0 := by decide +kernel
theorem mE9_CI : CI mE9 w0 := by
  refine ⟨⟨⟨by decide +kernel, by decide +kernel, by decide +kernel, by decide +kernel, by decide +kernel, fun t ht => ?_, fun p hp => ?_, fun k hk => ?_⟩, ⟨by decide +kernel, by decide +kernel, by decide +kernel, by decide +kernel, fun p hp => ?_, by decide +kernel⟩, ⟨by decide +kernel, by decide +kernel, fun n hn => ?_, fun i hi => ?_⟩, ⟨fun r hr => ?_, fun k hk => ?_⟩⟩, w0_WF⟩
  · rw [w0_0 (by omega) (by omega)]; exact mE9_z 5 (by decide) t (by omega)
  · rw [w0_pf, w0_pf]
    exact ⟨mE9_z 6 (by decide) p (by omega), mE9_z 7 (by decide) p (by omega)⟩
  · rw [w0_0 (by omega) (by omega), w0_0 (by omega) (by omega), w0_0 (by omega) (by omega)]
    exact ⟨mE9_z 8 (by decide) k (by omega), mE9_z 9 (by decide) k (by omega), mE9_z 10 (by decide) k (by omega)⟩
  · rw [w0_pf, w0_pf, w0_pf]
    exact ⟨mE9_z 12 (by decide) p (by omega), mE9_z 13 (by decide) p (by omega), mE9_z 14 (by decide) p (by omega)⟩
  · rw [w0_li] at hn; omega
  · have : cle w0 = 0 := by decide +kernel
    rw [this] at hi; omega
  · rw [w0_lg] at hr; omega
  · exact Or.inl (mE9_z 28 (by decide) k (by omega))
theorem mE9_tape : ∀ i, i < 400 → mI mE9 2 i = 0 ∧ mI mE9 147 i = 0 := by decide +kernel
set_option maxRecDepth 1000000 in
theorem mE9_s : mI mE9 2 = mI mE9 147 := by
  funext j
  rfl
theorem mE9_P : PRM (mP mE9) := by
  have h : ∀ k, k < 12 → mP mE9 k = 92 + 4 * k := by decide +kernel
  refine ⟨fun k hk => ⟨k, hk, h k hk⟩, fun i j hi hj e => ?_⟩
  rw [h i hi, h j hj] at e; omega
theorem mE9_JX : JX mE9 w0 0 0 (fun _ => w0) := by
  refine ⟨mE9_CI, ⟨mE9_wv, w0_WF⟩, w0_DS, ⟨by omega, by decide +kernel, by decide +kernel, by decide +kernel, fun i hi => ?_⟩, Or.inl ⟨by decide +kernel, by decide +kernel⟩, ⟨by omega, by decide +kernel, mE9_P, fun k hk => absurd hk (Nat.not_lt_zero _)⟩, ⟨by decide +kernel, fun k hk => absurd hk (Nat.not_lt_zero _)⟩, ⟨fun k hk => absurd hk (Nat.not_lt_zero _), fun i k _ hk => absurd hk (Nat.not_lt_zero _)⟩, mE9_s⟩
  obtain ⟨a, b⟩ := mE9_tape i hi
  exact ⟨a.trans b.symm, by rw [a]; exact ⟨0, by omega, by decide +kernel⟩⟩
/-! all cells made: the memory is whole -/
theorem RN_Rep {g : Gl} {μ : Mem} {H : Heap} (h : RN g 155 μ H) (hf : ∀ k, k < 155 → (sh k).1 < 100 → ∀ j, j < (sh k).2 → ftc (sh k).1 j = 4 → mI μ k j ≠ 0 ∨ rt k j = none) (hp : ∀ i, i < 12 → mI μ 91 i ≠ 0) : Rep g μ H := by
  intro k q hq
  have hk : k < 155 := by have := (List.getElem?_eq_some_iff.mp hq).1; simpa [wd] using this
  rw [wd_at hk] at hq
  cases hq
  have h9 := h.2.2.1 k _ (wN_at hk)
  by_cases c1 : (sh k).1 < 100
  · have e : cE g μ k = cN g μ k := by
      rw [cE_obj rfl c1, cN_obj rfl c1]
      congr 2
      refine List.map_congr_left fun j hj => ?_
      have hj := List.mem_range.mp hj
      unfold fv fN
      by_cases t1 : ftc (sh k).1 j = 1
      · rw [if_pos t1, if_pos t1]
      · rw [if_neg t1, if_neg t1]
        by_cases t4 : ftc (sh k).1 j = 4
        · rw [if_pos t4, if_pos t4]
          rcases hf k hk c1 j hj t4 with z | z
          · rw [if_neg z]
          · rw [z]; split <;> rfl
        · rw [if_neg t4, if_neg t4]
    rw [e]; exact h9
  · by_cases c2 : (sh k).1 = 101
    · rw [cE_l c2]; rw [cN_l c2] at h9; exact h9
    · by_cases c4 : (sh k).1 = 104
      · have e91 : k = 91 := past_only k hk c4
        have n12 : (sh k).2 = 12 := by rw [e91]; decide +kernel
        rw [cE_a c4]; rw [cN_a c4] at h9
        have h9 : H[ga g k]? = some (vp_cell (gA g 4) ((sh k).2, .inr (.inr (.inr (.inr fun i => if mI μ k i = 0 then none else some (ga g (mP μ i))))))) := h9
        show H[ga g k]? = some (vp_cell (gA g 4) ((sh k).2, .inr (.inr (.inr (.inr fun i => some (ga g (mP μ i)))))))
        rw [h9, vp_cell_q, vp_cell_q]
        unfold arrV
        congr 3
        funext ⟨i, hi⟩
        have hi : i < 12 := by rw [n12] at hi; exact hi
        have z := hp i hi
        rw [← e91] at z
        show va_rf (if mI μ k i = 0 then none else some (ga g (mP μ i))) = _
        rw [if_neg z]
      · unfold cE; unfold cN at h9
        rw [if_neg c1, if_neg c2, if_neg c4]; rw [if_neg c1, if_neg c2, if_neg c4] at h9
        exact h9
theorem mE9_set : ∀ k, k < 155 → (sh k).1 < 100 → ∀ j, j < (sh k).2 → ftc (sh k).1 j = 4 → mI mE9 k j ≠ 0 ∨ rt k j = none := by decide +kernel
theorem mE9_past : ∀ i, i < 12 → mI mE9 91 i ≠ 0 := by decide +kernel
theorem WN.toW {g : Gl} {mi : MI} {R : Room} {Q : QT} {nc ns pc : Nat} {ls : List (Nat × Value)} {st : List Value} (h : Wm g mi R Q nc ns pc ls st mE9) : WN g mi R Q 155 nc ns pc ls st mE9 :=
  fun p e s m args below meth c C _ _ _ H locs L hR hS hl => h p e s m args below meth c C H locs L (RN_Rep hR mE9_set mE9_past) hS hl
theorem m0_Z : Zf 0 m0 := fun _ _ _ => ⟨rfl, rfl⟩
/-! the law's head: both are made -/
set_option maxRecDepth 100000 in
set_option maxHeartbeats 4000000 in
theorem law_head {g : Gl} (hG : GL g) (h : WL g 155 90768 23 [(0, .ref 2000), (1, .ref 0), (2, .ref 140), (3, .ref 154), (4, .int (nI 0))] [] mE9) : WN g i_LAW room_1 (QL g) 0 0 0 0 [(0, .ref 2000)] [] m0 := by
  refine wn_new (idx := 8) (ci := 10) (r := ("SaidOnce", cT10, 10)) hG (by decide) (by decide +kernel) rfl (tb_of (i := 11031) (by decide +kernel)) (tb_of (i := 11032) (by decide +kernel)) (tb_of (i := 11001) (by decide +kernel)) (Nat.le_of_ble_eq_true rfl) (Nat.le_of_ble_eq_true rfl) (by decide +kernel) ?_
  refine wn_dup rfl (by decide +kernel) ?_
  refine wn_call (idx := 126) (dx := 0) (cnt := 0) (k := 0) (As := []) (st := [.ref 0]) (n' := 140) rfl o_N_SO rfl rfl rfl (Or.inl (tb_of (i := 11033) (by decide +kernel))) (tb_of (i := 11034) (by decide +kernel)) (tb_of (i := 11001) (by decide +kernel)) rfl (Nat.le_of_ble_eq_true rfl) ⟨(Nat.le_of_ble_eq_true rfl), (Nat.le_of_ble_eq_true rfl), (Nat.le_of_ble_eq_true rfl), (Nat.le_of_ble_eq_true rfl)⟩ (by decide +kernel) (k_SO hG) ?_
  refine wn_astore_n (i := 1) (a := 0) (by decide) (by decide +kernel) ?_
  refine wn_new (idx := 127) (ci := 11) (r := ("SaidOnceModel", cT11, 27)) hG (by decide) (by decide +kernel) rfl (tb_of (i := 17062) (by decide +kernel)) (tb_of (i := 17063) (by decide +kernel)) (tb_of (i := 11013) (by decide +kernel)) (Nat.le_of_ble_eq_true rfl) (Nat.le_of_ble_eq_true rfl) (by decide +kernel) ?_
  refine wn_dup rfl (by decide +kernel) ?_
  refine wn_call (idx := 129) (dx := 0) (cnt := 0) (k := 140) (As := []) (st := [.ref 140]) (n' := 154) rfl o_N_Mo rfl rfl rfl (Or.inl (tb_of (i := 17064) (by decide +kernel))) (tb_of (i := 17065) (by decide +kernel)) (tb_of (i := 11013) (by decide +kernel)) rfl (Nat.le_of_ble_eq_true rfl) ⟨(Nat.le_of_ble_eq_true rfl), (Nat.le_of_ble_eq_true rfl), (Nat.le_of_ble_eq_true rfl), (Nat.le_of_ble_eq_true rfl)⟩ (by decide +kernel) (k_Mo hG) ?_
  refine wn_astore_n (i := 2) (a := 140) (by decide) (by decide +kernel) ?_
  refine wn_iconst (v := 1) (x := (1 : Int32)) (by decide) (by decide +kernel) ?_
  refine wn_newa (t := 1) (N := 1) hG (by decide) (by decide) (by decide +kernel) (tb_of (i := 12040) (by decide +kernel)) (by decide) (by decide +kernel) (Nat.le_of_ble_eq_true rfl) (Nat.le_of_ble_eq_true rfl) (Nat.le_of_ble_eq_true rfl) (by decide +kernel) ?_
  refine wn_astore_n (i := 3) (a := 154) (by decide) (by decide +kernel) ?_
  refine WN.cast (n' := 155) (nc' := 155) (ns' := 90768) (μ' := mE9) (by decide +kernel) (by decide +kernel) (by decide +kernel) rfl ?_
  refine WN.toW ?_
  refine am_iconst (n := 0) (by decide +kernel) ?_
  refine am_istore (n := 4) (by decide) (by decide +kernel) ?_
  exact h
