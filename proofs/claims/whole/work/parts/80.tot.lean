/-! the whole state: worlds but for the draft, tape, image, acts -/
def E18 (w v : WD) : Prop := (∀ j, j < 1864 → v.1 j = w.1 j) ∧ v.2 = w.2
theorem E18_rfl {w : WD} : E18 w w := ⟨fun _ _ => rfl, rfl⟩
theorem E18_symm {w v : WD} (h : E18 w v) : E18 v w := ⟨fun j hj => (h.1 j hj).symm, h.2.symm⟩
theorem E18_tr {w v u : WD} (h : E18 w v) (k : E18 v u) : E18 w u := ⟨fun j hj => (k.1 j hj).trans (h.1 j hj), k.2.trans h.2⟩
theorem tyR_cg {cd cd' : Nat → Int32} {s : Nat} : ∀ {n : Nat}, (∀ i, i < n → cd (s + i) = cd' (s + i)) → tyR cd s n = tyR cd' s n := by
  intro n
  induction n with
  | zero => intro _; rfl
  | succ n ih =>
    intro h
    show (tyR cd s n).bind (tyS (cd (s + n))) = (tyR cd' s n).bind (tyS (cd' (s + n)))
    rw [ih (fun i hi => h i (by omega)), h n (by omega)]
section E18X
variable {w v : WD}
theorem E_th (h : E18 w v) : th v = th w := congrArg nx (h.1 0 (by omega))
theorem E_pe (h : E18 w v) : pe v = pe w := congrArg nx (h.1 1 (by omega))
theorem E_ru (h : E18 w v) : ru v = ru w := congrArg nx (h.1 2 (by omega))
theorem E_lg (h : E18 w v) : lg v = lg w := congrArg nx (h.1 7 (by omega))
theorem E_wo (h : E18 w v) {t : Nat} (ht : t < 10) : wo v t = wo w t := congrArg nx (h.1 (9 + t) (by omega))
theorem E_pf (h : E18 w v) {p k : Nat} (hp : p < 10) (hk : k < 6) : pf v p k = pf w p k := h.1 _ (by omega)
theorem E_lw (h : E18 w v) {r c : Nat} (hr : r < 60) (hc : c < 15) : lw v r c = lw w r c := h.1 _ (by omega)
theorem E_ln (h : E18 w v) {n k : Nat} (hn : n < 12) (hk : k < 4) : ln v n k = ln w n k := h.1 _ (by omega)
theorem E_li (h : E18 w v) : li v = li w := by unfold li; rw [h.1 4 (by omega), h.1 1015 (by omega)]
theorem E_cod (h : E18 w v) {i : Nat} (hi : i < 400) : cod v i = cod w i := by unfold cod; rw [h.1 (1064 + 2 * i) (by omega), h.1 (1065 + 2 * i) (by omega)]
theorem E_her (h : E18 w v) {p : Nat} (hp : p < 10) : her v p = her w p := by unfold her; rw [E_pf h hp (by omega)]
theorem E_len (h : E18 w v) {n : Nat} (hn : n < 12) : len v n = len w n := congrArg nx (E_ln h hn (by omega))
theorem E_lst (h : E18 w v) {n : Nat} (hn : n < 12) : lst v n = lst w n := congrArg nx (E_ln h hn (by omega))
theorem li_12 (k : WFl w) : li w ≤ 12 := by
  unfold li
  split
  · rename_i e
    obtain ⟨m, m1, m2⟩ := k.2.1 e
    rw [m2, nx_nI (by omega)]; exact m1
  · omega
theorem E_WFl (h : E18 w v) (k : WFl w) : WFl v := by
  have l12 := li_12 k
  refine ⟨by rw [h.1 4 (by omega)]; exact k.1, by rw [h.1 4 (by omega), h.1 1015 (by omega)]; exact k.2.1, fun n hn => ?_⟩
  rw [E_li h] at hn
  obtain ⟨k1, k2, k3, ⟨e, e1, e2, e3⟩, k5, k6⟩ := k.2.2 n hn
  have hl : len w n = e := by show nx (ln w n 3) = e; rw [e2, nx_nI (by omega)]
  rw [hl] at k5 k6
  rw [E_ln h (n := n) (k := 0) (by omega) (by omega), E_ln h (n := n) (k := 1) (by omega) (by omega), E_ln h (n := n) (k := 2) (by omega) (by omega), E_ln h (n := n) (k := 3) (by omega) (by omega), E_lst h (by omega), E_len h (by omega), hl]
  refine ⟨k1, k2, ?_, ⟨e, e1, e2, e3⟩, ?_, fun i hi => ?_⟩
  · rw [k3]
    by_cases h0 : n = 0
    · rw [if_pos h0, if_pos h0]
    · rw [if_neg h0, if_neg h0, E_ln h (by omega) (by omega)]
  · have key : ∀ m, m ≤ e - lst w n → tyR (cod v) (lst w n) m = tyR (cod w) (lst w n) m := fun m hm => tyR_cg fun i hi => E_cod h (by omega)
    refine ⟨?_, fun m hm => ?_⟩
    · rw [key _ (Nat.le_refl _)]; exact k5.1
    · rw [key m hm]; exact k5.2 m hm
  · rw [h.1 (1064 + 2 * i) (by omega), h.1 (1065 + 2 * i) (by omega)]; exact k6 i hi
theorem E_WFp (h : E18 w v) {p : Nat} (hp : p < 10) (k : WFp w p) : WFp v p := by
  unfold WFp at *
  rw [E_pf h hp (by omega), E_pf h hp (by omega), E_pf h hp (by omega), E_pf h hp (by omega), E_pf h hp (by omega), E_pf h hp (by omega), E_th h, E_pe h]; exact k
theorem E_WFs (h : E18 w v) (k : WFs w) : WFs v := by
  obtain ⟨k1, k2, k3, k4, k5, k6, k7, k8, k9, k10, k11, k12⟩ := k
  have l60 : lg w ≤ 60 := Nat.le_trans k11 (ct_le _ _)
  have r12 : ru w ≤ 12 := by obtain ⟨n, n1, n2⟩ := k3; unfold ru; rw [n2, nx_nI (by omega)]; exact n1
  refine ⟨?_, ?_, ?_, ?_, ?_, ?_, ?_, ?_, ?_, ?_, ?_, ?_⟩
  · rw [h.1 0 (by omega)]; exact k1
  · rw [h.1 1 (by omega)]; exact k2
  · rw [h.1 2 (by omega)]; exact k3
  · rw [h.1 3 (by omega)]; exact k4
  · rw [h.1 6 (by omega)]; exact k5
  · rw [h.1 7 (by omega)]; exact k6
  · intro t ht
    rw [h.1 (9 + t) (by omega), E_th h]; exact k7 t ht
  · exact fun p hp => E_WFp h hp (k8 p hp)
  · intro r hr j hj
    rw [E_ru h] at hr
    rw [h.1 (79 + 3 * r + j) (by omega), E_th h]; exact k9 r hr j hj
  · intro t ht q hq
    unfold sai; rw [h.2, E_wo h ht]; exact k10 t ht q hq
  · rw [h.2, E_lg h]; exact k11
  · intro r hr
    rw [E_lg h] at hr
    obtain ⟨a1, a2, a3, a4, a5⟩ := k12 r hr
    unfold WFr
    rw [E_lw h (by omega) (by omega), E_lw h (by omega) (by omega), E_lw h (by omega) (by omega), E_lw h (by omega) (by omega), E_th h, E_pe h]
    exact ⟨a1, a2, a3, a4, fun p hp => by rw [E_lw h (by omega) (by omega)]; exact a5 p hp⟩
theorem E_WF (h : E18 w v) (k : WF w) : WF v := ⟨E_WFs h k.1, E_WFl h k.2⟩
theorem E_DS (h : E18 w v) (hp : pe w ≤ 10) (k : DS w) : DS v := fun p q h1 h2 => by
  rw [E_pe h] at h1
  rw [E_pf h (by omega) (by omega), E_pf h (by omega) (by omega), E_pf h (by omega) (by omega), E_pf h (by omega) (by omega)]
  exact k p q h1 h2
theorem E_cle (h : E18 w v) (k : WFl w) : cle v = cle w := by
  have := li_12 k
  unfold cle
  rw [E_li h]
  split
  · rfl
  · exact E_len h (by omega)
variable {b : Nat} {μ : Mem}
theorem E_RSet (h : E18 w v) (k : RSet b μ w) : RSet b μ v := by
  obtain ⟨a1, a2, a3, a4, a5, a6, a7, a8⟩ := k
  refine ⟨?_, ?_, ?_, ?_, ?_, fun t ht => ?_, fun p hp => ?_, fun k hk => ?_⟩
  · rw [h.1 0 (by omega)]; exact a1
  · rw [h.1 1 (by omega)]; exact a2
  · rw [h.1 2 (by omega)]; exact a3
  · rw [h.1 6 (by omega)]; exact a4
  · rw [h.1 3 (by omega)]; exact a5
  · rw [h.1 (9 + t) (by omega)]; exact a6 t ht
  · rw [E_pf h hp (by omega), E_pf h hp (by omega)]; exact a7 p hp
  · rw [h.1 (79 + 3 * k) (by omega), h.1 (79 + 3 * k + 1) (by omega), h.1 (79 + 3 * k + 2) (by omega)]; exact a8 k hk
theorem E_RSta (h : E18 w v) (k : RSta b μ w) : RSta b μ v := by
  obtain ⟨a1, a2, a3, a4, a5, a6⟩ := k
  refine ⟨?_, ?_, ?_, ?_, fun p hp => ?_, ?_⟩
  · rw [h.2]; exact a1
  · rw [h.1 5 (by omega)]; exact a2
  · rw [h.1 8 (by omega)]; exact a3
  · rw [h.1 7 (by omega)]; exact a4
  · rw [E_pf h hp (by omega), E_pf h hp (by omega), E_pf h hp (by omega)]; exact a5 p hp
  · rw [a6]; exact msk_cong fun p hp => by rw [E_her h hp]
theorem E_RLaw (h : E18 w v) (hw : WF w) (k : RLaw b μ w) : RLaw b μ v := by
  have l12 := li_12 hw.2
  have c400 := cle_400 hw
  obtain ⟨a1, a2, a3, a4⟩ := k
  refine ⟨?_, ?_, fun n hn => ?_, fun i hi => ?_⟩
  · rw [h.1 4 (by omega), h.1 1015 (by omega)]; exact a1
  · rw [E_cle h hw.2]; exact a2
  · rw [E_li h] at hn
    rw [E_ln h (by omega) (by omega), E_ln h (by omega) (by omega), E_ln h (by omega) (by omega)]; exact a3 n hn
  · rw [E_cle h hw.2] at hi
    rw [E_cod h (by omega)]; exact a4 i hi
theorem E_RLog (h : E18 w v) (hl : lg w ≤ 60) (k : RLog b μ w) : RLog b μ v := by
  refine ⟨fun r hr => ?_, k.2⟩
  rw [E_lg h] at hr ⊢
  obtain ⟨a1, a2, a3, a4, a5, a6⟩ := k.1 r hr
  rw [E_lw h (by omega) (by omega), E_lw h (by omega) (by omega), E_lw h (by omega) (by omega), E_lw h (by omega) (by omega), E_lw h (by omega) (by omega)]
  exact ⟨a1, a2, a3, a4, a5, fun p hp hb => by rw [E_lw h (by omega) (by omega)]; exact a6 p hp hb⟩
theorem E_CI (h : E18 w v) (c : CI μ w) : CI μ v := ⟨⟨E_RSet h c.1.1, E_RSta h c.1.2.1, E_RLaw h c.2 c.1.2.2.1, E_RLog h (wf_l60 c.2.1) c.1.2.2.2⟩, E_WF h c.2⟩
end E18X
/-! tape, image, acts -/
def byt (x : Int32) : Prop := ∃ n, n < 256 ∧ x = (nI n).toInt8.toInt32
def TPE (n : Nat) (μ : Mem) : Prop := n ≤ 400 ∧ mI μ 1 1 = nI n ∧ mI μ 140 14 = nI n ∧ mI μ 1 2 = mI μ 140 19 ∧ ∀ i, i < 400 → mI μ 2 i = mI μ 147 i ∧ byt (mI μ 2 i)
def IMG (μ : Mem) : Prop := (mI μ 0 9 = 0 ∧ mI μ 140 11 = 0) ∨ (mI μ 0 9 = 1 ∧ mI μ 140 11 = 1 ∧ ∃ v, WF v ∧ DS v ∧ RSet 35 μ v ∧ RSta 42 μ v ∧ RLaw 46 μ v ∧ RLog 53 μ v ∧ (∀ k, k < 1864 → mI μ 142 k = v.1 k) ∧ mL μ 140 7 = v.2)
/-- only what acts change is other -/
def suA (v w : WD) : Prop := ∀ j, j < 1864 → j ≠ 5 → j ≠ 7 → j ≠ 8 → ¬ (115 ≤ j ∧ j < 1015) → ¬ (19 ≤ j ∧ j < 79 ∧ ((j - 19) % 6 = 0 ∨ (j - 19) % 6 = 1 ∨ (j - 19) % 6 = 4 ∨ (j - 19) % 6 = 5)) → w.1 j = v.1 j
/-- the log of the one is the elder part of the other's -/
def LGS (v w : WD) : Prop := lg v ≤ lg w ∧ ∀ r, r < lg v → ∀ c, c < 15 → lw v r c = lw w (lg w - lg v + r) c
def PRM (f : Nat → Nat) : Prop := (∀ k, k < 12 → ∃ i, i < 12 ∧ f k = 92 + 4 * i) ∧ ∀ i j, i < 12 → j < 12 → f i = f j → i = j
def ACTC (μ : Mem) (r : Nat) (V : Nat → WD) : Prop := r ≤ 12 ∧ mI μ 0 8 = nI r ∧ PRM (mP μ) ∧ ∀ k, k < r → RSta (mP μ k) μ (V k)
def ACTM (μ : Mem) (r : Nat) (V : Nat → WD) : Prop := mI μ 140 12 = nI r ∧ ∀ k, k < r → (∀ j, j < 1015 → mI μ 145 (1015 * k + j) = (V k).1 j) ∧ mL μ 146 k = (V k).2
def PST (r : Nat) (V : Nat → WD) (w : WD) : Prop := (∀ k, k < r → WF (V k) ∧ DS (V k) ∧ suA (V k) w ∧ LGS (V k) w) ∧ ∀ i k, i ≤ k → k < r → lg (V i) ≤ lg (V k)
def JW (μ : Mem) (w : WD) (n r : Nat) (V : Nat → WD) : Prop := CI μ w ∧ MW μ w ∧ DS w ∧ TPE n μ ∧ IMG μ ∧ ACTC μ r V ∧ ACTM μ r V ∧ PST r V w
def J (μ : Mem) : Prop := ∃ w n r V, JW μ w n r V
/-- what tape, image and acts don't rest on -/
def zJ (k j : Nat) : Bool :=
  (Nat.ble 3 k && Nat.ble k 33) || ((Nat.ble 60 k && Nat.ble k 90) || ((Nat.beq k 1 && Nat.ble 3 j) || (Nat.beq k 141 || ((Nat.ble 143 k && Nat.ble k 144) || (Nat.ble 148 k || (Nat.beq k 140 && (Nat.beq j 0 || (Nat.beq j 6 || (Nat.ble 8 j && Nat.ble j 9 || (Nat.ble 15 j && Nat.ble j 18 || Nat.ble 21 j))))))))))
theorem b_no {b : Bool} (h : b = true → False) : b = false := by
  cases b with
  | false => rfl
  | true => exact (h rfl).elim
theorem zJ_no {k j : Nat} (h : 34 ≤ k ∧ k ≤ 59 ∨ 91 ≤ k ∧ k ≤ 139) : zJ k j = false := b_no fun q => by
  unfold zJ at q
  simp only [Bool.or_eq_true, Bool.and_eq_true, Nat.ble_eq, Nat.beq_eq] at q
  omega
theorem zR_no {a n k j : Nat} (h : ¬ (a ≤ k ∧ k ≤ a + n)) : zR a n k j = false := b_no fun q => by
  unfold zR at q
  simp only [Bool.and_eq_true, Nat.ble_eq] at q
  exact h q
theorem TPE_J {n : Nat} {μ μ' : Mem} (e : Lz zJ μ' = Lz zJ μ) (h : TPE n μ) : TPE n μ' := by
  obtain ⟨h1, h2, h3, h4, h5⟩ := h
  unfold TPE
  rw [rdI1 e (k := 1) (j := 1) rfl, rdI1 e (k := 140) (j := 14) rfl, rdI1 e (k := 1) (j := 2) rfl, rdI1 e (k := 140) (j := 19) rfl, rdI e (k := 2) (fun _ => rfl), rdI e (k := 147) (fun _ => rfl)]
  exact ⟨h1, h2, h3, h4, h5⟩
theorem IMG_J {μ μ' : Mem} (e : Lz zJ μ' = Lz zJ μ) (h : IMG μ) : IMG μ' := by
  unfold IMG
  rw [rdI1 e (k := 0) (j := 9) rfl, rdI1 e (k := 140) (j := 11) rfl, rdI e (k := 142) (fun _ => rfl), rdL1 e (k := 140) (j := 7) rfl]
  refine h.imp id fun ⟨a1, a2, v, v1, v2, v3, v4, v5, v6, v7, v8⟩ => ⟨a1, a2, v, v1, v2, ?_, ?_, ?_, ?_, v7, v8⟩
  · refine RSet_mem (fun k h1 h2 => ?_) v3
    exact rdI e fun j => zJ_no (by omega)
  · refine RSta_mem (fun k h1 h2 => ?_) (rdL e fun j => rfl) v4
    exact rdI e fun j => zJ_no (by omega)
  · refine RLaw_mem (rdI1 e rfl) (rdI1 e rfl) (fun k h1 h2 => ?_) v5
    exact rdI e fun j => zJ_no (by omega)
  · refine RLog_mem (fun k h1 h2 => ?_) (rdL e fun j => rfl) v6
    exact rdI e fun j => zJ_no (by omega)
theorem ACTC_J {μ μ' : Mem} {r : Nat} {V : Nat → WD} (e : Lz zJ μ' = Lz zJ μ) (h : ACTC μ r V) : ACTC μ' r V := by
  obtain ⟨h1, h2, h3, h4⟩ := h
  unfold ACTC
  rw [rdI1 e (k := 0) (j := 8) rfl, rdP e]
  refine ⟨h1, h2, h3, fun k hk => ?_⟩
  obtain ⟨i, i1, i2⟩ := h3.1 k (by omega)
  exact RSta_mem (fun a a1 a2 => rdI e fun j => zJ_no (by omega)) (rdL e fun j => zJ_no (by omega)) (h4 k hk)
theorem ACTM_J {μ μ' : Mem} {r : Nat} {V : Nat → WD} (e : Lz zJ μ' = Lz zJ μ) (h : ACTM μ r V) : ACTM μ' r V := by
  unfold ACTM
  rw [rdI1 e (k := 140) (j := 12) rfl, rdI e (k := 145) (fun _ => rfl), rdL e (k := 146) (fun _ => rfl)]; exact h
