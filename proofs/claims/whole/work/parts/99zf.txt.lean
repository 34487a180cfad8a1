/-! the law's cases: undo, image, back, texts (wip/whole/gen_txt.py) -/
theorem zBk_hi (k j : Nat) (h : zBk k j = true) : 140 ≤ k := by
  unfold zBk at h
  simp only [Bool.or_eq_true, Bool.and_eq_true, Nat.beq_eq] at h
  omega
theorem zIm_hi (k j : Nat) (h : zIm k j = true) : 140 ≤ k := by
  unfold zIm at h
  simp only [Bool.or_eq_true, Bool.and_eq_true, Nat.beq_eq] at h
  omega
def zMT (k j : Nat) : Bool := Nat.beq k 141 || (Nat.beq k 143 || (Nat.beq k 140 && (Nat.beq j 0 || (Nat.beq j 6 || (Nat.beq j 8 || (Nat.beq j 12 || (Nat.ble 14 j && Nat.ble j 19 || Nat.beq j 21)))))))
theorem zMs_T {μ μ' : Mem} (e : Lz zMs μ' = Lz zMs μ) : Lz zMT μ' = Lz zMT μ := Lz_up (fun k j h => by
  unfold zMs zSA zSM at h; unfold zMT
  simp only [Bool.or_eq_true, Bool.and_eq_true, Nat.ble_eq, Nat.beq_eq] at h ⊢
  omega) e
theorem zMl_T {μ μ' : Mem} (e : Lz zMl μ' = Lz zMl μ) : Lz zMT μ' = Lz zMT μ := Lz_up (fun k j h => by
  unfold zMl zLA zLM at h; unfold zMT
  simp only [Bool.or_eq_true, Bool.and_eq_true, Nat.ble_eq, Nat.beq_eq] at h ⊢
  omega) e
theorem zMT_hi (k j : Nat) (h : zMT k j = true) : 140 ≤ k := by
  unfold zMT at h
  simp only [Bool.or_eq_true, Bool.and_eq_true, Nat.ble_eq, Nat.beq_eq] at h
  omega
def IM4 (μ : Mem) (w : WD) : Prop := RSet 35 μ w ∧ RSta 42 μ w ∧ RLaw 46 μ w ∧ RLog 53 μ w
theorem bt_no {b : Bool} (h : b = true → False) : b = false := b_no h
theorem HK_1 {Φ : Out → Mem → Prop} {f : Int32 → Int64} {e1 e2 : Nat} {μ : Mem} (h : Φ (.inl (some (.int (nI 1)))) μ) : HK Φ f e1 e2 (.inr e1) μ := by
  show (if e1 = e1 then _ else _); rw [if_pos rfl]; exact h
theorem HK_2 {Φ : Out → Mem → Prop} {f : Int32 → Int64} {e1 e2 : Nat} {μ : Mem} (he : e2 ≠ e1) (h : Φ (.inl (some (.int (nI 2)))) μ) : HK Φ f e1 e2 (.inr e2) μ := by
  show (if e2 = e1 then _ else _); rw [if_neg he, if_pos rfl]; exact h
theorem HK_0 {Φ : Out → Mem → Prop} {f : Int32 → Int64} {e1 e2 : Nat} {μ : Mem} {v : Int32} (h : Φ (.inl (some (.int (nI 0)))) (sL μ 154 (nx (0 : Int32)) (f v))) : HK Φ f e1 e2 (.inl (some (.int v))) μ := h
section TXX
variable {μ μ' μ1 μ2 μ3 : Mem} {w wR v : WD} {n r k : Nat} {V : Nat → WD}
theorem IM4_hi : IM4 (Lz zHi μ) w ↔ IM4 μ w := Iff.rfl
theorem TPE_bk : TPE n (Lz zBk μ) ↔ TPE n μ := Iff.rfl
theorem IMG_bk : IMG (Lz zBk μ) ↔ IMG μ := Iff.rfl
theorem CI_im : CI (Lz zI μ) w ↔ CI μ w := Iff.rfl
theorem TPE_im : TPE n (Lz zI μ) ↔ TPE n μ := Iff.rfl
theorem ACTM_im : ACTM (Lz zI μ) r V ↔ ACTM μ r V := Iff.rfl
theorem TPE_imM : TPE n (Lz zIm μ) ↔ TPE n μ := Iff.rfl
theorem ACTM_imM : ACTM (Lz zIm μ) r V ↔ ACTM μ r V := Iff.rfl
theorem IMG_cs : IMG (Lz zCs μ) ↔ IMG μ := Iff.rfl
theorem IMG_mt : IMG (Lz zMT μ) ↔ IMG μ := Iff.rfl
theorem ACTC_8 {z : Nat → Nat → Bool} (e : Lz z μ' = Lz z μ) (h0 : mI μ' 0 8 = mI μ 0 8) (h : ∀ k j, 92 ≤ k → k ≤ 139 → z k j = false) (a : ACTC μ r V) : ACTC μ' r V := by
  obtain ⟨h1, h2, h3, h4⟩ := a
  unfold ACTC
  rw [h0, rdP e]
  refine ⟨h1, h2, h3, fun k hk => ?_⟩
  obtain ⟨i, i1, i2⟩ := h3.1 k (by omega)
  exact RSta_mem (fun a a1 a2 => rdI e fun j => h a j (by omega) (by omega)) (rdL e fun j => h _ j (by omega) (by omega)) (h4 k hk)
theorem zCs_no (k j : Nat) (h1 : 92 ≤ k) (h2 : k ≤ 139) : zCs k j = false := b_no fun q => by
  unfold zCs at q
  simp only [Bool.or_eq_true, Bool.and_eq_true, Nat.ble_eq, Nat.beq_eq] at q
  omega
theorem hi_no {z : Nat → Nat → Bool} (hz : ∀ k j, z k j = true → 140 ≤ k) (k j : Nat) (h1 : 92 ≤ k) (h2 : k ≤ 139) : z k j = false := b_no fun q => by have := hz k j q; omega
/-- a text's three memories: what else stands -/
theorem txt_c (h : JX μ w n r V) (e1 : Lz zCs μ1 = Lz zCs μ) (eo : Lz zO μ2 = Lz zO μ1) (e3 : Lz zMT μ3 = Lz zMT μ2) (l1 : mI μ1 1 1 = 0) (l3 : mI μ3 140 14 = 0) (fx : mI μ1 1 2 = mI μ3 140 19) : TPE 0 μ3 ∧ IMG μ3 ∧ mI μ3 2 = mI μ3 147 ∧ mI μ3 0 8 = mI μ1 0 8 ∧ mP μ3 = mP μ := by
  have t5 := h.2.2.2.1.2.2.2.2
  have g2 : mI μ3 2 = mI μ 2 := (rdI e3 fun _ => rfl).trans ((rdI eo fun _ => rfl).trans (rdI e1 fun _ => rfl))
  have g147 : mI μ3 147 = mI μ 147 := (rdI e3 fun _ => rfl).trans ((rdI eo fun _ => rfl).trans (rdI e1 fun _ => rfl))
  refine ⟨⟨Nat.zero_le _, (rdI1 e3 rfl).trans ((rdI1 eo rfl).trans l1), l3, ((rdI1 e3 rfl).trans (rdI1 eo rfl)).trans fx, fun i hi => ?_⟩, ?_, ?_, (rdI1 e3 rfl).trans (rdI1 eo rfl), (rdP e3).trans ((rdP eo).trans (rdP e1))⟩
  · rw [g2, g147]; exact t5 i hi
  · refine IMG_mt.mp ?_
    rw [e3]
    refine IMG_mt.mpr (IMG_J (Lz_up zO_J eo) (IMG_cs.mp ?_))
    rw [e1]; exact h.2.2.2.2.1
  · rw [g2, g147]; exact h.2.2.2.2.2.2.2.2
theorem txt_CI (eo : Lz zO μ2 = Lz zO μ1) (e3 : Lz zMT μ3 = Lz zMT μ2) (c : CI μ1 v) : CI μ3 v := CI_hi e3 zMT_hi (CI_hi eo zO_hi c)
/-- a text refused -/
theorem txt_no (h : JX μ w n r V) (e1 : Lz zCs μ1 = Lz zCs μ) (eo : Lz zO μ2 = Lz zO μ1) (e3 : Lz zMT μ3 = Lz zMT μ2) (l1 : mI μ1 1 1 = 0) (l3 : mI μ3 140 14 = 0) (fx : mI μ1 1 2 = mI μ3 140 19) (c1 : CI μ1 w) (r1 : mI μ1 0 8 = mI μ 0 8) (eR : E18 w wR) (mR : MW μ3 wR) (r3 : mI μ3 140 12 = mI μ2 140 12) : J9 μ3 := by
  obtain ⟨k1, k2, k3, k4, k5⟩ := txt_c h e1 eo e3 l1 l3 fx
  obtain ⟨c0, m0, d0, t0, i0, a0, b0, p0, s0⟩ := h
  have a1 : ACTC μ1 r V := ACTC_8 e1 r1 zCs_no a0
  have a2 : ACTC μ2 r V := ACTC_J (Lz_up zO_J eo) a1
  have a3 : ACTC μ3 r V := ACTC_8 e3 (rdI1 e3 rfl) (hi_no zMT_hi) a2
  refine ⟨wR, 0, r, V, txt_CI eo e3 (E_CI eR c1), mR, E_DS eR (wf_pe c0.2.1).2 d0, k1, k2, a3, ⟨?_, ?_⟩, PST_E p0 eR (wf_l60 c0.2.1), k3⟩
  · exact r3.trans ((rdI1 eo rfl).trans ((rdI1 e1 rfl).trans b0.1))
  · have e5 : mI μ3 145 = mI μ 145 := (rdI e3 fun _ => rfl).trans ((rdI eo fun _ => rfl).trans (rdI e1 fun _ => rfl))
    have e6 : mL μ3 146 = mL μ 146 := (rdL e3 fun _ => rfl).trans ((rdL eo fun _ => rfl).trans (rdL e1 fun _ => rfl))
    rw [e5, e6]; exact b0.2
/-- a text taken -/
theorem txt_yes (h : JX μ w n r V) (e1 : Lz zCs μ1 = Lz zCs μ) (eo : Lz zO μ2 = Lz zO μ1) (e3 : Lz zMT μ3 = Lz zMT μ2) (l1 : mI μ1 1 1 = 0) (l3 : mI μ3 140 14 = 0) (fx : mI μ1 1 2 = mI μ3 140 19) (c1 : CI μ1 v) (r1 : mI μ1 0 8 = 0) (mv : MW μ3 v) (dv : DS v) (r3 : mI μ3 140 12 = 0) : J9 μ3 := by
  obtain ⟨k1, k2, k3, k4, k5⟩ := txt_c h e1 eo e3 l1 l3 fx
  refine ⟨v, 0, 0, V, txt_CI eo e3 c1, mv, dv, k1, k2, ⟨Nat.zero_le _, k4.trans r1, by rw [k5]; exact h.2.2.2.2.2.1.2.2.1, fun k hk => absurd hk (Nat.not_lt_zero _)⟩, ⟨r3, fun k hk => absurd hk (Nat.not_lt_zero _)⟩, ⟨fun k hk => absurd hk (Nat.not_lt_zero _), fun i k _ hk => absurd hk (Nat.not_lt_zero _)⟩, k3⟩
end TXX
set_option maxRecDepth 100000 in
set_option maxHeartbeats 4000000 in
theorem J_46 {g : Gl} {nc ns : Nat} {i : Int32} {μ : Mem} (hsc : ScI g i) (h : J9 μ) (h1 : nc ≤ 50000) (h2 : ns ≤ 500000) (hK : ∀ K μ', K ≤ 5 → J9 μ' → WL g (nc + K) (ns + 6 * K) 23 [(0, .ref 2000), (1, .ref 0), (2, .ref 140), (3, .ref 154), (4, .int (i + (6 : Int32)))] [] μ') : WL g nc ns 2912 [(0, .ref 2000), (1, .ref 0), (2, .ref 140), (3, .ref 154), (4, .int i)] [] μ := by
  obtain ⟨w, n, r, V, h⟩ := h
  have ac := h.2.2.2.2.2.1
  have am := h.2.2.2.2.2.2.1
  have tp := h.2.2.2.1
  have p10 := (wf_pe h.1.2.1).2
  refine v_LAW_46 (isT_of (rmL (by decide +kernel) (by omega) (by omega)) (C_image h.1 fun μ1 e1 h9 q1 q2 q3 q4 => oV (isT_of (rmL (by decide +kernel) (by omega) (by omega)) (M_image (MW_z e1 (fun _ => rfl) rfl h.2.1) fun μ3 e3 h11 i1 i2 => oV (hK 0 μ3 (by decide) ⟨w, n, r, V, ?_⟩)))))
  have i4 : IM4 μ3 w := IM4_hi.mp (by rw [show Lz zHi μ3 = Lz zHi μ1 from Lz_up (fun k j h => Nat.ble_eq_true_of_le (zIm_hi k j h)) e3]; exact ⟨q1, q2, q3, q4⟩)
  refine ⟨CI_hi e3 zIm_hi (CI_im.mp (by rw [e1]; exact h.1)), MW_z e3 (fun _ => rfl) rfl (MW_z e1 (fun _ => rfl) rfl h.2.1), h.2.2.1, TPE_imM.mp (by rw [e3]; exact TPE_imM.mpr (TPE_im.mp (by rw [e1]; exact TPE_im.mpr tp))), Or.inr ⟨(rdI1 e3 rfl).trans h9, h11, w, h.1.2, h.2.2.1, i4.1, i4.2.1, i4.2.2.1, i4.2.2.2, i1, i2⟩, ?_, ACTM_imM.mp (by rw [e3]; exact ACTM_imM.mpr (ACTM_im.mp (by rw [e1]; exact ACTM_im.mpr am))), h.2.2.2.2.2.2.2.1, ?_⟩
  · exact ACTC_z e3 rfl (hi_no zIm_hi) (ACTC_z e1 rfl (fun k j h1 h2 => b_no fun q => by
      unfold zI at q
      simp only [Bool.or_eq_true, Bool.and_eq_true, Nat.ble_eq, Nat.beq_eq] at q
      omega) ac)
  · rw [rdI e3 (k := 2) (fun _ => rfl), rdI e3 (k := 147) (fun _ => rfl), rdI e1 (k := 2) (fun _ => rfl), rdI e1 (k := 147) (fun _ => rfl)]; exact h.2.2.2.2.2.2.2.2
set_option maxRecDepth 100000 in
set_option maxHeartbeats 4000000 in
theorem J_45 {g : Gl} {nc ns : Nat} {i : Int32} {μ : Mem} (hsc : ScI g i) (h : J9 μ) (h1 : nc ≤ 50000) (h2 : ns ≤ 500000) (hK : ∀ K μ', K ≤ 5 → J9 μ' → WL g (nc + K) (ns + 6 * K) 23 [(0, .ref 2000), (1, .ref 0), (2, .ref 140), (3, .ref 154), (4, .int (i + (6 : Int32)))] [] μ') : WL g nc ns 2899 [(0, .ref 2000), (1, .ref 0), (2, .ref 140), (3, .ref 154), (4, .int i)] [] μ := by
  obtain ⟨w, n, r, V, h⟩ := h
  have ac := h.2.2.2.2.2.1
  have am := h.2.2.2.2.2.2.1
  have tp := h.2.2.2.1
  have p10 := (wf_pe h.1.2.1).2
  have ps := h.2.2.2.2.2.2.2.1
  have s0 := h.2.2.2.2.2.2.2.2
  cases r with
  | zero => exact v_LAW_45 (isT_of (rmL (by decide +kernel) (by omega) (by omega)) (C_undo0 ac (oI (isT_of (rmL (by decide +kernel) (by omega) (by omega)) (M_undo0 am (oI ⟨fun _ => hK 0 _ (by decide) ⟨w, n, 0, V, JW_0 h⟩, fun hn => absurd rfl hn⟩))))))
  | succ k =>
    obtain ⟨u1, u2, u3⟩ := PST_un ps
    refine v_LAW_45 (isT_of (rmL (by decide +kernel) (by omega) (by omega)) (C_undo h.1 ac ps fun μ1 f1 c1 a1 => oI (isT_of (rmL (by decide +kernel) (by omega) (by omega)) (M_undo (by have := ac.1; omega) (MW_F f1 h.2.1) (ACTM_F f1 am) u1 fun μ3 e3 m3 a3 => oI ⟨fun _ => hK 0 μ3 (by decide) ⟨und (V k) w, n, k, V, ?_⟩, fun hn => absurd rfl hn⟩))))
    refine ⟨CI_hi e3 zBk_hi c1, m3, u2, TPE_bk.mp (by rw [e3]; exact TPE_bk.mpr (TPE_F f1 tp)), IMG_bk.mp (by rw [e3]; exact IMG_bk.mpr (IMG_F f1 h.2.2.2.2.1)), ACTC_z e3 rfl (hi_no zBk_hi) a1, a3, u3, ?_⟩
    rw [rdI e3 (k := 2) (fun _ => rfl), rdI e3 (k := 147) (fun _ => rfl)]
    funext j
    rw [f1.1 2 j rfl, f1.1 147 j rfl, s0]
set_option maxRecDepth 100000 in
set_option maxHeartbeats 4000000 in
theorem J_47 {g : Gl} {nc ns : Nat} {i : Int32} {μ : Mem} (hsc : ScI g i) (h : J9 μ) (h1 : nc ≤ 50000) (h2 : ns ≤ 500000) (hK : ∀ K μ', K ≤ 5 → J9 μ' → WL g (nc + K) (ns + 6 * K) 23 [(0, .ref 2000), (1, .ref 0), (2, .ref 140), (3, .ref 154), (4, .int (i + (6 : Int32)))] [] μ') : WL g nc ns 2923 [(0, .ref 2000), (1, .ref 0), (2, .ref 140), (3, .ref 154), (4, .int i)] [] μ := by
  obtain ⟨w, n, r, V, h⟩ := h
  have ac := h.2.2.2.2.2.1
  have am := h.2.2.2.2.2.2.1
  have tp := h.2.2.2.1
  have p10 := (wf_pe h.1.2.1).2
  have s0 := h.2.2.2.2.2.2.2.2
  rcases h.2.2.2.2.1 with ⟨h9, h11⟩ | ⟨h9, h11, v, hv, dv, q1, q2, q3, q4, i1, i2⟩
  · exact v_LAW_47 (isT_of (rmL (by decide +kernel) (by omega) (by omega)) (C_back0 h9 (oI (isT_of (rmL (by decide +kernel) (by omega) (by omega)) (M_back0 h11 (oI ⟨fun _ => hK 0 _ (by decide) ⟨w, n, r, V, JW_0 h⟩, fun hn => absurd rfl hn⟩))))))
  · refine v_LAW_47 (isT_of (rmL (by decide +kernel) (by omega) (by omega)) (C_back (w := w) (V := V) h9 hv q1 q2 q3 q4 ac.2.2.1 fun μ1 f1 c1 a1 => oI (isT_of (rmL (by decide +kernel) (by omega) (by omega)) (M_back (v := v) ((f1.1 140 11 rfl).trans h11) (MW_F f1 h.2.1) hv (fun k hk => (f1.1 142 k (by unfold zc; rfl)).trans (i1 k hk)) ((f1.2 140 7 rfl).trans i2) fun μ3 e3 m3 r3 => oI ⟨fun _ => hK 0 μ3 (by decide) ⟨bck v w, n, 0, V, ?_⟩, fun hn => absurd rfl hn⟩))))
    refine ⟨CI_hi e3 zBk_hi c1, m3, E_DS bck_E (wf_pe hv.1).2 dv, TPE_bk.mp (by rw [e3]; exact TPE_bk.mpr (TPE_F f1 tp)), IMG_bk.mp (by rw [e3]; exact IMG_bk.mpr (IMG_F f1 h.2.2.2.2.1)), ACTC_z e3 rfl (hi_no zBk_hi) a1, ⟨r3, fun k hk => absurd hk (Nat.not_lt_zero _)⟩, ⟨fun k hk => absurd hk (Nat.not_lt_zero _), fun i k _ hk => absurd hk (Nat.not_lt_zero _)⟩, ?_⟩
    rw [rdI e3 (k := 2) (fun _ => rfl), rdI e3 (k := 147) (fun _ => rfl)]
    funext j
    rw [f1.1 2 j rfl, f1.1 147 j rfl, s0]
set_option maxRecDepth 100000 in
set_option maxHeartbeats 4000000 in
theorem J_2 {g : Gl} {nc ns : Nat} {i : Int32} {μ : Mem} (hsc : ScI g i) (h : J9 μ) (h1 : nc ≤ 50000) (h2 : ns ≤ 500000) (hK : ∀ K μ', K ≤ 5 → J9 μ' → WL g (nc + K) (ns + 6 * K) 23 [(0, .ref 2000), (1, .ref 0), (2, .ref 140), (3, .ref 154), (4, .int (i + (6 : Int32)))] [] μ') : WL g nc ns 350 [(0, .ref 2000), (1, .ref 0), (2, .ref 140), (3, .ref 154), (4, .int i)] [] μ := by
  obtain ⟨w, n, r, V, h⟩ := h
  have ac := h.2.2.2.2.2.1
  have am := h.2.2.2.2.2.2.1
  have tp := h.2.2.2.1
  have p10 := (wf_pe h.1.2.1).2
  obtain ⟨t1, t2, t3, t4, t5⟩ := id tp
  have s0 := h.2.2.2.2.2.2.2.2
  have hd := h.2.2.1
  obtain ⟨m, hm, h3⟩ := h.1.2.1.2.2.2.1
  refine v_LAW_2 (isT_of (rmL (by decide +kernel) (by omega) (by omega)) (L_school (C_school h.1 hd t1 rfl t2 h3 hm fun μ1 e1 l1 => ?_)))
  have m1 : MW μ1 w := MW_z e1 (fun _ => rfl) rfl h.2.1
  have g147 : mI μ1 147 = mI μ 2 := (rdI e1 fun _ => rfl).trans s0.symm
  have g14 : mI μ1 140 14 = nI n := (rdI1 e1 rfl).trans t3
  cases hR : rdS (mI μ 2) n w with
  | inr b =>
    intro c1 r1 f1
    refine HK_1 (oI (isT_of (rmL (by decide +kernel) (by omega) (by omega)) (M_school m1 hd t1 g147 g14 h3 hm fun μ3 e3 l3 => ?_)))
    rw [hR]
    intro wR eR mR r3 f3 k3
    exact oI (tail9 (k := 1) (v := (0 : Int32).toInt64) (by omega) (by omega) (by decide) k3 (fun z => absurd z (by decide)) (hK 1 μ3 (by decide) (txt_no h e1 rfl (zMs_T e3) l1 l3 (f1.trans f3.symm) c1 r1 eR mR r3)))
  | inl x =>
    intro f1
    by_cases hm12 : m = 12
    · rw [if_pos hm12]
      intro c1 r1
      refine HK_2 (by decide) (oI (isT_of (rmL (by decide +kernel) (by omega) (by omega)) (M_school m1 hd t1 g147 g14 h3 hm fun μ3 e3 l3 => ?_)))
      rw [hR]
      intro f3
      rw [if_pos hm12]
      intro wR eR mR r3 k3
      exact oI (tail9 (k := 2) (v := (0 : Int32).toInt64) (by omega) (by omega) (by decide) k3 (fun z => absurd z (by decide)) (hK 1 μ3 (by decide) (txt_no h e1 rfl (zMs_T e3) l1 l3 (f1.trans f3.symm) c1 r1 eR mR r3)))
    · rw [if_neg hm12]
      intro c1 r1
      have eo : Lz zO (sL μ1 154 (nx (0 : Int32)) (fJ (nI (m + 1)))) = Lz zO μ1 := Lz_L rfl
      refine HK_0 (oI (isT_of (rmL (by decide +kernel) (by omega) (by omega)) (M_school (MW_z eo (fun _ => rfl) rfl m1) hd t1 ((rdI eo fun _ => rfl).trans g147) ((rdI1 eo rfl).trans g14) h3 hm fun μ3 e3 l3 => ?_)))
      rw [hR]
      intro f3
      rw [if_neg hm12]
      intro mR r3 k3
      have dx : DS x.1 := (rdS_ok ⟨h.1.2, hd⟩ hR).1.2
      have px : pe x.1 ≤ 10 := (wf_pe (rdS_ok ⟨h.1.2, hd⟩ hR).1.1.1).2
      have dt : DS (txW x.1) := DS_10 px (congrArg nx (show upd x.1.1 3 (x.1.1 3 + 1) 1 = x.1.1 1 from upd_n (by decide))) (fun p c h1 h2 => (show upd x.1.1 3 (x.1.1 3 + 1) (19 + 6 * p + c) = x.1.1 (19 + 6 * p + c) from upd_n (by omega))) dx
      refine oI (tail9 (k := 0) (v := (nI (m + 1)).toInt64) (by omega) (by omega) (by decide) k3 (fun _ => ?_) (hK 1 μ3 (by decide) (txt_yes h e1 eo (zMs_T e3) l1 l3 (f1.trans f3.symm) c1 r1 mR dt r3)))
      refine (rdL1 e3 rfl).trans ?_
      show u2 (mL μ1) 154 (nx (0 : Int32)) (fJ (nI (m + 1))) 154 (nx (0 : Int32)) = _
      rw [u2_self, if_pos rfl]; rfl
set_option maxRecDepth 100000 in
set_option maxHeartbeats 4000000 in
theorem J_3 {g : Gl} {nc ns : Nat} {i : Int32} {μ : Mem} (hsc : ScI g i) (h : J9 μ) (h1 : nc ≤ 50000) (h2 : ns ≤ 500000) (hK : ∀ K μ', K ≤ 5 → J9 μ' → WL g (nc + K) (ns + 6 * K) 23 [(0, .ref 2000), (1, .ref 0), (2, .ref 140), (3, .ref 154), (4, .int (i + (6 : Int32)))] [] μ') : WL g nc ns 394 [(0, .ref 2000), (1, .ref 0), (2, .ref 140), (3, .ref 154), (4, .int i)] [] μ := by
  obtain ⟨w, n, r, V, h⟩ := h
  have ac := h.2.2.2.2.2.1
  have am := h.2.2.2.2.2.2.1
  have tp := h.2.2.2.1
  have p10 := (wf_pe h.1.2.1).2
  obtain ⟨t1, t2, t3, t4, t5⟩ := id tp
  have s0 := h.2.2.2.2.2.2.2.2
  have hd := h.2.2.1
  refine v_LAW_3 (isT_of (rmL (by decide +kernel) (by omega) (by omega)) (L_law (C_law h.1 t1 rfl t2 fun μ1 e1 l1 => ?_)))
  have m1 : MW μ1 w := MW_z e1 (fun _ => rfl) rfl h.2.1
  have g147 : mI μ1 147 = mI μ 2 := (rdI e1 fun _ => rfl).trans s0.symm
  have g14 : mI μ1 140 14 = nI n := (rdI1 e1 rfl).trans t3
  cases hR : rdLw (mI μ 2) n with
  | inr b =>
    intro c1 r1 f1
    refine HK_1 (oI (isT_of (rmL (by decide +kernel) (by omega) (by omega)) (M_law m1 t1 g147 g14 fun μ3 e3 l3 => ?_)))
    rw [hR]
    intro wR eR mR r3 f3 k3
    exact oI (tail9 (k := 1) (v := (0 : Int32).toInt64) (by omega) (by omega) (by decide) k3 (fun z => absurd z (by decide)) (hK 1 μ3 (by decide) (txt_no h e1 rfl (zMl_T e3) l1 l3 (f1.trans f3.symm) c1 r1 eR mR r3)))
  | inl x =>
    intro c1 r1 f1
    have eo : Lz zO (sL μ1 154 (nx (0 : Int32)) (fJ (nI x.1.1.length))) = Lz zO μ1 := Lz_L rfl
    refine HK_0 (oI (isT_of (rmL (by decide +kernel) (by omega) (by omega)) (M_law (MW_z eo (fun _ => rfl) rfl m1) t1 ((rdI eo fun _ => rfl).trans g147) ((rdI1 eo rfl).trans g14) fun μ3 e3 l3 => ?_)))
    rw [hR]
    intro v lv mR f3 r3 k3
    refine oI (tail9 (k := 0) (v := (nI x.1.1.length).toInt64) (by omega) (by omega) (by decide) k3 (fun _ => ?_) (hK 1 μ3 (by decide) (txt_yes h e1 eo (zMl_T e3) l1 l3 (f1.trans f3.symm) (c1 v lv) r1 mR (L_DS lv.1 p10 hd) r3)))
    refine (rdL1 e3 rfl).trans ?_
    show u2 (mL μ1) 154 (nx (0 : Int32)) (fJ (nI x.1.1.length)) 154 (nx (0 : Int32)) = _
    rw [u2_self, if_pos rfl]; rfl
