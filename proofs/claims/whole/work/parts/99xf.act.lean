/-! acts through the law's invariant -/
def STP (w u : WD) : Prop := suA w u ∧ LGS w u ∧ (DS w → DS u)
theorem STP_rfl {w : WD} : STP w w := ⟨suA_rfl, LS_rfl, id⟩
theorem STP_tr {w v u : WD} (h : STP w v) (k : STP v u) : STP w u := ⟨suA_tr h.1 k.1, LS_tr h.2.1 k.2.1, fun d => k.2.2 (h.2.2 d)⟩
theorem DS_10 {w v : WD} (hp : pe w ≤ 10) (ep : pe v = pe w) (e : ∀ p c, p < 10 → c < 2 → pf v p c = pf w p c) (h : DS w) : DS v := fun p q h1 h2 => by
  rw [ep] at h1
  rw [e p 0 (by omega) (by omega), e q 0 (by omega) (by omega), e p 1 (by omega) (by omega), e q 1 (by omega) (by omega)]; exact h p q h1 h2
theorem STP_ag {w u : WD} (h : agS w u) (hd : DS w → DS u) : STP w u :=
  ⟨suS_A (agS_su h), ⟨Nat.le_of_eq (agS_lg h).symm, fun r hr c hc => by rw [agS_lg h, Nat.sub_self, Nat.zero_add, agS_lw h]⟩, hd⟩
theorem STP_kn {w : WD} {p : Nat} {x : Int32} (hp : pe w ≤ 10) (hq : p < 10) : STP w (knS w p x) :=
  STP_ag (knS_ag hq) (DS_10 hp (agS_pe (knS_ag hq)) fun r c _ hc => by rw [knS_pf (by omega), if_neg (by omega)])
theorem STP_ab {w : WD} {p : Nat} {d : Bool} (hp : pe w ≤ 10) (hq : p < 10) : STP w (abW w p d) :=
  STP_ag (abW_ag hq) (DS_10 hp (agS_pe (abW_ag hq)) fun r c _ hc => by rw [abW_pf (by omega), if_neg (by omega)])
theorem STP_dy {w : WD} (hp : pe w ≤ 10) : STP w (dyW w) :=
  STP_ag dyW_ag (DS_10 hp (agS_pe dyW_ag) fun r c _ hc => by rw [dyW_pf (by omega), dyK_pf (by omega), if_neg (by omega)])
theorem DS_ne {w : WD} (h : DS w) {a b : Nat} (ha : a < pe w) (hb : b < pe w) (hn : a ≠ b) : ¬ (pf w a 0 = pf w b 0 ∧ pf w a 1 = pf w b 1) := by
  rcases Nat.lt_or_gt_of_ne hn with q | q
  · exact fun e => h b a hb q ⟨e.1.symm, e.2.symm⟩
  · exact h a b ha q
theorem STP_trd {w : WD} {p q : Nat} (hp : pe w ≤ 10) (h1 : p < pe w) (h2 : q < pe w) (hn : p ≠ q) : STP w (trd w p q) := by
  refine STP_ag (trd_ag (by omega) (by omega)) fun d a b ha hb => ?_
  rw [agS_pe (trd_ag (by omega) (by omega))] at ha
  have key : ∀ r k, k < 2 → pf (trd w p q) r k = pf w (if r = p then q else if r = q then p else r) k := by
    intro r k hk
    rw [trd_pf hn (by omega)]
    by_cases e1 : r = p
    · rw [if_pos ⟨e1, hk⟩, if_pos e1]
    · rw [if_neg (fun z => e1 z.1), if_neg e1]
      by_cases e2 : r = q
      · rw [if_pos ⟨e2, hk⟩, if_pos e2]
      · rw [if_neg (fun z => e2 z.1), if_neg e2]
  rw [key a 0 (by omega), key b 0 (by omega), key a 1 (by omega), key b 1 (by omega)]
  refine DS_ne d ?_ ?_ ?_ <;> (repeat' split) <;> omega
theorem STP_dW {w : WD} (hp : pe w ≤ 10) : STP w (dW w) := STP_ag dW_ag (DS_10 hp (agS_pe dW_ag) fun r c _ hc => dW_pf)
theorem STP_say {w : WD} {who t q : Nat} (h : WF w) (hw : who < pe w) (ht : t < th w) (hq : q < wo w t) (hn : sai w t q = false) : STP w (sayW w who t q) := by
  have p10 := (wf_pe h.1).2
  have h60 := (sayW_ok h hw ht hq hn).2.2.2
  have epe : pe (dW (stW w t q)) = pe w := congrArg nx (dW_o (by decide))
  have el := lg_say (who := who) (t := t) (q := q) p10 h.1
  refine ⟨suS_A (suS_say p10), ⟨by omega, fun r hr c hc => ?_⟩, DS_10 p10 (suS_pe (suS_say p10)) fun p c hp hc => ?_⟩
  · rw [el, show lg w + 1 - lg w + r = r + 1 by omega]
    have e1 : lw (sayW w who t q) (r + 1) c = lw (tlW (dW (stW w t q)) who (6 * t + q) (stm (dW (stW w t q)) who)) (r + 1) c := lrn_o (by omega) (by omega) (by omega)
    rw [e1, tlW_lw (by omega) hc]
    exact (dW_o (by omega)).symm
  · have e1 : pf (sayW w who t q) p c = pf (dW (stW w t q)) p c := say1_pf (by rw [epe]; exact p10) hp (by omega) (by omega)
    rw [e1]; exact dW_pf
theorem STP_ts {w : WD} (h : WF w) (hp : 0 < pe w) (ht : 0 < th w) : STP w (tsW w).1 := by
  have p10 := (wf_pe h.1).2
  have h2 := WF_d (WF_d h)
  have ep : pe (dW (dW w)) = pe w := (congrArg nx (dW_o (by decide))).trans (congrArg nx (dW_o (by decide)))
  have et : th (dW (dW w)) = th w := (congrArg nx (dW_o (by decide))).trans (congrArg nx (dW_o (by decide)))
  have ep1 : pe (dW w) = pe w := congrArg nx (dW_o (by decide))
  have s2 : STP w (dW (dW w)) := STP_tr (STP_dW p10) (STP_dW (by rw [ep1]; exact p10))
  unfold tsW
  dsimp only
  split
  · rename_i hc
    have hwho : drw ((dW w).1 8) % pe w < pe w := Nat.mod_lt _ hp
    have hth : drw ((dW (dW w)).1 8) % th w < th w := Nat.mod_lt _ ht
    obtain ⟨c1, c2⟩ := lef_is hc.1
    exact STP_tr s2 (STP_say h2 (by rw [ep]; exact hwho) (by rw [et]; exact hth) c1 c2)
  · exact s2
theorem STP_trm {w : WD} (h : WF w) (hp : 0 < pe w) (ht : 0 < th w) (n : Nat) : STP w (trW w n).1 := by
  induction n with
  | zero => exact STP_rfl
  | succ n ih =>
    obtain ⟨i1, i2, -, -⟩ := trW_ok h hp ht n
    have hp' : 0 < pe (trW w n).1 := by rw [suS_pe i2]; exact hp
    have ht' : 0 < th (trW w n).1 := by rw [suS_th i2]; exact ht
    have s := STP_ts i1 hp' ht'
    rw [trW_s]
    generalize (trW w n) = u at *
    generalize tsW u.1 = v at *
    exact STP_tr ih s
theorem STP_tm {w : WD} (h : WF w) (n : Nat) : STP w (tmW w n).1 := by
  unfold tmW; split
  · rename_i q; exact STP_trm h q.1 q.2 n
  · exact STP_rfl
/-- an act's answer is of a kind, its world a step on -/
def ACK (b : Nat) (w : WD) (x : AR) : Prop := x.1.1 ≤ b ∧ ∀ w', x.2 = some w' → STP w w'
theorem gda_K {n c b : Nat} {w : WD} {x : Int32} {k : Nat → AR} (hn : n < 2 ^ 31) (hc : c ≤ b) (hk : ∀ j, j < n → ACK b w (k j)) : ACK b w (gda n x c k) := by
  rcases ix_cs hn x with ⟨e, -⟩ | ⟨j, hj, -, e⟩
  · rw [gda_n e]; exact ⟨hc, fun w' h => nomatch h⟩
  · rw [gda_s e]; exact hk j hj
theorem ACK_n {b c : Nat} {w : WD} {v : Int32} (h : c ≤ b) : ACK b w ((c, v), none) := ⟨h, fun w' h => nomatch h⟩
theorem ACK_s {b c : Nat} {w u : WD} {v : Int32} (h : c ≤ b) (s : STP w u) : ACK b w ((c, v), some u) := ⟨h, fun w' h => by cases h; exact s⟩
section AKS
variable {w : WD}
theorem k_say (h : WF w) {a b c : Int32} : ACK 2 w (a_say w a b c) := by
  have p10 := (wf_pe h.1).2
  have t10 := (wf_th h.1).2
  unfold a_say
  refine gda_K (by omega) (by decide) fun p hp => gda_K (by omega) (by decide) fun t ht => gda_K ?_ (by decide) fun q hq => ?_
  · have := (wf_wo h.1 (t := t) (by omega)).2.1; omega
  · split
    · rename_i z
      simp only [Bool.and_eq_true, Bool.not_eq_true'] at z
      exact ACK_s (by decide) (STP_say h hp ht hq z.2.2)
    · exact ACK_n (by decide)
theorem k_think (h : WF w) {a : Int32} : ACK 1 w (a_think w a) := by
  have p10 := (wf_pe h.1).2
  unfold a_think
  exact gda_K (by omega) (by decide) fun p hp => ACK_s (by decide) (STP_kn p10 (by omega))
theorem k_away (h : WF w) {a : Int32} {d : Bool} : ACK 1 w (a_away w a d) := by
  have p10 := (wf_pe h.1).2
  unfold a_away
  exact gda_K (by omega) (by decide) fun p hp => ACK_s (by decide) (STP_ab p10 (by omega))
theorem k_change (h : WF w) {a b : Int32} : ACK 2 w (a_change w a b) := by
  have p10 := (wf_pe h.1).2
  unfold a_change
  refine gda_K (by omega) (by decide) fun p hp => gda_K (by omega) (by decide) fun q hq => ?_
  by_cases e : p = q
  · rw [if_pos e]; exact ACK_n (by decide)
  · rw [if_neg e]; exact ACK_s (by decide) (STP_trd p10 hp hq e)
theorem k_day (h : WF w) : ACK 0 w (a_day w) := ACK_s (by decide) (STP_dy (wf_pe h.1).2)
theorem k_term (h : WF w) {a : Int32} : ACK 1 w (a_term w a) := by
  unfold a_term
  exact gda_K (by omega) (by decide) fun n hn => ACK_s (by decide) (STP_tm h n)
end AKS
/-- a memory without what the class's acts write, and without the row of the past -/
def Mz (μ : Mem) : Mem := ((fun _ => 0), (fun k j => bif zc k j then 0 else mI μ k j), fun k j => bif zc k j then 0 else mL μ k j)
theorem Mz_F {μ' μ : Mem} (f : FrC μ' μ) : Mz μ' = Mz μ := by
  unfold Mz
  refine Prod.ext rfl (Prod.ext ?_ ?_) <;> funext k j
  · show (bif zc k j then 0 else mI μ' k j) = bif zc k j then 0 else mI μ k j
    cases h : zc k j with
    | true => rfl
    | false => exact f.1 k j h
  · show (bif zc k j then 0 else mL μ' k j) = bif zc k j then 0 else mL μ k j
    cases h : zc k j with
    | true => rfl
    | false => exact f.2 k j h
theorem zE_hi (k j : Nat) (h : zE k j = true) : 140 ≤ k := by
  unfold zE zLs zW zM zK zB at h
  simp only [Bool.or_eq_true, Bool.and_eq_true, Nat.ble_eq, Nat.beq_eq] at h
  omega
theorem zO_J (k j : Nat) (h : zO k j = true) : zJ k j = true := by
  unfold zO at h; unfold zJ
  simp only [Bool.or_eq_true, Bool.and_eq_true, Nat.ble_eq, Nat.beq_eq] at h ⊢
  omega
theorem zO_hi (k j : Nat) (h : zO k j = true) : 140 ≤ k := by
  unfold zO at h
  simp only [Nat.beq_eq] at h
  omega
section FRX
variable {μ μ' : Mem} {w : WD} {n r : Nat} {V : Nat → WD}
theorem TPE_mz : TPE n (Mz μ) ↔ TPE n μ := Iff.rfl
theorem IMG_mz : IMG (Mz μ) ↔ IMG μ := Iff.rfl
theorem ACTM_mz : ACTM (Mz μ) r V ↔ ACTM μ r V := Iff.rfl
theorem MW_mz : MW (Mz μ) w ↔ MW μ w := Iff.rfl
theorem TPE_F (f : FrC μ' μ) (h : TPE n μ) : TPE n μ' := TPE_mz.mp (by rw [Mz_F f]; exact h)
theorem IMG_F (f : FrC μ' μ) (h : IMG μ) : IMG μ' := IMG_mz.mp (by rw [Mz_F f]; exact h)
theorem ACTM_F (f : FrC μ' μ) (h : ACTM μ r V) : ACTM μ' r V := ACTM_mz.mp (by rw [Mz_F f]; exact h)
theorem MW_F (f : FrC μ' μ) (h : MW μ w) : MW μ' w := MW_mz.mp (by rw [Mz_F f]; exact h)
theorem TPE_lE : TPE n (Lz zE μ) ↔ TPE n μ := Iff.rfl
theorem IMG_lE : IMG (Lz zE μ) ↔ IMG μ := Iff.rfl
theorem TPE_E (e : Lz zE μ' = Lz zE μ) (h : TPE n μ) : TPE n μ' := TPE_lE.mp (by rw [e]; exact h)
theorem IMG_E (e : Lz zE μ' = Lz zE μ) (h : IMG μ) : IMG μ' := IMG_lE.mp (by rw [e]; exact h)
theorem ACTC_E (e : Lz zE μ' = Lz zE μ) (a : ACTC μ r V) : ACTC μ' r V := ACTC_z e rfl (fun k j h1 h2 => b_no fun q => by have := zE_hi k j q; omega) a
/-- behind the class's act, behind the reference's -/
def HCa (μ : Mem) (w : WD) (r : Nat) (V : Nat → WD) (x : Option WD) : Prop := match x with
  | none => CI μ w ∧ ACTC μ r V
  | some w' => CI μ w' ∧ ACTC μ (nr r) (nV r V w)
def HMa (μ : Mem) (w : WD) (r : Nat) (V : Nat → WD) (x : Option WD) : Prop := match x with
  | none => MW μ w ∧ ACTM μ r V
  | some w' => MW μ w' ∧ ACTM μ (nr r) (nV r V w)
theorem act_J {x : AR} {b : Nat} {μ1 μ2 μ3 : Mem} (h : JX μ w n r V) (hx : ACK b w x) (f1 : FrC μ1 μ) (hC : HCa μ1 w r V x.2) (eo : Lz zO μ2 = Lz zO μ1) (e3 : Lz zE μ3 = Lz zE μ2) (hM : HMa μ3 w r V x.2) : J9 μ3 := by
  obtain ⟨c0, m0, d0, t0, i0, a0, b0, p0, s0⟩ := h
  have eJ : Lz zJ μ2 = Lz zJ μ1 := Lz_up zO_J eo
  have t3 : TPE n μ3 := TPE_E e3 (TPE_J eJ (TPE_F f1 t0))
  have i3 : IMG μ3 := IMG_E e3 (IMG_J eJ (IMG_F f1 i0))
  have s3 : mI μ3 2 = mI μ3 147 := by
    rw [rdI e3 (k := 2) (fun _ => rfl), rdI e3 (k := 147) (fun _ => rfl), rdI eJ (k := 2) (fun _ => rfl), rdI eJ (k := 147) (fun _ => rfl)]
    funext j
    rw [f1.1 2 j rfl, f1.1 147 j rfl, s0]
  obtain ⟨q, y⟩ := x
  cases y with
  | none => exact ⟨w, n, r, V, CI_hi e3 zE_hi (CI_hi eo zO_hi hC.1), hM.1, d0, t3, i3, ACTC_E e3 (ACTC_J eJ hC.2), hM.2, p0, s3⟩
  | some w' =>
    have s := hx.2 w' rfl
    exact ⟨w', n, nr r, nV r V w, CI_hi e3 zE_hi (CI_hi eo zO_hi hC.1), hM.1, s.2.2 d0, t3, i3, ACTC_E e3 (ACTC_J eJ hC.2), hM.2, PST_nr a0.1 p0 m0.2 d0 s.1 s.2.1, s3⟩
theorem EC_HK {Φ : Out → Mem → Prop} {f : Int32 → Int64} {e1 e2 : Nat} {x : AR} (he : e2 ≠ e1) (hq : x.1.1 ≤ 2) (H : ∀ μ', FrC μ' μ → HCa μ' w r V x.2 → Φ (.inl (some (.int (nI x.1.1)))) (outm f x.1 μ')) : EC (HK Φ f e1 e2) μ w r V e1 e2 x := fun μ' fr hc => HK_out he hq (H μ' fr hc)
theorem EC_HK1 {Φ : Out → Mem → Prop} {f : Int32 → Int64} {e1 e2 e3 : Nat} {x : AR} (hq : x.1.1 ≤ 1) (H : ∀ μ', FrC μ' μ → HCa μ' w r V x.2 → Φ (.inl (some (.int (nI x.1.1)))) (outm f x.1 μ')) : EC (HK Φ f e1 e3) μ w r V e1 e2 x := fun μ' fr hc => HK_out1 hq (H μ' fr hc)
theorem outm_O {f : Int32 → Int64} {q : Nat × Int32} : Lz zO (outm f q μ) = Lz zO μ := by
  unfold outm
  split
  · exact Lz_L rfl
  · rfl
end FRX
