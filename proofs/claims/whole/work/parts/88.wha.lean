/-! what was said by what all took -/
theorem byt_all : ∀ n, n < 256 → (nI n).toInt8.toInt32 &&& 255 = nI n ∧ (n < 128 → (nI n).toInt8.toInt32 = nI n) ∧ (128 ≤ n → (nI n).toInt8.toInt32 < 0) := by decide +kernel
def okb (w : WD) (y : Int32) : Bool := decide (y < nI (th w)) || decide (y = 255)
def wbQ (w : WD) (f : Nat → Int32) (who t : Nat) (s : Int64) : Nat → Int64
  | 0 => s
  | q + 1 => if cso w f who t q = true then wbQ w f who t s q ||| ((1 : Int64) <<< ((nI (6 * t + q)).toInt64 &&& 63)) else wbQ w f who t s q
def wbT (w : WD) (f : Nat → Int32) (who : Nat) : Nat → Int64
  | 0 => 0
  | t + 1 => wbQ w f who t (wbT w f who t) (wo w t)
def q_what (w : WD) (n : Nat) (f : Nat → Int32) (a : Int32) : Nat × Int64 := match ix (pe w) a with
  | none => (1, 0)
  | some p => if n = pe w ∧ ∀ k, k < n → okb w (f k) = true then (0, wbT w f p (th w)) else (2, 0)
def outRL (e1 e2 : Nat) (r : Nat × Int64) : Out := match r.1 with
  | 0 => .inl (some (.long r.2))
  | 1 => .inr e1
  | _ => .inr e2
def zWt (k j : Nat) : Bool := zT k j || (Nat.beq k 1 && Nat.beq j 1)
def zWm (k j : Nat) : Bool := zLs k j || (Nat.beq k 140 && (Nat.ble 14 j && Nat.ble j 16))
section WHA
variable {g : Gl} {Φ : Out → Mem → Prop} {μ : Mem} {w : WD}
theorem CI_mem {μ' : Mem} (e : ∀ k, 4 ≤ k → k ≤ 28 → mI μ' k = mI μ k) (el : ∀ k, 4 ≤ k → k ≤ 28 → mL μ' k = mL μ k) (c : CI μ w) : CI μ' w := by
  refine ⟨⟨?_, ?_, ?_, ?_⟩, c.2⟩
  · exact RSet_mem (fun k h1 h2 => e k (by omega) (by omega)) c.1.1
  · exact RSta_mem (fun k h1 h2 => e k (by omega) (by omega)) (el _ (by omega) (by omega)) c.1.2.1
  · exact RLaw_mem (congrFun (e 15 (by omega) (by omega)) 0) (congrFun (e 15 (by omega) (by omega)) 5) (fun k h1 h2 => e k (by omega) (by omega)) c.1.2.2.1
  · exact RLog_mem (fun k h1 h2 => e k (by omega) (by omega)) (el _ (by omega) (by omega)) c.1.2.2.2
theorem c_bya {k : Nat} (hk : k < 400) (H : Φ (.inl (some (.int (mI μ 2 k &&& 255)))) μ) : Spec g i_Tape_byteAt 0 [.ref 1, .int (nI k)] μ Φ := by
  refine spi o_Tape_byteAt rfl (v_Tape_byteAt_0 ⟨fun h => absurd h (nI_pos (by omega)), fun _ => ⟨fun h => absurd h (nI_ge (b := 400) hk (by decide)), fun _ => ⟨vp_in_nI hk (by decide), ?_⟩⟩⟩)
  rw [nx_nI (by omega)]; exact H
theorem tld_ov {o : Option Nat} {m : Nat} (hm : m < 256) (ho : ∀ a, o = some a → a < 10) : nI m = tld o ↔ ov o = (if nI m = 255 then -1 else nI m) := by
  cases o with
  | none =>
    show nI m = 255 ↔ (-1 : Int32) = _
    by_cases h : nI m = 255
    · rw [if_pos h]; exact ⟨fun _ => rfl, fun _ => h⟩
    · rw [if_neg h]
      refine ⟨fun q => absurd q h, fun q => absurd (show nI m < 0 by rw [← q]; decide) (nI_pos (by omega))⟩
  | some a =>
    have ha := ho a rfl
    show nI m = nI a ↔ nI a = _
    by_cases h : nI m = 255
    · rw [if_pos h]
      have : m = 255 := nI_inj (by omega) (by omega) h
      refine ⟨fun q => absurd (nI_inj (by omega) (by omega) q) (by omega), fun q => absurd (show nI a < 0 by rw [q]; decide) (nI_pos (by omega))⟩
    · rw [if_neg h]; exact ⟨fun q => q.symm, fun q => q.symm⟩
theorem c_cas (c : CI μ w) {p t q : Nat} (hp : p < 10) (ht : t < th w) (hb : ∀ i, i < 400 → byt (mI μ 2 i)) (H : ∀ μ', Lz zT μ' = Lz zT μ → Φ (.inl (some (.int (b2i (cso w (fun k => mI μ 2 k &&& 255) p t q))))) μ') :
    Spec g i_SO_comesAsTold 0 [.ref 0, .int (nI p), .int (nI t), .int (nI q)] μ Φ := by
  have p10 := ci_p10 c
  have t10 := ci_t10 c
  refine spi o_SO_comesAsTold rfl (v_SO_comesAsTold_0 ?_)
  refine zup (P := fun k => ∀ μ', Lz zT μ' = Lz zT μ → (∀ i, i < k → ¬ i = p → mI μ 2 i &&& 255 = tld (tk0 w p t q i)) → WW g i_SO_comesAsTold 0 Φ 0 0 3 [(0, .ref 0), (1, .int (nI p)), (2, .int (nI t)), (3, .int (nI q)), (4, .int (nI k))] [] μ') (pe w) ?_ ?_ μ rfl (fun i h => absurd h (Nat.not_lt_zero _))
  · intro μ' e hall
    have c' := c.lv (zT_scr e)
    have H := H μ' e
    rw [show cso w (fun k => mI μ 2 k &&& 255) p t q = true from decide_eq_true hall] at H
    refine v_SO_comesAsTold_3 ⟨fun _ => z11 H, fun h => absurd ?_ h⟩
    rw [ci_pe c']; exact nI_le (Nat.le_refl _) (by omega)
  · intro k hk ih μ' e hall
    have c' := c.lv (zT_scr e)
    have e2 : mI μ' 2 = mI μ 2 := rdI e fun _ => rfl
    obtain ⟨m, hm, hx⟩ := hb k (by omega)
    have hxm : mI μ 2 k &&& 255 = nI m := by rw [hx]; exact (byt_all m hm).1
    have nxt : ∀ μ2, Lz zT μ2 = Lz zT μ → (¬ k = p → mI μ 2 k &&& 255 = tld (tk0 w p t q k)) → WW g i_SO_comesAsTold 0 Φ 0 0 3 [(0, .ref 0), (1, .int (nI p)), (2, .int (nI t)), (3, .int (nI q)), (4, .int (nI k + 1))] [] μ2 := fun μ2 e2 hy => by
      rw [← nI_succ]
      refine ih μ2 e2 fun i hi hn => ?_
      by_cases q1 : i = k
      · rw [q1] at hn ⊢; exact hy hn
      · exact hall i (by omega) hn
    have no : ∀ μ2, Lz zT μ2 = Lz zT μ → ¬ k = p → ¬ mI μ 2 k &&& 255 = tld (tk0 w p t q k) → Φ (.inl (some (.int 0))) μ2 := fun μ2 e2 hn hne => by
      have H := H μ2 e2
      rw [show cso w (fun k => mI μ 2 k &&& 255) p t q = false from decide_eq_false fun h => hne (h k hk hn)] at H
      exact H
    have hlt : ∀ a, tk0 w p t q k = some a → a < 10 := fun a ha => by
      have := tk0_lt (by omega) ha; omega
    have key := tld_ov hm hlt
    refine v_SO_comesAsTold_3 ⟨fun h => absurd h (by rw [ci_pe c']; exact nI_ge hk (by omega)), fun _ => c_bya (by omega) (oI ?_)⟩
    rw [e2, hxm]
    rw [hxm] at nxt no
    have ez : ∀ {x : Int32}, nI k = nI p → k = p := fun h => nI_inj (by omega) (by omega) h
    refine ⟨fun h5 => c_bya (by omega) (oI ⟨fun h => nxt μ' e fun hn => absurd (nI_inj (by omega) (by omega) h) hn, fun h => ?_⟩), fun h5 => ⟨fun h => nxt μ' e fun hn => absurd (nI_inj (by omega) (by omega) h) hn, fun h => ?_⟩⟩
    · have hkp : ¬ k = p := fun e => h (by rw [e])
      rw [if_neg h5] at key
      rw [e2, hxm]
      refine c_tNow c' hp ht (by omega) fun μ3 e3 => oI ⟨fun h2 => nxt μ3 (e3.trans e) fun _ => key.mpr h2, fun h2 => z01 (no μ3 (e3.trans e) hkp fun h3 => h2 (key.mp h3))⟩
    · have hkp : ¬ k = p := fun e => h (by rw [e])
      rw [if_pos h5] at key
      refine c_tNow c' hp ht (by omega) fun μ3 e3 => oI ⟨fun h2 => nxt μ3 (e3.trans e) fun _ => key.mpr h2, fun h2 => z01 (no μ3 (e3.trans e) hkp fun h3 => h2 (key.mp h3))⟩
theorem C_what (c : CI μ w) {n : Nat} (hn : n ≤ 400) (h : mI μ 1 1 = nI n) (hb : ∀ i, i < 400 → byt (mI μ 2 i)) {a : Int32} (H : ∀ μ', Lz zWt μ' = Lz zWt μ → mI μ' 1 1 = 0 → CI μ' w → Φ (outRL 2 0 (q_what w n (fun k => mI μ 2 k &&& 255) a)) μ') : Spec g i_SO_what 0 [.ref 0, .int a] μ Φ := by
  have p10 := ci_p10 c
  have t10 := ci_t10 c
  refine spi o_SO_what rfl (v_SO_what_0 (spi o_Tape_useUp rfl (v_Tape_useUp_0 (oI ?_))))
  rw [h]
  have z0 : Lz zWt (sI μ 1 1 0) = Lz zWt μ := Lz_I rfl
  have h0 : mI (sI μ 1 1 0) 1 1 = 0 := by rw [rI_I, if_pos rfl, upd_s]
  have c1 : CI (sI μ 1 1 0) w := CI_mem (fun k h1 h2 => by rw [rI_I, if_neg (by omega)]) (fun k _ _ => rfl) c
  have e2 : mI (sI μ 1 1 0) 2 = mI μ 2 := rfl
  generalize (sI μ 1 1 0) = μ1 at *
  have H : ∀ μ', Lz zT μ' = Lz zT μ1 → Φ (outRL 2 0 (q_what w n (fun k => mI μ 2 k &&& 255) a)) μ' := fun μ' e =>
    H μ' ((Lz_up (fun k j h => by unfold zWt; rw [h]; rfl) e).trans z0) ((rdI1 e rfl).trans h0) (c1.lv (zT_scr e))
  unfold q_what at H
  rcases ix_cs (n := pe w) (by omega) a with ⟨ep, hp⟩ | ⟨p, hp, rfl, ep⟩
  · rw [ep] at H
    exact c_nP1 c1 hp (oVx (H μ1 rfl))
  rw [ep] at H
  dsimp only at H
  refine c_nP0 c1 hp (oV ?_)
  rw [ci_pe c1]
  refine ⟨fun hq => ?_, fun hq => ?_⟩
  · have hnp : n = pe w := nI_inj (by omega) (by omega) hq
    have byt1 : ∀ i, i < 400 → ∃ m, m < 256 ∧ mI μ1 2 i &&& 255 = nI m := fun i hi => by
      obtain ⟨m, hm, hx⟩ := hb i hi
      exact ⟨m, hm, by rw [e2, hx]; exact (byt_all m hm).1⟩
    refine zup (P := fun k => (∀ i, i < k → okb w (mI μ 2 i &&& 255) = true) → WW g i_SO_what 0 Φ 1 6 40 [(0, .ref 0), (1, .int (nI p)), (2, .int (nI n)), (3, .int (nI k))] [] μ1) n ?_ ?_ (fun i h => absurd h (Nat.not_lt_zero _))
    · intro hall
      rw [if_pos ⟨hnp, hall⟩] at H
      refine v_SO_what_40 ⟨fun _ => ?_, fun h => absurd (nI_le (Nat.le_refl _) (by omega)) h⟩
      refine zup (P := fun t => ∀ μ', Lz zT μ' = Lz zT μ1 → WW g i_SO_what 0 Φ 1 6 100 [(0, .ref 0), (1, .int (nI p)), (3, .long (wbT w (fun k => mI μ 2 k &&& 255) p t)), (5, .int (nI t))] [] μ') (th w) ?_ ?_ μ1 rfl
      · intro μ' e
        have c' := c1.lv (zT_scr e)
        refine v_SO_what_100 ⟨fun _ => H μ' e, fun h => absurd ?_ h⟩
        rw [ci_th c']; exact nI_le (Nat.le_refl _) (by omega)
      · intro t ht ih μ' e
        have c' := c1.lv (zT_scr e)
        have hw := wf_wo c.2.1 (show t < 10 by omega)
        refine v_SO_what_100 ⟨fun h => absurd h (by rw [ci_th c']; exact nI_ge ht (by omega)), fun _ => ?_⟩
        have hd : wbT w (fun k => mI μ 2 k &&& 255) p (t + 1) = wbQ w (fun k => mI μ 2 k &&& 255) p t (wbT w (fun k => mI μ 2 k &&& 255) p t) (wo w t) := rfl
        rw [hd] at ih
        generalize wbT w (fun k => mI μ 2 k &&& 255) p t = s at *
        refine zup (P := fun q => ∀ μ', Lz zT μ' = Lz zT μ1 → WW g i_SO_what 0 Φ 1 6 118 [(0, .ref 0), (1, .int (nI p)), (3, .long (wbQ w (fun k => mI μ 2 k &&& 255) p t s q)), (5, .int (nI t)), (6, .int (nI q))] [] μ') (wo w t) ?_ ?_ μ' e
        · intro μ2 e2
          have c2 := c1.lv (zT_scr e2)
          refine v_SO_what_118 ⟨vp_in_nI (by omega) (by decide), fun _ => ?_, fun h => absurd ?_ h⟩
          · rw [← nI_succ]; exact ih μ2 e2
          · rw [nx_nI (by omega), ci_wo c2 (by omega)]; exact nI_le (Nat.le_refl _) (by omega)
        · intro q hq2 ihq μ2 e3
          have c2 := c1.lv (zT_scr e3)
          have e22 : mI μ2 2 = mI μ 2 := (rdI e3 fun _ => rfl).trans e2
          refine v_SO_what_118 ⟨vp_in_nI (by omega) (by decide), fun h => absurd h (by rw [nx_nI (by omega), ci_wo c2 (by omega)]; exact nI_ge hq2 (by omega)), fun _ => c_cas c2 (by omega) ht (by rw [e22]; exact hb) fun μ3 e4 => oI ?_⟩
          rw [e22]
          have ihq := ihq μ3 (e4.trans e3)
          have hdq : wbQ w (fun k => mI μ 2 k &&& 255) p t s (q + 1) = if cso w (fun k => mI μ 2 k &&& 255) p t q = true then wbQ w (fun k => mI μ 2 k &&& 255) p t s q ||| ((1 : Int64) <<< ((nI (6 * t + q)).toInt64 &&& 63)) else wbQ w (fun k => mI μ 2 k &&& 255) p t s q := rfl
          rw [hdq, nI_succ] at ihq
          refine ⟨fun h => ?_, fun h => c_num t q (oI ?_)⟩
          · rw [if_neg (by rw [b2i_0.mp h]; decide)] at ihq; exact ihq
          · rw [if_pos (b2i_n0.mp h)] at ihq; exact ihq
    · intro k hk ih hall
      refine v_SO_what_40 ⟨fun h => absurd h (nI_ge hk (by omega)), fun _ => c_bya (by omega) (oI ?_)⟩
      rw [ci_th c1, e2, ← nI_succ]
      have nxt : okb w (mI μ 2 k &&& 255) = true → WW g i_SO_what 0 Φ 1 6 40 [(0, .ref 0), (1, .int (nI p)), (2, .int (nI n)), (3, .int (nI (k + 1)))] [] μ1 := fun hy => ih fun i hi => by
        by_cases q1 : i = k
        · rw [q1]; exact hy
        · exact hall i (by omega)
      refine ⟨fun h1 => nxt (by unfold okb; rw [decide_eq_true h1]; rfl), fun h1 => ⟨fun h2 => nxt (by unfold okb; rw [decide_eq_true h2]; simp), fun h2 => ?_⟩⟩
      have hno : ¬ (n = pe w ∧ ∀ k, k < n → okb w (mI μ 2 k &&& 255) = true) := fun hx => by
        have := hx.2 k hk
        unfold okb at this
        rw [decide_eq_false h1, decide_eq_false h2] at this; cases this
      rw [if_neg hno] at H
      exact H μ1 rfl
  · have hno : ¬ (n = pe w ∧ ∀ k, k < n → okb w (mI μ 2 k &&& 255) = true) := fun hx => hq (by rw [hx.1])
    rw [if_neg hno] at H
    exact H μ1 rfl
theorem lor0 (x : Int64) : x ||| 0 = x := by
  apply bl_ext; intro i _; rw [bl_or, bl_0]; simp
theorem M_what (m : MW μ w) {n : Nat} (hn : n ≤ 400) (h : mI μ 140 14 = nI n) (hb : ∀ i, i < 400 → byt (mI μ 147 i)) {a : Int32} (H : ∀ μ', Lz zWm μ' = Lz zWm μ → mI μ' 140 14 = 0 → MW μ' w → mI μ' 140 0 = nI (q_what w n (fun k => mI μ 147 k &&& 255) a).1 → Φ (.inl (some (.long (q_what w n (fun k => mI μ 147 k &&& 255) a).2))) μ') : Spec g i_Mo_what 0 [.ref 140, .int a] μ Φ := by
  have p10 := (wf_pe m.2.1).2
  have t10 := (wf_th m.2.1).2
  refine spi o_Mo_what rfl (v_Mo_what_0 (spi o_Mo_uses rfl (v_Mo_uses_0 (oV ?_))))
  rw [h]
  have z0 : Lz zWm (sI (sI (sI (sI μ 140 0 0) 140 16 (nI n)) 140 14 0) 140 15 0) = Lz zWm μ := (Lz_I rfl).trans ((Lz_I rfl).trans ((Lz_I rfl).trans (Lz_I rfl)))
  have h14 : mI (sI (sI (sI (sI μ 140 0 0) 140 16 (nI n)) 140 14 0) 140 15 0) 140 14 = 0 := rfl
  have h16 : mI (sI (sI (sI (sI μ 140 0 0) 140 16 (nI n)) 140 14 0) 140 15 0) 140 16 = nI n := rfl
  have h0 : mI (sI (sI (sI (sI μ 140 0 0) 140 16 (nI n)) 140 14 0) 140 15 0) 140 0 = 0 := rfl
  have h147 : mI (sI (sI (sI (sI μ 140 0 0) 140 16 (nI n)) 140 14 0) 140 15 0) 147 = mI μ 147 := rfl
  have m1 : MW (sI (sI (sI (sI μ 140 0 0) 140 16 (nI n)) 140 14 0) 140 15 0) w := ⟨m.1, m.2⟩
  generalize (sI (sI (sI (sI μ 140 0 0) 140 16 (nI n)) 140 14 0) 140 15 0) = μ1 at *
  have HE : ∀ {c : Nat} {x : Int32}, c = 1 ∨ c = 2 → x = nI c → q_what w n (fun k => mI μ 147 k &&& 255) a = (c, 0) → Φ (.inl (some (.long 0))) (sI μ1 140 0 x) := fun {c} {x} _ hx hq => by
    have := H (sI μ1 140 0 x) ((Lz_I rfl).trans z0) h14 (MW_0 m1) (by rw [rI_I, if_pos rfl, upd_s, hq, hx])
    rw [hq] at this; exact this
  have HO : ∀ μ', Lz zM μ' = Lz zM μ1 → (q_what w n (fun k => mI μ 147 k &&& 255) a).1 = 0 → Φ (.inl (some (.long (q_what w n (fun k => mI μ 147 k &&& 255) a).2))) μ' := fun μ' e hq =>
    H μ' ((Lz_up (fun k j h => by unfold zWm; rw [show zLs k j = true by unfold zLs zW; rw [h]; simp]; rfl) e).trans z0) ((rdI1 e rfl).trans h14) (MW_m m1 e) (by rw [hq, rdI1 e rfl]; exact h0)
  have hq0 : ∀ o, ix (pe w) a = o → q_what w n (fun k => mI μ 147 k &&& 255) a = match o with
    | none => (1, 0)
    | some p => if n = pe w ∧ ∀ k, k < n → okb w (mI μ 147 k &&& 255) = true then (0, wbT w (fun k => mI μ 147 k &&& 255) p (th w)) else (2, 0) := fun o ho => by unfold q_what; rw [ho]
  rcases ix_cs (n := pe w) (by omega) a with ⟨ep, hp⟩ | ⟨p, hp, rfl, ep⟩
  · exact m_nP1 m1 hp (oI (thr1 (oI ⟨fun q => absurd q (by decide), fun _ => HE (Or.inl rfl) (by decide) (hq0 _ ep)⟩)))
  have hq1 := hq0 _ ep
  dsimp only at hq1
  refine m_nP0 m1 hp (oI (thr0 (oI ⟨fun _ => m_pe m1 (oI ?_), fun q => absurd rfl q⟩)))
  rw [h16]
  have bad : ¬ (n = pe w ∧ ∀ k, k < n → okb w (mI μ 147 k &&& 255) = true) → ∀ k, WW g i_Mo_what 0 Φ 0 0 38 [(0, .ref 140), (1, .int (nI p)), (2, .int 0), (3, .int k)] [] μ1 := fun hno k => by
    rw [if_neg hno] at hq1
    have he := HE (c := 2) (x := 2) (Or.inr rfl) (by decide) hq1
    exact v_Mo_what_38 ⟨fun _ => ⟨fun q => absurd rfl q, fun _ => thr1 (oI ⟨fun q => absurd q (by decide), fun _ => he⟩)⟩, fun _ => ⟨fun _ => ⟨fun q => absurd rfl q, fun _ => thr1 (oI ⟨fun q => absurd q (by decide), fun _ => he⟩)⟩, fun q => absurd rfl q⟩⟩
  refine ⟨fun hne => bad (fun hx => hne (by rw [hx.1])) 0, fun heq => ?_⟩
  have hnp : n = pe w := nI_inj (by omega) (by omega) heq
  refine zup (P := fun k => (∀ i, i < k → okb w (mI μ 147 i &&& 255) = true) → WW g i_Mo_what 0 Φ 0 0 38 [(0, .ref 140), (1, .int (nI p)), (2, .int 1), (3, .int (nI k))] [] μ1) n ?_ ?_ (fun i h => absurd h (Nat.not_lt_zero _))
  · intro hall
    rw [if_pos ⟨hnp, hall⟩] at hq1
    rw [hq1] at HO
    refine v_Mo_what_38 ⟨fun _ => ⟨fun _ => thr0 (oI ⟨fun _ => ?_, fun q => absurd rfl q⟩), fun q => absurd q (by decide)⟩, fun q => absurd (by rw [h16]; exact nI_le (Nat.le_refl _) (by omega)) q⟩
    refine zup (P := fun t => ∀ f, WW g i_Mo_what 0 Φ 0 0 115 [(0, .ref 140), (1, .int (nI p)), (3, .long (wbT w (fun k => mI μ 147 k &&& 255) p t)), (5, .int (nI t))] [] (sRI μ1 149 f)) (th w) ?_ ?_ |> fun key => by
      have := key (mI μ1 149); rw [sRI_self] at this; exact this
    · intro f
      exact v_Mo_what_115 (m_th (MW_149 m1 f) (oI ⟨fun _ => HO _ (Lz_RI fun _ => rfl) rfl, fun h => absurd (nI_le (Nat.le_refl _) (by omega)) h⟩))
    · intro t ht ih f
      have w6 := (wf_wo m.2.1 (show t < 10 by omega)).2.1
      refine v_Mo_what_115 (m_th (MW_149 m1 f) (oI ⟨fun h => absurd h (nI_ge ht (by omega)), fun _ => ?_⟩))
      have hd : wbT w (fun k => mI μ 147 k &&& 255) p (t + 1) = wbQ w (fun k => mI μ 147 k &&& 255) p t (wbT w (fun k => mI μ 147 k &&& 255) p t) (wo w t) := rfl
      rw [hd] at ih
      generalize wbT w (fun k => mI μ 147 k &&& 255) p t = s at *
      refine zup (P := fun q => ∀ f, WW g i_Mo_what 0 Φ 0 0 127 [(0, .ref 140), (1, .int (nI p)), (3, .long (wbQ w (fun k => mI μ 147 k &&& 255) p t s q)), (5, .int (nI t)), (6, .int (nI q))] [] (sRI μ1 149 f)) (wo w t) ?_ ?_ f
      · intro f
        refine v_Mo_what_127 (m_wo (MW_149 m1 f) (by omega) (oI ⟨fun _ => ?_, fun h => absurd (nI_le (Nat.le_refl _) (by omega)) h⟩))
        rw [← nI_succ]; exact ih f
      · intro q hq2 ihq f
        have mf := MW_149 m1 f
        refine v_Mo_what_127 (m_wo mf (by omega) (oI ⟨fun h => absurd h (nI_ge hq2 (by omega)), fun _ => m_so (oI (m_cso mf ht (by omega) (by omega) fun f' => oI ?_))⟩))
        rw [sRI_sRI, show mI (sRI μ1 149 f) 147 = mI μ1 147 from rfl, h147]
        have ihq := ihq f'
        have hdq : wbQ w (fun k => mI μ 147 k &&& 255) p t s (q + 1) = if cso w (fun k => mI μ 147 k &&& 255) p t q = true then wbQ w (fun k => mI μ 147 k &&& 255) p t s q ||| ((1 : Int64) <<< ((nI (6 * t + q)).toInt64 &&& 63)) else wbQ w (fun k => mI μ 147 k &&& 255) p t s q := rfl
        rw [hdq, nI_succ] at ihq
        refine ⟨fun h => ?_, fun h => m_so (oI ?_)⟩
        · rw [if_neg (by rw [b2i_0.mp h]; decide)] at ihq
          rw [lor0]; exact ihq
        · rw [if_pos (b2i_n0.mp h)] at ihq; exact ihq
  · intro k hk ih hall
    obtain ⟨x, hx, hxe⟩ := hb k (by omega)
    obtain ⟨b1, b2, b3⟩ := byt_all x hx
    rw [← hxe] at b1 b2 b3
    have nxt : okb w (mI μ 147 k &&& 255) = true → WW g i_Mo_what 0 Φ 0 0 38 [(0, .ref 140), (1, .int (nI p)), (2, .int 1), (3, .int (nI k + 1))] [] μ1 := fun hy => by
      rw [← nI_succ]
      refine ih fun i hi => ?_
      by_cases q1 : i = k
      · rw [q1]; exact hy
      · exact hall i (by omega)
    refine v_Mo_what_38 ⟨fun h => absurd h (by rw [h16]; exact nI_ge hk (by omega)), fun _ => ⟨fun q => absurd q (by decide), fun _ => ⟨vp_in_nI (by omega) (by decide), ?_⟩⟩⟩
    rw [nx_nI (by omega), h147]
    by_cases hlt : x < th w
    · have hxx : mI μ 147 k = nI x := b2 (by omega)
      have hy : okb w (mI μ 147 k &&& 255) = true := by
        unfold okb; rw [b1, decide_eq_true (nI_lt hlt (by omega))]; rfl
      have hy := nxt hy
      rw [hxx]
      exact m_nT0 m1 hlt (oI ⟨fun _ => hy, fun q => absurd rfl q⟩)
    · have hge : mI μ 147 k < 0 ∨ nI (th w) ≤ mI μ 147 k := by
        by_cases q : x < 128
        · rw [b2 q]; exact Or.inr (nI_le (by omega) (by omega))
        · exact Or.inl (b3 (by omega))
      refine m_nT1 m1 hge (oI ⟨fun q => absurd q (by decide), fun _ => ⟨vp_in_nI (by omega) (by decide), ?_⟩⟩)
      rw [h147]
      refine ⟨fun q => bad (fun hx2 => ?_) _, fun q => nxt (by unfold okb; rw [decide_eq_true q]; simp)⟩
      have := hx2.2 k hk
      unfold okb at this
      rw [decide_eq_false q, b1, decide_eq_false (nI_nlt (by omega) (by omega))] at this; cases this
end WHA
