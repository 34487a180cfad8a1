/-! contracts of School: speak, terms -/
theorem zT_N {μ μ' : Mem} (e : Lz zT μ' = Lz zT μ) : Lz zN μ' = Lz zN μ := Lz_up (fun k j h => by
  unfold zT at h; unfold zN
  simp only [Bool.or_eq_true, Bool.and_eq_true] at h ⊢
  rcases h with ⟨h1, h2⟩ | ⟨h1, -⟩
  · exact ⟨Nat.ble_eq_true_of_le (Nat.le_trans (by decide) (Nat.le_of_ble_eq_true h1)), Nat.ble_eq_true_of_le (Nat.le_trans (Nat.le_of_ble_eq_true h2) (by decide))⟩
  · rw [Nat.eq_of_beq_eq_true h1]; exact ⟨rfl, rfl⟩) e
/-- a draw of a term: who, the thing; the world behind it -/
def tsW (w : WD) : WD × Bool :=
  let w1 := dW w
  let w2 := dW w1
  let who := drw (w1.1 8) % pe w
  let t := drw (w2.1 8) % th w
  if lo (lef w2 t) 6 < 6 ∧ (her w2 who && kno w2 who t) = true then (sayW w2 who t (lo (lef w2 t) 6), true) else (w2, false)
/-- a term: the world, how many were said -/
def trW (w : WD) : Nat → WD × Nat
  | 0 => (w, 0)
  | n + 1 => ((tsW (trW w n).1).1, (trW w n).2 + if (tsW (trW w n).1).2 then 1 else 0)
theorem trW_s (w : WD) (n : Nat) : trW w (n + 1) = ((tsW (trW w n).1).1, (trW w n).2 + if (tsW (trW w n).1).2 then 1 else 0) := rfl
section CH
variable {g : Gl} {Φ : Out → Mem → Prop} {μ : Mem} {w : WD}
theorem c_speak (c : CI μ w) {who t q : Nat} (hw : who < pe w) (ht : t < th w) (hq : q < wo w t) (hn : sai w t q = false) (H : ∀ μ', Lz zN μ' = Lz zN μ → CI μ' (sayW w who t q) → LK (lg w) μ' μ → Φ (.inl (some (.int (lw (sayW w who t q) 0 3)))) μ') :
    Spec g i_Sch_speak 0 [.ref 3, .int (nI who), .int (nI t), .int (nI q)] μ Φ := by
  have t10 := ci_t10 c
  have p10 := ci_p10 c
  have w6 := (wf_wo c.2.1 (show t < 10 by omega)).2.1
  obtain ⟨h1, h2, h3, h60⟩ := sayW_ok c.2 hw ht hq hn
  have hc0 := ct_st (w := w) (t := t) (q := q) (by omega) hn
  have hl0 : lg w ≤ ct (bl w.2) 60 := c.2.1.2.2.2.2.2.2.2.2.2.2.1
  have cs := CI_st c (t := t) (q := q) (by omega) hq
  refine spi o_Sch_speak rfl (v_Sch_speak_0 (c_num t q (oI ?_)))
  rw [ci_sto c]
  refine c_draw cs (oI ?_)
  have cd := CI_d cs
  have e0 : Lz zN (sI (sL μ 11 0 (w.2 ||| ((1 : Int64) <<< ((nI (6 * t + q)).toInt64 &&& 63)))) 11 6 (nsd ((stW w t q).1 8))) = Lz zN μ := (Lz_I rfl).trans (Lz_L rfl)
  have k0 : LK (lg w) (sI (sL μ 11 0 (w.2 ||| ((1 : Int64) <<< ((nI (6 * t + q)).toInt64 &&& 63)))) 11 6 (nsd ((stW w t q).1 8))) μ := fun k _ => ⟨rfl, rfl, rfl, rfl, rfl, rfl⟩
  have esd : (dW (stW w t q)).1 8 = nsd ((stW w t q).1 8) := dW_8
  have elg : lg (dW (stW w t q)) = lg w := congrArg nx (dW_o (by decide))
  have epe : pe (dW (stW w t q)) = pe w := congrArg nx (dW_o (by decide))
  have eth : th (dW (stW w t q)) = th w := congrArg nx (dW_o (by decide))
  have hc : lg (dW (stW w t q)) + 1 ≤ ct (bl (dW (stW w t q)).2) 60 := by rw [elg]; show _ ≤ ct (bl (stW w t q).2) 60; omega
  rw [← esd] at e0 k0 cd ⊢
  have hsay : sayW w who t q = say1 (dW (stW w t q)) who t q := rfl
  rw [hsay] at H h3
  generalize dW (stW w t q) = v at *
  generalize sI (sL μ 11 0 (w.2 ||| ((1 : Int64) <<< ((nI (6 * t + q)).toInt64 &&& 63)))) 11 6 (v.1 8) = μ1 at *
  have hL : lw (say1 v who t q) 0 3 = msk (pe w) (fun p => (lea v (tkn v who t q) p).isSome) := by
    have h1 : lw (say1 v who t q) 0 3 = msk (pe v) (fun p => (lea (tlW v who (6 * t + q) (stm v who)) (tkn v who t q) p).isSome) := (lrn_is (w := tlW v who (6 * t + q) (stm v who)) (o := tkn v who t q) (show pe v ≤ 10 by omega)).2.1 rfl
    rw [h1, epe]; apply msk_cong; intro i hi; rw [lea_tl (by omega)]
  rw [hL] at H
  refine ⟨by decide, vp_in_nI (by omega) (by decide), ?_⟩
  rw [nx_nI (by omega), ci_stm cd (by omega), show (100 : Int32) = nI 100 from rfl, pk_rem (by have := drw_lt (v.1 8); omega) (by decide) (by decide)]
  have fin : ∀ μ', Lz zN μ' = Lz zN μ1 → LK (lg w) μ' μ1 → CI μ' (knW v (tkn v who t q) (pe v)) → ∀ μ2, Lz zN μ2 = Lz zN μ' → CI μ2 (say1 v who t q) → LK (lg v) μ2 μ' → Φ (.inl (some (.int (msk (pe v) (fun p => (lea v (tkn v who t q) p).isSome))))) μ2 := by
    intro μ' e k c' μ2 e2 c2 k2
    rw [epe]
    exact H μ2 (e2.trans (e.trans e0)) c2 (LK_tr (Nat.le_refl _) (LK_tr (Nat.le_refl _) k0 k) (by rw [elg] at k2; exact k2))
  by_cases hst : stm v who = true
  · have hlea : ∀ p, lea v (tkn v who t q) p = none := fun p => by unfold lea tkn; rw [if_pos hst]
    have hkn : ∀ k, knW v (tkn v who t q) k = v := by
      intro k
      induction k with
      | zero => rfl
      | succ k ih => show (match lea v (tkn v who t q) k with | none => _ | some a => _) = _; rw [hlea]; exact ih
    have hmz : msk (pe v) (fun p => (lea v (tkn v who t q) p).isSome) = 0 := (msk_0 (by omega)).mpr fun i _ => by rw [hlea]; rfl
    have hlz : ∀ k, lnt (lea v (tkn v who t q)) k = 0 := by
      intro k
      induction k with
      | zero => rfl
      | succ k ih => show (match lea v (tkn v who t q) k with | none => _ | some a => _) = _; rw [hlea]; exact ih
    have se := sp_end (g := g) cd h1 h1 (by omega) (by omega) (by omega) hc (hkn (pe v)).symm (Φ := Φ) (fin μ1 rfl (fun k _ => ⟨rfl, rfl, rfl, rfl, rfl, rfl⟩) (by rw [hkn]; exact cd))
    rw [hmz, hlz, b2i_t hst] at se
    refine ⟨fun h => ?_, fun _ => ?_⟩
    · exfalso
      unfold stm at hst
      simp only [decide_eq_true_eq] at hst
      exact absurd hst (Int32.not_lt.mpr h)
    · exact v_Sch_speak_57 ⟨fun _ => se, fun _ => ⟨fun _ => se, fun h => absurd h (by decide)⟩⟩
  · have hst : stm v who = false := by rw [← Bool.not_eq_true]; exact hst
    have htk : ∀ p, tkn v who t q p = tk0 v who t q p := fun p => by unfold tkn; rw [if_neg (by rw [hst]; decide)]
    refine ⟨fun _ => ?_, fun h => ?_⟩
    · refine zup (P := fun k => ∀ μ', Lz zN μ' = Lz zN μ1 → LK (lg w) μ' μ1 → CI μ' (knW v (tkn v who t q) k) → WW g i_Sch_speak 0 Φ 0 0 57 [(0, .ref 3), (1, .int (nI who)), (2, .int (nI t)), (3, .int (nI q)), (4, .int 0), (5, .int (msk k (fun p => (lea v (tkn v who t q) p).isSome))), (6, .long (lnt (lea v (tkn v who t q)) k)), (8, .int (nI k))] [] μ') (pe v) ?_ ?_ μ1 rfl (fun k _ => ⟨rfl, rfl, rfl, rfl, rfl, rfl⟩) cd
      · intro μ' e kk c'
        have se := sp_end (g := g) c' c'.2 h1 (by omega) (by omega) (by omega) hc rfl (Φ := Φ) (fin μ' e kk c')
        rw [b2i_f hst] at se
        have ep : pe (knW v (tkn v who t q) (pe v)) = pe v := congrArg nx (knW_o (by omega))
        exact v_Sch_speak_57 ⟨fun _ => se, fun h => absurd (by rw [ci_pe c', ep]; exact nI_le (Nat.le_refl _) (by omega)) h⟩
      · intro k hk ih μ' e kk c'
        have k10 : k < 10 := by omega
        have ep : pe (knW v (tkn v who t q) k) = pe v := congrArg nx (knW_o (by omega))
        have et : th (knW v (tkn v who t q) k) = th v := congrArg nx (knW_o (by omega))
        have ekn : ∀ a, kno (knW v (tkn v who t q) k) k a = kno v k a := fun a => by unfold kno; rw [knW_k (by omega) k k10, if_neg (Nat.lt_irrefl k)]
        refine v_Sch_speak_57 ⟨fun h => absurd h (by rw [ci_pe c', ep]; exact nI_ge hk (by omega)), fun _ => ⟨fun h => absurd rfl h, fun _ => ?_⟩⟩
        refine c_isk c' k10 (by omega) (oI (c_taken c' _ (by omega) (by omega) k10 fun μ2 e2 => ?_))
        have etk : tkx (knW v (tkn v who t q) k) who t q k (kno (knW v (tkn v who t q) k) k t) = tkn v who t q k := by
          rw [htk]; unfold tkx tk0; rw [ekn]
          split
          · rfl
          · exact smT_tk (knW_smT (by omega)) (by omega) k10
        rw [etk]
        have c2 := c'.lv (zT_scr e2)
        have e2N : Lz zN μ2 = Lz zN μ1 := (zT_N e2).trans e
        have kk2 : LK (lg w) μ2 μ1 := LK_tr (Nat.le_refl _) kk (LK_lv (zT_scr e2))
        have hdk : knW v (tkn v who t q) (k + 1) = match lea v (tkn v who t q) k with | none => knW v (tkn v who t q) k | some a => knS (knW v (tkn v who t q) k) k (pf v k 4 ||| ((1 : Int32) <<< (nI a &&& 31))) := rfl
        have hdl : lnt (lea v (tkn v who t q)) (k + 1) = match lea v (tkn v who t q) k with | none => lnt (lea v (tkn v who t q)) k | some a => lnt (lea v (tkn v who t q)) k ||| ((nI a).toInt64 <<< ((nI (4 * k)).toInt64 &&& 63)) := rfl
        have no : lea v (tkn v who t q) k = none → ∀ μ3, Lz zN μ3 = Lz zN μ1 → LK (lg w) μ3 μ1 → CI μ3 (knW v (tkn v who t q) k) → WW g i_Sch_speak 0 Φ 0 0 57 [(0, .ref 3), (1, .int (nI who)), (2, .int (nI t)), (3, .int (nI q)), (4, .int 0), (5, .int (msk k (fun p => (lea v (tkn v who t q) p).isSome))), (6, .long (lnt (lea v (tkn v who t q)) k)), (8, .int (nI k + 1))] [] μ3 := by
          intro hl μ3 e3 k3 c3
          have := ih μ3 e3 k3 (by rw [hdk, hl]; exact c3)
          rw [hdl, hl, msk_f (by rw [hl]; rfl), or0, nI_succ] at this
          exact this
        refine oI ⟨fun h => ?_, fun h => ?_⟩
        · refine no ?_ μ2 e2N kk2 c2
          cases hz : tkn v who t q k with
          | none => unfold lea; rw [hz]
          | some a =>
            have ha := tkn_lt (show 0 < th v by omega) hz
            rw [hz] at h
            exact absurd h (fun e => nI_pos (n := a) (by omega) (by rw [show nI a = -1 from e]; decide))
        · cases hz : tkn v who t q k with
          | none => rw [hz] at h; exact absurd rfl h
          | some a =>
            have ha := tkn_lt (show 0 < th v by omega) hz
            show Spec g i_Sta_isKnown 0 [.ref 11, .int (nI k), .int (nI a)] μ2 _
            refine c_isk c2 k10 (by omega) (oI ⟨fun h2 => ?_, fun h2 => ?_⟩)
            · rw [b2i_n0, ekn] at h2
              refine no ?_ μ2 e2N kk2 c2
              unfold lea; rw [hz]; simp [h2]
            · rw [b2i_0, ekn] at h2
              have hl : lea v (tkn v who t q) k = some a := by unfold lea; rw [hz]; simp [h2]
              have vk := vp_in_nI (N := 10) k10 (by decide)
              refine ⟨vk, vk, ?_⟩
              have ekm : mI μ2 12 (nx (nI k)) = pf v k 4 := by rw [nx_nI (by omega), ci_kn c2 k10, knW_k (by omega) k k10, if_neg (Nat.lt_irrefl k)]
              rw [ekm, nx_nI (by omega)]
              have hx : ∀ i, th (knW v (tkn v who t q) k) ≤ i → i < 32 → bt (pf v k 4 ||| ((1 : Int32) <<< (nI a &&& 31))) i = false := by
                intro i h1' h2'
                rw [b_or, b_1s (by omega) h2', (h1.1.2.2.2.2.2.2.2.1 k k10).2.2.2.2.1 i (by omega) h2']; simp; omega
              have := ih (sI μ2 12 k (pf v k 4 ||| ((1 : Int32) <<< (nI a &&& 31)))) ((Lz_I rfl).trans e2N) (fun j hj => kk2 j hj) (by rw [hdk, hl]; exact CI_knS c2 k10 hx)
              rw [hdl, hl, msk_t (by rw [hl]; rfl), nI_succ] at this
              rw [show (4 : Int32) = nI 4 from rfl, pk_mul]
              exact this
    · exfalso
      unfold stm at hst
      simp only [decide_eq_false_iff_not] at hst
      exact h (Int32.not_lt.mp hst)
end CH
