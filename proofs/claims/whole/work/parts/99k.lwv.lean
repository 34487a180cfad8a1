/-! a law's lines, and the world that they make -/
abbrev LST : Type := List (Int32 × Int32 × Nat) × CLs
def lgn (s : LST) (i : Nat) : Int32 × Int32 × Nat := s.1.getD i (0, 0, 0)
def lsn (s : LST) (i : Nat) : Nat := if i = 0 then 0 else (lgn s (i - 1)).2.2
def cdn (s : LST) (i : Nat) : Int32 := s.2.getD i 0
def adn (s : LST) (kd x : Int32) (c : CLs) : LST := (s.1 ++ [(kd, x, s.2.length + c.length)], s.2 ++ c)
def lnLk (f : Nat → Int32) (n : Nat) (k : Int32) (s : LST) (a : Nat) : PRt LST := bdP (tnP f n (nxt f n a) 0 99) fun x a1 => if wdm f n a1 bIf = true then bdP (LPu f n 3 (nxt f n a1) 0) fun c a2 => .inl (adn s k x c, a2) else .inl (adn s k x [], a1)
def lnL (f : Nat → Int32) (n : Nat) (s : LST) (a : Nat) : PRt LST := if wdm f n a bFa = true then lnLk f n 1 s a else if wdm f n a bNe = true then lnLk f n (-1) s a else if wdm f n a bAs = true then lnLk f n 0 s a else .inr a
def lnsL (f : Nat → Int32) (n : Nat) : Nat → LST → Nat → PRt LST
  | 0, _, a => .inr a
  | d + 1, s, a => bdP (lnL f n s a) fun s' a' => if n ≤ a' then .inl (s', a') else if sgn f n a' 59 = true then lnsL f n d s' (nxt f n a') else .inr a'
def rdLw (f : Nat → Int32) (n : Nat) : PRt LST := if n ≤ tks f n 0 then .inl (([], []), tks f n 0) else lnsL f n 12 ([], []) (tks f n 0)
def OKL (s : LST) : Prop := (∀ c, c ∈ s.2 → okC c) ∧ lsn s s.1.length = s.2.length ∧ ∀ i, i < s.1.length → ((lgn s i).1 = 1 ∨ (lgn s i).1 = -1 ∨ (lgn s i).1 = 0) ∧ (∃ a, a ≤ 99 ∧ (lgn s i).2.1 = nI a) ∧ lsn s i ≤ (lgn s i).2.2 ∧ (lgn s i).2.2 ≤ s.2.length ∧ TYl (cdn s) (lsn s i) ((lgn s i).2.2 - lsn s i)
section LWV
variable {f : Nat → Int32} {n a : Nat} {s : LST}
theorem OKL_0 : OKL ([], []) := ⟨fun c h => absurd h List.not_mem_nil, rfl, fun i h => absurd h (Nat.not_lt_zero _)⟩
theorem adn_lo {k x : Int32} {c : CLs} {i : Nat} (h : i < s.1.length) : lgn (adn s k x c) i = lgn s i := by
  show (s.1 ++ _).getD i _ = _
  unfold lgn
  rw [List.getD_eq_getElem?_getD, List.getD_eq_getElem?_getD, List.getElem?_append_left h]
theorem adn_hi {k x : Int32} {c : CLs} : lgn (adn s k x c) s.1.length = (k, x, s.2.length + c.length) := by
  show (s.1 ++ _).getD s.1.length _ = _
  rw [List.getD_eq_getElem?_getD, List.getElem?_append_right (Nat.le_refl _), Nat.sub_self]; rfl
theorem adn_cl {k x : Int32} {c : CLs} {i : Nat} (h : i < s.2.length) : cdn (adn s k x c) i = cdn s i := by
  show (s.2 ++ _).getD i _ = _
  unfold cdn
  rw [List.getD_eq_getElem?_getD, List.getD_eq_getElem?_getD, List.getElem?_append_left h]
theorem adn_cr {k x : Int32} {c : CLs} {i : Nat} : cdn (adn s k x c) (s.2.length + i) = c.getD i 0 := by
  show (s.2 ++ _).getD _ _ = _
  rw [List.getD_eq_getElem?_getD, List.getD_eq_getElem?_getD, List.getElem?_append_right (Nat.le_add_right _ _), Nat.add_sub_cancel_left]
theorem adn_ls {k x : Int32} {c : CLs} {i : Nat} (h : i ≤ s.1.length) : lsn (adn s k x c) i = lsn s i := by
  unfold lsn
  by_cases h0 : i = 0
  · rw [if_pos h0, if_pos h0]
  · rw [if_neg h0, if_neg h0, adn_lo (by omega)]
theorem adn_n {k x : Int32} {c : CLs} : (adn s k x c).1.length = s.1.length + 1 := by
  show (s.1 ++ _).length = _
  rw [List.length_append]; rfl
theorem adn_m {k x : Int32} {c : CLs} : (adn s k x c).2.length = s.2.length + c.length := List.length_append
theorem adn_ok {k x : Int32} {c : CLs} (h : OKL s) (hk : k = 1 ∨ k = -1 ∨ k = 0) (hx : ∃ a, a ≤ 99 ∧ x = nI a) (hc : ∀ y, y ∈ c → okC y) (hT : c = [] ∨ TG c [] [true]) : OKL (adn s k x c) := by
  refine ⟨mem_app h.1 hc, ?_, fun i hi => ?_⟩
  · rw [adn_n, adn_m]
    show (if s.1.length + 1 = 0 then 0 else (lgn (adn s k x c) (s.1.length + 1 - 1)).2.2) = _
    rw [if_neg (by omega), Nat.add_sub_cancel, adn_hi]
  · rw [adn_n] at hi
    by_cases e : i = s.1.length
    · rw [e, adn_hi, adn_ls (Nat.le_refl _), h.2.1, adn_m]
      refine ⟨hk, hx, by dsimp only; omega, Nat.le_refl _, ?_⟩
      dsimp only
      rw [Nat.add_sub_cancel_left]
      rcases hT with h0 | h0
      · rw [h0]
        refine ⟨Or.inl rfl, fun m hm => ⟨[], ?_, by simp⟩⟩
        rw [show m = 0 from Nat.le_zero.mp hm]; rfl
      · have := TG_run (cd := cdn (adn s k x c)) (s := s.2.length) c 0 [] rfl h0 fun i _ => adn_cr
        rw [Nat.zero_add] at this
        refine ⟨Or.inr this.1, fun m hm => ?_⟩
        have := this.2 m hm
        rw [Nat.zero_add] at this; exact this
    · obtain ⟨k1, k2, k3, k4, k5⟩ := h.2.2 i (by omega)
      rw [adn_lo (by omega), adn_ls (by omega), adn_m]
      refine ⟨k1, k2, k3, by omega, ?_⟩
      have key : ∀ m, m ≤ (lgn s i).2.2 - lsn s i → tyR (cdn (adn s k x c)) (lsn s i) m = tyR (cdn s) (lsn s i) m := fun m hm => tyR_cg fun j hj => adn_cl (by omega)
      refine ⟨?_, fun m hm => ?_⟩
      · rw [key _ (Nat.le_refl _)]; exact k5.1
      · rw [key m hm]; exact k5.2 m hm
theorem lnLk_ok {k : Int32} (ha : a ≤ n) (h0 : ¬ kd f n a = 0) (h : OKL s) (hk : k = 1 ∨ k = -1 ∨ k = 0) {x : LST × Nat} (hx : lnLk f n k s a = .inl x) : OKL x.1 ∧ x.1.1.length = s.1.length + 1 ∧ x.1.2.length + a + 2 ≤ s.2.length + x.2 ∧ x.2 ≤ n ∧ tks f n x.2 = x.2 := by
  obtain ⟨y, k1, hx⟩ := bdP_l hx
  obtain ⟨q1, q2⟩ := tnP_l k1
  have g1 := nxt_gt h0
  have l1 := nxt_le (f := f) ha
  have g2 : nxt f n a < nxt f n (nxt f n a) := nxt_gt (by rw [kd_nok q1]; decide)
  have l2 := nxt_le (f := f) l1
  obtain ⟨m, -, m1, m2⟩ := nok_b (lo := 0) (m := 99) (by omega) (by omega) q1
  rw [q2] at hx
  dsimp only at hx
  split at hx
  · rename_i hw
    have g3 := nxt_gt (wdm_n0 hw)
    have l3 := nxt_le (f := f) l2
    obtain ⟨z, k2, hx⟩ := bdP_l hx
    obtain ⟨c1, c2, c3⟩ := LP_g _ 3 _ 0 l3 nxt_tk (by omega) z k2
    obtain ⟨a1, a2, a3⟩ := LPu_adv l3 nxt_tk z k2
    rw [← Sum.inl.inj hx]
    refine ⟨adn_ok h hk ⟨m, m1, m2⟩ c2 (Or.inr (c3 [] (by decide))), adn_n, ?_, a2, a3⟩
    rw [adn_m]; dsimp only; omega
  · rw [← Sum.inl.inj hx]
    refine ⟨adn_ok h hk ⟨m, m1, m2⟩ (fun y hy => absurd hy List.not_mem_nil) (Or.inl rfl), adn_n, ?_, l2, nxt_tk⟩
    rw [adn_m]; dsimp only [List.length_nil]; omega
theorem lnL_ok (ha : a ≤ n) (h : OKL s) {x : LST × Nat} (hx : lnL f n s a = .inl x) : OKL x.1 ∧ x.1.1.length = s.1.length + 1 ∧ x.1.2.length + a + 2 ≤ s.2.length + x.2 ∧ x.2 ≤ n ∧ tks f n x.2 = x.2 := by
  unfold lnL at hx
  split at hx
  · rename_i hw; exact lnLk_ok ha (wdm_n0 hw) h (Or.inl rfl) hx
  · split at hx
    · rename_i hw; exact lnLk_ok ha (wdm_n0 hw) h (Or.inr (Or.inl rfl)) hx
    · split at hx
      · rename_i hw; exact lnLk_ok ha (wdm_n0 hw) h (Or.inr (Or.inr rfl)) hx
      · cases hx
theorem lnsL_ok : ∀ d s a x, a ≤ n → OKL s → s.2.length ≤ a → lnsL f n d s a = .inl x → OKL x.1 ∧ x.1.1.length ≤ s.1.length + d ∧ x.1.2.length ≤ n := by
  intro d
  induction d with
  | zero => intro s a x _ _ _ hx; cases hx
  | succ d ih =>
    intro s a x ha h hl hx
    unfold lnsL at hx
    obtain ⟨y, k1, hx⟩ := bdP_l hx
    obtain ⟨o1, o2, o3, o4, o5⟩ := lnL_ok ha h k1
    split at hx
    · rw [← Sum.inl.inj hx]
      exact ⟨o1, by dsimp only; omega, by dsimp only; omega⟩
    · split at hx
      · rename_i hs
        have := nxt_gt (sgn_k hs)
        obtain ⟨i1, i2, i3⟩ := ih y.1 _ x (nxt_le o4) o1 (by omega) hx
        exact ⟨i1, by omega, i3⟩
      · cases hx
theorem rdLw_ok {x : LST × Nat} (h : rdLw f n = .inl x) : OKL x.1 ∧ x.1.1.length ≤ 12 ∧ x.1.2.length ≤ n := by
  unfold rdLw at h
  split at h
  · rw [← Sum.inl.inj h]; exact ⟨OKL_0, Nat.zero_le _, Nat.zero_le _⟩
  · obtain ⟨a1, a2, a3⟩ := lnsL_ok 12 ([], []) _ x (tks_le (Nat.zero_le _)) OKL_0 (Nat.zero_le _) h
    refine ⟨a1, ?_, a3⟩
    rw [List.length_nil] at a2; omega
/-- the law alone is another one -/
def L15 (w v : WD) : Prop := (∀ j, j < 1015 → j ≠ 4 → v.1 j = w.1 j) ∧ v.2 = w.2
/-- a world with this law -/
def LWV (w : WD) (s : LST) (v : WD) : Prop := L15 w v ∧ v.1 4 = 1 ∧ v.1 1015 = nI s.1.length ∧
  (∀ i, i < s.1.length → ln v i 0 = (lgn s i).1 ∧ ln v i 1 = (lgn s i).2.1 ∧ ln v i 2 = nI (lsn s i) ∧ ln v i 3 = nI (lgn s i).2.2) ∧ ∀ i, i < s.2.length → v.1 (1064 + 2 * i) = stpc (cdn s i) ∧ v.1 (1065 + 2 * i) = argc (cdn s i)
end LWV
section LWW
variable {w v : WD} {s : LST}
theorem L_th (h : L15 w v) : th v = th w := congrArg nx (h.1 0 (by omega) (by omega))
theorem L_pe (h : L15 w v) : pe v = pe w := congrArg nx (h.1 1 (by omega) (by omega))
theorem L_ru (h : L15 w v) : ru v = ru w := congrArg nx (h.1 2 (by omega) (by omega))
theorem L_lg (h : L15 w v) : lg v = lg w := congrArg nx (h.1 7 (by omega) (by omega))
theorem L_wo (h : L15 w v) {t : Nat} (ht : t < 10) : wo v t = wo w t := congrArg nx (h.1 (9 + t) (by omega) (by omega))
theorem L_pf (h : L15 w v) {p k : Nat} (hp : p < 10) (hk : k < 6) : pf v p k = pf w p k := h.1 _ (by omega) (by omega)
theorem L_lw (h : L15 w v) {r c : Nat} (hr : r < 60) (hc : c < 15) : lw v r c = lw w r c := h.1 _ (by omega) (by omega)
theorem L_WFp (h : L15 w v) {p : Nat} (hp : p < 10) (k : WFp w p) : WFp v p := by
  unfold WFp at *
  rw [L_pf h hp (by omega), L_pf h hp (by omega), L_pf h hp (by omega), L_pf h hp (by omega), L_pf h hp (by omega), L_pf h hp (by omega), L_th h, L_pe h]; exact k
theorem L_WFs (h : L15 w v) (k : WFs w) : WFs v := by
  obtain ⟨k1, k2, k3, k4, k5, k6, k7, k8, k9, k10, k11, k12⟩ := k
  have l60 : lg w ≤ 60 := Nat.le_trans k11 (ct_le _ _)
  have r12 : ru w ≤ 12 := by obtain ⟨n, n1, n2⟩ := k3; unfold ru; rw [n2, nx_nI (by omega)]; exact n1
  refine ⟨?_, ?_, ?_, ?_, ?_, ?_, ?_, ?_, ?_, ?_, ?_, ?_⟩
  · rw [h.1 0 (by omega) (by omega)]; exact k1
  · rw [h.1 1 (by omega) (by omega)]; exact k2
  · rw [h.1 2 (by omega) (by omega)]; exact k3
  · rw [h.1 3 (by omega) (by omega)]; exact k4
  · rw [h.1 6 (by omega) (by omega)]; exact k5
  · rw [h.1 7 (by omega) (by omega)]; exact k6
  · intro t ht
    rw [h.1 (9 + t) (by omega) (by omega), L_th h]; exact k7 t ht
  · exact fun p hp => L_WFp h hp (k8 p hp)
  · intro r hr j hj
    rw [L_ru h] at hr
    rw [h.1 (79 + 3 * r + j) (by omega) (by omega), L_th h]; exact k9 r hr j hj
  · intro t ht q hq
    unfold sai; rw [h.2, L_wo h ht]; exact k10 t ht q hq
  · rw [h.2, L_lg h]; exact k11
  · intro r hr
    rw [L_lg h] at hr
    obtain ⟨a1, a2, a3, a4, a5⟩ := k12 r hr
    unfold WFr
    rw [L_lw h (by omega) (by omega), L_lw h (by omega) (by omega), L_lw h (by omega) (by omega), L_lw h (by omega) (by omega), L_th h, L_pe h]
    exact ⟨a1, a2, a3, a4, fun p hp => by rw [L_lw h (by omega) (by omega)]; exact a5 p hp⟩
theorem L_DS (h : L15 w v) (hp : pe w ≤ 10) (k : DS w) : DS v := fun p q h1 h2 => by
  rw [L_pe h] at h1
  rw [L_pf h (by omega) (by omega), L_pf h (by omega) (by omega), L_pf h (by omega) (by omega), L_pf h (by omega) (by omega)]; exact k p q h1 h2
theorem LWV_li (h : LWV w s v) (h12 : s.1.length ≤ 12) : li v = s.1.length := by
  unfold li
  rw [if_pos h.2.1, h.2.2.1, nx_nI (by omega)]
theorem LWV_ends (ho : OKL s) (h4 : s.2.length ≤ 400) {i : Nat} (hi : i < s.1.length) : (lgn s i).2.2 ≤ 400 ∧ lsn s i ≤ (lgn s i).2.2 := by
  obtain ⟨-, -, k3, k4, -⟩ := ho.2.2 i hi
  exact ⟨by omega, k3⟩
theorem LWV_cod (h : LWV w s v) (ho : OKL s) {i : Nat} (hi : i < s.2.length) : cod v i = cdn s i ∧ cok (v.1 (1064 + 2 * i)) (v.1 (1065 + 2 * i)) := by
  obtain ⟨h1, h2⟩ := h.2.2.2.2 i hi
  have hc : okC (cdn s i) := by
    refine ho.1 _ ?_
    unfold cdn
    rw [List.getD_eq_getElem?_getD, List.getElem?_eq_getElem hi]; exact List.getElem_mem hi
  unfold cod
  rw [h1, h2]; exact okC_enc hc
theorem LWV_WF (h : LWV w s v) (hw : WF w) (ho : OKL s) (h12 : s.1.length ≤ 12) (h4 : s.2.length ≤ 400) : WF v := by
  refine ⟨L_WFs h.1 hw.1, Or.inr h.2.1, fun _ => ⟨_, h12, h.2.2.1⟩, fun i hi => ?_⟩
  rw [LWV_li h h12] at hi
  obtain ⟨e0, e1, e2, e3⟩ := h.2.2.2.1 i hi
  obtain ⟨k1, k2, k3, k4, k5⟩ := ho.2.2 i hi
  have es : lst v i = lsn s i := by unfold lst; rw [e2, nx_nI (by omega)]
  have ee : len v i = (lgn s i).2.2 := by unfold len; rw [e3, nx_nI (by omega)]
  rw [e0, e1, es, ee]
  refine ⟨k1, k2, ?_, ⟨(lgn s i).2.2, by omega, e3, k3⟩, ?_, fun j hj => (LWV_cod h ho (by omega)).2⟩
  · rw [e2]
    by_cases h0 : i = 0
    · rw [if_pos h0, h0]; rfl
    · rw [if_neg h0, (h.2.2.2.1 (i - 1) (by omega)).2.2.2]
      unfold lsn; rw [if_neg h0]
  · have key : ∀ m, m ≤ (lgn s i).2.2 - lsn s i → tyR (cod v) (lsn s i) m = tyR (cdn s) (lsn s i) m := fun m hm => tyR_cg fun j hj => (LWV_cod h ho (by omega)).1
    refine ⟨?_, fun m hm => ?_⟩
    · rw [key _ (Nat.le_refl _)]; exact k5.1
    · rw [key m hm]; exact k5.2 m hm
theorem LWV_cle (h : LWV w s v) (ho : OKL s) (h12 : s.1.length ≤ 12) (h4 : s.2.length ≤ 400) : cle v = s.2.length := by
  unfold cle
  rw [LWV_li h h12]
  have e := ho.2.1
  unfold lsn at e
  by_cases h0 : s.1.length = 0
  · rw [if_pos h0] at e ⊢; exact e
  · rw [if_neg h0] at e ⊢
    unfold len
    rw [(h.2.2.2.1 (s.1.length - 1) (by omega)).2.2.2, e, nx_nI (by omega)]
end LWW
