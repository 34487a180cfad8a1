/-! a law's codes: their types, how many there are; the lines -/
def stpc (c : Int32) : Int32 := if 0 ≤ c then 8 else if -8 ≤ c then -1 - c else -c
def argc (c : Int32) : Int32 := if 0 ≤ c then c else 0
def okC (c : Int32) : Prop := (∃ m, m ≤ 999 ∧ c = nI m) ∨ ∃ j, j < 14 ∧ c = -1 - nI j
theorem okC_neg : ∀ j, j < 14 → enc (stpc (-1 - nI j)) (argc (-1 - nI j)) = -1 - nI j ∧ ∃ i, i ≤ 14 ∧ i ≠ 8 ∧ stpc (-1 - nI j) = nI i := by
  have h : ∀ j, j < 14 → enc (stpc (-1 - nI j)) (argc (-1 - nI j)) = -1 - nI j ∧ stpc (-1 - nI j) = nI (if j < 8 then j else j + 1) := by decide
  intro j hj
  refine ⟨(h j hj).1, (if j < 8 then j else j + 1), ?_, ?_, (h j hj).2⟩
  · split <;> omega
  · split <;> omega
theorem okC_enc {c : Int32} (h : okC c) : enc (stpc c) (argc c) = c ∧ cok (stpc c) (argc c) := by
  rcases h with ⟨m, hm, e⟩ | ⟨j, hj, e⟩
  · have h0 : (0 : Int32) ≤ c := by rw [e]; exact nI_pos' (by omega)
    unfold stpc argc
    rw [if_pos h0, if_pos h0]
    exact ⟨if_pos rfl, Or.inl ⟨m, hm, rfl, e⟩⟩
  · rw [e]; exact ⟨(okC_neg j hj).1, Or.inr (okC_neg j hj).2⟩
/-- codes that turn one stack of types into another, never more than 24 -/
def TG : CLs → List Bool → List Bool → Prop
  | [], ts, r => ts = r ∧ ts.length ≤ 24
  | c :: cs, ts, r => ts.length ≤ 24 ∧ ∃ t, tyS c ts = some t ∧ TG cs t r
theorem TG_app {e : CLs} {t r : List Bool} : ∀ {c : CLs} {ts : List Bool}, TG c ts t → TG e t r → TG (c ++ e) ts r := by
  intro c
  induction c with
  | nil => intro ts h k; rw [show ts = t from h.1]; exact k
  | cons x c ih =>
    intro ts h k
    obtain ⟨h1, u, h2, h3⟩ := h
    exact ⟨h1, u, h2, ih h3 k⟩
theorem TG_run {cd : Nat → Int32} {s : Nat} {r : List Bool} : ∀ (c : CLs) (j : Nat) (ts : List Bool), tyR cd s j = some ts → TG c ts r → (∀ i, i < c.length → cd (s + j + i) = c.getD i 0) → tyR cd s (j + c.length) = some r ∧ ∀ k, k ≤ c.length → ∃ t, tyR cd s (j + k) = some t ∧ t.length ≤ 24 := by
  intro c
  induction c with
  | nil =>
    intro j ts h k _
    refine ⟨by rw [← show ts = r from k.1]; exact h, fun i hi => ⟨ts, ?_, k.2⟩⟩
    rw [show i = 0 from Nat.le_zero.mp hi]; exact h
  | cons x c ih =>
    intro j ts h k hc
    obtain ⟨k1, u, k2, k3⟩ := k
    have h1 : tyR cd s (j + 1) = some u := by
      show (tyR cd s j).bind (tyS (cd (s + j))) = some u
      rw [h, show cd (s + j) = x from hc 0 (by simp)]; exact k2
    obtain ⟨i1, i2⟩ := ih (j + 1) u h1 k3 fun i hi => by
      rw [show s + (j + 1) + i = s + j + (i + 1) by omega]
      exact hc (i + 1) (by simp only [List.length_cons]; omega)
    refine ⟨by rw [List.length_cons, show j + (c.length + 1) = j + 1 + c.length by omega]; exact i1, fun i hi => ?_⟩
    cases i with
    | zero => exact ⟨ts, h, k1⟩
    | succ i =>
      rw [List.length_cons] at hi
      rw [show j + (i + 1) = j + 1 + i by omega]; exact i2 i (by omega)
/-- what a reader of a law's text says: no more codes than bytes, right ones, of these types -/
def GDp (r : PRt CLs) (a h : Nat) (i o : List Bool → List Bool) : Prop := ∀ x, r = .inl x → x.1.length + a ≤ x.2 ∧ (∀ c, c ∈ x.1 → okC c) ∧ ∀ ts, ts.length + h ≤ 24 → TG x.1 (i ts) (o ts)
section LWT
variable {f : Nat → Int32} {n : Nat}
theorem tyS_lo {c : Int32} {ts : List Bool} (h : -8 ≤ c) : tyS c ts = some (decide (c = -8) :: ts) := if_pos h
theorem ptP_g {a : Nat} (ha : a ≤ n) : GDp (ptP f n a) a 1 (fun ts => ts) (fun ts => false :: ts) := by
  have neg : ∀ j, j < 7 → kd f n a = 1 → GDp (.inl ([-1 - nI j], nxt f n a)) a 1 (fun ts => ts) (fun ts => false :: ts) := by
    intro j hj hk x hx
    have hgt : a < nxt f n a := nxt_gt (by rw [hk]; decide)
    rw [← Sum.inl.inj hx]
    have h8 : (-8 : Int32) ≤ -1 - nI j ∧ ¬ -1 - nI j = -8 := (by decide : ∀ j, j < 7 → (-8 : Int32) ≤ -1 - nI j ∧ ¬ -1 - nI j = -8) j hj
    refine ⟨by show 1 + a ≤ _; omega, fun c hc => ?_, fun ts hts => ⟨by show ts.length ≤ 24; omega, false :: ts, ?_, rfl, hts⟩⟩
    · rw [List.mem_singleton.mp hc]; exact Or.inr ⟨j, by omega, rfl⟩
    · rw [tyS_lo h8.1, decide_eq_false h8.2]
  unfold ptP
  split
  · rename_i h
    split
    · exact neg 0 (by decide) h
    · split
      · exact neg 1 (by decide) h
      · split
        · exact neg 2 (by decide) h
        · split
          · exact neg 3 (by decide) h
          · split
            · exact neg 4 (by decide) h
            · split
              · exact neg 5 (by decide) h
              · split
                · exact neg 6 (by decide) h
                · intro x hx; cases hx
  · split
    · rename_i h
      intro x hx
      rw [← Sum.inl.inj hx]
      obtain ⟨k, -, k2, k3⟩ := nok_b (lo := 0) (m := 999) (by omega) (by omega) h
      have hgt : a < nxt f n a := nxt_gt (by rw [kd_nok h]; decide)
      have h0 : (0 : Int32) ≤ nI k := nI_pos' (by omega)
      refine ⟨by show 1 + a ≤ _; omega, fun c hc => ?_, fun ts hts => ⟨by show ts.length ≤ 24; omega, false :: ts, ?_, rfl, hts⟩⟩
      · rw [List.mem_singleton.mp hc]; exact Or.inl ⟨k, k2, k3⟩
      · rw [k3, tyS_lo (Int32.le_trans (by decide) h0), decide_eq_false (fun e => by rw [e] at h0; exact absurd h0 (by decide))]
    · intro x hx; cases hx
theorem mem_app {P : Int32 → Prop} {c e : CLs} (h : ∀ x, x ∈ c → P x) (k : ∀ x, x ∈ e → P x) : ∀ x, x ∈ c ++ e → P x := fun x hx => (List.mem_append.mp hx).elim (h x) (k x)
theorem TG_1 {c : Int32} {ts t : List Bool} (h : tyS c ts = some t) (h1 : ts.length ≤ 24) (h2 : t.length ≤ 24) : TG [c] ts t := ⟨h1, t, h, rfl, h2⟩
theorem okC_n {c : Int32} (h : ∃ j, j < 14 ∧ c = -1 - nI j) : ∀ x, x ∈ [c] → okC x := fun x hx => by rw [List.mem_singleton.mp hx]; exact Or.inr h
theorem smT_g : ∀ d a, a ≤ n → tks f n a = a → GDp (smTl f n d a) a 2 (fun ts => false :: ts) (fun ts => false :: ts) := by
  intro d
  induction d with
  | zero => intro a _ _ x hx; cases hx
  | succ d ih =>
    intro a ha ht x hx
    unfold smTl at hx
    split at hx
    · rename_i h
      have hgt := nxt_gt (sgn_k h)
      obtain ⟨y, h1, hx⟩ := bdP_l hx
      obtain ⟨z, h2, hx⟩ := bdP_l hx
      obtain ⟨a1, a2, a3⟩ := ptP_adv (nxt_le ha) y h1
      obtain ⟨p1, p2, p3⟩ := ptP_g (nxt_le ha) y h1
      obtain ⟨q1, q2, q3⟩ := ih y.2 a2 a3 z h2
      rw [← Sum.inl.inj hx]
      refine ⟨?_, mem_app (mem_app p2 (okC_n ⟨8, by decide, rfl⟩)) q2, fun ts hts => TG_app (TG_app (p3 (false :: ts) (by simp only [List.length_cons]; omega)) (TG_1 (t := false :: ts) rfl ?_ ?_)) (q3 ts hts)⟩
      · simp only [List.length_append, List.length_cons, List.length_nil]; omega
      · simp only [List.length_cons]; omega
      · simp only [List.length_cons]; omega
    · rw [← Sum.inl.inj hx]
      exact ⟨by simp, fun c hc => absurd hc List.not_mem_nil, fun ts hts => ⟨rfl, by simp only [List.length_cons]; omega⟩⟩
theorem smF_g {a : Nat} (ha : a ≤ n) : GDp (smF f n a) a 2 (fun ts => ts) (fun ts => false :: ts) := by
  intro x hx
  obtain ⟨y, h1, hx⟩ := bdP_l hx
  obtain ⟨z, h2, hx⟩ := bdP_l hx
  obtain ⟨a1, a2, a3⟩ := ptP_adv ha y h1
  obtain ⟨p1, p2, p3⟩ := ptP_g ha y h1
  obtain ⟨q1, q2, q3⟩ := smT_g _ y.2 a2 a3 z h2
  rw [← Sum.inl.inj hx]
  exact ⟨by simp only [List.length_append]; omega, mem_app p2 q2, fun ts hts => TG_app (p3 ts (by omega)) (q3 ts hts)⟩
theorem cmP_g {a : Nat} (ha : a ≤ n) : GDp (cmP f n a) a 3 (fun ts => ts) (fun ts => true :: ts) := by
  intro x hx
  obtain ⟨y, h1, hx⟩ := bdP_l hx
  obtain ⟨a1, a2, a3⟩ := smF_adv ha y h1
  obtain ⟨p1, p2, p3⟩ := smF_g ha y h1
  have key : ∀ j, j = 9 ∨ j = 10 → ∀ c, sgn f n y.2 c = true → bdP (smF f n (nxt f n y.2)) (fun e b' => Sum.inl (y.1 ++ (e ++ [-1 - nI j]), b')) = Sum.inl x → x.1.length + a ≤ x.2 ∧ (∀ c, c ∈ x.1 → okC c) ∧ ∀ ts, ts.length + 3 ≤ 24 → TG x.1 ts (true :: ts) := by
    intro j hj c hc hx
    have hgt := nxt_gt (sgn_k hc)
    obtain ⟨z, h2, hx⟩ := bdP_l hx
    obtain ⟨q1, q2, q3⟩ := smF_g (nxt_le a2) z h2
    rw [← Sum.inl.inj hx]
    refine ⟨?_, mem_app p2 (mem_app q2 (okC_n ⟨j, by omega, rfl⟩)), fun ts hts => TG_app (p3 ts (by omega)) (TG_app (q3 (false :: ts) (by simp only [List.length_cons]; omega)) (TG_1 ?_ ?_ ?_))⟩
    · simp only [List.length_append, List.length_cons, List.length_nil]; omega
    · rcases hj with e | e <;> rw [e] <;> rfl
    · simp only [List.length_cons]; omega
    · simp only [List.length_cons]; omega
  split at hx
  · rename_i h; exact key 9 (Or.inl rfl) 60 h hx
  · split at hx
    · rename_i h; exact key 10 (Or.inr rfl) 62 h hx
    · cases hx
theorem fcP_g {a : Nat} (ha : a ≤ n) : GDp (fcP f n a) a 3 (fun ts => ts) (fun ts => true :: ts) := by
  unfold fcP
  split
  · rename_i h
    have hgt := nxt_gt (wdm_n0 h)
    intro x hx
    rw [← Sum.inl.inj hx]
    exact ⟨by show 1 + a ≤ _; omega, okC_n ⟨7, by decide, rfl⟩, fun ts hts => TG_1 rfl (by show ts.length ≤ 24; omega) (by simp only [List.length_cons]; omega)⟩
  · exact cmP_g ha
/-- how high a mode's stack grows -/
def hgt (m k : Nat) : Nat := if m = 0 then 3 + 2 * (6 - k) else if m ≤ 2 then 4 + 2 * (6 - k) else 5 + 2 * (6 - k)
def inT (m : Nat) (ts : List Bool) : List Bool := if m = 2 ∨ 4 ≤ m then true :: ts else ts
theorem LP_g : ∀ d m a k, a ≤ n → tks f n a = a → k ≤ 6 → GDp (LPf f n d m a k) a (hgt m k) (inT m) (fun ts => true :: ts) := by
  intro d
  induction d with
  | zero => intro m a k _ _ _ x hx; cases hx
  | succ d ih =>
    intro m a k ha ht hk
    match m with
    | 0 =>
      unfold LPf
      split
      · rename_i h
        have hg := nxt_gt (sgn_k h)
        split
        · intro x hx; cases hx
        · intro x hx
          obtain ⟨y, h1, hx⟩ := bdP_l hx
          obtain ⟨q1, q2, q3⟩ := ih 3 _ _ (nxt_le ha) nxt_tk (by omega) y h1
          split at hx
          · rename_i h4
            have := nxt_gt (sgn_k h4)
            rw [← Sum.inl.inj hx]
            refine ⟨by dsimp only; omega, q2, fun ts hts => q3 ts ?_⟩
            have e1 : hgt 3 (k + 1) = 5 + 2 * (6 - (k + 1)) := rfl
            have e2 : hgt 0 k = 3 + 2 * (6 - k) := rfl
            omega
          · cases hx
      · split
        · rename_i h
          have hg := nxt_gt (wdm_n0 h)
          split
          · intro x hx; cases hx
          · intro x hx
            obtain ⟨y, h1, hx⟩ := bdP_l hx
            obtain ⟨q1, q2, q3⟩ := ih 0 _ _ (nxt_le ha) nxt_tk (by omega) y h1
            rw [← Sum.inl.inj hx]
            have e1 : hgt 0 (k + 1) = 3 + 2 * (6 - (k + 1)) := rfl
            have e2 : hgt 0 k = 3 + 2 * (6 - k) := rfl
            refine ⟨?_, mem_app q2 (okC_n ⟨11, by decide, rfl⟩), fun ts hts => TG_app (q3 ts (by omega)) (TG_1 rfl ?_ ?_)⟩
            · simp only [List.length_append, List.length_cons, List.length_nil]; omega
            · simp only [List.length_cons]; omega
            · simp only [List.length_cons]; omega
        · intro x hx
          obtain ⟨q1, q2, q3⟩ := fcP_g ha x hx
          have e2 : hgt 0 k = 3 + 2 * (6 - k) := rfl
          exact ⟨q1, q2, fun ts hts => q3 ts (by omega)⟩
    | 1 =>
      intro x hx
      unfold LPf at hx
      obtain ⟨y, h1, hx⟩ := bdP_l hx
      obtain ⟨z, h2, hx⟩ := bdP_l hx
      obtain ⟨a1, a2, a3⟩ := LPf_adv d 0 a k ha ht y h1
      obtain ⟨p1, p2, p3⟩ := ih 0 a k ha ht hk y h1
      obtain ⟨q1, q2, q3⟩ := ih 2 y.2 k a2 a3 hk z h2
      rw [← Sum.inl.inj hx]
      have e1 : hgt 0 k = 3 + 2 * (6 - k) := rfl
      have e2 : hgt 1 k = 4 + 2 * (6 - k) := rfl
      have e3 : hgt 2 k = 4 + 2 * (6 - k) := rfl
      exact ⟨by simp only [List.length_append]; omega, mem_app p2 q2, fun ts hts => TG_app (p3 ts (by omega)) (q3 ts (by omega))⟩
    | 2 =>
      intro x hx
      unfold LPf at hx
      have e1 : hgt 0 k = 3 + 2 * (6 - k) := rfl
      have e3 : hgt 2 k = 4 + 2 * (6 - k) := rfl
      split at hx
      · rename_i h
        have hg := nxt_gt (wdm_n0 h)
        obtain ⟨y, h1, hx⟩ := bdP_l hx
        obtain ⟨z, h2, hx⟩ := bdP_l hx
        obtain ⟨a1, a2, a3⟩ := LPf_adv d 0 _ k (nxt_le ha) nxt_tk y h1
        obtain ⟨p1, p2, p3⟩ := ih 0 _ k (nxt_le ha) nxt_tk hk y h1
        obtain ⟨q1, q2, q3⟩ := ih 2 y.2 k a2 a3 hk z h2
        rw [← Sum.inl.inj hx]
        refine ⟨?_, mem_app (mem_app p2 (okC_n ⟨12, by decide, rfl⟩)) q2, fun ts hts => TG_app (TG_app (p3 (true :: ts) (by simp only [List.length_cons]; omega)) (TG_1 (t := true :: ts) rfl ?_ ?_)) (q3 ts hts)⟩
        · simp only [List.length_append, List.length_cons, List.length_nil]; omega
        · simp only [List.length_cons]; omega
        · simp only [List.length_cons]; omega
      · rw [← Sum.inl.inj hx]
        exact ⟨by simp, fun c hc => absurd hc List.not_mem_nil, fun ts hts => ⟨rfl, by show ts.length + 1 ≤ 24; omega⟩⟩
    | 3 =>
      intro x hx
      unfold LPf at hx
      obtain ⟨y, h1, hx⟩ := bdP_l hx
      obtain ⟨z, h2, hx⟩ := bdP_l hx
      obtain ⟨a1, a2, a3⟩ := LPf_adv d 1 a k ha ht y h1
      obtain ⟨p1, p2, p3⟩ := ih 1 a k ha ht hk y h1
      obtain ⟨q1, q2, q3⟩ := ih 4 y.2 k a2 a3 hk z h2
      rw [← Sum.inl.inj hx]
      have e1 : hgt 1 k = 4 + 2 * (6 - k) := rfl
      have e2 : hgt 3 k = 5 + 2 * (6 - k) := rfl
      have e3 : hgt 4 k = 5 + 2 * (6 - k) := rfl
      exact ⟨by simp only [List.length_append]; omega, mem_app p2 q2, fun ts hts => TG_app (p3 ts (by omega)) (q3 ts (by omega))⟩
    | m + 4 =>
      intro x hx
      unfold LPf at hx
      have e1 : hgt 1 k = 4 + 2 * (6 - k) := rfl
      have e3 : hgt (m + 4) k = 5 + 2 * (6 - k) := by unfold hgt; rw [if_neg (by omega), if_neg (by omega)]
      have e4 : hgt 4 k = 5 + 2 * (6 - k) := rfl
      have ei : ∀ ts, inT (m + 4) ts = true :: ts := fun ts => if_pos (Or.inr (by omega))
      split at hx
      · rename_i h
        have hg := nxt_gt (wdm_n0 h)
        obtain ⟨y, h1, hx⟩ := bdP_l hx
        obtain ⟨z, h2, hx⟩ := bdP_l hx
        obtain ⟨a1, a2, a3⟩ := LPf_adv d 1 _ k (nxt_le ha) nxt_tk y h1
        obtain ⟨p1, p2, p3⟩ := ih 1 _ k (nxt_le ha) nxt_tk hk y h1
        obtain ⟨q1, q2, q3⟩ := ih 4 y.2 k a2 a3 hk z h2
        rw [← Sum.inl.inj hx]
        refine ⟨?_, mem_app (mem_app p2 (okC_n ⟨13, by decide, rfl⟩)) q2, fun ts hts => ?_⟩
        · simp only [List.length_append, List.length_cons, List.length_nil]; omega
        · rw [ei]
          refine TG_app (TG_app (p3 (true :: ts) (by simp only [List.length_cons]; omega)) (TG_1 (t := true :: ts) rfl ?_ ?_)) (q3 ts (by omega))
          · simp only [List.length_cons]; omega
          · simp only [List.length_cons]; omega
      · rw [← Sum.inl.inj hx]
        refine ⟨by simp, fun c hc => absurd hc List.not_mem_nil, fun ts hts => ?_⟩
        rw [ei]; exact ⟨rfl, by show ts.length + 1 ≤ 24; omega⟩
end LWT
