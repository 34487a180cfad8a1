/-! pure: the best of many, what follows -/
section BST
variable {good : Nat → Bool} {size : Nat → Nat}
def bfew (size : Nat → Nat) (s : Nat) : Option Nat → Bool
  | none => true
  | some c => decide (size s < size c)
def bno (size : Nat → Nat) (s : Nat) : Option Nat → Bool
  | none => true
  | some c => decide (size s ≤ size c)
/-- from the least up, only fewer -/
def upb (good : Nat → Bool) (size : Nat → Nat) : Nat → Option Nat
  | 0 => none
  | n + 1 => if bfew size n (upb good size n) && good n then some n else upb good size n
/-- from N - 1 down, no more -/
def dnb (good : Nat → Bool) (size : Nat → Nat) (N : Nat) : Nat → Option Nat
  | 0 => none
  | d + 1 => if bno size (N - 1 - d) (dnb good size N d) && good (N - 1 - d) then some (N - 1 - d) else dnb good size N d
def isB (good : Nat → Bool) (size : Nat → Nat) (P : Nat → Prop) (o : Option Nat) : Prop :=
  (o = none ∧ ∀ s, P s → good s = false) ∨ ∃ m, o = some m ∧ P m ∧ good m = true ∧ ∀ s, P s → good s = true → size m < size s ∨ (size m = size s ∧ m ≤ s)
theorem isB_one {P : Nat → Prop} {o o' : Option Nat} (h : isB good size P o) (h' : isB good size P o') : o = o' := by
  rcases h with ⟨h1, h2⟩ | ⟨m, h1, h2, h3, h4⟩ <;> rcases h' with ⟨k1, k2⟩ | ⟨n, k1, k2, k3, k4⟩
  · rw [h1, k1]
  · rw [h2 n k2] at k3; cases k3
  · rw [k2 m h2] at h3; cases h3
  · have a := h4 n k2 k3
    have b := k4 m h2 h3
    rw [h1, k1]; congr 1; omega
theorem upb_is (n : Nat) : isB good size (fun s => s < n) (upb good size n) := by
  induction n with
  | zero => exact Or.inl ⟨rfl, fun s h => absurd h (Nat.not_lt_zero s)⟩
  | succ n ih =>
    unfold upb
    rcases ih with ⟨h1, h2⟩ | ⟨m, h1, h2, h3, h4⟩
    · rw [h1]
      cases hg : good n with
      | true =>
        rw [if_pos (by rfl)]
        refine Or.inr ⟨n, rfl, by omega, hg, fun s hs hgs => ?_⟩
        by_cases e : s = n
        · subst e; exact Or.inr ⟨rfl, Nat.le_refl _⟩
        · rw [h2 s (by omega)] at hgs; cases hgs
      | false =>
        rw [if_neg (by simp)]
        refine Or.inl ⟨rfl, fun s hs => ?_⟩
        by_cases e : s = n
        · subst e; exact hg
        · exact h2 s (by omega)
    · rw [h1]
      by_cases hc : (bfew size n (some m) && good n) = true
      · rw [if_pos hc]
        simp only [bfew, Bool.and_eq_true, decide_eq_true_eq] at hc
        refine Or.inr ⟨n, rfl, by omega, hc.2, fun s hs hgs => ?_⟩
        by_cases e : s = n
        · subst e; exact Or.inr ⟨rfl, Nat.le_refl _⟩
        · have := h4 s (by omega) hgs; omega
      · rw [if_neg hc]
        refine Or.inr ⟨m, rfl, by omega, h3, fun s hs hgs => ?_⟩
        by_cases e : s = n
        · subst e
          simp only [bfew, hgs, Bool.and_true, decide_eq_true_eq] at hc
          omega
        · exact h4 s (by omega) hgs
theorem dnb_is {N : Nat} : ∀ d, d ≤ N → isB good size (fun s => N - d ≤ s ∧ s < N) (dnb good size N d) := by
  intro d
  induction d with
  | zero => intro _; exact Or.inl ⟨rfl, fun s h => by omega⟩
  | succ d ih =>
    intro hd
    have ih := ih (by omega)
    unfold dnb
    generalize hn : N - 1 - d = n
    rcases ih with ⟨h1, h2⟩ | ⟨m, h1, h2, h3, h4⟩
    · rw [h1]
      cases hg : good n with
      | true =>
        rw [if_pos (by rfl)]
        refine Or.inr ⟨n, rfl, by omega, hg, fun s hs hgs => ?_⟩
        by_cases e : s = n
        · subst e; exact Or.inr ⟨rfl, Nat.le_refl _⟩
        · rw [h2 s (by omega)] at hgs; cases hgs
      | false =>
        rw [if_neg (by simp)]
        refine Or.inl ⟨rfl, fun s hs => ?_⟩
        by_cases e : s = n
        · subst e; exact hg
        · exact h2 s (by omega)
    · rw [h1]
      by_cases hc : (bno size n (some m) && good n) = true
      · rw [if_pos hc]
        simp only [bno, Bool.and_eq_true, decide_eq_true_eq] at hc
        refine Or.inr ⟨n, rfl, by omega, hc.2, fun s hs hgs => ?_⟩
        by_cases e : s = n
        · subst e; exact Or.inr ⟨rfl, Nat.le_refl _⟩
        · have := h4 s (by omega) hgs; omega
      · rw [if_neg hc]
        refine Or.inr ⟨m, rfl, by omega, h3, fun s hs hgs => ?_⟩
        by_cases e : s = n
        · subst e
          simp only [bno, hgs, Bool.and_true, decide_eq_true_eq] at hc
          omega
        · exact h4 s (by omega) hgs
theorem upb_dnb (N : Nat) : upb good size N = dnb good size N N := by
  have h := upb_is (good := good) (size := size) N
  have h2 := dnb_is (good := good) (size := size) (N := N) N (Nat.le_refl _)
  refine isB_one (P := fun s => s < N) h ?_
  rcases h2 with ⟨k1, k2⟩ | ⟨n, k1, k2, k3, k4⟩
  · exact Or.inl ⟨k1, fun s hs => k2 s (by omega)⟩
  · exact Or.inr ⟨n, k1, k2.2, k3, fun s hs hg => k4 s (by omega) hg⟩
theorem upb_cong {good' : Nat → Bool} : ∀ {n : Nat}, (∀ s, s < n → good s = good' s) → upb good size n = upb good' size n := by
  intro n
  induction n with
  | zero => intro _; rfl
  | succ n ih => intro h; unfold upb; rw [ih (fun s hs => h s (by omega)), h n (by omega)]
theorem upb_some {n m : Nat} (h : upb good size n = some m) : m < n ∧ good m = true := by
  rcases upb_is (good := good) (size := size) n with ⟨h1, -⟩ | ⟨k, h1, h2, h3, -⟩
  · rw [h1] at h; cases h
  · rw [h1] at h; cases h; exact ⟨h2, h3⟩
theorem dnb_some {N d m : Nat} (hd : d ≤ N) (h : dnb good size N d = some m) : m < N ∧ N - d ≤ m ∧ good m = true := by
  rcases dnb_is (good := good) (size := size) d hd with ⟨h1, -⟩ | ⟨k, h1, h2, h3, -⟩
  · rw [h1] at h; cases h
  · rw [h1] at h; cases h; exact ⟨h2.2, h2.1, h3⟩
end BST
/-! what follows by rules -/
def rr (w : WD) (k j : Nat) : Nat := nx (w.1 (79 + 3 * k + j))
def rst (w : WD) (k : Nat) (b : Int32) : Int32 := if bt b (rr w k 0) && bt b (rr w k 1) then b ||| ((1 : Int32) <<< (nI (rr w k 2) &&& 31)) else b ||| 0
def rnd (w : WD) : Nat → Int32 → Int32
  | 0, x => x
  | n + 1, x => rst w n (rnd w n x)
/-- a step over and over -/
def it (f : Int32 → Int32) : Nat → Int32 → Int32
  | 0, x => x
  | n + 1, x => f (it f n x)
theorem it_st {f : Int32 → Int32} {r : Nat} {x : Int32} (h : it f (r + 1) x = it f r x) : ∀ m, r ≤ m → it f m x = it f r x := by
  intro m
  induction m with
  | zero => intro h0; have : r = 0 := by omega
            subst this; rfl
  | succ m ih =>
    intro h0
    by_cases e : r = m + 1
    · rw [e]
    · have := ih (by omega)
      show f (it f m x) = _
      rw [this]; exact h
theorem it_10 {f : Int32 → Int32} {x : Int32} (hm : ∀ b i, bt b i = true → bt (f b) i = true) (hi : ∀ n i, 10 ≤ i → i < 32 → bt (it f n x) i = false) : it f 11 x = it f 10 x := by
  have step : ∀ n, it f (n + 1) x = it f n x ∨ ct (bt (it f n x)) 10 < ct (bt (it f (n + 1) x)) 10 := by
    intro n
    by_cases e : it f (n + 1) x = it f n x
    · exact Or.inl e
    · right
      have : ∃ j, j < 10 ∧ bt (it f n x) j = false ∧ bt (it f (n + 1) x) j = true := by
        refine Classical.byContradiction fun hno => e (b_ext fun i hi32 => ?_)
        by_cases q : i < 10
        · cases h1 : bt (it f n x) i with
          | true => exact hm _ _ h1
          | false =>
            cases h2 : bt (it f (n + 1) x) i with
            | false => rfl
            | true => exact absurd ⟨i, q, h1, h2⟩ hno
        · rw [hi (n + 1) i (by omega) hi32, hi n i (by omega) hi32]
      obtain ⟨j, j1, j2, j3⟩ := this
      exact ct_lt (fun i _ hb => hm _ _ hb) j1 j2 j3
  have key : ∀ n, (∃ r, r ≤ n ∧ it f (r + 1) x = it f r x) ∨ n + 1 ≤ ct (bt (it f (n + 1) x)) 10 := by
    intro n
    induction n with
    | zero => rcases step 0 with e | e
              · exact Or.inl ⟨0, Nat.le_refl _, e⟩
              · exact Or.inr (by omega)
    | succ n ih =>
      rcases ih with ⟨r, h1, h2⟩ | h1
      · exact Or.inl ⟨r, by omega, h2⟩
      · rcases step (n + 1) with e | e
        · exact Or.inl ⟨n + 1, Nat.le_refl _, e⟩
        · exact Or.inr (by omega)
  rcases key 10 with ⟨r, h1, h2⟩ | h1
  · rw [it_st h2 11 (by omega), it_st h2 10 h1]
  · have h1 : 10 + 1 ≤ ct (bt (it f 11 x)) 10 := h1
    have := ct_le (bt (it f 11 x)) 10; omega
theorem it_eq {f : Int32 → Int32} {x : Int32} (h11 : it f 11 x = it f 10 x) {r : Nat} (e : it f (r + 1) x = it f r x) : it f r x = it f 10 x := by
  rcases Nat.lt_or_ge 10 r with q | q
  · exact it_st h11 r (by omega)
  · exact (it_st e 10 q).symm
def clo (w : WD) (n : Nat) (x : Int32) : Int32 := it (rnd w (ru w)) n x
section CLO
variable {w : WD}
theorem wf_rr (h : WFs w) {k j : Nat} (hk : k < ru w) (hj : j < 3) : w.1 (79 + 3 * k + j) = nI (rr w k j) ∧ rr w k j < th w := by
  obtain ⟨n, h1, h2⟩ := h.2.2.2.2.2.2.2.2.1 k hk j hj
  have t10 := (wf_th h).2
  have : rr w k j = n := by unfold rr; rw [h2, nx_nI (by omega)]
  rw [this]; exact ⟨h2, h1⟩
theorem rst_mono {k i : Nat} {b : Int32} (h : bt b i = true) : bt (rst w k b) i = true := by
  unfold rst; split <;> rw [b_or, h] <;> rfl
theorem rnd_mono {n i : Nat} {b : Int32} (h : bt b i = true) : bt (rnd w n b) i = true := by
  induction n with
  | zero => exact h
  | succ n ih => exact rst_mono ih
theorem rnd_hi (hw : WFs w) {m : Nat} (hm : th w ≤ m) {x : Int32} (h : ∀ i, m ≤ i → i < 32 → bt x i = false) : ∀ n, n ≤ ru w → ∀ i, m ≤ i → i < 32 → bt (rnd w n x) i = false := by
  intro n
  have t10 := (wf_th hw).2
  induction n with
  | zero => intro _; exact h
  | succ n ih =>
    intro hn i h1 h2
    show bt (rst w n (rnd w n x)) i = false
    have := ih (by omega) i h1 h2
    have h3 := (wf_rr hw (k := n) (j := 2) (by omega) (by decide)).2
    unfold rst; split
    · rw [b_or, this, b_1s (by omega) h2]; simp; omega
    · rw [b_or, this, b_0]; rfl
theorem clo_hi (hw : WFs w) {m : Nat} (hm : th w ≤ m) {x : Int32} (h : ∀ i, m ≤ i → i < 32 → bt x i = false) (n : Nat) : ∀ i, m ≤ i → i < 32 → bt (clo w n x) i = false := by
  induction n with
  | zero => exact h
  | succ n ih => exact rnd_hi hw hm ih (ru w) (Nat.le_refl _)
theorem clo_st {r : Nat} {x : Int32} (h : clo w (r + 1) x = clo w r x) : ∀ m, r ≤ m → clo w m x = clo w r x := it_st h
theorem clo_10 (hw : WFs w) {x : Int32} (h : ∀ i, 10 ≤ i → i < 32 → bt x i = false) : clo w 11 x = clo w 10 x := by
  have t10 := (wf_th hw).2
  exact it_10 (fun b i => rnd_mono) (clo_hi hw t10 h)
theorem clo_eq (hw : WFs w) {x : Int32} (h : ∀ i, 10 ≤ i → i < 32 → bt x i = false) {r : Nat} (e : clo w (r + 1) x = clo w r x) : clo w r x = clo w 10 x := it_eq (clo_10 hw h) e
end CLO
theorem need2 {x : Int32} {a b : Nat} (ha : a < 32) (hb : b < 32) : (x &&& (((1 : Int32) <<< (nI a &&& 31)) ||| ((1 : Int32) <<< (nI b &&& 31)))) = (((1 : Int32) <<< (nI a &&& 31)) ||| ((1 : Int32) <<< (nI b &&& 31))) ↔ (bt x a && bt x b) = true := by
  constructor
  · intro h
    have h1 := congrArg (fun y => bt y a) h
    have h2 := congrArg (fun y => bt y b) h
    simp only [b_and, b_or, b_1s ha ha, b_1s hb ha, b_1s ha hb, b_1s hb hb, decide_true, Bool.true_or, Bool.or_true, Bool.and_true] at h1 h2
    rw [h1, h2]; rfl
  · intro h
    rw [Bool.and_eq_true] at h
    apply b_ext; intro i hi
    rw [b_and, b_or, b_1s ha hi, b_1s hb hi]
    by_cases e1 : i = a
    · subst e1; simp [h.1]
    · by_cases e2 : i = b
      · subst e2; simp [h.2]
      · simp [e1, e2]
