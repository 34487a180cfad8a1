/-! what is said of a school: its world as the reference lays it (the ints, the store) -/
abbrev WD : Type := (Nat → Int32) × Int64
def wv (μ : Mem) : WD := (mI μ 141, mL μ 140 6)
def th (w : WD) : Nat := nx (w.1 0)
def pe (w : WD) : Nat := nx (w.1 1)
def ru (w : WD) : Nat := nx (w.1 2)
def wo (w : WD) (t : Nat) : Nat := nx (w.1 (9 + t))
def pf (w : WD) (p k : Nat) : Int32 := w.1 (19 + 6 * p + k)
def kno (w : WD) (p t : Nat) : Bool := bt (pf w p 4) t
def her (w : WD) (p : Nat) : Bool := decide (pf w p 5 = 0)
def sai (w : WD) (t q : Nat) : Bool := bl w.2 (6 * t + q)
def lg (w : WD) : Nat := nx (w.1 7)
def lw (w : WD) (r c : Nat) : Int32 := w.1 (115 + 15 * r + c)
def li (w : WD) : Nat := if w.1 4 = 1 then nx (w.1 1015) else 0
def ln (w : WD) (n k : Nat) : Int32 := w.1 (1016 + 4 * n + k)
def lst (w : WD) (n : Nat) : Nat := nx (ln w n 2)
def len (w : WD) (n : Nat) : Nat := nx (ln w n 3)
def enc (s n : Int32) : Int32 := if s = 8 then n else if s ≤ 7 then -1 - s else -s
def cod (w : WD) (i : Nat) : Int32 := enc (w.1 (1064 + 2 * i)) (w.1 (1065 + 2 * i))
/-- the code's types: true what is 0 or 1 -/
def tyS (c : Int32) (ts : List Bool) : Option (List Bool) :=
  if -8 ≤ c then some (decide (c = -8) :: ts)
  else if c = -12 then (match ts with | true :: r => some (true :: r) | _ => none)
  else if c = -9 then (match ts with | false :: false :: r => some (false :: r) | _ => none)
  else if c = -10 ∨ c = -11 then (match ts with | false :: false :: r => some (true :: r) | _ => none)
  else if c = -13 ∨ c = -14 then (match ts with | true :: true :: r => some (true :: r) | _ => none)
  else none
def tyR (cd : Nat → Int32) (s : Nat) : Nat → Option (List Bool)
  | 0 => some []
  | n + 1 => (tyR cd s n).bind (tyS (cd (s + n)))
def TYl (cd : Nat → Int32) (s n : Nat) : Prop := (n = 0 ∨ tyR cd s n = some [true]) ∧ ∀ k, k ≤ n → ∃ ts, tyR cd s k = some ts ∧ ts.length ≤ 24
def cok (s n : Int32) : Prop := (∃ m, m ≤ 999 ∧ s = 8 ∧ n = nI m) ∨ ∃ j, j ≤ 14 ∧ j ≠ 8 ∧ s = nI j
def WFl (w : WD) : Prop := (w.1 4 = 0 ∨ w.1 4 = 1) ∧ (w.1 4 = 1 → ∃ n, n ≤ 12 ∧ w.1 1015 = nI n) ∧ ∀ n, n < li w →
  (ln w n 0 = 1 ∨ ln w n 0 = -1 ∨ ln w n 0 = 0) ∧ (∃ a, a ≤ 99 ∧ ln w n 1 = nI a) ∧ (ln w n 2 = if n = 0 then 0 else ln w (n - 1) 3) ∧ (∃ e, e ≤ 400 ∧ ln w n 3 = nI e ∧ lst w n ≤ e) ∧ TYl (cod w) (lst w n) (len w n - lst w n) ∧ ∀ i, i < len w n → cok (w.1 (1064 + 2 * i)) (w.1 (1065 + 2 * i))
def WFp (w : WD) (p : Nat) : Prop := (∃ x, x ≤ 9 ∧ pf w p 0 = nI x) ∧ (∃ x, x ≤ 9 ∧ pf w p 1 = nI x) ∧ (∃ x, x ≤ 9 ∧ pf w p 2 = nI x) ∧ (∃ x, x ≤ 100 ∧ pf w p 3 = nI x) ∧ (∀ i, th w ≤ i → i < 32 → bt (pf w p 4) i = false) ∧ (pf w p 5 = 0 ∨ pf w p 5 = 1) ∧ (pe w ≤ p → pf w p 5 = 0)
def WFr (w : WD) (r : Nat) : Prop := (∃ n, n < pe w ∧ lw w r 1 = nI n) ∧ (∃ n, n < 6 * th w ∧ lw w r 2 = nI n) ∧ (∀ i, pe w ≤ i → i < 32 → bt (lw w r 3) i = false) ∧ (lw w r 4 = 0 ∨ lw w r 4 = 1) ∧ ∀ p, p < 10 → (bt (lw w r 3) p = true → ∃ n, n < th w ∧ lw w r (5 + p) = nI n) ∧ (bt (lw w r 3) p = false → lw w r (5 + p) = -1)
def WFs (w : WD) : Prop := (∃ n, n ≤ 10 ∧ w.1 0 = nI n) ∧ (∃ n, n ≤ 10 ∧ w.1 1 = nI n) ∧ (∃ n, n ≤ 12 ∧ w.1 2 = nI n) ∧ (∃ n, n ≤ 12 ∧ w.1 3 = nI n) ∧ (∃ n, n ≤ 9 ∧ w.1 6 = nI n) ∧ (∃ n, n ≤ 60 ∧ w.1 7 = nI n) ∧
  (∀ t, t < 10 → ∃ n, n ≤ 6 ∧ w.1 (9 + t) = nI n ∧ (t < th w → 1 ≤ n) ∧ (th w ≤ t → n = 0)) ∧ (∀ p, p < 10 → WFp w p) ∧ (∀ k, k < ru w → ∀ j, j < 3 → ∃ n, n < th w ∧ w.1 (79 + 3 * k + j) = nI n) ∧
  (∀ t, t < 10 → ∀ q, q < 6 → sai w t q = true → q < wo w t) ∧ lg w ≤ ct (bl w.2) 60 ∧ ∀ r, r < lg w → WFr w r
def WF (w : WD) : Prop := WFs w ∧ WFl w
section WFX
variable {w : WD}
theorem nx_of {x : Int32} {n m : Nat} (h : n ≤ m) (hm : m < 2 ^ 31) (e : x = nI n) : x = nI (nx x) ∧ nx x ≤ m := by
  rw [e, nx_nI (by omega)]; exact ⟨rfl, h⟩
theorem wf_th (h : WFs w) : w.1 0 = nI (th w) ∧ th w ≤ 10 := by obtain ⟨⟨n, h1, h2⟩, -⟩ := h; exact nx_of h1 (by decide) h2
theorem wf_pe (h : WFs w) : w.1 1 = nI (pe w) ∧ pe w ≤ 10 := by obtain ⟨-, ⟨n, h1, h2⟩, -⟩ := h; exact nx_of h1 (by decide) h2
theorem wf_ru (h : WFs w) : w.1 2 = nI (ru w) ∧ ru w ≤ 12 := by obtain ⟨-, -, ⟨n, h1, h2⟩, -⟩ := h; exact nx_of h1 (by decide) h2
theorem wf_tx (h : WFs w) : ∃ n, n ≤ 12 ∧ w.1 3 = nI n := h.2.2.2.1
theorem wf_ld (h : WFs w) : ∃ n, n ≤ 9 ∧ w.1 6 = nI n := h.2.2.2.2.1
theorem wf_lg (h : WFs w) : w.1 7 = nI (lg w) ∧ lg w ≤ 60 := by obtain ⟨-, -, -, -, -, ⟨n, h1, h2⟩, -⟩ := h; exact nx_of h1 (by decide) h2
theorem wf_wo (h : WFs w) {t : Nat} (ht : t < 10) : w.1 (9 + t) = nI (wo w t) ∧ wo w t ≤ 6 ∧ (t < th w → 1 ≤ wo w t) ∧ (th w ≤ t → wo w t = 0) := by
  obtain ⟨n, h1, h2, h3, h4⟩ := h.2.2.2.2.2.2.1 t ht
  have : wo w t = n := by show nx (w.1 (9 + t)) = n; rw [h2, nx_nI (by omega)]
  rw [this]; exact ⟨h2, h1, h3, h4⟩
end WFX
def apa (w : WD) (p q : Nat) : Int32 := mmax (mabs (pf w p 0 - pf w q 0)) (mabs (pf w p 1 - pf w q 1))
/-- what a saying's facts are: who, the thing, the wording, whom, whether that one knows the thing -/
def fac (w : WD) (who t q whom : Nat) (k : Bool) (c : Int32) : Int32 :=
  if 0 ≤ c then c else if c = -1 then nI t else if c = -2 then nI q else if c = -3 then nI who else if c = -4 then nI whom else if c = -5 then apa w who whom else if c = -6 then pf w whom 2 else if c = -7 then w.1 5 else b2i k
def opr (c a b : Int32) : Int32 := if c = -9 then a + b else if c = -10 then (if a < b then 1 else 0) else if c = -11 then (if b < a then 1 else 0) else if c = -13 then a &&& b else a ||| b
def stp (F : Int32 → Int32) (c : Int32) (st : List Int32) : List Int32 :=
  if -8 ≤ c then F c :: st else if c = -12 then (match st with | x :: r => (1 - x) :: r | [] => []) else match st with
    | b :: a :: r => opr c a b :: r
    | r => r
def rns (cd : Nat → Int32) (F : Int32 → Int32) (s : Nat) : Nat → List Int32
  | 0 => []
  | n + 1 => stp F (cd (s + n)) (rns cd F s n)
def top0 : List Int32 → Bool
  | [] => true
  | x :: _ => decide (¬ x = 0)
def hol (w : WD) (F : Int32 → Int32) (n : Nat) : Bool := top0 (rns (cod w) F (lst w n) (len w n - lst w n))
def smN (w : WD) (F : Int32 → Int32) (kd : Int32) : Nat → Nat
  | 0 => 0
  | n + 1 => smN w F kd n + if ln w n 0 = kd ∧ hol w F n = true then nx (ln w n 1) else 0
def smm (w : WD) (F : Int32 → Int32) (kd : Int32) : Nat := smN w F kd (li w)
def hea (w : WD) (who t q whom : Nat) (k : Bool) : Bool := decide (apa w who whom ≤ pf w whom 2 + w.1 6 + nI (smm w (fac w who t q whom k) 1) - nI (smm w (fac w who t q whom k) (-1)))
def tk (w : WD) (who t q whom : Nat) (k : Bool) : Option Nat := if her w who && (her w whom && hea w who t q whom k) then some ((t + smm w (fac w who t q whom k) 0) % th w) else none
def tk0 (w : WD) (who t q p : Nat) : Option Nat := if p = who then none else tk w who t q p (kno w p t)
theorem tk_lt {w : WD} {who t q p a : Nat} {k : Bool} (h0 : 0 < th w) (h : tk w who t q p k = some a) : a < th w := by
  unfold tk at h
  split at h
  · rw [← Option.some.inj h]; exact Nat.mod_lt _ h0
  · cases h
theorem tk0_lt {w : WD} {who t q p a : Nat} (h0 : 0 < th w) (h : tk0 w who t q p = some a) : a < th w := by
  unfold tk0 at h
  split at h
  · cases h
  · exact tk_lt h0 h
theorem tk0_here {w : WD} {who t q p a : Nat} (h : tk0 w who t q p = some a) : her w p = true ∧ her w who = true ∧ p ≠ who := by
  unfold tk0 at h
  split at h
  · cases h
  · unfold tk at h
    split at h
    · rename_i h1 h2
      simp only [Bool.and_eq_true] at h2
      exact ⟨h2.2.1, h2.1, h1⟩
    · cases h
/-- alike in all that sayings rest on, but what people know -/
def smT (w v : WD) : Prop := ∀ j, ¬ (23 ≤ j ∧ j < 79 ∧ j % 6 = 5) → ¬ (7 ≤ j ∧ j ≤ 8) → ¬ (115 ≤ j ∧ j < 1015) → w.1 j = v.1 j
theorem smT_rfl {w : WD} : smT w w := fun _ _ _ _ => Eq.refl _
theorem smT_symm {w v : WD} (h : smT w v) : smT v w := fun j a b c => (h j a b c).symm
theorem smT_trans {w v u : WD} (h : smT w v) (h2 : smT v u) : smT w u := fun j a b c => (h j a b c).trans (h2 j a b c)
section SMT
variable {w v : WD}
theorem smT_pf (h : smT w v) {p k : Nat} (hp : p < 10) (hk : k < 6) (h4 : k ≠ 4) : pf w p k = pf v p k := h _ (by omega) (by omega) (by omega)
theorem smT_th (h : smT w v) : th w = th v := congrArg nx (h 0 (by omega) (by omega) (by omega))
theorem smT_pe (h : smT w v) : pe w = pe v := congrArg nx (h 1 (by omega) (by omega) (by omega))
theorem smT_her (h : smT w v) {p : Nat} (hp : p < 10) : her w p = her v p := by unfold her; rw [smT_pf h hp (by omega) (by omega)]
theorem smT_apa (h : smT w v) {p q : Nat} (hp : p < 10) (hq : q < 10) : apa w p q = apa v p q := by
  unfold apa; rw [smT_pf h hp (k := 0) (by omega) (by omega), smT_pf h hq (k := 0) (by omega) (by omega), smT_pf h hp (k := 1) (by omega) (by omega), smT_pf h hq (k := 1) (by omega) (by omega)]
theorem smT_ln (h : smT w v) (n k : Nat) : ln w n k = ln v n k := h _ (by omega) (by omega) (by omega)
theorem smT_li (h : smT w v) : li w = li v := by unfold li; rw [h 4 (by omega) (by omega) (by omega), h 1015 (by omega) (by omega) (by omega)]
theorem smT_cod (h : smT w v) : cod w = cod v := by funext i; unfold cod; rw [h _ (by omega) (by omega) (by omega), h (1065 + 2 * i) (by omega) (by omega) (by omega)]
theorem smT_fac (h : smT w v) {who t q p : Nat} {k : Bool} (hw : who < 10) (hp : p < 10) : fac w who t q p k = fac v who t q p k := by
  funext c; unfold fac; rw [smT_apa h hw hp, smT_pf h hp (k := 2) (by omega) (by omega), h 5 (by omega) (by omega) (by omega)]
theorem smT_smm (h : smT w v) (F : Int32 → Int32) (kd : Int32) : smm w F kd = smm v F kd := by
  unfold smm; rw [smT_li h]
  generalize li v = m
  induction m with
  | zero => exact Eq.refl _
  | succ n ih => unfold smN; rw [ih]; unfold hol lst len; rw [smT_ln h, smT_ln h, smT_ln h, smT_ln h, smT_cod h]
theorem smT_tk (h : smT w v) {who t q p : Nat} {k : Bool} (hw : who < 10) (hp : p < 10) : tk w who t q p k = tk v who t q p k := by
  unfold tk hea
  rw [smT_her h hw, smT_her h hp, smT_apa h hw hp, smT_pf h hp (k := 2) (by omega) (by omega), h 6 (by omega) (by omega) (by omega), smT_fac h hw hp, smT_smm h, smT_smm h, smT_smm h, smT_th h]
end SMT
/-! what lasts between calls, and what is scratch -/
def scr (k j : Nat) : Bool :=
  (Nat.ble 29 k && Nat.ble k 33) || ((Nat.ble 65 k && Nat.ble k 90) || ((Nat.ble 20 k && Nat.ble k 21) || ((Nat.beq k 1 && Nat.ble 3 j) || ((Nat.beq k 15 && Nat.ble 8 j) || ((Nat.ble 143 k && Nat.ble k 144) || (Nat.ble 148 k || (Nat.beq k 140 && (Nat.beq j 0 || ((Nat.ble 8 j && Nat.ble j 9) || ((Nat.ble 15 j && Nat.ble j 18) || Nat.ble 21 j))))))))))
/-- a memory without what z calls scratch -/
def Lz (z : Nat → Nat → Bool) (μ : Mem) : Mem := (mP μ, (fun k j => bif z k j then 0 else mI μ k j), fun k j => bif z k j then 0 else mL μ k j)
def Lv (μ : Mem) : Mem := Lz scr μ
theorem Lz_I {z : Nat → Nat → Bool} {μ : Mem} {k j : Nat} {x : Int32} (h : z k j = true) : Lz z (sI μ k j x) = Lz z μ := by
  unfold Lz
  refine Prod.ext rfl (Prod.ext ?_ rfl)
  funext a b
  show (bif z a b then 0 else u2 (mI μ) k j x a b) = (bif z a b then 0 else mI μ a b)
  by_cases e : a = k ∧ b = j
  · rw [e.1, e.2, h]; rfl
  · have : u2 (mI μ) k j x a b = mI μ a b := by
      unfold u2
      by_cases e1 : a = k
      · rw [if_pos e1, if_neg (fun e2 => e ⟨e1, e2⟩)]
      · rw [if_neg e1]
    rw [this]
theorem Lz_L {z : Nat → Nat → Bool} {μ : Mem} {k j : Nat} {x : Int64} (h : z k j = true) : Lz z (sL μ k j x) = Lz z μ := by
  unfold Lz
  refine Prod.ext rfl (Prod.ext rfl ?_)
  funext a b
  show (bif z a b then 0 else u2 (mL μ) k j x a b) = (bif z a b then 0 else mL μ a b)
  by_cases e : a = k ∧ b = j
  · rw [e.1, e.2, h]; rfl
  · have : u2 (mL μ) k j x a b = mL μ a b := by
      unfold u2
      by_cases e1 : a = k
      · rw [if_pos e1, if_neg (fun e2 => e ⟨e1, e2⟩)]
      · rw [if_neg e1]
    rw [this]
theorem Lz_RI {z : Nat → Nat → Bool} {μ : Mem} {k : Nat} {f : Nat → Int32} (h : ∀ j, z k j = true) : Lz z (sRI μ k f) = Lz z μ := by
  unfold Lz
  refine Prod.ext rfl (Prod.ext ?_ rfl)
  funext a b
  show (bif z a b then 0 else if a = k then f b else mI μ a b) = (bif z a b then 0 else mI μ a b)
  by_cases e : a = k
  · rw [e, h b]; rfl
  · rw [if_neg e]
theorem Lz_RL {z : Nat → Nat → Bool} {μ : Mem} {k : Nat} {f : Nat → Int64} (h : ∀ j, z k j = true) : Lz z (sRL μ k f) = Lz z μ := by
  unfold Lz
  refine Prod.ext rfl (Prod.ext rfl ?_)
  funext a b
  show (bif z a b then 0 else if a = k then f b else mL μ a b) = (bif z a b then 0 else mL μ a b)
  by_cases e : a = k
  · rw [e, h b]; rfl
  · rw [if_neg e]
theorem Lz_up {z z' : Nat → Nat → Bool} {μ μ' : Mem} (h : ∀ k j, z k j = true → z' k j = true) (e : Lz z μ' = Lz z μ) : Lz z' μ' = Lz z' μ := by
  have key : ∀ ν : Mem, Lz z' (Lz z ν) = Lz z' ν := by
    intro ν
    unfold Lz
    refine Prod.ext rfl (Prod.ext ?_ ?_) <;> funext a b
    · show (bif z' a b then 0 else bif z a b then 0 else mI ν a b) = (bif z' a b then 0 else mI ν a b)
      cases h1 : z' a b with
      | true => rfl
      | false =>
        cases h2 : z a b with
        | true => rw [h a b h2] at h1; cases h1
        | false => rfl
    · show (bif z' a b then 0 else bif z a b then 0 else mL ν a b) = (bif z' a b then 0 else mL ν a b)
      cases h1 : z' a b with
      | true => rfl
      | false =>
        cases h2 : z a b with
        | true => rw [h a b h2] at h1; cases h1
        | false => rfl
  rw [← key, e, key]
/-- the scratch of 'taken' -/
def zT (k j : Nat) : Bool := (Nat.ble 20 k && Nat.ble k 21) || (Nat.beq k 15 && Nat.ble 8 j)
theorem zT_scr {μ μ' : Mem} (e : Lz zT μ' = Lz zT μ) : Lv μ' = Lv μ := Lz_up (fun k j h => by
  unfold zT at h; unfold scr
  revert h
  cases Nat.ble 20 k && Nat.ble k 21 <;> cases (Nat.beq k 15 && Nat.ble 8 j) <;> simp) e
theorem fI {α : Type} (f : Mem → α) {z : Nat → Nat → Bool} {μ μ' : Mem} (e : Lz z μ' = Lz z μ) : f (Lz z μ') = f (Lz z μ) := congrArg f e
/-! how the class holds a world -/
def RSet (b : Nat) (μ : Mem) (w : WD) : Prop := mI μ b 0 = w.1 0 ∧ mI μ b 2 = w.1 1 ∧ mI μ b 5 = w.1 2 ∧ mI μ b 9 = w.1 6 ∧ mI μ b 10 = w.1 3 ∧ (∀ t, t < 10 → mI μ (b + 1) t = w.1 (9 + t)) ∧ (∀ p, p < 10 → mI μ (b + 2) p = pf w p 2 ∧ mI μ (b + 3) p = pf w p 3) ∧
  ∀ k, k < 12 → mI μ (b + 4) k = w.1 (79 + 3 * k) ∧ mI μ (b + 5) k = w.1 (79 + 3 * k + 1) ∧ mI μ (b + 6) k = w.1 (79 + 3 * k + 2)
def RSta (b : Nat) (μ : Mem) (w : WD) : Prop := mL μ b 0 = w.2 ∧ mI μ b 5 = w.1 5 ∧ mI μ b 6 = w.1 8 ∧ mI μ b 7 = w.1 7 ∧ (∀ p, p < 10 → mI μ (b + 1) p = pf w p 4 ∧ mI μ (b + 2) p = pf w p 0 ∧ mI μ (b + 3) p = pf w p 1) ∧ mI μ b 4 = msk 10 (fun p => !her w p)
def nib (x : Int64) (p : Nat) : Int32 := (lush x (nI (4 * p))).toInt32 &&& 15
def RLog (b : Nat) (μ : Mem) (w : WD) : Prop := (∀ r, r < lg w → mI μ (b + 1) (lg w - 1 - r) = lw w r 0 ∧ mI μ (b + 2) (lg w - 1 - r) = lw w r 1 ∧ mI μ (b + 3) (lg w - 1 - r) = lw w r 2 ∧ mI μ (b + 4) (lg w - 1 - r) = lw w r 3 ∧ mI μ (b + 6) (lg w - 1 - r) = lw w r 4 ∧
    ∀ p, p < 10 → bt (lw w r 3) p = true → nib (mL μ (b + 5) (lg w - 1 - r)) p = lw w r (5 + p)) ∧ ∀ k, k < 60 → mI μ (b + 6) k = 0 ∨ mI μ (b + 6) k = 1
def kdc (x : Int32) : Int32 := if x = 1 then 0 else if x = -1 then 1 else 2
def cle (w : WD) : Nat := if li w = 0 then 0 else len w (li w - 1)
def RLaw (b : Nat) (μ : Mem) (w : WD) : Prop := mI μ b 0 = (if w.1 4 = 1 then w.1 1015 else -1) ∧ mI μ b 5 = nI (cle w) ∧ (∀ n, n < li w → mI μ (b + 1) n = kdc (ln w n 0) ∧ mI μ (b + 2) n = ln w n 1 ∧ mI μ (b + 3) n = ln w n 3) ∧ ∀ i, i < cle w → mI μ (b + 4) i = cod w i
def CR (μ : Mem) (w : WD) : Prop := RSet 4 μ w ∧ RSta 11 μ w ∧ RLaw 15 μ w ∧ RLog 22 μ w
/-- the class's school is this world, a right one -/
def CI (μ : Mem) (w : WD) : Prop := CR μ w ∧ WF w
theorem CR_Lv {μ : Mem} {w : WD} : CR (Lv μ) w ↔ CR μ w := Iff.rfl
theorem CI.lv {μ μ' : Mem} {w : WD} (h : CI μ w) (e : Lv μ' = Lv μ) : CI μ' w := ⟨CR_Lv.mp (by rw [e]; exact CR_Lv.mpr h.1), h.2⟩
/-- the reference's -/
def MW (μ : Mem) (w : WD) : Prop := wv μ = w ∧ WF w
theorem MW.lv {μ μ' : Mem} {w : WD} (h : MW μ w) (e : Lv μ' = Lv μ) : MW μ' w := ⟨(congrArg wv e : wv (Lv μ') = wv (Lv μ)).trans h.1, h.2⟩
section CIX
variable {μ : Mem} {w : WD}
theorem ci_th (c : CI μ w) : mI μ 4 0 = nI (th w) := c.1.1.1.trans (wf_th c.2.1).1
theorem ci_pe (c : CI μ w) : mI μ 4 2 = nI (pe w) := c.1.1.2.1.trans (wf_pe c.2.1).1
theorem ci_ru (c : CI μ w) : mI μ 4 5 = nI (ru w) := c.1.1.2.2.1.trans (wf_ru c.2.1).1
theorem ci_wo (c : CI μ w) {t : Nat} (h : t < 10) : mI μ 5 t = nI (wo w t) := (c.1.1.2.2.2.2.2.1 t h).trans (wf_wo c.2.1 h).1
theorem ci_ear (c : CI μ w) {p : Nat} (h : p < 10) : mI μ 6 p = pf w p 2 := (c.1.1.2.2.2.2.2.2.1 p h).1
theorem ci_stm (c : CI μ w) {p : Nat} (h : p < 10) : mI μ 7 p = pf w p 3 := (c.1.1.2.2.2.2.2.2.1 p h).2
theorem ci_rul (c : CI μ w) {k : Nat} (h : k < 12) : mI μ 8 k = w.1 (79 + 3 * k) ∧ mI μ 9 k = w.1 (79 + 3 * k + 1) ∧ mI μ 10 k = w.1 (79 + 3 * k + 2) := c.1.1.2.2.2.2.2.2.2 k h
theorem ci_sto (c : CI μ w) : mL μ 11 0 = w.2 := c.1.2.1.1
theorem ci_day (c : CI μ w) : mI μ 11 5 = w.1 5 := c.1.2.1.2.1
theorem ci_see (c : CI μ w) : mI μ 11 6 = w.1 8 := c.1.2.1.2.2.1
theorem ci_row (c : CI μ w) : mI μ 11 7 = nI (lg w) := c.1.2.1.2.2.2.1.trans (wf_lg c.2.1).1
theorem ci_kn (c : CI μ w) {p : Nat} (h : p < 10) : mI μ 12 p = pf w p 4 := (c.1.2.1.2.2.2.2.1 p h).1
theorem ci_x (c : CI μ w) {p : Nat} (h : p < 10) : mI μ 13 p = pf w p 0 := (c.1.2.1.2.2.2.2.1 p h).2.1
theorem ci_y (c : CI μ w) {p : Nat} (h : p < 10) : mI μ 14 p = pf w p 1 := (c.1.2.1.2.2.2.2.1 p h).2.2
theorem ci_abs (c : CI μ w) : mI μ 11 4 = msk 10 (fun p => !her w p) := c.1.2.1.2.2.2.2.2
theorem ci_p10 (c : CI μ w) : pe w ≤ 10 := (wf_pe c.2.1).2
theorem ci_t10 (c : CI μ w) : th w ≤ 10 := (wf_th c.2.1).2
end CIX
theorem rdI1 {z : Nat → Nat → Bool} {μ μ' : Mem} {k j : Nat} (e : Lz z μ' = Lz z μ) (h : z k j = false) : mI μ' k j = mI μ k j := by
  have key : ∀ ν : Mem, mI (Lz z ν) k j = mI ν k j := fun ν => by show (bif z k j then 0 else mI ν k j) = _; rw [h]; rfl
  rw [← key μ', ← key μ, e]
theorem rdI {z : Nat → Nat → Bool} {μ μ' : Mem} {k : Nat} (e : Lz z μ' = Lz z μ) (h : ∀ j, z k j = false) : mI μ' k = mI μ k := funext fun j => rdI1 e (h j)
theorem rdL1 {z : Nat → Nat → Bool} {μ μ' : Mem} {k j : Nat} (e : Lz z μ' = Lz z μ) (h : z k j = false) : mL μ' k j = mL μ k j := by
  have key : ∀ ν : Mem, mL (Lz z ν) k j = mL ν k j := fun ν => by show (bif z k j then 0 else mL ν k j) = _; rw [h]; rfl
  rw [← key μ', ← key μ, e]
theorem rdL {z : Nat → Nat → Bool} {μ μ' : Mem} {k : Nat} (e : Lz z μ' = Lz z μ) (h : ∀ j, z k j = false) : mL μ' k = mL μ k := funext fun j => rdL1 e (h j)
theorem rdP {z : Nat → Nat → Bool} {μ μ' : Mem} (e : Lz z μ' = Lz z μ) : mP μ' = mP μ := congrArg (fun v => v.1) e
