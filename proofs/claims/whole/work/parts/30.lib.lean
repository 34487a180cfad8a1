/-! bits (the kit's family BITS, pasted), folds, sets -/
def bt (x : Int32) (i : Nat) : Bool := x.toBitVec.getLsbD i
theorem b_ext {x y : Int32} (h : ∀ i, i < 32 → bt x i = bt y i) : x = y := Int32.toBitVec_inj.mp (BitVec.eq_of_getLsbD_eq (fun i hi => h i hi))
theorem b_or (x y : Int32) (i : Nat) : bt (x ||| y) i = (bt x i || bt y i) := by unfold bt; rw [Int32.toBitVec_or, BitVec.getLsbD_or]
theorem b_and (x y : Int32) (i : Nat) : bt (x &&& y) i = (bt x i && bt y i) := by unfold bt; rw [Int32.toBitVec_and, BitVec.getLsbD_and]
theorem b_xor (x y : Int32) (i : Nat) : bt (x ^^^ y) i = (bt x i ^^ bt y i) := by unfold bt; rw [Int32.toBitVec_xor, BitVec.getLsbD_xor]
theorem b_big {x : Int32} {i : Nat} (h : 32 ≤ i) : bt x i = false := BitVec.getLsbD_of_ge _ _ h
theorem b_255 (i : Nat) : bt 255 i = decide (i < 8) := by
  rcases Nat.lt_or_ge i 32 with h | h
  · exact (by decide +kernel : ∀ i, i < 32 → bt 255 i = decide (i < 8)) i h
  · rw [b_big h, decide_eq_false (by omega)]
theorem b_65535 (i : Nat) : bt 65535 i = decide (i < 16) := by
  rcases Nat.lt_or_ge i 32 with h | h
  · exact (by decide +kernel : ∀ i, i < 32 → bt 65535 i = decide (i < 16)) i h
  · rw [b_big h, decide_eq_false (by omega)]
theorem b_m1 : ∀ i, i < 32 → bt (-1) i = true := by decide +kernel
theorem b_0 (i : Nat) : bt 0 i = false := BitVec.getLsbD_zero
theorem s_l : ∀ n, n < 32 → ((nI n &&& 31).toBitVec.smod 32).toNat = n := by decide +kernel
theorem s_u : ∀ n, n < 32 → (((nI n).toUInt32 &&& Int32.toUInt32 31).toBitVec % 32).toNat = n := by decide +kernel
theorem b_shl (n : Nat) (hn : n < 32) (x : Int32) {i : Nat} (hi : i < 32) : bt (x <<< (nI n &&& 31)) i = (decide (n ≤ i) && bt x (i - n)) := by
  unfold bt
  rw [Int32.toBitVec_shiftLeft]
  show (x.toBitVec <<< ((nI n &&& 31).toBitVec.smod 32).toNat).getLsbD i = _
  rw [s_l n hn, BitVec.getLsbD_shiftLeft]
  rcases Nat.lt_or_ge i n with h | h
  · simp [h, Nat.not_le.mpr h]
  · simp [hi, h, Nat.not_lt.mpr h]
theorem b_ushr (n : Nat) (hn : n < 32) (x : Int32) (i : Nat) : bt ((x.toUInt32 >>> ((nI n).toUInt32 &&& Int32.toUInt32 31)).toInt32) i = bt x (n + i) := by
  show (x.toUInt32 >>> ((nI n).toUInt32 &&& Int32.toUInt32 31)).toBitVec.getLsbD i = x.toUInt32.toBitVec.getLsbD (n + i)
  rw [UInt32.toBitVec_shiftRight]
  show (x.toUInt32.toBitVec >>> (((nI n).toUInt32 &&& Int32.toUInt32 31).toBitVec % 32).toNat).getLsbD i = _
  rw [s_u n hn, BitVec.getLsbD_ushiftRight]
theorem b_sshr (n : Nat) (hn : n < 32) (x : Int32) {i : Nat} (hi : i < 32) : bt (x >>> (nI n &&& 31)) i = if n + i < 32 then bt x (n + i) else bt x 31 := by
  unfold bt
  rw [Int32.toBitVec_shiftRight]
  show (x.toBitVec.sshiftRight ((nI n &&& 31).toBitVec.smod 32).toNat).getLsbD i = _
  rw [s_l n hn, BitVec.getLsbD_sshiftRight, BitVec.msb_eq_getLsbD_last]
  simp [hi]
/-! outcomes, loops -/
section LIB
variable {μ : Mem}
theorem oI {f : Int32 → Mem → Prop} {x : Nat → Mem → Prop} {r : Int32} (h : f r μ) : onI f x (.inl (some (.int r))) μ := h
theorem oL {f : Int64 → Mem → Prop} {x : Nat → Mem → Prop} {r : Int64} (h : f r μ) : onL f x (.inl (some (.long r))) μ := h
theorem oV {f : Mem → Prop} {x : Nat → Mem → Prop} (h : f μ) : onV f x (.inl none) μ := h
theorem oIx {f : Int32 → Mem → Prop} {x : Nat → Mem → Prop} {e : Nat} (h : x e μ) : onI f x (.inr e) μ := h
theorem oLx {f : Int64 → Mem → Prop} {x : Nat → Mem → Prop} {e : Nat} (h : x e μ) : onL f x (.inr e) μ := h
theorem oVx {f : Mem → Prop} {x : Nat → Mem → Prop} {e : Nat} (h : x e μ) : onV f x (.inr e) μ := h
end LIB
theorem zup {P : Nat → Prop} (n : Nat) (hx : P n) (hs : ∀ k, k < n → P (k + 1) → P k) : P 0 := by
  have key : ∀ d k, k + d = n → P k := by
    intro d
    induction d with
    | zero => intro k h; have : k = n := by omega
              subst this; exact hx
    | succ d ih => intro k h; exact hs k (by omega) (ih (k + 1) (by omega))
  exact key n 0 (by omega)
theorem zupF {P : Nat → Prop} (m n : Nat) (hm : m ≤ n) (hx : P n) (hs : ∀ k, m ≤ k → k < n → P (k + 1) → P k) : P m := by
  have key : ∀ d k, m ≤ k → k + d = n → P k := by
    intro d
    induction d with
    | zero => intro k _ h; have : k = n := by omega
              subst this; exact hx
    | succ d ih => intro k hk h; exact hs k hk (by omega) (ih (k + 1) (by omega) (by omega))
  exact key (n - m) m (Nat.le_refl _) (by omega)
def z01 {A : Prop} (h : A) : ((0 : Int32) = 0 ∨ (0 : Int32) = 1) ∧ A := ⟨Or.inl rfl, h⟩
def z11 {A : Prop} (h : A) : ((1 : Int32) = 0 ∨ (1 : Int32) = 1) ∧ A := ⟨Or.inr rfl, h⟩
def b2i (b : Bool) : Int32 := if b then 1 else 0
theorem b2i_t {b : Bool} (h : b = true) : b2i b = 1 := by subst h; rfl
theorem b2i_f {b : Bool} (h : b = false) : b2i b = 0 := by subst h; rfl
theorem b2i_0 {b : Bool} : b2i b = 0 ↔ b = false := by cases b <;> decide
theorem b2i_n0 {b : Bool} : ¬ b2i b = 0 ↔ b = true := by cases b <;> decide
theorem b2i_1 {b : Bool} : b2i b = 1 ↔ b = true := by cases b <;> decide
theorem b2i_or (b : Bool) : b2i b = 0 ∨ b2i b = 1 := by cases b <;> decide
def ov : Option Nat → Int32
  | none => -1
  | some n => nI n
def fo {α : Type} (f : Nat → α → α) : Nat → α → α
  | 0, a => a
  | n + 1, a => f n (fo f n a)
def msk (n : Nat) (f : Nat → Bool) : Int32 := fo (fun p a => a ||| (if f p then (1 : Int32) <<< (nI p &&& 31) else 0)) n 0
theorem msk_t {f : Nat → Bool} {k : Nat} (h : f k = true) : msk (k + 1) f = msk k f ||| ((1 : Int32) <<< (nI k &&& 31)) := by
  show msk k f ||| (if f k = true then _ else _) = _
  rw [if_pos h]
theorem msk_f {f : Nat → Bool} {k : Nat} (h : f k = false) : msk (k + 1) f = msk k f ||| 0 := by
  show msk k f ||| (if f k = true then _ else _) = _
  rw [if_neg (by rw [h]; decide)]
theorem b_1 (i : Nat) : bt 1 i = decide (i = 0) := by
  show (1 : Int32).toBitVec.getLsbD i = _
  rw [show (1 : Int32).toBitVec = 1#32 from rfl, BitVec.getLsbD_one]; simp
theorem b_1s {n i : Nat} (hn : n < 32) (hi : i < 32) : bt ((1 : Int32) <<< (nI n &&& 31)) i = decide (i = n) := by
  rw [b_shl n hn 1 hi, b_1]
  by_cases h : i = n
  · subst h; simp
  · by_cases h2 : n ≤ i
    · have : ¬ i - n = 0 := by omega
      simp [h, this]
    · simp [h, h2]
theorem b_msk {n : Nat} (hn : n ≤ 32) {f : Nat → Bool} {i : Nat} (hi : i < 32) : bt (msk n f) i = (decide (i < n) && f i) := by
  induction n with
  | zero => rw [show msk 0 f = 0 from rfl, b_0]; simp
  | succ n ih =>
    have ih := ih (by omega)
    cases hf : f n with
    | true =>
      rw [msk_t hf, b_or, ih, b_1s (by omega) hi]
      by_cases h : i = n
      · subst h; simp [hf]
      · have : (i < n + 1) = (i < n) := by simp; omega
        simp [h, this]
    | false =>
      rw [msk_f hf, b_or, ih, b_0]
      by_cases h : i = n
      · subst h; simp [hf]
      · have : (i < n + 1) = (i < n) := by simp; omega
        simp [this]
theorem msk_cong {n : Nat} {f h : Nat → Bool} (e : ∀ i, i < n → f i = h i) : msk n f = msk n h := by
  induction n with
  | zero => rfl
  | succ n ih =>
    show msk n f ||| (if f n = true then _ else _) = msk n h ||| (if h n = true then _ else _)
    rw [ih (fun i hi => e i (by omega)), e n (by omega)]
theorem msk_ext {n : Nat} (hn : n ≤ 32) {f : Nat → Bool} {x : Int32} (e : ∀ i, i < 32 → bt x i = (decide (i < n) && f i)) : x = msk n f := by
  apply b_ext; intro i hi; rw [b_msk hn hi, e i hi]
theorem msk_inj {n : Nat} (hn : n ≤ 32) {f h : Nat → Bool} (e : msk n f = msk n h) : ∀ i, i < n → f i = h i := by
  intro i hi
  have := congrArg (fun x => bt x i) e
  simp only [b_msk hn (show i < 32 by omega), hi, decide_true, Bool.true_and] at this
  exact this
theorem msk_0 {n : Nat} (hn : n ≤ 32) {f : Nat → Bool} : msk n f = 0 ↔ ∀ i, i < n → f i = false := by
  constructor
  · intro e i hi
    have := congrArg (fun x => bt x i) e
    simp only [b_msk hn (show i < 32 by omega), hi, decide_true, Bool.true_and, b_0] at this
    exact this
  · intro e
    symm; apply msk_ext hn; intro i _
    rw [b_0]
    by_cases h : i < n
    · simp [h, e i h]
    · simp [h]
theorem b_and1 (x : Int32) {i : Nat} (hi : i < 32) : (x >>> (nI i &&& 31)) &&& 1 = b2i (bt x i) := by
  apply b_ext; intro j hj
  rw [b_and, b_1, b_sshr i hi x hj]
  by_cases h : j = 0
  · subst h; simp only [decide_true, Bool.and_true, Nat.add_zero, hi, if_true]
    cases bt x i <;> decide
  · simp only [h, decide_false, Bool.and_false]
    cases bt x i
    · exact (b_0 j).symm
    · rw [show b2i true = 1 from rfl, b_1]; simp [h]
theorem tb0 {x : Int32} {i : Nat} (hi : i < 32) : (x >>> (nI i &&& 31)) &&& 1 = 0 ↔ bt x i = false := by rw [b_and1 x hi, b2i_0]
theorem tb1 {x : Int32} {i : Nat} (hi : i < 32) : (x >>> (nI i &&& 31)) &&& 1 = 1 ↔ bt x i = true := by rw [b_and1 x hi, b2i_1]
theorem b_not {x : Int32} {i : Nat} (hi : i < 32) : bt (x ^^^ (-1)) i = !bt x i := by rw [b_xor, b_m1 i hi]; cases bt x i <;> rfl
theorem b_full {n i : Nat} (hn : n < 32) (hi : i < 32) : bt (((1 : Int32) <<< (nI n &&& 31)) - 1) i = decide (i < n) := by
  have : ∀ n, n < 32 → ∀ i, i < 32 → bt (((1 : Int32) <<< (nI n &&& 31)) - 1) i = decide (i < n) := by decide +kernel
  exact this n hn i hi
theorem msk_full {n : Nat} (hn : n < 32) : ((1 : Int32) <<< (nI n &&& 31)) - 1 = msk n (fun _ => true) := by
  apply msk_ext (by omega); intro i hi; rw [b_full hn hi]; simp
theorem nx_nI {n : Nat} (h : n < 2 ^ 31) : nx (nI n) = n := nI_clamp h
theorem nI_inj {a b : Nat} (ha : a < 2 ^ 31) (hb : b < 2 ^ 31) (h : nI a = nI b) : a = b := (nI_eq ha hb).mp h
/-! longs as sets -/
def bl (x : Int64) (i : Nat) : Bool := x.toBitVec.getLsbD i
theorem bl_ext {x y : Int64} (h : ∀ i, i < 64 → bl x i = bl y i) : x = y := Int64.toBitVec_inj.mp (BitVec.eq_of_getLsbD_eq (fun i hi => h i hi))
theorem bl_or (x y : Int64) (i : Nat) : bl (x ||| y) i = (bl x i || bl y i) := by unfold bl; rw [Int64.toBitVec_or, BitVec.getLsbD_or]
theorem bl_and (x y : Int64) (i : Nat) : bl (x &&& y) i = (bl x i && bl y i) := by unfold bl; rw [Int64.toBitVec_and, BitVec.getLsbD_and]
theorem bl_xor (x y : Int64) (i : Nat) : bl (x ^^^ y) i = (bl x i ^^ bl y i) := by unfold bl; rw [Int64.toBitVec_xor, BitVec.getLsbD_xor]
theorem bl_0 (i : Nat) : bl 0 i = false := BitVec.getLsbD_zero
theorem bl_1 (i : Nat) : bl 1 i = decide (i = 0) := by
  show (1 : Int64).toBitVec.getLsbD i = _
  rw [show (1 : Int64).toBitVec = 1#64 from rfl, BitVec.getLsbD_one]; simp
theorem sl_l : ∀ n, n < 64 → (((nI n).toInt64 &&& 63).toBitVec.smod 64).toNat = n := by decide +kernel
theorem sl_u : ∀ n, n < 64 → (((nI n).toInt64.toUInt64 &&& Int64.toUInt64 63).toBitVec % 64).toNat = n := by decide +kernel
theorem bl_shl (n : Nat) (hn : n < 64) (x : Int64) {i : Nat} (hi : i < 64) : bl (x <<< ((nI n).toInt64 &&& 63)) i = (decide (n ≤ i) && bl x (i - n)) := by
  unfold bl
  rw [Int64.toBitVec_shiftLeft]
  show (x.toBitVec <<< (((nI n).toInt64 &&& 63).toBitVec.smod 64).toNat).getLsbD i = _
  rw [sl_l n hn, BitVec.getLsbD_shiftLeft]
  rcases Nat.lt_or_ge i n with h | h
  · simp [h, Nat.not_le.mpr h]
  · simp [hi, h, Nat.not_lt.mpr h]
theorem bl_sshr (n : Nat) (hn : n < 64) (x : Int64) {i : Nat} (hi : i < 64) : bl (x >>> ((nI n).toInt64 &&& 63)) i = if n + i < 64 then bl x (n + i) else bl x 63 := by
  unfold bl
  rw [Int64.toBitVec_shiftRight]
  show (x.toBitVec.sshiftRight (((nI n).toInt64 &&& 63).toBitVec.smod 64).toNat).getLsbD i = _
  rw [sl_l n hn, BitVec.getLsbD_sshiftRight, BitVec.msb_eq_getLsbD_last]
  simp [hi]
theorem bl_ushr (n : Nat) (hn : n < 64) (x : Int64) (i : Nat) : bl (lush x (nI n)) i = bl x (n + i) := by
  show (x.toUInt64 >>> ((nI n).toInt64.toUInt64 &&& Int64.toUInt64 63)).toBitVec.getLsbD i = x.toUInt64.toBitVec.getLsbD (n + i)
  rw [UInt64.toBitVec_shiftRight]
  show (x.toUInt64.toBitVec >>> (((nI n).toInt64.toUInt64 &&& Int64.toUInt64 63).toBitVec % 64).toNat).getLsbD i = _
  rw [sl_u n hn, BitVec.getLsbD_ushiftRight]
theorem bt_l2i (x : Int64) {i : Nat} (hi : i < 32) : bt x.toInt32 i = bl x i := by
  show x.toInt32.toBitVec.getLsbD i = x.toBitVec.getLsbD i
  rw [Int64.toBitVec_toInt32, BitVec.getLsbD_signExtend]; simp [hi]; omega
theorem bl_1s {n i : Nat} (hn : n < 64) (hi : i < 64) : bl ((1 : Int64) <<< ((nI n).toInt64 &&& 63)) i = decide (i = n) := by
  rw [bl_shl n hn 1 hi, bl_1]
  by_cases h : i = n
  · subst h; simp
  · by_cases h2 : n ≤ i
    · have : ¬ i - n = 0 := by omega
      simp [h, this]
    · simp [h, h2]
theorem bl_and1 (x : Int64) {i : Nat} (hi : i < 64) : (x >>> ((nI i).toInt64 &&& 63)) &&& 1 = if bl x i then 1 else 0 := by
  apply bl_ext; intro j hj
  rw [bl_and, bl_1, bl_sshr i hi x hj]
  by_cases h : j = 0
  · subst h; simp only [decide_true, Bool.and_true, Nat.add_zero, hi, if_true]
    cases bl x i <;> decide
  · simp only [h, decide_false, Bool.and_false]
    cases bl x i
    · exact (bl_0 j).symm
    · rw [if_pos rfl, bl_1]; simp [h]
theorem bl_cmp {x : Int64} {i : Nat} (hi : i < 64) : lg_cmp ((x >>> ((nI i).toInt64 &&& 63)) &&& 1) 1 = 0 ↔ bl x i = true := by
  rw [bl_and1 x hi]; cases bl x i <;> decide
theorem bl_u1 (x : Int64) {i : Nat} (hi : i < 64) : (lush x (nI i)) &&& 1 = if bl x i then 1 else 0 := by
  apply bl_ext; intro j hj
  rw [bl_and, bl_1, bl_ushr i hi x]
  by_cases h : j = 0
  · subst h; simp only [decide_true, Bool.and_true, Nat.add_zero]
    cases bl x i <;> decide
  · simp only [h, decide_false, Bool.and_false]
    cases bl x i
    · exact (bl_0 j).symm
    · rw [if_pos rfl, bl_1]; simp [h]
/-! counts -/
def ct (f : Nat → Bool) : Nat → Nat
  | 0 => 0
  | n + 1 => ct f n + if f n then 1 else 0
theorem ct_t {f : Nat → Bool} {n : Nat} (h : f n = true) : ct f (n + 1) = ct f n + 1 := by show _ + (if _ then _ else _) = _; rw [if_pos h]
theorem ct_f {f : Nat → Bool} {n : Nat} (h : f n = false) : ct f (n + 1) = ct f n := by show _ + (if _ then _ else _) = _; rw [if_neg (by rw [h]; decide)]; rfl
theorem ct_le (f : Nat → Bool) (n : Nat) : ct f n ≤ n := by
  induction n with
  | zero => exact Nat.le_refl _
  | succ n ih => show ct f n + (if _ then _ else _) ≤ _; split <;> omega
theorem ct_cong {n : Nat} {f h : Nat → Bool} (e : ∀ i, i < n → f i = h i) : ct f n = ct h n := by
  induction n with
  | zero => rfl
  | succ n ih => show ct f n + (if _ then _ else _) = ct h n + (if _ then _ else _); rw [ih (fun i hi => e i (by omega)), e n (by omega)]
theorem ct_mono {n : Nat} {f h : Nat → Bool} (e : ∀ i, i < n → f i = true → h i = true) : ct f n ≤ ct h n := by
  induction n with
  | zero => exact Nat.le_refl _
  | succ n ih =>
    have := ih (fun i hi => e i (by omega))
    show ct f n + (if _ then _ else _) ≤ ct h n + (if _ then _ else _)
    cases hf : f n with
    | true => rw [e n (by omega) hf]; simp; omega
    | false => simp; omega
theorem ct_lt {n : Nat} {f h : Nat → Bool} (e : ∀ i, i < n → f i = true → h i = true) {j : Nat} (hj : j < n) (h1 : f j = false) (h2 : h j = true) : ct f n < ct h n := by
  induction n with
  | zero => omega
  | succ n ih =>
    show ct f n + (if _ then _ else _) < ct h n + (if _ then _ else _)
    by_cases q : j = n
    · subst q
      have := ct_mono (n := j) (fun i hi => e i (by omega))
      rw [h1, h2]; simp; omega
    · have := ih (fun i hi => e i (by omega)) (by omega)
      cases hf : f n with
      | true => rw [e n (by omega) hf]; simp; omega
      | false => simp; omega
theorem ct_out {f : Nat → Bool} {m n : Nat} (hm : m ≤ n) (h : ∀ i, m ≤ i → i < n → f i = false) : ct f n = ct f m := by
  induction n with
  | zero => have : m = 0 := by omega
            rw [this]
  | succ n ih =>
    by_cases q : m = n + 1
    · rw [q]
    · rw [ct_f (h n (by omega) (by omega)), ih (by omega) (fun i h1 h2 => h i h1 (by omega))]
theorem ct_0 {n : Nat} {f : Nat → Bool} : ct f n = 0 ↔ ∀ i, i < n → f i = false := by
  constructor
  · intro h i hi
    cases hf : f i with
    | false => rfl
    | true =>
      have := ct_lt (f := fun _ => false) (h := f) (n := n) (fun i _ h => by cases h) hi rfl hf
      omega
  · intro h
    have := ct_out (f := f) (Nat.zero_le n) (fun i _ hi => h i hi)
    rw [this]; rfl
def bcF (a : Int32) : Int32 :=
  let b := a - ((ush a 1) &&& 1431655765)
  let c := (b &&& 858993459) + ((ush b 2) &&& 858993459)
  let d := (c + (ush c 4)) &&& 252645135
  let e := d + (ush d 8)
  let f := e + (ush e 16)
  f &&& 63
def tzF (a : Int32) : Int32 :=
  let y := (a ^^^ (-1)) &&& (a - 1)
  if 0 < y then
    let n1 : Int32 := if y ≤ 65536 then 1 else 17
    let y1 := if y ≤ 65536 then y else ush y 16
    let n2 := if y1 ≤ 256 then n1 else n1 + 8
    let y2 := if y1 ≤ 256 then y1 else ush y1 8
    let n3 := if y2 ≤ 16 then n2 else n2 + 4
    let y3 := if y2 ≤ 16 then y2 else ush y2 4
    let n4 := if y3 ≤ 4 then n3 else n3 + 2
    let y4 := if y3 ≤ 4 then y3 else ush y3 2
    n4 + ush y4 1
  else y &&& 32
theorem bc_all : ∀ n, n < 1024 → bcF (nI n) = nI (ct (bt (nI n)) 10) := by decide +kernel
theorem small_of {n : Nat} {x : Int32} (hn : n ≤ 31) (h : ∀ i, n ≤ i → i < 32 → bt x i = false) : ∃ m, m < 2 ^ n ∧ x = nI m := by
  refine ⟨x.toBitVec.toNat, ?_, ?_⟩
  · apply Nat.lt_pow_two_of_testBit
    intro i hi
    rw [BitVec.testBit_toNat]
    by_cases q : i < 32
    · exact h i hi q
    · exact BitVec.getLsbD_of_ge _ _ (by omega)
  · obtain ⟨k, hk, rfl⟩ := (⟨x.toBitVec.toNat, x.toBitVec.isLt, Int32.toBitVec_inj.mp (by show _ = BitVec.ofNat 32 _; simp)⟩ : ∃ n, n < 2 ^ 32 ∧ x = nI n)
    rw [pk_tn hk]
theorem bt_nI {m i : Nat} (hi : i < 32) : bt (nI m) i = m.testBit i := by
  show (BitVec.ofNat 32 m).getLsbD i = _
  rw [BitVec.getLsbD_ofNat]; simp [hi]
theorem bc_small {x : Int32} (h : ∀ i, 10 ≤ i → i < 32 → bt x i = false) : bcF x = nI (ct (bt x) 10) := by
  obtain ⟨m, hm, rfl⟩ := small_of (by omega) h
  exact bc_all m hm
theorem bc_msk {n : Nat} (hn : n ≤ 10) {f : Nat → Bool} : bcF (msk n f) = nI (ct f n) := by
  rw [bc_small (fun i h1 h2 => by rw [b_msk (by omega) h2]; simp; omega)]
  congr 1
  rw [ct_out (m := n) hn (fun i h1 h2 => by rw [b_msk (by omega) (by omega)]; simp; omega)]
  exact ct_cong fun i hi => by rw [b_msk (by omega) (by omega)]; simp [hi]
/-- the least place of a set, n if there is none -/
def lo (f : Nat → Bool) : Nat → Nat
  | 0 => 0
  | n + 1 => if lo f n < n then lo f n else if f n then n else n + 1
theorem lo_le (f : Nat → Bool) (n : Nat) : lo f n ≤ n := by
  induction n with
  | zero => exact Nat.le_refl _
  | succ n ih =>
    have hd : lo f (n + 1) = if lo f n < n then lo f n else if f n then n else n + 1 := rfl
    rw [hd]
    by_cases h : lo f n < n
    · rw [if_pos h]; omega
    · rw [if_neg h]; cases f n <;> simp
theorem lo_no {f : Nat → Bool} : ∀ {n i : Nat}, i < lo f n → f i = false := by
  intro n
  induction n with
  | zero => intro i h; exact absurd h (Nat.not_lt_zero _)
  | succ n ih =>
    intro i h
    have hle := lo_le f n
    have hd : lo f (n + 1) = if lo f n < n then lo f n else if f n then n else n + 1 := rfl
    rw [hd] at h
    split at h
    · exact ih h
    · split at h
      · exact ih (by omega)
      · by_cases q : i = n
        · subst q; rename_i h2; simpa using h2
        · exact ih (by omega)
theorem lo_yes {f : Nat → Bool} : ∀ {n : Nat}, lo f n < n → f (lo f n) = true := by
  intro n
  induction n with
  | zero => intro h; exact absurd h (Nat.not_lt_zero _)
  | succ n ih =>
    intro h
    have hd : lo f (n + 1) = if lo f n < n then lo f n else if f n then n else n + 1 := rfl
    rw [hd] at h ⊢
    split
    · rename_i q; exact ih q
    · rename_i q
      rw [if_neg q] at h
      split
      · rename_i q2; exact q2
      · rename_i q2; rw [if_neg q2] at h; omega
theorem lo_eq {f : Nat → Bool} {n k : Nat} (hk : k < n) (h : f k = true) (hn : ∀ i, i < k → f i = false) : lo f n = k := by
  rcases Nat.lt_trichotomy (lo f n) k with q | q | q
  · have := lo_yes (f := f) (n := n) (by omega)
    rw [hn _ q] at this; cases this
  · exact q
  · rw [lo_no q] at h; cases h
theorem lo_none {f : Nat → Bool} {n : Nat} (hn : ∀ i, i < n → f i = false) : lo f n = n := by
  rcases Nat.lt_or_ge (lo f n) n with q | q
  · have := lo_yes q
    rw [hn _ q] at this; cases this
  · have := lo_le f n; omega
theorem lo_cong {f h : Nat → Bool} : ∀ {n : Nat}, (∀ i, i < n → f i = h i) → lo f n = lo h n := by
  intro n
  induction n with
  | zero => intro _; rfl
  | succ n ih =>
    intro e
    show (if lo f n < n then lo f n else if f n = true then n else n + 1) = (if lo h n < n then lo h n else if h n = true then n else n + 1)
    rw [ih (fun i hi => e i (by omega)), e n (by omega)]
theorem tz_all : ∀ n, n < 1024 → ¬ n = 0 → tzF (nI n) = nI (lo (bt (nI n)) 10) := by decide +kernel
theorem tz_small {x : Int32} (h : ∀ i, 10 ≤ i → i < 32 → bt x i = false) (h0 : ¬ x = 0) : tzF x = nI (lo (bt x) 10) := by
  obtain ⟨m, hm, rfl⟩ := small_of (by omega) h
  exact tz_all m hm (fun q => h0 (by rw [q]; rfl))

/-! the memory read behind a write -/
theorem rI_I {μ : Mem} {k j a : Nat} {v : Int32} : mI (sI μ k j v) a = if a = k then upd (mI μ k) j v else mI μ a := by
  by_cases h : a = k
  · subst h; rw [if_pos rfl]; funext b; exact u2_self
  · rw [if_neg h]; exact u2_row h
theorem rI_L {μ : Mem} {k j : Nat} {v : Int64} : mI (sL μ k j v) = mI μ := rfl
theorem rI_P {μ : Mem} {j v : Nat} : mI (sP μ j v) = mI μ := rfl
theorem rI_RI {μ : Mem} {k a : Nat} {f : Nat → Int32} : mI (sRI μ k f) a = if a = k then f else mI μ a := by
  by_cases h : a = k
  · subst h; rw [if_pos rfl]; funext b; exact if_pos rfl
  · rw [if_neg h]; funext b; exact if_neg h
theorem rI_RL {μ : Mem} {k : Nat} {f : Nat → Int64} : mI (sRL μ k f) = mI μ := rfl
theorem rL_I {μ : Mem} {k j : Nat} {v : Int32} : mL (sI μ k j v) = mL μ := rfl
theorem rL_L {μ : Mem} {k j a : Nat} {v : Int64} : mL (sL μ k j v) a = if a = k then vp_updL (mL μ k) j v else mL μ a := by
  by_cases h : a = k
  · subst h; rw [if_pos rfl]; funext b; exact u2_self
  · rw [if_neg h]; exact u2_row h
theorem rL_P {μ : Mem} {j v : Nat} : mL (sP μ j v) = mL μ := rfl
theorem rL_RI {μ : Mem} {k : Nat} {f : Nat → Int32} : mL (sRI μ k f) = mL μ := rfl
theorem rL_RL {μ : Mem} {k a : Nat} {f : Nat → Int64} : mL (sRL μ k f) a = if a = k then f else mL μ a := by
  by_cases h : a = k
  · subst h; rw [if_pos rfl]; funext b; exact if_pos rfl
  · rw [if_neg h]; funext b; exact if_neg h
theorem upd_s {f : Nat → Int32} {k : Nat} {x : Int32} : upd f k x k = x := if_pos rfl
theorem upd_n {f : Nat → Int32} {k j : Nat} {x : Int32} (h : j ≠ k) : upd f k x j = f j := if_neg h
theorem updL_s {f : Nat → Int64} {k : Nat} {x : Int64} : vp_updL f k x k = x := if_pos rfl
theorem updL_n {f : Nat → Int64} {k j : Nat} {x : Int64} (h : j ≠ k) : vp_updL f k x j = f j := if_neg h
theorem sRI_self (μ : Mem) (k : Nat) : sRI μ k (mI μ k) = μ := by
  refine Prod.ext rfl (Prod.ext ?_ rfl)
  funext a b
  show (if a = k then mI μ k b else mI μ a b) = mI μ a b
  by_cases h : a = k
  · rw [if_pos h, h]
  · rw [if_neg h]
theorem sRI_sRI (μ : Mem) (k : Nat) (f h : Nat → Int32) : sRI (sRI μ k f) k h = sRI μ k h := by
  refine Prod.ext rfl (Prod.ext ?_ rfl)
  funext a b
  show (if a = k then h b else if a = k then f b else mI μ a b) = if a = k then h b else mI μ a b
  by_cases h : a = k
  · rw [if_pos h, if_pos h]
  · rw [if_neg h, if_neg h, if_neg h]
theorem sI_RI (μ : Mem) (k j : Nat) (x : Int32) : sI μ k j x = sRI μ k (upd (mI μ k) j x) := by
  refine Prod.ext rfl (Prod.ext ?_ rfl)
  funext a b
  show u2 (mI μ) k j x a b = if a = k then upd (mI μ k) j x b else mI μ a b
  by_cases h : a = k
  · rw [if_pos h, h]; exact u2_self
  · rw [if_neg h]; unfold u2; rw [if_neg h]
theorem sI_sRI (μ : Mem) (k j : Nat) (f : Nat → Int32) (x : Int32) : sI (sRI μ k f) k j x = sRI μ k (upd f j x) := by
  rw [sI_RI, sRI_sRI, rI_RI, if_pos rfl]
theorem vin {N : Nat} (k : Nat) (h : (Nat.blt k N && Nat.ble N 100000) = true) : vp_in (nI k) N := by
  simp only [Bool.and_eq_true] at h
  exact vp_in_nI (Nat.le_of_ble_eq_true h.1) (Nat.lt_of_le_of_lt (Nat.le_of_ble_eq_true h.2) (by decide))
theorem spi {g : Gl} {mi : MI} {dx n : Nat} {args : List Value} {μ : Mem} {Φ : Out → Mem → Prop} (hM : MOK mi n) (hw : Nat.ble (lg_sl args).length (miN mi) = true)
    (k : Wm g mi (rm mi dx) (QM g mi Φ) 0 0 0 (lv_args 0 args) [] μ) : Spec g mi dx args μ Φ := Spec.intro hM (Nat.le_of_ble_eq_true hw) k
