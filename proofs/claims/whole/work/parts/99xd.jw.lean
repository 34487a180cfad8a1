/-! the law's invariant through the calls -/
def zHi (k _j : Nat) : Bool := Nat.ble 140 k
theorem CR_hi {μ : Mem} {w : WD} : CR (Lz zHi μ) w ↔ CR μ w := Iff.rfl
theorem CI_hi {z : Nat → Nat → Bool} {μ μ' : Mem} {w : WD} (e : Lz z μ' = Lz z μ) (hz : ∀ k j, z k j = true → 140 ≤ k) (c : CI μ w) : CI μ' w := by
  have e2 : Lz zHi μ' = Lz zHi μ := Lz_up (fun k j h => Nat.ble_eq_true_of_le (hz k j h)) e
  exact ⟨CR_hi.mp (by rw [e2]; exact CR_hi.mpr c.1), c.2⟩
/-- the law's invariant: that of the worlds, and the tapes are one row -/
def JX (μ : Mem) (w : WD) (n r : Nat) (V : Nat → WD) : Prop := CI μ w ∧ MW μ w ∧ DS w ∧ TPE n μ ∧ IMG μ ∧ ACTC μ r V ∧ ACTM μ r V ∧ PST r V w ∧ mI μ 2 = mI μ 147
def J9 (μ : Mem) : Prop := ∃ w n r V, JX μ w n r V
theorem JW_z {z : Nat → Nat → Bool} {μ μ' : Mem} {w : WD} {n r : Nat} {V : Nat → WD} (h : JX μ w n r V) (e : Lz z μ' = Lz z μ) (hJ : ∀ k j, z k j = true → zJ k j = true) (c : CI μ' w) (m : MW μ' w) : JX μ' w n r V := by
  have e2 : Lz zJ μ' = Lz zJ μ := Lz_up hJ e
  obtain ⟨-, -, h3, h4, h5, h6, h7, h8, h9⟩ := h
  exact ⟨c, m, h3, TPE_J e2 h4, IMG_J e2 h5, ACTC_J e2 h6, ACTM_J e2 h7, h8, by rw [rdI e2 (k := 2) (fun _ => rfl), rdI e2 (k := 147) (fun _ => rfl)]; exact h9⟩
theorem zQ_J (k j : Nat) (h : zQ k j = true) : zJ k j = true := by
  unfold zQ at h; unfold zJ
  simp only [Bool.or_eq_true, Bool.and_eq_true, Nat.ble_eq, Nat.beq_eq] at h ⊢
  omega
theorem zLs_J (k j : Nat) (h : zLs k j = true) : zJ k j = true := by
  unfold zLs zW zM zK at h; unfold zJ
  simp only [Bool.or_eq_true, Bool.and_eq_true, Nat.ble_eq, Nat.beq_eq] at h ⊢
  omega
theorem zLs_hi (k j : Nat) (h : zLs k j = true) : 140 ≤ k := by
  unfold zLs zW zM zK at h
  simp only [Bool.or_eq_true, Bool.and_eq_true, Nat.ble_eq, Nat.beq_eq] at h
  omega
section JWX
variable {μ μ' : Mem} {w : WD} {n r : Nat} {V : Nat → WD}
theorem JW_C (h : JX μ w n r V) (e : Lz zQ μ' = Lz zQ μ) (c : CI μ' w) : JX μ' w n r V := JW_z h e zQ_J c (MW_z e (fun _ => rfl) rfl h.2.1)
theorem JW_M (h : JX μ w n r V) (e : Lz zLs μ' = Lz zLs μ) (m : MW μ' w) : JX μ' w n r V := JW_z h e zLs_J (CI_hi e zLs_hi h.1) m
theorem JW_0 (h : JX μ w n r V) {x : Int32} : JX (sI μ 140 0 x) w n r V := JW_M h (Lz_I rfl) (MW_0 h.2.1)
def zO (k _j : Nat) : Bool := Nat.beq k 154
theorem JW_o (h : JX μ w n r V) {j : Nat} {x : Int64} : JX (sL μ 154 j x) w n r V := by
  have e : Lz zO (sL μ 154 j x) = Lz zO μ := Lz_L rfl
  refine JW_z h e (fun k j h => ?_) (CI_hi e (fun k j h => ?_) h.1) (MW_z e (fun _ => rfl) rfl h.2.1)
  · unfold zO at h; unfold zJ
    simp only [Bool.or_eq_true, Bool.and_eq_true, Nat.ble_eq, Nat.beq_eq] at h ⊢
    omega
  · unfold zO at h
    simp only [Nat.beq_eq] at h
    omega
end JWX
/-- what stands in out behind a helper's call -/
def outm (f : Int32 → Int64) (r : Nat × Int32) (μ : Mem) : Mem := match r.1 with
  | 0 => sL μ 154 (nx (0 : Int32)) (f r.2)
  | _ => μ
def fJ (x : Int32) : Int64 := x.toInt64
def fB (x : Int32) : Int64 := if x = 0 then 0 else 1
/-- what a helper makes of its call's outcome -/
def HK (Φ : Out → Mem → Prop) (f : Int32 → Int64) (e1 e2 : Nat) : Out → Mem → Prop
  | .inl (some (.int r)), μ => Φ (.inl (some (.int (0 : Int32)))) (sL μ 154 (nx (0 : Int32)) (f r))
  | .inr e, μ => if e = e1 then Φ (.inl (some (.int (1 : Int32)))) μ else if e = e2 then Φ (.inl (some (.int (2 : Int32)))) μ else False
  | _, _ => False
def HKl (Φ : Out → Mem → Prop) (e1 e2 : Nat) : Out → Mem → Prop
  | .inl (some (.long r)), μ => Φ (.inl (some (.int (0 : Int32)))) (sL μ 154 (nx (0 : Int32)) r)
  | .inr e, μ => if e = e1 then Φ (.inl (some (.int (1 : Int32)))) μ else if e = e2 then Φ (.inl (some (.int (2 : Int32)))) μ else False
  | _, _ => False
theorem HK_x {Φ : Out → Mem → Prop} {f : Int32 → Int64} {e1 e2 e : Nat} {μ : Mem} (h1 : ¬ e = e1) (h2 : ¬ e = e2) : ¬ HK Φ f e1 e2 (.inr e) μ := fun h => by
  have h : (if e = e1 then Φ (.inl (some (.int (1 : Int32)))) μ else if e = e2 then Φ (.inl (some (.int (2 : Int32)))) μ else False) := h
  rw [if_neg h1, if_neg h2] at h; exact h
theorem HKl_x {Φ : Out → Mem → Prop} {e1 e2 e : Nat} {μ : Mem} (h1 : ¬ e = e1) (h2 : ¬ e = e2) : ¬ HKl Φ e1 e2 (.inr e) μ := fun h => by
  have h : (if e = e1 then Φ (.inl (some (.int (1 : Int32)))) μ else if e = e2 then Φ (.inl (some (.int (2 : Int32)))) μ else False) := h
  rw [if_neg h1, if_neg h2] at h; exact h
def HQ (Φ : Out → Mem → Prop) (f : Int32 → Int64) (μ : Mem) (w : WD) (r : Nat × Int32) : Prop := ∀ μ', Lz zQ μ' = Lz zQ μ → CI μ' w → Φ (.inl (some (.int (nI r.1)))) (outm f r μ')
theorem HK_out {Φ : Out → Mem → Prop} {f : Int32 → Int64} {e1 e2 : Nat} {q : Nat × Int32} {μ : Mem} (he : e2 ≠ e1) (hq : q.1 ≤ 2) (h : Φ (.inl (some (.int (nI q.1)))) (outm f q μ)) : HK Φ f e1 e2 (outR e1 e2 q) μ := by
  obtain ⟨k, v⟩ := q
  match k, hq with
  | 0, _ => exact h
  | 1, _ => show (if e1 = e1 then _ else _); rw [if_pos rfl]; exact h
  | 2, _ => show (if e2 = e1 then _ else _); rw [if_neg he, if_pos rfl]; exact h
theorem HK_out1 {Φ : Out → Mem → Prop} {f : Int32 → Int64} {e1 e2 e3 : Nat} {q : Nat × Int32} {μ : Mem} (hq : q.1 ≤ 1) (h : Φ (.inl (some (.int (nI q.1)))) (outm f q μ)) : HK Φ f e1 e3 (outR e1 e2 q) μ := by
  obtain ⟨k, v⟩ := q
  match k, hq with
  | 0, _ => exact h
  | 1, _ => show (if e1 = e1 then _ else _); rw [if_pos rfl]; exact h
theorem RC_HK {Φ : Out → Mem → Prop} {f : Int32 → Int64} {μ : Mem} {w : WD} {e1 e2 : Nat} {q : Nat × Int32} (he : e2 ≠ e1) (hq : q.1 ≤ 2) (H : HQ Φ f μ w q) : RC (HK Φ f e1 e2) μ w e1 e2 q := fun μ' e c => HK_out he hq (H μ' e c)
theorem RC_HK1 {Φ : Out → Mem → Prop} {f : Int32 → Int64} {μ : Mem} {w : WD} {e1 e2 e3 : Nat} {q : Nat × Int32} (hq : q.1 ≤ 1) (H : HQ Φ f μ w q) : RC (HK Φ f e1 e3) μ w e1 e2 q := fun μ' e c => HK_out1 hq (H μ' e c)
theorem Spec.mono {g : Gl} {mi : MI} {dx : Nat} {args : List Value} {μ : Mem} {Φ Ψ : Out → Mem → Prop} (h : Spec g mi dx args μ Φ) (hm : ∀ o μ', (∀ e, o = .inr e → e < 5) → Φ o μ' → Ψ o μ') : Spec g mi dx args μ Ψ := by
  intro p e ha hc hk s m av below hf happ hP hK
  obtain ⟨k, o, h1, h2, h3, hQ⟩ := h p e ha hc hk s m av below hf happ hP hK
  refine ⟨k, o, h1, h2, h3, ?_⟩
  rcases hQ with ⟨⟨⟨v, μ', a1, a2, a3⟩, a4⟩, a5⟩ | ⟨q, ho, E, ce, L, ⟨⟨e9, μ', b1, b2, h9, b3⟩, b4⟩, b5⟩
  · exact Or.inl ⟨⟨⟨v, μ', a1, hm _ _ (fun e h => nomatch h) a2, a3⟩, a4⟩, a5⟩
  · exact Or.inr ⟨q, ho, E, ce, L, ⟨⟨e9, μ', b1, b2, hm _ _ (fun e h => by cases h; exact b1) h9, b3⟩, b4⟩, b5⟩
theorem JW_outm {μ : Mem} {w : WD} {n r : Nat} {V : Nat → WD} {f : Int32 → Int64} {q : Nat × Int32} (h : JX μ w n r V) : JX (outm f q μ) w n r V := by
  unfold outm
  split
  · exact JW_o h
  · exact h
theorem outm_L {f : Int32 → Int64} {q : Nat × Int32} {μ : Mem} (h : q.1 = 0) : mL (outm f q μ) 154 (nx (0 : Int32)) = f q.2 := by
  obtain ⟨k, v⟩ := q
  have h : k = 0 := h
  subst h
  show u2 (mL μ) 154 (nx (0 : Int32)) (f v) 154 (nx (0 : Int32)) = f v
  rw [u2_self, if_pos rfl]
theorem gdx_le {n c b : Nat} {x : Int32} {k : Nat → Nat × Int32} (hc : c ≤ b) (hk : ∀ j, (k j).1 ≤ b) : (gdx n x c k).1 ≤ b := by
  unfold gdx
  split
  · exact hc
  · exact hk _
theorem ite_le {p : Prop} [Decidable p] {b : Nat} {x y : Nat × Int32} (hx : x.1 ≤ b) (hy : y.1 ≤ b) : (if p then x else y).1 ≤ b := by
  split
  · exact hx
  · exact hy
theorem vp01 : vp_in (0 : Int32) 1 := by unfold vp_in; decide
theorem lgc0 {x y : Int64} (h : x = y) : lg_cmp x y = 0 := by
  subst h
  unfold lg_cmp
  simp
def rmC (mj : MI) : Bool := Nat.ble (miD mj) 838 && Nat.ble (miK mj) 100 && Nat.ble (miS mj) 1000
theorem rmL {mj : MI} {nc ns : Nat} (h : rmC mj = true) (h1 : nc ≤ 100000) (h2 : ns ≤ 1000000) : rmB room_1 mj nc ns = true := by
  unfold rmC at h
  simp only [Bool.and_eq_true, Nat.ble_eq] at h
  unfold rmB
  have r1 : room_1.frames = 2048 := rfl
  have r2 : room_1.cells = 601024 := rfl
  have r3 : room_1.slots = 7293034 := rfl
  have r4 : room_1.locals = 84000 := rfl
  rw [r1, r2, r3, r4]
  simp only [Bool.and_eq_true, Nat.ble_eq]
  omega
theorem isT_of {b : Bool} {X : Prop} (h : b = true) (x : X) : isT b X := by subst h; exact x
/-- behind both calls of a helper's case -/
theorem tail9 {g : Gl} {nc ns k : Nat} {μ : Mem} {v : Int64} {Wk Bad Bad2 : Mem → Prop} {X : Nat → Mem → Prop} (h1 : nc ≤ 100000) (h2 : ns ≤ 1000000) (hk : k ≤ 2) (h0 : mI μ 140 0 = nI k) (hv : k = 0 → mL μ 154 (nx (0 : Int32)) = v) (hW : Wk μ) :
    isT (rmB room_1 i_Mo_thrown nc ns) (Spec g i_Mo_thrown 0 [.ref 140] μ (onI (fun r μ5 => (r = nI k → (¬ nI k = 0 → Wk μ5) ∧ (nI k = 0 → vp_in (0 : Int32) 1 ∧ ((lg_cmp (mL μ5 154 (nx (0 : Int32))) v) = 0 → Wk μ5) ∧ (¬ (lg_cmp (mL μ5 154 (nx (0 : Int32))) v) = 0 → Bad μ5))) ∧ (¬ r = nI k → Bad2 μ5)) X)) := by
  refine isT_of (rmL (by decide +kernel) h1 h2) (M_thrown ?_)
  rw [h0]
  refine ⟨fun _ => ⟨fun _ => hW, fun hk0 => ⟨vp01, fun _ => hW, fun hn => absurd ?_ hn⟩⟩, fun h => absurd rfl h⟩
  have hk9 : k = 0 := by
    match k, hk with
    | 0, _ => rfl
    | 1, _ => exact absurd hk0 (by decide)
    | 2, _ => exact absurd hk0 (by decide)
  exact lgc0 (hv hk9)
/-- the same, of a truth -/
theorem tail9b {g : Gl} {nc ns k : Nat} {μ : Mem} {v : Int32} {Wk Bad1 Bad3 Bad2 : Mem → Prop} {X : Nat → Mem → Prop} (h1 : nc ≤ 100000) (h2 : ns ≤ 1000000) (hk : k ≤ 2) (h0 : mI μ 140 0 = nI k) (hv : k = 0 → mL μ 154 (nx (0 : Int32)) = fB v) (hW : Wk μ) :
    isT (rmB room_1 i_Mo_thrown nc ns) (Spec g i_Mo_thrown 0 [.ref 140] μ (onI (fun r μ5 => (r = nI k → (¬ nI k = 0 → Wk μ5) ∧ (nI k = 0 → vp_in (0 : Int32) 1 ∧ (v = 0 → ((lg_cmp (mL μ5 154 (nx (0 : Int32))) (0 : Int64)) = 0 → Wk μ5) ∧ (¬ (lg_cmp (mL μ5 154 (nx (0 : Int32))) (0 : Int64)) = 0 → Bad1 μ5)) ∧ (¬ v = 0 → ((lg_cmp (mL μ5 154 (nx (0 : Int32))) (1 : Int64)) = 0 → Wk μ5) ∧ (¬ (lg_cmp (mL μ5 154 (nx (0 : Int32))) (1 : Int64)) = 0 → Bad3 μ5)))) ∧ (¬ r = nI k → Bad2 μ5)) X)) := by
  refine isT_of (rmL (by decide +kernel) h1 h2) (M_thrown ?_)
  rw [h0]
  have key : nI k = 0 → mL μ 154 (nx (0 : Int32)) = fB v := by
    intro hk0
    match k, hk with
    | 0, _ => exact hv rfl
    | 1, _ => exact absurd hk0 (by decide)
    | 2, _ => exact absurd hk0 (by decide)
  refine ⟨fun _ => ⟨fun _ => hW, fun hk0 => ⟨vp01, fun z => ⟨fun _ => hW, fun hn => absurd (lgc0 ?_) hn⟩, fun z => ⟨fun _ => hW, fun hn => absurd (lgc0 ?_) hn⟩⟩⟩, fun h => absurd rfl h⟩
  · rw [key hk0]; unfold fB; rw [if_pos z]
  · rw [key hk0]; unfold fB; rw [if_neg z]
/-- the script's ints of a round -/
def ScI (g : Gl) (i : Int32) : Prop := ∃ t, i = nI (6 * t) ∧ 6 * t + 6 ≤ gN g ∧ gN g ≤ 3072
theorem sc_in {g : Gl} {i : Int32} (h : ScI g i) {k : Nat} (hk : k < 6) : vp_in (i + nI k) (gN g) := by
  obtain ⟨t, rfl, h1, h2⟩ := h
  rw [show nI (6 * t) + nI k = nI (6 * t + k) from (Int32.ofNat_add _ _).symm]
  refine fun q => ?_
  rcases q with q | q
  · exact nI_pos (by omega) q
  · have : (nI (6 * t + k)).toNatClampNeg = 6 * t + k := nx_nI (by omega)
    rw [this] at q; omega
