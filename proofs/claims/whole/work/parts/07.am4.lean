/-! rows of the heap -/
theorem sh_n : ∀ k, k < NC → (sh k).1 < 100 → (cls[(sh k).1]?).map (fun r => r.2.2) = some (sh k).2 := by decide +kernel
theorem rt_lt : ∀ k, k < NC → ∀ j, j < 32 → (rt k j).all (fun r => decide (r < NC)) = true := by decide +kernel
theorem sh_small : ∀ k, k < NC → (sh k).1 < 100 → (sh k).2 ≤ 32 := by decide +kernel
/-- a field's value, references as ids -/
def rfv : Option Nat → Value
  | some r => .ref r
  | none => .null
def gF (μ : Mem) (k j t : Nat) : Value := match t with
  | 1 => .long (mL μ k j)
  | 4 => rfv (rt k j)
  | _ => .int (mI μ k j)
theorem wd_at {g : Gl} {μ : Mem} {k : Nat} (hk : k < NC) : (wd g μ)[k]? = some (ga g k, cE g μ k) := by simp [wd, hk]
theorem gr_lt {g : Gl} {k : Nat} (hk : k < NC) : gr g k = ga g k := if_pos (Nat.lt_trans hk (by decide))
theorem cE_obj {g : Gl} {μ : Mem} {k ci : Nat} (h : (sh k).1 = ci) (hc : ci < 100) : cE g μ k = .inr (ci, (List.range (sh k).2).map fun j => fv g μ k j (ftc ci j)) := by
  unfold cE; rw [if_pos (by rw [h]; exact hc), h]
theorem tv_gF {g : Gl} {μ : Mem} {k j t : Nat} (hk : k < NC) (hj : j < 32) : tv g (gF μ k j t) = fv g μ k j t := by
  unfold gF fv
  split
  · rfl
  · rw [if_neg (by decide), if_pos rfl]
    have := rt_lt k hk j hj
    cases h : rt k j with
    | none => rfl
    | some r =>
      rw [h] at this
      have hr : r < NC := by simpa using this
      show Value.ref (gr g r) = Value.ref (ga g r)
      rw [gr_lt hr]
  · rename_i h1 h2
    rw [if_neg h1, if_neg h2]; rfl
abbrev Fld : Type := Nat × Nat × Nat × Nat × Nat × Nat
/-- a field link of a class's pool: index, class, slot, kind (0 own, 1 a nest mate's, 2 inherited), the words' places -/
def flB (own : String) (q : Fld) : Bool := match cls[q.2.1]? with
  | none => false
  | some r => Nat.blt q.2.2.1 r.2.2 && (match q.2.2.2.1 with
    | 0 => tbAt (q.2.2.2.2.1, .fieldLink own q.1 (r.2.1 q.2.2.1).1 (r.2.1 q.2.2.1).2.1 (r.2.1 q.2.2.1).2.2.1)
    | 1 => nwAt (q.2.2.2.2.1, .fieldLinkNest own q.1 (r.2.1 q.2.2.1).1 (r.2.1 q.2.2.1).2.1 (r.2.1 q.2.2.1).2.2.1 "SaidOnce")
    | _ => tbAt (q.2.2.2.2.1, .fieldLink own q.1 own (r.2.1 q.2.2.1).2.1 (r.2.1 q.2.2.1).2.2.1) && tbAt (q.2.2.2.2.2, .sameField own (r.2.1 q.2.2.1).1 (r.2.1 q.2.2.1).2.1 (r.2.1 q.2.2.1).2.2.1))
section AM4
variable {g : Gl} {mi : MI} {R : Room} {Q : QT} {nc ns pc : Nat} {ls : List (Nat × Value)} {st : List Value} {μ : Mem}
theorem am_get {idx ci j kd p1 p2 k : Nat} (hq : flB (miY mi).cls (idx, ci, j, kd, p1, p2) = true) (hk : k < NC) (hc : (sh k).1 = ci) (hd : decode (miC mi) pc = .ok (.getfield idx, 3))
    (kk : Wm g mi R Q nc ns (pc + 3) ls (gF μ k j (ftc ci j) :: st) μ) : Wm g mi R Q nc ns pc ls (.ref k :: st) μ := by
  intro p e s m args below meth c C H locs L hR hS hl
  have k9 := kk p e s m args below meth c C H locs L hR hS hl
  obtain ⟨hx, hb, hml, hr, hlk, hown, hts, hex, hE⟩ := C
  unfold flB at hq
  cases hr0 : cls[ci]? with
  | none => simp only [hr0] at hq; cases hq
  | some r =>
    obtain ⟨Cn, T, N⟩ := r
    simp only [hr0, Bool.and_eq_true] at hq
    obtain ⟨hj, hq⟩ := hq
    have hj : j < N := Nat.le_of_ble_eq_true hj
    have hci : ci < 100 := Nat.lt_of_lt_of_le (List.getElem?_eq_some_iff.mp hr0).1 (by decide)
    have hn : (sh k).2 = N := by
      have := sh_n k hk (by rw [hc]; exact hci)
      rw [hc, hr0] at this
      exact (Option.some.inj this).symm
    have he : (wd g μ)[k]? = some (gr g k, .inr (ci, (List.range N).map fun j => fv g μ k j (ftc ci j))) := by
      rw [wd_at hk, gr_lt hk, cE_obj hc hci, hn]
    have hv : ((List.range N).map fun j => fv g μ k j (ftc ci j))[j]? = some (tv g (gF μ k j (ftc ci j))) := by
      rw [tv_gF hk (Nat.lt_of_lt_of_le hj (by rw [← hn]; exact sh_small k hk (by rw [hc]; exact hci)))]
      simp [hj]
    have hok := cls_ok hr0
    split at hq
    · exact va_get (ref := (T j).1) hx hb hts hok.1 hown hE.1 hR k he hr0 j hj (hts _ (tb_of hq)) (fun _ h => h) hv hd k9
    · exact va_getN (ref := (T j).1) hx hb hts hok.1 hown hE.1 hR k he hr0 j hj ((hE.2.1 _ (nw_of hq)).use rfl) (fun _ h => h) hv hd k9
    · simp only [Bool.and_eq_true] at hq
      exact va_get (ref := (miY mi).cls) hx hb hts hok.1 hown hE.1 hR k he hr0 j hj (hts _ (tb_of hq.1)) (fun x h => u_same (hts _ (tb_of hq.2)) x h) hv hd k9
end AM4
