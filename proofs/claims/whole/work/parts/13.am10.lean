/-! ends: returns, throws, handlers -/
abbrev XN : List String := ["java/lang/RuntimeException", "java/lang/Exception"]
def thrL (own : String) (ik ic e : Nat) : List Cond := Cond.classLink own ik (EN e) :: Cond.initialized (EN e) :: (match e with
  | 3 => (nseAt own ic).filter vx_no
  | _ => vx_atS own ic (EN e) XN)
def thrB (pl : List Nat) (own : String) (ik ic e : Nat) : Bool := ((thrL own ik ic e).zip pl).all (fun q => (tbAt (q.2, q.1) || nwAt (q.2, q.1)) && vx_ot q.1) && Nat.beq (thrL own ik ic e).length pl.length && Bundle.fit (EN e) && XN.all Bundle.fit && Nat.blt e 5
def thrW (own : String) (ik ic e : Nat) : Prop := (∀ w ∈ thrL own ik ic e, (w ∈ TB ∨ w ∈ NW) ∧ vx_ot w = true) ∧ Bundle.fit (EN e) = true ∧ (∀ n ∈ XN, Bundle.fit n = true) ∧ e < 5
theorem mem_zip {α β : Type} : ∀ {l : List α} {r : List β} {a : α}, l.length = r.length → a ∈ l → ∃ b, (a, b) ∈ l.zip r := by
  intro l
  induction l with
  | nil => intro r a _ h; cases h
  | cons x t ih =>
    intro r a hl h
    cases r with
    | nil => cases hl
    | cons y u =>
      rcases List.mem_cons.mp h with rfl | h
      · exact ⟨y, List.mem_cons_self⟩
      · obtain ⟨b, hb⟩ := ih (r := u) (by simpa using hl) h
        exact ⟨b, List.mem_cons_of_mem _ hb⟩
theorem thr_of {pl : List Nat} {own : String} {ik ic e : Nat} (h : thrB pl own ik ic e = true) : thrW own ik ic e := by
  simp only [thrB, Bool.and_eq_true] at h
  obtain ⟨⟨⟨⟨h1, h0⟩, h2⟩, h3⟩, h4⟩ := h
  refine ⟨fun w hw => ?_, h2, fun n hn => List.all_eq_true.mp h3 n hn, Nat.le_of_ble_eq_true h4⟩
  obtain ⟨b, hb⟩ := mem_zip (Nat.eq_of_beq_eq_true h0) hw
  have := List.all_eq_true.mp h1 (w, b) hb
  simp only [Bool.and_eq_true, Bool.or_eq_true] at this
  exact ⟨this.1.imp tb_of nw_of, this.2⟩
theorem Rep.kept {g : Gl} {μ : Mem} {H H1 : Heap} (h : Rep g μ H) (hq : ∀ q : Nat, q < H.size → H1[q]? = H[q]?) : Rep g μ H1 := fun k q hk => (h k q hk).kept (hq _ (vx_lt h hk))
section AM10
variable {g : Gl} {mi : MI} {R : Room} {Q : QT} {nc ns pc : Nat} {ls : List (Nat × Value)} {st : List Value} {μ : Mem} {Φ : Out → Mem → Prop}
theorem am_ret {v : Int32} {ty : FieldType} (hT : miT mi = some ty) (hn : narrow ty (.int v) = .int v) (hc : nc ≤ miK mi) (hs : ns ≤ miS mi) (hd : decode (miC mi) pc = .ok (.ireturn, 1)) (hΦ : Φ (.inl (some (.int v))) μ) : Wm g mi R (QM g mi Φ) nc ns pc ls [.int v] μ := by
  intro p e s m args below meth c C H locs L hR hS hl
  obtain ⟨hx, hb, hml, hr, hlk, hown, hts, hex, hE⟩ := C
  exact vx_ret (W.widen hc hs (W.zret (ty := ty) hx hb (hr.trans hT) hn (fun t ht _ => ⟨⟨_, μ, rfl, hΦ, by rw [ht]; exact hR⟩, hS.F ht⟩) hS.2.2 hd hlk))
theorem am_lret {v : Int64} (hT : miT mi = some .long) (hc : nc ≤ miK mi) (hs : ns ≤ miS mi) (hd : decode (miC mi) pc = .ok (.lreturn, 1)) (hΦ : Φ (.inl (some (.long v))) μ) : Wm g mi R (QM g mi Φ) nc ns pc ls [.long v] μ := by
  intro p e s m args below meth c C H locs L hR hS hl
  obtain ⟨hx, hb, hml, hr, hlk, hown, hts, hex, hE⟩ := C
  exact vx_ret (W.widen hc hs (W.lret hx hb (hr.trans hT) (fun t ht _ => ⟨⟨_, μ, rfl, hΦ, by rw [ht]; exact hR⟩, hS.F ht⟩) hS.2.2 hd hlk))
theorem am_vret (hT : miT mi = none) (hc : nc ≤ miK mi) (hs : ns ≤ miS mi) (hd : decode (miC mi) pc = .ok (.return_, 1)) (hΦ : Φ (.inl none) μ) : Wm g mi R (QM g mi Φ) nc ns pc ls [] μ := by
  intro p e s m args below meth c C H locs L hR hS hl
  obtain ⟨hx, hb, hml, hr, hlk, hown, hts, hex, hE⟩ := C
  exact vx_ret (W.widen hc hs (W.vret hx hb (hr.trans hT) (fun t ht _ => ⟨⟨_, μ, rfl, hΦ, by rw [ht]; exact hR⟩, hS.F ht⟩) hS.2.2 hd hlk))
theorem WX.out {ex : Nat} (hH : miH mi = []) (h5 : ex < 5) (hc : nc ≤ miK mi) (hs : ns ≤ miS mi) (hΦ : Φ (.inr ex) μ) : WX g mi R (QM g mi Φ) nc ns pc ls ex μ := by
  intro p e s m args below meth c C H locs L rest q ce hR hS hl hq hv hcl
  obtain ⟨hx, hb, hml, hr, hlk, hown, hts, hex, hE⟩ := C
  rw [hH] at hex
  exact vx_out (fun x hx => by rw [hex] at hx; cases hx) hlk hq hv hcl (fun t ht _ => ⟨⟨ex, μ, h5, rfl, hΦ, by rw [ht]; exact hR⟩, hS.F ht⟩) hS.2.2 hc hs
theorem thr_words {own : String} {ik ic e : Nat} (h : thrW own ik ic e) {s : State} {args : Array Value} (hts : ∀ w ∈ TB, w.before args s = true) (hN : ∀ w ∈ NW, va_Nw w s) : (∀ w ∈ thrL own ik ic e, w.before args s = true ∧ vx_ot w = true) ∧ Bundle.fit (EN e) = true ∧ (∀ n ∈ XN, Bundle.fit n = true) ∧ e < 5 := by
  refine ⟨fun w hw => ?_, h.2⟩
  obtain ⟨hm, ho⟩ := h.1 w hw
  refine ⟨?_, ho⟩
  rcases hm with hm | hm
  · exact hts w hm
  · refine (hN w hm).use ?_
    have := (List.mem_filter.mp hm).2
    cases w <;> first | rfl | exact absurd this (by simp [isNw])
theorem am_throw {ik is ic ex j : Nat} (hH : miH mi = []) (hw : thrW (miY mi).cls ik ic ex) (hs9 : strB (miY mi).cls (is, j) = true) (hR1 : 5 < R.frames) (hR2 : 100 ≤ R.locals) (hR3 : nc + 1 ≤ R.cells) (hR4 : ns + 6 ≤ R.slots)
    (hd : decode (miC mi) pc = .ok (.new ik, 3)) (d3 : decode (miC mi) (pc + 3) = .ok (.dup, 1))
    (d4 : (decode (miC mi) (pc + 4) = .ok (.ldc is, 2) ∧ decode (miC mi) (pc + 6) = .ok (.invokespecial ic, 3) ∧ decode (miC mi) (pc + 9) = .ok (.athrow, 1)) ∨ (decode (miC mi) (pc + 4) = .ok (.ldc_w is, 3) ∧ decode (miC mi) (pc + 7) = .ok (.invokespecial ic, 3) ∧ decode (miC mi) (pc + 10) = .ok (.athrow, 1)))
    (hc : nc + 1 ≤ miK mi) (hs : ns + 6 ≤ miS mi) (hΦ : Φ (.inr ex) μ) : Wm g mi R (QM g mi Φ) nc ns pc ls [] μ := by
  intro p e s m args below meth c C H locs L hR hS hl
  obtain ⟨hx, hb, hml, hr, hlk, hown, hts, hex, hE⟩ := C
  obtain ⟨t1, t2, t3, t4⟩ := thr_words hw hts hE.2.1
  simp only [strB, Bool.and_eq_true, decide_eq_true_eq] at hs9
  obtain ⟨⟨h1, h2⟩, h3⟩ := hs9
  have hst := (hE.2.2.1 j (Nat.le_of_ble_eq_true h1)).1
  rw [h2, h3] at hst
  rw [hH] at hex
  have hfin : ∀ t : State, s.vm.Alike t.vm → H.size ≤ t.heap.size → (∀ q : Nat, q < H.size → t.heap[q]? = H[q]?) → Qx g Φ (EN ex) s t := fun t _ hz hq =>
    ⟨⟨ex, μ, t4, rfl, hΦ, hR.kept hq⟩, Nat.le_trans hS.1 hz, fun q hq1 hq2 => by rw [hq q (Nat.lt_of_lt_of_le hq1 hS.1)]; exact hS.2.1 q hq1 hq2⟩
  have fr : 82 ≤ R.locals := by omega
  by_cases h3 : ex = 3
  · subst h3
    rcases d4 with ⟨d4, d6, d9⟩ | ⟨d4, d6, d9⟩
    · exact nse_throwS hx hb hE.2.2.2.2.2.2.2.1 hown (t1 _ List.mem_cons_self).1 (t1 _ (List.mem_cons_of_mem _ List.mem_cons_self)).1 hst (fun w h => (t1 w (List.mem_cons_of_mem _ (List.mem_cons_of_mem _ h))).1) (fun w h => (t1 w h).2) hE.2.2.2.1 hE.2.2.2.2.1 hS (hl.1.trans hml.symm) hd d3 d4 d6 d9 (fun x hx => by rw [hex] at hx; cases hx) hR1 (by show 0 + 82 ≤ _; omega) hR3 hR4 hlk hfin hS.2.2 hc hs
    · exact nse_throwSW hx hb hE.2.2.2.2.2.2.2.1 hown (t1 _ List.mem_cons_self).1 (t1 _ (List.mem_cons_of_mem _ List.mem_cons_self)).1 hst (fun w h => (t1 w (List.mem_cons_of_mem _ (List.mem_cons_of_mem _ h))).1) (fun w h => (t1 w h).2) hE.2.2.2.1 hE.2.2.2.2.1 hS (hl.1.trans hml.symm) hd d3 d4 d6 d9 (fun x hx => by rw [hex] at hx; cases hx) hR1 (by show 0 + 82 ≤ _; omega) hR3 hR4 hlk hfin hS.2.2 hc hs
  have hL9 : thrL (miY mi).cls ik ic ex = Cond.classLink (miY mi).cls ik (EN ex) :: Cond.initialized (EN ex) :: vx_atS (miY mi).cls ic (EN ex) XN := by
    unfold thrL
    split
    · exact absurd rfl h3
    · rfl
  rw [hL9] at t1
  rcases d4 with ⟨d4, d6, d9⟩ | ⟨d4, d6, d9⟩
  · exact vx_throwS (names := XN) hx hb hE.2.2.2.2.2.2.2.1 hown t2 t3 (t1 _ List.mem_cons_self).1 (t1 _ (List.mem_cons_of_mem _ List.mem_cons_self)).1 hst (fun w h => (t1 w (List.mem_cons_of_mem _ (List.mem_cons_of_mem _ h))).1) (fun w h => (t1 w h).2) hE.2.2.2.1 hE.2.2.2.2.1 hS (hl.1.trans hml.symm) hd d3 d4 d6 d9 (fun x hx => by rw [hex] at hx; cases hx) hR1 (by show 0 + (13 * (2 + 1) + 43) ≤ _; omega) hR3 hR4 hlk hfin hS.2.2 hc hs
  · exact vx_throwSW (names := XN) hx hb hE.2.2.2.2.2.2.2.1 hown t2 t3 (t1 _ List.mem_cons_self).1 (t1 _ (List.mem_cons_of_mem _ List.mem_cons_self)).1 hst (fun w h => (t1 w (List.mem_cons_of_mem _ (List.mem_cons_of_mem _ h))).1) (fun w h => (t1 w h).2) hE.2.2.2.1 hE.2.2.2.2.1 hS (hl.1.trans hml.symm) hd d3 d4 d6 d9 (fun x hx => by rw [hex] at hx; cases hx) hR1 (by show 0 + (13 * (2 + 1) + 43) ≤ _; omega) hR3 hR4 hlk hfin hS.2.2 hc hs
/-- caught: the handler stores the exception away -/
theorem WX.catch {ex hp n ln : Nat} {pre suf : List (Nat × Nat × Nat × Nat)} {a b ct : Nat} (hH : miH mi = pre ++ (a, b, hp, ct) :: suf) (hpass : ∀ z ∈ pre, z.2.2.2 ≠ 0 ∧ ∃ e2, e2 < 5 ∧ e2 ≠ ex ∧ Cond.classLink (miY mi).cls z.2.2.2 (EN e2) ∈ TB) (h5 : ex < 5) (hcov : a ≤ pc ∧ pc < b) (h0 : ct ≠ 0)
    (hlink : Cond.classLink (miY mi).cls ct (EN ex) ∈ TB) (hcast : Cond.castable (EN ex) (EN ex) ∈ NW) (hn : n < miN mi) (hd : (∃ k : Fin 4, (k : Nat) = n ∧ ln = 1 ∧ decode (miC mi) hp = .ok (.astore_n k, 1)) ∨ (ln = 2 ∧ decode (miC mi) hp = .ok (.astore n, 2)))
    (k : Wm g mi R Q nc ns (hp + ln) (ls.filter fun q => Nat.ble (q.1 + q.2.category) n) [] μ) : WX g mi R Q nc ns pc ls ex μ := by
  intro p e s m args below meth c C H locs L rest q ce hR hS hl hq hv hcl
  have C' := C
  obtain ⟨hx, hb, hml, hr, hlk, hown, hts, hex, hE⟩ := C'
  refine vx_catch hown (tableOf pre) ⟨a, b, hp, ct⟩ (tableOf suf) (by rw [hex, hH]; simp [tableOf]) ?_ ?_ h0 (hts _ hlink) ((hE.2.1 _ hcast).use rfl) hq hv hcl ?_
  · intro z hz
    obtain ⟨y, hy, rfl⟩ := List.mem_map.mp hz
    obtain ⟨z0, e2, h2, hne, hl2⟩ := hpass y hy
    exact Or.inr ⟨z0, EN e2, hts _ hl2, hE.2.2.2.2.2.2.2.2.2.2.2.2.1 ex e2 h5 h2 (fun q => hne q.symm)⟩
  · simp [covers, hcov]
  · have key : ∀ q9 ∈ tl g (ls.filter fun q => Nat.ble (q.1 + q.2.category) n), q9 ∈ (n, Value.ref q) :: (tl g ls).filter (fun q => !(q.1 == n) && !(q.1 + 1 == n && q.2.category == 2)) := by
      intro q9 h9
      obtain ⟨r, hr9, rfl⟩ := List.mem_map.mp h9
      obtain ⟨h1, h2⟩ := List.mem_filter.mp hr9
      have h3 := Nat.le_of_ble_eq_true h2
      have := cat_pos r.2
      refine List.mem_cons_of_mem _ (List.mem_filter.mpr ⟨List.mem_map.mpr ⟨r, h1, rfl⟩, ?_⟩)
      simp only [tv_cat, Bool.and_eq_true, Bool.not_eq_true', beq_eq_false_iff_ne, Bool.and_eq_false_iff]
      refine ⟨by omega, ?_⟩
      by_cases hz : r.2.category = 2
      · left; omega
      · right; exact hz
    rcases hd with ⟨k4, hk4, rfl, hd⟩ | ⟨rfl, hd⟩
    · exact lv_astore_n hx hb hd hk4 hl hn rfl fun L' hl' => k p e s m args below meth c C H locs L' hR hS (lv_weak hl' key)
    · exact lv_astore hx hb hd hl hn rfl fun L' hl' => k p e s m args below meth c C H locs L' hR hS (lv_weak hl' key)
end AM10
