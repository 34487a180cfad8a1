/-! one row an instruction -/
section AM3
variable {g : Gl} {mi : MI} {R : Room} {Q : QT} {nc ns pc : Nat} {ls : List (Nat × Value)} {st : List Value} {μ : Mem}
theorem am_iadd {x y : Int32} (hd : decode (miC mi) pc = .ok (.iadd, 1)) (k : Wm g mi R Q nc ns (pc + 1) ls (.int (x + y) :: st) μ) : Wm g mi R Q nc ns pc ls (.int y :: .int x :: st) μ := fun p e s m args below meth c C H locs L hR hS hl =>
  lv_iadd C.1 C.2.1 hd (k p e s m args below meth c C H locs L hR hS hl)
theorem am_isub {x y : Int32} (hd : decode (miC mi) pc = .ok (.isub, 1)) (k : Wm g mi R Q nc ns (pc + 1) ls (.int (x - y) :: st) μ) : Wm g mi R Q nc ns pc ls (.int y :: .int x :: st) μ := fun p e s m args below meth c C H locs L hR hS hl =>
  lv_isub C.1 C.2.1 hd (k p e s m args below meth c C H locs L hR hS hl)
theorem am_imul {x y : Int32} (hd : decode (miC mi) pc = .ok (.imul, 1)) (k : Wm g mi R Q nc ns (pc + 1) ls (.int (x * y) :: st) μ) : Wm g mi R Q nc ns pc ls (.int y :: .int x :: st) μ := fun p e s m args below meth c C H locs L hR hS hl =>
  lv_imul C.1 C.2.1 hd (k p e s m args below meth c C H locs L hR hS hl)
theorem am_iand {x y : Int32} (hd : decode (miC mi) pc = .ok (.iand, 1)) (k : Wm g mi R Q nc ns (pc + 1) ls (.int (x &&& y) :: st) μ) : Wm g mi R Q nc ns pc ls (.int y :: .int x :: st) μ := fun p e s m args below meth c C H locs L hR hS hl =>
  lv_iand C.1 C.2.1 hd (k p e s m args below meth c C H locs L hR hS hl)
theorem am_ior {x y : Int32} (hd : decode (miC mi) pc = .ok (.ior, 1)) (k : Wm g mi R Q nc ns (pc + 1) ls (.int (x ||| y) :: st) μ) : Wm g mi R Q nc ns pc ls (.int y :: .int x :: st) μ := fun p e s m args below meth c C H locs L hR hS hl =>
  lv_ior C.1 C.2.1 hd (k p e s m args below meth c C H locs L hR hS hl)
theorem am_ixor {x y : Int32} (hd : decode (miC mi) pc = .ok (.ixor, 1)) (k : Wm g mi R Q nc ns (pc + 1) ls (.int (x ^^^ y) :: st) μ) : Wm g mi R Q nc ns pc ls (.int y :: .int x :: st) μ := fun p e s m args below meth c C H locs L hR hS hl =>
  lv_ixor C.1 C.2.1 hd (k p e s m args below meth c C H locs L hR hS hl)
theorem am_ishl {x y : Int32} (hd : decode (miC mi) pc = .ok (.ishl, 1)) (k : Wm g mi R Q nc ns (pc + 1) ls (.int (x <<< (y &&& 31)) :: st) μ) : Wm g mi R Q nc ns pc ls (.int y :: .int x :: st) μ := fun p e s m args below meth c C H locs L hR hS hl =>
  lv_ishl C.1 C.2.1 hd (k p e s m args below meth c C H locs L hR hS hl)
theorem am_ishr {x y : Int32} (hd : decode (miC mi) pc = .ok (.ishr, 1)) (k : Wm g mi R Q nc ns (pc + 1) ls (.int (x >>> (y &&& 31)) :: st) μ) : Wm g mi R Q nc ns pc ls (.int y :: .int x :: st) μ := fun p e s m args below meth c C H locs L hR hS hl =>
  lv_ishr C.1 C.2.1 hd (k p e s m args below meth c C H locs L hR hS hl)
def ush (x y : Int32) : Int32 := (x.toUInt32 >>> (y.toUInt32 &&& Int32.toUInt32 31)).toInt32
theorem am_iushr {x y : Int32} (hd : decode (miC mi) pc = .ok (.iushr, 1)) (k : Wm g mi R Q nc ns (pc + 1) ls (.int (ush x y) :: st) μ) : Wm g mi R Q nc ns pc ls (.int y :: .int x :: st) μ := fun p e s m args below meth c C H locs L hR hS hl =>
  lv_iushr C.1 C.2.1 hd rfl (k p e s m args below meth c C H locs L hR hS hl)
theorem am_idiv {x y : Int32} (hn : ¬ y = 0) (hd : decode (miC mi) pc = .ok (.idiv, 1)) (k : Wm g mi R Q nc ns (pc + 1) ls (.int (x / y) :: st) μ) : Wm g mi R Q nc ns pc ls (.int y :: .int x :: st) μ := fun p e s m args below meth c C H locs L hR hS hl =>
  lv_idiv C.1 C.2.1 hd hn (k p e s m args below meth c C H locs L hR hS hl)
theorem am_irem {x y : Int32} (hn : ¬ y = 0) (hd : decode (miC mi) pc = .ok (.irem, 1)) (k : Wm g mi R Q nc ns (pc + 1) ls (.int (x - x / y * y) :: st) μ) : Wm g mi R Q nc ns pc ls (.int y :: .int x :: st) μ := fun p e s m args below meth c C H locs L hR hS hl =>
  lv_irem C.1 C.2.1 hd hn (k p e s m args below meth c C H locs L hR hS hl)
theorem am_ineg {x : Int32} (hd : decode (miC mi) pc = .ok (.ineg, 1)) (k : Wm g mi R Q nc ns (pc + 1) ls (.int (-x) :: st) μ) : Wm g mi R Q nc ns pc ls (.int x :: st) μ := fun p e s m args below meth c C H locs L hR hS hl =>
  lv_ineg C.1 C.2.1 hd (k p e s m args below meth c C H locs L hR hS hl)
theorem am_ladd {x y : Int64} (hd : decode (miC mi) pc = .ok (.ladd, 1)) (k : Wm g mi R Q nc ns (pc + 1) ls (.long (x + y) :: st) μ) : Wm g mi R Q nc ns pc ls (.long y :: .long x :: st) μ := fun p e s m args below meth c C H locs L hR hS hl =>
  lv_ladd C.1 C.2.1 hd (k p e s m args below meth c C H locs L hR hS hl)
theorem am_lsub {x y : Int64} (hd : decode (miC mi) pc = .ok (.lsub, 1)) (k : Wm g mi R Q nc ns (pc + 1) ls (.long (x - y) :: st) μ) : Wm g mi R Q nc ns pc ls (.long y :: .long x :: st) μ := fun p e s m args below meth c C H locs L hR hS hl =>
  lv_lsub C.1 C.2.1 hd (k p e s m args below meth c C H locs L hR hS hl)
theorem am_land {x y : Int64} (hd : decode (miC mi) pc = .ok (.land, 1)) (k : Wm g mi R Q nc ns (pc + 1) ls (.long (x &&& y) :: st) μ) : Wm g mi R Q nc ns pc ls (.long y :: .long x :: st) μ := fun p e s m args below meth c C H locs L hR hS hl =>
  lv_land C.1 C.2.1 hd (k p e s m args below meth c C H locs L hR hS hl)
theorem am_lor {x y : Int64} (hd : decode (miC mi) pc = .ok (.lor, 1)) (k : Wm g mi R Q nc ns (pc + 1) ls (.long (x ||| y) :: st) μ) : Wm g mi R Q nc ns pc ls (.long y :: .long x :: st) μ := fun p e s m args below meth c C H locs L hR hS hl =>
  lv_lor C.1 C.2.1 hd (k p e s m args below meth c C H locs L hR hS hl)
theorem am_lxor {x y : Int64} (hd : decode (miC mi) pc = .ok (.lxor, 1)) (k : Wm g mi R Q nc ns (pc + 1) ls (.long (x ^^^ y) :: st) μ) : Wm g mi R Q nc ns pc ls (.long y :: .long x :: st) μ := fun p e s m args below meth c C H locs L hR hS hl =>
  lv_lxor C.1 C.2.1 hd (k p e s m args below meth c C H locs L hR hS hl)
def lush (x : Int64) (y : Int32) : Int64 := (x.toUInt64 >>> (y.toInt64.toUInt64 &&& Int64.toUInt64 63)).toInt64
theorem am_lushr {x : Int64} {y : Int32} (hd : decode (miC mi) pc = .ok (.lushr, 1)) (k : Wm g mi R Q nc ns (pc + 1) ls (.long (lush x y) :: st) μ) : Wm g mi R Q nc ns pc ls (.int y :: .long x :: st) μ := fun p e s m args below meth c C H locs L hR hS hl =>
  lv_lushr C.1 C.2.1 hd rfl (k p e s m args below meth c C H locs L hR hS hl)
theorem am_lshl {x : Int64} {y : Int32} (hd : decode (miC mi) pc = .ok (.lshl, 1)) (k : Wm g mi R Q nc ns (pc + 1) ls (.long (x <<< (y.toInt64 &&& 63)) :: st) μ) : Wm g mi R Q nc ns pc ls (.int y :: .long x :: st) μ := fun p e s m args below meth c C H locs L hR hS hl =>
  lv_lshl C.1 C.2.1 hd rfl (k p e s m args below meth c C H locs L hR hS hl)
theorem am_lshr {x : Int64} {y : Int32} (hd : decode (miC mi) pc = .ok (.lshr, 1)) (k : Wm g mi R Q nc ns (pc + 1) ls (.long (x >>> (y.toInt64 &&& 63)) :: st) μ) : Wm g mi R Q nc ns pc ls (.int y :: .long x :: st) μ := fun p e s m args below meth c C H locs L hR hS hl =>
  lv_lshr C.1 C.2.1 hd rfl (k p e s m args below meth c C H locs L hR hS hl)
theorem am_lcmp {x y : Int64} (hd : decode (miC mi) pc = .ok (.lcmp, 1)) (k : Wm g mi R Q nc ns (pc + 1) ls (.int (lg_cmp x y) :: st) μ) : Wm g mi R Q nc ns pc ls (.long y :: .long x :: st) μ := fun p e s m args below meth c C H locs L hR hS hl =>
  W.lcmp C.1 C.2.1 hd (k p e s m args below meth c C H locs L hR hS hl)
theorem am_i2l {x : Int32} (hd : decode (miC mi) pc = .ok (.i2l, 1)) (k : Wm g mi R Q nc ns (pc + 1) ls (.long x.toInt64 :: st) μ) : Wm g mi R Q nc ns pc ls (.int x :: st) μ := fun p e s m args below meth c C H locs L hR hS hl =>
  lv_i2l C.1 C.2.1 hd rfl (k p e s m args below meth c C H locs L hR hS hl)
theorem am_l2i {x : Int64} (hd : decode (miC mi) pc = .ok (.l2i, 1)) (k : Wm g mi R Q nc ns (pc + 1) ls (.int x.toInt32 :: st) μ) : Wm g mi R Q nc ns pc ls (.long x :: st) μ := fun p e s m args below meth c C H locs L hR hS hl =>
  lv_l2i C.1 C.2.1 hd rfl (k p e s m args below meth c C H locs L hR hS hl)
theorem am_i2b {x : Int32} (hd : decode (miC mi) pc = .ok (.i2b, 1)) (k : Wm g mi R Q nc ns (pc + 1) ls (.int x.toInt8.toInt32 :: st) μ) : Wm g mi R Q nc ns pc ls (.int x :: st) μ := fun p e s m args below meth c C H locs L hR hS hl =>
  lv_i2b C.1 C.2.1 hd rfl (k p e s m args below meth c C H locs L hR hS hl)
theorem am_iconst {n : Int} (hd : decode (miC mi) pc = .ok (.iconst n, 1)) (k : Wm g mi R Q nc ns (pc + 1) ls (.int (iv n) :: st) μ) : Wm g mi R Q nc ns pc ls st μ := fun p e s m args below meth c C H locs L hR hS hl =>
  lv_iconst C.1 C.2.1 hd (iv_ofInt n) (k p e s m args below meth c C H locs L hR hS hl)
theorem am_bipush {n : Int} (hn : (Int8.ofInt n).toInt32 = iv n) (hd : decode (miC mi) pc = .ok (.bipush n, 2)) (k : Wm g mi R Q nc ns (pc + 2) ls (.int (iv n) :: st) μ) : Wm g mi R Q nc ns pc ls st μ := fun p e s m args below meth c C H locs L hR hS hl =>
  lv_bipush C.1 C.2.1 hd hn (k p e s m args below meth c C H locs L hR hS hl)
theorem am_sipush {n : Int} (hn : (Int16.ofInt n).toInt32 = iv n) (hd : decode (miC mi) pc = .ok (.sipush n, 3)) (k : Wm g mi R Q nc ns (pc + 3) ls (.int (iv n) :: st) μ) : Wm g mi R Q nc ns pc ls st μ := fun p e s m args below meth c C H locs L hR hS hl =>
  lv_sipush C.1 C.2.1 hd hn (k p e s m args below meth c C H locs L hR hS hl)
theorem am_iload_n {n : Fin 4} {x : Int32} (hx : lk ls n = some (.int x)) (hd : decode (miC mi) pc = .ok (.iload_n n, 1)) (k : Wm g mi R Q nc ns (pc + 1) ls (.int x :: st) μ) : Wm g mi R Q nc ns pc ls st μ := fun p e s m args below meth c C H locs L hR hS hl =>
  lv_iload_n C.1 C.2.1 hd rfl (lk_at hl hx) (k p e s m args below meth c C H locs L hR hS hl)
theorem am_iload {n : Nat} {x : Int32} (hx : lk ls n = some (.int x)) (hd : decode (miC mi) pc = .ok (.iload n, 2)) (k : Wm g mi R Q nc ns (pc + 2) ls (.int x :: st) μ) : Wm g mi R Q nc ns pc ls st μ := fun p e s m args below meth c C H locs L hR hS hl =>
  lv_iload C.1 C.2.1 hd (lk_at hl hx) (k p e s m args below meth c C H locs L hR hS hl)
theorem am_istore_n {n : Fin 4} {x : Int32} (hn : (n : Nat) < miN mi) (hd : decode (miC mi) pc = .ok (.istore_n n, 1)) (k : Wm g mi R Q nc ns (pc + 1) (lput ls n (.int x)) st μ) : Wm g mi R Q nc ns pc ls (.int x :: st) μ := fun p e s m args below meth c C H locs L hR hS hl =>
  lv_istore_n C.1 C.2.1 hd rfl hl hn rfl fun L' hl' => k p e s m args below meth c C H locs L' hR hS (lv_weak hl' (lput_sub1 rfl))
theorem am_istore {n : Nat} {x : Int32} (hn : (n : Nat) < miN mi) (hd : decode (miC mi) pc = .ok (.istore n, 2)) (k : Wm g mi R Q nc ns (pc + 2) (lput ls n (.int x)) st μ) : Wm g mi R Q nc ns pc ls (.int x :: st) μ := fun p e s m args below meth c C H locs L hR hS hl =>
  lv_istore C.1 C.2.1 hd hl hn rfl fun L' hl' => k p e s m args below meth c C H locs L' hR hS (lv_weak hl' (lput_sub1 rfl))
theorem am_lload_n {n : Fin 4} {x : Int64} (hx : lk ls n = some (.long x)) (hd : decode (miC mi) pc = .ok (.lload_n n, 1)) (k : Wm g mi R Q nc ns (pc + 1) ls (.long x :: st) μ) : Wm g mi R Q nc ns pc ls st μ := fun p e s m args below meth c C H locs L hR hS hl =>
  lv_lload_n C.1 C.2.1 hd rfl (lk_at hl hx) (k p e s m args below meth c C H locs L hR hS hl)
theorem am_lload {n : Nat} {x : Int64} (hx : lk ls n = some (.long x)) (hd : decode (miC mi) pc = .ok (.lload n, 2)) (k : Wm g mi R Q nc ns (pc + 2) ls (.long x :: st) μ) : Wm g mi R Q nc ns pc ls st μ := fun p e s m args below meth c C H locs L hR hS hl =>
  lv_lload C.1 C.2.1 hd (lk_at hl hx) (k p e s m args below meth c C H locs L hR hS hl)
theorem am_lstore_n {n : Fin 4} {x : Int64} (hn : (n : Nat) + 1 < miN mi) (hd : decode (miC mi) pc = .ok (.lstore_n n, 1)) (k : Wm g mi R Q nc ns (pc + 1) (lput ls n (.long x)) st μ) : Wm g mi R Q nc ns pc ls (.long x :: st) μ := fun p e s m args below meth c C H locs L hR hS hl =>
  lv_lstore_n C.1 C.2.1 hd rfl hl hn rfl fun L' hl' => k p e s m args below meth c C H locs L' hR hS (lv_weak hl' (lput_sub2 rfl))
theorem am_lstore {n : Nat} {x : Int64} (hn : (n : Nat) + 1 < miN mi) (hd : decode (miC mi) pc = .ok (.lstore n, 2)) (k : Wm g mi R Q nc ns (pc + 2) (lput ls n (.long x)) st μ) : Wm g mi R Q nc ns pc ls (.long x :: st) μ := fun p e s m args below meth c C H locs L hR hS hl =>
  lv_lstore C.1 C.2.1 hd hl hn rfl fun L' hl' => k p e s m args below meth c C H locs L' hR hS (lv_weak hl' (lput_sub2 rfl))
theorem am_aload_n {n : Fin 4} {a : Nat} (hx : lk ls n = some (.ref a)) (hd : decode (miC mi) pc = .ok (.aload_n n, 1)) (k : Wm g mi R Q nc ns (pc + 1) ls (.ref a :: st) μ) : Wm g mi R Q nc ns pc ls st μ := fun p e s m args below meth c C H locs L hR hS hl =>
  lv_aload_n C.1 C.2.1 hd rfl (lk_at hl hx) (k p e s m args below meth c C H locs L hR hS hl)
theorem am_aload {n : Nat} {a : Nat} (hx : lk ls n = some (.ref a)) (hd : decode (miC mi) pc = .ok (.aload n, 2)) (k : Wm g mi R Q nc ns (pc + 2) ls (.ref a :: st) μ) : Wm g mi R Q nc ns pc ls st μ := fun p e s m args below meth c C H locs L hR hS hl =>
  lv_aload C.1 C.2.1 hd (lk_at hl hx) (k p e s m args below meth c C H locs L hR hS hl)
theorem am_astore_n {n : Fin 4} {a : Nat} (hn : (n : Nat) < miN mi) (hd : decode (miC mi) pc = .ok (.astore_n n, 1)) (k : Wm g mi R Q nc ns (pc + 1) (lput ls n (.ref a)) st μ) : Wm g mi R Q nc ns pc ls (.ref a :: st) μ := fun p e s m args below meth c C H locs L hR hS hl =>
  lv_astore_n C.1 C.2.1 hd rfl hl hn rfl fun L' hl' => k p e s m args below meth c C H locs L' hR hS (lv_weak hl' (lput_sub1 rfl))
theorem am_astore {n : Nat} {a : Nat} (hn : (n : Nat) < miN mi) (hd : decode (miC mi) pc = .ok (.astore n, 2)) (k : Wm g mi R Q nc ns (pc + 2) (lput ls n (.ref a)) st μ) : Wm g mi R Q nc ns pc ls (.ref a :: st) μ := fun p e s m args below meth c C H locs L hR hS hl =>
  lv_astore C.1 C.2.1 hd hl hn rfl fun L' hl' => k p e s m args below meth c C H locs L' hR hS (lv_weak hl' (lput_sub1 rfl))
theorem am_iinc {i : Nat} {n : Int} {x : Int32} (hn : i < miN mi) (hx : lk ls i = some (.int x)) (hd : decode (miC mi) pc = .ok (.iinc i n, 3)) (k : Wm g mi R Q nc ns (pc + 3) (lput ls i (.int (x + iv n))) st μ) : Wm g mi R Q nc ns pc ls st μ := by
  intro p e s m args below meth c C H locs L hR hS hl
  obtain ⟨q, hq⟩ := List.getElem?_of_mem (List.mem_map.mpr ⟨(i, .int x), lk_mem hx, rfl⟩ : (i, tv g (.int x)) ∈ tl g ls)
  exact lv_iinc C.1 C.2.1 hd hl hq (by rw [iv_ofInt]) hn rfl fun L' hl' => k p e s m args below meth c C H locs L' hR hS (lv_weak hl' (lput_sub1 rfl))
theorem am_dup {v : Value} (hv : v.category = 1) (hd : decode (miC mi) pc = .ok (.dup, 1)) (k : Wm g mi R Q nc ns (pc + 1) ls (v :: v :: st) μ) : Wm g mi R Q nc ns pc ls (v :: st) μ := fun p e s m args below meth c C H locs L hR hS hl =>
  lv_dup C.1 C.2.1 hd ((tv_cat g v).trans hv) (k p e s m args below meth c C H locs L hR hS hl)
theorem am_pop {v : Value} (hv : v.category = 1) (hd : decode (miC mi) pc = .ok (.pop, 1)) (k : Wm g mi R Q nc ns (pc + 1) ls st μ) : Wm g mi R Q nc ns pc ls (v :: st) μ := fun p e s m args below meth c C H locs L hR hS hl =>
  lv_pop C.1 C.2.1 hd ((tv_cat g v).trans hv) (k p e s m args below meth c C H locs L hR hS hl)
theorem am_dup2 {v w : Value} (hv : v.category = 1) (hw : w.category = 1) (hd : decode (miC mi) pc = .ok (.dup2, 1)) (k : Wm g mi R Q nc ns (pc + 1) ls (v :: w :: v :: w :: st) μ) : Wm g mi R Q nc ns pc ls (v :: w :: st) μ := fun p e s m args below meth c C H locs L hR hS hl =>
  lv_dup2_11 C.1 C.2.1 hd ((tv_cat g v).trans hv) ((tv_cat g w).trans hw) (k p e s m args below meth c C H locs L hR hS hl)
theorem jt_ok {pc : Nat} {off : Int} (h : 0 ≤ (pc : Int) + off) : (pc : Int) + off = ((jt pc off : Nat) : Int) := (Int.toNat_of_nonneg h).symm
theorem am_goto {off : Int} (ho : 0 ≤ (pc : Int) + off) (hd : decode (miC mi) pc = .ok (.goto off, 3)) (k : Wm g mi R Q nc ns (jt pc off) ls st μ) : Wm g mi R Q nc ns pc ls st μ := fun p e s m args below meth c C H locs L hR hS hl =>
  lv_goto C.1 C.2.1 hd (jt_ok ho) (k p e s m args below meth c C H locs L hR hS hl)
theorem am_if_eq {off : Int} {x : Int32} (ho : 0 ≤ (pc : Int) + off) (hd : decode (miC mi) pc = .ok (.ifCond .eq off, 3)) (k : (x = 0 → Wm g mi R Q nc ns (jt pc off) ls st μ) ∧ (¬ x = 0 → Wm g mi R Q nc ns (pc + 3) ls st μ)) : Wm g mi R Q nc ns pc ls (.int x :: st) μ := fun p e s m args below meth c C H locs L hR hS hl =>
  lv_if_eq C.1 C.2.1 hd (jt_ok ho) (fun h => k.1 h p e s m args below meth c C H locs L hR hS hl) (fun h => k.2 h p e s m args below meth c C H locs L hR hS hl)
theorem am_icmp_eq {off : Int} {x y : Int32} (ho : 0 ≤ (pc : Int) + off) (hd : decode (miC mi) pc = .ok (.if_icmp .eq off, 3)) (k : (x = y → Wm g mi R Q nc ns (jt pc off) ls st μ) ∧ (¬ x = y → Wm g mi R Q nc ns (pc + 3) ls st μ)) : Wm g mi R Q nc ns pc ls (.int y :: .int x :: st) μ := fun p e s m args below meth c C H locs L hR hS hl =>
  lv_icmp_eq C.1 C.2.1 hd (jt_ok ho) (fun h => k.1 h p e s m args below meth c C H locs L hR hS hl) (fun h => k.2 h p e s m args below meth c C H locs L hR hS hl)
theorem am_if_ne {off : Int} {x : Int32} (ho : 0 ≤ (pc : Int) + off) (hd : decode (miC mi) pc = .ok (.ifCond .ne off, 3)) (k : (¬ x = 0 → Wm g mi R Q nc ns (jt pc off) ls st μ) ∧ (x = 0 → Wm g mi R Q nc ns (pc + 3) ls st μ)) : Wm g mi R Q nc ns pc ls (.int x :: st) μ := fun p e s m args below meth c C H locs L hR hS hl =>
  lv_if_ne C.1 C.2.1 hd (jt_ok ho) (fun h => k.1 h p e s m args below meth c C H locs L hR hS hl) (fun h => k.2 h p e s m args below meth c C H locs L hR hS hl)
theorem am_icmp_ne {off : Int} {x y : Int32} (ho : 0 ≤ (pc : Int) + off) (hd : decode (miC mi) pc = .ok (.if_icmp .ne off, 3)) (k : (¬ x = y → Wm g mi R Q nc ns (jt pc off) ls st μ) ∧ (x = y → Wm g mi R Q nc ns (pc + 3) ls st μ)) : Wm g mi R Q nc ns pc ls (.int y :: .int x :: st) μ := fun p e s m args below meth c C H locs L hR hS hl =>
  lv_icmp_ne C.1 C.2.1 hd (jt_ok ho) (fun h => k.1 h p e s m args below meth c C H locs L hR hS hl) (fun h => k.2 h p e s m args below meth c C H locs L hR hS hl)
theorem am_if_lt {off : Int} {x : Int32} (ho : 0 ≤ (pc : Int) + off) (hd : decode (miC mi) pc = .ok (.ifCond .lt off, 3)) (k : (x < 0 → Wm g mi R Q nc ns (jt pc off) ls st μ) ∧ (¬ x < 0 → Wm g mi R Q nc ns (pc + 3) ls st μ)) : Wm g mi R Q nc ns pc ls (.int x :: st) μ := fun p e s m args below meth c C H locs L hR hS hl =>
  lv_if_lt C.1 C.2.1 hd (jt_ok ho) (fun h => k.1 h p e s m args below meth c C H locs L hR hS hl) (fun h => k.2 h p e s m args below meth c C H locs L hR hS hl)
theorem am_icmp_lt {off : Int} {x y : Int32} (ho : 0 ≤ (pc : Int) + off) (hd : decode (miC mi) pc = .ok (.if_icmp .lt off, 3)) (k : (x < y → Wm g mi R Q nc ns (jt pc off) ls st μ) ∧ (¬ x < y → Wm g mi R Q nc ns (pc + 3) ls st μ)) : Wm g mi R Q nc ns pc ls (.int y :: .int x :: st) μ := fun p e s m args below meth c C H locs L hR hS hl =>
  lv_icmp_lt C.1 C.2.1 hd (jt_ok ho) (fun h => k.1 h p e s m args below meth c C H locs L hR hS hl) (fun h => k.2 h p e s m args below meth c C H locs L hR hS hl)
theorem am_if_ge {off : Int} {x : Int32} (ho : 0 ≤ (pc : Int) + off) (hd : decode (miC mi) pc = .ok (.ifCond .ge off, 3)) (k : (0 ≤ x → Wm g mi R Q nc ns (jt pc off) ls st μ) ∧ (¬ 0 ≤ x → Wm g mi R Q nc ns (pc + 3) ls st μ)) : Wm g mi R Q nc ns pc ls (.int x :: st) μ := fun p e s m args below meth c C H locs L hR hS hl =>
  lv_if_ge C.1 C.2.1 hd (jt_ok ho) (fun h => k.1 h p e s m args below meth c C H locs L hR hS hl) (fun h => k.2 h p e s m args below meth c C H locs L hR hS hl)
theorem am_icmp_ge {off : Int} {x y : Int32} (ho : 0 ≤ (pc : Int) + off) (hd : decode (miC mi) pc = .ok (.if_icmp .ge off, 3)) (k : (y ≤ x → Wm g mi R Q nc ns (jt pc off) ls st μ) ∧ (¬ y ≤ x → Wm g mi R Q nc ns (pc + 3) ls st μ)) : Wm g mi R Q nc ns pc ls (.int y :: .int x :: st) μ := fun p e s m args below meth c C H locs L hR hS hl =>
  lv_icmp_ge C.1 C.2.1 hd (jt_ok ho) (fun h => k.1 h p e s m args below meth c C H locs L hR hS hl) (fun h => k.2 h p e s m args below meth c C H locs L hR hS hl)
theorem am_if_gt {off : Int} {x : Int32} (ho : 0 ≤ (pc : Int) + off) (hd : decode (miC mi) pc = .ok (.ifCond .gt off, 3)) (k : (0 < x → Wm g mi R Q nc ns (jt pc off) ls st μ) ∧ (¬ 0 < x → Wm g mi R Q nc ns (pc + 3) ls st μ)) : Wm g mi R Q nc ns pc ls (.int x :: st) μ := fun p e s m args below meth c C H locs L hR hS hl =>
  lv_if_gt C.1 C.2.1 hd (jt_ok ho) (fun h => k.1 h p e s m args below meth c C H locs L hR hS hl) (fun h => k.2 h p e s m args below meth c C H locs L hR hS hl)
theorem am_icmp_gt {off : Int} {x y : Int32} (ho : 0 ≤ (pc : Int) + off) (hd : decode (miC mi) pc = .ok (.if_icmp .gt off, 3)) (k : (y < x → Wm g mi R Q nc ns (jt pc off) ls st μ) ∧ (¬ y < x → Wm g mi R Q nc ns (pc + 3) ls st μ)) : Wm g mi R Q nc ns pc ls (.int y :: .int x :: st) μ := fun p e s m args below meth c C H locs L hR hS hl =>
  lv_icmp_gt C.1 C.2.1 hd (jt_ok ho) (fun h => k.1 h p e s m args below meth c C H locs L hR hS hl) (fun h => k.2 h p e s m args below meth c C H locs L hR hS hl)
theorem am_if_le {off : Int} {x : Int32} (ho : 0 ≤ (pc : Int) + off) (hd : decode (miC mi) pc = .ok (.ifCond .le off, 3)) (k : (x ≤ 0 → Wm g mi R Q nc ns (jt pc off) ls st μ) ∧ (¬ x ≤ 0 → Wm g mi R Q nc ns (pc + 3) ls st μ)) : Wm g mi R Q nc ns pc ls (.int x :: st) μ := fun p e s m args below meth c C H locs L hR hS hl =>
  lv_if_le C.1 C.2.1 hd (jt_ok ho) (fun h => k.1 h p e s m args below meth c C H locs L hR hS hl) (fun h => k.2 h p e s m args below meth c C H locs L hR hS hl)
theorem am_icmp_le {off : Int} {x y : Int32} (ho : 0 ≤ (pc : Int) + off) (hd : decode (miC mi) pc = .ok (.if_icmp .le off, 3)) (k : (x ≤ y → Wm g mi R Q nc ns (jt pc off) ls st μ) ∧ (¬ x ≤ y → Wm g mi R Q nc ns (pc + 3) ls st μ)) : Wm g mi R Q nc ns pc ls (.int y :: .int x :: st) μ := fun p e s m args below meth c C H locs L hR hS hl =>
  lv_icmp_le C.1 C.2.1 hd (jt_ok ho) (fun h => k.1 h p e s m args below meth c C H locs L hR hS hl) (fun h => k.2 h p e s m args below meth c C H locs L hR hS hl)
end AM3
