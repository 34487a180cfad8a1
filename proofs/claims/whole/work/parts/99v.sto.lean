/-! store, fault, thrown -/
section STO
variable {g : Gl} {Φ : Out → Mem → Prop} {μ : Mem} {w : WD}
theorem C_store (c : CI μ w) (H : Φ (.inl (some (.long w.2))) μ) : Spec g i_SO_store 0 [.ref 0] μ Φ :=
  spi o_SO_store rfl (v_SO_store_0 (by rw [c.1.2.1.1]; exact H))
theorem M_store (m : MW μ w) (H : Φ (.inl (some (.long w.2))) (sI μ 140 0 0)) : Spec g i_Mo_store 0 [.ref 140] μ Φ :=
  spi o_Mo_store rfl (v_Mo_store_0 (by rw [mw_l m]; exact H))
theorem C_fault (H : Φ (.inl (some (.int (mI μ 1 2)))) μ) : Spec g i_SO_fault 0 [.ref 0] μ Φ := spi o_SO_fault rfl (v_SO_fault_0 H)
theorem M_fault (H : Φ (.inl (some (.int (mI μ 140 19)))) (sI μ 140 0 0)) : Spec g i_Mo_fault 0 [.ref 140] μ Φ := spi o_Mo_fault rfl (v_Mo_fault_0 H)
theorem M_thrown (H : Φ (.inl (some (.int (mI μ 140 0)))) μ) : Spec g i_Mo_thrown 0 [.ref 140] μ Φ := spi o_Mo_thrown rfl (v_Mo_thrown_0 H)
end STO
