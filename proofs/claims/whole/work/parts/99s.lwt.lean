/-! a law's text: the class's conditions -/
def ECn (Φ : Out → Mem → Prop) (μ : Mem) (f : Nat → Int32) (n : Nat) (o : CLs) (r : PRt CLs) : Prop := ∀ μ', Lz zLC μ' = Lz zLC μ → (match r with
  | .inl x => TK f n x.2 μ' → CO (o ++ x.1) μ' → Φ (.inl (some (.int 1))) μ'
  | .inr b => mI μ' 1 4 = nI b → Φ (.inl (some (.int 0))) μ')
section CON
variable {g : Gl} {Φ : Out → Mem → Prop} {μ : Mem} {f : Nat → Int32} {n a : Nat} {o W : CLs}
theorem ECn_pre {r : PRt CLs} {μ1 : Mem} {c : CLs} (H : ECn Φ μ f n o (preP c r)) (e : Lz zLC μ1 = Lz zLC μ) : ECn Φ μ1 f n (o ++ c) r := by
  intro μ' e'
  have H' := H μ' (e'.trans e)
  cases r with
  | inl x =>
    intro t h
    refine H' t ?_
    show CO (o ++ (c ++ x.1)) μ'
    rw [← List.append_assoc]; exact h
  | inr b => exact H'
/-- a joint -/
theorem c_jnt {j : Int32} (hj : j = -13 ∨ j = -14) (S : CSt f n a o W μ) (h4 : o.length + W.length ≤ 400) {X1 X2 : Nat → Mem → Prop} {k : Mem → Prop} (K : ∀ μ', Lz zLC μ' = Lz zLC μ → CSt f n a (o ++ stE j W) (j :: stR j W) μ' → k μ') :
    Spec g i_LawR_settle 0 [.ref 82, .int j] μ (onV (fun μ1 => Spec g i_LawR_await 0 [.ref 82, .int j] μ1 (onV k X1)) X2) := by
  have l20 := GW_20 S.2.2.2.1 S.2.2.2.2.1 S.2.2.2.2.2
  have l1 := stE_len (j := j) (W := W)
  have j14 : (-14 : Int32) ≤ j := by rcases hj with e | e <;> rw [e] <;> decide
  have jd : dpt (j :: stR j W) = dpt (stR j W) := by rcases hj with e | e <;> rw [e] <;> rfl
  have jb : brk (j :: stR j W) = brk (stR j W) := by rcases hj with e | e <;> rw [e] <;> rfl
  refine c_st j14 S.2.1 S.2.2.1 h4 (by omega) fun μ1 e1 o1 w1 => oV ?_
  have S1 := CSt_S S e1 o1 w1
  refine c_aw (W := stR j W) w1.1 w1.2.1 (by rw [jd]; exact w1.2.2.1) (by rw [jb]; exact w1.2.2.2) (by omega) fun μ2 e2 w2 => oV ?_
  exact K μ2 ((zAw_LC e2).trans (zST_LC e1)) ⟨TK_em e2 (fun _ => rfl) (fun _ => rfl) S1.1, CO_em e2 rfl (fun _ => rfl) o1, w2, WSo_c S1.2.2.2.1 (by rcases hj with e | e <;> rw [e] <;> decide), GW_jn S.2.2.2.2.1 hj, by rw [jd]; exact S1.2.2.2.2.2⟩
theorem c_con17 : ∀ d x1 a o W μ, n - a < d → CSt f n a o W μ → x1 + 1 ≤ a → o.length + W.length + 1 ≤ a → ECn Φ μ f n o (CMu f n a W) → WW g i_LawR_readCondition 0 Φ 0 0 17 [(0, .ref 82), (1, .int (nI x1))] [] μ := by
  intro d
  induction d with
  | zero => intro x1 a o W μ h; omega
  | succ d ih =>
    intro x1 a o W μ hd S hx hbd H
    have n4 := S.1.1
    have ha := S.1.2.1
    have ht := S.1.2.2.1
    rw [CMu_eq ha ht S.2.2.2.1 S.2.2.2.2.2] at H
    refine v_LawR_readCondition_17 ⟨fun q => absurd q (nI_ge (b := 400) (by omega) (by decide)), fun _ => spi o_LawR_readOpenings rfl (v_LawR_readOpenings_0 (c_ope 7 0 a W μ (by omega) (by omega) S fun μ1 e1 => ?_))⟩
    cases hr : opU f n a W with
    | inr b =>
      intro hb
      rw [hr] at H
      exact oI ⟨fun _ => z01 (H μ1 e1 hb), fun q => absurd rfl q⟩
    | inl x =>
      intro S1
      rw [hr] at H
      simp only [bdP] at H
      obtain ⟨p1, p2, p3, p4, p5, p6⟩ := opU_st 7 a W x (by omega) S.2.2.2.2.2 ha ht S.2.2.2.1 hr
      refine oI ⟨fun q => absurd q (by decide), fun _ => c_fac S1 (by omega) fun μ2 e2 => ?_⟩
      cases hr2 : fcP f n x.2 with
      | inr b =>
        intro hb
        rw [hr2] at H
        exact oI ⟨fun q => absurd rfl q, fun _ => z01 (H μ2 (e2.trans e1) hb)⟩
      | inl y =>
        intro S2
        rw [hr2] at H
        simp only [bdP] at H
        obtain ⟨q1, q2, q3⟩ := fcP_adv p2 y hr2
        obtain ⟨g1, -, -⟩ := fcP_g p2 y hr2
        have l20 := GW_20 S2.2.2.2.1 S2.2.2.2.2.1 S2.2.2.2.2.2
        have lo : (o ++ y.1).length = o.length + y.1.length := List.length_append
        refine oI ⟨fun _ => c_clo S2 (by omega) fun μ3 e3 S3 => oV ?_, fun q => absurd q (by decide)⟩
        have H3 := ECn_pre H (e2.trans e1)
        unfold CLu CLk at H3
        have H4 := ECn_pre H3 e3
        have c1 : WSo (stR (-12) x.1) := WSo_R p4
        have c2 : dpt (stR (-12) x.1) ≤ 6 := Nat.le_trans dpt_R p5
        obtain ⟨u1, u2, u3, u4, u5, u6⟩ := clU_st 6 y.2 (stR (-12) x.1) (Nat.le_trans brk_dpt c2) (Nat.le_refl _) q2 q3 c1 c2
        have le := stE_len (j := -12) (W := x.1)
        have lo3 : (o ++ y.1 ++ (stE (-12) x.1 ++ (clU f n y.2 (stR (-12) x.1)).1)).length = o.length + y.1.length + ((stE (-12) x.1).length + (clU f n y.2 (stR (-12) x.1)).1.length) := by simp only [List.length_append]
        generalize (clU f n y.2 (stR (-12) x.1)).2.1 = b at *
        generalize (clU f n y.2 (stR (-12) x.1)).2.2 = W3 at *
        generalize o ++ y.1 ++ (stE (-12) x.1 ++ (clU f n y.2 (stR (-12) x.1)).1) = o3 at *
        have hb3 : o3.length + W3.length + 1 ≤ b := by omega
        have l3 := GW_20 S3.2.2.2.1 S3.2.2.2.2.1 S3.2.2.2.2.2
        unfold JNk at H4
        refine c_tW S3.1 (bs := bAn) wk_1013 rfl (by decide) (fun h => oI ⟨fun _ => ?_, fun q => absurd rfl q⟩) (fun h μ4 e4 t4 => oI ⟨fun q => absurd q (by decide), fun _ => ⟨fun _ => ?_, fun q => absurd q (by decide)⟩⟩)
        · rw [if_neg (by rw [h]; decide)] at H4
          refine c_tW S3.1 (bs := bOr) wk_1014 rfl (by decide) (fun h2 => oI ⟨fun _ => ⟨fun q => absurd rfl q, fun _ => ?_⟩, fun q => absurd rfl q⟩) (fun h2 μ4 e4 t4 => oI ⟨fun q => absurd q (by decide), fun _ => ⟨fun _ => ?_, fun q => absurd q (by decide)⟩⟩)
          · rw [if_neg (by rw [h2]; decide)] at H4
            refine c_st (by decide) S3.2.1 S3.2.2.1 (by omega) (by omega) fun μ5 e5 o5 w5 => oV ?_
            have S5 := CSt_S S3 e5 o5 w5
            have H5 := ECn_pre H4 (zST_LC e5)
            have hB : mI μ5 82 5 = nI (brk W3) := by rw [w5.2.2.2, brk_R (by decide)]
            have hle := brk_dpt (W := W3)
            have h6 := S3.2.2.2.2.2
            rw [hB]
            refine ⟨fun hne => z01 ?_, fun heq => z11 ?_⟩
            · rw [if_neg (fun e => hne (by rw [e]; rfl))] at H5
              exact H5 μ5 rfl (TK_st S5.1)
            · have : brk W3 = 0 := nI_inj (b := 0) (by omega) (by omega) heq
              rw [if_pos this] at H5
              exact H5 μ5 rfl S5.1 (by dsimp only; rw [List.append_nil]; exact o5)
          · rw [if_pos h2] at H4
            have hg := nxt_gt (wdm_n0 h2)
            refine c_jnt (Or.inr rfl) (CSt_tk S3 e4 t4) (by omega) fun μ5 e5 S5 => ?_
            have l5 := stE_len (j := -14) (W := W3)
            rw [← nI_succ]
            refine ih (x1 + 1) _ _ _ μ5 (by omega) S5 (by omega) (by rw [List.length_append, List.length_cons]; omega) (ECn_pre H4 (e5.trans (zTk_LC e4)))
        · rw [if_pos h] at H4
          have hg := nxt_gt (wdm_n0 h)
          refine c_jnt (Or.inl rfl) (CSt_tk S3 e4 t4) (by omega) fun μ5 e5 S5 => ?_
          have l5 := stE_len (j := -13) (W := W3)
          rw [← nI_succ]
          refine ih (x1 + 1) _ _ _ μ5 (by omega) S5 (by omega) (by rw [List.length_append, List.length_cons]; omega) (ECn_pre H4 (e5.trans (zTk_LC e4)))
theorem c_con (t : TK f n a μ) (ho : CO o μ) (hbd : o.length + 1 ≤ a) (H : ECn Φ μ f n o (LPu f n 3 a 0)) : Spec g i_LawR_readCondition 0 [.ref 82] μ Φ := by
  refine spi o_LawR_readCondition rfl (v_LawR_readCondition_0 ?_)
  have t' : TK f n a (sI (sI (sI μ 82 3 0) 82 4 0) 82 5 0) := t
  have o' : CO o (sI (sI (sI μ 82 3 0) 82 4 0) 82 5 0) := ho
  have w' : CW [] (sI (sI (sI μ 82 3 0) 82 4 0) 82 5 0) := ⟨rfl, fun i hi => absurd hi (Nat.not_lt_zero _), rfl, rfl⟩
  refine c_con17 (n + 1) 0 a o [] _ (by omega) ⟨t', o', w', fun x h => absurd h List.not_mem_nil, trivial, Nat.zero_le _⟩ (by omega) (by rw [List.length_nil]; omega) ?_
  rw [CM_LP t.2.1 t.2.2.1]
  exact fun μ' e' => H μ' (e'.trans ((Lz_I rfl).trans ((Lz_I rfl).trans (Lz_I rfl))))
end CON
