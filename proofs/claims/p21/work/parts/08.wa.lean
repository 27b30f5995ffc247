/-! ===== printed by program (wip/gen/run.py): what a walk needs, and the contract out of it ===== -/
def Q_X4_isWithin (p0 : Int32) (p1 : Int32) (p2 : Int32) (post : Int32 → Prop) : Prop := ((p0 < p1 → (post (0 : Int32))) ∧ (¬ p0 < p1 → (((p2 < p0 → (post (0 : Int32))) ∧ (¬ p2 < p0 → (post (1 : Int32)))))))
set_option maxRecDepth 100000 in
set_option maxHeartbeats 4000000 in
theorem m_X4_isWithin {l : Launch} (G : Gx) (p0 : Int32) (p1 : Int32) (p2 : Int32) {post : Int32 → Prop} (hq : Q_X4_isWithin p0 p1 p2 post) : MetI l yX4_isWithin (gC yX4_isWithin cX4_isWithin 3 (some .boolean)) rmX4_isWithin G [.int p0, .int p1, .int p2] w0 f0 v0 (fun r _ _ => post r) := by
  refine met_z (own := RX4) (by decide) rfl (Nat.le_of_ble_eq_true rfl) (fun κ hκ C hR => ?_)
  unfold Q_X4_isWithin at hq
  subst hκ
  show J κ 0 0 [] 0 [(0, .int p0), (1, .int p1), (2, .int p2)] []
  refine j_iload_n 1 C dX4_isWithin_0 rfl 0 rfl ?_
  refine j_iload_n 2 C dX4_isWithin_1 rfl 1 rfl ?_
  refine j_icmp_lt 5 14 C dX4_isWithin_2 rfl rfl (fun c_1 => ?_) (fun c_1 => ?_)
  · replace hq := hq.1 c_1
    refine j_iconst 15 C dX4_isWithin_14 rfl ic_0 ?_
    exact hR _ _ _ f0 v0 dX4_isWithin_15 (Or.inl rfl) hq
  · replace hq := hq.2 c_1
    refine j_iload_n 6 C dX4_isWithin_5 rfl 0 rfl ?_
    refine j_iload_n 7 C dX4_isWithin_6 rfl 2 rfl ?_
    refine j_icmp_gt 10 14 C dX4_isWithin_7 rfl rfl (fun c_2 => ?_) (fun c_2 => ?_)
    · replace hq := hq.1 c_2
      refine j_iconst 15 C dX4_isWithin_14 rfl ic_0 ?_
      exact hR _ _ _ f0 v0 dX4_isWithin_15 (Or.inl rfl) hq
    · replace hq := hq.2 c_2
      refine j_iconst 11 C dX4_isWithin_10 rfl ic_1 ?_
      refine j_goto 15 C dX4_isWithin_11 rfl ?_
      exact hR _ _ _ f0 v0 dX4_isWithin_15 (Or.inr rfl) hq
def Q_X4_isSheet (p0 : Int32) (post : Int32 → Prop) : Prop := Q_X4_isWithin p0 (0 : Int32) (3 : Int32) (fun r_1 => (((r_1 = 0 ∨ r_1 = 1) ∧ post r_1)))
set_option maxRecDepth 100000 in
set_option maxHeartbeats 4000000 in
theorem m_X4_isSheet {l : Launch} (G : Gx) (p0 : Int32) {post : Int32 → Prop} (hq : Q_X4_isSheet p0 post) : MetI l yX4_isSheet (gC yX4_isSheet cX4_isSheet 1 (some .boolean)) rmX4_isSheet G [.int p0] w0 f0 v0 (fun r _ _ => post r) := by
  refine met_z (own := RX4) (by decide) rfl (Nat.le_of_ble_eq_true rfl) (fun κ hκ C hR => ?_)
  unfold Q_X4_isSheet at hq
  subst hκ
  show J κ 0 0 [] 0 [(0, .int p0)] []
  refine j_iload_n 1 C dX4_isSheet_0 rfl 0 rfl ?_
  refine j_iconst 2 C dX4_isSheet_1 rfl ic_0 ?_
  refine j_iconst 3 C dX4_isSheet_2 rfl ic_3 ?_
  refine j_callSi 6 C [] [] (fun _ _ => []) (As := [.int p0, .int (0 : Int32), .int (3 : Int32)]) (m_X4_isWithin G p0 (0 : Int32) (3 : Int32) hq) oX4_isWithin kX4_54 ⟨rfl, rfl⟩ eX4_isWithin ⟨Nat.le_of_ble_eq_true rfl, Nat.le_of_ble_eq_true rfl⟩ ⟨Nat.zero_le _, Nat.zero_le _⟩ rfl (fun _ _ => rfl) (fun _ _ => rfl) rfl (Nat.le_of_ble_eq_true rfl) dX4_isSheet_3 rfl (fun r_1 _ _ hq => ?_)
  exact hR _ _ _ f0 v0 dX4_isSheet_6 hq.1 hq.2
def Q_X2_isNothing (f : FF) (v : VV) (post : Int32 → Prop) : Prop := ((¬ (v 0) = (-1 : Int32) → (post (0 : Int32))) ∧ ((v 0) = (-1 : Int32) → (post (1 : Int32))))
set_option maxRecDepth 100000 in
set_option maxHeartbeats 4000000 in
theorem m_X2_isNothing {l : Launch} (G : Gx) (h : Nat → Nat) (f : FF) (v : VV) {post : Int32 → Prop} (hq : Q_X2_isNothing f v post) : MetI l yX2_isNothing (gC yX2_isNothing cX2_isNothing 1 (some .boolean)) rmX2_isNothing G [.ref (h 0)] (wS G h) f v (fun r f' v' => post r ∧ f' = f ∧ v' = v) := by
  refine met_z (own := RX2) (by decide) rfl (Nat.le_of_ble_eq_true rfl) (fun κ hκ C hR => ?_)
  unfold Q_X2_isNothing at hq
  subst hκ
  show J κ 0 0 (wS G h f v) 0 [(0, .ref (h 0))] []
  refine j_aload_n 1 C dX2_isNothing_0 rfl 0 rfl ?_
  refine j_get 4 C uX2 0 rfl rfl 1 (Nat.le_of_ble_eq_true rfl) lX2_15 (v := .int (v 0)) rfl dX2_isNothing_1 rfl ?_
  refine j_iconst 5 C dX2_isNothing_4 rfl ic_m1 ?_
  refine j_icmp_ne 8 12 C dX2_isNothing_5 rfl rfl (fun c_1 => ?_) (fun c_1 => ?_)
  · replace hq := hq.1 c_1
    refine j_iconst 13 C dX2_isNothing_12 rfl ic_0 ?_
    exact hR _ _ _ f v dX2_isNothing_13 (Or.inl rfl) ⟨hq, rfl, rfl⟩
  · replace hq := hq.2 c_1
    refine j_iconst 9 C dX2_isNothing_8 rfl ic_1 ?_
    refine j_goto 13 C dX2_isNothing_9 rfl ?_
    exact hR _ _ _ f v dX2_isNothing_13 (Or.inr rfl) ⟨hq, rfl, rfl⟩
def Q_X2_faultAs (p0 : Int32) (f : FF) (v : VV) (post : Int32 → Prop) : Prop := Q_X2_isNothing  f v (fun r_1 => (((r_1 = 0 → (((¬ (v 0) = p0 → (post (2 : Int32))) ∧ ((v 0) = p0 → (post (0 : Int32)))))) ∧ (¬ r_1 = 0 → (post (1 : Int32))))))
set_option maxRecDepth 100000 in
set_option maxHeartbeats 4000000 in
theorem m_X2_faultAs {l : Launch} (G : Gx) (h : Nat → Nat) (p0 : Int32) (f : FF) (v : VV) {post : Int32 → Prop} (hq : Q_X2_faultAs p0 f v post) : MetI l yX2_faultAs (gC yX2_faultAs cX2_faultAs 2 (some .int)) rmX2_faultAs G [.ref (h 0), .int p0] (wS G h) f v (fun r f' v' => post r ∧ f' = f ∧ v' = v) := by
  refine met_i (own := RX2) (by decide) rfl (Nat.le_of_ble_eq_true rfl) (fun κ hκ C hR => ?_)
  unfold Q_X2_faultAs at hq
  subst hκ
  show J κ 0 0 (wS G h f v) 0 [(0, .ref (h 0)), (1, .int p0)] []
  refine j_aload_n 1 C dX2_faultAs_0 rfl 0 rfl ?_
  refine j_callVi_ro 4 C [] [] (As := []) (m_X2_isNothing G h f v hq) oX2_isNothing kX2_22 ⟨rfl, rfl⟩ eX2_isNothing ⟨Nat.le_of_ble_eq_true rfl, Nat.le_of_ble_eq_true rfl⟩ ⟨Nat.zero_le _, Nat.zero_le _⟩ (List.append_nil _).symm (fun _ _ => rfl) 0 rfl rfl rfl (Nat.le_of_ble_eq_true rfl) dX2_faultAs_1 rfl (fun r_1 hq => ?_)
  refine j_if_eq 7 9 C dX2_faultAs_4 rfl rfl (fun c_2 => ?_) (fun c_2 => ?_)
  · replace hq := hq.1 c_2
    refine j_aload_n 10 C dX2_faultAs_9 rfl 0 rfl ?_
    refine j_get 13 C uX2 0 rfl rfl 1 (Nat.le_of_ble_eq_true rfl) lX2_15 (v := .int (v 0)) rfl dX2_faultAs_10 rfl ?_
    refine j_iload_n 14 C dX2_faultAs_13 rfl 1 rfl ?_
    refine j_icmp_ne 17 21 C dX2_faultAs_14 rfl rfl (fun c_3 => ?_) (fun c_3 => ?_)
    · replace hq := hq.1 c_3
      refine j_iconst 22 C dX2_faultAs_21 rfl ic_2 ?_
      exact hR _ _ _ f v dX2_faultAs_22 ⟨hq, rfl, rfl⟩
    · replace hq := hq.2 c_3
      refine j_iconst 18 C dX2_faultAs_17 rfl ic_0 ?_
      refine j_goto 22 C dX2_faultAs_18 rfl ?_
      exact hR _ _ _ f v dX2_faultAs_22 ⟨hq, rfl, rfl⟩
  · replace hq := hq.2 c_2
    refine j_iconst 8 C dX2_faultAs_7 rfl ic_1 ?_
    exact hR _ _ _ f v dX2_faultAs_8 ⟨hq, rfl, rfl⟩
def Q_X2_hasCells (p0 : Int32) (p1 : Int32) (f : FF) (v : VV) (post : Int32 → Prop) : Prop := ((p0 < 0 → (post (0 : Int32))) ∧ (¬ p0 < 0 → ((((v 1) < p0 → (post (0 : Int32))) ∧ (¬ (v 1) < p0 → (((p1 < 0 → (post (0 : Int32))) ∧ (¬ p1 < 0 → (((((v 1) - p0) < p1 → (post (0 : Int32))) ∧ (¬ ((v 1) - p0) < p1 → (post (1 : Int32)))))))))))))
set_option maxRecDepth 100000 in
set_option maxHeartbeats 4000000 in
theorem m_X2_hasCells {l : Launch} (G : Gx) (h : Nat → Nat) (p0 : Int32) (p1 : Int32) (f : FF) (v : VV) {post : Int32 → Prop} (hq : Q_X2_hasCells p0 p1 f v post) : MetI l yX2_hasCells (gC yX2_hasCells cX2_hasCells 3 (some .boolean)) rmX2_hasCells G [.ref (h 0), .int p0, .int p1] (wS G h) f v (fun r f' v' => post r ∧ f' = f ∧ v' = v) := by
  refine met_z (own := RX2) (by decide) rfl (Nat.le_of_ble_eq_true rfl) (fun κ hκ C hR => ?_)
  unfold Q_X2_hasCells at hq
  subst hκ
  show J κ 0 0 (wS G h f v) 0 [(0, .ref (h 0)), (1, .int p0), (2, .int p1)] []
  refine j_iload_n 1 C dX2_hasCells_0 rfl 1 rfl ?_
  refine j_if_lt 4 30 C dX2_hasCells_1 rfl rfl (fun c_1 => ?_) (fun c_1 => ?_)
  · replace hq := hq.1 c_1
    refine j_iconst 31 C dX2_hasCells_30 rfl ic_0 ?_
    exact hR _ _ _ f v dX2_hasCells_31 (Or.inl rfl) ⟨hq, rfl, rfl⟩
  · replace hq := hq.2 c_1
    refine j_iload_n 5 C dX2_hasCells_4 rfl 1 rfl ?_
    refine j_aload_n 6 C dX2_hasCells_5 rfl 0 rfl ?_
    refine j_get 9 C uX2 0 rfl rfl 2 (Nat.le_of_ble_eq_true rfl) lX2_19 (v := .int (v 1)) rfl dX2_hasCells_6 rfl ?_
    refine j_icmp_gt 12 30 C dX2_hasCells_9 rfl rfl (fun c_2 => ?_) (fun c_2 => ?_)
    · replace hq := hq.1 c_2
      refine j_iconst 31 C dX2_hasCells_30 rfl ic_0 ?_
      exact hR _ _ _ f v dX2_hasCells_31 (Or.inl rfl) ⟨hq, rfl, rfl⟩
    · replace hq := hq.2 c_2
      refine j_iload_n 13 C dX2_hasCells_12 rfl 2 rfl ?_
      refine j_if_lt 16 30 C dX2_hasCells_13 rfl rfl (fun c_3 => ?_) (fun c_3 => ?_)
      · replace hq := hq.1 c_3
        refine j_iconst 31 C dX2_hasCells_30 rfl ic_0 ?_
        exact hR _ _ _ f v dX2_hasCells_31 (Or.inl rfl) ⟨hq, rfl, rfl⟩
      · replace hq := hq.2 c_3
        refine j_iload_n 17 C dX2_hasCells_16 rfl 2 rfl ?_
        refine j_aload_n 18 C dX2_hasCells_17 rfl 0 rfl ?_
        refine j_get 21 C uX2 0 rfl rfl 2 (Nat.le_of_ble_eq_true rfl) lX2_19 (v := .int (v 1)) rfl dX2_hasCells_18 rfl ?_
        refine j_iload_n 22 C dX2_hasCells_21 rfl 1 rfl ?_
        refine j_isub 23 C dX2_hasCells_22 rfl ?_
        refine j_icmp_gt 26 30 C dX2_hasCells_23 rfl rfl (fun c_4 => ?_) (fun c_4 => ?_)
        · replace hq := hq.1 c_4
          refine j_iconst 31 C dX2_hasCells_30 rfl ic_0 ?_
          exact hR _ _ _ f v dX2_hasCells_31 (Or.inl rfl) ⟨hq, rfl, rfl⟩
        · replace hq := hq.2 c_4
          refine j_iconst 27 C dX2_hasCells_26 rfl ic_1 ?_
          refine j_goto 31 C dX2_hasCells_27 rfl ?_
          exact hR _ _ _ f v dX2_hasCells_31 (Or.inr rfl) ⟨hq, rfl, rfl⟩
def Q_X1_becomeEmpty (f : FF) (v : VV) (post : FF → VV → Prop) : Prop := ∀ v_1 : VV, v_1 = fu v 0 (0 : Int32) → (∀ v_2 : VV, v_2 = fu v_1 1 (0 : Int32) → (post f v_2))
set_option maxRecDepth 100000 in
set_option maxHeartbeats 4000000 in
theorem m_X1_becomeEmpty {l : Launch} (G : Gx) (h : Nat → Nat) (f : FF) (v : VV) {post : FF → VV → Prop} (hq : Q_X1_becomeEmpty f v post) : MetV l yX1_becomeEmpty (gC yX1_becomeEmpty cX1_becomeEmpty 1 none) rmX1_becomeEmpty G [.ref (h 0)] (wP G h) f v post := by
  refine met_v (own := RX1) (by decide) rfl (Nat.le_of_ble_eq_true rfl) (fun κ hκ C hR => ?_)
  unfold Q_X1_becomeEmpty at hq
  subst hκ
  show J κ 0 0 (wP G h f v) 0 [(0, .ref (h 0))] []
  refine j_aload_n 1 C dX1_becomeEmpty_0 rfl 0 rfl ?_
  refine j_iconst 2 C dX1_becomeEmpty_1 rfl ic_0 ?_
  obtain ⟨v_1, ev_1⟩ : ∃ y : VV, y = fu v 0 (0 : Int32) := ⟨_, rfl⟩
  replace hq := hq v_1 ev_1
  refine j_put 5 C uX1 tyX1 tyX1_ok nmX1 0 rfl rfl 3 (Nat.le_of_ble_eq_true rfl) lX1_39 rfl rfl (Nat.le_of_ble_eq_true rfl) dX1_becomeEmpty_2 rfl (ws' := (wP G h f v_1)) (by subst ev_1; rfl) ?_
  refine j_aload_n 6 C dX1_becomeEmpty_5 rfl 0 rfl ?_
  refine j_iconst 7 C dX1_becomeEmpty_6 rfl ic_0 ?_
  obtain ⟨v_2, ev_2⟩ : ∃ y : VV, y = fu v_1 1 (0 : Int32) := ⟨_, rfl⟩
  replace hq := hq v_2 ev_2
  refine j_put 10 C uX1 tyX1 tyX1_ok nmX1 0 rfl rfl 8 (Nat.le_of_ble_eq_true rfl) lX1_43 rfl rfl (Nat.le_of_ble_eq_true rfl) dX1_becomeEmpty_7 rfl (ws' := (wP G h f v_2)) (by subst ev_2; rfl) ?_
  exact hR _ _ _ _ dX1_becomeEmpty_10 hq
def Q_X3_peek (f : FF) (v : VV) (post : Int32 → Prop) : Prop := (((v 0) ≤ (v 1) → (post (-1 : Int32))) ∧ (¬ (v 0) ≤ (v 1) → (vp_in (v 1) 60 ∧ (post ((f 0) ((v 1)).toNatClampNeg)))))
set_option maxRecDepth 100000 in
set_option maxHeartbeats 4000000 in
theorem m_X3_peek {l : Launch} (G : Gx) (h : Nat → Nat) (f : FF) (v : VV) {post : Int32 → Prop} (hq : Q_X3_peek f v post) : MetI l yX3_peek (gC yX3_peek cX3_peek 1 (some .int)) rmX3_peek G [.ref (h 0)] (wR G h) f v (fun r f' v' => post r ∧ f' = f ∧ v' = v) := by
  refine met_i (own := RX3) (by decide) rfl (Nat.le_of_ble_eq_true rfl) (fun κ hκ C hR => ?_)
  unfold Q_X3_peek at hq
  subst hκ
  show J κ 0 0 (wR G h f v) 0 [(0, .ref (h 0))] []
  refine j_aload_n 1 C dX3_peek_0 rfl 0 rfl ?_
  refine j_get 4 C uX3 0 rfl rfl 3 (Nat.le_of_ble_eq_true rfl) lX3_37 (v := .int (v 1)) rfl dX3_peek_1 rfl ?_
  refine j_aload_n 5 C dX3_peek_4 rfl 0 rfl ?_
  refine j_get 8 C uX3 0 rfl rfl 2 (Nat.le_of_ble_eq_true rfl) lX3_33 (v := .int (v 0)) rfl dX3_peek_5 rfl ?_
  refine j_icmp_ge 11 23 C dX3_peek_8 rfl rfl (fun c_1 => ?_) (fun c_1 => ?_)
  · replace hq := hq.1 c_1
    refine j_iconst 24 C dX3_peek_23 rfl ic_m1 ?_
    exact hR _ _ _ f v dX3_peek_24 ⟨hq, rfl, rfl⟩
  · replace hq := hq.2 c_1
    refine j_aload_n 12 C dX3_peek_11 rfl 0 rfl ?_
    refine j_get 15 C uX3 0 rfl rfl 1 (Nat.le_of_ble_eq_true rfl) lX3_18 (v := .ref (h 1)) rfl dX3_peek_12 rfl ?_
    refine j_aload_n 16 C dX3_peek_15 rfl 0 rfl ?_
    refine j_get 19 C uX3 0 rfl rfl 3 (Nat.le_of_ble_eq_true rfl) lX3_37 (v := .int (v 1)) rfl dX3_peek_16 rfl ?_
    obtain ⟨hi_2, hq⟩ := hq
    refine j_iald 20 C 1 (f := (f 0)) rfl hi_2 dX3_peek_19 rfl ?_
    refine j_goto 24 C dX3_peek_20 rfl ?_
    exact hR _ _ _ f v dX3_peek_24 ⟨hq, rfl, rfl⟩
def Q_X3_pass (p0 : Int32) (f : FF) (v : VV) (post : Int32 → FF → VV → Prop) : Prop := Q_X3_peek  f v (fun r_1 => (((r_1 = p0 → (∀ v_3 : VV, v_3 = fu v 1 ((v 1) + (1 : Int32)) → (post (1 : Int32) f v_3))) ∧ (¬ r_1 = p0 → (post (0 : Int32) f v)))))
set_option maxRecDepth 100000 in
set_option maxHeartbeats 4000000 in
theorem m_X3_pass {l : Launch} (G : Gx) (h : Nat → Nat) (p0 : Int32) (f : FF) (v : VV) {post : Int32 → FF → VV → Prop} (hq : Q_X3_pass p0 f v post) : MetI l yX3_pass (gC yX3_pass cX3_pass 2 (some .boolean)) rmX3_pass G [.ref (h 0), .int p0] (wR G h) f v post := by
  refine met_z (own := RX3) (by decide) rfl (Nat.le_of_ble_eq_true rfl) (fun κ hκ C hR => ?_)
  unfold Q_X3_pass at hq
  subst hκ
  show J κ 0 0 (wR G h f v) 0 [(0, .ref (h 0)), (1, .int p0)] []
  refine j_aload_n 1 C dX3_pass_0 rfl 0 rfl ?_
  refine j_callVi_ro 4 C [] [] (As := []) (m_X3_peek G h f v hq) oX3_peek kX3_57 ⟨rfl, rfl⟩ eX3_peek ⟨Nat.le_of_ble_eq_true rfl, Nat.le_of_ble_eq_true rfl⟩ ⟨Nat.zero_le _, Nat.zero_le _⟩ (List.append_nil _).symm (fun _ _ => rfl) 0 rfl rfl rfl (Nat.le_of_ble_eq_true rfl) dX3_pass_1 rfl (fun r_1 hq => ?_)
  refine j_iload_n 5 C dX3_pass_4 rfl 1 rfl ?_
  refine j_icmp_eq 8 10 C dX3_pass_5 rfl rfl (fun c_2 => ?_) (fun c_2 => ?_)
  · replace hq := hq.1 c_2
    refine j_aload_n 11 C dX3_pass_10 rfl 0 rfl ?_
    refine j_dup 12 C dX3_pass_11 rfl rfl ?_
    refine j_get 15 C uX3 0 rfl rfl 3 (Nat.le_of_ble_eq_true rfl) lX3_37 (v := .int (v 1)) rfl dX3_pass_12 rfl ?_
    refine j_iconst 16 C dX3_pass_15 rfl ic_1 ?_
    refine j_iadd 17 C dX3_pass_16 rfl ?_
    obtain ⟨v_3, ev_3⟩ : ∃ y : VV, y = fu v 1 ((v 1) + (1 : Int32)) := ⟨_, rfl⟩
    replace hq := hq v_3 ev_3
    refine j_put 20 C uX3 tyX3 tyX3_ok nmX3 0 rfl rfl 3 (Nat.le_of_ble_eq_true rfl) lX3_37 rfl rfl (Nat.le_of_ble_eq_true rfl) dX3_pass_17 rfl (ws' := (wR G h f v_3)) (by subst ev_3; rfl) ?_
    refine j_iconst 21 C dX3_pass_20 rfl ic_1 ?_
    exact hR _ _ _ f v_3 dX3_pass_21 (Or.inr rfl) hq
  · replace hq := hq.2 c_2
    refine j_iconst 9 C dX3_pass_8 rfl ic_0 ?_
    exact hR _ _ _ f v dX3_pass_9 (Or.inl rfl) hq
def Q_X3_pickW_L2 (K18 : Int32 → FF → VV → Prop) (K26 : Int32 → FF → VV → Prop) : Nat → Int32 → FF → VV → Prop
  | 0, _, _, _ => False
  | n + 1, x2, f, v => (((5 : Int32) ≤ x2 → (K26 x2 f v)) ∧ (¬ (5 : Int32) ≤ x2 → (vp_in x2 5 ∧ (Q_X3_pass (tcW (x2).toNatClampNeg) f v (fun r_3 f_4 v_5 => (((r_3 = 0 → (∀ x_7 : Int32, x_7 = (x2 + (1 : Int32)) → (Q_X3_pickW_L2 K18 K26 n x_7 f_4 v_5))) ∧ (¬ r_3 = 0 → (K18 x2 f_4 v_5)))))))))
set_option maxRecDepth 100000 in
set_option maxHeartbeats 4000000 in
theorem t_X3_pickW_L2 {κ : Kx} {G : Gx} {h : Nat → Nat} (C : Cx κ G RX3 cX3_pick rmX3_pickW 3) {K18 : Int32 → FF → VV → Prop} {K26 : Int32 → FF → VV → Prop} (hK18 : ∀ (x2 : Int32) (f : FF) (v : VV), K18 x2 f v → J κ 0 0 (wR G h f v) 18 [(0, .ref (h 0)), (1, .ref (G.2.2.2.1)), (2, .int x2)] []) (hK26 : ∀ (x2 : Int32) (f : FF) (v : VV), K26 x2 f v → J κ 0 0 (wR G h f v) 26 [(0, .ref (h 0)), (1, .ref (G.2.2.2.1)), (2, .int x2)] []) : ∀ (n : Nat) (x2 : Int32) (f : FF) (v : VV), Q_X3_pickW_L2 K18 K26 n x2 f v → J κ 0 0 (wR G h f v) 2 [(0, .ref (h 0)), (1, .ref (G.2.2.2.1)), (2, .int x2)] [] := by
  intro n
  induction n with
  | zero => intro x2 f v hq; exact False.elim hq
  | succ n ih =>
    intro x2 f v hq
    rw [Q_X3_pickW_L2] at hq
    refine j_iload_n 3 C dX3_pick_2 rfl 2 rfl ?_
    refine j_aload_n 4 C dX3_pick_3 rfl 1 rfl ?_
    refine j_tlW 5 C dX3_pick_4 rfl ?_
    refine j_icmp_ge 8 26 C dX3_pick_5 rfl rfl (fun c_1 => ?_) (fun c_1 => ?_)
    · replace hq := hq.1 c_1
      refine J.l0 [0, 1, 2] rfl ?_
      exact hK26 _ _ _ hq
    · replace hq := hq.2 c_1
      refine j_aload_n 9 C dX3_pick_8 rfl 0 rfl ?_
      refine j_aload_n 10 C dX3_pick_9 rfl 1 rfl ?_
      refine j_iload_n 11 C dX3_pick_10 rfl 2 rfl ?_
      obtain ⟨hi_2, hq⟩ := hq
      refine j_tiW 12 C hi_2 (x := tcW (x2).toNatClampNeg) rfl dX3_pick_11 rfl ?_
      refine j_callVi 15 C [] [] (fun f' v' => (wR G h f' v')) (As := [.int (tcW (x2).toNatClampNeg)]) (m_X3_pass G h (tcW (x2).toNatClampNeg) f v hq) oX3_pass kX3_43 ⟨rfl, rfl⟩ eX3_pass ⟨Nat.le_of_ble_eq_true rfl, Nat.le_of_ble_eq_true rfl⟩ ⟨Nat.zero_le _, Nat.zero_le _⟩ (List.append_nil _).symm (fun _ _ => List.append_nil _) (fun _ _ => rfl) 0 rfl rfl rfl (Nat.le_of_ble_eq_true rfl) dX3_pick_12 rfl (fun r_3 f_4 v_5 hq => ?_)
      refine j_if_eq 18 20 C dX3_pick_15 rfl rfl (fun c_6 => ?_) (fun c_6 => ?_)
      · replace hq := hq.1 c_6
        obtain ⟨x_7, ex_7⟩ : ∃ y : Int32, y = (x2 + (1 : Int32)) := ⟨_, rfl⟩
        replace hq := hq x_7 ex_7
        refine j_iinc 23 C dX3_pick_20 rfl 2 rfl (v := x_7) (by rw [ex_7]; rfl) (Nat.le_of_ble_eq_true rfl) [1, 2, 0] (lv' := [(0, .ref (h 0)), (1, .ref (G.2.2.2.1)), (2, .int x_7)]) rfl ?_
        refine j_goto 2 C dX3_pick_23 rfl ?_
        refine J.l0 [0, 1, 2] rfl ?_
        exact ih _ _ _ hq
      · replace hq := hq.2 c_6
        refine J.l0 [0, 1, 2] rfl ?_
        exact hK18 _ _ _ hq
def Q_X3_pickW (f : FF) (v : VV) (post : Int32 → FF → VV → Prop) : Prop := ∃ n_8 : Nat, Q_X3_pickW_L2 (fun x_9 f_10 v_11 => (post x_9 f_10 v_11)) (fun x_12 f_13 v_14 => (post (-1 : Int32) f_13 v_14)) n_8 (0 : Int32) f v
set_option maxRecDepth 100000 in
set_option maxHeartbeats 4000000 in
theorem m_X3_pickW {l : Launch} (G : Gx) (h : Nat → Nat) (f : FF) (v : VV) {post : Int32 → FF → VV → Prop} (hq : Q_X3_pickW f v post) : MetI l yX3_pick (gC yX3_pick cX3_pick 3 (some .int)) rmX3_pickW G [.ref (h 0), .ref (G.2.2.2.1)] (wR G h) f v post := by
  refine met_i (own := RX3) (by decide) rfl (Nat.le_of_ble_eq_true rfl) (fun κ hκ C hR => ?_)
  unfold Q_X3_pickW at hq
  subst hκ
  show J κ 0 0 (wR G h f v) 0 [(0, .ref (h 0)), (1, .ref (G.2.2.2.1))] []
  refine j_iconst 1 C dX3_pick_0 rfl ic_0 ?_
  refine j_istore_n 2 C dX3_pick_1 rfl (Nat.le_of_ble_eq_true rfl) [1, 2, 0] (lv' := [(0, .ref (h 0)), (1, .ref (G.2.2.2.1)), (2, .int (0 : Int32))]) rfl ?_
  obtain ⟨n_8, hq⟩ := hq
  refine t_X3_pickW_L2 C ?_ ?_ n_8 _ _ _ hq
  · intro x_9 f_10 v_11 hq
    refine j_iload_n 19 C dX3_pick_18 rfl 2 rfl ?_
    exact hR _ _ _ f_10 v_11 dX3_pick_19 hq
  · intro x_12 f_13 v_14 hq
    refine j_iconst 27 C dX3_pick_26 rfl ic_m1 ?_
    exact hR _ _ _ f_13 v_14 dX3_pick_27 hq
def Q_X3_pickK_L2 (K18 : Int32 → FF → VV → Prop) (K26 : Int32 → FF → VV → Prop) : Nat → Int32 → FF → VV → Prop
  | 0, _, _, _ => False
  | n + 1, x2, f, v => (((3 : Int32) ≤ x2 → (K26 x2 f v)) ∧ (¬ (3 : Int32) ≤ x2 → (vp_in x2 3 ∧ (Q_X3_pass (tcK (x2).toNatClampNeg) f v (fun r_3 f_4 v_5 => (((r_3 = 0 → (∀ x_7 : Int32, x_7 = (x2 + (1 : Int32)) → (Q_X3_pickK_L2 K18 K26 n x_7 f_4 v_5))) ∧ (¬ r_3 = 0 → (K18 x2 f_4 v_5)))))))))
set_option maxRecDepth 100000 in
set_option maxHeartbeats 4000000 in
theorem t_X3_pickK_L2 {κ : Kx} {G : Gx} {h : Nat → Nat} (C : Cx κ G RX3 cX3_pick rmX3_pickK 3) {K18 : Int32 → FF → VV → Prop} {K26 : Int32 → FF → VV → Prop} (hK18 : ∀ (x2 : Int32) (f : FF) (v : VV), K18 x2 f v → J κ 0 0 (wR G h f v) 18 [(0, .ref (h 0)), (1, .ref (G.2.2.2.2)), (2, .int x2)] []) (hK26 : ∀ (x2 : Int32) (f : FF) (v : VV), K26 x2 f v → J κ 0 0 (wR G h f v) 26 [(0, .ref (h 0)), (1, .ref (G.2.2.2.2)), (2, .int x2)] []) : ∀ (n : Nat) (x2 : Int32) (f : FF) (v : VV), Q_X3_pickK_L2 K18 K26 n x2 f v → J κ 0 0 (wR G h f v) 2 [(0, .ref (h 0)), (1, .ref (G.2.2.2.2)), (2, .int x2)] [] := by
  intro n
  induction n with
  | zero => intro x2 f v hq; exact False.elim hq
  | succ n ih =>
    intro x2 f v hq
    rw [Q_X3_pickK_L2] at hq
    refine j_iload_n 3 C dX3_pick_2 rfl 2 rfl ?_
    refine j_aload_n 4 C dX3_pick_3 rfl 1 rfl ?_
    refine j_tlK 5 C dX3_pick_4 rfl ?_
    refine j_icmp_ge 8 26 C dX3_pick_5 rfl rfl (fun c_1 => ?_) (fun c_1 => ?_)
    · replace hq := hq.1 c_1
      refine J.l0 [0, 1, 2] rfl ?_
      exact hK26 _ _ _ hq
    · replace hq := hq.2 c_1
      refine j_aload_n 9 C dX3_pick_8 rfl 0 rfl ?_
      refine j_aload_n 10 C dX3_pick_9 rfl 1 rfl ?_
      refine j_iload_n 11 C dX3_pick_10 rfl 2 rfl ?_
      obtain ⟨hi_2, hq⟩ := hq
      refine j_tiK 12 C hi_2 (x := tcK (x2).toNatClampNeg) rfl dX3_pick_11 rfl ?_
      refine j_callVi 15 C [] [] (fun f' v' => (wR G h f' v')) (As := [.int (tcK (x2).toNatClampNeg)]) (m_X3_pass G h (tcK (x2).toNatClampNeg) f v hq) oX3_pass kX3_43 ⟨rfl, rfl⟩ eX3_pass ⟨Nat.le_of_ble_eq_true rfl, Nat.le_of_ble_eq_true rfl⟩ ⟨Nat.zero_le _, Nat.zero_le _⟩ (List.append_nil _).symm (fun _ _ => List.append_nil _) (fun _ _ => rfl) 0 rfl rfl rfl (Nat.le_of_ble_eq_true rfl) dX3_pick_12 rfl (fun r_3 f_4 v_5 hq => ?_)
      refine j_if_eq 18 20 C dX3_pick_15 rfl rfl (fun c_6 => ?_) (fun c_6 => ?_)
      · replace hq := hq.1 c_6
        obtain ⟨x_7, ex_7⟩ : ∃ y : Int32, y = (x2 + (1 : Int32)) := ⟨_, rfl⟩
        replace hq := hq x_7 ex_7
        refine j_iinc 23 C dX3_pick_20 rfl 2 rfl (v := x_7) (by rw [ex_7]; rfl) (Nat.le_of_ble_eq_true rfl) [1, 2, 0] (lv' := [(0, .ref (h 0)), (1, .ref (G.2.2.2.2)), (2, .int x_7)]) rfl ?_
        refine j_goto 2 C dX3_pick_23 rfl ?_
        refine J.l0 [0, 1, 2] rfl ?_
        exact ih _ _ _ hq
      · replace hq := hq.2 c_6
        refine J.l0 [0, 1, 2] rfl ?_
        exact hK18 _ _ _ hq
def Q_X3_pickK (f : FF) (v : VV) (post : Int32 → FF → VV → Prop) : Prop := ∃ n_8 : Nat, Q_X3_pickK_L2 (fun x_9 f_10 v_11 => (post x_9 f_10 v_11)) (fun x_12 f_13 v_14 => (post (-1 : Int32) f_13 v_14)) n_8 (0 : Int32) f v
set_option maxRecDepth 100000 in
set_option maxHeartbeats 4000000 in
theorem m_X3_pickK {l : Launch} (G : Gx) (h : Nat → Nat) (f : FF) (v : VV) {post : Int32 → FF → VV → Prop} (hq : Q_X3_pickK f v post) : MetI l yX3_pick (gC yX3_pick cX3_pick 3 (some .int)) rmX3_pickK G [.ref (h 0), .ref (G.2.2.2.2)] (wR G h) f v post := by
  refine met_i (own := RX3) (by decide) rfl (Nat.le_of_ble_eq_true rfl) (fun κ hκ C hR => ?_)
  unfold Q_X3_pickK at hq
  subst hκ
  show J κ 0 0 (wR G h f v) 0 [(0, .ref (h 0)), (1, .ref (G.2.2.2.2))] []
  refine j_iconst 1 C dX3_pick_0 rfl ic_0 ?_
  refine j_istore_n 2 C dX3_pick_1 rfl (Nat.le_of_ble_eq_true rfl) [1, 2, 0] (lv' := [(0, .ref (h 0)), (1, .ref (G.2.2.2.2)), (2, .int (0 : Int32))]) rfl ?_
  obtain ⟨n_8, hq⟩ := hq
  refine t_X3_pickK_L2 C ?_ ?_ n_8 _ _ _ hq
  · intro x_9 f_10 v_11 hq
    refine j_iload_n 19 C dX3_pick_18 rfl 2 rfl ?_
    exact hR _ _ _ f_10 v_11 dX3_pick_19 hq
  · intro x_12 f_13 v_14 hq
    refine j_iconst 27 C dX3_pick_26 rfl ic_m1 ?_
    exact hR _ _ _ f_13 v_14 dX3_pick_27 hq
def Q_X3_digit (p0 : Int32) (p1 : Int32) (f : FF) (v : VV) (post : Int32 → FF → VV → Prop) : Prop := Q_X3_peek  f v (fun r_1 => (∀ x_2 : Int32, x_2 = (r_1 - (48 : Int32)) → (Q_X4_isWithin x_2 p0 p1 (fun r_3 => (((¬ r_3 = 0 → (∀ v_5 : VV, v_5 = fu v 1 ((v 1) + (1 : Int32)) → (post x_2 f v_5))) ∧ (r_3 = 0 → (post (-1 : Int32) f v))))))))
set_option maxRecDepth 100000 in
set_option maxHeartbeats 4000000 in
theorem m_X3_digit {l : Launch} (G : Gx) (h : Nat → Nat) (p0 : Int32) (p1 : Int32) (f : FF) (v : VV) {post : Int32 → FF → VV → Prop} (hq : Q_X3_digit p0 p1 f v post) : MetI l yX3_digit (gC yX3_digit cX3_digit 4 (some .int)) rmX3_digit G [.ref (h 0), .int p0, .int p1] (wR G h) f v post := by
  refine met_i (own := RX3) (by decide) rfl (Nat.le_of_ble_eq_true rfl) (fun κ hκ C hR => ?_)
  unfold Q_X3_digit at hq
  subst hκ
  show J κ 0 0 (wR G h f v) 0 [(0, .ref (h 0)), (1, .int p0), (2, .int p1)] []
  refine j_aload_n 1 C dX3_digit_0 rfl 0 rfl ?_
  refine j_callVi_ro 4 C [] [] (As := []) (m_X3_peek G h f v hq) oX3_peek kX3_57 ⟨rfl, rfl⟩ eX3_peek ⟨Nat.le_of_ble_eq_true rfl, Nat.le_of_ble_eq_true rfl⟩ ⟨Nat.zero_le _, Nat.zero_le _⟩ (List.append_nil _).symm (fun _ _ => rfl) 0 rfl rfl rfl (Nat.le_of_ble_eq_true rfl) dX3_digit_1 rfl (fun r_1 hq => ?_)
  refine j_bipush 6 C dX3_digit_4 rfl bc_48 ?_
  refine j_isub 7 C dX3_digit_6 rfl ?_
  refine J.topi (fun x_2 ex_2 => ?_)
  replace hq := hq x_2 ex_2
  refine j_istore_n 8 C dX3_digit_7 rfl (Nat.le_of_ble_eq_true rfl) [1, 2, 3, 0] (lv' := [(0, .ref (h 0)), (1, .int p0), (2, .int p1), (3, .int x_2)]) rfl ?_
  refine j_iload_n 9 C dX3_digit_8 rfl 3 rfl ?_
  refine j_iload_n 10 C dX3_digit_9 rfl 1 rfl ?_
  refine j_iload_n 11 C dX3_digit_10 rfl 2 rfl ?_
  refine j_callSNi 14 C [] (wR G h f v) (fun _ _ => (wR G h f v)) (As := [.int x_2, .int p0, .int p1]) (m_X4_isWithin G x_2 p0 p1 hq) oX4_isWithin C.E.1 ⟨rfl, rfl⟩ eX4_isWithin ⟨Nat.le_of_ble_eq_true rfl, Nat.le_of_ble_eq_true rfl⟩ ⟨Nat.zero_le _, Nat.zero_le _⟩ rfl (fun _ _ => rfl) (fun _ _ => rfl) rfl (Nat.le_of_ble_eq_true rfl) dX3_digit_11 rfl (fun r_3 _ _ hq => ?_)
  refine j_if_ne 17 19 C dX3_digit_14 rfl rfl (fun c_4 => ?_) (fun c_4 => ?_)
  · replace hq := hq.1 c_4
    refine j_aload_n 20 C dX3_digit_19 rfl 0 rfl ?_
    refine j_dup 21 C dX3_digit_20 rfl rfl ?_
    refine j_get 24 C uX3 0 rfl rfl 3 (Nat.le_of_ble_eq_true rfl) lX3_37 (v := .int (v 1)) rfl dX3_digit_21 rfl ?_
    refine j_iconst 25 C dX3_digit_24 rfl ic_1 ?_
    refine j_iadd 26 C dX3_digit_25 rfl ?_
    obtain ⟨v_5, ev_5⟩ : ∃ y : VV, y = fu v 1 ((v 1) + (1 : Int32)) := ⟨_, rfl⟩
    replace hq := hq v_5 ev_5
    refine j_put 29 C uX3 tyX3 tyX3_ok nmX3 0 rfl rfl 3 (Nat.le_of_ble_eq_true rfl) lX3_37 rfl rfl (Nat.le_of_ble_eq_true rfl) dX3_digit_26 rfl (ws' := (wR G h f v_5)) (by subst ev_5; rfl) ?_
    refine j_iload_n 30 C dX3_digit_29 rfl 3 rfl ?_
    exact hR _ _ _ f v_5 dX3_digit_30 hq
  · replace hq := hq.2 c_4
    refine j_iconst 18 C dX3_digit_17 rfl ic_m1 ?_
    exact hR _ _ _ f v dX3_digit_18 hq
def Q_X3_source (f : FF) (v : VV) (post : Int32 → FF → VV → Prop) : Prop := Q_X3_pass (120 : Int32) f v (fun r_1 f_2 v_3 => (((r_1 = 0 → (Q_X3_pass (121 : Int32) f_2 v_3 (fun r_5 f_6 v_7 => (((r_5 = 0 → (Q_X3_digit (0 : Int32) ((v_7 2) - (1 : Int32)) f_6 v_7 (fun r_9 f_10 v_11 => (post r_9 f_10 v_11)))) ∧ (¬ r_5 = 0 → (post (6 : Int32) f_6 v_7))))))) ∧ (¬ r_1 = 0 → (post (5 : Int32) f_2 v_3)))))
set_option maxRecDepth 100000 in
set_option maxHeartbeats 4000000 in
theorem m_X3_source {l : Launch} (G : Gx) (h : Nat → Nat) (f : FF) (v : VV) {post : Int32 → FF → VV → Prop} (hq : Q_X3_source f v post) : MetI l yX3_source (gC yX3_source cX3_source 1 (some .int)) rmX3_source G [.ref (h 0)] (wR G h) f v post := by
  refine met_i (own := RX3) (by decide) rfl (Nat.le_of_ble_eq_true rfl) (fun κ hκ C hR => ?_)
  unfold Q_X3_source at hq
  subst hκ
  show J κ 0 0 (wR G h f v) 0 [(0, .ref (h 0))] []
  refine j_aload_n 1 C dX3_source_0 rfl 0 rfl ?_
  refine j_bipush 3 C dX3_source_1 rfl bc_120 ?_
  refine j_callVi 6 C [] [] (fun f' v' => (wR G h f' v')) (As := [.int (120 : Int32)]) (m_X3_pass G h (120 : Int32) f v hq) oX3_pass kX3_43 ⟨rfl, rfl⟩ eX3_pass ⟨Nat.le_of_ble_eq_true rfl, Nat.le_of_ble_eq_true rfl⟩ ⟨Nat.zero_le _, Nat.zero_le _⟩ (List.append_nil _).symm (fun _ _ => List.append_nil _) (fun _ _ => rfl) 0 rfl rfl rfl (Nat.le_of_ble_eq_true rfl) dX3_source_3 rfl (fun r_1 f_2 v_3 hq => ?_)
  refine j_if_eq 9 11 C dX3_source_6 rfl rfl (fun c_4 => ?_) (fun c_4 => ?_)
  · replace hq := hq.1 c_4
    refine j_aload_n 12 C dX3_source_11 rfl 0 rfl ?_
    refine j_bipush 14 C dX3_source_12 rfl bc_121 ?_
    refine j_callVi 17 C [] [] (fun f' v' => (wR G h f' v')) (As := [.int (121 : Int32)]) (m_X3_pass G h (121 : Int32) f_2 v_3 hq) oX3_pass kX3_43 ⟨rfl, rfl⟩ eX3_pass ⟨Nat.le_of_ble_eq_true rfl, Nat.le_of_ble_eq_true rfl⟩ ⟨Nat.zero_le _, Nat.zero_le _⟩ (List.append_nil _).symm (fun _ _ => List.append_nil _) (fun _ _ => rfl) 0 rfl rfl rfl (Nat.le_of_ble_eq_true rfl) dX3_source_14 rfl (fun r_5 f_6 v_7 hq => ?_)
    refine j_if_eq 20 23 C dX3_source_17 rfl rfl (fun c_8 => ?_) (fun c_8 => ?_)
    · replace hq := hq.1 c_8
      refine j_aload_n 24 C dX3_source_23 rfl 0 rfl ?_
      refine j_iconst 25 C dX3_source_24 rfl ic_0 ?_
      refine j_aload_n 26 C dX3_source_25 rfl 0 rfl ?_
      refine j_get 29 C uX3 0 rfl rfl 0 (Nat.le_of_ble_eq_true rfl) lX3_12 (v := .ref (h 2)) rfl dX3_source_26 rfl ?_
      refine j_get 32 C uX1 2 rfl rfl 3 (Nat.le_of_ble_eq_true rfl) lX3_71 (v := .int (v_7 2)) rfl dX3_source_29 rfl ?_
      refine j_iconst 33 C dX3_source_32 rfl ic_1 ?_
      refine j_isub 34 C dX3_source_33 rfl ?_
      refine j_callVi 37 C [] [] (fun f' v' => (wR G h f' v')) (As := [.int (0 : Int32), .int ((v_7 2) - (1 : Int32))]) (m_X3_digit G h (0 : Int32) ((v_7 2) - (1 : Int32)) f_6 v_7 hq) oX3_digit kX3_89 ⟨rfl, rfl⟩ eX3_digit ⟨Nat.le_of_ble_eq_true rfl, Nat.le_of_ble_eq_true rfl⟩ ⟨Nat.zero_le _, Nat.zero_le _⟩ (List.append_nil _).symm (fun _ _ => List.append_nil _) (fun _ _ => rfl) 0 rfl rfl rfl (Nat.le_of_ble_eq_true rfl) dX3_source_34 rfl (fun r_9 f_10 v_11 hq => ?_)
      exact hR _ _ _ f_10 v_11 dX3_source_37 hq
    · replace hq := hq.2 c_8
      refine j_bipush 22 C dX3_source_20 rfl bc_6 ?_
      exact hR _ _ _ f_6 v_7 dX3_source_22 hq
  · replace hq := hq.2 c_4
    refine j_iconst 10 C dX3_source_9 rfl ic_5 ?_
    exact hR _ _ _ f_2 v_3 dX3_source_10 hq
def Q_X3_readStep (f : FF) (v : VV) (post : Int32 → FF → VV → Prop) : Prop := Q_X3_pass (59 : Int32) f v (fun r_1 f_2 v_3 => (((¬ r_1 = 0 → (Q_X3_pickW  f_2 v_3 (fun r_5 f_6 v_7 => (((¬ r_5 = (-1 : Int32) → (Q_X3_source  f_6 v_7 (fun r_9 f_10 v_11 => (((¬ r_9 = (-1 : Int32) → (Q_X3_source  f_10 v_11 (fun r_13 f_14 v_15 => (∀ x_16 : Int32, x_16 = (v_15 2) → (((r_13 = (-1 : Int32) → (post (0 : Int32) f_14 v_15)) ∧ (¬ r_13 = (-1 : Int32) → (((x_16 < (5 : Int32) → (vp_in x_16 5 ∧ (∀ f_20 : FF, f_20 = fu f_14 1 (wr (f_14 1) x_16 r_5) → (vp_in x_16 5 ∧ (∀ f_22 : FF, f_22 = fu f_20 2 (wr (f_20 2) x_16 r_9) → (vp_in x_16 5 ∧ (∀ f_24 : FF, f_24 = fu f_22 3 (wr (f_22 3) x_16 r_13) → (∀ v_25 : VV, v_25 = fu v_15 2 ((v_15 2) + (1 : Int32)) → (post (1 : Int32) f_24 v_25))))))))) ∧ (¬ x_16 < (5 : Int32) → (post (0 : Int32) f_14 v_15))))))))))) ∧ (r_9 = (-1 : Int32) → (∀ x_26 : Int32, x_26 = (v_11 2) → (post (0 : Int32) f_10 v_11)))))))) ∧ (r_5 = (-1 : Int32) → (∀ x_27 : Int32, x_27 = (v_7 2) → (post (0 : Int32) f_6 v_7)))))))) ∧ (r_1 = 0 → (post (0 : Int32) f_2 v_3)))))
set_option maxRecDepth 100000 in
set_option maxHeartbeats 4000000 in
theorem m_X3_readStep {l : Launch} (G : Gx) (h : Nat → Nat) (f : FF) (v : VV) {post : Int32 → FF → VV → Prop} (hq : Q_X3_readStep f v post) : MetI l yX3_readStep (gC yX3_readStep cX3_readStep 5 (some .boolean)) rmX3_readStep G [.ref (h 0)] (wR G h) f v post := by
  refine met_z (own := RX3) (by decide) rfl (Nat.le_of_ble_eq_true rfl) (fun κ hκ C hR => ?_)
  unfold Q_X3_readStep at hq
  subst hκ
  show J κ 0 0 (wR G h f v) 0 [(0, .ref (h 0))] []
  refine j_aload_n 1 C dX3_readStep_0 rfl 0 rfl ?_
  refine j_bipush 3 C dX3_readStep_1 rfl bc_59 ?_
  refine j_callVi 6 C [] [] (fun f' v' => (wR G h f' v')) (As := [.int (59 : Int32)]) (m_X3_pass G h (59 : Int32) f v hq) oX3_pass kX3_43 ⟨rfl, rfl⟩ eX3_pass ⟨Nat.le_of_ble_eq_true rfl, Nat.le_of_ble_eq_true rfl⟩ ⟨Nat.zero_le _, Nat.zero_le _⟩ (List.append_nil _).symm (fun _ _ => List.append_nil _) (fun _ _ => rfl) 0 rfl rfl rfl (Nat.le_of_ble_eq_true rfl) dX3_readStep_3 rfl (fun r_1 f_2 v_3 hq => ?_)
  refine j_if_ne 9 11 C dX3_readStep_6 rfl rfl (fun c_4 => ?_) (fun c_4 => ?_)
  · replace hq := hq.1 c_4
    refine j_aload_n 12 C dX3_readStep_11 rfl 0 rfl ?_
    refine j_getW 15 C lX3_61 dX3_readStep_12 rfl ?_
    refine j_callVi 18 C [] [] (fun f' v' => (wR G h f' v')) (As := [.ref (G.2.2.2.1)]) (m_X3_pickW G h f_2 v_3 hq) oX3_pick kX3_64 ⟨rfl, rfl⟩ eX3_pick ⟨Nat.le_of_ble_eq_true rfl, Nat.le_of_ble_eq_true rfl⟩ ⟨Nat.zero_le _, Nat.zero_le _⟩ (List.append_nil _).symm (fun _ _ => List.append_nil _) (fun _ _ => rfl) 0 rfl rfl rfl (Nat.le_of_ble_eq_true rfl) dX3_readStep_15 rfl (fun r_5 f_6 v_7 hq => ?_)
    refine j_istore_n 19 C dX3_readStep_18 rfl (Nat.le_of_ble_eq_true rfl) [1, 0] (lv' := [(0, .ref (h 0)), (1, .int r_5)]) rfl ?_
    refine j_iload_n 20 C dX3_readStep_19 rfl 1 rfl ?_
    refine j_iconst 21 C dX3_readStep_20 rfl ic_m1 ?_
    refine j_icmp_ne 24 28 C dX3_readStep_21 rfl rfl (fun c_8 => ?_) (fun c_8 => ?_)
    · replace hq := hq.1 c_8
      refine j_aload_n 29 C dX3_readStep_28 rfl 0 rfl ?_
      refine j_callVi 32 C [] [] (fun f' v' => (wR G h f' v')) (As := []) (m_X3_source G h f_6 v_7 hq) oX3_source kX3_68 ⟨rfl, rfl⟩ eX3_source ⟨Nat.le_of_ble_eq_true rfl, Nat.le_of_ble_eq_true rfl⟩ ⟨Nat.zero_le _, Nat.zero_le _⟩ (List.append_nil _).symm (fun _ _ => List.append_nil _) (fun _ _ => rfl) 0 rfl rfl rfl (Nat.le_of_ble_eq_true rfl) dX3_readStep_29 rfl (fun r_9 f_10 v_11 hq => ?_)
      refine j_istore_n 33 C dX3_readStep_32 rfl (Nat.le_of_ble_eq_true rfl) [1, 2, 0] (lv' := [(0, .ref (h 0)), (1, .int r_5), (2, .int r_9)]) rfl ?_
      refine j_iload_n 34 C dX3_readStep_33 rfl 2 rfl ?_
      refine j_iconst 35 C dX3_readStep_34 rfl ic_m1 ?_
      refine j_icmp_ne 38 42 C dX3_readStep_35 rfl rfl (fun c_12 => ?_) (fun c_12 => ?_)
      · replace hq := hq.1 c_12
        refine j_aload_n 43 C dX3_readStep_42 rfl 0 rfl ?_
        refine j_callVi 46 C [] [] (fun f' v' => (wR G h f' v')) (As := []) (m_X3_source G h f_10 v_11 hq) oX3_source kX3_68 ⟨rfl, rfl⟩ eX3_source ⟨Nat.le_of_ble_eq_true rfl, Nat.le_of_ble_eq_true rfl⟩ ⟨Nat.zero_le _, Nat.zero_le _⟩ (List.append_nil _).symm (fun _ _ => List.append_nil _) (fun _ _ => rfl) 0 rfl rfl rfl (Nat.le_of_ble_eq_true rfl) dX3_readStep_43 rfl (fun r_13 f_14 v_15 hq => ?_)
        refine j_istore_n 47 C dX3_readStep_46 rfl (Nat.le_of_ble_eq_true rfl) [1, 2, 3, 0] (lv' := [(0, .ref (h 0)), (1, .int r_5), (2, .int r_9), (3, .int r_13)]) rfl ?_
        refine j_aload_n 48 C dX3_readStep_47 rfl 0 rfl ?_
        refine j_get 51 C uX3 0 rfl rfl 0 (Nat.le_of_ble_eq_true rfl) lX3_12 (v := .ref (h 2)) rfl dX3_readStep_48 rfl ?_
        refine j_get 54 C uX1 2 rfl rfl 3 (Nat.le_of_ble_eq_true rfl) lX3_71 (v := .int (v_15 2)) rfl dX3_readStep_51 rfl ?_
        refine J.topi (fun x_16 ex_16 => ?_)
        replace hq := hq x_16 ex_16
        refine j_istore 56 C dX3_readStep_54 rfl (Nat.le_of_ble_eq_true rfl) [1, 2, 3, 4, 0] (lv' := [(0, .ref (h 0)), (1, .int r_5), (2, .int r_9), (3, .int r_13), (4, .int x_16)]) rfl ?_
        refine j_iload_n 57 C dX3_readStep_56 rfl 3 rfl ?_
        refine j_iconst 58 C dX3_readStep_57 rfl ic_m1 ?_
        refine j_icmp_eq 61 67 C dX3_readStep_58 rfl rfl (fun c_17 => ?_) (fun c_17 => ?_)
        · replace hq := hq.1 c_17
          refine j_iconst 68 C dX3_readStep_67 rfl ic_0 ?_
          exact hR _ _ _ f_14 v_15 dX3_readStep_68 (Or.inl rfl) hq
        · replace hq := hq.2 c_17
          refine j_iload 63 C dX3_readStep_61 rfl 4 rfl ?_
          refine j_iconst 64 C dX3_readStep_63 rfl ic_5 ?_
          refine j_icmp_lt 67 69 C dX3_readStep_64 rfl rfl (fun c_18 => ?_) (fun c_18 => ?_)
          · replace hq := hq.1 c_18
            refine j_aload_n 70 C dX3_readStep_69 rfl 0 rfl ?_
            refine j_get 73 C uX3 0 rfl rfl 0 (Nat.le_of_ble_eq_true rfl) lX3_12 (v := .ref (h 2)) rfl dX3_readStep_70 rfl ?_
            refine j_get 76 C uX1 2 rfl rfl 0 (Nat.le_of_ble_eq_true rfl) lX3_74 (v := .ref (h 3)) rfl dX3_readStep_73 rfl ?_
            refine j_iload 78 C dX3_readStep_76 rfl 4 rfl ?_
            refine j_iload_n 79 C dX3_readStep_78 rfl 1 rfl ?_
            obtain ⟨hi_19, hq⟩ := hq
            obtain ⟨f_20, ef_20⟩ : ∃ y : FF, y = fu f_14 1 (wr (f_14 1) x_16 r_5) := ⟨_, rfl⟩
            replace hq := hq f_20 ef_20
            refine j_iast 80 C 3 rfl hi_19 dX3_readStep_79 rfl (ws' := (wR G h f_20 v_15)) (by subst ef_20; rfl) ?_
            refine j_aload_n 81 C dX3_readStep_80 rfl 0 rfl ?_
            refine j_get 84 C uX3 0 rfl rfl 0 (Nat.le_of_ble_eq_true rfl) lX3_12 (v := .ref (h 2)) rfl dX3_readStep_81 rfl ?_
            refine j_get 87 C uX1 2 rfl rfl 1 (Nat.le_of_ble_eq_true rfl) lX3_77 (v := .ref (h 4)) rfl dX3_readStep_84 rfl ?_
            refine j_iload 89 C dX3_readStep_87 rfl 4 rfl ?_
            refine j_iload_n 90 C dX3_readStep_89 rfl 2 rfl ?_
            obtain ⟨hi_21, hq⟩ := hq
            obtain ⟨f_22, ef_22⟩ : ∃ y : FF, y = fu f_20 2 (wr (f_20 2) x_16 r_9) := ⟨_, rfl⟩
            replace hq := hq f_22 ef_22
            refine j_iast 91 C 4 rfl hi_21 dX3_readStep_90 rfl (ws' := (wR G h f_22 v_15)) (by subst ef_22; rfl) ?_
            refine j_aload_n 92 C dX3_readStep_91 rfl 0 rfl ?_
            refine j_get 95 C uX3 0 rfl rfl 0 (Nat.le_of_ble_eq_true rfl) lX3_12 (v := .ref (h 2)) rfl dX3_readStep_92 rfl ?_
            refine j_get 98 C uX1 2 rfl rfl 2 (Nat.le_of_ble_eq_true rfl) lX3_80 (v := .ref (h 5)) rfl dX3_readStep_95 rfl ?_
            refine j_iload 100 C dX3_readStep_98 rfl 4 rfl ?_
            refine j_iload_n 101 C dX3_readStep_100 rfl 3 rfl ?_
            obtain ⟨hi_23, hq⟩ := hq
            obtain ⟨f_24, ef_24⟩ : ∃ y : FF, y = fu f_22 3 (wr (f_22 3) x_16 r_13) := ⟨_, rfl⟩
            replace hq := hq f_24 ef_24
            refine j_iast 102 C 5 rfl hi_23 dX3_readStep_101 rfl (ws' := (wR G h f_24 v_15)) (by subst ef_24; rfl) ?_
            refine j_aload_n 103 C dX3_readStep_102 rfl 0 rfl ?_
            refine j_get 106 C uX3 0 rfl rfl 0 (Nat.le_of_ble_eq_true rfl) lX3_12 (v := .ref (h 2)) rfl dX3_readStep_103 rfl ?_
            refine j_dup 107 C dX3_readStep_106 rfl rfl ?_
            refine j_get 110 C uX1 2 rfl rfl 3 (Nat.le_of_ble_eq_true rfl) lX3_71 (v := .int (v_15 2)) rfl dX3_readStep_107 rfl ?_
            refine j_iconst 111 C dX3_readStep_110 rfl ic_1 ?_
            refine j_iadd 112 C dX3_readStep_111 rfl ?_
            obtain ⟨v_25, ev_25⟩ : ∃ y : VV, y = fu v_15 2 ((v_15 2) + (1 : Int32)) := ⟨_, rfl⟩
            replace hq := hq v_25 ev_25
            refine j_put 115 C uX1 tyX1 tyX1_ok nmX1 2 rfl rfl 3 (Nat.le_of_ble_eq_true rfl) lX3_71 rfl rfl (Nat.le_of_ble_eq_true rfl) dX3_readStep_112 rfl (ws' := (wR G h f_24 v_25)) (by subst ev_25; rfl) ?_
            refine j_iconst 116 C dX3_readStep_115 rfl ic_1 ?_
            exact hR _ _ _ f_24 v_25 dX3_readStep_116 (Or.inr rfl) hq
          · replace hq := hq.2 c_18
            refine j_iconst 68 C dX3_readStep_67 rfl ic_0 ?_
            exact hR _ _ _ f_14 v_15 dX3_readStep_68 (Or.inl rfl) hq
      · replace hq := hq.2 c_12
        refine j_iconst 39 C dX3_readStep_38 rfl ic_m1 ?_
        refine j_goto 46 C dX3_readStep_39 rfl ?_
        refine j_istore_n 47 C dX3_readStep_46 rfl (Nat.le_of_ble_eq_true rfl) [1, 2, 3, 0] (lv' := [(0, .ref (h 0)), (1, .int r_5), (2, .int r_9), (3, .int (-1 : Int32))]) rfl ?_
        refine j_aload_n 48 C dX3_readStep_47 rfl 0 rfl ?_
        refine j_get 51 C uX3 0 rfl rfl 0 (Nat.le_of_ble_eq_true rfl) lX3_12 (v := .ref (h 2)) rfl dX3_readStep_48 rfl ?_
        refine j_get 54 C uX1 2 rfl rfl 3 (Nat.le_of_ble_eq_true rfl) lX3_71 (v := .int (v_11 2)) rfl dX3_readStep_51 rfl ?_
        refine J.topi (fun x_26 ex_26 => ?_)
        replace hq := hq x_26 ex_26
        refine j_istore 56 C dX3_readStep_54 rfl (Nat.le_of_ble_eq_true rfl) [1, 2, 3, 4, 0] (lv' := [(0, .ref (h 0)), (1, .int r_5), (2, .int r_9), (3, .int (-1 : Int32)), (4, .int x_26)]) rfl ?_
        refine j_iload_n 57 C dX3_readStep_56 rfl 3 rfl ?_
        refine j_iconst 58 C dX3_readStep_57 rfl ic_m1 ?_
        refine j_icmp_eq 61 67 C dX3_readStep_58 rfl rfl (fun _ => ?_) (fun h9 => absurd h9 (by decide))
        refine j_iconst 68 C dX3_readStep_67 rfl ic_0 ?_
        exact hR _ _ _ f_10 v_11 dX3_readStep_68 (Or.inl rfl) hq
    · replace hq := hq.2 c_8
      refine j_iconst 25 C dX3_readStep_24 rfl ic_m1 ?_
      refine j_goto 32 C dX3_readStep_25 rfl ?_
      refine j_istore_n 33 C dX3_readStep_32 rfl (Nat.le_of_ble_eq_true rfl) [1, 2, 0] (lv' := [(0, .ref (h 0)), (1, .int r_5), (2, .int (-1 : Int32))]) rfl ?_
      refine j_iload_n 34 C dX3_readStep_33 rfl 2 rfl ?_
      refine j_iconst 35 C dX3_readStep_34 rfl ic_m1 ?_
      refine j_icmp_ne 38 42 C dX3_readStep_35 rfl rfl (fun h9 => absurd h9 (by decide)) (fun _ => ?_)
      refine j_iconst 39 C dX3_readStep_38 rfl ic_m1 ?_
      refine j_goto 46 C dX3_readStep_39 rfl ?_
      refine j_istore_n 47 C dX3_readStep_46 rfl (Nat.le_of_ble_eq_true rfl) [1, 2, 3, 0] (lv' := [(0, .ref (h 0)), (1, .int r_5), (2, .int (-1 : Int32)), (3, .int (-1 : Int32))]) rfl ?_
      refine j_aload_n 48 C dX3_readStep_47 rfl 0 rfl ?_
      refine j_get 51 C uX3 0 rfl rfl 0 (Nat.le_of_ble_eq_true rfl) lX3_12 (v := .ref (h 2)) rfl dX3_readStep_48 rfl ?_
      refine j_get 54 C uX1 2 rfl rfl 3 (Nat.le_of_ble_eq_true rfl) lX3_71 (v := .int (v_7 2)) rfl dX3_readStep_51 rfl ?_
      refine J.topi (fun x_27 ex_27 => ?_)
      replace hq := hq x_27 ex_27
      refine j_istore 56 C dX3_readStep_54 rfl (Nat.le_of_ble_eq_true rfl) [1, 2, 3, 4, 0] (lv' := [(0, .ref (h 0)), (1, .int r_5), (2, .int (-1 : Int32)), (3, .int (-1 : Int32)), (4, .int x_27)]) rfl ?_
      refine j_iload_n 57 C dX3_readStep_56 rfl 3 rfl ?_
      refine j_iconst 58 C dX3_readStep_57 rfl ic_m1 ?_
      refine j_icmp_eq 61 67 C dX3_readStep_58 rfl rfl (fun _ => ?_) (fun h9 => absurd h9 (by decide))
      refine j_iconst 68 C dX3_readStep_67 rfl ic_0 ?_
      exact hR _ _ _ f_6 v_7 dX3_readStep_68 (Or.inl rfl) hq
  · replace hq := hq.2 c_4
    refine j_iconst 10 C dX3_readStep_9 rfl ic_0 ?_
    exact hR _ _ _ f_2 v_3 dX3_readStep_10 (Or.inl rfl) hq
def Q_X3_readSteps_L7 (K36 : Int32 → Int32 → FF → VV → Prop) : Nat → Int32 → Int32 → FF → VV → Prop
  | 0, _, _, _, _ => False
  | n + 1, x1, x2, f, v => (((5 : Int32) ≤ x2 → (K36 x1 x2 f v)) ∧ (¬ (5 : Int32) ≤ x2 → (((x1 = 0 → (K36 x1 x2 f v)) ∧ (¬ x1 = 0 → (Q_X3_peek  f v (fun r_6 => (((¬ r_6 = (59 : Int32) → (K36 x1 x2 f v)) ∧ (r_6 = (59 : Int32) → (Q_X3_readStep  f v (fun r_8 f_9 v_10 => (∀ x_11 : Int32, x_11 = (x2 + (1 : Int32)) → (Q_X3_readSteps_L7 K36 n r_8 x_11 f_9 v_10))))))))))))))
set_option maxRecDepth 100000 in
set_option maxHeartbeats 4000000 in
theorem t_X3_readSteps_L7 {κ : Kx} {G : Gx} {h : Nat → Nat} (C : Cx κ G RX3 cX3_readSteps rmX3_readSteps 3) {K36 : Int32 → Int32 → FF → VV → Prop} (hK36 : ∀ (x1 : Int32) (x2 : Int32) (f : FF) (v : VV), K36 x1 x2 f v → J κ 0 0 (wR G h f v) 36 [(0, .ref (h 0)), (1, .int x1), (2, .int x2)] []) : ∀ (n : Nat) (x1 : Int32) (x2 : Int32) (f : FF) (v : VV), Q_X3_readSteps_L7 K36 n x1 x2 f v → J κ 0 0 (wR G h f v) 7 [(0, .ref (h 0)), (1, .int x1), (2, .int x2)] [] := by
  intro n
  induction n with
  | zero => intro x1 x2 f v hq; exact False.elim hq
  | succ n ih =>
    intro x1 x2 f v hq
    rw [Q_X3_readSteps_L7] at hq
    refine j_iload_n 8 C dX3_readSteps_7 rfl 2 rfl ?_
    refine j_iconst 9 C dX3_readSteps_8 rfl ic_5 ?_
    refine j_icmp_ge 12 36 C dX3_readSteps_9 rfl rfl (fun c_4 => ?_) (fun c_4 => ?_)
    · replace hq := hq.1 c_4
      refine J.l0 [0, 1, 2] rfl ?_
      exact hK36 _ _ _ _ hq
    · replace hq := hq.2 c_4
      refine j_iload_n 13 C dX3_readSteps_12 rfl 1 rfl ?_
      refine j_if_eq 16 36 C dX3_readSteps_13 rfl rfl (fun c_5 => ?_) (fun c_5 => ?_)
      · replace hq := hq.1 c_5
        refine J.l0 [0, 1, 2] rfl ?_
        exact hK36 _ _ _ _ hq
      · replace hq := hq.2 c_5
        refine j_aload_n 17 C dX3_readSteps_16 rfl 0 rfl ?_
        refine j_callVi_ro 20 C [] [] (As := []) (m_X3_peek G h f v hq) oX3_peek kX3_57 ⟨rfl, rfl⟩ eX3_peek ⟨Nat.le_of_ble_eq_true rfl, Nat.le_of_ble_eq_true rfl⟩ ⟨Nat.zero_le _, Nat.zero_le _⟩ (List.append_nil _).symm (fun _ _ => rfl) 0 rfl rfl rfl (Nat.le_of_ble_eq_true rfl) dX3_readSteps_17 rfl (fun r_6 hq => ?_)
        refine j_bipush 22 C dX3_readSteps_20 rfl bc_59 ?_
        refine j_icmp_ne 25 36 C dX3_readSteps_22 rfl rfl (fun c_7 => ?_) (fun c_7 => ?_)
        · replace hq := hq.1 c_7
          refine J.l0 [0, 1, 2] rfl ?_
          exact hK36 _ _ _ _ hq
        · replace hq := hq.2 c_7
          refine j_aload_n 26 C dX3_readSteps_25 rfl 0 rfl ?_
          refine j_callVi 29 C [] [] (fun f' v' => (wR G h f' v')) (As := []) (m_X3_readStep G h f v hq) oX3_readStep kX3_54 ⟨rfl, rfl⟩ eX3_readStep ⟨Nat.le_of_ble_eq_true rfl, Nat.le_of_ble_eq_true rfl⟩ ⟨Nat.zero_le _, Nat.zero_le _⟩ (List.append_nil _).symm (fun _ _ => List.append_nil _) (fun _ _ => rfl) 0 rfl rfl rfl (Nat.le_of_ble_eq_true rfl) dX3_readSteps_26 rfl (fun r_8 f_9 v_10 hq => ?_)
          refine j_istore_n 30 C dX3_readSteps_29 rfl (Nat.le_of_ble_eq_true rfl) [1, 0, 2] (lv' := [(0, .ref (h 0)), (1, .int r_8), (2, .int x2)]) rfl ?_
          obtain ⟨x_11, ex_11⟩ : ∃ y : Int32, y = (x2 + (1 : Int32)) := ⟨_, rfl⟩
          replace hq := hq x_11 ex_11
          refine j_iinc 33 C dX3_readSteps_30 rfl 2 rfl (v := x_11) (by rw [ex_11]; rfl) (Nat.le_of_ble_eq_true rfl) [1, 2, 0] (lv' := [(0, .ref (h 0)), (1, .int r_8), (2, .int x_11)]) rfl ?_
          refine j_goto 7 C dX3_readSteps_33 rfl ?_
          refine J.l0 [0, 1, 2] rfl ?_
          exact ih _ _ _ _ hq
def Q_X3_readSteps (f : FF) (v : VV) (post : Int32 → FF → VV → Prop) : Prop := Q_X3_readStep  f v (fun r_1 f_2 v_3 => (∃ n_12 : Nat, Q_X3_readSteps_L7 (fun x_13 x_14 f_15 v_16 => (((x_13 = 0 ∨ x_13 = 1) ∧ post x_13 f_15 v_16))) n_12 r_1 (1 : Int32) f_2 v_3))
set_option maxRecDepth 100000 in
set_option maxHeartbeats 4000000 in
theorem m_X3_readSteps {l : Launch} (G : Gx) (h : Nat → Nat) (f : FF) (v : VV) {post : Int32 → FF → VV → Prop} (hq : Q_X3_readSteps f v post) : MetI l yX3_readSteps (gC yX3_readSteps cX3_readSteps 3 (some .boolean)) rmX3_readSteps G [.ref (h 0)] (wR G h) f v post := by
  refine met_z (own := RX3) (by decide) rfl (Nat.le_of_ble_eq_true rfl) (fun κ hκ C hR => ?_)
  unfold Q_X3_readSteps at hq
  subst hκ
  show J κ 0 0 (wR G h f v) 0 [(0, .ref (h 0))] []
  refine j_aload_n 1 C dX3_readSteps_0 rfl 0 rfl ?_
  refine j_callVi 4 C [] [] (fun f' v' => (wR G h f' v')) (As := []) (m_X3_readStep G h f v hq) oX3_readStep kX3_54 ⟨rfl, rfl⟩ eX3_readStep ⟨Nat.le_of_ble_eq_true rfl, Nat.le_of_ble_eq_true rfl⟩ ⟨Nat.zero_le _, Nat.zero_le _⟩ (List.append_nil _).symm (fun _ _ => List.append_nil _) (fun _ _ => rfl) 0 rfl rfl rfl (Nat.le_of_ble_eq_true rfl) dX3_readSteps_1 rfl (fun r_1 f_2 v_3 hq => ?_)
  refine j_istore_n 5 C dX3_readSteps_4 rfl (Nat.le_of_ble_eq_true rfl) [1, 0] (lv' := [(0, .ref (h 0)), (1, .int r_1)]) rfl ?_
  refine j_iconst 6 C dX3_readSteps_5 rfl ic_1 ?_
  refine j_istore_n 7 C dX3_readSteps_6 rfl (Nat.le_of_ble_eq_true rfl) [1, 2, 0] (lv' := [(0, .ref (h 0)), (1, .int r_1), (2, .int (1 : Int32))]) rfl ?_
  obtain ⟨n_12, hq⟩ := hq
  refine t_X3_readSteps_L7 C ?_ n_12 _ _ _ _ hq
  · intro x_13 x_14 f_15 v_16 hq
    refine j_iload_n 37 C dX3_readSteps_36 rfl 1 rfl ?_
    exact hR _ _ _ f_15 v_16 dX3_readSteps_37 hq.1 hq.2
def Q_X3_readTest (f : FF) (v : VV) (post : Int32 → FF → VV → Prop) : Prop := Q_X3_pass (44 : Int32) f v (fun r_1 f_2 v_3 => (((¬ r_1 = 0 → (Q_X3_pickK  f_2 v_3 (fun r_5 f_6 v_7 => (((¬ r_5 = (-1 : Int32) → (Q_X3_digit (1 : Int32) (9 : Int32) f_6 v_7 (fun r_9 f_10 v_11 => (((¬ r_9 = (-1 : Int32) → (Q_X3_digit (0 : Int32) (9 : Int32) f_10 v_11 (fun r_13 f_14 v_15 => (((¬ r_13 = (-1 : Int32) → (Q_X3_digit (0 : Int32) (9 : Int32) f_14 v_15 (fun r_17 f_18 v_19 => (∀ x_20 : Int32, x_20 = (v_19 3) → (((r_17 = (-1 : Int32) → (post (0 : Int32) f_18 v_19)) ∧ (¬ r_17 = (-1 : Int32) → (((x_20 < (7 : Int32) → (vp_in x_20 7 ∧ (∀ f_24 : FF, f_24 = fu f_18 4 (wr (f_18 4) x_20 r_5) → (vp_in x_20 7 ∧ (∀ f_26 : FF, f_26 = fu f_24 5 (wr (f_24 5) x_20 r_9) → (vp_in x_20 7 ∧ (∀ f_28 : FF, f_28 = fu f_26 6 (wr (f_26 6) x_20 r_13) → (vp_in x_20 7 ∧ (∀ f_30 : FF, f_30 = fu f_28 7 (wr (f_28 7) x_20 r_17) → (∀ v_31 : VV, v_31 = fu v_19 3 ((v_19 3) + (1 : Int32)) → (post (1 : Int32) f_30 v_31))))))))))) ∧ (¬ x_20 < (7 : Int32) → (post (0 : Int32) f_18 v_19))))))))))) ∧ (r_13 = (-1 : Int32) → (∀ x_32 : Int32, x_32 = (v_15 3) → (post (0 : Int32) f_14 v_15)))))))) ∧ (r_9 = (-1 : Int32) → (∀ x_33 : Int32, x_33 = (v_11 3) → (post (0 : Int32) f_10 v_11)))))))) ∧ (r_5 = (-1 : Int32) → (∀ x_34 : Int32, x_34 = (v_7 3) → (post (0 : Int32) f_6 v_7)))))))) ∧ (r_1 = 0 → (post (0 : Int32) f_2 v_3)))))
set_option maxRecDepth 100000 in
set_option maxHeartbeats 4000000 in
theorem m_X3_readTest {l : Launch} (G : Gx) (h : Nat → Nat) (f : FF) (v : VV) {post : Int32 → FF → VV → Prop} (hq : Q_X3_readTest f v post) : MetI l yX3_readTest (gC yX3_readTest cX3_readTest 6 (some .boolean)) rmX3_readTest G [.ref (h 0)] (wR G h) f v post := by
  refine met_z (own := RX3) (by decide) rfl (Nat.le_of_ble_eq_true rfl) (fun κ hκ C hR => ?_)
  unfold Q_X3_readTest at hq
  subst hκ
  show J κ 0 0 (wR G h f v) 0 [(0, .ref (h 0))] []
  refine j_aload_n 1 C dX3_readTest_0 rfl 0 rfl ?_
  refine j_bipush 3 C dX3_readTest_1 rfl bc_44 ?_
  refine j_callVi 6 C [] [] (fun f' v' => (wR G h f' v')) (As := [.int (44 : Int32)]) (m_X3_pass G h (44 : Int32) f v hq) oX3_pass kX3_43 ⟨rfl, rfl⟩ eX3_pass ⟨Nat.le_of_ble_eq_true rfl, Nat.le_of_ble_eq_true rfl⟩ ⟨Nat.zero_le _, Nat.zero_le _⟩ (List.append_nil _).symm (fun _ _ => List.append_nil _) (fun _ _ => rfl) 0 rfl rfl rfl (Nat.le_of_ble_eq_true rfl) dX3_readTest_3 rfl (fun r_1 f_2 v_3 hq => ?_)
  refine j_if_ne 9 11 C dX3_readTest_6 rfl rfl (fun c_4 => ?_) (fun c_4 => ?_)
  · replace hq := hq.1 c_4
    refine j_aload_n 12 C dX3_readTest_11 rfl 0 rfl ?_
    refine j_getK 15 C lX3_86 dX3_readTest_12 rfl ?_
    refine j_callVi 18 C [] [] (fun f' v' => (wR G h f' v')) (As := [.ref (G.2.2.2.2)]) (m_X3_pickK G h f_2 v_3 hq) oX3_pick kX3_64 ⟨rfl, rfl⟩ eX3_pick ⟨Nat.le_of_ble_eq_true rfl, Nat.le_of_ble_eq_true rfl⟩ ⟨Nat.zero_le _, Nat.zero_le _⟩ (List.append_nil _).symm (fun _ _ => List.append_nil _) (fun _ _ => rfl) 0 rfl rfl rfl (Nat.le_of_ble_eq_true rfl) dX3_readTest_15 rfl (fun r_5 f_6 v_7 hq => ?_)
    refine j_istore_n 19 C dX3_readTest_18 rfl (Nat.le_of_ble_eq_true rfl) [1, 0] (lv' := [(0, .ref (h 0)), (1, .int r_5)]) rfl ?_
    refine j_iload_n 20 C dX3_readTest_19 rfl 1 rfl ?_
    refine j_iconst 21 C dX3_readTest_20 rfl ic_m1 ?_
    refine j_icmp_ne 24 28 C dX3_readTest_21 rfl rfl (fun c_8 => ?_) (fun c_8 => ?_)
    · replace hq := hq.1 c_8
      refine j_aload_n 29 C dX3_readTest_28 rfl 0 rfl ?_
      refine j_iconst 30 C dX3_readTest_29 rfl ic_1 ?_
      refine j_bipush 32 C dX3_readTest_30 rfl bc_9 ?_
      refine j_callVi 35 C [] [] (fun f' v' => (wR G h f' v')) (As := [.int (1 : Int32), .int (9 : Int32)]) (m_X3_digit G h (1 : Int32) (9 : Int32) f_6 v_7 hq) oX3_digit kX3_89 ⟨rfl, rfl⟩ eX3_digit ⟨Nat.le_of_ble_eq_true rfl, Nat.le_of_ble_eq_true rfl⟩ ⟨Nat.zero_le _, Nat.zero_le _⟩ (List.append_nil _).symm (fun _ _ => List.append_nil _) (fun _ _ => rfl) 0 rfl rfl rfl (Nat.le_of_ble_eq_true rfl) dX3_readTest_32 rfl (fun r_9 f_10 v_11 hq => ?_)
      refine j_istore_n 36 C dX3_readTest_35 rfl (Nat.le_of_ble_eq_true rfl) [1, 2, 0] (lv' := [(0, .ref (h 0)), (1, .int r_5), (2, .int r_9)]) rfl ?_
      refine j_iload_n 37 C dX3_readTest_36 rfl 2 rfl ?_
      refine j_iconst 38 C dX3_readTest_37 rfl ic_m1 ?_
      refine j_icmp_ne 41 45 C dX3_readTest_38 rfl rfl (fun c_12 => ?_) (fun c_12 => ?_)
      · replace hq := hq.1 c_12
        refine j_aload_n 46 C dX3_readTest_45 rfl 0 rfl ?_
        refine j_iconst 47 C dX3_readTest_46 rfl ic_0 ?_
        refine j_bipush 49 C dX3_readTest_47 rfl bc_9 ?_
        refine j_callVi 52 C [] [] (fun f' v' => (wR G h f' v')) (As := [.int (0 : Int32), .int (9 : Int32)]) (m_X3_digit G h (0 : Int32) (9 : Int32) f_10 v_11 hq) oX3_digit kX3_89 ⟨rfl, rfl⟩ eX3_digit ⟨Nat.le_of_ble_eq_true rfl, Nat.le_of_ble_eq_true rfl⟩ ⟨Nat.zero_le _, Nat.zero_le _⟩ (List.append_nil _).symm (fun _ _ => List.append_nil _) (fun _ _ => rfl) 0 rfl rfl rfl (Nat.le_of_ble_eq_true rfl) dX3_readTest_49 rfl (fun r_13 f_14 v_15 hq => ?_)
        refine j_istore_n 53 C dX3_readTest_52 rfl (Nat.le_of_ble_eq_true rfl) [1, 2, 3, 0] (lv' := [(0, .ref (h 0)), (1, .int r_5), (2, .int r_9), (3, .int r_13)]) rfl ?_
        refine j_iload_n 54 C dX3_readTest_53 rfl 3 rfl ?_
        refine j_iconst 55 C dX3_readTest_54 rfl ic_m1 ?_
        refine j_icmp_ne 58 62 C dX3_readTest_55 rfl rfl (fun c_16 => ?_) (fun c_16 => ?_)
        · replace hq := hq.1 c_16
          refine j_aload_n 63 C dX3_readTest_62 rfl 0 rfl ?_
          refine j_iconst 64 C dX3_readTest_63 rfl ic_0 ?_
          refine j_bipush 66 C dX3_readTest_64 rfl bc_9 ?_
          refine j_callVi 69 C [] [] (fun f' v' => (wR G h f' v')) (As := [.int (0 : Int32), .int (9 : Int32)]) (m_X3_digit G h (0 : Int32) (9 : Int32) f_14 v_15 hq) oX3_digit kX3_89 ⟨rfl, rfl⟩ eX3_digit ⟨Nat.le_of_ble_eq_true rfl, Nat.le_of_ble_eq_true rfl⟩ ⟨Nat.zero_le _, Nat.zero_le _⟩ (List.append_nil _).symm (fun _ _ => List.append_nil _) (fun _ _ => rfl) 0 rfl rfl rfl (Nat.le_of_ble_eq_true rfl) dX3_readTest_66 rfl (fun r_17 f_18 v_19 hq => ?_)
          refine j_istore 71 C dX3_readTest_69 rfl (Nat.le_of_ble_eq_true rfl) [1, 2, 3, 4, 0] (lv' := [(0, .ref (h 0)), (1, .int r_5), (2, .int r_9), (3, .int r_13), (4, .int r_17)]) rfl ?_
          refine j_aload_n 72 C dX3_readTest_71 rfl 0 rfl ?_
          refine j_get 75 C uX3 0 rfl rfl 0 (Nat.le_of_ble_eq_true rfl) lX3_12 (v := .ref (h 2)) rfl dX3_readTest_72 rfl ?_
          refine j_get 78 C uX1 2 rfl rfl 8 (Nat.le_of_ble_eq_true rfl) lX3_93 (v := .int (v_19 3)) rfl dX3_readTest_75 rfl ?_
          refine J.topi (fun x_20 ex_20 => ?_)
          replace hq := hq x_20 ex_20
          refine j_istore 80 C dX3_readTest_78 rfl (Nat.le_of_ble_eq_true rfl) [1, 2, 3, 4, 5, 0] (lv' := [(0, .ref (h 0)), (1, .int r_5), (2, .int r_9), (3, .int r_13), (4, .int r_17), (5, .int x_20)]) rfl ?_
          refine j_iload 82 C dX3_readTest_80 rfl 4 rfl ?_
          refine j_iconst 83 C dX3_readTest_82 rfl ic_m1 ?_
          refine j_icmp_eq 86 93 C dX3_readTest_83 rfl rfl (fun c_21 => ?_) (fun c_21 => ?_)
          · replace hq := hq.1 c_21
            refine j_iconst 94 C dX3_readTest_93 rfl ic_0 ?_
            exact hR _ _ _ f_18 v_19 dX3_readTest_94 (Or.inl rfl) hq
          · replace hq := hq.2 c_21
            refine j_iload 88 C dX3_readTest_86 rfl 5 rfl ?_
            refine j_bipush 90 C dX3_readTest_88 rfl bc_7 ?_
            refine j_icmp_lt 93 95 C dX3_readTest_90 rfl rfl (fun c_22 => ?_) (fun c_22 => ?_)
            · replace hq := hq.1 c_22
              refine j_aload_n 96 C dX3_readTest_95 rfl 0 rfl ?_
              refine j_get 99 C uX3 0 rfl rfl 0 (Nat.le_of_ble_eq_true rfl) lX3_12 (v := .ref (h 2)) rfl dX3_readTest_96 rfl ?_
              refine j_get 102 C uX1 2 rfl rfl 4 (Nat.le_of_ble_eq_true rfl) lX3_96 (v := .ref (h 6)) rfl dX3_readTest_99 rfl ?_
              refine j_iload 104 C dX3_readTest_102 rfl 5 rfl ?_
              refine j_iload_n 105 C dX3_readTest_104 rfl 1 rfl ?_
              obtain ⟨hi_23, hq⟩ := hq
              obtain ⟨f_24, ef_24⟩ : ∃ y : FF, y = fu f_18 4 (wr (f_18 4) x_20 r_5) := ⟨_, rfl⟩
              replace hq := hq f_24 ef_24
              refine j_iast 106 C 6 rfl hi_23 dX3_readTest_105 rfl (ws' := (wR G h f_24 v_19)) (by subst ef_24; rfl) ?_
              refine j_aload_n 107 C dX3_readTest_106 rfl 0 rfl ?_
              refine j_get 110 C uX3 0 rfl rfl 0 (Nat.le_of_ble_eq_true rfl) lX3_12 (v := .ref (h 2)) rfl dX3_readTest_107 rfl ?_
              refine j_get 113 C uX1 2 rfl rfl 5 (Nat.le_of_ble_eq_true rfl) lX3_99 (v := .ref (h 7)) rfl dX3_readTest_110 rfl ?_
              refine j_iload 115 C dX3_readTest_113 rfl 5 rfl ?_
              refine j_iload_n 116 C dX3_readTest_115 rfl 2 rfl ?_
              obtain ⟨hi_25, hq⟩ := hq
              obtain ⟨f_26, ef_26⟩ : ∃ y : FF, y = fu f_24 5 (wr (f_24 5) x_20 r_9) := ⟨_, rfl⟩
              replace hq := hq f_26 ef_26
              refine j_iast 117 C 7 rfl hi_25 dX3_readTest_116 rfl (ws' := (wR G h f_26 v_19)) (by subst ef_26; rfl) ?_
              refine j_aload_n 118 C dX3_readTest_117 rfl 0 rfl ?_
              refine j_get 121 C uX3 0 rfl rfl 0 (Nat.le_of_ble_eq_true rfl) lX3_12 (v := .ref (h 2)) rfl dX3_readTest_118 rfl ?_
              refine j_get 124 C uX1 2 rfl rfl 6 (Nat.le_of_ble_eq_true rfl) lX3_102 (v := .ref (h 8)) rfl dX3_readTest_121 rfl ?_
              refine j_iload 126 C dX3_readTest_124 rfl 5 rfl ?_
              refine j_iload_n 127 C dX3_readTest_126 rfl 3 rfl ?_
              obtain ⟨hi_27, hq⟩ := hq
              obtain ⟨f_28, ef_28⟩ : ∃ y : FF, y = fu f_26 6 (wr (f_26 6) x_20 r_13) := ⟨_, rfl⟩
              replace hq := hq f_28 ef_28
              refine j_iast 128 C 8 rfl hi_27 dX3_readTest_127 rfl (ws' := (wR G h f_28 v_19)) (by subst ef_28; rfl) ?_
              refine j_aload_n 129 C dX3_readTest_128 rfl 0 rfl ?_
              refine j_get 132 C uX3 0 rfl rfl 0 (Nat.le_of_ble_eq_true rfl) lX3_12 (v := .ref (h 2)) rfl dX3_readTest_129 rfl ?_
              refine j_get 135 C uX1 2 rfl rfl 7 (Nat.le_of_ble_eq_true rfl) lX3_105 (v := .ref (h 9)) rfl dX3_readTest_132 rfl ?_
              refine j_iload 137 C dX3_readTest_135 rfl 5 rfl ?_
              refine j_iload 139 C dX3_readTest_137 rfl 4 rfl ?_
              obtain ⟨hi_29, hq⟩ := hq
              obtain ⟨f_30, ef_30⟩ : ∃ y : FF, y = fu f_28 7 (wr (f_28 7) x_20 r_17) := ⟨_, rfl⟩
              replace hq := hq f_30 ef_30
              refine j_iast 140 C 9 rfl hi_29 dX3_readTest_139 rfl (ws' := (wR G h f_30 v_19)) (by subst ef_30; rfl) ?_
              refine j_aload_n 141 C dX3_readTest_140 rfl 0 rfl ?_
              refine j_get 144 C uX3 0 rfl rfl 0 (Nat.le_of_ble_eq_true rfl) lX3_12 (v := .ref (h 2)) rfl dX3_readTest_141 rfl ?_
              refine j_dup 145 C dX3_readTest_144 rfl rfl ?_
              refine j_get 148 C uX1 2 rfl rfl 8 (Nat.le_of_ble_eq_true rfl) lX3_93 (v := .int (v_19 3)) rfl dX3_readTest_145 rfl ?_
              refine j_iconst 149 C dX3_readTest_148 rfl ic_1 ?_
              refine j_iadd 150 C dX3_readTest_149 rfl ?_
              obtain ⟨v_31, ev_31⟩ : ∃ y : VV, y = fu v_19 3 ((v_19 3) + (1 : Int32)) := ⟨_, rfl⟩
              replace hq := hq v_31 ev_31
              refine j_put 153 C uX1 tyX1 tyX1_ok nmX1 2 rfl rfl 8 (Nat.le_of_ble_eq_true rfl) lX3_93 rfl rfl (Nat.le_of_ble_eq_true rfl) dX3_readTest_150 rfl (ws' := (wR G h f_30 v_31)) (by subst ev_31; rfl) ?_
              refine j_iconst 154 C dX3_readTest_153 rfl ic_1 ?_
              exact hR _ _ _ f_30 v_31 dX3_readTest_154 (Or.inr rfl) hq
            · replace hq := hq.2 c_22
              refine j_iconst 94 C dX3_readTest_93 rfl ic_0 ?_
              exact hR _ _ _ f_18 v_19 dX3_readTest_94 (Or.inl rfl) hq
        · replace hq := hq.2 c_16
          refine j_iconst 59 C dX3_readTest_58 rfl ic_m1 ?_
          refine j_goto 69 C dX3_readTest_59 rfl ?_
          refine j_istore 71 C dX3_readTest_69 rfl (Nat.le_of_ble_eq_true rfl) [1, 2, 3, 4, 0] (lv' := [(0, .ref (h 0)), (1, .int r_5), (2, .int r_9), (3, .int r_13), (4, .int (-1 : Int32))]) rfl ?_
          refine j_aload_n 72 C dX3_readTest_71 rfl 0 rfl ?_
          refine j_get 75 C uX3 0 rfl rfl 0 (Nat.le_of_ble_eq_true rfl) lX3_12 (v := .ref (h 2)) rfl dX3_readTest_72 rfl ?_
          refine j_get 78 C uX1 2 rfl rfl 8 (Nat.le_of_ble_eq_true rfl) lX3_93 (v := .int (v_15 3)) rfl dX3_readTest_75 rfl ?_
          refine J.topi (fun x_32 ex_32 => ?_)
          replace hq := hq x_32 ex_32
          refine j_istore 80 C dX3_readTest_78 rfl (Nat.le_of_ble_eq_true rfl) [1, 2, 3, 4, 5, 0] (lv' := [(0, .ref (h 0)), (1, .int r_5), (2, .int r_9), (3, .int r_13), (4, .int (-1 : Int32)), (5, .int x_32)]) rfl ?_
          refine j_iload 82 C dX3_readTest_80 rfl 4 rfl ?_
          refine j_iconst 83 C dX3_readTest_82 rfl ic_m1 ?_
          refine j_icmp_eq 86 93 C dX3_readTest_83 rfl rfl (fun _ => ?_) (fun h9 => absurd h9 (by decide))
          refine j_iconst 94 C dX3_readTest_93 rfl ic_0 ?_
          exact hR _ _ _ f_14 v_15 dX3_readTest_94 (Or.inl rfl) hq
      · replace hq := hq.2 c_12
        refine j_iconst 42 C dX3_readTest_41 rfl ic_m1 ?_
        refine j_goto 52 C dX3_readTest_42 rfl ?_
        refine j_istore_n 53 C dX3_readTest_52 rfl (Nat.le_of_ble_eq_true rfl) [1, 2, 3, 0] (lv' := [(0, .ref (h 0)), (1, .int r_5), (2, .int r_9), (3, .int (-1 : Int32))]) rfl ?_
        refine j_iload_n 54 C dX3_readTest_53 rfl 3 rfl ?_
        refine j_iconst 55 C dX3_readTest_54 rfl ic_m1 ?_
        refine j_icmp_ne 58 62 C dX3_readTest_55 rfl rfl (fun h9 => absurd h9 (by decide)) (fun _ => ?_)
        refine j_iconst 59 C dX3_readTest_58 rfl ic_m1 ?_
        refine j_goto 69 C dX3_readTest_59 rfl ?_
        refine j_istore 71 C dX3_readTest_69 rfl (Nat.le_of_ble_eq_true rfl) [1, 2, 3, 4, 0] (lv' := [(0, .ref (h 0)), (1, .int r_5), (2, .int r_9), (3, .int (-1 : Int32)), (4, .int (-1 : Int32))]) rfl ?_
        refine j_aload_n 72 C dX3_readTest_71 rfl 0 rfl ?_
        refine j_get 75 C uX3 0 rfl rfl 0 (Nat.le_of_ble_eq_true rfl) lX3_12 (v := .ref (h 2)) rfl dX3_readTest_72 rfl ?_
        refine j_get 78 C uX1 2 rfl rfl 8 (Nat.le_of_ble_eq_true rfl) lX3_93 (v := .int (v_11 3)) rfl dX3_readTest_75 rfl ?_
        refine J.topi (fun x_33 ex_33 => ?_)
        replace hq := hq x_33 ex_33
        refine j_istore 80 C dX3_readTest_78 rfl (Nat.le_of_ble_eq_true rfl) [1, 2, 3, 4, 5, 0] (lv' := [(0, .ref (h 0)), (1, .int r_5), (2, .int r_9), (3, .int (-1 : Int32)), (4, .int (-1 : Int32)), (5, .int x_33)]) rfl ?_
        refine j_iload 82 C dX3_readTest_80 rfl 4 rfl ?_
        refine j_iconst 83 C dX3_readTest_82 rfl ic_m1 ?_
        refine j_icmp_eq 86 93 C dX3_readTest_83 rfl rfl (fun _ => ?_) (fun h9 => absurd h9 (by decide))
        refine j_iconst 94 C dX3_readTest_93 rfl ic_0 ?_
        exact hR _ _ _ f_10 v_11 dX3_readTest_94 (Or.inl rfl) hq
    · replace hq := hq.2 c_8
      refine j_iconst 25 C dX3_readTest_24 rfl ic_m1 ?_
      refine j_goto 35 C dX3_readTest_25 rfl ?_
      refine j_istore_n 36 C dX3_readTest_35 rfl (Nat.le_of_ble_eq_true rfl) [1, 2, 0] (lv' := [(0, .ref (h 0)), (1, .int r_5), (2, .int (-1 : Int32))]) rfl ?_
      refine j_iload_n 37 C dX3_readTest_36 rfl 2 rfl ?_
      refine j_iconst 38 C dX3_readTest_37 rfl ic_m1 ?_
      refine j_icmp_ne 41 45 C dX3_readTest_38 rfl rfl (fun h9 => absurd h9 (by decide)) (fun _ => ?_)
      refine j_iconst 42 C dX3_readTest_41 rfl ic_m1 ?_
      refine j_goto 52 C dX3_readTest_42 rfl ?_
      refine j_istore_n 53 C dX3_readTest_52 rfl (Nat.le_of_ble_eq_true rfl) [1, 2, 3, 0] (lv' := [(0, .ref (h 0)), (1, .int r_5), (2, .int (-1 : Int32)), (3, .int (-1 : Int32))]) rfl ?_
      refine j_iload_n 54 C dX3_readTest_53 rfl 3 rfl ?_
      refine j_iconst 55 C dX3_readTest_54 rfl ic_m1 ?_
      refine j_icmp_ne 58 62 C dX3_readTest_55 rfl rfl (fun h9 => absurd h9 (by decide)) (fun _ => ?_)
      refine j_iconst 59 C dX3_readTest_58 rfl ic_m1 ?_
      refine j_goto 69 C dX3_readTest_59 rfl ?_
      refine j_istore 71 C dX3_readTest_69 rfl (Nat.le_of_ble_eq_true rfl) [1, 2, 3, 4, 0] (lv' := [(0, .ref (h 0)), (1, .int r_5), (2, .int (-1 : Int32)), (3, .int (-1 : Int32)), (4, .int (-1 : Int32))]) rfl ?_
      refine j_aload_n 72 C dX3_readTest_71 rfl 0 rfl ?_
      refine j_get 75 C uX3 0 rfl rfl 0 (Nat.le_of_ble_eq_true rfl) lX3_12 (v := .ref (h 2)) rfl dX3_readTest_72 rfl ?_
      refine j_get 78 C uX1 2 rfl rfl 8 (Nat.le_of_ble_eq_true rfl) lX3_93 (v := .int (v_7 3)) rfl dX3_readTest_75 rfl ?_
      refine J.topi (fun x_34 ex_34 => ?_)
      replace hq := hq x_34 ex_34
      refine j_istore 80 C dX3_readTest_78 rfl (Nat.le_of_ble_eq_true rfl) [1, 2, 3, 4, 5, 0] (lv' := [(0, .ref (h 0)), (1, .int r_5), (2, .int (-1 : Int32)), (3, .int (-1 : Int32)), (4, .int (-1 : Int32)), (5, .int x_34)]) rfl ?_
      refine j_iload 82 C dX3_readTest_80 rfl 4 rfl ?_
      refine j_iconst 83 C dX3_readTest_82 rfl ic_m1 ?_
      refine j_icmp_eq 86 93 C dX3_readTest_83 rfl rfl (fun _ => ?_) (fun h9 => absurd h9 (by decide))
      refine j_iconst 94 C dX3_readTest_93 rfl ic_0 ?_
      exact hR _ _ _ f_6 v_7 dX3_readTest_94 (Or.inl rfl) hq
  · replace hq := hq.2 c_4
    refine j_iconst 10 C dX3_readTest_9 rfl ic_0 ?_
    exact hR _ _ _ f_2 v_3 dX3_readTest_10 (Or.inl rfl) hq
def Q_X3_readTests_L7 (K37 : Int32 → Int32 → FF → VV → Prop) : Nat → Int32 → Int32 → FF → VV → Prop
  | 0, _, _, _, _ => False
  | n + 1, x1, x2, f, v => (((7 : Int32) ≤ x2 → (K37 x1 x2 f v)) ∧ (¬ (7 : Int32) ≤ x2 → (((x1 = 0 → (K37 x1 x2 f v)) ∧ (¬ x1 = 0 → (Q_X3_peek  f v (fun r_6 => (((¬ r_6 = (44 : Int32) → (K37 x1 x2 f v)) ∧ (r_6 = (44 : Int32) → (Q_X3_readTest  f v (fun r_8 f_9 v_10 => (∀ x_11 : Int32, x_11 = (x2 + (1 : Int32)) → (Q_X3_readTests_L7 K37 n r_8 x_11 f_9 v_10))))))))))))))
set_option maxRecDepth 100000 in
set_option maxHeartbeats 4000000 in
theorem t_X3_readTests_L7 {κ : Kx} {G : Gx} {h : Nat → Nat} (C : Cx κ G RX3 cX3_readTests rmX3_readTests 3) {K37 : Int32 → Int32 → FF → VV → Prop} (hK37 : ∀ (x1 : Int32) (x2 : Int32) (f : FF) (v : VV), K37 x1 x2 f v → J κ 0 0 (wR G h f v) 37 [(0, .ref (h 0)), (1, .int x1), (2, .int x2)] []) : ∀ (n : Nat) (x1 : Int32) (x2 : Int32) (f : FF) (v : VV), Q_X3_readTests_L7 K37 n x1 x2 f v → J κ 0 0 (wR G h f v) 7 [(0, .ref (h 0)), (1, .int x1), (2, .int x2)] [] := by
  intro n
  induction n with
  | zero => intro x1 x2 f v hq; exact False.elim hq
  | succ n ih =>
    intro x1 x2 f v hq
    rw [Q_X3_readTests_L7] at hq
    refine j_iload_n 8 C dX3_readTests_7 rfl 2 rfl ?_
    refine j_bipush 10 C dX3_readTests_8 rfl bc_7 ?_
    refine j_icmp_ge 13 37 C dX3_readTests_10 rfl rfl (fun c_4 => ?_) (fun c_4 => ?_)
    · replace hq := hq.1 c_4
      refine J.l0 [0, 1, 2] rfl ?_
      exact hK37 _ _ _ _ hq
    · replace hq := hq.2 c_4
      refine j_iload_n 14 C dX3_readTests_13 rfl 1 rfl ?_
      refine j_if_eq 17 37 C dX3_readTests_14 rfl rfl (fun c_5 => ?_) (fun c_5 => ?_)
      · replace hq := hq.1 c_5
        refine J.l0 [0, 1, 2] rfl ?_
        exact hK37 _ _ _ _ hq
      · replace hq := hq.2 c_5
        refine j_aload_n 18 C dX3_readTests_17 rfl 0 rfl ?_
        refine j_callVi_ro 21 C [] [] (As := []) (m_X3_peek G h f v hq) oX3_peek kX3_57 ⟨rfl, rfl⟩ eX3_peek ⟨Nat.le_of_ble_eq_true rfl, Nat.le_of_ble_eq_true rfl⟩ ⟨Nat.zero_le _, Nat.zero_le _⟩ (List.append_nil _).symm (fun _ _ => rfl) 0 rfl rfl rfl (Nat.le_of_ble_eq_true rfl) dX3_readTests_18 rfl (fun r_6 hq => ?_)
        refine j_bipush 23 C dX3_readTests_21 rfl bc_44 ?_
        refine j_icmp_ne 26 37 C dX3_readTests_23 rfl rfl (fun c_7 => ?_) (fun c_7 => ?_)
        · replace hq := hq.1 c_7
          refine J.l0 [0, 1, 2] rfl ?_
          exact hK37 _ _ _ _ hq
        · replace hq := hq.2 c_7
          refine j_aload_n 27 C dX3_readTests_26 rfl 0 rfl ?_
          refine j_callVi 30 C [] [] (fun f' v' => (wR G h f' v')) (As := []) (m_X3_readTest G h f v hq) oX3_readTest kX3_83 ⟨rfl, rfl⟩ eX3_readTest ⟨Nat.le_of_ble_eq_true rfl, Nat.le_of_ble_eq_true rfl⟩ ⟨Nat.zero_le _, Nat.zero_le _⟩ (List.append_nil _).symm (fun _ _ => List.append_nil _) (fun _ _ => rfl) 0 rfl rfl rfl (Nat.le_of_ble_eq_true rfl) dX3_readTests_27 rfl (fun r_8 f_9 v_10 hq => ?_)
          refine j_istore_n 31 C dX3_readTests_30 rfl (Nat.le_of_ble_eq_true rfl) [1, 0, 2] (lv' := [(0, .ref (h 0)), (1, .int r_8), (2, .int x2)]) rfl ?_
          obtain ⟨x_11, ex_11⟩ : ∃ y : Int32, y = (x2 + (1 : Int32)) := ⟨_, rfl⟩
          replace hq := hq x_11 ex_11
          refine j_iinc 34 C dX3_readTests_31 rfl 2 rfl (v := x_11) (by rw [ex_11]; rfl) (Nat.le_of_ble_eq_true rfl) [1, 2, 0] (lv' := [(0, .ref (h 0)), (1, .int r_8), (2, .int x_11)]) rfl ?_
          refine j_goto 7 C dX3_readTests_34 rfl ?_
          refine J.l0 [0, 1, 2] rfl ?_
          exact ih _ _ _ _ hq
def Q_X3_readTests (f : FF) (v : VV) (post : Int32 → FF → VV → Prop) : Prop := Q_X3_readTest  f v (fun r_1 f_2 v_3 => (∃ n_12 : Nat, Q_X3_readTests_L7 (fun x_13 x_14 f_15 v_16 => (((x_13 = 0 ∨ x_13 = 1) ∧ post x_13 f_15 v_16))) n_12 r_1 (1 : Int32) f_2 v_3))
set_option maxRecDepth 100000 in
set_option maxHeartbeats 4000000 in
theorem m_X3_readTests {l : Launch} (G : Gx) (h : Nat → Nat) (f : FF) (v : VV) {post : Int32 → FF → VV → Prop} (hq : Q_X3_readTests f v post) : MetI l yX3_readTests (gC yX3_readTests cX3_readTests 3 (some .boolean)) rmX3_readTests G [.ref (h 0)] (wR G h) f v post := by
  refine met_z (own := RX3) (by decide) rfl (Nat.le_of_ble_eq_true rfl) (fun κ hκ C hR => ?_)
  unfold Q_X3_readTests at hq
  subst hκ
  show J κ 0 0 (wR G h f v) 0 [(0, .ref (h 0))] []
  refine j_aload_n 1 C dX3_readTests_0 rfl 0 rfl ?_
  refine j_callVi 4 C [] [] (fun f' v' => (wR G h f' v')) (As := []) (m_X3_readTest G h f v hq) oX3_readTest kX3_83 ⟨rfl, rfl⟩ eX3_readTest ⟨Nat.le_of_ble_eq_true rfl, Nat.le_of_ble_eq_true rfl⟩ ⟨Nat.zero_le _, Nat.zero_le _⟩ (List.append_nil _).symm (fun _ _ => List.append_nil _) (fun _ _ => rfl) 0 rfl rfl rfl (Nat.le_of_ble_eq_true rfl) dX3_readTests_1 rfl (fun r_1 f_2 v_3 hq => ?_)
  refine j_istore_n 5 C dX3_readTests_4 rfl (Nat.le_of_ble_eq_true rfl) [1, 0] (lv' := [(0, .ref (h 0)), (1, .int r_1)]) rfl ?_
  refine j_iconst 6 C dX3_readTests_5 rfl ic_1 ?_
  refine j_istore_n 7 C dX3_readTests_6 rfl (Nat.le_of_ble_eq_true rfl) [1, 2, 0] (lv' := [(0, .ref (h 0)), (1, .int r_1), (2, .int (1 : Int32))]) rfl ?_
  obtain ⟨n_12, hq⟩ := hq
  refine t_X3_readTests_L7 C ?_ n_12 _ _ _ _ hq
  · intro x_13 x_14 f_15 v_16 hq
    refine j_iload_n 38 C dX3_readTests_37 rfl 1 rfl ?_
    exact hR _ _ _ f_15 v_16 dX3_readTests_38 hq.1 hq.2
def Q_X3_reads (p1 : Int32) (p2 : Int32) (f : FF) (v : VV) (post : Int32 → FF → VV → Prop) : Prop := ¬ p1 < 0 ∧ ¬ (0 : Int32) < 0 ∧ ¬ p2 < 0 ∧ (p1).toNatClampNeg + (p2).toNatClampNeg ≤ 60 ∧ ((0 : Int32)).toNatClampNeg + (p2).toNatClampNeg ≤ 60 ∧ (∀ f_6 : FF, f_6 = fu f 1 (va_cpy (f 0) (f 1) (p1).toNatClampNeg ((0 : Int32)).toNatClampNeg (p2).toNatClampNeg) → (∀ v_7 : VV, v_7 = fu v 2 p2 → (∀ v_8 : VV, v_8 = fu v_7 3 (0 : Int32) → (Q_X1_becomeEmpty  (sb f_6 2) (sb v_8 4) (fun f_10 v_11 => (∀ f_12 : FF, f_12 = mg f_6 2 9 f_10 → (∀ v_13 : VV, v_13 = mg v_8 4 2 v_11 → (Q_X3_pass (109 : Int32) (sb f_12 1) (sb v_13 2) (fun r_14 f_15 v_16 => (∀ f_17 : FF, f_17 = mg f_12 1 10 f_15 → (∀ v_18 : VV, v_18 = mg v_13 2 4 v_16 → (((r_14 = 0 → (post (0 : Int32) f_17 v_18)) ∧ (¬ r_14 = 0 → (Q_X3_readSteps  (sb f_17 1) (sb v_18 2) (fun r_20 f_21 v_22 => (∀ f_23 : FF, f_23 = mg f_17 1 10 f_21 → (∀ v_24 : VV, v_24 = mg v_18 2 4 v_22 → (((r_20 = 0 → (post (0 : Int32) f_23 v_24)) ∧ (¬ r_20 = 0 → (Q_X3_readTests  (sb f_23 1) (sb v_24 2) (fun r_26 f_27 v_28 => (∀ f_29 : FF, f_29 = mg f_23 1 10 f_27 → (∀ v_30 : VV, v_30 = mg v_24 2 4 v_28 → (((r_26 = 0 → (post (0 : Int32) f_29 v_30)) ∧ (¬ r_26 = 0 → (((¬ (v_30 3) = (v_30 2) → (post (0 : Int32) f_29 v_30)) ∧ ((v_30 3) = (v_30 2) → (post (1 : Int32) f_29 v_30))))))))))))))))))))))))))))))))
set_option maxRecDepth 100000 in
set_option maxHeartbeats 4000000 in
theorem m_X3_reads {l : Launch} (G : Gx) (h : Nat → Nat) (p1 : Int32) (p2 : Int32) (f : FF) (v : VV) {post : Int32 → FF → VV → Prop} (hq : Q_X3_reads p1 p2 f v post) : MetI l yX3_reads (gC yX3_reads cX3_reads 4 (some .boolean)) rmX3_reads G [.ref (h 2), .ref (h 0), .int p1, .int p2] (wSR G h) f v post := by
  refine met_z (own := RX3) (by decide) rfl (Nat.le_of_ble_eq_true rfl) (fun κ hκ C hR => ?_)
  unfold Q_X3_reads at hq
  subst hκ
  show J κ 0 0 (wSR G h f v) 0 [(0, .ref (h 2)), (1, .ref (h 0)), (2, .int p1), (3, .int p2)] []
  refine j_aload_n 1 C dX3_reads_0 rfl 1 rfl ?_
  refine j_get 4 C uX2 0 rfl rfl 0 (Nat.le_of_ble_eq_true rfl) lX3_22 (v := .ref (h 1)) rfl dX3_reads_1 rfl ?_
  refine j_iload_n 5 C dX3_reads_4 rfl 2 rfl ?_
  refine j_aload_n 6 C dX3_reads_5 rfl 0 rfl ?_
  refine j_get 9 C uX3 2 rfl rfl 1 (Nat.le_of_ble_eq_true rfl) lX3_18 (v := .ref (h 3)) rfl dX3_reads_6 rfl ?_
  refine j_iconst 10 C dX3_reads_9 rfl ic_0 ?_
  refine j_iload_n 11 C dX3_reads_10 rfl 3 rfl ?_
  obtain ⟨ha_1, ha_2, ha_3, ha_4, ha_5, hq⟩ := hq
  obtain ⟨f_6, ef_6⟩ : ∃ y : FF, y = fu f 1 (va_cpy (f 0) (f 1) (p1).toNatClampNeg ((0 : Int32)).toNatClampNeg (p2).toNatClampNeg) := ⟨_, rfl⟩
  replace hq := hq f_6 ef_6
  refine j_copy 14 C kX3_27 1 3 rfl rfl ha_1 ha_2 ha_3 ha_4 ha_5 (Nat.le_of_ble_eq_true rfl) (by decide) dX3_reads_11 rfl (ws' := (wSR G h f_6 v)) (by subst ef_6; rfl) ?_
  refine j_aload_n 15 C dX3_reads_14 rfl 0 rfl ?_
  refine j_iload_n 16 C dX3_reads_15 rfl 3 rfl ?_
  obtain ⟨v_7, ev_7⟩ : ∃ y : VV, y = fu v 2 p2 := ⟨_, rfl⟩
  replace hq := hq v_7 ev_7
  refine j_put 19 C uX3 tyX3 tyX3_ok nmX3 2 rfl rfl 2 (Nat.le_of_ble_eq_true rfl) lX3_33 rfl rfl (Nat.le_of_ble_eq_true rfl) dX3_reads_16 rfl (ws' := (wSR G h f_6 v_7)) (by subst ev_7; rfl) ?_
  refine j_aload_n 20 C dX3_reads_19 rfl 0 rfl ?_
  refine j_iconst 21 C dX3_reads_20 rfl ic_0 ?_
  obtain ⟨v_8, ev_8⟩ : ∃ y : VV, y = fu v_7 3 (0 : Int32) := ⟨_, rfl⟩
  replace hq := hq v_8 ev_8
  refine j_put 24 C uX3 tyX3 tyX3_ok nmX3 2 rfl rfl 3 (Nat.le_of_ble_eq_true rfl) lX3_37 rfl rfl (Nat.le_of_ble_eq_true rfl) dX3_reads_21 rfl (ws' := (wSR G h f_6 v_8)) (by subst ev_8; rfl) ?_
  refine j_aload_n 25 C dX3_reads_24 rfl 0 rfl ?_
  refine j_get 28 C uX3 2 rfl rfl 0 (Nat.le_of_ble_eq_true rfl) lX3_12 (v := .ref (h 4)) rfl dX3_reads_25 rfl ?_
  refine j_callVv 31 C (List.take 4 (wSR G h f_6 v_8)) (List.drop 14 (wSR G h f_6 v_8)) (fun f' v' => (wSR G h (mg f_6 2 9 f') (mg v_8 4 2 v'))) (As := []) (m_X1_becomeEmpty G (sb h 4) (sb f_6 2) (sb v_8 4) hq) oX1_becomeEmpty kX3_40 ⟨rfl, rfl⟩ eX1_becomeEmpty ⟨Nat.le_of_ble_eq_true rfl, Nat.le_of_ble_eq_true rfl⟩ ⟨Nat.zero_le _, Nat.zero_le _⟩ rfl (fun _ _ => rfl) (fun _ _ => rfl) 0 rfl rfl rfl (Nat.le_of_ble_eq_true rfl) dX3_reads_28 rfl (fun f_10 v_11 hq => ?_)
  obtain ⟨f_12, ef_12⟩ : ∃ y : FF, y = mg f_6 2 9 f_10 := ⟨_, rfl⟩
  obtain ⟨v_13, ev_13⟩ : ∃ y : VV, y = mg v_8 4 2 v_11 := ⟨_, rfl⟩
  replace hq := hq f_12 ef_12 v_13 ev_13
  refine J.w0 (ws' := (wSR G h f_12 v_13)) (by subst ef_12; subst ev_13; rfl) ?_
  refine j_aload_n 32 C dX3_reads_31 rfl 0 rfl ?_
  refine j_bipush 34 C dX3_reads_32 rfl bc_109 ?_
  refine j_callVi 37 C (List.take 2 (wSR G h f_12 v_13)) (List.drop 14 (wSR G h f_12 v_13)) (fun f' v' => (wSR G h (mg f_12 1 10 f') (mg v_13 2 4 v'))) (As := [.int (109 : Int32)]) (m_X3_pass G (sb h 2) (109 : Int32) (sb f_12 1) (sb v_13 2) hq) oX3_pass kX3_43 ⟨rfl, rfl⟩ eX3_pass ⟨Nat.le_of_ble_eq_true rfl, Nat.le_of_ble_eq_true rfl⟩ ⟨Nat.zero_le _, Nat.zero_le _⟩ rfl (fun _ _ => rfl) (fun _ _ => rfl) 0 rfl rfl rfl (Nat.le_of_ble_eq_true rfl) dX3_reads_34 rfl (fun r_14 f_15 v_16 hq => ?_)
  obtain ⟨f_17, ef_17⟩ : ∃ y : FF, y = mg f_12 1 10 f_15 := ⟨_, rfl⟩
  obtain ⟨v_18, ev_18⟩ : ∃ y : VV, y = mg v_13 2 4 v_16 := ⟨_, rfl⟩
  replace hq := hq f_17 ef_17 v_18 ev_18
  refine J.w0 (ws' := (wSR G h f_17 v_18)) (by subst ef_17; subst ev_18; rfl) ?_
  refine j_if_eq 40 69 C dX3_reads_37 rfl rfl (fun c_19 => ?_) (fun c_19 => ?_)
  · replace hq := hq.1 c_19
    refine j_iconst 70 C dX3_reads_69 rfl ic_0 ?_
    exact hR _ _ _ f_17 v_18 dX3_reads_70 (Or.inl rfl) hq
  · replace hq := hq.2 c_19
    refine j_aload_n 41 C dX3_reads_40 rfl 0 rfl ?_
    refine j_callVi 44 C (List.take 2 (wSR G h f_17 v_18)) (List.drop 14 (wSR G h f_17 v_18)) (fun f' v' => (wSR G h (mg f_17 1 10 f') (mg v_18 2 4 v'))) (As := []) (m_X3_readSteps G (sb h 2) (sb f_17 1) (sb v_18 2) hq) oX3_readSteps kX3_47 ⟨rfl, rfl⟩ eX3_readSteps ⟨Nat.le_of_ble_eq_true rfl, Nat.le_of_ble_eq_true rfl⟩ ⟨Nat.zero_le _, Nat.zero_le _⟩ rfl (fun _ _ => rfl) (fun _ _ => rfl) 0 rfl rfl rfl (Nat.le_of_ble_eq_true rfl) dX3_reads_41 rfl (fun r_20 f_21 v_22 hq => ?_)
    obtain ⟨f_23, ef_23⟩ : ∃ y : FF, y = mg f_17 1 10 f_21 := ⟨_, rfl⟩
    obtain ⟨v_24, ev_24⟩ : ∃ y : VV, y = mg v_18 2 4 v_22 := ⟨_, rfl⟩
    replace hq := hq f_23 ef_23 v_24 ev_24
    refine J.w0 (ws' := (wSR G h f_23 v_24)) (by subst ef_23; subst ev_24; rfl) ?_
    refine j_if_eq 47 69 C dX3_reads_44 rfl rfl (fun c_25 => ?_) (fun c_25 => ?_)
    · replace hq := hq.1 c_25
      refine j_iconst 70 C dX3_reads_69 rfl ic_0 ?_
      exact hR _ _ _ f_23 v_24 dX3_reads_70 (Or.inl rfl) hq
    · replace hq := hq.2 c_25
      refine j_aload_n 48 C dX3_reads_47 rfl 0 rfl ?_
      refine j_callVi 51 C (List.take 2 (wSR G h f_23 v_24)) (List.drop 14 (wSR G h f_23 v_24)) (fun f' v' => (wSR G h (mg f_23 1 10 f') (mg v_24 2 4 v'))) (As := []) (m_X3_readTests G (sb h 2) (sb f_23 1) (sb v_24 2) hq) oX3_readTests kX3_51 ⟨rfl, rfl⟩ eX3_readTests ⟨Nat.le_of_ble_eq_true rfl, Nat.le_of_ble_eq_true rfl⟩ ⟨Nat.zero_le _, Nat.zero_le _⟩ rfl (fun _ _ => rfl) (fun _ _ => rfl) 0 rfl rfl rfl (Nat.le_of_ble_eq_true rfl) dX3_reads_48 rfl (fun r_26 f_27 v_28 hq => ?_)
      obtain ⟨f_29, ef_29⟩ : ∃ y : FF, y = mg f_23 1 10 f_27 := ⟨_, rfl⟩
      obtain ⟨v_30, ev_30⟩ : ∃ y : VV, y = mg v_24 2 4 v_28 := ⟨_, rfl⟩
      replace hq := hq f_29 ef_29 v_30 ev_30
      refine J.w0 (ws' := (wSR G h f_29 v_30)) (by subst ef_29; subst ev_30; rfl) ?_
      refine j_if_eq 54 69 C dX3_reads_51 rfl rfl (fun c_31 => ?_) (fun c_31 => ?_)
      · replace hq := hq.1 c_31
        refine j_iconst 70 C dX3_reads_69 rfl ic_0 ?_
        exact hR _ _ _ f_29 v_30 dX3_reads_70 (Or.inl rfl) hq
      · replace hq := hq.2 c_31
        refine j_aload_n 55 C dX3_reads_54 rfl 0 rfl ?_
        refine j_get 58 C uX3 2 rfl rfl 3 (Nat.le_of_ble_eq_true rfl) lX3_37 (v := .int (v_30 3)) rfl dX3_reads_55 rfl ?_
        refine j_aload_n 59 C dX3_reads_58 rfl 0 rfl ?_
        refine j_get 62 C uX3 2 rfl rfl 2 (Nat.le_of_ble_eq_true rfl) lX3_33 (v := .int (v_30 2)) rfl dX3_reads_59 rfl ?_
        refine j_icmp_ne 65 69 C dX3_reads_62 rfl rfl (fun c_32 => ?_) (fun c_32 => ?_)
        · replace hq := hq.1 c_32
          refine j_iconst 70 C dX3_reads_69 rfl ic_0 ?_
          exact hR _ _ _ f_29 v_30 dX3_reads_70 (Or.inl rfl) hq
        · replace hq := hq.2 c_32
          refine j_iconst 66 C dX3_reads_65 rfl ic_1 ?_
          refine j_goto 70 C dX3_reads_66 rfl ?_
          exact hR _ _ _ f_29 v_30 dX3_reads_70 (Or.inr rfl) hq
def Q_X1_becomeLike_L10 (K60 : Int32 → FF → VV → Prop) : Nat → Int32 → FF → VV → Prop
  | 0, _, _, _ => False
  | n + 1, x2, f, v => (((v 0) ≤ x2 → (K60 x2 f v)) ∧ (¬ (v 0) ≤ x2 → (vp_in x2 5 ∧ (vp_in x2 5 ∧ (∀ f_5 : FF, f_5 = fu f 0 (wr (f 0) x2 ((f 9) (x2).toNatClampNeg)) → (vp_in x2 5 ∧ (vp_in x2 5 ∧ (∀ f_8 : FF, f_8 = fu f_5 1 (wr (f_5 1) x2 ((f_5 10) (x2).toNatClampNeg)) → (vp_in x2 5 ∧ (vp_in x2 5 ∧ (∀ f_11 : FF, f_11 = fu f_8 2 (wr (f_8 2) x2 ((f_8 11) (x2).toNatClampNeg)) → (∀ x_12 : Int32, x_12 = (x2 + (1 : Int32)) → (Q_X1_becomeLike_L10 K60 n x_12 f_11 v)))))))))))))
set_option maxRecDepth 100000 in
set_option maxHeartbeats 4000000 in
theorem t_X1_becomeLike_L10 {κ : Kx} {G : Gx} {h : Nat → Nat} (C : Cx κ G RX1 cX1_becomeLike rmX1_becomeLike 3) {K60 : Int32 → FF → VV → Prop} (hK60 : ∀ (x2 : Int32) (f : FF) (v : VV), K60 x2 f v → J κ 0 0 (wPP G h f v) 60 [(0, .ref (h 0)), (1, .ref (h 10)), (2, .int x2)] []) : ∀ (n : Nat) (x2 : Int32) (f : FF) (v : VV), Q_X1_becomeLike_L10 K60 n x2 f v → J κ 0 0 (wPP G h f v) 10 [(0, .ref (h 0)), (1, .ref (h 10)), (2, .int x2)] [] := by
  intro n
  induction n with
  | zero => intro x2 f v hq; exact False.elim hq
  | succ n ih =>
    intro x2 f v hq
    rw [Q_X1_becomeLike_L10] at hq
    refine j_iload_n 11 C dX1_becomeLike_10 rfl 2 rfl ?_
    refine j_aload_n 12 C dX1_becomeLike_11 rfl 0 rfl ?_
    refine j_get 15 C uX1 0 rfl rfl 3 (Nat.le_of_ble_eq_true rfl) lX1_39 (v := .int (v 0)) rfl dX1_becomeLike_12 rfl ?_
    refine j_icmp_ge 18 60 C dX1_becomeLike_15 rfl rfl (fun c_2 => ?_) (fun c_2 => ?_)
    · replace hq := hq.1 c_2
      refine J.l0 [0, 1, 2] rfl ?_
      exact hK60 _ _ _ hq
    · replace hq := hq.2 c_2
      refine j_aload_n 19 C dX1_becomeLike_18 rfl 0 rfl ?_
      refine j_get 22 C uX1 0 rfl rfl 0 (Nat.le_of_ble_eq_true rfl) lX1_9 (v := .ref (h 1)) rfl dX1_becomeLike_19 rfl ?_
      refine j_iload_n 23 C dX1_becomeLike_22 rfl 2 rfl ?_
      refine j_aload_n 24 C dX1_becomeLike_23 rfl 1 rfl ?_
      refine j_get 27 C uX1 10 rfl rfl 0 (Nat.le_of_ble_eq_true rfl) lX1_9 (v := .ref (h 11)) rfl dX1_becomeLike_24 rfl ?_
      refine j_iload_n 28 C dX1_becomeLike_27 rfl 2 rfl ?_
      obtain ⟨hi_3, hq⟩ := hq
      refine j_iald 29 C 11 (f := (f 9)) rfl hi_3 dX1_becomeLike_28 rfl ?_
      obtain ⟨hi_4, hq⟩ := hq
      obtain ⟨f_5, ef_5⟩ : ∃ y : FF, y = fu f 0 (wr (f 0) x2 ((f 9) (x2).toNatClampNeg)) := ⟨_, rfl⟩
      replace hq := hq f_5 ef_5
      refine j_iast 30 C 1 rfl hi_4 dX1_becomeLike_29 rfl (ws' := (wPP G h f_5 v)) (by subst ef_5; rfl) ?_
      refine j_aload_n 31 C dX1_becomeLike_30 rfl 0 rfl ?_
      refine j_get 34 C uX1 0 rfl rfl 1 (Nat.le_of_ble_eq_true rfl) lX1_15 (v := .ref (h 2)) rfl dX1_becomeLike_31 rfl ?_
      refine j_iload_n 35 C dX1_becomeLike_34 rfl 2 rfl ?_
      refine j_aload_n 36 C dX1_becomeLike_35 rfl 1 rfl ?_
      refine j_get 39 C uX1 10 rfl rfl 1 (Nat.le_of_ble_eq_true rfl) lX1_15 (v := .ref (h 12)) rfl dX1_becomeLike_36 rfl ?_
      refine j_iload_n 40 C dX1_becomeLike_39 rfl 2 rfl ?_
      obtain ⟨hi_6, hq⟩ := hq
      refine j_iald 41 C 12 (f := (f_5 10)) rfl hi_6 dX1_becomeLike_40 rfl ?_
      obtain ⟨hi_7, hq⟩ := hq
      obtain ⟨f_8, ef_8⟩ : ∃ y : FF, y = fu f_5 1 (wr (f_5 1) x2 ((f_5 10) (x2).toNatClampNeg)) := ⟨_, rfl⟩
      replace hq := hq f_8 ef_8
      refine j_iast 42 C 2 rfl hi_7 dX1_becomeLike_41 rfl (ws' := (wPP G h f_8 v)) (by subst ef_8; rfl) ?_
      refine j_aload_n 43 C dX1_becomeLike_42 rfl 0 rfl ?_
      refine j_get 46 C uX1 0 rfl rfl 2 (Nat.le_of_ble_eq_true rfl) lX1_18 (v := .ref (h 3)) rfl dX1_becomeLike_43 rfl ?_
      refine j_iload_n 47 C dX1_becomeLike_46 rfl 2 rfl ?_
      refine j_aload_n 48 C dX1_becomeLike_47 rfl 1 rfl ?_
      refine j_get 51 C uX1 10 rfl rfl 2 (Nat.le_of_ble_eq_true rfl) lX1_18 (v := .ref (h 13)) rfl dX1_becomeLike_48 rfl ?_
      refine j_iload_n 52 C dX1_becomeLike_51 rfl 2 rfl ?_
      obtain ⟨hi_9, hq⟩ := hq
      refine j_iald 53 C 13 (f := (f_8 11)) rfl hi_9 dX1_becomeLike_52 rfl ?_
      obtain ⟨hi_10, hq⟩ := hq
      obtain ⟨f_11, ef_11⟩ : ∃ y : FF, y = fu f_8 2 (wr (f_8 2) x2 ((f_8 11) (x2).toNatClampNeg)) := ⟨_, rfl⟩
      replace hq := hq f_11 ef_11
      refine j_iast 54 C 3 rfl hi_10 dX1_becomeLike_53 rfl (ws' := (wPP G h f_11 v)) (by subst ef_11; rfl) ?_
      obtain ⟨x_12, ex_12⟩ : ∃ y : Int32, y = (x2 + (1 : Int32)) := ⟨_, rfl⟩
      replace hq := hq x_12 ex_12
      refine j_iinc 57 C dX1_becomeLike_54 rfl 2 rfl (v := x_12) (by rw [ex_12]; rfl) (Nat.le_of_ble_eq_true rfl) [1, 2, 0] (lv' := [(0, .ref (h 0)), (1, .ref (h 10)), (2, .int x_12)]) rfl ?_
      refine j_goto 10 C dX1_becomeLike_57 rfl ?_
      refine J.l0 [0, 1, 2] rfl ?_
      exact ih _ _ _ hq
def Q_X1_becomeLike_L70 (K132 : Int32 → FF → VV → Prop) : Nat → Int32 → FF → VV → Prop
  | 0, _, _, _ => False
  | n + 1, x2, f, v => (((v 1) ≤ x2 → (K132 x2 f v)) ∧ (¬ (v 1) ≤ x2 → (vp_in x2 7 ∧ (vp_in x2 7 ∧ (∀ f_21 : FF, f_21 = fu f 3 (wr (f 3) x2 ((f 12) (x2).toNatClampNeg)) → (vp_in x2 7 ∧ (vp_in x2 7 ∧ (∀ f_24 : FF, f_24 = fu f_21 4 (wr (f_21 4) x2 ((f_21 13) (x2).toNatClampNeg)) → (vp_in x2 7 ∧ (vp_in x2 7 ∧ (∀ f_27 : FF, f_27 = fu f_24 5 (wr (f_24 5) x2 ((f_24 14) (x2).toNatClampNeg)) → (vp_in x2 7 ∧ (vp_in x2 7 ∧ (∀ f_30 : FF, f_30 = fu f_27 6 (wr (f_27 6) x2 ((f_27 15) (x2).toNatClampNeg)) → (∀ x_31 : Int32, x_31 = (x2 + (1 : Int32)) → (Q_X1_becomeLike_L70 K132 n x_31 f_30 v))))))))))))))))
set_option maxRecDepth 100000 in
set_option maxHeartbeats 4000000 in
theorem t_X1_becomeLike_L70 {κ : Kx} {G : Gx} {h : Nat → Nat} (C : Cx κ G RX1 cX1_becomeLike rmX1_becomeLike 3) {K132 : Int32 → FF → VV → Prop} (hK132 : ∀ (x2 : Int32) (f : FF) (v : VV), K132 x2 f v → J κ 0 0 (wPP G h f v) 132 [(0, .ref (h 0)), (1, .ref (h 10)), (2, .int x2)] []) : ∀ (n : Nat) (x2 : Int32) (f : FF) (v : VV), Q_X1_becomeLike_L70 K132 n x2 f v → J κ 0 0 (wPP G h f v) 70 [(0, .ref (h 0)), (1, .ref (h 10)), (2, .int x2)] [] := by
  intro n
  induction n with
  | zero => intro x2 f v hq; exact False.elim hq
  | succ n ih =>
    intro x2 f v hq
    rw [Q_X1_becomeLike_L70] at hq
    refine j_iload_n 71 C dX1_becomeLike_70 rfl 2 rfl ?_
    refine j_aload_n 72 C dX1_becomeLike_71 rfl 0 rfl ?_
    refine j_get 75 C uX1 0 rfl rfl 8 (Nat.le_of_ble_eq_true rfl) lX1_43 (v := .int (v 1)) rfl dX1_becomeLike_72 rfl ?_
    refine j_icmp_ge 78 132 C dX1_becomeLike_75 rfl rfl (fun c_18 => ?_) (fun c_18 => ?_)
    · replace hq := hq.1 c_18
      refine J.l0 [0, 1, 2] rfl ?_
      exact hK132 _ _ _ hq
    · replace hq := hq.2 c_18
      refine j_aload_n 79 C dX1_becomeLike_78 rfl 0 rfl ?_
      refine j_get 82 C uX1 0 rfl rfl 4 (Nat.le_of_ble_eq_true rfl) lX1_21 (v := .ref (h 4)) rfl dX1_becomeLike_79 rfl ?_
      refine j_iload_n 83 C dX1_becomeLike_82 rfl 2 rfl ?_
      refine j_aload_n 84 C dX1_becomeLike_83 rfl 1 rfl ?_
      refine j_get 87 C uX1 10 rfl rfl 4 (Nat.le_of_ble_eq_true rfl) lX1_21 (v := .ref (h 14)) rfl dX1_becomeLike_84 rfl ?_
      refine j_iload_n 88 C dX1_becomeLike_87 rfl 2 rfl ?_
      obtain ⟨hi_19, hq⟩ := hq
      refine j_iald 89 C 14 (f := (f 12)) rfl hi_19 dX1_becomeLike_88 rfl ?_
      obtain ⟨hi_20, hq⟩ := hq
      obtain ⟨f_21, ef_21⟩ : ∃ y : FF, y = fu f 3 (wr (f 3) x2 ((f 12) (x2).toNatClampNeg)) := ⟨_, rfl⟩
      replace hq := hq f_21 ef_21
      refine j_iast 90 C 4 rfl hi_20 dX1_becomeLike_89 rfl (ws' := (wPP G h f_21 v)) (by subst ef_21; rfl) ?_
      refine j_aload_n 91 C dX1_becomeLike_90 rfl 0 rfl ?_
      refine j_get 94 C uX1 0 rfl rfl 5 (Nat.le_of_ble_eq_true rfl) lX1_24 (v := .ref (h 5)) rfl dX1_becomeLike_91 rfl ?_
      refine j_iload_n 95 C dX1_becomeLike_94 rfl 2 rfl ?_
      refine j_aload_n 96 C dX1_becomeLike_95 rfl 1 rfl ?_
      refine j_get 99 C uX1 10 rfl rfl 5 (Nat.le_of_ble_eq_true rfl) lX1_24 (v := .ref (h 15)) rfl dX1_becomeLike_96 rfl ?_
      refine j_iload_n 100 C dX1_becomeLike_99 rfl 2 rfl ?_
      obtain ⟨hi_22, hq⟩ := hq
      refine j_iald 101 C 15 (f := (f_21 13)) rfl hi_22 dX1_becomeLike_100 rfl ?_
      obtain ⟨hi_23, hq⟩ := hq
      obtain ⟨f_24, ef_24⟩ : ∃ y : FF, y = fu f_21 4 (wr (f_21 4) x2 ((f_21 13) (x2).toNatClampNeg)) := ⟨_, rfl⟩
      replace hq := hq f_24 ef_24
      refine j_iast 102 C 5 rfl hi_23 dX1_becomeLike_101 rfl (ws' := (wPP G h f_24 v)) (by subst ef_24; rfl) ?_
      refine j_aload_n 103 C dX1_becomeLike_102 rfl 0 rfl ?_
      refine j_get 106 C uX1 0 rfl rfl 6 (Nat.le_of_ble_eq_true rfl) lX1_27 (v := .ref (h 6)) rfl dX1_becomeLike_103 rfl ?_
      refine j_iload_n 107 C dX1_becomeLike_106 rfl 2 rfl ?_
      refine j_aload_n 108 C dX1_becomeLike_107 rfl 1 rfl ?_
      refine j_get 111 C uX1 10 rfl rfl 6 (Nat.le_of_ble_eq_true rfl) lX1_27 (v := .ref (h 16)) rfl dX1_becomeLike_108 rfl ?_
      refine j_iload_n 112 C dX1_becomeLike_111 rfl 2 rfl ?_
      obtain ⟨hi_25, hq⟩ := hq
      refine j_iald 113 C 16 (f := (f_24 14)) rfl hi_25 dX1_becomeLike_112 rfl ?_
      obtain ⟨hi_26, hq⟩ := hq
      obtain ⟨f_27, ef_27⟩ : ∃ y : FF, y = fu f_24 5 (wr (f_24 5) x2 ((f_24 14) (x2).toNatClampNeg)) := ⟨_, rfl⟩
      replace hq := hq f_27 ef_27
      refine j_iast 114 C 6 rfl hi_26 dX1_becomeLike_113 rfl (ws' := (wPP G h f_27 v)) (by subst ef_27; rfl) ?_
      refine j_aload_n 115 C dX1_becomeLike_114 rfl 0 rfl ?_
      refine j_get 118 C uX1 0 rfl rfl 7 (Nat.le_of_ble_eq_true rfl) lX1_30 (v := .ref (h 7)) rfl dX1_becomeLike_115 rfl ?_
      refine j_iload_n 119 C dX1_becomeLike_118 rfl 2 rfl ?_
      refine j_aload_n 120 C dX1_becomeLike_119 rfl 1 rfl ?_
      refine j_get 123 C uX1 10 rfl rfl 7 (Nat.le_of_ble_eq_true rfl) lX1_30 (v := .ref (h 17)) rfl dX1_becomeLike_120 rfl ?_
      refine j_iload_n 124 C dX1_becomeLike_123 rfl 2 rfl ?_
      obtain ⟨hi_28, hq⟩ := hq
      refine j_iald 125 C 17 (f := (f_27 15)) rfl hi_28 dX1_becomeLike_124 rfl ?_
      obtain ⟨hi_29, hq⟩ := hq
      obtain ⟨f_30, ef_30⟩ : ∃ y : FF, y = fu f_27 6 (wr (f_27 6) x2 ((f_27 15) (x2).toNatClampNeg)) := ⟨_, rfl⟩
      replace hq := hq f_30 ef_30
      refine j_iast 126 C 7 rfl hi_29 dX1_becomeLike_125 rfl (ws' := (wPP G h f_30 v)) (by subst ef_30; rfl) ?_
      obtain ⟨x_31, ex_31⟩ : ∃ y : Int32, y = (x2 + (1 : Int32)) := ⟨_, rfl⟩
      replace hq := hq x_31 ex_31
      refine j_iinc 129 C dX1_becomeLike_126 rfl 2 rfl (v := x_31) (by rw [ex_31]; rfl) (Nat.le_of_ble_eq_true rfl) [1, 2, 0] (lv' := [(0, .ref (h 0)), (1, .ref (h 10)), (2, .int x_31)]) rfl ?_
      refine j_goto 70 C dX1_becomeLike_129 rfl ?_
      refine J.l0 [0, 1, 2] rfl ?_
      exact ih _ _ _ hq
def Q_X1_becomeLike (f : FF) (v : VV) (post : FF → VV → Prop) : Prop := ∀ v_1 : VV, v_1 = fu v 0 (v 2) → (∃ n_13 : Nat, Q_X1_becomeLike_L10 (fun x_14 f_15 v_16 => (∀ v_17 : VV, v_17 = fu v_16 1 (v_16 3) → (∃ n_32 : Nat, Q_X1_becomeLike_L70 (fun x_33 f_34 v_35 => (post f_34 v_35)) n_32 (0 : Int32) f_15 v_17))) n_13 (0 : Int32) f v_1)
set_option maxRecDepth 100000 in
set_option maxHeartbeats 4000000 in
theorem m_X1_becomeLike {l : Launch} (G : Gx) (h : Nat → Nat) (f : FF) (v : VV) {post : FF → VV → Prop} (hq : Q_X1_becomeLike f v post) : MetV l yX1_becomeLike (gC yX1_becomeLike cX1_becomeLike 3 none) rmX1_becomeLike G [.ref (h 0), .ref (h 10)] (wPP G h) f v post := by
  refine met_v (own := RX1) (by decide) rfl (Nat.le_of_ble_eq_true rfl) (fun κ hκ C hR => ?_)
  unfold Q_X1_becomeLike at hq
  subst hκ
  show J κ 0 0 (wPP G h f v) 0 [(0, .ref (h 0)), (1, .ref (h 10))] []
  refine j_aload_n 1 C dX1_becomeLike_0 rfl 0 rfl ?_
  refine j_aload_n 2 C dX1_becomeLike_1 rfl 1 rfl ?_
  refine j_get 5 C uX1 10 rfl rfl 3 (Nat.le_of_ble_eq_true rfl) lX1_39 (v := .int (v 2)) rfl dX1_becomeLike_2 rfl ?_
  obtain ⟨v_1, ev_1⟩ : ∃ y : VV, y = fu v 0 (v 2) := ⟨_, rfl⟩
  replace hq := hq v_1 ev_1
  refine j_put 8 C uX1 tyX1 tyX1_ok nmX1 0 rfl rfl 3 (Nat.le_of_ble_eq_true rfl) lX1_39 rfl rfl (Nat.le_of_ble_eq_true rfl) dX1_becomeLike_5 rfl (ws' := (wPP G h f v_1)) (by subst ev_1; rfl) ?_
  refine j_iconst 9 C dX1_becomeLike_8 rfl ic_0 ?_
  refine j_istore_n 10 C dX1_becomeLike_9 rfl (Nat.le_of_ble_eq_true rfl) [1, 2, 0] (lv' := [(0, .ref (h 0)), (1, .ref (h 10)), (2, .int (0 : Int32))]) rfl ?_
  obtain ⟨n_13, hq⟩ := hq
  refine t_X1_becomeLike_L10 C ?_ n_13 _ _ _ hq
  · intro x_14 f_15 v_16 hq
    refine j_aload_n 61 C dX1_becomeLike_60 rfl 0 rfl ?_
    refine j_aload_n 62 C dX1_becomeLike_61 rfl 1 rfl ?_
    refine j_get 65 C uX1 10 rfl rfl 8 (Nat.le_of_ble_eq_true rfl) lX1_43 (v := .int (v_16 3)) rfl dX1_becomeLike_62 rfl ?_
    obtain ⟨v_17, ev_17⟩ : ∃ y : VV, y = fu v_16 1 (v_16 3) := ⟨_, rfl⟩
    replace hq := hq v_17 ev_17
    refine j_put 68 C uX1 tyX1 tyX1_ok nmX1 0 rfl rfl 8 (Nat.le_of_ble_eq_true rfl) lX1_43 rfl rfl (Nat.le_of_ble_eq_true rfl) dX1_becomeLike_65 rfl (ws' := (wPP G h f_15 v_17)) (by subst ev_17; rfl) ?_
    refine j_iconst 69 C dX1_becomeLike_68 rfl ic_0 ?_
    refine j_istore_n 70 C dX1_becomeLike_69 rfl (Nat.le_of_ble_eq_true rfl) [1, 2, 0] (lv' := [(0, .ref (h 0)), (1, .ref (h 10)), (2, .int (0 : Int32))]) rfl ?_
    obtain ⟨n_32, hq⟩ := hq
    refine t_X1_becomeLike_L70 C ?_ n_32 _ _ _ hq
    · intro x_33 f_34 v_35 hq
      exact hR _ _ _ _ dX1_becomeLike_132 hq
def Q_X1_mutants (f : FF) (v : VV) (post : Int32 → Prop) : Prop := post ((4 : Int32) * (v 0))
set_option maxRecDepth 100000 in
set_option maxHeartbeats 4000000 in
theorem m_X1_mutants {l : Launch} (G : Gx) (h : Nat → Nat) (f : FF) (v : VV) {post : Int32 → Prop} (hq : Q_X1_mutants f v post) : MetI l yX1_mutants (gC yX1_mutants cX1_mutants 1 (some .int)) rmX1_mutants G [.ref (h 0)] (wP G h) f v (fun r f' v' => post r ∧ f' = f ∧ v' = v) := by
  refine met_i (own := RX1) (by decide) rfl (Nat.le_of_ble_eq_true rfl) (fun κ hκ C hR => ?_)
  unfold Q_X1_mutants at hq
  subst hκ
  show J κ 0 0 (wP G h f v) 0 [(0, .ref (h 0))] []
  refine j_iconst 1 C dX1_mutants_0 rfl ic_4 ?_
  refine j_aload_n 2 C dX1_mutants_1 rfl 0 rfl ?_
  refine j_get 5 C uX1 0 rfl rfl 3 (Nat.le_of_ble_eq_true rfl) lX1_39 (v := .int (v 0)) rfl dX1_mutants_2 rfl ?_
  refine j_imul 6 C dX1_mutants_5 rfl ?_
  exact hR _ _ _ f v dX1_mutants_6 ⟨hq, rfl, rfl⟩
def Q_X1_hasStep (p0 : Int32) (f : FF) (v : VV) (post : Int32 → Prop) : Prop := ((p0 < 0 → (post (0 : Int32))) ∧ (¬ p0 < 0 → ((((v 0) ≤ p0 → (post (0 : Int32))) ∧ (¬ (v 0) ≤ p0 → (post (1 : Int32)))))))
set_option maxRecDepth 100000 in
set_option maxHeartbeats 4000000 in
theorem m_X1_hasStep {l : Launch} (G : Gx) (h : Nat → Nat) (p0 : Int32) (f : FF) (v : VV) {post : Int32 → Prop} (hq : Q_X1_hasStep p0 f v post) : MetI l yX1_hasStep (gC yX1_hasStep cX1_hasStep 2 (some .boolean)) rmX1_hasStep G [.ref (h 0), .int p0] (wP G h) f v (fun r f' v' => post r ∧ f' = f ∧ v' = v) := by
  refine met_z (own := RX1) (by decide) rfl (Nat.le_of_ble_eq_true rfl) (fun κ hκ C hR => ?_)
  unfold Q_X1_hasStep at hq
  subst hκ
  show J κ 0 0 (wP G h f v) 0 [(0, .ref (h 0)), (1, .int p0)] []
  refine j_iload_n 1 C dX1_hasStep_0 rfl 1 rfl ?_
  refine j_if_lt 4 16 C dX1_hasStep_1 rfl rfl (fun c_1 => ?_) (fun c_1 => ?_)
  · replace hq := hq.1 c_1
    refine j_iconst 17 C dX1_hasStep_16 rfl ic_0 ?_
    exact hR _ _ _ f v dX1_hasStep_17 (Or.inl rfl) ⟨hq, rfl, rfl⟩
  · replace hq := hq.2 c_1
    refine j_iload_n 5 C dX1_hasStep_4 rfl 1 rfl ?_
    refine j_aload_n 6 C dX1_hasStep_5 rfl 0 rfl ?_
    refine j_get 9 C uX1 0 rfl rfl 3 (Nat.le_of_ble_eq_true rfl) lX1_39 (v := .int (v 0)) rfl dX1_hasStep_6 rfl ?_
    refine j_icmp_ge 12 16 C dX1_hasStep_9 rfl rfl (fun c_2 => ?_) (fun c_2 => ?_)
    · replace hq := hq.1 c_2
      refine j_iconst 17 C dX1_hasStep_16 rfl ic_0 ?_
      exact hR _ _ _ f v dX1_hasStep_17 (Or.inl rfl) ⟨hq, rfl, rfl⟩
    · replace hq := hq.2 c_2
      refine j_iconst 13 C dX1_hasStep_12 rfl ic_1 ?_
      refine j_goto 17 C dX1_hasStep_13 rfl ?_
      exact hR _ _ _ f v dX1_hasStep_17 (Or.inr rfl) ⟨hq, rfl, rfl⟩
def Q_X1_hasTest (p0 : Int32) (f : FF) (v : VV) (post : Int32 → Prop) : Prop := ((p0 < 0 → (post (0 : Int32))) ∧ (¬ p0 < 0 → ((((v 1) ≤ p0 → (post (0 : Int32))) ∧ (¬ (v 1) ≤ p0 → (post (1 : Int32)))))))
set_option maxRecDepth 100000 in
set_option maxHeartbeats 4000000 in
theorem m_X1_hasTest {l : Launch} (G : Gx) (h : Nat → Nat) (p0 : Int32) (f : FF) (v : VV) {post : Int32 → Prop} (hq : Q_X1_hasTest p0 f v post) : MetI l yX1_hasTest (gC yX1_hasTest cX1_hasTest 2 (some .boolean)) rmX1_hasTest G [.ref (h 0), .int p0] (wP G h) f v (fun r f' v' => post r ∧ f' = f ∧ v' = v) := by
  refine met_z (own := RX1) (by decide) rfl (Nat.le_of_ble_eq_true rfl) (fun κ hκ C hR => ?_)
  unfold Q_X1_hasTest at hq
  subst hκ
  show J κ 0 0 (wP G h f v) 0 [(0, .ref (h 0)), (1, .int p0)] []
  refine j_iload_n 1 C dX1_hasTest_0 rfl 1 rfl ?_
  refine j_if_lt 4 16 C dX1_hasTest_1 rfl rfl (fun c_1 => ?_) (fun c_1 => ?_)
  · replace hq := hq.1 c_1
    refine j_iconst 17 C dX1_hasTest_16 rfl ic_0 ?_
    exact hR _ _ _ f v dX1_hasTest_17 (Or.inl rfl) ⟨hq, rfl, rfl⟩
  · replace hq := hq.2 c_1
    refine j_iload_n 5 C dX1_hasTest_4 rfl 1 rfl ?_
    refine j_aload_n 6 C dX1_hasTest_5 rfl 0 rfl ?_
    refine j_get 9 C uX1 0 rfl rfl 8 (Nat.le_of_ble_eq_true rfl) lX1_43 (v := .int (v 1)) rfl dX1_hasTest_6 rfl ?_
    refine j_icmp_ge 12 16 C dX1_hasTest_9 rfl rfl (fun c_2 => ?_) (fun c_2 => ?_)
    · replace hq := hq.1 c_2
      refine j_iconst 17 C dX1_hasTest_16 rfl ic_0 ?_
      exact hR _ _ _ f v dX1_hasTest_17 (Or.inl rfl) ⟨hq, rfl, rfl⟩
    · replace hq := hq.2 c_2
      refine j_iconst 13 C dX1_hasTest_12 rfl ic_1 ?_
      refine j_goto 17 C dX1_hasTest_13 rfl ?_
      exact hR _ _ _ f v dX1_hasTest_17 (Or.inr rfl) ⟨hq, rfl, rfl⟩
def Q_X1_weight (p0 : Int32) (f : FF) (v : VV) (post : Int32 → Prop) : Prop := vp_in p0 7 ∧ (((((f 3) (p0).toNatClampNeg) = (0 : Int32) → (vp_in p0 7 ∧ (post ((f 4) (p0).toNatClampNeg)))) ∧ (¬ ((f 3) (p0).toNatClampNeg) = (0 : Int32) → (((((f 3) (p0).toNatClampNeg) = (1 : Int32) → (vp_in p0 7 ∧ (post (((f 4) (p0).toNatClampNeg) + (1 : Int32))))) ∧ (¬ ((f 3) (p0).toNatClampNeg) = (1 : Int32) → (vp_in p0 7 ∧ (post ((2 : Int32) * ((f 4) (p0).toNatClampNeg))))))))))
set_option maxRecDepth 100000 in
set_option maxHeartbeats 4000000 in
theorem m_X1_weight {l : Launch} (G : Gx) (h : Nat → Nat) (p0 : Int32) (f : FF) (v : VV) {post : Int32 → Prop} (hq : Q_X1_weight p0 f v post) : MetI l yX1_weight (gC yX1_weight cX1_weight 2 (some .int)) rmX1_weight G [.ref (h 0), .int p0] (wP G h) f v (fun r f' v' => post r ∧ f' = f ∧ v' = v) := by
  refine met_i (own := RX1) (by decide) rfl (Nat.le_of_ble_eq_true rfl) (fun κ hκ C hR => ?_)
  unfold Q_X1_weight at hq
  subst hκ
  show J κ 0 0 (wP G h f v) 0 [(0, .ref (h 0)), (1, .int p0)] []
  refine j_aload_n 1 C dX1_weight_0 rfl 0 rfl ?_
  refine j_get 4 C uX1 0 rfl rfl 4 (Nat.le_of_ble_eq_true rfl) lX1_21 (v := .ref (h 4)) rfl dX1_weight_1 rfl ?_
  refine j_iload_n 5 C dX1_weight_4 rfl 1 rfl ?_
  obtain ⟨hi_1, hq⟩ := hq
  refine j_iald 6 C 4 (f := (f 3)) rfl hi_1 dX1_weight_5 rfl ?_
  by_cases c_2 : ((f 3) (p0).toNatClampNeg) = (0 : Int32)
  · replace hq := hq.1 c_2
    refine j_lookup 32 C dX1_weight_6 (by decide) (off := 26) (by rw [c_2] <;> decide) rfl ?_
    refine j_aload_n 33 C dX1_weight_32 rfl 0 rfl ?_
    refine j_get 36 C uX1 0 rfl rfl 5 (Nat.le_of_ble_eq_true rfl) lX1_24 (v := .ref (h 5)) rfl dX1_weight_33 rfl ?_
    refine j_iload_n 37 C dX1_weight_36 rfl 1 rfl ?_
    obtain ⟨hi_3, hq⟩ := hq
    refine j_iald 38 C 5 (f := (f 4)) rfl hi_3 dX1_weight_37 rfl ?_
    exact hR _ _ _ f v dX1_weight_38 ⟨hq, rfl, rfl⟩
  · replace hq := hq.2 c_2
    by_cases c_4 : ((f 3) (p0).toNatClampNeg) = (1 : Int32)
    · replace hq := hq.1 c_4
      refine j_lookup 39 C dX1_weight_6 (by decide) (off := 33) (by rw [c_4] <;> decide) rfl ?_
      refine j_aload_n 40 C dX1_weight_39 rfl 0 rfl ?_
      refine j_get 43 C uX1 0 rfl rfl 5 (Nat.le_of_ble_eq_true rfl) lX1_24 (v := .ref (h 5)) rfl dX1_weight_40 rfl ?_
      refine j_iload_n 44 C dX1_weight_43 rfl 1 rfl ?_
      obtain ⟨hi_5, hq⟩ := hq
      refine j_iald 45 C 5 (f := (f 4)) rfl hi_5 dX1_weight_44 rfl ?_
      refine j_iconst 46 C dX1_weight_45 rfl ic_1 ?_
      refine j_iadd 47 C dX1_weight_46 rfl ?_
      exact hR _ _ _ f v dX1_weight_47 ⟨hq, rfl, rfl⟩
    · replace hq := hq.2 c_4
      have zc_2 := ne_toInt (z := 0) (by decide) c_2
      have zc_4 := ne_toInt (z := 1) (by decide) c_4
      refine j_lookup 48 C dX1_weight_6 (by decide) (off := 42) (by simp only [Op.lookupswitch.offset_cons, Op.lookupswitch.offset_nil]; rw [if_neg (fun e9 => zc_2 e9.symm)]; rw [if_neg (fun e9 => zc_4 e9.symm)]) rfl ?_
      refine j_iconst 49 C dX1_weight_48 rfl ic_2 ?_
      refine j_aload_n 50 C dX1_weight_49 rfl 0 rfl ?_
      refine j_get 53 C uX1 0 rfl rfl 5 (Nat.le_of_ble_eq_true rfl) lX1_24 (v := .ref (h 5)) rfl dX1_weight_50 rfl ?_
      refine j_iload_n 54 C dX1_weight_53 rfl 1 rfl ?_
      obtain ⟨hi_6, hq⟩ := hq
      refine j_iald 55 C 5 (f := (f 4)) rfl hi_6 dX1_weight_54 rfl ?_
      refine j_imul 56 C dX1_weight_55 rfl ?_
      exact hR _ _ _ f v dX1_weight_56 ⟨hq, rfl, rfl⟩
def Q_X1_make (p0 : Int32) (p1 : Int32) (p2 : Int32) (post : Int32 → Prop) : Prop := ((p0 = (0 : Int32) → (post ((p1 + p2) - (p1 + p2) / (10 : Int32) * (10 : Int32)))) ∧ (¬ p0 = (0 : Int32) → (((p0 = (1 : Int32) → (((p2 ≤ p1 → (post (p1 - p2))) ∧ (¬ p2 ≤ p1 → (post ((p1 - p2) + (10 : Int32))))))) ∧ (¬ p0 = (1 : Int32) → (((p0 = (2 : Int32) → (post ((p1 * p2) - (p1 * p2) / (10 : Int32) * (10 : Int32)))) ∧ (¬ p0 = (2 : Int32) → (((p0 = (3 : Int32) → (((p1 ≤ p2 → (post p2)) ∧ (¬ p1 ≤ p2 → (post p1))))) ∧ (¬ p0 = (3 : Int32) → (((p2 ≤ p1 → (post p2)) ∧ (¬ p2 ≤ p1 → (post p1)))))))))))))))
set_option maxRecDepth 100000 in
set_option maxHeartbeats 4000000 in
theorem m_X1_make {l : Launch} (G : Gx) (p0 : Int32) (p1 : Int32) (p2 : Int32) {post : Int32 → Prop} (hq : Q_X1_make p0 p1 p2 post) : MetI l yX1_make (gC yX1_make cX1_make 3 (some .int)) rmX1_make G [.int p0, .int p1, .int p2] w0 f0 v0 (fun r _ _ => post r) := by
  refine met_i (own := RX1) (by decide) rfl (Nat.le_of_ble_eq_true rfl) (fun κ hκ C hR => ?_)
  unfold Q_X1_make at hq
  subst hκ
  show J κ 0 0 [] 0 [(0, .int p0), (1, .int p1), (2, .int p2)] []
  refine j_iload_n 1 C dX1_make_0 rfl 0 rfl ?_
  by_cases c_1 : p0 = (0 : Int32)
  · replace hq := hq.1 c_1
    refine j_tableIn 32 C (0 : Int32) dX1_make_1 c_1 (by decide) (by decide) rfl rfl ?_
    refine j_iload_n 33 C dX1_make_32 rfl 1 rfl ?_
    refine j_iload_n 34 C dX1_make_33 rfl 2 rfl ?_
    refine j_iadd 35 C dX1_make_34 rfl ?_
    refine j_bipush 37 C dX1_make_35 rfl bc_10 ?_
    refine j_irem 38 C dX1_make_37 rfl (by decide) ?_
    exact hR _ _ _ f0 v0 dX1_make_38 hq
  · replace hq := hq.2 c_1
    by_cases c_2 : p0 = (1 : Int32)
    · replace hq := hq.1 c_2
      refine j_tableIn 39 C (1 : Int32) dX1_make_1 c_2 (by decide) (by decide) rfl rfl ?_
      refine j_iload_n 40 C dX1_make_39 rfl 1 rfl ?_
      refine j_iload_n 41 C dX1_make_40 rfl 2 rfl ?_
      refine j_icmp_ge 44 53 C dX1_make_41 rfl rfl (fun c_3 => ?_) (fun c_3 => ?_)
      · replace hq := hq.1 c_3
        refine j_iload_n 54 C dX1_make_53 rfl 1 rfl ?_
        refine j_iload_n 55 C dX1_make_54 rfl 2 rfl ?_
        refine j_isub 56 C dX1_make_55 rfl ?_
        exact hR _ _ _ f0 v0 dX1_make_56 hq
      · replace hq := hq.2 c_3
        refine j_iload_n 45 C dX1_make_44 rfl 1 rfl ?_
        refine j_iload_n 46 C dX1_make_45 rfl 2 rfl ?_
        refine j_isub 47 C dX1_make_46 rfl ?_
        refine j_bipush 49 C dX1_make_47 rfl bc_10 ?_
        refine j_iadd 50 C dX1_make_49 rfl ?_
        refine j_goto 56 C dX1_make_50 rfl ?_
        exact hR _ _ _ f0 v0 dX1_make_56 hq
    · replace hq := hq.2 c_2
      by_cases c_4 : p0 = (2 : Int32)
      · replace hq := hq.1 c_4
        refine j_tableIn 57 C (2 : Int32) dX1_make_1 c_4 (by decide) (by decide) rfl rfl ?_
        refine j_iload_n 58 C dX1_make_57 rfl 1 rfl ?_
        refine j_iload_n 59 C dX1_make_58 rfl 2 rfl ?_
        refine j_imul 60 C dX1_make_59 rfl ?_
        refine j_bipush 62 C dX1_make_60 rfl bc_10 ?_
        refine j_irem 63 C dX1_make_62 rfl (by decide) ?_
        exact hR _ _ _ f0 v0 dX1_make_63 hq
      · replace hq := hq.2 c_4
        by_cases c_5 : p0 = (3 : Int32)
        · replace hq := hq.1 c_5
          refine j_tableIn 64 C (3 : Int32) dX1_make_1 c_5 (by decide) (by decide) rfl rfl ?_
          refine j_iload_n 65 C dX1_make_64 rfl 1 rfl ?_
          refine j_iload_n 66 C dX1_make_65 rfl 2 rfl ?_
          refine j_icmp_le 69 73 C dX1_make_66 rfl rfl (fun c_6 => ?_) (fun c_6 => ?_)
          · replace hq := hq.1 c_6
            refine j_iload_n 74 C dX1_make_73 rfl 2 rfl ?_
            exact hR _ _ _ f0 v0 dX1_make_74 hq
          · replace hq := hq.2 c_6
            refine j_iload_n 70 C dX1_make_69 rfl 1 rfl ?_
            refine j_goto 74 C dX1_make_70 rfl ?_
            exact hR _ _ _ f0 v0 dX1_make_74 hq
        · replace hq := hq.2 c_5
          have zc_1 := ne_toInt (z := 0) (by decide) c_1
          have zc_2 := ne_toInt (z := 1) (by decide) c_2
          have zc_4 := ne_toInt (z := 2) (by decide) c_4
          have zc_5 := ne_toInt (z := 3) (by decide) c_5
          refine j_tableOut 75 C dX1_make_1 (by omega) rfl ?_
          refine j_iload_n 76 C dX1_make_75 rfl 1 rfl ?_
          refine j_iload_n 77 C dX1_make_76 rfl 2 rfl ?_
          refine j_icmp_ge 80 84 C dX1_make_77 rfl rfl (fun c_7 => ?_) (fun c_7 => ?_)
          · replace hq := hq.1 c_7
            refine j_iload_n 85 C dX1_make_84 rfl 2 rfl ?_
            exact hR _ _ _ f0 v0 dX1_make_85 hq
          · replace hq := hq.2 c_7
            refine j_iload_n 81 C dX1_make_80 rfl 1 rfl ?_
            refine j_goto 85 C dX1_make_81 rfl ?_
            exact hR _ _ _ f0 v0 dX1_make_85 hq
def Q_X1_run_L20 (x1 : Int32) (x2 : Int32) (K78 : Int32 → Int32 → FF → VV → Prop) : Nat → Int32 → Int32 → FF → VV → Prop
  | 0, _, _, _, _ => False
  | n + 1, x3, x4, f, v => (((v 0) ≤ x4 → (K78 x3 x4 f v)) ∧ (¬ (v 0) ≤ x4 → (vp_in x4 5 ∧ (vp_in x4 5 ∧ (vp_in ((f 1) (x4).toNatClampNeg) 7 ∧ (vp_in x4 5 ∧ (vp_in ((f 2) (x4).toNatClampNeg) 7 ∧ (Q_X1_make ((f 0) (x4).toNatClampNeg) ((f 7) (((f 1) (x4).toNatClampNeg)).toNatClampNeg) ((f 7) (((f 2) (x4).toNatClampNeg)).toNatClampNeg) (fun r_11 => (vp_in x4 7 ∧ (∀ f_13 : FF, f_13 = fu f 7 (wr (f 7) x4 r_11) → (∀ x_14 : Int32, x_14 = (x4 + (1 : Int32)) → (Q_X1_run_L20 x1 x2 K78 n r_11 x_14 f_13 v)))))))))))))
set_option maxRecDepth 100000 in
set_option maxHeartbeats 4000000 in
theorem t_X1_run_L20 {κ : Kx} {G : Gx} {h : Nat → Nat} (C : Cx κ G RX1 cX1_run rmX1_run 5) {x1 : Int32} {x2 : Int32} {K78 : Int32 → Int32 → FF → VV → Prop} (hK78 : ∀ (x3 : Int32) (x4 : Int32) (f : FF) (v : VV), K78 x3 x4 f v → J κ 0 0 (wP G h f v) 78 [(0, .ref (h 0)), (1, .int x1), (2, .int x2), (3, .int x3), (4, .int x4)] []) : ∀ (n : Nat) (x3 : Int32) (x4 : Int32) (f : FF) (v : VV), Q_X1_run_L20 x1 x2 K78 n x3 x4 f v → J κ 0 0 (wP G h f v) 20 [(0, .ref (h 0)), (1, .int x1), (2, .int x2), (3, .int x3), (4, .int x4)] [] := by
  intro n
  induction n with
  | zero => intro x3 x4 f v hq; exact False.elim hq
  | succ n ih =>
    intro x3 x4 f v hq
    rw [Q_X1_run_L20] at hq
    refine j_iload 22 C dX1_run_20 rfl 4 rfl ?_
    refine j_aload_n 23 C dX1_run_22 rfl 0 rfl ?_
    refine j_get 26 C uX1 0 rfl rfl 3 (Nat.le_of_ble_eq_true rfl) lX1_39 (v := .int (v 0)) rfl dX1_run_23 rfl ?_
    refine j_icmp_ge 29 78 C dX1_run_26 rfl rfl (fun c_5 => ?_) (fun c_5 => ?_)
    · replace hq := hq.1 c_5
      refine J.l0 [0, 1, 2, 3, 4] rfl ?_
      exact hK78 _ _ _ _ hq
    · replace hq := hq.2 c_5
      refine j_aload_n 30 C dX1_run_29 rfl 0 rfl ?_
      refine j_get 33 C uX1 0 rfl rfl 0 (Nat.le_of_ble_eq_true rfl) lX1_9 (v := .ref (h 1)) rfl dX1_run_30 rfl ?_
      refine j_iload 35 C dX1_run_33 rfl 4 rfl ?_
      obtain ⟨hi_6, hq⟩ := hq
      refine j_iald 36 C 1 (f := (f 0)) rfl hi_6 dX1_run_35 rfl ?_
      refine j_aload_n 37 C dX1_run_36 rfl 0 rfl ?_
      refine j_get 40 C uX1 0 rfl rfl 9 (Nat.le_of_ble_eq_true rfl) lX1_33 (v := .ref (h 8)) rfl dX1_run_37 rfl ?_
      refine j_aload_n 41 C dX1_run_40 rfl 0 rfl ?_
      refine j_get 44 C uX1 0 rfl rfl 1 (Nat.le_of_ble_eq_true rfl) lX1_15 (v := .ref (h 2)) rfl dX1_run_41 rfl ?_
      refine j_iload 46 C dX1_run_44 rfl 4 rfl ?_
      obtain ⟨hi_7, hq⟩ := hq
      refine j_iald 47 C 2 (f := (f 1)) rfl hi_7 dX1_run_46 rfl ?_
      obtain ⟨hi_8, hq⟩ := hq
      refine j_iald 48 C 8 (f := (f 7)) rfl hi_8 dX1_run_47 rfl ?_
      refine j_aload_n 49 C dX1_run_48 rfl 0 rfl ?_
      refine j_get 52 C uX1 0 rfl rfl 9 (Nat.le_of_ble_eq_true rfl) lX1_33 (v := .ref (h 8)) rfl dX1_run_49 rfl ?_
      refine j_aload_n 53 C dX1_run_52 rfl 0 rfl ?_
      refine j_get 56 C uX1 0 rfl rfl 2 (Nat.le_of_ble_eq_true rfl) lX1_18 (v := .ref (h 3)) rfl dX1_run_53 rfl ?_
      refine j_iload 58 C dX1_run_56 rfl 4 rfl ?_
      obtain ⟨hi_9, hq⟩ := hq
      refine j_iald 59 C 3 (f := (f 2)) rfl hi_9 dX1_run_58 rfl ?_
      obtain ⟨hi_10, hq⟩ := hq
      refine j_iald 60 C 8 (f := (f 7)) rfl hi_10 dX1_run_59 rfl ?_
      refine j_callSi 63 C [] (wP G h f v) (fun _ _ => (wP G h f v)) (As := [.int ((f 0) (x4).toNatClampNeg), .int ((f 7) (((f 1) (x4).toNatClampNeg)).toNatClampNeg), .int ((f 7) (((f 2) (x4).toNatClampNeg)).toNatClampNeg)]) (m_X1_make G ((f 0) (x4).toNatClampNeg) ((f 7) (((f 1) (x4).toNatClampNeg)).toNatClampNeg) ((f 7) (((f 2) (x4).toNatClampNeg)).toNatClampNeg) hq) oX1_make kX1_50 ⟨rfl, rfl⟩ eX1_make ⟨Nat.le_of_ble_eq_true rfl, Nat.le_of_ble_eq_true rfl⟩ ⟨Nat.zero_le _, Nat.zero_le _⟩ rfl (fun _ _ => rfl) (fun _ _ => rfl) rfl (Nat.le_of_ble_eq_true rfl) dX1_run_60 rfl (fun r_11 _ _ hq => ?_)
      refine j_istore_n 64 C dX1_run_63 rfl (Nat.le_of_ble_eq_true rfl) [1, 2, 3, 0, 4] (lv' := [(0, .ref (h 0)), (1, .int x1), (2, .int x2), (3, .int r_11), (4, .int x4)]) rfl ?_
      refine j_aload_n 65 C dX1_run_64 rfl 0 rfl ?_
      refine j_get 68 C uX1 0 rfl rfl 9 (Nat.le_of_ble_eq_true rfl) lX1_33 (v := .ref (h 8)) rfl dX1_run_65 rfl ?_
      refine j_iload 70 C dX1_run_68 rfl 4 rfl ?_
      refine j_iload_n 71 C dX1_run_70 rfl 3 rfl ?_
      obtain ⟨hi_12, hq⟩ := hq
      obtain ⟨f_13, ef_13⟩ : ∃ y : FF, y = fu f 7 (wr (f 7) x4 r_11) := ⟨_, rfl⟩
      replace hq := hq f_13 ef_13
      refine j_iast 72 C 8 rfl hi_12 dX1_run_71 rfl (ws' := (wP G h f_13 v)) (by subst ef_13; rfl) ?_
      obtain ⟨x_14, ex_14⟩ : ∃ y : Int32, y = (x4 + (1 : Int32)) := ⟨_, rfl⟩
      replace hq := hq x_14 ex_14
      refine j_iinc 75 C dX1_run_72 rfl 4 rfl (v := x_14) (by rw [ex_14]; rfl) (Nat.le_of_ble_eq_true rfl) [1, 2, 3, 4, 0] (lv' := [(0, .ref (h 0)), (1, .int x1), (2, .int x2), (3, .int r_11), (4, .int x_14)]) rfl ?_
      refine j_goto 20 C dX1_run_75 rfl ?_
      refine J.l0 [0, 1, 2, 3, 4] rfl ?_
      exact ih _ _ _ _ hq
def Q_X1_run (p0 : Int32) (p1 : Int32) (f : FF) (v : VV) (post : Int32 → FF → VV → Prop) : Prop := ∀ f_2 : FF, f_2 = fu f 7 (wr (f 7) (5 : Int32) p0) → (∀ f_4 : FF, f_4 = fu f_2 7 (wr (f_2 7) (6 : Int32) p1) → (∃ n_15 : Nat, Q_X1_run_L20 p0 p1 (fun x_16 x_17 f_18 v_19 => (post x_16 f_18 v_19)) n_15 (0 : Int32) (0 : Int32) f_4 v))
set_option maxRecDepth 100000 in
set_option maxHeartbeats 4000000 in
theorem m_X1_run {l : Launch} (G : Gx) (h : Nat → Nat) (p0 : Int32) (p1 : Int32) (f : FF) (v : VV) {post : Int32 → FF → VV → Prop} (hq : Q_X1_run p0 p1 f v post) : MetI l yX1_run (gC yX1_run cX1_run 5 (some .int)) rmX1_run G [.ref (h 0), .int p0, .int p1] (wP G h) f v post := by
  refine met_i (own := RX1) (by decide) rfl (Nat.le_of_ble_eq_true rfl) (fun κ hκ C hR => ?_)
  unfold Q_X1_run at hq
  subst hκ
  show J κ 0 0 (wP G h f v) 0 [(0, .ref (h 0)), (1, .int p0), (2, .int p1)] []
  refine j_aload_n 1 C dX1_run_0 rfl 0 rfl ?_
  refine j_get 4 C uX1 0 rfl rfl 9 (Nat.le_of_ble_eq_true rfl) lX1_33 (v := .ref (h 8)) rfl dX1_run_1 rfl ?_
  refine j_iconst 5 C dX1_run_4 rfl ic_5 ?_
  refine j_iload_n 6 C dX1_run_5 rfl 1 rfl ?_
  obtain ⟨f_2, ef_2⟩ : ∃ y : FF, y = fu f 7 (wr (f 7) (5 : Int32) p0) := ⟨_, rfl⟩
  replace hq := hq f_2 ef_2
  refine j_iast 7 C 8 rfl (vp_in_iff.mpr (by decide)) dX1_run_6 rfl (ws' := (wP G h f_2 v)) (by subst ef_2; rfl) ?_
  refine j_aload_n 8 C dX1_run_7 rfl 0 rfl ?_
  refine j_get 11 C uX1 0 rfl rfl 9 (Nat.le_of_ble_eq_true rfl) lX1_33 (v := .ref (h 8)) rfl dX1_run_8 rfl ?_
  refine j_bipush 13 C dX1_run_11 rfl bc_6 ?_
  refine j_iload_n 14 C dX1_run_13 rfl 2 rfl ?_
  obtain ⟨f_4, ef_4⟩ : ∃ y : FF, y = fu f_2 7 (wr (f_2 7) (6 : Int32) p1) := ⟨_, rfl⟩
  replace hq := hq f_4 ef_4
  refine j_iast 15 C 8 rfl (vp_in_iff.mpr (by decide)) dX1_run_14 rfl (ws' := (wP G h f_4 v)) (by subst ef_4; rfl) ?_
  refine j_iconst 16 C dX1_run_15 rfl ic_0 ?_
  refine j_istore_n 17 C dX1_run_16 rfl (Nat.le_of_ble_eq_true rfl) [1, 2, 3, 0] (lv' := [(0, .ref (h 0)), (1, .int p0), (2, .int p1), (3, .int (0 : Int32))]) rfl ?_
  refine j_iconst 18 C dX1_run_17 rfl ic_0 ?_
  refine j_istore 20 C dX1_run_18 rfl (Nat.le_of_ble_eq_true rfl) [1, 2, 3, 4, 0] (lv' := [(0, .ref (h 0)), (1, .int p0), (2, .int p1), (3, .int (0 : Int32)), (4, .int (0 : Int32))]) rfl ?_
  obtain ⟨n_15, hq⟩ := hq
  refine t_X1_run_L20 C ?_ n_15 _ _ _ _ hq
  · intro x_16 x_17 f_18 v_19 hq
    refine j_iload_n 79 C dX1_run_78 rfl 3 rfl ?_
    exact hR _ _ _ f_18 v_19 dX1_run_79 hq
def Q_X1_runTest (p0 : Int32) (f : FF) (v : VV) (post : Int32 → FF → VV → Prop) : Prop := vp_in p0 7 ∧ (vp_in p0 7 ∧ (Q_X1_run ((f 5) (p0).toNatClampNeg) ((f 6) (p0).toNatClampNeg) f v (fun r_3 f_4 v_5 => (post r_3 f_4 v_5))))
set_option maxRecDepth 100000 in
set_option maxHeartbeats 4000000 in
theorem m_X1_runTest {l : Launch} (G : Gx) (h : Nat → Nat) (p0 : Int32) (f : FF) (v : VV) {post : Int32 → FF → VV → Prop} (hq : Q_X1_runTest p0 f v post) : MetI l yX1_runTest (gC yX1_runTest cX1_runTest 2 (some .int)) rmX1_runTest G [.ref (h 0), .int p0] (wP G h) f v post := by
  refine met_i (own := RX1) (by decide) rfl (Nat.le_of_ble_eq_true rfl) (fun κ hκ C hR => ?_)
  unfold Q_X1_runTest at hq
  subst hκ
  show J κ 0 0 (wP G h f v) 0 [(0, .ref (h 0)), (1, .int p0)] []
  refine j_aload_n 1 C dX1_runTest_0 rfl 0 rfl ?_
  refine j_aload_n 2 C dX1_runTest_1 rfl 0 rfl ?_
  refine j_get 5 C uX1 0 rfl rfl 6 (Nat.le_of_ble_eq_true rfl) lX1_27 (v := .ref (h 6)) rfl dX1_runTest_2 rfl ?_
  refine j_iload_n 6 C dX1_runTest_5 rfl 1 rfl ?_
  obtain ⟨hi_1, hq⟩ := hq
  refine j_iald 7 C 6 (f := (f 5)) rfl hi_1 dX1_runTest_6 rfl ?_
  refine j_aload_n 8 C dX1_runTest_7 rfl 0 rfl ?_
  refine j_get 11 C uX1 0 rfl rfl 7 (Nat.le_of_ble_eq_true rfl) lX1_30 (v := .ref (h 7)) rfl dX1_runTest_8 rfl ?_
  refine j_iload_n 12 C dX1_runTest_11 rfl 1 rfl ?_
  obtain ⟨hi_2, hq⟩ := hq
  refine j_iald 13 C 7 (f := (f 6)) rfl hi_2 dX1_runTest_12 rfl ?_
  refine j_callVi 16 C [] [] (fun f' v' => (wP G h f' v')) (As := [.int ((f 5) (p0).toNatClampNeg), .int ((f 6) (p0).toNatClampNeg)]) (m_X1_run G h ((f 5) (p0).toNatClampNeg) ((f 6) (p0).toNatClampNeg) f v hq) oX1_run kX1_54 ⟨rfl, rfl⟩ eX1_run ⟨Nat.le_of_ble_eq_true rfl, Nat.le_of_ble_eq_true rfl⟩ ⟨Nat.zero_le _, Nat.zero_le _⟩ (List.append_nil _).symm (fun _ _ => List.append_nil _) (fun _ _ => rfl) 0 rfl rfl rfl (Nat.le_of_ble_eq_true rfl) dX1_runTest_13 rfl (fun r_3 f_4 v_5 hq => ?_)
  exact hR _ _ _ f_4 v_5 dX1_runTest_16 hq
def Q_X1_allMutants (f : FF) (v : VV) (post : Int32 → Prop) : Prop := Q_X1_mutants  f v (fun r_1 => (post (((1 : Int32) <<< (r_1 &&& 31)) - (1 : Int32))))
set_option maxRecDepth 100000 in
set_option maxHeartbeats 4000000 in
theorem m_X1_allMutants {l : Launch} (G : Gx) (h : Nat → Nat) (f : FF) (v : VV) {post : Int32 → Prop} (hq : Q_X1_allMutants f v post) : MetI l yX1_allMutants (gC yX1_allMutants cX1_allMutants 1 (some .int)) rmX1_allMutants G [.ref (h 0)] (wP G h) f v (fun r f' v' => post r ∧ f' = f ∧ v' = v) := by
  refine met_i (own := RX1) (by decide) rfl (Nat.le_of_ble_eq_true rfl) (fun κ hκ C hR => ?_)
  unfold Q_X1_allMutants at hq
  subst hκ
  show J κ 0 0 (wP G h f v) 0 [(0, .ref (h 0))] []
  refine j_iconst 1 C dX1_allMutants_0 rfl ic_1 ?_
  refine j_aload_n 2 C dX1_allMutants_1 rfl 0 rfl ?_
  refine j_callVi_ro 5 C [] [] (As := []) (m_X1_mutants G h f v hq) oX1_mutants kX1_46 ⟨rfl, rfl⟩ eX1_mutants ⟨Nat.le_of_ble_eq_true rfl, Nat.le_of_ble_eq_true rfl⟩ ⟨Nat.zero_le _, Nat.zero_le _⟩ (List.append_nil _).symm (fun _ _ => rfl) 0 rfl rfl rfl (Nat.le_of_ble_eq_true rfl) dX1_allMutants_2 rfl (fun r_1 hq => ?_)
  refine j_ishl 6 C dX1_allMutants_5 rfl ?_
  refine j_iconst 7 C dX1_allMutants_6 rfl ic_1 ?_
  refine j_isub 8 C dX1_allMutants_7 rfl ?_
  exact hR _ _ _ f v dX1_allMutants_8 ⟨hq, rfl, rfl⟩
def Q_X1_stepOf (p0 : Int32) (f : FF) (v : VV) (post : Int32 → Prop) : Prop := post (p0 / (4 : Int32))
set_option maxRecDepth 100000 in
set_option maxHeartbeats 4000000 in
theorem m_X1_stepOf {l : Launch} (G : Gx) (h : Nat → Nat) (p0 : Int32) (f : FF) (v : VV) {post : Int32 → Prop} (hq : Q_X1_stepOf p0 f v post) : MetI l yX1_stepOf (gC yX1_stepOf cX1_stepOf 2 (some .int)) rmX1_stepOf G [.ref (h 0), .int p0] (wP G h) f v (fun r f' v' => post r ∧ f' = f ∧ v' = v) := by
  refine met_i (own := RX1) (by decide) rfl (Nat.le_of_ble_eq_true rfl) (fun κ hκ C hR => ?_)
  unfold Q_X1_stepOf at hq
  subst hκ
  show J κ 0 0 (wP G h f v) 0 [(0, .ref (h 0)), (1, .int p0)] []
  refine j_iload_n 1 C dX1_stepOf_0 rfl 1 rfl ?_
  refine j_iconst 2 C dX1_stepOf_1 rfl ic_4 ?_
  refine j_idiv 3 C dX1_stepOf_2 rfl (by decide) ?_
  exact hR _ _ _ f v dX1_stepOf_3 ⟨hq, rfl, rfl⟩
def Q_X1_otherWay (p0 : Int32) (f : FF) (v : VV) (post : Int32 → Prop) : Prop := ∀ x_1 : Int32, x_1 = (p0 - p0 / (4 : Int32) * (4 : Int32)) → (vp_in (p0 / (4 : Int32)) 5 ∧ (((((f 0) ((p0 / (4 : Int32))).toNatClampNeg) ≤ x_1 → (post (x_1 + (1 : Int32)))) ∧ (¬ ((f 0) ((p0 / (4 : Int32))).toNatClampNeg) ≤ x_1 → (post x_1)))))
set_option maxRecDepth 100000 in
set_option maxHeartbeats 4000000 in
theorem m_X1_otherWay {l : Launch} (G : Gx) (h : Nat → Nat) (p0 : Int32) (f : FF) (v : VV) {post : Int32 → Prop} (hq : Q_X1_otherWay p0 f v post) : MetI l yX1_otherWay (gC yX1_otherWay cX1_otherWay 3 (some .int)) rmX1_otherWay G [.ref (h 0), .int p0] (wP G h) f v (fun r f' v' => post r ∧ f' = f ∧ v' = v) := by
  refine met_i (own := RX1) (by decide) rfl (Nat.le_of_ble_eq_true rfl) (fun κ hκ C hR => ?_)
  unfold Q_X1_otherWay at hq
  subst hκ
  show J κ 0 0 (wP G h f v) 0 [(0, .ref (h 0)), (1, .int p0)] []
  refine j_iload_n 1 C dX1_otherWay_0 rfl 1 rfl ?_
  refine j_iconst 2 C dX1_otherWay_1 rfl ic_4 ?_
  refine j_irem 3 C dX1_otherWay_2 rfl (by decide) ?_
  refine J.topi (fun x_1 ex_1 => ?_)
  replace hq := hq x_1 ex_1
  refine j_istore_n 4 C dX1_otherWay_3 rfl (Nat.le_of_ble_eq_true rfl) [1, 2, 0] (lv' := [(0, .ref (h 0)), (1, .int p0), (2, .int x_1)]) rfl ?_
  refine j_iload_n 5 C dX1_otherWay_4 rfl 2 rfl ?_
  refine j_aload_n 6 C dX1_otherWay_5 rfl 0 rfl ?_
  refine j_get 9 C uX1 0 rfl rfl 0 (Nat.le_of_ble_eq_true rfl) lX1_9 (v := .ref (h 1)) rfl dX1_otherWay_6 rfl ?_
  refine j_iload_n 10 C dX1_otherWay_9 rfl 1 rfl ?_
  refine j_iconst 11 C dX1_otherWay_10 rfl ic_4 ?_
  refine j_idiv 12 C dX1_otherWay_11 rfl (by decide) ?_
  obtain ⟨hi_2, hq⟩ := hq
  refine j_iald 13 C 1 (f := (f 0)) rfl hi_2 dX1_otherWay_12 rfl ?_
  refine j_icmp_ge 16 20 C dX1_otherWay_13 rfl rfl (fun c_3 => ?_) (fun c_3 => ?_)
  · replace hq := hq.1 c_3
    refine j_iload_n 21 C dX1_otherWay_20 rfl 2 rfl ?_
    refine j_iconst 22 C dX1_otherWay_21 rfl ic_1 ?_
    refine j_iadd 23 C dX1_otherWay_22 rfl ?_
    exact hR _ _ _ f v dX1_otherWay_23 ⟨hq, rfl, rfl⟩
  · replace hq := hq.2 c_3
    refine j_iload_n 17 C dX1_otherWay_16 rfl 2 rfl ?_
    refine j_goto 23 C dX1_otherWay_17 rfl ?_
    exact hR _ _ _ f v dX1_otherWay_23 ⟨hq, rfl, rfl⟩
def Q_X1_effect_L84 (x1 : Int32) (x2 : Int32) (K151 : Int32 → Int32 → Int32 → FF → VV → Prop) : Nat → Int32 → Int32 → Int32 → FF → VV → Prop
  | 0, _, _, _, _, _ => False
  | n + 1, x3, x4, x5, f, v => (((v 0) ≤ x5 → (K151 x3 x4 x5 f v)) ∧ (¬ (v 0) ≤ x5 → (vp_in x5 5 ∧ (vp_in x5 5 ∧ (vp_in ((f 1) (x5).toNatClampNeg) 7 ∧ (vp_in x5 5 ∧ (vp_in ((f 2) (x5).toNatClampNeg) 7 ∧ (Q_X1_make ((f 0) (x5).toNatClampNeg) ((f 8) (((f 1) (x5).toNatClampNeg)).toNatClampNeg) ((f 8) (((f 2) (x5).toNatClampNeg)).toNatClampNeg) (fun r_27 => (vp_in x5 7 ∧ (∀ f_29 : FF, f_29 = fu f 8 (wr (f 8) x5 r_27) → (vp_in x5 7 ∧ (∀ x_31 : Int32, x_31 = ((f_29 7) (x5).toNatClampNeg) → (∀ x_32 : Int32, x_32 = (x5 + (1 : Int32)) → (Q_X1_effect_L84 x1 x2 K151 n r_27 x_31 x_32 f_29 v)))))))))))))))
set_option maxRecDepth 100000 in
set_option maxHeartbeats 4000000 in
theorem t_X1_effect_L84 {κ : Kx} {G : Gx} {h : Nat → Nat} (C : Cx κ G RX1 cX1_effect rmX1_effect 6) {x1 : Int32} {x2 : Int32} {K151 : Int32 → Int32 → Int32 → FF → VV → Prop} (hK151 : ∀ (x3 : Int32) (x4 : Int32) (x5 : Int32) (f : FF) (v : VV), K151 x3 x4 x5 f v → J κ 0 0 (wP G h f v) 151 [(0, .ref (h 0)), (1, .int x1), (2, .int x2), (3, .int x3), (4, .int x4), (5, .int x5)] []) : ∀ (n : Nat) (x3 : Int32) (x4 : Int32) (x5 : Int32) (f : FF) (v : VV), Q_X1_effect_L84 x1 x2 K151 n x3 x4 x5 f v → J κ 0 0 (wP G h f v) 84 [(0, .ref (h 0)), (1, .int x1), (2, .int x2), (3, .int x3), (4, .int x4), (5, .int x5)] [] := by
  intro n
  induction n with
  | zero => intro x3 x4 x5 f v hq; exact False.elim hq
  | succ n ih =>
    intro x3 x4 x5 f v hq
    rw [Q_X1_effect_L84] at hq
    refine j_iload 86 C dX1_effect_84 rfl 5 rfl ?_
    refine j_aload_n 87 C dX1_effect_86 rfl 0 rfl ?_
    refine j_get 90 C uX1 0 rfl rfl 3 (Nat.le_of_ble_eq_true rfl) lX1_39 (v := .int (v 0)) rfl dX1_effect_87 rfl ?_
    refine j_icmp_ge 93 151 C dX1_effect_90 rfl rfl (fun c_21 => ?_) (fun c_21 => ?_)
    · replace hq := hq.1 c_21
      refine J.l0 [0, 1, 2, 3, 4, 5] rfl ?_
      exact hK151 _ _ _ _ _ hq
    · replace hq := hq.2 c_21
      refine j_aload_n 94 C dX1_effect_93 rfl 0 rfl ?_
      refine j_get 97 C uX1 0 rfl rfl 0 (Nat.le_of_ble_eq_true rfl) lX1_9 (v := .ref (h 1)) rfl dX1_effect_94 rfl ?_
      refine j_iload 99 C dX1_effect_97 rfl 5 rfl ?_
      obtain ⟨hi_22, hq⟩ := hq
      refine j_iald 100 C 1 (f := (f 0)) rfl hi_22 dX1_effect_99 rfl ?_
      refine j_aload_n 101 C dX1_effect_100 rfl 0 rfl ?_
      refine j_get 104 C uX1 0 rfl rfl 10 (Nat.le_of_ble_eq_true rfl) lX1_36 (v := .ref (h 9)) rfl dX1_effect_101 rfl ?_
      refine j_aload_n 105 C dX1_effect_104 rfl 0 rfl ?_
      refine j_get 108 C uX1 0 rfl rfl 1 (Nat.le_of_ble_eq_true rfl) lX1_15 (v := .ref (h 2)) rfl dX1_effect_105 rfl ?_
      refine j_iload 110 C dX1_effect_108 rfl 5 rfl ?_
      obtain ⟨hi_23, hq⟩ := hq
      refine j_iald 111 C 2 (f := (f 1)) rfl hi_23 dX1_effect_110 rfl ?_
      obtain ⟨hi_24, hq⟩ := hq
      refine j_iald 112 C 9 (f := (f 8)) rfl hi_24 dX1_effect_111 rfl ?_
      refine j_aload_n 113 C dX1_effect_112 rfl 0 rfl ?_
      refine j_get 116 C uX1 0 rfl rfl 10 (Nat.le_of_ble_eq_true rfl) lX1_36 (v := .ref (h 9)) rfl dX1_effect_113 rfl ?_
      refine j_aload_n 117 C dX1_effect_116 rfl 0 rfl ?_
      refine j_get 120 C uX1 0 rfl rfl 2 (Nat.le_of_ble_eq_true rfl) lX1_18 (v := .ref (h 3)) rfl dX1_effect_117 rfl ?_
      refine j_iload 122 C dX1_effect_120 rfl 5 rfl ?_
      obtain ⟨hi_25, hq⟩ := hq
      refine j_iald 123 C 3 (f := (f 2)) rfl hi_25 dX1_effect_122 rfl ?_
      obtain ⟨hi_26, hq⟩ := hq
      refine j_iald 124 C 9 (f := (f 8)) rfl hi_26 dX1_effect_123 rfl ?_
      refine j_callSi 127 C [] (wP G h f v) (fun _ _ => (wP G h f v)) (As := [.int ((f 0) (x5).toNatClampNeg), .int ((f 8) (((f 1) (x5).toNatClampNeg)).toNatClampNeg), .int ((f 8) (((f 2) (x5).toNatClampNeg)).toNatClampNeg)]) (m_X1_make G ((f 0) (x5).toNatClampNeg) ((f 8) (((f 1) (x5).toNatClampNeg)).toNatClampNeg) ((f 8) (((f 2) (x5).toNatClampNeg)).toNatClampNeg) hq) oX1_make kX1_50 ⟨rfl, rfl⟩ eX1_make ⟨Nat.le_of_ble_eq_true rfl, Nat.le_of_ble_eq_true rfl⟩ ⟨Nat.zero_le _, Nat.zero_le _⟩ rfl (fun _ _ => rfl) (fun _ _ => rfl) rfl (Nat.le_of_ble_eq_true rfl) dX1_effect_124 rfl (fun r_27 _ _ hq => ?_)
      refine j_istore_n 128 C dX1_effect_127 rfl (Nat.le_of_ble_eq_true rfl) [1, 2, 3, 0, 4, 5] (lv' := [(0, .ref (h 0)), (1, .int x1), (2, .int x2), (3, .int r_27), (4, .int x4), (5, .int x5)]) rfl ?_
      refine j_aload_n 129 C dX1_effect_128 rfl 0 rfl ?_
      refine j_get 132 C uX1 0 rfl rfl 10 (Nat.le_of_ble_eq_true rfl) lX1_36 (v := .ref (h 9)) rfl dX1_effect_129 rfl ?_
      refine j_iload 134 C dX1_effect_132 rfl 5 rfl ?_
      refine j_iload_n 135 C dX1_effect_134 rfl 3 rfl ?_
      obtain ⟨hi_28, hq⟩ := hq
      obtain ⟨f_29, ef_29⟩ : ∃ y : FF, y = fu f 8 (wr (f 8) x5 r_27) := ⟨_, rfl⟩
      replace hq := hq f_29 ef_29
      refine j_iast 136 C 9 rfl hi_28 dX1_effect_135 rfl (ws' := (wP G h f_29 v)) (by subst ef_29; rfl) ?_
      refine j_aload_n 137 C dX1_effect_136 rfl 0 rfl ?_
      refine j_get 140 C uX1 0 rfl rfl 9 (Nat.le_of_ble_eq_true rfl) lX1_33 (v := .ref (h 8)) rfl dX1_effect_137 rfl ?_
      refine j_iload 142 C dX1_effect_140 rfl 5 rfl ?_
      obtain ⟨hi_30, hq⟩ := hq
      refine j_iald 143 C 8 (f := (f_29 7)) rfl hi_30 dX1_effect_142 rfl ?_
      refine J.topi (fun x_31 ex_31 => ?_)
      replace hq := hq x_31 ex_31
      refine j_istore 145 C dX1_effect_143 rfl (Nat.le_of_ble_eq_true rfl) [1, 2, 3, 4, 0, 5] (lv' := [(0, .ref (h 0)), (1, .int x1), (2, .int x2), (3, .int r_27), (4, .int x_31), (5, .int x5)]) rfl ?_
      obtain ⟨x_32, ex_32⟩ : ∃ y : Int32, y = (x5 + (1 : Int32)) := ⟨_, rfl⟩
      replace hq := hq x_32 ex_32
      refine j_iinc 148 C dX1_effect_145 rfl 5 rfl (v := x_32) (by rw [ex_32]; rfl) (Nat.le_of_ble_eq_true rfl) [1, 2, 3, 4, 5, 0] (lv' := [(0, .ref (h 0)), (1, .int x1), (2, .int x2), (3, .int r_27), (4, .int x_31), (5, .int x_32)]) rfl ?_
      refine j_goto 84 C dX1_effect_148 rfl ?_
      refine J.l0 [0, 1, 2, 3, 4, 5] rfl ?_
      exact ih _ _ _ _ _ hq
def Q_X1_effect (p0 : Int32) (f : FF) (v : VV) (post : Int32 → FF → VV → Prop) : Prop := Q_X1_stepOf p0 f v (fun r_1 => (Q_X1_otherWay p0 f v (fun r_2 => (vp_in r_1 5 ∧ (vp_in ((f 1) (r_1).toNatClampNeg) 7 ∧ (vp_in r_1 5 ∧ (vp_in ((f 2) (r_1).toNatClampNeg) 7 ∧ (Q_X1_make r_2 ((f 7) (((f 1) (r_1).toNatClampNeg)).toNatClampNeg) ((f 7) (((f 2) (r_1).toNatClampNeg)).toNatClampNeg) (fun r_7 => (vp_in r_1 7 ∧ (((¬ r_7 = ((f 7) (r_1).toNatClampNeg) → (¬ (0 : Int32) < 0 ∧ ¬ (0 : Int32) < 0 ∧ ¬ (7 : Int32) < 0 ∧ ((0 : Int32)).toNatClampNeg + ((7 : Int32)).toNatClampNeg ≤ 7 ∧ ((0 : Int32)).toNatClampNeg + ((7 : Int32)).toNatClampNeg ≤ 7 ∧ (∀ f_15 : FF, f_15 = fu f 8 (va_cpy (f 7) (f 8) ((0 : Int32)).toNatClampNeg ((0 : Int32)).toNatClampNeg ((7 : Int32)).toNatClampNeg) → (vp_in r_1 7 ∧ (∀ f_17 : FF, f_17 = fu f_15 8 (wr (f_15 8) r_1 r_7) → (vp_in r_1 7 ∧ (∀ x_19 : Int32, x_19 = ((f_17 7) (r_1).toNatClampNeg) → (∀ x_20 : Int32, x_20 = (r_1 + (1 : Int32)) → (∃ n_33 : Nat, Q_X1_effect_L84 p0 r_1 (fun x_34 x_35 x_36 f_37 v_38 => (((¬ x_34 = x_35 → (post (2 : Int32) f_37 v_38)) ∧ (x_34 = x_35 → (post (1 : Int32) f_37 v_38))))) n_33 r_7 x_19 x_20 f_17 v))))))))) ∧ (r_7 = ((f 7) (r_1).toNatClampNeg) → (post (0 : Int32) f v))))))))))))))
set_option maxRecDepth 100000 in
set_option maxHeartbeats 4000000 in
theorem m_X1_effect {l : Launch} (G : Gx) (h : Nat → Nat) (p0 : Int32) (f : FF) (v : VV) {post : Int32 → FF → VV → Prop} (hq : Q_X1_effect p0 f v post) : MetI l yX1_effect (gC yX1_effect cX1_effect 6 (some .int)) rmX1_effect G [.ref (h 0), .int p0] (wP G h) f v post := by
  refine met_i (own := RX1) (by decide) rfl (Nat.le_of_ble_eq_true rfl) (fun κ hκ C hR => ?_)
  unfold Q_X1_effect at hq
  subst hκ
  show J κ 0 0 (wP G h f v) 0 [(0, .ref (h 0)), (1, .int p0)] []
  refine j_aload_n 1 C dX1_effect_0 rfl 0 rfl ?_
  refine j_iload_n 2 C dX1_effect_1 rfl 1 rfl ?_
  refine j_callVi_ro 5 C [] [] (As := [.int p0]) (m_X1_stepOf G h p0 f v hq) oX1_stepOf kX1_58 ⟨rfl, rfl⟩ eX1_stepOf ⟨Nat.le_of_ble_eq_true rfl, Nat.le_of_ble_eq_true rfl⟩ ⟨Nat.zero_le _, Nat.zero_le _⟩ (List.append_nil _).symm (fun _ _ => rfl) 0 rfl rfl rfl (Nat.le_of_ble_eq_true rfl) dX1_effect_2 rfl (fun r_1 hq => ?_)
  refine j_istore_n 6 C dX1_effect_5 rfl (Nat.le_of_ble_eq_true rfl) [1, 2, 0] (lv' := [(0, .ref (h 0)), (1, .int p0), (2, .int r_1)]) rfl ?_
  refine j_aload_n 7 C dX1_effect_6 rfl 0 rfl ?_
  refine j_iload_n 8 C dX1_effect_7 rfl 1 rfl ?_
  refine j_callVi_ro 11 C [] [] (As := [.int p0]) (m_X1_otherWay G h p0 f v hq) oX1_otherWay kX1_62 ⟨rfl, rfl⟩ eX1_otherWay ⟨Nat.le_of_ble_eq_true rfl, Nat.le_of_ble_eq_true rfl⟩ ⟨Nat.zero_le _, Nat.zero_le _⟩ (List.append_nil _).symm (fun _ _ => rfl) 0 rfl rfl rfl (Nat.le_of_ble_eq_true rfl) dX1_effect_8 rfl (fun r_2 hq => ?_)
  refine j_aload_n 12 C dX1_effect_11 rfl 0 rfl ?_
  refine j_get 15 C uX1 0 rfl rfl 9 (Nat.le_of_ble_eq_true rfl) lX1_33 (v := .ref (h 8)) rfl dX1_effect_12 rfl ?_
  refine j_aload_n 16 C dX1_effect_15 rfl 0 rfl ?_
  refine j_get 19 C uX1 0 rfl rfl 1 (Nat.le_of_ble_eq_true rfl) lX1_15 (v := .ref (h 2)) rfl dX1_effect_16 rfl ?_
  refine j_iload_n 20 C dX1_effect_19 rfl 2 rfl ?_
  obtain ⟨hi_3, hq⟩ := hq
  refine j_iald 21 C 2 (f := (f 1)) rfl hi_3 dX1_effect_20 rfl ?_
  obtain ⟨hi_4, hq⟩ := hq
  refine j_iald 22 C 8 (f := (f 7)) rfl hi_4 dX1_effect_21 rfl ?_
  refine j_aload_n 23 C dX1_effect_22 rfl 0 rfl ?_
  refine j_get 26 C uX1 0 rfl rfl 9 (Nat.le_of_ble_eq_true rfl) lX1_33 (v := .ref (h 8)) rfl dX1_effect_23 rfl ?_
  refine j_aload_n 27 C dX1_effect_26 rfl 0 rfl ?_
  refine j_get 30 C uX1 0 rfl rfl 2 (Nat.le_of_ble_eq_true rfl) lX1_18 (v := .ref (h 3)) rfl dX1_effect_27 rfl ?_
  refine j_iload_n 31 C dX1_effect_30 rfl 2 rfl ?_
  obtain ⟨hi_5, hq⟩ := hq
  refine j_iald 32 C 3 (f := (f 2)) rfl hi_5 dX1_effect_31 rfl ?_
  obtain ⟨hi_6, hq⟩ := hq
  refine j_iald 33 C 8 (f := (f 7)) rfl hi_6 dX1_effect_32 rfl ?_
  refine j_callSi 36 C [] (wP G h f v) (fun _ _ => (wP G h f v)) (As := [.int r_2, .int ((f 7) (((f 1) (r_1).toNatClampNeg)).toNatClampNeg), .int ((f 7) (((f 2) (r_1).toNatClampNeg)).toNatClampNeg)]) (m_X1_make G r_2 ((f 7) (((f 1) (r_1).toNatClampNeg)).toNatClampNeg) ((f 7) (((f 2) (r_1).toNatClampNeg)).toNatClampNeg) hq) oX1_make kX1_50 ⟨rfl, rfl⟩ eX1_make ⟨Nat.le_of_ble_eq_true rfl, Nat.le_of_ble_eq_true rfl⟩ ⟨Nat.zero_le _, Nat.zero_le _⟩ rfl (fun _ _ => rfl) (fun _ _ => rfl) rfl (Nat.le_of_ble_eq_true rfl) dX1_effect_33 rfl (fun r_7 _ _ hq => ?_)
  refine j_istore_n 37 C dX1_effect_36 rfl (Nat.le_of_ble_eq_true rfl) [1, 2, 3, 0] (lv' := [(0, .ref (h 0)), (1, .int p0), (2, .int r_1), (3, .int r_7)]) rfl ?_
  refine j_iload_n 38 C dX1_effect_37 rfl 3 rfl ?_
  refine j_aload_n 39 C dX1_effect_38 rfl 0 rfl ?_
  refine j_get 42 C uX1 0 rfl rfl 9 (Nat.le_of_ble_eq_true rfl) lX1_33 (v := .ref (h 8)) rfl dX1_effect_39 rfl ?_
  refine j_iload_n 43 C dX1_effect_42 rfl 2 rfl ?_
  obtain ⟨hi_8, hq⟩ := hq
  refine j_iald 44 C 8 (f := (f 7)) rfl hi_8 dX1_effect_43 rfl ?_
  refine j_icmp_ne 47 49 C dX1_effect_44 rfl rfl (fun c_9 => ?_) (fun c_9 => ?_)
  · replace hq := hq.1 c_9
    refine j_aload_n 50 C dX1_effect_49 rfl 0 rfl ?_
    refine j_get 53 C uX1 0 rfl rfl 9 (Nat.le_of_ble_eq_true rfl) lX1_33 (v := .ref (h 8)) rfl dX1_effect_50 rfl ?_
    refine j_iconst 54 C dX1_effect_53 rfl ic_0 ?_
    refine j_aload_n 55 C dX1_effect_54 rfl 0 rfl ?_
    refine j_get 58 C uX1 0 rfl rfl 10 (Nat.le_of_ble_eq_true rfl) lX1_36 (v := .ref (h 9)) rfl dX1_effect_55 rfl ?_
    refine j_iconst 59 C dX1_effect_58 rfl ic_0 ?_
    refine j_bipush 61 C dX1_effect_59 rfl bc_7 ?_
    obtain ⟨ha_10, ha_11, ha_12, ha_13, ha_14, hq⟩ := hq
    obtain ⟨f_15, ef_15⟩ : ∃ y : FF, y = fu f 8 (va_cpy (f 7) (f 8) ((0 : Int32)).toNatClampNeg ((0 : Int32)).toNatClampNeg ((7 : Int32)).toNatClampNeg) := ⟨_, rfl⟩
    replace hq := hq f_15 ef_15
    refine j_copy 64 C kX1_65 8 9 rfl rfl ha_10 ha_11 ha_12 ha_13 ha_14 (Nat.le_of_ble_eq_true rfl) (by decide) dX1_effect_61 rfl (ws' := (wP G h f_15 v)) (by subst ef_15; rfl) ?_
    refine j_aload_n 65 C dX1_effect_64 rfl 0 rfl ?_
    refine j_get 68 C uX1 0 rfl rfl 10 (Nat.le_of_ble_eq_true rfl) lX1_36 (v := .ref (h 9)) rfl dX1_effect_65 rfl ?_
    refine j_iload_n 69 C dX1_effect_68 rfl 2 rfl ?_
    refine j_iload_n 70 C dX1_effect_69 rfl 3 rfl ?_
    obtain ⟨hi_16, hq⟩ := hq
    obtain ⟨f_17, ef_17⟩ : ∃ y : FF, y = fu f_15 8 (wr (f_15 8) r_1 r_7) := ⟨_, rfl⟩
    replace hq := hq f_17 ef_17
    refine j_iast 71 C 9 rfl hi_16 dX1_effect_70 rfl (ws' := (wP G h f_17 v)) (by subst ef_17; rfl) ?_
    refine j_aload_n 72 C dX1_effect_71 rfl 0 rfl ?_
    refine j_get 75 C uX1 0 rfl rfl 9 (Nat.le_of_ble_eq_true rfl) lX1_33 (v := .ref (h 8)) rfl dX1_effect_72 rfl ?_
    refine j_iload_n 76 C dX1_effect_75 rfl 2 rfl ?_
    obtain ⟨hi_18, hq⟩ := hq
    refine j_iald 77 C 8 (f := (f_17 7)) rfl hi_18 dX1_effect_76 rfl ?_
    refine J.topi (fun x_19 ex_19 => ?_)
    replace hq := hq x_19 ex_19
    refine j_istore 79 C dX1_effect_77 rfl (Nat.le_of_ble_eq_true rfl) [1, 2, 3, 4, 0] (lv' := [(0, .ref (h 0)), (1, .int p0), (2, .int r_1), (3, .int r_7), (4, .int x_19)]) rfl ?_
    refine j_iload_n 80 C dX1_effect_79 rfl 2 rfl ?_
    refine j_iconst 81 C dX1_effect_80 rfl ic_1 ?_
    refine j_iadd 82 C dX1_effect_81 rfl ?_
    refine J.topi (fun x_20 ex_20 => ?_)
    replace hq := hq x_20 ex_20
    refine j_istore 84 C dX1_effect_82 rfl (Nat.le_of_ble_eq_true rfl) [1, 2, 3, 4, 5, 0] (lv' := [(0, .ref (h 0)), (1, .int p0), (2, .int r_1), (3, .int r_7), (4, .int x_19), (5, .int x_20)]) rfl ?_
    obtain ⟨n_33, hq⟩ := hq
    refine t_X1_effect_L84 C ?_ n_33 _ _ _ _ _ hq
    · intro x_34 x_35 x_36 f_37 v_38 hq
      refine j_iload_n 152 C dX1_effect_151 rfl 3 rfl ?_
      refine j_iload 154 C dX1_effect_152 rfl 4 rfl ?_
      refine j_icmp_ne 157 161 C dX1_effect_154 rfl rfl (fun c_39 => ?_) (fun c_39 => ?_)
      · replace hq := hq.1 c_39
        refine j_iconst 162 C dX1_effect_161 rfl ic_2 ?_
        exact hR _ _ _ f_37 v_38 dX1_effect_162 hq
      · replace hq := hq.2 c_39
        refine j_iconst 158 C dX1_effect_157 rfl ic_1 ?_
        refine j_goto 162 C dX1_effect_158 rfl ?_
        exact hR _ _ _ f_37 v_38 dX1_effect_162 hq
  · replace hq := hq.2 c_9
    refine j_iconst 48 C dX1_effect_47 rfl ic_0 ?_
    exact hR _ _ _ f v dX1_effect_48 hq
def Q_X1_killedAmong_L4 (x1 : Int32) (K41 : Int32 → Int32 → FF → VV → Prop) : Nat → Int32 → Int32 → FF → VV → Prop
  | 0, _, _, _, _ => False
  | n + 1, x2, x3, f, v => Q_X1_mutants  f v (fun r_1 => (((r_1 ≤ x3 → (K41 x2 x3 f v)) ∧ (¬ r_1 ≤ x3 → (((((x1 >>> (x3 &&& 31)) &&& (1 : Int32)) = 0 → (∀ x_4 : Int32, x_4 = (x3 + (1 : Int32)) → (Q_X1_killedAmong_L4 x1 K41 n x2 x_4 f v))) ∧ (¬ ((x1 >>> (x3 &&& 31)) &&& (1 : Int32)) = 0 → (Q_X1_effect x3 f v (fun r_5 f_6 v_7 => (((¬ r_5 = (2 : Int32) → (∀ x_9 : Int32, x_9 = (x3 + (1 : Int32)) → (Q_X1_killedAmong_L4 x1 K41 n x2 x_9 f_6 v_7))) ∧ (r_5 = (2 : Int32) → (∀ x_10 : Int32, x_10 = (x2 ||| ((1 : Int32) <<< (x3 &&& 31))) → (∀ x_11 : Int32, x_11 = (x3 + (1 : Int32)) → (Q_X1_killedAmong_L4 x1 K41 n x_10 x_11 f_6 v_7)))))))))))))))
set_option maxRecDepth 100000 in
set_option maxHeartbeats 4000000 in
theorem t_X1_killedAmong_L4 {κ : Kx} {G : Gx} {h : Nat → Nat} (C : Cx κ G RX1 cX1_killedAmong rmX1_killedAmong 4) {x1 : Int32} {K41 : Int32 → Int32 → FF → VV → Prop} (hK41 : ∀ (x2 : Int32) (x3 : Int32) (f : FF) (v : VV), K41 x2 x3 f v → J κ 0 0 (wP G h f v) 41 [(0, .ref (h 0)), (1, .int x1), (2, .int x2), (3, .int x3)] []) : ∀ (n : Nat) (x2 : Int32) (x3 : Int32) (f : FF) (v : VV), Q_X1_killedAmong_L4 x1 K41 n x2 x3 f v → J κ 0 0 (wP G h f v) 4 [(0, .ref (h 0)), (1, .int x1), (2, .int x2), (3, .int x3)] [] := by
  intro n
  induction n with
  | zero => intro x2 x3 f v hq; exact False.elim hq
  | succ n ih =>
    intro x2 x3 f v hq
    rw [Q_X1_killedAmong_L4] at hq
    refine j_iload_n 5 C dX1_killedAmong_4 rfl 3 rfl ?_
    refine j_aload_n 6 C dX1_killedAmong_5 rfl 0 rfl ?_
    refine j_callVi_ro 9 C [] [] (As := []) (m_X1_mutants G h f v hq) oX1_mutants kX1_46 ⟨rfl, rfl⟩ eX1_mutants ⟨Nat.le_of_ble_eq_true rfl, Nat.le_of_ble_eq_true rfl⟩ ⟨Nat.zero_le _, Nat.zero_le _⟩ (List.append_nil _).symm (fun _ _ => rfl) 0 rfl rfl rfl (Nat.le_of_ble_eq_true rfl) dX1_killedAmong_6 rfl (fun r_1 hq => ?_)
    refine j_icmp_ge 12 41 C dX1_killedAmong_9 rfl rfl (fun c_2 => ?_) (fun c_2 => ?_)
    · replace hq := hq.1 c_2
      refine J.l0 [0, 1, 2, 3] rfl ?_
      exact hK41 _ _ _ _ hq
    · replace hq := hq.2 c_2
      refine j_iload_n 13 C dX1_killedAmong_12 rfl 1 rfl ?_
      refine j_iload_n 14 C dX1_killedAmong_13 rfl 3 rfl ?_
      refine j_ishr 15 C dX1_killedAmong_14 rfl ?_
      refine j_iconst 16 C dX1_killedAmong_15 rfl ic_1 ?_
      refine j_iand 17 C dX1_killedAmong_16 rfl ?_
      refine j_if_eq 20 35 C dX1_killedAmong_17 rfl rfl (fun c_3 => ?_) (fun c_3 => ?_)
      · replace hq := hq.1 c_3
        obtain ⟨x_4, ex_4⟩ : ∃ y : Int32, y = (x3 + (1 : Int32)) := ⟨_, rfl⟩
        replace hq := hq x_4 ex_4
        refine j_iinc 38 C dX1_killedAmong_35 rfl 3 rfl (v := x_4) (by rw [ex_4]; rfl) (Nat.le_of_ble_eq_true rfl) [1, 2, 3, 0] (lv' := [(0, .ref (h 0)), (1, .int x1), (2, .int x2), (3, .int x_4)]) rfl ?_
        refine j_goto 4 C dX1_killedAmong_38 rfl ?_
        refine J.l0 [0, 1, 2, 3] rfl ?_
        exact ih _ _ _ _ hq
      · replace hq := hq.2 c_3
        refine j_aload_n 21 C dX1_killedAmong_20 rfl 0 rfl ?_
        refine j_iload_n 22 C dX1_killedAmong_21 rfl 3 rfl ?_
        refine j_callVi 25 C [] [] (fun f' v' => (wP G h f' v')) (As := [.int x3]) (m_X1_effect G h x3 f v hq) oX1_effect kX1_71 ⟨rfl, rfl⟩ eX1_effect ⟨Nat.le_of_ble_eq_true rfl, Nat.le_of_ble_eq_true rfl⟩ ⟨Nat.zero_le _, Nat.zero_le _⟩ (List.append_nil _).symm (fun _ _ => List.append_nil _) (fun _ _ => rfl) 0 rfl rfl rfl (Nat.le_of_ble_eq_true rfl) dX1_killedAmong_22 rfl (fun r_5 f_6 v_7 hq => ?_)
        refine j_iconst 26 C dX1_killedAmong_25 rfl ic_2 ?_
        refine j_icmp_ne 29 35 C dX1_killedAmong_26 rfl rfl (fun c_8 => ?_) (fun c_8 => ?_)
        · replace hq := hq.1 c_8
          obtain ⟨x_9, ex_9⟩ : ∃ y : Int32, y = (x3 + (1 : Int32)) := ⟨_, rfl⟩
          replace hq := hq x_9 ex_9
          refine j_iinc 38 C dX1_killedAmong_35 rfl 3 rfl (v := x_9) (by rw [ex_9]; rfl) (Nat.le_of_ble_eq_true rfl) [1, 2, 3, 0] (lv' := [(0, .ref (h 0)), (1, .int x1), (2, .int x2), (3, .int x_9)]) rfl ?_
          refine j_goto 4 C dX1_killedAmong_38 rfl ?_
          refine J.l0 [0, 1, 2, 3] rfl ?_
          exact ih _ _ _ _ hq
        · replace hq := hq.2 c_8
          refine j_iload_n 30 C dX1_killedAmong_29 rfl 2 rfl ?_
          refine j_iconst 31 C dX1_killedAmong_30 rfl ic_1 ?_
          refine j_iload_n 32 C dX1_killedAmong_31 rfl 3 rfl ?_
          refine j_ishl 33 C dX1_killedAmong_32 rfl ?_
          refine j_ior 34 C dX1_killedAmong_33 rfl ?_
          refine J.topi (fun x_10 ex_10 => ?_)
          replace hq := hq x_10 ex_10
          refine j_istore_n 35 C dX1_killedAmong_34 rfl (Nat.le_of_ble_eq_true rfl) [1, 2, 0, 3] (lv' := [(0, .ref (h 0)), (1, .int x1), (2, .int x_10), (3, .int x3)]) rfl ?_
          obtain ⟨x_11, ex_11⟩ : ∃ y : Int32, y = (x3 + (1 : Int32)) := ⟨_, rfl⟩
          replace hq := hq x_11 ex_11
          refine j_iinc 38 C dX1_killedAmong_35 rfl 3 rfl (v := x_11) (by rw [ex_11]; rfl) (Nat.le_of_ble_eq_true rfl) [1, 2, 3, 0] (lv' := [(0, .ref (h 0)), (1, .int x1), (2, .int x_10), (3, .int x_11)]) rfl ?_
          refine j_goto 4 C dX1_killedAmong_38 rfl ?_
          refine J.l0 [0, 1, 2, 3] rfl ?_
          exact ih _ _ _ _ hq
def Q_X1_killedAmong (p0 : Int32) (f : FF) (v : VV) (post : Int32 → FF → VV → Prop) : Prop := ∃ n_12 : Nat, Q_X1_killedAmong_L4 p0 (fun x_13 x_14 f_15 v_16 => (post x_13 f_15 v_16)) n_12 (0 : Int32) (0 : Int32) f v
set_option maxRecDepth 100000 in
set_option maxHeartbeats 4000000 in
theorem m_X1_killedAmong {l : Launch} (G : Gx) (h : Nat → Nat) (p0 : Int32) (f : FF) (v : VV) {post : Int32 → FF → VV → Prop} (hq : Q_X1_killedAmong p0 f v post) : MetI l yX1_killedAmong (gC yX1_killedAmong cX1_killedAmong 4 (some .int)) rmX1_killedAmong G [.ref (h 0), .int p0] (wP G h) f v post := by
  refine met_i (own := RX1) (by decide) rfl (Nat.le_of_ble_eq_true rfl) (fun κ hκ C hR => ?_)
  unfold Q_X1_killedAmong at hq
  subst hκ
  show J κ 0 0 (wP G h f v) 0 [(0, .ref (h 0)), (1, .int p0)] []
  refine j_iconst 1 C dX1_killedAmong_0 rfl ic_0 ?_
  refine j_istore_n 2 C dX1_killedAmong_1 rfl (Nat.le_of_ble_eq_true rfl) [1, 2, 0] (lv' := [(0, .ref (h 0)), (1, .int p0), (2, .int (0 : Int32))]) rfl ?_
  refine j_iconst 3 C dX1_killedAmong_2 rfl ic_0 ?_
  refine j_istore_n 4 C dX1_killedAmong_3 rfl (Nat.le_of_ble_eq_true rfl) [1, 2, 3, 0] (lv' := [(0, .ref (h 0)), (1, .int p0), (2, .int (0 : Int32)), (3, .int (0 : Int32))]) rfl ?_
  obtain ⟨n_12, hq⟩ := hq
  refine t_X1_killedAmong_L4 C ?_ n_12 _ _ _ _ hq
  · intro x_13 x_14 f_15 v_16 hq
    refine j_iload_n 42 C dX1_killedAmong_41 rfl 2 rfl ?_
    exact hR _ _ _ f_15 v_16 dX1_killedAmong_42 hq
def Q_X1_killedByTest (p0 : Int32) (f : FF) (v : VV) (post : Int32 → FF → VV → Prop) : Prop := Q_X1_runTest p0 f v (fun r_1 f_2 v_3 => (Q_X1_allMutants  f_2 v_3 (fun r_4 => (Q_X1_killedAmong r_4 f_2 v_3 (fun r_5 f_6 v_7 => (post r_5 f_6 v_7))))))
set_option maxRecDepth 100000 in
set_option maxHeartbeats 4000000 in
theorem m_X1_killedByTest {l : Launch} (G : Gx) (h : Nat → Nat) (p0 : Int32) (f : FF) (v : VV) {post : Int32 → FF → VV → Prop} (hq : Q_X1_killedByTest p0 f v post) : MetI l yX1_killedByTest (gC yX1_killedByTest cX1_killedByTest 2 (some .int)) rmX1_killedByTest G [.ref (h 0), .int p0] (wP G h) f v post := by
  refine met_i (own := RX1) (by decide) rfl (Nat.le_of_ble_eq_true rfl) (fun κ hκ C hR => ?_)
  unfold Q_X1_killedByTest at hq
  subst hκ
  show J κ 0 0 (wP G h f v) 0 [(0, .ref (h 0)), (1, .int p0)] []
  refine j_aload_n 1 C dX1_killedByTest_0 rfl 0 rfl ?_
  refine j_iload_n 2 C dX1_killedByTest_1 rfl 1 rfl ?_
  refine j_callVi 5 C [] [] (fun f' v' => (wP G h f' v')) (As := [.int p0]) (m_X1_runTest G h p0 f v hq) oX1_runTest kX1_74 ⟨rfl, rfl⟩ eX1_runTest ⟨Nat.le_of_ble_eq_true rfl, Nat.le_of_ble_eq_true rfl⟩ ⟨Nat.zero_le _, Nat.zero_le _⟩ (List.append_nil _).symm (fun _ _ => List.append_nil _) (fun _ _ => rfl) 0 rfl rfl rfl (Nat.le_of_ble_eq_true rfl) dX1_killedByTest_2 rfl (fun r_1 f_2 v_3 hq => ?_)
  refine j_pop 6 C dX1_killedByTest_5 rfl rfl ?_
  refine j_aload_n 7 C dX1_killedByTest_6 rfl 0 rfl ?_
  refine j_aload_n 8 C dX1_killedByTest_7 rfl 0 rfl ?_
  refine j_callVi_ro 11 C [] [] (As := []) (m_X1_allMutants G h f_2 v_3 hq) oX1_allMutants kX1_77 ⟨rfl, rfl⟩ eX1_allMutants ⟨Nat.le_of_ble_eq_true rfl, Nat.le_of_ble_eq_true rfl⟩ ⟨Nat.zero_le _, Nat.zero_le _⟩ (List.append_nil _).symm (fun _ _ => rfl) 0 rfl rfl rfl (Nat.le_of_ble_eq_true rfl) dX1_killedByTest_8 rfl (fun r_4 hq => ?_)
  refine j_callVi 14 C [] [] (fun f' v' => (wP G h f' v')) (As := [.int r_4]) (m_X1_killedAmong G h r_4 f_2 v_3 hq) oX1_killedAmong kX1_80 ⟨rfl, rfl⟩ eX1_killedAmong ⟨Nat.le_of_ble_eq_true rfl, Nat.le_of_ble_eq_true rfl⟩ ⟨Nat.zero_le _, Nat.zero_le _⟩ (List.append_nil _).symm (fun _ _ => List.append_nil _) (fun _ _ => rfl) 0 rfl rfl rfl (Nat.le_of_ble_eq_true rfl) dX1_killedByTest_11 rfl (fun r_5 f_6 v_7 hq => ?_)
  exact hR _ _ _ f_6 v_7 dX1_killedByTest_14 hq
def Q_X4_isFigure (p0 : Int32) (post : Int32 → Prop) : Prop := Q_X4_isWithin p0 (0 : Int32) (9 : Int32) (fun r_1 => (((r_1 = 0 ∨ r_1 = 1) ∧ post r_1)))
set_option maxRecDepth 100000 in
set_option maxHeartbeats 4000000 in
theorem m_X4_isFigure {l : Launch} (G : Gx) (p0 : Int32) {post : Int32 → Prop} (hq : Q_X4_isFigure p0 post) : MetI l yX4_isFigure (gC yX4_isFigure cX4_isFigure 1 (some .boolean)) rmX4_isFigure G [.int p0] w0 f0 v0 (fun r _ _ => post r) := by
  refine met_z (own := RX4) (by decide) rfl (Nat.le_of_ble_eq_true rfl) (fun κ hκ C hR => ?_)
  unfold Q_X4_isFigure at hq
  subst hκ
  show J κ 0 0 [] 0 [(0, .int p0)] []
  refine j_iload_n 1 C dX4_isFigure_0 rfl 0 rfl ?_
  refine j_iconst 2 C dX4_isFigure_1 rfl ic_0 ?_
  refine j_bipush 4 C dX4_isFigure_2 rfl bc_9 ?_
  refine j_callSi 7 C [] [] (fun _ _ => []) (As := [.int p0, .int (0 : Int32), .int (9 : Int32)]) (m_X4_isWithin G p0 (0 : Int32) (9 : Int32) hq) oX4_isWithin kX4_54 ⟨rfl, rfl⟩ eX4_isWithin ⟨Nat.le_of_ble_eq_true rfl, Nat.le_of_ble_eq_true rfl⟩ ⟨Nat.zero_le _, Nat.zero_le _⟩ rfl (fun _ _ => rfl) (fun _ _ => rfl) rfl (Nat.le_of_ble_eq_true rfl) dX4_isFigure_4 rfl (fun r_1 _ _ hq => ?_)
  exact hR _ _ _ f0 v0 dX4_isFigure_7 hq.1 hq.2
def Q_X1_isEmpty (f : FF) (v : VV) (post : Int32 → Prop) : Prop := ((¬ (v 0) = 0 → (post (0 : Int32))) ∧ ((v 0) = 0 → (post (1 : Int32))))
set_option maxRecDepth 100000 in
set_option maxHeartbeats 4000000 in
theorem m_X1_isEmpty {l : Launch} (G : Gx) (h : Nat → Nat) (f : FF) (v : VV) {post : Int32 → Prop} (hq : Q_X1_isEmpty f v post) : MetI l yX1_isEmpty (gC yX1_isEmpty cX1_isEmpty 1 (some .boolean)) rmX1_isEmpty G [.ref (h 0)] (wP G h) f v (fun r f' v' => post r ∧ f' = f ∧ v' = v) := by
  refine met_z (own := RX1) (by decide) rfl (Nat.le_of_ble_eq_true rfl) (fun κ hκ C hR => ?_)
  unfold Q_X1_isEmpty at hq
  subst hκ
  show J κ 0 0 (wP G h f v) 0 [(0, .ref (h 0))] []
  refine j_aload_n 1 C dX1_isEmpty_0 rfl 0 rfl ?_
  refine j_get 4 C uX1 0 rfl rfl 3 (Nat.le_of_ble_eq_true rfl) lX1_39 (v := .int (v 0)) rfl dX1_isEmpty_1 rfl ?_
  refine j_if_ne 7 11 C dX1_isEmpty_4 rfl rfl (fun c_1 => ?_) (fun c_1 => ?_)
  · replace hq := hq.1 c_1
    refine j_iconst 12 C dX1_isEmpty_11 rfl ic_0 ?_
    exact hR _ _ _ f v dX1_isEmpty_12 (Or.inl rfl) ⟨hq, rfl, rfl⟩
  · replace hq := hq.2 c_1
    refine j_iconst 8 C dX1_isEmpty_7 rfl ic_1 ?_
    refine j_goto 12 C dX1_isEmpty_8 rfl ?_
    exact hR _ _ _ f v dX1_isEmpty_12 (Or.inr rfl) ⟨hq, rfl, rfl⟩
def Q_X4_isTime (p0 : Int32) (post : Int32 → Prop) : Prop := Q_X4_isWithin p0 (1 : Int32) (9 : Int32) (fun r_1 => (((r_1 = 0 ∨ r_1 = 1) ∧ post r_1)))
set_option maxRecDepth 100000 in
set_option maxHeartbeats 4000000 in
theorem m_X4_isTime {l : Launch} (G : Gx) (p0 : Int32) {post : Int32 → Prop} (hq : Q_X4_isTime p0 post) : MetI l yX4_isTime (gC yX4_isTime cX4_isTime 1 (some .boolean)) rmX4_isTime G [.int p0] w0 f0 v0 (fun r _ _ => post r) := by
  refine met_z (own := RX4) (by decide) rfl (Nat.le_of_ble_eq_true rfl) (fun κ hκ C hR => ?_)
  unfold Q_X4_isTime at hq
  subst hκ
  show J κ 0 0 [] 0 [(0, .int p0)] []
  refine j_iload_n 1 C dX4_isTime_0 rfl 0 rfl ?_
  refine j_iconst 2 C dX4_isTime_1 rfl ic_1 ?_
  refine j_bipush 4 C dX4_isTime_2 rfl bc_9 ?_
  refine j_callSi 7 C [] [] (fun _ _ => []) (As := [.int p0, .int (1 : Int32), .int (9 : Int32)]) (m_X4_isWithin G p0 (1 : Int32) (9 : Int32) hq) oX4_isWithin kX4_54 ⟨rfl, rfl⟩ eX4_isWithin ⟨Nat.le_of_ble_eq_true rfl, Nat.le_of_ble_eq_true rfl⟩ ⟨Nat.zero_le _, Nat.zero_le _⟩ rfl (fun _ _ => rfl) (fun _ _ => rfl) rfl (Nat.le_of_ble_eq_true rfl) dX4_isTime_4 rfl (fun r_1 _ _ hq => ?_)
  exact hR _ _ _ f0 v0 dX4_isTime_7 hq.1 hq.2
def Q_X1_hasMutant (p0 : Int32) (f : FF) (v : VV) (post : Int32 → Prop) : Prop := ((p0 < 0 → (post (0 : Int32))) ∧ (¬ p0 < 0 → (Q_X1_mutants  f v (fun r_2 => (((r_2 ≤ p0 → (post (0 : Int32))) ∧ (¬ r_2 ≤ p0 → (post (1 : Int32)))))))))
set_option maxRecDepth 100000 in
set_option maxHeartbeats 4000000 in
theorem m_X1_hasMutant {l : Launch} (G : Gx) (h : Nat → Nat) (p0 : Int32) (f : FF) (v : VV) {post : Int32 → Prop} (hq : Q_X1_hasMutant p0 f v post) : MetI l yX1_hasMutant (gC yX1_hasMutant cX1_hasMutant 2 (some .boolean)) rmX1_hasMutant G [.ref (h 0), .int p0] (wP G h) f v (fun r f' v' => post r ∧ f' = f ∧ v' = v) := by
  refine met_z (own := RX1) (by decide) rfl (Nat.le_of_ble_eq_true rfl) (fun κ hκ C hR => ?_)
  unfold Q_X1_hasMutant at hq
  subst hκ
  show J κ 0 0 (wP G h f v) 0 [(0, .ref (h 0)), (1, .int p0)] []
  refine j_iload_n 1 C dX1_hasMutant_0 rfl 1 rfl ?_
  refine j_if_lt 4 16 C dX1_hasMutant_1 rfl rfl (fun c_1 => ?_) (fun c_1 => ?_)
  · replace hq := hq.1 c_1
    refine j_iconst 17 C dX1_hasMutant_16 rfl ic_0 ?_
    exact hR _ _ _ f v dX1_hasMutant_17 (Or.inl rfl) ⟨hq, rfl, rfl⟩
  · replace hq := hq.2 c_1
    refine j_iload_n 5 C dX1_hasMutant_4 rfl 1 rfl ?_
    refine j_aload_n 6 C dX1_hasMutant_5 rfl 0 rfl ?_
    refine j_callVi_ro 9 C [] [] (As := []) (m_X1_mutants G h f v hq) oX1_mutants kX1_46 ⟨rfl, rfl⟩ eX1_mutants ⟨Nat.le_of_ble_eq_true rfl, Nat.le_of_ble_eq_true rfl⟩ ⟨Nat.zero_le _, Nat.zero_le _⟩ (List.append_nil _).symm (fun _ _ => rfl) 0 rfl rfl rfl (Nat.le_of_ble_eq_true rfl) dX1_hasMutant_6 rfl (fun r_2 hq => ?_)
    refine j_icmp_ge 12 16 C dX1_hasMutant_9 rfl rfl (fun c_3 => ?_) (fun c_3 => ?_)
    · replace hq := hq.1 c_3
      refine j_iconst 17 C dX1_hasMutant_16 rfl ic_0 ?_
      exact hR _ _ _ f v dX1_hasMutant_17 (Or.inl rfl) ⟨hq, rfl, rfl⟩
    · replace hq := hq.2 c_3
      refine j_iconst 13 C dX1_hasMutant_12 rfl ic_1 ?_
      refine j_goto 17 C dX1_hasMutant_13 rfl ?_
      exact hR _ _ _ f v dX1_hasMutant_17 (Or.inr rfl) ⟨hq, rfl, rfl⟩
def Q_X0_find_L23 (K44 : Int32 → FF → VV → Prop) : Nat → Int32 → FF → VV → Prop
  | 0, _, _, _ => False
  | n + 1, x2, f, v => (((v 3) ≤ x2 → (K44 x2 f v)) ∧ (¬ (v 3) ≤ x2 → (vp_in x2 20 ∧ (∀ f_7 : FF, f_7 = fu f 10 (wr (f 10) x2 (0 : Int32)) → (∀ x_8 : Int32, x_8 = (x2 + (1 : Int32)) → (Q_X0_find_L23 K44 n x_8 f_7 v))))))
set_option maxRecDepth 100000 in
set_option maxHeartbeats 4000000 in
theorem t_X0_find_L23 {κ : Kx} {G : Gx} {h : Nat → Nat} (C : Cx κ G RX0 cX0_find rmX0_find 4) {K44 : Int32 → FF → VV → Prop} (hK44 : ∀ (x2 : Int32) (f : FF) (v : VV), K44 x2 f v → J κ 0 0 (wPK G h f v) 44 [(0, .ref (h 10)), (1, .ref (h 0)), (2, .int x2)] []) : ∀ (n : Nat) (x2 : Int32) (f : FF) (v : VV), Q_X0_find_L23 K44 n x2 f v → J κ 0 0 (wPK G h f v) 23 [(0, .ref (h 10)), (1, .ref (h 0)), (2, .int x2)] [] := by
  intro n
  induction n with
  | zero => intro x2 f v hq; exact False.elim hq
  | succ n ih =>
    intro x2 f v hq
    rw [Q_X0_find_L23] at hq
    refine j_iload_n 24 C dX0_find_23 rfl 2 rfl ?_
    refine j_aload_n 25 C dX0_find_24 rfl 0 rfl ?_
    refine j_get 28 C uX0 10 rfl rfl 5 (Nat.le_of_ble_eq_true rfl) lX0_35 (v := .int (v 3)) rfl dX0_find_25 rfl ?_
    refine j_icmp_ge 31 44 C dX0_find_28 rfl rfl (fun c_5 => ?_) (fun c_5 => ?_)
    · replace hq := hq.1 c_5
      refine J.l0 [0, 1, 2] rfl ?_
      exact hK44 _ _ _ hq
    · replace hq := hq.2 c_5
      refine j_aload_n 32 C dX0_find_31 rfl 0 rfl ?_
      refine j_get 35 C uX0 10 rfl rfl 1 (Nat.le_of_ble_eq_true rfl) lX0_15 (v := .ref (h 12)) rfl dX0_find_32 rfl ?_
      refine j_iload_n 36 C dX0_find_35 rfl 2 rfl ?_
      refine j_iconst 37 C dX0_find_36 rfl ic_0 ?_
      obtain ⟨hi_6, hq⟩ := hq
      obtain ⟨f_7, ef_7⟩ : ∃ y : FF, y = fu f 10 (wr (f 10) x2 (0 : Int32)) := ⟨_, rfl⟩
      replace hq := hq f_7 ef_7
      refine j_iast 38 C 12 rfl hi_6 dX0_find_37 rfl (ws' := (wPK G h f_7 v)) (by subst ef_7; rfl) ?_
      obtain ⟨x_8, ex_8⟩ : ∃ y : Int32, y = (x2 + (1 : Int32)) := ⟨_, rfl⟩
      replace hq := hq x_8 ex_8
      refine j_iinc 41 C dX0_find_38 rfl 2 rfl (v := x_8) (by rw [ex_8]; rfl) (Nat.le_of_ble_eq_true rfl) [1, 2, 0] (lv' := [(0, .ref (h 10)), (1, .ref (h 0)), (2, .int x_8)]) rfl ?_
      refine j_goto 23 C dX0_find_41 rfl ?_
      refine J.l0 [0, 1, 2] rfl ?_
      exact ih _ _ _ hq
def Q_X0_find_L93 (x2 : Int32) (K128 : Int32 → FF → VV → Prop) : Nat → Int32 → FF → VV → Prop
  | 0, _, _, _ => False
  | n + 1, x3, f, v => (((v 3) ≤ x3 → (K128 x3 f v)) ∧ (¬ (v 3) ≤ x3 → (vp_in x3 20 ∧ (vp_in x2 7 ∧ (vp_in x3 20 ∧ (∀ f_30 : FF, f_30 = fu f 10 (wr (f 10) x3 (((f 10) (x3).toNatClampNeg) ||| (((((f 9) (x2).toNatClampNeg) >>> (x3 &&& 31)) &&& (1 : Int32)) <<< (x2 &&& 31)))) → (∀ x_31 : Int32, x_31 = (x3 + (1 : Int32)) → (Q_X0_find_L93 x2 K128 n x_31 f_30 v))))))))
set_option maxRecDepth 100000 in
set_option maxHeartbeats 4000000 in
theorem t_X0_find_L93 {κ : Kx} {G : Gx} {h : Nat → Nat} (C : Cx κ G RX0 cX0_find rmX0_find 4) {x2 : Int32} {K128 : Int32 → FF → VV → Prop} (hK128 : ∀ (x3 : Int32) (f : FF) (v : VV), K128 x3 f v → J κ 0 0 (wPK G h f v) 128 [(0, .ref (h 10)), (1, .ref (h 0)), (2, .int x2), (3, .int x3)] []) : ∀ (n : Nat) (x3 : Int32) (f : FF) (v : VV), Q_X0_find_L93 x2 K128 n x3 f v → J κ 0 0 (wPK G h f v) 93 [(0, .ref (h 10)), (1, .ref (h 0)), (2, .int x2), (3, .int x3)] [] := by
  intro n
  induction n with
  | zero => intro x3 f v hq; exact False.elim hq
  | succ n ih =>
    intro x3 f v hq
    rw [Q_X0_find_L93] at hq
    refine j_iload_n 94 C dX0_find_93 rfl 3 rfl ?_
    refine j_aload_n 95 C dX0_find_94 rfl 0 rfl ?_
    refine j_get 98 C uX0 10 rfl rfl 5 (Nat.le_of_ble_eq_true rfl) lX0_35 (v := .int (v 3)) rfl dX0_find_95 rfl ?_
    refine j_icmp_ge 101 128 C dX0_find_98 rfl rfl (fun c_26 => ?_) (fun c_26 => ?_)
    · replace hq := hq.1 c_26
      refine J.l0 [0, 1, 2, 3] rfl ?_
      exact hK128 _ _ _ hq
    · replace hq := hq.2 c_26
      refine j_aload_n 102 C dX0_find_101 rfl 0 rfl ?_
      refine j_get 105 C uX0 10 rfl rfl 1 (Nat.le_of_ble_eq_true rfl) lX0_15 (v := .ref (h 12)) rfl dX0_find_102 rfl ?_
      refine j_iload_n 106 C dX0_find_105 rfl 3 rfl ?_
      refine j_dup2 107 C dX0_find_106 rfl rfl rfl ?_
      obtain ⟨hi_27, hq⟩ := hq
      refine j_iald 108 C 12 (f := (f 10)) rfl hi_27 dX0_find_107 rfl ?_
      refine j_aload_n 109 C dX0_find_108 rfl 0 rfl ?_
      refine j_get 112 C uX0 10 rfl rfl 0 (Nat.le_of_ble_eq_true rfl) lX0_9 (v := .ref (h 11)) rfl dX0_find_109 rfl ?_
      refine j_iload_n 113 C dX0_find_112 rfl 2 rfl ?_
      obtain ⟨hi_28, hq⟩ := hq
      refine j_iald 114 C 11 (f := (f 9)) rfl hi_28 dX0_find_113 rfl ?_
      refine j_iload_n 115 C dX0_find_114 rfl 3 rfl ?_
      refine j_ishr 116 C dX0_find_115 rfl ?_
      refine j_iconst 117 C dX0_find_116 rfl ic_1 ?_
      refine j_iand 118 C dX0_find_117 rfl ?_
      refine j_iload_n 119 C dX0_find_118 rfl 2 rfl ?_
      refine j_ishl 120 C dX0_find_119 rfl ?_
      refine j_ior 121 C dX0_find_120 rfl ?_
      obtain ⟨hi_29, hq⟩ := hq
      obtain ⟨f_30, ef_30⟩ : ∃ y : FF, y = fu f 10 (wr (f 10) x3 (((f 10) (x3).toNatClampNeg) ||| (((((f 9) (x2).toNatClampNeg) >>> (x3 &&& 31)) &&& (1 : Int32)) <<< (x2 &&& 31)))) := ⟨_, rfl⟩
      replace hq := hq f_30 ef_30
      refine j_iast 122 C 12 rfl hi_29 dX0_find_121 rfl (ws' := (wPK G h f_30 v)) (by subst ef_30; rfl) ?_
      obtain ⟨x_31, ex_31⟩ : ∃ y : Int32, y = (x3 + (1 : Int32)) := ⟨_, rfl⟩
      replace hq := hq x_31 ex_31
      refine j_iinc 125 C dX0_find_122 rfl 3 rfl (v := x_31) (by rw [ex_31]; rfl) (Nat.le_of_ble_eq_true rfl) [1, 2, 3, 0] (lv' := [(0, .ref (h 10)), (1, .ref (h 0)), (2, .int x2), (3, .int x_31)]) rfl ?_
      refine j_goto 93 C dX0_find_125 rfl ?_
      refine J.l0 [0, 1, 2, 3] rfl ?_
      exact ih _ _ _ hq
def Q_X0_find_L46 (K134 : Int32 → FF → VV → Prop) : Nat → Int32 → FF → VV → Prop
  | 0, _, _, _ => False
  | n + 1, x2, f, v => (((v 2) ≤ x2 → (K134 x2 f v)) ∧ (¬ (v 2) ≤ x2 → (Q_X1_weight x2 (sb f 0) (sb v 0) (fun r_14 => (vp_in x2 7 ∧ (∀ f_16 : FF, f_16 = fu f 11 (wr (f 11) x2 r_14) → (Q_X1_killedByTest x2 (sb f_16 0) (sb v 0) (fun r_17 f_18 v_19 => (∀ f_20 : FF, f_20 = mg f_16 0 9 f_18 → (∀ v_21 : VV, v_21 = mg v 0 2 v_19 → (vp_in x2 7 ∧ (∀ f_23 : FF, f_23 = fu f_20 9 (wr (f_20 9) x2 r_17) → (vp_in x2 7 ∧ (∀ v_25 : VV, v_25 = fu v_21 4 ((v_21 4) ||| ((f_23 9) (x2).toNatClampNeg)) → (∃ n_32 : Nat, Q_X0_find_L93 x2 (fun x_33 f_34 v_35 => (∀ x_36 : Int32, x_36 = (x2 + (1 : Int32)) → (Q_X0_find_L46 K134 n x_36 f_34 v_35))) n_32 (0 : Int32) f_23 v_25)))))))))))))))
set_option maxRecDepth 100000 in
set_option maxHeartbeats 4000000 in
theorem t_X0_find_L46 {κ : Kx} {G : Gx} {h : Nat → Nat} (C : Cx κ G RX0 cX0_find rmX0_find 4) {K134 : Int32 → FF → VV → Prop} (hK134 : ∀ (x2 : Int32) (f : FF) (v : VV), K134 x2 f v → J κ 0 0 (wPK G h f v) 134 [(0, .ref (h 10)), (1, .ref (h 0)), (2, .int x2)] []) : ∀ (n : Nat) (x2 : Int32) (f : FF) (v : VV), Q_X0_find_L46 K134 n x2 f v → J κ 0 0 (wPK G h f v) 46 [(0, .ref (h 10)), (1, .ref (h 0)), (2, .int x2)] [] := by
  intro n
  induction n with
  | zero => intro x2 f v hq; exact False.elim hq
  | succ n ih =>
    intro x2 f v hq
    rw [Q_X0_find_L46] at hq
    refine j_iload_n 47 C dX0_find_46 rfl 2 rfl ?_
    refine j_aload_n 48 C dX0_find_47 rfl 0 rfl ?_
    refine j_get 51 C uX0 10 rfl rfl 4 (Nat.le_of_ble_eq_true rfl) lX0_30 (v := .int (v 2)) rfl dX0_find_48 rfl ?_
    refine j_icmp_ge 54 134 C dX0_find_51 rfl rfl (fun c_13 => ?_) (fun c_13 => ?_)
    · replace hq := hq.1 c_13
      refine J.l0 [0, 1, 2] rfl ?_
      exact hK134 _ _ _ hq
    · replace hq := hq.2 c_13
      refine j_aload_n 55 C dX0_find_54 rfl 0 rfl ?_
      refine j_get 58 C uX0 10 rfl rfl 2 (Nat.le_of_ble_eq_true rfl) lX0_18 (v := .ref (h 13)) rfl dX0_find_55 rfl ?_
      refine j_iload_n 59 C dX0_find_58 rfl 2 rfl ?_
      refine j_aload_n 60 C dX0_find_59 rfl 1 rfl ?_
      refine j_iload_n 61 C dX0_find_60 rfl 2 rfl ?_
      refine j_callVi_ro 64 C (List.take 0 (wPK G h f v)) (List.drop 10 (wPK G h f v)) (As := [.int x2]) (m_X1_weight G (sb h 0) x2 (sb f 0) (sb v 0) hq) oX1_weight kX0_40 ⟨rfl, rfl⟩ eX1_weight ⟨Nat.le_of_ble_eq_true rfl, Nat.le_of_ble_eq_true rfl⟩ ⟨Nat.zero_le _, Nat.zero_le _⟩ rfl (fun _ _ => rfl) 0 rfl rfl rfl (Nat.le_of_ble_eq_true rfl) dX0_find_61 rfl (fun r_14 hq => ?_)
      obtain ⟨hi_15, hq⟩ := hq
      obtain ⟨f_16, ef_16⟩ : ∃ y : FF, y = fu f 11 (wr (f 11) x2 r_14) := ⟨_, rfl⟩
      replace hq := hq f_16 ef_16
      refine j_iast 65 C 13 rfl hi_15 dX0_find_64 rfl (ws' := (wPK G h f_16 v)) (by subst ef_16; rfl) ?_
      refine j_aload_n 66 C dX0_find_65 rfl 0 rfl ?_
      refine j_get 69 C uX0 10 rfl rfl 0 (Nat.le_of_ble_eq_true rfl) lX0_9 (v := .ref (h 11)) rfl dX0_find_66 rfl ?_
      refine j_iload_n 70 C dX0_find_69 rfl 2 rfl ?_
      refine j_aload_n 71 C dX0_find_70 rfl 1 rfl ?_
      refine j_iload_n 72 C dX0_find_71 rfl 2 rfl ?_
      refine j_callVi 75 C (List.take 0 (wPK G h f_16 v)) (List.drop 10 (wPK G h f_16 v)) (fun f' v' => (wPK G h (mg f_16 0 9 f') (mg v 0 2 v'))) (As := [.int x2]) (m_X1_killedByTest G (sb h 0) x2 (sb f_16 0) (sb v 0) hq) oX1_killedByTest kX0_44 ⟨rfl, rfl⟩ eX1_killedByTest ⟨Nat.le_of_ble_eq_true rfl, Nat.le_of_ble_eq_true rfl⟩ ⟨Nat.zero_le _, Nat.zero_le _⟩ rfl (fun _ _ => rfl) (fun _ _ => rfl) 0 rfl rfl rfl (Nat.le_of_ble_eq_true rfl) dX0_find_72 rfl (fun r_17 f_18 v_19 hq => ?_)
      obtain ⟨f_20, ef_20⟩ : ∃ y : FF, y = mg f_16 0 9 f_18 := ⟨_, rfl⟩
      obtain ⟨v_21, ev_21⟩ : ∃ y : VV, y = mg v 0 2 v_19 := ⟨_, rfl⟩
      replace hq := hq f_20 ef_20 v_21 ev_21
      refine J.w0 (ws' := (wPK G h f_20 v_21)) (by subst ef_20; subst ev_21; rfl) ?_
      obtain ⟨hi_22, hq⟩ := hq
      obtain ⟨f_23, ef_23⟩ : ∃ y : FF, y = fu f_20 9 (wr (f_20 9) x2 r_17) := ⟨_, rfl⟩
      replace hq := hq f_23 ef_23
      refine j_iast 76 C 11 rfl hi_22 dX0_find_75 rfl (ws' := (wPK G h f_23 v_21)) (by subst ef_23; rfl) ?_
      refine j_aload_n 77 C dX0_find_76 rfl 0 rfl ?_
      refine j_dup 78 C dX0_find_77 rfl rfl ?_
      refine j_get 81 C uX0 10 rfl rfl 6 (Nat.le_of_ble_eq_true rfl) lX0_37 (v := .int (v_21 4)) rfl dX0_find_78 rfl ?_
      refine j_aload_n 82 C dX0_find_81 rfl 0 rfl ?_
      refine j_get 85 C uX0 10 rfl rfl 0 (Nat.le_of_ble_eq_true rfl) lX0_9 (v := .ref (h 11)) rfl dX0_find_82 rfl ?_
      refine j_iload_n 86 C dX0_find_85 rfl 2 rfl ?_
      obtain ⟨hi_24, hq⟩ := hq
      refine j_iald 87 C 11 (f := (f_23 9)) rfl hi_24 dX0_find_86 rfl ?_
      refine j_ior 88 C dX0_find_87 rfl ?_
      obtain ⟨v_25, ev_25⟩ : ∃ y : VV, y = fu v_21 4 ((v_21 4) ||| ((f_23 9) (x2).toNatClampNeg)) := ⟨_, rfl⟩
      replace hq := hq v_25 ev_25
      refine j_put 91 C uX0 tyX0 tyX0_ok nmX0 10 rfl rfl 6 (Nat.le_of_ble_eq_true rfl) lX0_37 rfl rfl (Nat.le_of_ble_eq_true rfl) dX0_find_88 rfl (ws' := (wPK G h f_23 v_25)) (by subst ev_25; rfl) ?_
      refine j_iconst 92 C dX0_find_91 rfl ic_0 ?_
      refine j_istore_n 93 C dX0_find_92 rfl (Nat.le_of_ble_eq_true rfl) [1, 2, 3, 0] (lv' := [(0, .ref (h 10)), (1, .ref (h 0)), (2, .int x2), (3, .int (0 : Int32))]) rfl ?_
      obtain ⟨n_32, hq⟩ := hq
      refine t_X0_find_L93 C ?_ n_32 _ _ _ hq
      · intro x_33 f_34 v_35 hq
        obtain ⟨x_36, ex_36⟩ : ∃ y : Int32, y = (x2 + (1 : Int32)) := ⟨_, rfl⟩
        replace hq := hq x_36 ex_36
        refine j_iinc 131 C dX0_find_128 rfl 2 rfl (v := x_36) (by rw [ex_36]; rfl) (Nat.le_of_ble_eq_true rfl) [1, 2, 0, 3] (lv' := [(0, .ref (h 10)), (1, .ref (h 0)), (2, .int x_36), (3, .int x_33)]) rfl ?_
        refine j_goto 46 C dX0_find_131 rfl ?_
        refine J.l0 [0, 1, 2] rfl ?_
        exact ih _ _ _ hq
def Q_X0_find (f : FF) (v : VV) (post : FF → VV → Prop) : Prop := ∀ v_1 : VV, v_1 = fu v 2 (v 1) → (Q_X1_mutants  (sb f 0) (sb v_1 0) (fun r_2 => (∀ v_3 : VV, v_3 = fu v_1 3 r_2 → (∀ v_4 : VV, v_4 = fu v_3 4 (0 : Int32) → (∃ n_9 : Nat, Q_X0_find_L23 (fun x_10 f_11 v_12 => (∃ n_37 : Nat, Q_X0_find_L46 (fun x_38 f_39 v_40 => (post f_39 v_40)) n_37 (0 : Int32) f_11 v_12)) n_9 (0 : Int32) f v_4)))))
set_option maxRecDepth 100000 in
set_option maxHeartbeats 4000000 in
theorem m_X0_find {l : Launch} (G : Gx) (h : Nat → Nat) (f : FF) (v : VV) {post : FF → VV → Prop} (hq : Q_X0_find f v post) : MetV l yX0_find (gC yX0_find cX0_find 4 none) rmX0_find G [.ref (h 10), .ref (h 0)] (wPK G h) f v post := by
  refine met_v (own := RX0) (by decide) rfl (Nat.le_of_ble_eq_true rfl) (fun κ hκ C hR => ?_)
  unfold Q_X0_find at hq
  subst hκ
  show J κ 0 0 (wPK G h f v) 0 [(0, .ref (h 10)), (1, .ref (h 0))] []
  refine j_aload_n 1 C dX0_find_0 rfl 0 rfl ?_
  refine j_aload_n 2 C dX0_find_1 rfl 1 rfl ?_
  refine j_get 5 C uX1 0 rfl rfl 8 (Nat.le_of_ble_eq_true rfl) lX0_24 (v := .int (v 1)) rfl dX0_find_2 rfl ?_
  obtain ⟨v_1, ev_1⟩ : ∃ y : VV, y = fu v 2 (v 1) := ⟨_, rfl⟩
  replace hq := hq v_1 ev_1
  refine j_put 8 C uX0 tyX0 tyX0_ok nmX0 10 rfl rfl 4 (Nat.le_of_ble_eq_true rfl) lX0_30 rfl rfl (Nat.le_of_ble_eq_true rfl) dX0_find_5 rfl (ws' := (wPK G h f v_1)) (by subst ev_1; rfl) ?_
  refine j_aload_n 9 C dX0_find_8 rfl 0 rfl ?_
  refine j_aload_n 10 C dX0_find_9 rfl 1 rfl ?_
  refine j_callVi_ro 13 C (List.take 0 (wPK G h f v_1)) (List.drop 10 (wPK G h f v_1)) (As := []) (m_X1_mutants G (sb h 0) (sb f 0) (sb v_1 0) hq) oX1_mutants kX0_31 ⟨rfl, rfl⟩ eX1_mutants ⟨Nat.le_of_ble_eq_true rfl, Nat.le_of_ble_eq_true rfl⟩ ⟨Nat.zero_le _, Nat.zero_le _⟩ rfl (fun _ _ => rfl) 0 rfl rfl rfl (Nat.le_of_ble_eq_true rfl) dX0_find_10 rfl (fun r_2 hq => ?_)
  obtain ⟨v_3, ev_3⟩ : ∃ y : VV, y = fu v_1 3 r_2 := ⟨_, rfl⟩
  replace hq := hq v_3 ev_3
  refine j_put 16 C uX0 tyX0 tyX0_ok nmX0 10 rfl rfl 5 (Nat.le_of_ble_eq_true rfl) lX0_35 rfl rfl (Nat.le_of_ble_eq_true rfl) dX0_find_13 rfl (ws' := (wPK G h f v_3)) (by subst ev_3; rfl) ?_
  refine j_aload_n 17 C dX0_find_16 rfl 0 rfl ?_
  refine j_iconst 18 C dX0_find_17 rfl ic_0 ?_
  obtain ⟨v_4, ev_4⟩ : ∃ y : VV, y = fu v_3 4 (0 : Int32) := ⟨_, rfl⟩
  replace hq := hq v_4 ev_4
  refine j_put 21 C uX0 tyX0 tyX0_ok nmX0 10 rfl rfl 6 (Nat.le_of_ble_eq_true rfl) lX0_37 rfl rfl (Nat.le_of_ble_eq_true rfl) dX0_find_18 rfl (ws' := (wPK G h f v_4)) (by subst ev_4; rfl) ?_
  refine j_iconst 22 C dX0_find_21 rfl ic_0 ?_
  refine j_istore_n 23 C dX0_find_22 rfl (Nat.le_of_ble_eq_true rfl) [1, 2, 0] (lv' := [(0, .ref (h 10)), (1, .ref (h 0)), (2, .int (0 : Int32))]) rfl ?_
  obtain ⟨n_9, hq⟩ := hq
  refine t_X0_find_L23 C ?_ n_9 _ _ _ hq
  · intro x_10 f_11 v_12 hq
    refine j_iconst 45 C dX0_find_44 rfl ic_0 ?_
    refine j_istore_n 46 C dX0_find_45 rfl (Nat.le_of_ble_eq_true rfl) [1, 2, 0] (lv' := [(0, .ref (h 10)), (1, .ref (h 0)), (2, .int (0 : Int32))]) rfl ?_
    obtain ⟨n_37, hq⟩ := hq
    refine t_X0_find_L46 C ?_ n_37 _ _ _ hq
    · intro x_38 f_39 v_40 hq
      exact hR _ _ _ _ dX0_find_134 hq
def Q_X1_differences_L4 (x1 : Int32) (K41 : Int32 → Int32 → FF → VV → Prop) : Nat → Int32 → Int32 → FF → VV → Prop
  | 0, _, _, _, _ => False
  | n + 1, x2, x3, f, v => (((100 : Int32) ≤ x3 → (K41 x2 x3 f v)) ∧ (¬ (100 : Int32) ≤ x3 → (Q_X1_run (x3 / (10 : Int32)) (x3 - x3 / (10 : Int32) * (10 : Int32)) f v (fun r_2 f_3 v_4 => (Q_X1_effect x1 f_3 v_4 (fun r_5 f_6 v_7 => (((¬ r_5 = (2 : Int32) → (∀ x_9 : Int32, x_9 = (x3 + (1 : Int32)) → (Q_X1_differences_L4 x1 K41 n x2 x_9 f_6 v_7))) ∧ (r_5 = (2 : Int32) → (∀ x_10 : Int32, x_10 = (x2 + (1 : Int32)) → (∀ x_11 : Int32, x_11 = (x3 + (1 : Int32)) → (Q_X1_differences_L4 x1 K41 n x_10 x_11 f_6 v_7))))))))))))
set_option maxRecDepth 100000 in
set_option maxHeartbeats 4000000 in
theorem t_X1_differences_L4 {κ : Kx} {G : Gx} {h : Nat → Nat} (C : Cx κ G RX1 cX1_differences rmX1_differences 4) {x1 : Int32} {K41 : Int32 → Int32 → FF → VV → Prop} (hK41 : ∀ (x2 : Int32) (x3 : Int32) (f : FF) (v : VV), K41 x2 x3 f v → J κ 0 0 (wP G h f v) 41 [(0, .ref (h 0)), (1, .int x1), (2, .int x2), (3, .int x3)] []) : ∀ (n : Nat) (x2 : Int32) (x3 : Int32) (f : FF) (v : VV), Q_X1_differences_L4 x1 K41 n x2 x3 f v → J κ 0 0 (wP G h f v) 4 [(0, .ref (h 0)), (1, .int x1), (2, .int x2), (3, .int x3)] [] := by
  intro n
  induction n with
  | zero => intro x2 x3 f v hq; exact False.elim hq
  | succ n ih =>
    intro x2 x3 f v hq
    rw [Q_X1_differences_L4] at hq
    refine j_iload_n 5 C dX1_differences_4 rfl 3 rfl ?_
    refine j_bipush 7 C dX1_differences_5 rfl bc_100 ?_
    refine j_icmp_ge 10 41 C dX1_differences_7 rfl rfl (fun c_1 => ?_) (fun c_1 => ?_)
    · replace hq := hq.1 c_1
      refine J.l0 [0, 1, 2, 3] rfl ?_
      exact hK41 _ _ _ _ hq
    · replace hq := hq.2 c_1
      refine j_aload_n 11 C dX1_differences_10 rfl 0 rfl ?_
      refine j_iload_n 12 C dX1_differences_11 rfl 3 rfl ?_
      refine j_bipush 14 C dX1_differences_12 rfl bc_10 ?_
      refine j_idiv 15 C dX1_differences_14 rfl (by decide) ?_
      refine j_iload_n 16 C dX1_differences_15 rfl 3 rfl ?_
      refine j_bipush 18 C dX1_differences_16 rfl bc_10 ?_
      refine j_irem 19 C dX1_differences_18 rfl (by decide) ?_
      refine j_callVi 22 C [] [] (fun f' v' => (wP G h f' v')) (As := [.int (x3 / (10 : Int32)), .int (x3 - x3 / (10 : Int32) * (10 : Int32))]) (m_X1_run G h (x3 / (10 : Int32)) (x3 - x3 / (10 : Int32) * (10 : Int32)) f v hq) oX1_run kX1_54 ⟨rfl, rfl⟩ eX1_run ⟨Nat.le_of_ble_eq_true rfl, Nat.le_of_ble_eq_true rfl⟩ ⟨Nat.zero_le _, Nat.zero_le _⟩ (List.append_nil _).symm (fun _ _ => List.append_nil _) (fun _ _ => rfl) 0 rfl rfl rfl (Nat.le_of_ble_eq_true rfl) dX1_differences_19 rfl (fun r_2 f_3 v_4 hq => ?_)
      refine j_pop 23 C dX1_differences_22 rfl rfl ?_
      refine j_aload_n 24 C dX1_differences_23 rfl 0 rfl ?_
      refine j_iload_n 25 C dX1_differences_24 rfl 1 rfl ?_
      refine j_callVi 28 C [] [] (fun f' v' => (wP G h f' v')) (As := [.int x1]) (m_X1_effect G h x1 f_3 v_4 hq) oX1_effect kX1_71 ⟨rfl, rfl⟩ eX1_effect ⟨Nat.le_of_ble_eq_true rfl, Nat.le_of_ble_eq_true rfl⟩ ⟨Nat.zero_le _, Nat.zero_le _⟩ (List.append_nil _).symm (fun _ _ => List.append_nil _) (fun _ _ => rfl) 0 rfl rfl rfl (Nat.le_of_ble_eq_true rfl) dX1_differences_25 rfl (fun r_5 f_6 v_7 hq => ?_)
      refine j_iconst 29 C dX1_differences_28 rfl ic_2 ?_
      refine j_icmp_ne 32 35 C dX1_differences_29 rfl rfl (fun c_8 => ?_) (fun c_8 => ?_)
      · replace hq := hq.1 c_8
        obtain ⟨x_9, ex_9⟩ : ∃ y : Int32, y = (x3 + (1 : Int32)) := ⟨_, rfl⟩
        replace hq := hq x_9 ex_9
        refine j_iinc 38 C dX1_differences_35 rfl 3 rfl (v := x_9) (by rw [ex_9]; rfl) (Nat.le_of_ble_eq_true rfl) [1, 2, 3, 0] (lv' := [(0, .ref (h 0)), (1, .int x1), (2, .int x2), (3, .int x_9)]) rfl ?_
        refine j_goto 4 C dX1_differences_38 rfl ?_
        refine J.l0 [0, 1, 2, 3] rfl ?_
        exact ih _ _ _ _ hq
      · replace hq := hq.2 c_8
        obtain ⟨x_10, ex_10⟩ : ∃ y : Int32, y = (x2 + (1 : Int32)) := ⟨_, rfl⟩
        replace hq := hq x_10 ex_10
        refine j_iinc 35 C dX1_differences_32 rfl 2 rfl (v := x_10) (by rw [ex_10]; rfl) (Nat.le_of_ble_eq_true rfl) [1, 2, 0, 3] (lv' := [(0, .ref (h 0)), (1, .int x1), (2, .int x_10), (3, .int x3)]) rfl ?_
        obtain ⟨x_11, ex_11⟩ : ∃ y : Int32, y = (x3 + (1 : Int32)) := ⟨_, rfl⟩
        replace hq := hq x_11 ex_11
        refine j_iinc 38 C dX1_differences_35 rfl 3 rfl (v := x_11) (by rw [ex_11]; rfl) (Nat.le_of_ble_eq_true rfl) [1, 2, 3, 0] (lv' := [(0, .ref (h 0)), (1, .int x1), (2, .int x_10), (3, .int x_11)]) rfl ?_
        refine j_goto 4 C dX1_differences_38 rfl ?_
        refine J.l0 [0, 1, 2, 3] rfl ?_
        exact ih _ _ _ _ hq
def Q_X1_differences (p0 : Int32) (f : FF) (v : VV) (post : Int32 → FF → VV → Prop) : Prop := ∃ n_12 : Nat, Q_X1_differences_L4 p0 (fun x_13 x_14 f_15 v_16 => (post x_13 f_15 v_16)) n_12 (0 : Int32) (0 : Int32) f v
set_option maxRecDepth 100000 in
set_option maxHeartbeats 4000000 in
theorem m_X1_differences {l : Launch} (G : Gx) (h : Nat → Nat) (p0 : Int32) (f : FF) (v : VV) {post : Int32 → FF → VV → Prop} (hq : Q_X1_differences p0 f v post) : MetI l yX1_differences (gC yX1_differences cX1_differences 4 (some .int)) rmX1_differences G [.ref (h 0), .int p0] (wP G h) f v post := by
  refine met_i (own := RX1) (by decide) rfl (Nat.le_of_ble_eq_true rfl) (fun κ hκ C hR => ?_)
  unfold Q_X1_differences at hq
  subst hκ
  show J κ 0 0 (wP G h f v) 0 [(0, .ref (h 0)), (1, .int p0)] []
  refine j_iconst 1 C dX1_differences_0 rfl ic_0 ?_
  refine j_istore_n 2 C dX1_differences_1 rfl (Nat.le_of_ble_eq_true rfl) [1, 2, 0] (lv' := [(0, .ref (h 0)), (1, .int p0), (2, .int (0 : Int32))]) rfl ?_
  refine j_iconst 3 C dX1_differences_2 rfl ic_0 ?_
  refine j_istore_n 4 C dX1_differences_3 rfl (Nat.le_of_ble_eq_true rfl) [1, 2, 3, 0] (lv' := [(0, .ref (h 0)), (1, .int p0), (2, .int (0 : Int32)), (3, .int (0 : Int32))]) rfl ?_
  obtain ⟨n_12, hq⟩ := hq
  refine t_X1_differences_L4 C ?_ n_12 _ _ _ _ hq
  · intro x_13 x_14 f_15 v_16 hq
    refine j_iload_n 42 C dX1_differences_41 rfl 2 rfl ?_
    exact hR _ _ _ f_15 v_16 dX1_differences_42 hq
def Q_X4_oneIf (p0 : Int32) (post : Int32 → Prop) : Prop := ((p0 = 0 → (post (0 : Int32))) ∧ (¬ p0 = 0 → (post (1 : Int32))))
set_option maxRecDepth 100000 in
set_option maxHeartbeats 4000000 in
theorem m_X4_oneIf {l : Launch} (G : Gx) (p0 : Int32) {post : Int32 → Prop} (hq : Q_X4_oneIf p0 post) : MetI l yX4_oneIf (gC yX4_oneIf cX4_oneIf 1 (some .int)) rmX4_oneIf G [.int p0] w0 f0 v0 (fun r _ _ => post r) := by
  refine met_i (own := RX4) (by decide) rfl (Nat.le_of_ble_eq_true rfl) (fun κ hκ C hR => ?_)
  unfold Q_X4_oneIf at hq
  subst hκ
  show J κ 0 0 [] 0 [(0, .int p0)] []
  refine j_iload_n 1 C dX4_oneIf_0 rfl 0 rfl ?_
  refine j_if_eq 4 8 C dX4_oneIf_1 rfl rfl (fun c_1 => ?_) (fun c_1 => ?_)
  · replace hq := hq.1 c_1
    refine j_iconst 9 C dX4_oneIf_8 rfl ic_0 ?_
    exact hR _ _ _ f0 v0 dX4_oneIf_9 hq
  · replace hq := hq.2 c_1
    refine j_iconst 5 C dX4_oneIf_4 rfl ic_1 ?_
    refine j_goto 9 C dX4_oneIf_5 rfl ?_
    exact hR _ _ _ f0 v0 dX4_oneIf_9 hq
def Q_X0_isSubsumed (p0 : Int32) (p1 : Int32) (f : FF) (v : VV) (post : Int32 → Prop) : Prop := vp_in p1 20 ∧ (((((f 1) (p1).toNatClampNeg) = 0 → (post (0 : Int32))) ∧ (¬ ((f 1) (p1).toNatClampNeg) = 0 → (vp_in p1 20 ∧ (vp_in p0 20 ∧ (((¬ (((f 1) (p1).toNatClampNeg) &&& (((f 1) (p0).toNatClampNeg) ^^^ (-1 : Int32))) = 0 → (post (0 : Int32))) ∧ ((((f 1) (p1).toNatClampNeg) &&& (((f 1) (p0).toNatClampNeg) ^^^ (-1 : Int32))) = 0 → (post (1 : Int32))))))))))
set_option maxRecDepth 100000 in
set_option maxHeartbeats 4000000 in
theorem m_X0_isSubsumed {l : Launch} (G : Gx) (h : Nat → Nat) (p0 : Int32) (p1 : Int32) (f : FF) (v : VV) {post : Int32 → Prop} (hq : Q_X0_isSubsumed p0 p1 f v post) : MetI l yX0_isSubsumed (gC yX0_isSubsumed cX0_isSubsumed 3 (some .boolean)) rmX0_isSubsumed G [.ref (h 0), .int p0, .int p1] (wK G h) f v (fun r f' v' => post r ∧ f' = f ∧ v' = v) := by
  refine met_z (own := RX0) (by decide) rfl (Nat.le_of_ble_eq_true rfl) (fun κ hκ C hR => ?_)
  unfold Q_X0_isSubsumed at hq
  subst hκ
  show J κ 0 0 (wK G h f v) 0 [(0, .ref (h 0)), (1, .int p0), (2, .int p1)] []
  refine j_aload_n 1 C dX0_isSubsumed_0 rfl 0 rfl ?_
  refine j_get 4 C uX0 0 rfl rfl 1 (Nat.le_of_ble_eq_true rfl) lX0_15 (v := .ref (h 2)) rfl dX0_isSubsumed_1 rfl ?_
  refine j_iload_n 5 C dX0_isSubsumed_4 rfl 2 rfl ?_
  obtain ⟨hi_1, hq⟩ := hq
  refine j_iald 6 C 2 (f := (f 1)) rfl hi_1 dX0_isSubsumed_5 rfl ?_
  refine j_if_eq 9 31 C dX0_isSubsumed_6 rfl rfl (fun c_2 => ?_) (fun c_2 => ?_)
  · replace hq := hq.1 c_2
    refine j_iconst 32 C dX0_isSubsumed_31 rfl ic_0 ?_
    exact hR _ _ _ f v dX0_isSubsumed_32 (Or.inl rfl) ⟨hq, rfl, rfl⟩
  · replace hq := hq.2 c_2
    refine j_aload_n 10 C dX0_isSubsumed_9 rfl 0 rfl ?_
    refine j_get 13 C uX0 0 rfl rfl 1 (Nat.le_of_ble_eq_true rfl) lX0_15 (v := .ref (h 2)) rfl dX0_isSubsumed_10 rfl ?_
    refine j_iload_n 14 C dX0_isSubsumed_13 rfl 2 rfl ?_
    obtain ⟨hi_3, hq⟩ := hq
    refine j_iald 15 C 2 (f := (f 1)) rfl hi_3 dX0_isSubsumed_14 rfl ?_
    refine j_aload_n 16 C dX0_isSubsumed_15 rfl 0 rfl ?_
    refine j_get 19 C uX0 0 rfl rfl 1 (Nat.le_of_ble_eq_true rfl) lX0_15 (v := .ref (h 2)) rfl dX0_isSubsumed_16 rfl ?_
    refine j_iload_n 20 C dX0_isSubsumed_19 rfl 1 rfl ?_
    obtain ⟨hi_4, hq⟩ := hq
    refine j_iald 21 C 2 (f := (f 1)) rfl hi_4 dX0_isSubsumed_20 rfl ?_
    refine j_iconst 22 C dX0_isSubsumed_21 rfl ic_m1 ?_
    refine j_ixor 23 C dX0_isSubsumed_22 rfl ?_
    refine j_iand 24 C dX0_isSubsumed_23 rfl ?_
    refine j_if_ne 27 31 C dX0_isSubsumed_24 rfl rfl (fun c_5 => ?_) (fun c_5 => ?_)
    · replace hq := hq.1 c_5
      refine j_iconst 32 C dX0_isSubsumed_31 rfl ic_0 ?_
      exact hR _ _ _ f v dX0_isSubsumed_32 (Or.inl rfl) ⟨hq, rfl, rfl⟩
    · replace hq := hq.2 c_5
      refine j_iconst 28 C dX0_isSubsumed_27 rfl ic_1 ?_
      refine j_goto 32 C dX0_isSubsumed_28 rfl ?_
      exact hR _ _ _ f v dX0_isSubsumed_32 (Or.inr rfl) ⟨hq, rfl, rfl⟩
def Q_X0_isLeast_L13 (f : FF) (v : VV) (x1 : Int32) (K50 : Int32 → Prop) (K58 : Int32 → Prop) : Nat → Int32 → Prop
  | 0, _ => False
  | n + 1, x2 => (((v 1) ≤ x2 → (K58 x2)) ∧ (¬ (v 1) ≤ x2 → (Q_X0_isSubsumed x1 x2 f v (fun r_4 => (((r_4 = 0 → (∀ x_6 : Int32, x_6 = (x2 + (1 : Int32)) → (Q_X0_isLeast_L13 f v x1 K50 K58 n x_6))) ∧ (¬ r_4 = 0 → (vp_in x2 20 ∧ (vp_in x1 20 ∧ (((¬ ((f 1) (x2).toNatClampNeg) = ((f 1) (x1).toNatClampNeg) → (K50 x2)) ∧ (((f 1) (x2).toNatClampNeg) = ((f 1) (x1).toNatClampNeg) → (((x1 ≤ x2 → (∀ x_11 : Int32, x_11 = (x2 + (1 : Int32)) → (Q_X0_isLeast_L13 f v x1 K50 K58 n x_11))) ∧ (¬ x1 ≤ x2 → (K50 x2))))))))))))))))
set_option maxRecDepth 100000 in
set_option maxHeartbeats 4000000 in
theorem t_X0_isLeast_L13 {κ : Kx} {G : Gx} {h : Nat → Nat} (C : Cx κ G RX0 cX0_isLeast rmX0_isLeast 3) {f : FF} {v : VV} {x1 : Int32} {K50 : Int32 → Prop} {K58 : Int32 → Prop} (hK50 : ∀ (x2 : Int32), K50 x2 → J κ 0 0 (wK G h f v) 50 [(0, .ref (h 0)), (1, .int x1), (2, .int x2)] []) (hK58 : ∀ (x2 : Int32), K58 x2 → J κ 0 0 (wK G h f v) 58 [(0, .ref (h 0)), (1, .int x1), (2, .int x2)] []) : ∀ (n : Nat) (x2 : Int32), Q_X0_isLeast_L13 f v x1 K50 K58 n x2 → J κ 0 0 (wK G h f v) 13 [(0, .ref (h 0)), (1, .int x1), (2, .int x2)] [] := by
  intro n
  induction n with
  | zero => intro x2 hq; exact False.elim hq
  | succ n ih =>
    intro x2 hq
    rw [Q_X0_isLeast_L13] at hq
    refine j_iload_n 14 C dX0_isLeast_13 rfl 2 rfl ?_
    refine j_aload_n 15 C dX0_isLeast_14 rfl 0 rfl ?_
    refine j_get 18 C uX0 0 rfl rfl 5 (Nat.le_of_ble_eq_true rfl) lX0_35 (v := .int (v 1)) rfl dX0_isLeast_15 rfl ?_
    refine j_icmp_ge 21 58 C dX0_isLeast_18 rfl rfl (fun c_3 => ?_) (fun c_3 => ?_)
    · replace hq := hq.1 c_3
      refine J.l0 [0, 1, 2] rfl ?_
      exact hK58 _ hq
    · replace hq := hq.2 c_3
      refine j_aload_n 22 C dX0_isLeast_21 rfl 0 rfl ?_
      refine j_iload_n 23 C dX0_isLeast_22 rfl 1 rfl ?_
      refine j_iload_n 24 C dX0_isLeast_23 rfl 2 rfl ?_
      refine j_callVi_ro 27 C [] [] (As := [.int x1, .int x2]) (m_X0_isSubsumed G h x1 x2 f v hq) oX0_isSubsumed kX0_47 ⟨rfl, rfl⟩ eX0_isSubsumed ⟨Nat.le_of_ble_eq_true rfl, Nat.le_of_ble_eq_true rfl⟩ ⟨Nat.zero_le _, Nat.zero_le _⟩ (List.append_nil _).symm (fun _ _ => rfl) 0 rfl rfl rfl (Nat.le_of_ble_eq_true rfl) dX0_isLeast_24 rfl (fun r_4 hq => ?_)
      refine j_if_eq 30 52 C dX0_isLeast_27 rfl rfl (fun c_5 => ?_) (fun c_5 => ?_)
      · replace hq := hq.1 c_5
        obtain ⟨x_6, ex_6⟩ : ∃ y : Int32, y = (x2 + (1 : Int32)) := ⟨_, rfl⟩
        replace hq := hq x_6 ex_6
        refine j_iinc 55 C dX0_isLeast_52 rfl 2 rfl (v := x_6) (by rw [ex_6]; rfl) (Nat.le_of_ble_eq_true rfl) [1, 2, 0] (lv' := [(0, .ref (h 0)), (1, .int x1), (2, .int x_6)]) rfl ?_
        refine j_goto 13 C dX0_isLeast_55 rfl ?_
        refine J.l0 [0, 1, 2] rfl ?_
        exact ih _ hq
      · replace hq := hq.2 c_5
        refine j_aload_n 31 C dX0_isLeast_30 rfl 0 rfl ?_
        refine j_get 34 C uX0 0 rfl rfl 1 (Nat.le_of_ble_eq_true rfl) lX0_15 (v := .ref (h 2)) rfl dX0_isLeast_31 rfl ?_
        refine j_iload_n 35 C dX0_isLeast_34 rfl 2 rfl ?_
        obtain ⟨hi_7, hq⟩ := hq
        refine j_iald 36 C 2 (f := (f 1)) rfl hi_7 dX0_isLeast_35 rfl ?_
        refine j_aload_n 37 C dX0_isLeast_36 rfl 0 rfl ?_
        refine j_get 40 C uX0 0 rfl rfl 1 (Nat.le_of_ble_eq_true rfl) lX0_15 (v := .ref (h 2)) rfl dX0_isLeast_37 rfl ?_
        refine j_iload_n 41 C dX0_isLeast_40 rfl 1 rfl ?_
        obtain ⟨hi_8, hq⟩ := hq
        refine j_iald 42 C 2 (f := (f 1)) rfl hi_8 dX0_isLeast_41 rfl ?_
        refine j_icmp_ne 45 50 C dX0_isLeast_42 rfl rfl (fun c_9 => ?_) (fun c_9 => ?_)
        · replace hq := hq.1 c_9
          refine J.l0 [0, 1, 2] rfl ?_
          exact hK50 _ hq
        · replace hq := hq.2 c_9
          refine j_iload_n 46 C dX0_isLeast_45 rfl 2 rfl ?_
          refine j_iload_n 47 C dX0_isLeast_46 rfl 1 rfl ?_
          refine j_icmp_ge 50 52 C dX0_isLeast_47 rfl rfl (fun c_10 => ?_) (fun c_10 => ?_)
          · replace hq := hq.1 c_10
            obtain ⟨x_11, ex_11⟩ : ∃ y : Int32, y = (x2 + (1 : Int32)) := ⟨_, rfl⟩
            replace hq := hq x_11 ex_11
            refine j_iinc 55 C dX0_isLeast_52 rfl 2 rfl (v := x_11) (by rw [ex_11]; rfl) (Nat.le_of_ble_eq_true rfl) [1, 2, 0] (lv' := [(0, .ref (h 0)), (1, .int x1), (2, .int x_11)]) rfl ?_
            refine j_goto 13 C dX0_isLeast_55 rfl ?_
            refine J.l0 [0, 1, 2] rfl ?_
            exact ih _ hq
          · replace hq := hq.2 c_10
            refine J.l0 [0, 1, 2] rfl ?_
            exact hK50 _ hq
def Q_X0_isLeast (p0 : Int32) (f : FF) (v : VV) (post : Int32 → Prop) : Prop := vp_in p0 20 ∧ (((¬ ((f 1) (p0).toNatClampNeg) = 0 → (∃ n_12 : Nat, Q_X0_isLeast_L13 f v p0 (fun x_13 => (post (0 : Int32))) (fun x_14 => (post (1 : Int32))) n_12 (0 : Int32))) ∧ (((f 1) (p0).toNatClampNeg) = 0 → (post (0 : Int32)))))
set_option maxRecDepth 100000 in
set_option maxHeartbeats 4000000 in
theorem m_X0_isLeast {l : Launch} (G : Gx) (h : Nat → Nat) (p0 : Int32) (f : FF) (v : VV) {post : Int32 → Prop} (hq : Q_X0_isLeast p0 f v post) : MetI l yX0_isLeast (gC yX0_isLeast cX0_isLeast 3 (some .boolean)) rmX0_isLeast G [.ref (h 0), .int p0] (wK G h) f v (fun r f' v' => post r ∧ f' = f ∧ v' = v) := by
  refine met_z (own := RX0) (by decide) rfl (Nat.le_of_ble_eq_true rfl) (fun κ hκ C hR => ?_)
  unfold Q_X0_isLeast at hq
  subst hκ
  show J κ 0 0 (wK G h f v) 0 [(0, .ref (h 0)), (1, .int p0)] []
  refine j_aload_n 1 C dX0_isLeast_0 rfl 0 rfl ?_
  refine j_get 4 C uX0 0 rfl rfl 1 (Nat.le_of_ble_eq_true rfl) lX0_15 (v := .ref (h 2)) rfl dX0_isLeast_1 rfl ?_
  refine j_iload_n 5 C dX0_isLeast_4 rfl 1 rfl ?_
  obtain ⟨hi_1, hq⟩ := hq
  refine j_iald 6 C 2 (f := (f 1)) rfl hi_1 dX0_isLeast_5 rfl ?_
  refine j_if_ne 9 11 C dX0_isLeast_6 rfl rfl (fun c_2 => ?_) (fun c_2 => ?_)
  · replace hq := hq.1 c_2
    refine j_iconst 12 C dX0_isLeast_11 rfl ic_0 ?_
    refine j_istore_n 13 C dX0_isLeast_12 rfl (Nat.le_of_ble_eq_true rfl) [1, 2, 0] (lv' := [(0, .ref (h 0)), (1, .int p0), (2, .int (0 : Int32))]) rfl ?_
    obtain ⟨n_12, hq⟩ := hq
    refine t_X0_isLeast_L13 C ?_ ?_ n_12 _ hq
    · intro x_13 hq
      refine j_iconst 51 C dX0_isLeast_50 rfl ic_0 ?_
      exact hR _ _ _ f v dX0_isLeast_51 (Or.inl rfl) ⟨hq, rfl, rfl⟩
    · intro x_14 hq
      refine j_iconst 59 C dX0_isLeast_58 rfl ic_1 ?_
      exact hR _ _ _ f v dX0_isLeast_59 (Or.inr rfl) ⟨hq, rfl, rfl⟩
  · replace hq := hq.2 c_2
    refine j_iconst 10 C dX0_isLeast_9 rfl ic_0 ?_
    exact hR _ _ _ f v dX0_isLeast_10 (Or.inl rfl) ⟨hq, rfl, rfl⟩
def Q_X0_countSubsumed_L4 (f : FF) (v : VV) (x1 : Int32) (K30 : Int32 → Int32 → Prop) : Nat → Int32 → Int32 → Prop
  | 0, _, _ => False
  | n + 1, x2, x3 => (((v 1) ≤ x3 → (K30 x2 x3)) ∧ (¬ (v 1) ≤ x3 → (Q_X0_isSubsumed x3 x1 f v (fun r_2 => (((r_2 = 0 → (∀ x_4 : Int32, x_4 = (x3 + (1 : Int32)) → (Q_X0_countSubsumed_L4 f v x1 K30 n x2 x_4))) ∧ (¬ r_2 = 0 → (∀ x_5 : Int32, x_5 = (x2 + (1 : Int32)) → (∀ x_6 : Int32, x_6 = (x3 + (1 : Int32)) → (Q_X0_countSubsumed_L4 f v x1 K30 n x_5 x_6))))))))))
set_option maxRecDepth 100000 in
set_option maxHeartbeats 4000000 in
theorem t_X0_countSubsumed_L4 {κ : Kx} {G : Gx} {h : Nat → Nat} (C : Cx κ G RX0 cX0_countSubsumed rmX0_countSubsumed 4) {f : FF} {v : VV} {x1 : Int32} {K30 : Int32 → Int32 → Prop} (hK30 : ∀ (x2 : Int32) (x3 : Int32), K30 x2 x3 → J κ 0 0 (wK G h f v) 30 [(0, .ref (h 0)), (1, .int x1), (2, .int x2), (3, .int x3)] []) : ∀ (n : Nat) (x2 : Int32) (x3 : Int32), Q_X0_countSubsumed_L4 f v x1 K30 n x2 x3 → J κ 0 0 (wK G h f v) 4 [(0, .ref (h 0)), (1, .int x1), (2, .int x2), (3, .int x3)] [] := by
  intro n
  induction n with
  | zero => intro x2 x3 hq; exact False.elim hq
  | succ n ih =>
    intro x2 x3 hq
    rw [Q_X0_countSubsumed_L4] at hq
    refine j_iload_n 5 C dX0_countSubsumed_4 rfl 3 rfl ?_
    refine j_aload_n 6 C dX0_countSubsumed_5 rfl 0 rfl ?_
    refine j_get 9 C uX0 0 rfl rfl 5 (Nat.le_of_ble_eq_true rfl) lX0_35 (v := .int (v 1)) rfl dX0_countSubsumed_6 rfl ?_
    refine j_icmp_ge 12 30 C dX0_countSubsumed_9 rfl rfl (fun c_1 => ?_) (fun c_1 => ?_)
    · replace hq := hq.1 c_1
      refine J.l0 [0, 1, 2, 3] rfl ?_
      exact hK30 _ _ hq
    · replace hq := hq.2 c_1
      refine j_aload_n 13 C dX0_countSubsumed_12 rfl 0 rfl ?_
      refine j_iload_n 14 C dX0_countSubsumed_13 rfl 3 rfl ?_
      refine j_iload_n 15 C dX0_countSubsumed_14 rfl 1 rfl ?_
      refine j_callVi_ro 18 C [] [] (As := [.int x3, .int x1]) (m_X0_isSubsumed G h x3 x1 f v hq) oX0_isSubsumed kX0_47 ⟨rfl, rfl⟩ eX0_isSubsumed ⟨Nat.le_of_ble_eq_true rfl, Nat.le_of_ble_eq_true rfl⟩ ⟨Nat.zero_le _, Nat.zero_le _⟩ (List.append_nil _).symm (fun _ _ => rfl) 0 rfl rfl rfl (Nat.le_of_ble_eq_true rfl) dX0_countSubsumed_15 rfl (fun r_2 hq => ?_)
      refine j_if_eq 21 24 C dX0_countSubsumed_18 rfl rfl (fun c_3 => ?_) (fun c_3 => ?_)
      · replace hq := hq.1 c_3
        obtain ⟨x_4, ex_4⟩ : ∃ y : Int32, y = (x3 + (1 : Int32)) := ⟨_, rfl⟩
        replace hq := hq x_4 ex_4
        refine j_iinc 27 C dX0_countSubsumed_24 rfl 3 rfl (v := x_4) (by rw [ex_4]; rfl) (Nat.le_of_ble_eq_true rfl) [1, 2, 3, 0] (lv' := [(0, .ref (h 0)), (1, .int x1), (2, .int x2), (3, .int x_4)]) rfl ?_
        refine j_goto 4 C dX0_countSubsumed_27 rfl ?_
        refine J.l0 [0, 1, 2, 3] rfl ?_
        exact ih _ _ hq
      · replace hq := hq.2 c_3
        obtain ⟨x_5, ex_5⟩ : ∃ y : Int32, y = (x2 + (1 : Int32)) := ⟨_, rfl⟩
        replace hq := hq x_5 ex_5
        refine j_iinc 24 C dX0_countSubsumed_21 rfl 2 rfl (v := x_5) (by rw [ex_5]; rfl) (Nat.le_of_ble_eq_true rfl) [1, 2, 0, 3] (lv' := [(0, .ref (h 0)), (1, .int x1), (2, .int x_5), (3, .int x3)]) rfl ?_
        obtain ⟨x_6, ex_6⟩ : ∃ y : Int32, y = (x3 + (1 : Int32)) := ⟨_, rfl⟩
        replace hq := hq x_6 ex_6
        refine j_iinc 27 C dX0_countSubsumed_24 rfl 3 rfl (v := x_6) (by rw [ex_6]; rfl) (Nat.le_of_ble_eq_true rfl) [1, 2, 3, 0] (lv' := [(0, .ref (h 0)), (1, .int x1), (2, .int x_5), (3, .int x_6)]) rfl ?_
        refine j_goto 4 C dX0_countSubsumed_27 rfl ?_
        refine J.l0 [0, 1, 2, 3] rfl ?_
        exact ih _ _ hq
def Q_X0_countSubsumed (p0 : Int32) (f : FF) (v : VV) (post : Int32 → Prop) : Prop := ∃ n_7 : Nat, Q_X0_countSubsumed_L4 f v p0 (fun x_8 x_9 => (post x_8)) n_7 (0 : Int32) (0 : Int32)
set_option maxRecDepth 100000 in
set_option maxHeartbeats 4000000 in
theorem m_X0_countSubsumed {l : Launch} (G : Gx) (h : Nat → Nat) (p0 : Int32) (f : FF) (v : VV) {post : Int32 → Prop} (hq : Q_X0_countSubsumed p0 f v post) : MetI l yX0_countSubsumed (gC yX0_countSubsumed cX0_countSubsumed 4 (some .int)) rmX0_countSubsumed G [.ref (h 0), .int p0] (wK G h) f v (fun r f' v' => post r ∧ f' = f ∧ v' = v) := by
  refine met_i (own := RX0) (by decide) rfl (Nat.le_of_ble_eq_true rfl) (fun κ hκ C hR => ?_)
  unfold Q_X0_countSubsumed at hq
  subst hκ
  show J κ 0 0 (wK G h f v) 0 [(0, .ref (h 0)), (1, .int p0)] []
  refine j_iconst 1 C dX0_countSubsumed_0 rfl ic_0 ?_
  refine j_istore_n 2 C dX0_countSubsumed_1 rfl (Nat.le_of_ble_eq_true rfl) [1, 2, 0] (lv' := [(0, .ref (h 0)), (1, .int p0), (2, .int (0 : Int32))]) rfl ?_
  refine j_iconst 3 C dX0_countSubsumed_2 rfl ic_0 ?_
  refine j_istore_n 4 C dX0_countSubsumed_3 rfl (Nat.le_of_ble_eq_true rfl) [1, 2, 3, 0] (lv' := [(0, .ref (h 0)), (1, .int p0), (2, .int (0 : Int32)), (3, .int (0 : Int32))]) rfl ?_
  obtain ⟨n_7, hq⟩ := hq
  refine t_X0_countSubsumed_L4 C ?_ n_7 _ _ hq
  · intro x_8 x_9 hq
    refine j_iload_n 31 C dX0_countSubsumed_30 rfl 2 rfl ?_
    exact hR _ _ _ f v dX0_countSubsumed_31 ⟨hq, rfl, rfl⟩
def Q_J6_bitCount_0f7a4 (p0 : Int32) (post : Int32 → Prop) : Prop := ∀ x_1 : Int32, x_1 = (p0 - (((p0.toUInt32 >>> ((1 : Int32).toUInt32 &&& Int32.toUInt32 31)).toInt32) &&& (1431655765 : Int32))) → (∀ x_2 : Int32, x_2 = ((x_1 &&& (858993459 : Int32)) + (((x_1.toUInt32 >>> ((2 : Int32).toUInt32 &&& Int32.toUInt32 31)).toInt32) &&& (858993459 : Int32))) → (∀ x_3 : Int32, x_3 = ((x_2 + ((x_2.toUInt32 >>> ((4 : Int32).toUInt32 &&& Int32.toUInt32 31)).toInt32)) &&& (252645135 : Int32)) → (∀ x_4 : Int32, x_4 = (x_3 + ((x_3.toUInt32 >>> ((8 : Int32).toUInt32 &&& Int32.toUInt32 31)).toInt32)) → (∀ x_5 : Int32, x_5 = (x_4 + ((x_4.toUInt32 >>> ((16 : Int32).toUInt32 &&& Int32.toUInt32 31)).toInt32)) → (post (x_5 &&& (63 : Int32)))))))
set_option maxRecDepth 100000 in
set_option maxHeartbeats 4000000 in
theorem m_J6_bitCount_0f7a4 {l : Launch} (G : Gx) (p0 : Int32) {post : Int32 → Prop} (hq : Q_J6_bitCount_0f7a4 p0 post) : MetI l yJ6_bitCount_0f7a4 (gC yJ6_bitCount_0f7a4 cJ6_bitCount_0f7a4 1 (some .int)) rmJ6_bitCount_0f7a4 G [.int p0] w0 f0 v0 (fun r _ _ => post r) := by
  refine met_i (own := RJ6) (by decide) rfl (Nat.le_of_ble_eq_true rfl) (fun κ hκ C hR => ?_)
  unfold Q_J6_bitCount_0f7a4 at hq
  subst hκ
  show J κ 0 0 [] 0 [(0, .int p0)] []
  refine j_iload_n 1 C dJ6_bitCount_0f7a4_0 rfl 0 rfl ?_
  refine j_iload_n 2 C dJ6_bitCount_0f7a4_1 rfl 0 rfl ?_
  refine j_iconst 3 C dJ6_bitCount_0f7a4_2 rfl ic_1 ?_
  refine j_iushr 4 C dJ6_bitCount_0f7a4_3 rfl ?_
  refine j_ldc_w 7 C dJ6_bitCount_0f7a4_4 rfl kJ6_265 ?_
  refine j_iand 8 C dJ6_bitCount_0f7a4_7 rfl ?_
  refine j_isub 9 C dJ6_bitCount_0f7a4_8 rfl ?_
  refine J.topi (fun x_1 ex_1 => ?_)
  replace hq := hq x_1 ex_1
  refine j_istore_n 10 C dJ6_bitCount_0f7a4_9 rfl (Nat.le_of_ble_eq_true rfl) [0] (lv' := [(0, .int x_1)]) rfl ?_
  refine j_iload_n 11 C dJ6_bitCount_0f7a4_10 rfl 0 rfl ?_
  refine j_ldc_w 14 C dJ6_bitCount_0f7a4_11 rfl kJ6_266 ?_
  refine j_iand 15 C dJ6_bitCount_0f7a4_14 rfl ?_
  refine j_iload_n 16 C dJ6_bitCount_0f7a4_15 rfl 0 rfl ?_
  refine j_iconst 17 C dJ6_bitCount_0f7a4_16 rfl ic_2 ?_
  refine j_iushr 18 C dJ6_bitCount_0f7a4_17 rfl ?_
  refine j_ldc_w 21 C dJ6_bitCount_0f7a4_18 rfl kJ6_266 ?_
  refine j_iand 22 C dJ6_bitCount_0f7a4_21 rfl ?_
  refine j_iadd 23 C dJ6_bitCount_0f7a4_22 rfl ?_
  refine J.topi (fun x_2 ex_2 => ?_)
  replace hq := hq x_2 ex_2
  refine j_istore_n 24 C dJ6_bitCount_0f7a4_23 rfl (Nat.le_of_ble_eq_true rfl) [0] (lv' := [(0, .int x_2)]) rfl ?_
  refine j_iload_n 25 C dJ6_bitCount_0f7a4_24 rfl 0 rfl ?_
  refine j_iload_n 26 C dJ6_bitCount_0f7a4_25 rfl 0 rfl ?_
  refine j_iconst 27 C dJ6_bitCount_0f7a4_26 rfl ic_4 ?_
  refine j_iushr 28 C dJ6_bitCount_0f7a4_27 rfl ?_
  refine j_iadd 29 C dJ6_bitCount_0f7a4_28 rfl ?_
  refine j_ldc_w 32 C dJ6_bitCount_0f7a4_29 rfl kJ6_267 ?_
  refine j_iand 33 C dJ6_bitCount_0f7a4_32 rfl ?_
  refine J.topi (fun x_3 ex_3 => ?_)
  replace hq := hq x_3 ex_3
  refine j_istore_n 34 C dJ6_bitCount_0f7a4_33 rfl (Nat.le_of_ble_eq_true rfl) [0] (lv' := [(0, .int x_3)]) rfl ?_
  refine j_iload_n 35 C dJ6_bitCount_0f7a4_34 rfl 0 rfl ?_
  refine j_iload_n 36 C dJ6_bitCount_0f7a4_35 rfl 0 rfl ?_
  refine j_bipush 38 C dJ6_bitCount_0f7a4_36 rfl bc_8 ?_
  refine j_iushr 39 C dJ6_bitCount_0f7a4_38 rfl ?_
  refine j_iadd 40 C dJ6_bitCount_0f7a4_39 rfl ?_
  refine J.topi (fun x_4 ex_4 => ?_)
  replace hq := hq x_4 ex_4
  refine j_istore_n 41 C dJ6_bitCount_0f7a4_40 rfl (Nat.le_of_ble_eq_true rfl) [0] (lv' := [(0, .int x_4)]) rfl ?_
  refine j_iload_n 42 C dJ6_bitCount_0f7a4_41 rfl 0 rfl ?_
  refine j_iload_n 43 C dJ6_bitCount_0f7a4_42 rfl 0 rfl ?_
  refine j_bipush 45 C dJ6_bitCount_0f7a4_43 rfl bc_16 ?_
  refine j_iushr 46 C dJ6_bitCount_0f7a4_45 rfl ?_
  refine j_iadd 47 C dJ6_bitCount_0f7a4_46 rfl ?_
  refine J.topi (fun x_5 ex_5 => ?_)
  replace hq := hq x_5 ex_5
  refine j_istore_n 48 C dJ6_bitCount_0f7a4_47 rfl (Nat.le_of_ble_eq_true rfl) [0] (lv' := [(0, .int x_5)]) rfl ?_
  refine j_iload_n 49 C dJ6_bitCount_0f7a4_48 rfl 0 rfl ?_
  refine j_bipush 51 C dJ6_bitCount_0f7a4_49 rfl bc_63 ?_
  refine j_iand 52 C dJ6_bitCount_0f7a4_51 rfl ?_
  exact hR _ _ _ f0 v0 dJ6_bitCount_0f7a4_52 hq
def Q_X0_hardestMutant_L8 (f : FF) (v : VV) (K49 : Int32 → Int32 → Int32 → Prop) : Nat → Int32 → Int32 → Int32 → Prop
  | 0, _, _, _ => False
  | n + 1, x1, x2, x3 => (((v 1) ≤ x3 → (K49 x1 x2 x3)) ∧ (¬ (v 1) ≤ x3 → (vp_in x3 20 ∧ (Q_J6_bitCount_0f7a4 ((f 1) (x3).toNatClampNeg) (fun r_3 => (((r_3 ≤ 0 → (∀ x_5 : Int32, x_5 = (x3 + (1 : Int32)) → (Q_X0_hardestMutant_L8 f v K49 n x1 x2 x_5))) ∧ (¬ r_3 ≤ 0 → (((x2 ≤ r_3 → (∀ x_7 : Int32, x_7 = (x3 + (1 : Int32)) → (Q_X0_hardestMutant_L8 f v K49 n x1 x2 x_7))) ∧ (¬ x2 ≤ r_3 → (∀ x_8 : Int32, x_8 = (x3 + (1 : Int32)) → (Q_X0_hardestMutant_L8 f v K49 n x3 r_3 x_8)))))))))))))
set_option maxRecDepth 100000 in
set_option maxHeartbeats 4000000 in
theorem t_X0_hardestMutant_L8 {κ : Kx} {G : Gx} {h : Nat → Nat} (C : Cx κ G RX0 cX0_hardestMutant rmX0_hardestMutant 5) {f : FF} {v : VV} {K49 : Int32 → Int32 → Int32 → Prop} (hK49 : ∀ (x1 : Int32) (x2 : Int32) (x3 : Int32), K49 x1 x2 x3 → J κ 0 0 (wK G h f v) 49 [(0, .ref (h 0)), (1, .int x1), (2, .int x2), (3, .int x3)] []) : ∀ (n : Nat) (x1 : Int32) (x2 : Int32) (x3 : Int32), Q_X0_hardestMutant_L8 f v K49 n x1 x2 x3 → J κ 0 0 (wK G h f v) 8 [(0, .ref (h 0)), (1, .int x1), (2, .int x2), (3, .int x3)] [] := by
  intro n
  induction n with
  | zero => intro x1 x2 x3 hq; exact False.elim hq
  | succ n ih =>
    intro x1 x2 x3 hq
    rw [Q_X0_hardestMutant_L8] at hq
    refine j_iload_n 9 C dX0_hardestMutant_8 rfl 3 rfl ?_
    refine j_aload_n 10 C dX0_hardestMutant_9 rfl 0 rfl ?_
    refine j_get 13 C uX0 0 rfl rfl 5 (Nat.le_of_ble_eq_true rfl) lX0_35 (v := .int (v 1)) rfl dX0_hardestMutant_10 rfl ?_
    refine j_icmp_ge 16 49 C dX0_hardestMutant_13 rfl rfl (fun c_1 => ?_) (fun c_1 => ?_)
    · replace hq := hq.1 c_1
      refine J.l0 [0, 1, 2, 3] rfl ?_
      exact hK49 _ _ _ hq
    · replace hq := hq.2 c_1
      refine j_aload_n 17 C dX0_hardestMutant_16 rfl 0 rfl ?_
      refine j_get 20 C uX0 0 rfl rfl 1 (Nat.le_of_ble_eq_true rfl) lX0_15 (v := .ref (h 2)) rfl dX0_hardestMutant_17 rfl ?_
      refine j_iload_n 21 C dX0_hardestMutant_20 rfl 3 rfl ?_
      obtain ⟨hi_2, hq⟩ := hq
      refine j_iald 22 C 2 (f := (f 1)) rfl hi_2 dX0_hardestMutant_21 rfl ?_
      refine j_callSi 25 C [] (wK G h f v) (fun _ _ => (wK G h f v)) (As := [.int ((f 1) (x3).toNatClampNeg)]) (m_J6_bitCount_0f7a4 G ((f 1) (x3).toNatClampNeg) hq) oJ6_bitCount_0f7a4 kX0_55 ⟨rfl, rfl⟩ eJ6_bitCount_0f7a4 ⟨Nat.le_of_ble_eq_true rfl, Nat.le_of_ble_eq_true rfl⟩ ⟨Nat.zero_le _, Nat.zero_le _⟩ rfl (fun _ _ => rfl) (fun _ _ => rfl) rfl (Nat.le_of_ble_eq_true rfl) dX0_hardestMutant_22 rfl (fun r_3 _ _ hq => ?_)
      refine j_istore 27 C dX0_hardestMutant_25 rfl (Nat.le_of_ble_eq_true rfl) [1, 2, 3, 4, 0] (lv' := [(0, .ref (h 0)), (1, .int x1), (2, .int x2), (3, .int x3), (4, .int r_3)]) rfl ?_
      refine j_iload 29 C dX0_hardestMutant_27 rfl 4 rfl ?_
      refine j_if_le 32 43 C dX0_hardestMutant_29 rfl rfl (fun c_4 => ?_) (fun c_4 => ?_)
      · replace hq := hq.1 c_4
        obtain ⟨x_5, ex_5⟩ : ∃ y : Int32, y = (x3 + (1 : Int32)) := ⟨_, rfl⟩
        replace hq := hq x_5 ex_5
        refine j_iinc 46 C dX0_hardestMutant_43 rfl 3 rfl (v := x_5) (by rw [ex_5]; rfl) (Nat.le_of_ble_eq_true rfl) [1, 2, 3, 0, 4] (lv' := [(0, .ref (h 0)), (1, .int x1), (2, .int x2), (3, .int x_5), (4, .int r_3)]) rfl ?_
        refine j_goto 8 C dX0_hardestMutant_46 rfl ?_
        refine J.l0 [0, 1, 2, 3] rfl ?_
        exact ih _ _ _ hq
      · replace hq := hq.2 c_4
        refine j_iload 34 C dX0_hardestMutant_32 rfl 4 rfl ?_
        refine j_iload_n 35 C dX0_hardestMutant_34 rfl 2 rfl ?_
        refine j_icmp_ge 38 43 C dX0_hardestMutant_35 rfl rfl (fun c_6 => ?_) (fun c_6 => ?_)
        · replace hq := hq.1 c_6
          obtain ⟨x_7, ex_7⟩ : ∃ y : Int32, y = (x3 + (1 : Int32)) := ⟨_, rfl⟩
          replace hq := hq x_7 ex_7
          refine j_iinc 46 C dX0_hardestMutant_43 rfl 3 rfl (v := x_7) (by rw [ex_7]; rfl) (Nat.le_of_ble_eq_true rfl) [1, 2, 3, 0, 4] (lv' := [(0, .ref (h 0)), (1, .int x1), (2, .int x2), (3, .int x_7), (4, .int r_3)]) rfl ?_
          refine j_goto 8 C dX0_hardestMutant_46 rfl ?_
          refine J.l0 [0, 1, 2, 3] rfl ?_
          exact ih _ _ _ hq
        · replace hq := hq.2 c_6
          refine j_iload_n 39 C dX0_hardestMutant_38 rfl 3 rfl ?_
          refine j_istore_n 40 C dX0_hardestMutant_39 rfl (Nat.le_of_ble_eq_true rfl) [1, 0, 2, 3, 4] (lv' := [(0, .ref (h 0)), (1, .int x3), (2, .int x2), (3, .int x3), (4, .int r_3)]) rfl ?_
          refine j_iload 42 C dX0_hardestMutant_40 rfl 4 rfl ?_
          refine j_istore_n 43 C dX0_hardestMutant_42 rfl (Nat.le_of_ble_eq_true rfl) [1, 2, 0, 3, 4] (lv' := [(0, .ref (h 0)), (1, .int x3), (2, .int r_3), (3, .int x3), (4, .int r_3)]) rfl ?_
          obtain ⟨x_8, ex_8⟩ : ∃ y : Int32, y = (x3 + (1 : Int32)) := ⟨_, rfl⟩
          replace hq := hq x_8 ex_8
          refine j_iinc 46 C dX0_hardestMutant_43 rfl 3 rfl (v := x_8) (by rw [ex_8]; rfl) (Nat.le_of_ble_eq_true rfl) [1, 2, 3, 0, 4] (lv' := [(0, .ref (h 0)), (1, .int x3), (2, .int r_3), (3, .int x_8), (4, .int r_3)]) rfl ?_
          refine j_goto 8 C dX0_hardestMutant_46 rfl ?_
          refine J.l0 [0, 1, 2, 3] rfl ?_
          exact ih _ _ _ hq
def Q_X0_hardestMutant (f : FF) (v : VV) (post : Int32 → Prop) : Prop := ∃ n_9 : Nat, Q_X0_hardestMutant_L8 f v (fun x_10 x_11 x_12 => (post x_10)) n_9 (-9 : Int32) (8 : Int32) (0 : Int32)
set_option maxRecDepth 100000 in
set_option maxHeartbeats 4000000 in
theorem m_X0_hardestMutant {l : Launch} (G : Gx) (h : Nat → Nat) (f : FF) (v : VV) {post : Int32 → Prop} (hq : Q_X0_hardestMutant f v post) : MetI l yX0_hardestMutant (gC yX0_hardestMutant cX0_hardestMutant 5 (some .int)) rmX0_hardestMutant G [.ref (h 0)] (wK G h) f v (fun r f' v' => post r ∧ f' = f ∧ v' = v) := by
  refine met_i (own := RX0) (by decide) rfl (Nat.le_of_ble_eq_true rfl) (fun κ hκ C hR => ?_)
  unfold Q_X0_hardestMutant at hq
  subst hκ
  show J κ 0 0 (wK G h f v) 0 [(0, .ref (h 0))] []
  refine j_bipush 2 C dX0_hardestMutant_0 rfl bc_m9 ?_
  refine j_istore_n 3 C dX0_hardestMutant_2 rfl (Nat.le_of_ble_eq_true rfl) [1, 0] (lv' := [(0, .ref (h 0)), (1, .int (-9 : Int32))]) rfl ?_
  refine j_bipush 5 C dX0_hardestMutant_3 rfl bc_8 ?_
  refine j_istore_n 6 C dX0_hardestMutant_5 rfl (Nat.le_of_ble_eq_true rfl) [1, 2, 0] (lv' := [(0, .ref (h 0)), (1, .int (-9 : Int32)), (2, .int (8 : Int32))]) rfl ?_
  refine j_iconst 7 C dX0_hardestMutant_6 rfl ic_0 ?_
  refine j_istore_n 8 C dX0_hardestMutant_7 rfl (Nat.le_of_ble_eq_true rfl) [1, 2, 3, 0] (lv' := [(0, .ref (h 0)), (1, .int (-9 : Int32)), (2, .int (8 : Int32)), (3, .int (0 : Int32))]) rfl ?_
  obtain ⟨n_9, hq⟩ := hq
  refine t_X0_hardestMutant_L8 C ?_ n_9 _ _ _ hq
  · intro x_10 x_11 x_12 hq
    refine j_iload_n 50 C dX0_hardestMutant_49 rfl 1 rfl ?_
    exact hR _ _ _ f v dX0_hardestMutant_50 ⟨hq, rfl, rfl⟩
def Q_X4_isOfDay (p0 : Int32) (post : Int32 → Prop) : Prop := Q_X4_isWithin p0 (0 : Int32) (4 : Int32) (fun r_1 => (((¬ r_1 = 0 → (post (1 : Int32))) ∧ (r_1 = 0 → (Q_X4_isWithin p0 (10 : Int32) (16 : Int32) (fun r_3 => (((r_3 = 0 → (post (0 : Int32))) ∧ (¬ r_3 = 0 → (post (1 : Int32)))))))))))
set_option maxRecDepth 100000 in
set_option maxHeartbeats 4000000 in
theorem m_X4_isOfDay {l : Launch} (G : Gx) (p0 : Int32) {post : Int32 → Prop} (hq : Q_X4_isOfDay p0 post) : MetI l yX4_isOfDay (gC yX4_isOfDay cX4_isOfDay 1 (some .boolean)) rmX4_isOfDay G [.int p0] w0 f0 v0 (fun r _ _ => post r) := by
  refine met_z (own := RX4) (by decide) rfl (Nat.le_of_ble_eq_true rfl) (fun κ hκ C hR => ?_)
  unfold Q_X4_isOfDay at hq
  subst hκ
  show J κ 0 0 [] 0 [(0, .int p0)] []
  refine j_iload_n 1 C dX4_isOfDay_0 rfl 0 rfl ?_
  refine j_iconst 2 C dX4_isOfDay_1 rfl ic_0 ?_
  refine j_iconst 3 C dX4_isOfDay_2 rfl ic_4 ?_
  refine j_callSi 6 C [] [] (fun _ _ => []) (As := [.int p0, .int (0 : Int32), .int (4 : Int32)]) (m_X4_isWithin G p0 (0 : Int32) (4 : Int32) hq) oX4_isWithin kX4_54 ⟨rfl, rfl⟩ eX4_isWithin ⟨Nat.le_of_ble_eq_true rfl, Nat.le_of_ble_eq_true rfl⟩ ⟨Nat.zero_le _, Nat.zero_le _⟩ rfl (fun _ _ => rfl) (fun _ _ => rfl) rfl (Nat.le_of_ble_eq_true rfl) dX4_isOfDay_3 rfl (fun r_1 _ _ hq => ?_)
  refine j_if_ne 9 20 C dX4_isOfDay_6 rfl rfl (fun c_2 => ?_) (fun c_2 => ?_)
  · replace hq := hq.1 c_2
    refine j_iconst 21 C dX4_isOfDay_20 rfl ic_1 ?_
    refine j_goto 25 C dX4_isOfDay_21 rfl ?_
    exact hR _ _ _ f0 v0 dX4_isOfDay_25 (Or.inr rfl) hq
  · replace hq := hq.2 c_2
    refine j_iload_n 10 C dX4_isOfDay_9 rfl 0 rfl ?_
    refine j_bipush 12 C dX4_isOfDay_10 rfl bc_10 ?_
    refine j_bipush 14 C dX4_isOfDay_12 rfl bc_16 ?_
    refine j_callSi 17 C [] [] (fun _ _ => []) (As := [.int p0, .int (10 : Int32), .int (16 : Int32)]) (m_X4_isWithin G p0 (10 : Int32) (16 : Int32) hq) oX4_isWithin kX4_54 ⟨rfl, rfl⟩ eX4_isWithin ⟨Nat.le_of_ble_eq_true rfl, Nat.le_of_ble_eq_true rfl⟩ ⟨Nat.zero_le _, Nat.zero_le _⟩ rfl (fun _ _ => rfl) (fun _ _ => rfl) rfl (Nat.le_of_ble_eq_true rfl) dX4_isOfDay_14 rfl (fun r_3 _ _ hq => ?_)
    refine j_if_eq 20 24 C dX4_isOfDay_17 rfl rfl (fun c_4 => ?_) (fun c_4 => ?_)
    · replace hq := hq.1 c_4
      refine j_iconst 25 C dX4_isOfDay_24 rfl ic_0 ?_
      exact hR _ _ _ f0 v0 dX4_isOfDay_25 (Or.inl rfl) hq
    · replace hq := hq.2 c_4
      refine j_iconst 21 C dX4_isOfDay_20 rfl ic_1 ?_
      refine j_goto 25 C dX4_isOfDay_21 rfl ?_
      exact hR _ _ _ f0 v0 dX4_isOfDay_25 (Or.inr rfl) hq
def Q_X4_isAct (p0 : Int32) (p1 : Int32) (post : Int32 → Prop) : Prop := Q_X4_isWithin p1 (0 : Int32) (4 : Int32) (fun r_1 => (((r_1 = 0 → (Q_X4_isWithin p1 (10 : Int32) (16 : Int32) (fun r_3 => (((r_3 = 0 → (Q_X4_isWithin p1 (20 : Int32) (26 : Int32) (fun r_5 => (((r_5 = 0 → (post (0 : Int32))) ∧ (¬ r_5 = 0 → (Q_X4_isWithin p0 (0 : Int32) (99 : Int32) (fun r_7 => (((r_7 = 0 → (post (0 : Int32))) ∧ (¬ r_7 = 0 → (post (1 : Int32))))))))))))) ∧ (¬ r_3 = 0 → (Q_X4_isTime p0 (fun r_9 => (((r_9 = 0 ∨ r_9 = 1) ∧ post r_9)))))))))) ∧ (¬ r_1 = 0 → (Q_X4_isWithin p0 (0 : Int32) (4 : Int32) (fun r_10 => (((r_10 = 0 ∨ r_10 = 1) ∧ post r_10))))))))
set_option maxRecDepth 100000 in
set_option maxHeartbeats 4000000 in
theorem m_X4_isAct {l : Launch} (G : Gx) (p0 : Int32) (p1 : Int32) {post : Int32 → Prop} (hq : Q_X4_isAct p0 p1 post) : MetI l yX4_isAct (gC yX4_isAct cX4_isAct 2 (some .boolean)) rmX4_isAct G [.int p0, .int p1] w0 f0 v0 (fun r _ _ => post r) := by
  refine met_z (own := RX4) (by decide) rfl (Nat.le_of_ble_eq_true rfl) (fun κ hκ C hR => ?_)
  unfold Q_X4_isAct at hq
  subst hκ
  show J κ 0 0 [] 0 [(0, .int p0), (1, .int p1)] []
  refine j_iload_n 1 C dX4_isAct_0 rfl 1 rfl ?_
  refine j_iconst 2 C dX4_isAct_1 rfl ic_0 ?_
  refine j_iconst 3 C dX4_isAct_2 rfl ic_4 ?_
  refine j_callSi 6 C [] [] (fun _ _ => []) (As := [.int p1, .int (0 : Int32), .int (4 : Int32)]) (m_X4_isWithin G p1 (0 : Int32) (4 : Int32) hq) oX4_isWithin kX4_54 ⟨rfl, rfl⟩ eX4_isWithin ⟨Nat.le_of_ble_eq_true rfl, Nat.le_of_ble_eq_true rfl⟩ ⟨Nat.zero_le _, Nat.zero_le _⟩ rfl (fun _ _ => rfl) (fun _ _ => rfl) rfl (Nat.le_of_ble_eq_true rfl) dX4_isAct_3 rfl (fun r_1 _ _ hq => ?_)
  refine j_if_eq 9 16 C dX4_isAct_6 rfl rfl (fun c_2 => ?_) (fun c_2 => ?_)
  · replace hq := hq.1 c_2
    refine j_iload_n 17 C dX4_isAct_16 rfl 1 rfl ?_
    refine j_bipush 19 C dX4_isAct_17 rfl bc_10 ?_
    refine j_bipush 21 C dX4_isAct_19 rfl bc_16 ?_
    refine j_callSi 24 C [] [] (fun _ _ => []) (As := [.int p1, .int (10 : Int32), .int (16 : Int32)]) (m_X4_isWithin G p1 (10 : Int32) (16 : Int32) hq) oX4_isWithin kX4_54 ⟨rfl, rfl⟩ eX4_isWithin ⟨Nat.le_of_ble_eq_true rfl, Nat.le_of_ble_eq_true rfl⟩ ⟨Nat.zero_le _, Nat.zero_le _⟩ rfl (fun _ _ => rfl) (fun _ _ => rfl) rfl (Nat.le_of_ble_eq_true rfl) dX4_isAct_21 rfl (fun r_3 _ _ hq => ?_)
    refine j_if_eq 27 32 C dX4_isAct_24 rfl rfl (fun c_4 => ?_) (fun c_4 => ?_)
    · replace hq := hq.1 c_4
      refine j_iload_n 33 C dX4_isAct_32 rfl 1 rfl ?_
      refine j_bipush 35 C dX4_isAct_33 rfl bc_20 ?_
      refine j_bipush 37 C dX4_isAct_35 rfl bc_26 ?_
      refine j_callSi 40 C [] [] (fun _ _ => []) (As := [.int p1, .int (20 : Int32), .int (26 : Int32)]) (m_X4_isWithin G p1 (20 : Int32) (26 : Int32) hq) oX4_isWithin kX4_54 ⟨rfl, rfl⟩ eX4_isWithin ⟨Nat.le_of_ble_eq_true rfl, Nat.le_of_ble_eq_true rfl⟩ ⟨Nat.zero_le _, Nat.zero_le _⟩ rfl (fun _ _ => rfl) (fun _ _ => rfl) rfl (Nat.le_of_ble_eq_true rfl) dX4_isAct_37 rfl (fun r_5 _ _ hq => ?_)
      refine j_if_eq 43 57 C dX4_isAct_40 rfl rfl (fun c_6 => ?_) (fun c_6 => ?_)
      · replace hq := hq.1 c_6
        refine j_iconst 58 C dX4_isAct_57 rfl ic_0 ?_
        exact hR _ _ _ f0 v0 dX4_isAct_58 (Or.inl rfl) hq
      · replace hq := hq.2 c_6
        refine j_iload_n 44 C dX4_isAct_43 rfl 0 rfl ?_
        refine j_iconst 45 C dX4_isAct_44 rfl ic_0 ?_
        refine j_bipush 47 C dX4_isAct_45 rfl bc_99 ?_
        refine j_callSi 50 C [] [] (fun _ _ => []) (As := [.int p0, .int (0 : Int32), .int (99 : Int32)]) (m_X4_isWithin G p0 (0 : Int32) (99 : Int32) hq) oX4_isWithin kX4_54 ⟨rfl, rfl⟩ eX4_isWithin ⟨Nat.le_of_ble_eq_true rfl, Nat.le_of_ble_eq_true rfl⟩ ⟨Nat.zero_le _, Nat.zero_le _⟩ rfl (fun _ _ => rfl) (fun _ _ => rfl) rfl (Nat.le_of_ble_eq_true rfl) dX4_isAct_47 rfl (fun r_7 _ _ hq => ?_)
        refine j_if_eq 53 57 C dX4_isAct_50 rfl rfl (fun c_8 => ?_) (fun c_8 => ?_)
        · replace hq := hq.1 c_8
          refine j_iconst 58 C dX4_isAct_57 rfl ic_0 ?_
          exact hR _ _ _ f0 v0 dX4_isAct_58 (Or.inl rfl) hq
        · replace hq := hq.2 c_8
          refine j_iconst 54 C dX4_isAct_53 rfl ic_1 ?_
          refine j_goto 58 C dX4_isAct_54 rfl ?_
          exact hR _ _ _ f0 v0 dX4_isAct_58 (Or.inr rfl) hq
    · replace hq := hq.2 c_4
      refine j_iload_n 28 C dX4_isAct_27 rfl 0 rfl ?_
      refine j_callSi 31 C [] [] (fun _ _ => []) (As := [.int p0]) (m_X4_isTime G p0 hq) oX4_isTime kX4_137 ⟨rfl, rfl⟩ eX4_isTime ⟨Nat.le_of_ble_eq_true rfl, Nat.le_of_ble_eq_true rfl⟩ ⟨Nat.zero_le _, Nat.zero_le _⟩ rfl (fun _ _ => rfl) (fun _ _ => rfl) rfl (Nat.le_of_ble_eq_true rfl) dX4_isAct_28 rfl (fun r_9 _ _ hq => ?_)
      exact hR _ _ _ f0 v0 dX4_isAct_31 hq.1 hq.2
  · replace hq := hq.2 c_2
    refine j_iload_n 10 C dX4_isAct_9 rfl 0 rfl ?_
    refine j_iconst 11 C dX4_isAct_10 rfl ic_0 ?_
    refine j_iconst 12 C dX4_isAct_11 rfl ic_4 ?_
    refine j_callSi 15 C [] [] (fun _ _ => []) (As := [.int p0, .int (0 : Int32), .int (4 : Int32)]) (m_X4_isWithin G p0 (0 : Int32) (4 : Int32) hq) oX4_isWithin kX4_54 ⟨rfl, rfl⟩ eX4_isWithin ⟨Nat.le_of_ble_eq_true rfl, Nat.le_of_ble_eq_true rfl⟩ ⟨Nat.zero_le _, Nat.zero_le _⟩ rfl (fun _ _ => rfl) (fun _ _ => rfl) rfl (Nat.le_of_ble_eq_true rfl) dX4_isAct_12 rfl (fun r_10 _ _ hq => ?_)
    exact hR _ _ _ f0 v0 dX4_isAct_15 hq.1 hq.2
def Q_X4_areActs_L2 (f : FF) (v : VV) (x1 : Int32) (x2 : Int32) (K35 : Int32 → Prop) (K43 : Int32 → Prop) : Nat → Int32 → Prop
  | 0, _ => False
  | n + 1, x3 => ((x2 ≤ x3 → (K43 x3)) ∧ (¬ x2 ≤ x3 → (vp_in (x1 + ((2 : Int32) * x3)) 60 ∧ (vp_in ((x1 + ((2 : Int32) * x3)) + (1 : Int32)) 60 ∧ (Q_X4_isAct ((f 0) ((x1 + ((2 : Int32) * x3))).toNatClampNeg) ((f 0) (((x1 + ((2 : Int32) * x3)) + (1 : Int32))).toNatClampNeg) (fun r_4 => (((¬ r_4 = 0 → (∀ x_6 : Int32, x_6 = (x3 + (1 : Int32)) → (Q_X4_areActs_L2 f v x1 x2 K35 K43 n x_6))) ∧ (r_4 = 0 → (K35 x3))))))))))
set_option maxRecDepth 100000 in
set_option maxHeartbeats 4000000 in
theorem t_X4_areActs_L2 {κ : Kx} {G : Gx} {h : Nat → Nat} (C : Cx κ G RX4 cX4_areActs rmX4_areActs 4) {f : FF} {v : VV} {x1 : Int32} {x2 : Int32} {K35 : Int32 → Prop} {K43 : Int32 → Prop} (hK35 : ∀ (x3 : Int32), K35 x3 → J κ 0 0 (wS G h f v) 35 [(0, .ref (h 0)), (1, .int x1), (2, .int x2), (3, .int x3)] []) (hK43 : ∀ (x3 : Int32), K43 x3 → J κ 0 0 (wS G h f v) 43 [(0, .ref (h 0)), (1, .int x1), (2, .int x2), (3, .int x3)] []) : ∀ (n : Nat) (x3 : Int32), Q_X4_areActs_L2 f v x1 x2 K35 K43 n x3 → J κ 0 0 (wS G h f v) 2 [(0, .ref (h 0)), (1, .int x1), (2, .int x2), (3, .int x3)] [] := by
  intro n
  induction n with
  | zero => intro x3 hq; exact False.elim hq
  | succ n ih =>
    intro x3 hq
    rw [Q_X4_areActs_L2] at hq
    refine j_iload_n 3 C dX4_areActs_2 rfl 3 rfl ?_
    refine j_iload_n 4 C dX4_areActs_3 rfl 2 rfl ?_
    refine j_icmp_ge 7 43 C dX4_areActs_4 rfl rfl (fun c_1 => ?_) (fun c_1 => ?_)
    · replace hq := hq.1 c_1
      refine J.l0 [0, 1, 2, 3] rfl ?_
      exact hK43 _ hq
    · replace hq := hq.2 c_1
      refine j_aload_n 8 C dX4_areActs_7 rfl 0 rfl ?_
      refine j_get 11 C uX2 0 rfl rfl 0 (Nat.le_of_ble_eq_true rfl) lX4_239 (v := .ref (h 1)) rfl dX4_areActs_8 rfl ?_
      refine j_iload_n 12 C dX4_areActs_11 rfl 1 rfl ?_
      refine j_iconst 13 C dX4_areActs_12 rfl ic_2 ?_
      refine j_iload_n 14 C dX4_areActs_13 rfl 3 rfl ?_
      refine j_imul 15 C dX4_areActs_14 rfl ?_
      refine j_iadd 16 C dX4_areActs_15 rfl ?_
      obtain ⟨hi_2, hq⟩ := hq
      refine j_iald 17 C 1 (f := (f 0)) rfl hi_2 dX4_areActs_16 rfl ?_
      refine j_aload_n 18 C dX4_areActs_17 rfl 0 rfl ?_
      refine j_get 21 C uX2 0 rfl rfl 0 (Nat.le_of_ble_eq_true rfl) lX4_239 (v := .ref (h 1)) rfl dX4_areActs_18 rfl ?_
      refine j_iload_n 22 C dX4_areActs_21 rfl 1 rfl ?_
      refine j_iconst 23 C dX4_areActs_22 rfl ic_2 ?_
      refine j_iload_n 24 C dX4_areActs_23 rfl 3 rfl ?_
      refine j_imul 25 C dX4_areActs_24 rfl ?_
      refine j_iadd 26 C dX4_areActs_25 rfl ?_
      refine j_iconst 27 C dX4_areActs_26 rfl ic_1 ?_
      refine j_iadd 28 C dX4_areActs_27 rfl ?_
      obtain ⟨hi_3, hq⟩ := hq
      refine j_iald 29 C 1 (f := (f 0)) rfl hi_3 dX4_areActs_28 rfl ?_
      refine j_callSi 32 C [] (wS G h f v) (fun _ _ => (wS G h f v)) (As := [.int ((f 0) ((x1 + ((2 : Int32) * x3))).toNatClampNeg), .int ((f 0) (((x1 + ((2 : Int32) * x3)) + (1 : Int32))).toNatClampNeg)]) (m_X4_isAct G ((f 0) ((x1 + ((2 : Int32) * x3))).toNatClampNeg) ((f 0) (((x1 + ((2 : Int32) * x3)) + (1 : Int32))).toNatClampNeg) hq) oX4_isAct kX4_284 ⟨rfl, rfl⟩ eX4_isAct ⟨Nat.le_of_ble_eq_true rfl, Nat.le_of_ble_eq_true rfl⟩ ⟨Nat.zero_le _, Nat.zero_le _⟩ rfl (fun _ _ => rfl) (fun _ _ => rfl) rfl (Nat.le_of_ble_eq_true rfl) dX4_areActs_29 rfl (fun r_4 _ _ hq => ?_)
      refine j_if_ne 35 37 C dX4_areActs_32 rfl rfl (fun c_5 => ?_) (fun c_5 => ?_)
      · replace hq := hq.1 c_5
        obtain ⟨x_6, ex_6⟩ : ∃ y : Int32, y = (x3 + (1 : Int32)) := ⟨_, rfl⟩
        replace hq := hq x_6 ex_6
        refine j_iinc 40 C dX4_areActs_37 rfl 3 rfl (v := x_6) (by rw [ex_6]; rfl) (Nat.le_of_ble_eq_true rfl) [1, 2, 3, 0] (lv' := [(0, .ref (h 0)), (1, .int x1), (2, .int x2), (3, .int x_6)]) rfl ?_
        refine j_goto 2 C dX4_areActs_40 rfl ?_
        refine J.l0 [0, 1, 2, 3] rfl ?_
        exact ih _ hq
      · replace hq := hq.2 c_5
        refine J.l0 [0, 1, 2, 3] rfl ?_
        exact hK35 _ hq
def Q_X4_areActs (p1 : Int32) (p2 : Int32) (f : FF) (v : VV) (post : Int32 → Prop) : Prop := ∃ n_7 : Nat, Q_X4_areActs_L2 f v p1 p2 (fun x_8 => (post (0 : Int32))) (fun x_9 => (post (1 : Int32))) n_7 (0 : Int32)
set_option maxRecDepth 100000 in
set_option maxHeartbeats 4000000 in
theorem m_X4_areActs {l : Launch} (G : Gx) (h : Nat → Nat) (p1 : Int32) (p2 : Int32) (f : FF) (v : VV) {post : Int32 → Prop} (hq : Q_X4_areActs p1 p2 f v post) : MetI l yX4_areActs (gC yX4_areActs cX4_areActs 4 (some .boolean)) rmX4_areActs G [.ref (h 0), .int p1, .int p2] (wS G h) f v (fun r f' v' => post r ∧ f' = f ∧ v' = v) := by
  refine met_z (own := RX4) (by decide) rfl (Nat.le_of_ble_eq_true rfl) (fun κ hκ C hR => ?_)
  unfold Q_X4_areActs at hq
  subst hκ
  show J κ 0 0 (wS G h f v) 0 [(0, .ref (h 0)), (1, .int p1), (2, .int p2)] []
  refine j_iconst 1 C dX4_areActs_0 rfl ic_0 ?_
  refine j_istore_n 2 C dX4_areActs_1 rfl (Nat.le_of_ble_eq_true rfl) [1, 2, 3, 0] (lv' := [(0, .ref (h 0)), (1, .int p1), (2, .int p2), (3, .int (0 : Int32))]) rfl ?_
  obtain ⟨n_7, hq⟩ := hq
  refine t_X4_areActs_L2 C ?_ ?_ n_7 _ hq
  · intro x_8 hq
    refine j_iconst 36 C dX4_areActs_35 rfl ic_0 ?_
    exact hR _ _ _ f v dX4_areActs_36 (Or.inl rfl) ⟨hq, rfl, rfl⟩
  · intro x_9 hq
    refine j_iconst 44 C dX4_areActs_43 rfl ic_1 ?_
    exact hR _ _ _ f v dX4_areActs_44 (Or.inr rfl) ⟨hq, rfl, rfl⟩
def Q_X1_actOnStep (p0 : Int32) (p1 : Int32) (f : FF) (v : VV) (post : Int32 → FF → VV → Prop) : Prop := Q_X1_hasStep p0 f v (fun r_1 => (((¬ r_1 = 0 → (vp_in p0 5 ∧ (∀ f_4 : FF, f_4 = fu f 0 (wr (f 0) p0 p1) → (post (1 : Int32) f_4 v)))) ∧ (r_1 = 0 → (post (0 : Int32) f v)))))
set_option maxRecDepth 100000 in
set_option maxHeartbeats 4000000 in
theorem m_X1_actOnStep {l : Launch} (G : Gx) (h : Nat → Nat) (p0 : Int32) (p1 : Int32) (f : FF) (v : VV) {post : Int32 → FF → VV → Prop} (hq : Q_X1_actOnStep p0 p1 f v post) : MetI l yX1_actOnStep (gC yX1_actOnStep cX1_actOnStep 3 (some .boolean)) rmX1_actOnStep G [.ref (h 0), .int p0, .int p1] (wP G h) f v post := by
  refine met_z (own := RX1) (by decide) rfl (Nat.le_of_ble_eq_true rfl) (fun κ hκ C hR => ?_)
  unfold Q_X1_actOnStep at hq
  subst hκ
  show J κ 0 0 (wP G h f v) 0 [(0, .ref (h 0)), (1, .int p0), (2, .int p1)] []
  refine j_aload_n 1 C dX1_actOnStep_0 rfl 0 rfl ?_
  refine j_iload_n 2 C dX1_actOnStep_1 rfl 1 rfl ?_
  refine j_callVi_ro 5 C [] [] (As := [.int p0]) (m_X1_hasStep G h p0 f v hq) oX1_hasStep kX1_101 ⟨rfl, rfl⟩ eX1_hasStep ⟨Nat.le_of_ble_eq_true rfl, Nat.le_of_ble_eq_true rfl⟩ ⟨Nat.zero_le _, Nat.zero_le _⟩ (List.append_nil _).symm (fun _ _ => rfl) 0 rfl rfl rfl (Nat.le_of_ble_eq_true rfl) dX1_actOnStep_2 rfl (fun r_1 hq => ?_)
  refine j_if_ne 8 10 C dX1_actOnStep_5 rfl rfl (fun c_2 => ?_) (fun c_2 => ?_)
  · replace hq := hq.1 c_2
    refine j_aload_n 11 C dX1_actOnStep_10 rfl 0 rfl ?_
    refine j_get 14 C uX1 0 rfl rfl 0 (Nat.le_of_ble_eq_true rfl) lX1_9 (v := .ref (h 1)) rfl dX1_actOnStep_11 rfl ?_
    refine j_iload_n 15 C dX1_actOnStep_14 rfl 1 rfl ?_
    refine j_iload_n 16 C dX1_actOnStep_15 rfl 2 rfl ?_
    obtain ⟨hi_3, hq⟩ := hq
    obtain ⟨f_4, ef_4⟩ : ∃ y : FF, y = fu f 0 (wr (f 0) p0 p1) := ⟨_, rfl⟩
    replace hq := hq f_4 ef_4
    refine j_iast 17 C 1 rfl hi_3 dX1_actOnStep_16 rfl (ws' := (wP G h f_4 v)) (by subst ef_4; rfl) ?_
    refine j_iconst 18 C dX1_actOnStep_17 rfl ic_1 ?_
    exact hR _ _ _ f_4 v dX1_actOnStep_18 (Or.inr rfl) hq
  · replace hq := hq.2 c_2
    refine j_iconst 9 C dX1_actOnStep_8 rfl ic_0 ?_
    exact hR _ _ _ f v dX1_actOnStep_9 (Or.inl rfl) hq
def Q_X1_actOnTime (p0 : Int32) (p1 : Int32) (f : FF) (v : VV) (post : Int32 → FF → VV → Prop) : Prop := Q_X1_hasTest p0 f v (fun r_1 => (((¬ r_1 = 0 → (vp_in p0 7 ∧ (∀ f_4 : FF, f_4 = fu f 4 (wr (f 4) p0 p1) → (post (1 : Int32) f_4 v)))) ∧ (r_1 = 0 → (post (0 : Int32) f v)))))
set_option maxRecDepth 100000 in
set_option maxHeartbeats 4000000 in
theorem m_X1_actOnTime {l : Launch} (G : Gx) (h : Nat → Nat) (p0 : Int32) (p1 : Int32) (f : FF) (v : VV) {post : Int32 → FF → VV → Prop} (hq : Q_X1_actOnTime p0 p1 f v post) : MetI l yX1_actOnTime (gC yX1_actOnTime cX1_actOnTime 3 (some .boolean)) rmX1_actOnTime G [.ref (h 0), .int p0, .int p1] (wP G h) f v post := by
  refine met_z (own := RX1) (by decide) rfl (Nat.le_of_ble_eq_true rfl) (fun κ hκ C hR => ?_)
  unfold Q_X1_actOnTime at hq
  subst hκ
  show J κ 0 0 (wP G h f v) 0 [(0, .ref (h 0)), (1, .int p0), (2, .int p1)] []
  refine j_aload_n 1 C dX1_actOnTime_0 rfl 0 rfl ?_
  refine j_iload_n 2 C dX1_actOnTime_1 rfl 1 rfl ?_
  refine j_callVi_ro 5 C [] [] (As := [.int p0]) (m_X1_hasTest G h p0 f v hq) oX1_hasTest kX1_105 ⟨rfl, rfl⟩ eX1_hasTest ⟨Nat.le_of_ble_eq_true rfl, Nat.le_of_ble_eq_true rfl⟩ ⟨Nat.zero_le _, Nat.zero_le _⟩ (List.append_nil _).symm (fun _ _ => rfl) 0 rfl rfl rfl (Nat.le_of_ble_eq_true rfl) dX1_actOnTime_2 rfl (fun r_1 hq => ?_)
  refine j_if_ne 8 10 C dX1_actOnTime_5 rfl rfl (fun c_2 => ?_) (fun c_2 => ?_)
  · replace hq := hq.1 c_2
    refine j_aload_n 11 C dX1_actOnTime_10 rfl 0 rfl ?_
    refine j_get 14 C uX1 0 rfl rfl 5 (Nat.le_of_ble_eq_true rfl) lX1_24 (v := .ref (h 5)) rfl dX1_actOnTime_11 rfl ?_
    refine j_iload_n 15 C dX1_actOnTime_14 rfl 1 rfl ?_
    refine j_iload_n 16 C dX1_actOnTime_15 rfl 2 rfl ?_
    obtain ⟨hi_3, hq⟩ := hq
    obtain ⟨f_4, ef_4⟩ : ∃ y : FF, y = fu f 4 (wr (f 4) p0 p1) := ⟨_, rfl⟩
    replace hq := hq f_4 ef_4
    refine j_iast 17 C 5 rfl hi_3 dX1_actOnTime_16 rfl (ws' := (wP G h f_4 v)) (by subst ef_4; rfl) ?_
    refine j_iconst 18 C dX1_actOnTime_17 rfl ic_1 ?_
    exact hR _ _ _ f_4 v dX1_actOnTime_18 (Or.inr rfl) hq
  · replace hq := hq.2 c_2
    refine j_iconst 9 C dX1_actOnTime_8 rfl ic_0 ?_
    exact hR _ _ _ f v dX1_actOnTime_9 (Or.inl rfl) hq
def Q_X1_actOnInputs (p0 : Int32) (p1 : Int32) (f : FF) (v : VV) (post : Int32 → FF → VV → Prop) : Prop := Q_X1_hasTest p0 f v (fun r_1 => (((¬ r_1 = 0 → (vp_in p0 7 ∧ (∀ f_4 : FF, f_4 = fu f 5 (wr (f 5) p0 (p1 / (10 : Int32))) → (vp_in p0 7 ∧ (∀ f_6 : FF, f_6 = fu f_4 6 (wr (f_4 6) p0 (p1 - p1 / (10 : Int32) * (10 : Int32))) → (post (1 : Int32) f_6 v)))))) ∧ (r_1 = 0 → (post (0 : Int32) f v)))))
set_option maxRecDepth 100000 in
set_option maxHeartbeats 4000000 in
theorem m_X1_actOnInputs {l : Launch} (G : Gx) (h : Nat → Nat) (p0 : Int32) (p1 : Int32) (f : FF) (v : VV) {post : Int32 → FF → VV → Prop} (hq : Q_X1_actOnInputs p0 p1 f v post) : MetI l yX1_actOnInputs (gC yX1_actOnInputs cX1_actOnInputs 3 (some .boolean)) rmX1_actOnInputs G [.ref (h 0), .int p0, .int p1] (wP G h) f v post := by
  refine met_z (own := RX1) (by decide) rfl (Nat.le_of_ble_eq_true rfl) (fun κ hκ C hR => ?_)
  unfold Q_X1_actOnInputs at hq
  subst hκ
  show J κ 0 0 (wP G h f v) 0 [(0, .ref (h 0)), (1, .int p0), (2, .int p1)] []
  refine j_aload_n 1 C dX1_actOnInputs_0 rfl 0 rfl ?_
  refine j_iload_n 2 C dX1_actOnInputs_1 rfl 1 rfl ?_
  refine j_callVi_ro 5 C [] [] (As := [.int p0]) (m_X1_hasTest G h p0 f v hq) oX1_hasTest kX1_105 ⟨rfl, rfl⟩ eX1_hasTest ⟨Nat.le_of_ble_eq_true rfl, Nat.le_of_ble_eq_true rfl⟩ ⟨Nat.zero_le _, Nat.zero_le _⟩ (List.append_nil _).symm (fun _ _ => rfl) 0 rfl rfl rfl (Nat.le_of_ble_eq_true rfl) dX1_actOnInputs_2 rfl (fun r_1 hq => ?_)
  refine j_if_ne 8 10 C dX1_actOnInputs_5 rfl rfl (fun c_2 => ?_) (fun c_2 => ?_)
  · replace hq := hq.1 c_2
    refine j_aload_n 11 C dX1_actOnInputs_10 rfl 0 rfl ?_
    refine j_get 14 C uX1 0 rfl rfl 6 (Nat.le_of_ble_eq_true rfl) lX1_27 (v := .ref (h 6)) rfl dX1_actOnInputs_11 rfl ?_
    refine j_iload_n 15 C dX1_actOnInputs_14 rfl 1 rfl ?_
    refine j_iload_n 16 C dX1_actOnInputs_15 rfl 2 rfl ?_
    refine j_bipush 18 C dX1_actOnInputs_16 rfl bc_10 ?_
    refine j_idiv 19 C dX1_actOnInputs_18 rfl (by decide) ?_
    obtain ⟨hi_3, hq⟩ := hq
    obtain ⟨f_4, ef_4⟩ : ∃ y : FF, y = fu f 5 (wr (f 5) p0 (p1 / (10 : Int32))) := ⟨_, rfl⟩
    replace hq := hq f_4 ef_4
    refine j_iast 20 C 6 rfl hi_3 dX1_actOnInputs_19 rfl (ws' := (wP G h f_4 v)) (by subst ef_4; rfl) ?_
    refine j_aload_n 21 C dX1_actOnInputs_20 rfl 0 rfl ?_
    refine j_get 24 C uX1 0 rfl rfl 7 (Nat.le_of_ble_eq_true rfl) lX1_30 (v := .ref (h 7)) rfl dX1_actOnInputs_21 rfl ?_
    refine j_iload_n 25 C dX1_actOnInputs_24 rfl 1 rfl ?_
    refine j_iload_n 26 C dX1_actOnInputs_25 rfl 2 rfl ?_
    refine j_bipush 28 C dX1_actOnInputs_26 rfl bc_10 ?_
    refine j_irem 29 C dX1_actOnInputs_28 rfl (by decide) ?_
    obtain ⟨hi_5, hq⟩ := hq
    obtain ⟨f_6, ef_6⟩ : ∃ y : FF, y = fu f_4 6 (wr (f_4 6) p0 (p1 - p1 / (10 : Int32) * (10 : Int32))) := ⟨_, rfl⟩
    replace hq := hq f_6 ef_6
    refine j_iast 30 C 7 rfl hi_5 dX1_actOnInputs_29 rfl (ws' := (wP G h f_6 v)) (by subst ef_6; rfl) ?_
    refine j_iconst 31 C dX1_actOnInputs_30 rfl ic_1 ?_
    exact hR _ _ _ f_6 v dX1_actOnInputs_31 (Or.inr rfl) hq
  · replace hq := hq.2 c_2
    refine j_iconst 9 C dX1_actOnInputs_8 rfl ic_0 ?_
    exact hR _ _ _ f v dX1_actOnInputs_9 (Or.inl rfl) hq
def Q_X1_act (p0 : Int32) (p1 : Int32) (f : FF) (v : VV) (post : Int32 → FF → VV → Prop) : Prop := (((10 : Int32) ≤ p1 → ((((20 : Int32) ≤ p1 → (Q_X1_actOnInputs (p1 - (20 : Int32)) p0 f v (fun r_3 f_4 v_5 => (((r_3 = 0 ∨ r_3 = 1) ∧ post r_3 f_4 v_5))))) ∧ (¬ (20 : Int32) ≤ p1 → (Q_X1_actOnTime (p1 - (10 : Int32)) p0 f v (fun r_6 f_7 v_8 => (((r_6 = 0 ∨ r_6 = 1) ∧ post r_6 f_7 v_8)))))))) ∧ (¬ (10 : Int32) ≤ p1 → (Q_X1_actOnStep p1 p0 f v (fun r_9 f_10 v_11 => (((r_9 = 0 ∨ r_9 = 1) ∧ post r_9 f_10 v_11))))))
set_option maxRecDepth 100000 in
set_option maxHeartbeats 4000000 in
theorem m_X1_act {l : Launch} (G : Gx) (h : Nat → Nat) (p0 : Int32) (p1 : Int32) (f : FF) (v : VV) {post : Int32 → FF → VV → Prop} (hq : Q_X1_act p0 p1 f v post) : MetI l yX1_act (gC yX1_act cX1_act 3 (some .boolean)) rmX1_act G [.ref (h 0), .int p0, .int p1] (wP G h) f v post := by
  refine met_z (own := RX1) (by decide) rfl (Nat.le_of_ble_eq_true rfl) (fun κ hκ C hR => ?_)
  unfold Q_X1_act at hq
  subst hκ
  show J κ 0 0 (wP G h f v) 0 [(0, .ref (h 0)), (1, .int p0), (2, .int p1)] []
  refine j_iload_n 1 C dX1_act_0 rfl 2 rfl ?_
  refine j_bipush 3 C dX1_act_1 rfl bc_10 ?_
  refine j_icmp_ge 6 13 C dX1_act_3 rfl rfl (fun c_1 => ?_) (fun c_1 => ?_)
  · replace hq := hq.1 c_1
    refine j_iload_n 14 C dX1_act_13 rfl 2 rfl ?_
    refine j_bipush 16 C dX1_act_14 rfl bc_20 ?_
    refine j_icmp_ge 19 29 C dX1_act_16 rfl rfl (fun c_2 => ?_) (fun c_2 => ?_)
    · replace hq := hq.1 c_2
      refine j_aload_n 30 C dX1_act_29 rfl 0 rfl ?_
      refine j_iload_n 31 C dX1_act_30 rfl 2 rfl ?_
      refine j_bipush 33 C dX1_act_31 rfl bc_20 ?_
      refine j_isub 34 C dX1_act_33 rfl ?_
      refine j_iload_n 35 C dX1_act_34 rfl 1 rfl ?_
      refine j_callVi 38 C [] [] (fun f' v' => (wP G h f' v')) (As := [.int (p1 - (20 : Int32)), .int p0]) (m_X1_actOnInputs G h (p1 - (20 : Int32)) p0 f v hq) oX1_actOnInputs kX1_98 ⟨rfl, rfl⟩ eX1_actOnInputs ⟨Nat.le_of_ble_eq_true rfl, Nat.le_of_ble_eq_true rfl⟩ ⟨Nat.zero_le _, Nat.zero_le _⟩ (List.append_nil _).symm (fun _ _ => List.append_nil _) (fun _ _ => rfl) 0 rfl rfl rfl (Nat.le_of_ble_eq_true rfl) dX1_act_35 rfl (fun r_3 f_4 v_5 hq => ?_)
      exact hR _ _ _ f_4 v_5 dX1_act_38 hq.1 hq.2
    · replace hq := hq.2 c_2
      refine j_aload_n 20 C dX1_act_19 rfl 0 rfl ?_
      refine j_iload_n 21 C dX1_act_20 rfl 2 rfl ?_
      refine j_bipush 23 C dX1_act_21 rfl bc_10 ?_
      refine j_isub 24 C dX1_act_23 rfl ?_
      refine j_iload_n 25 C dX1_act_24 rfl 1 rfl ?_
      refine j_callVi 28 C [] [] (fun f' v' => (wP G h f' v')) (As := [.int (p1 - (10 : Int32)), .int p0]) (m_X1_actOnTime G h (p1 - (10 : Int32)) p0 f v hq) oX1_actOnTime kX1_95 ⟨rfl, rfl⟩ eX1_actOnTime ⟨Nat.le_of_ble_eq_true rfl, Nat.le_of_ble_eq_true rfl⟩ ⟨Nat.zero_le _, Nat.zero_le _⟩ (List.append_nil _).symm (fun _ _ => List.append_nil _) (fun _ _ => rfl) 0 rfl rfl rfl (Nat.le_of_ble_eq_true rfl) dX1_act_25 rfl (fun r_6 f_7 v_8 hq => ?_)
      exact hR _ _ _ f_7 v_8 dX1_act_28 hq.1 hq.2
  · replace hq := hq.2 c_1
    refine j_aload_n 7 C dX1_act_6 rfl 0 rfl ?_
    refine j_iload_n 8 C dX1_act_7 rfl 2 rfl ?_
    refine j_iload_n 9 C dX1_act_8 rfl 1 rfl ?_
    refine j_callVi 12 C [] [] (fun f' v' => (wP G h f' v')) (As := [.int p1, .int p0]) (m_X1_actOnStep G h p1 p0 f v hq) oX1_actOnStep kX1_91 ⟨rfl, rfl⟩ eX1_actOnStep ⟨Nat.le_of_ble_eq_true rfl, Nat.le_of_ble_eq_true rfl⟩ ⟨Nat.zero_le _, Nat.zero_le _⟩ (List.append_nil _).symm (fun _ _ => List.append_nil _) (fun _ _ => rfl) 0 rfl rfl rfl (Nat.le_of_ble_eq_true rfl) dX1_act_9 rfl (fun r_9 f_10 v_11 hq => ?_)
    exact hR _ _ _ f_10 v_11 dX1_act_12 hq.1 hq.2
def Q_X1_unequalMutants_L7 (K46 : Int32 → Int32 → FF → VV → Prop) : Nat → Int32 → Int32 → FF → VV → Prop
  | 0, _, _, _, _ => False
  | n + 1, x1, x2, f, v => (((100 : Int32) ≤ x2 → (K46 x1 x2 f v)) ∧ (¬ (100 : Int32) ≤ x2 → (((x1 = 0 → (K46 x1 x2 f v)) ∧ (¬ x1 = 0 → (Q_X1_run (x2 / (10 : Int32)) (x2 - x2 / (10 : Int32) * (10 : Int32)) f v (fun r_4 f_5 v_6 => (Q_X1_killedAmong x1 f_5 v_6 (fun r_7 f_8 v_9 => (∀ x_10 : Int32, x_10 = (x1 &&& (r_7 ^^^ (-1 : Int32))) → (∀ x_11 : Int32, x_11 = (x2 + (1 : Int32)) → (Q_X1_unequalMutants_L7 K46 n x_10 x_11 f_8 v_9))))))))))))
set_option maxRecDepth 100000 in
set_option maxHeartbeats 4000000 in
theorem t_X1_unequalMutants_L7 {κ : Kx} {G : Gx} {h : Nat → Nat} (C : Cx κ G RX1 cX1_unequalMutants rmX1_unequalMutants 3) {K46 : Int32 → Int32 → FF → VV → Prop} (hK46 : ∀ (x1 : Int32) (x2 : Int32) (f : FF) (v : VV), K46 x1 x2 f v → J κ 0 0 (wP G h f v) 46 [(0, .ref (h 0)), (1, .int x1), (2, .int x2)] []) : ∀ (n : Nat) (x1 : Int32) (x2 : Int32) (f : FF) (v : VV), Q_X1_unequalMutants_L7 K46 n x1 x2 f v → J κ 0 0 (wP G h f v) 7 [(0, .ref (h 0)), (1, .int x1), (2, .int x2)] [] := by
  intro n
  induction n with
  | zero => intro x1 x2 f v hq; exact False.elim hq
  | succ n ih =>
    intro x1 x2 f v hq
    rw [Q_X1_unequalMutants_L7] at hq
    refine j_iload_n 8 C dX1_unequalMutants_7 rfl 2 rfl ?_
    refine j_bipush 10 C dX1_unequalMutants_8 rfl bc_100 ?_
    refine j_icmp_ge 13 46 C dX1_unequalMutants_10 rfl rfl (fun c_2 => ?_) (fun c_2 => ?_)
    · replace hq := hq.1 c_2
      refine J.l0 [0, 1, 2] rfl ?_
      exact hK46 _ _ _ _ hq
    · replace hq := hq.2 c_2
      refine j_iload_n 14 C dX1_unequalMutants_13 rfl 1 rfl ?_
      refine j_if_eq 17 46 C dX1_unequalMutants_14 rfl rfl (fun c_3 => ?_) (fun c_3 => ?_)
      · replace hq := hq.1 c_3
        refine J.l0 [0, 1, 2] rfl ?_
        exact hK46 _ _ _ _ hq
      · replace hq := hq.2 c_3
        refine j_aload_n 18 C dX1_unequalMutants_17 rfl 0 rfl ?_
        refine j_iload_n 19 C dX1_unequalMutants_18 rfl 2 rfl ?_
        refine j_bipush 21 C dX1_unequalMutants_19 rfl bc_10 ?_
        refine j_idiv 22 C dX1_unequalMutants_21 rfl (by decide) ?_
        refine j_iload_n 23 C dX1_unequalMutants_22 rfl 2 rfl ?_
        refine j_bipush 25 C dX1_unequalMutants_23 rfl bc_10 ?_
        refine j_irem 26 C dX1_unequalMutants_25 rfl (by decide) ?_
        refine j_callVi 29 C [] [] (fun f' v' => (wP G h f' v')) (As := [.int (x2 / (10 : Int32)), .int (x2 - x2 / (10 : Int32) * (10 : Int32))]) (m_X1_run G h (x2 / (10 : Int32)) (x2 - x2 / (10 : Int32) * (10 : Int32)) f v hq) oX1_run kX1_54 ⟨rfl, rfl⟩ eX1_run ⟨Nat.le_of_ble_eq_true rfl, Nat.le_of_ble_eq_true rfl⟩ ⟨Nat.zero_le _, Nat.zero_le _⟩ (List.append_nil _).symm (fun _ _ => List.append_nil _) (fun _ _ => rfl) 0 rfl rfl rfl (Nat.le_of_ble_eq_true rfl) dX1_unequalMutants_26 rfl (fun r_4 f_5 v_6 hq => ?_)
        refine j_pop 30 C dX1_unequalMutants_29 rfl rfl ?_
        refine j_iload_n 31 C dX1_unequalMutants_30 rfl 1 rfl ?_
        refine j_aload_n 32 C dX1_unequalMutants_31 rfl 0 rfl ?_
        refine j_iload_n 33 C dX1_unequalMutants_32 rfl 1 rfl ?_
        refine j_callVi 36 C [] [] (fun f' v' => (wP G h f' v')) (As := [.int x1]) (m_X1_killedAmong G h x1 f_5 v_6 hq) oX1_killedAmong kX1_80 ⟨rfl, rfl⟩ eX1_killedAmong ⟨Nat.le_of_ble_eq_true rfl, Nat.le_of_ble_eq_true rfl⟩ ⟨Nat.zero_le _, Nat.zero_le _⟩ (List.append_nil _).symm (fun _ _ => List.append_nil _) (fun _ _ => rfl) 0 rfl rfl rfl (Nat.le_of_ble_eq_true rfl) dX1_unequalMutants_33 rfl (fun r_7 f_8 v_9 hq => ?_)
        refine j_iconst 37 C dX1_unequalMutants_36 rfl ic_m1 ?_
        refine j_ixor 38 C dX1_unequalMutants_37 rfl ?_
        refine j_iand 39 C dX1_unequalMutants_38 rfl ?_
        refine J.topi (fun x_10 ex_10 => ?_)
        replace hq := hq x_10 ex_10
        refine j_istore_n 40 C dX1_unequalMutants_39 rfl (Nat.le_of_ble_eq_true rfl) [1, 0, 2] (lv' := [(0, .ref (h 0)), (1, .int x_10), (2, .int x2)]) rfl ?_
        obtain ⟨x_11, ex_11⟩ : ∃ y : Int32, y = (x2 + (1 : Int32)) := ⟨_, rfl⟩
        replace hq := hq x_11 ex_11
        refine j_iinc 43 C dX1_unequalMutants_40 rfl 2 rfl (v := x_11) (by rw [ex_11]; rfl) (Nat.le_of_ble_eq_true rfl) [1, 2, 0] (lv' := [(0, .ref (h 0)), (1, .int x_10), (2, .int x_11)]) rfl ?_
        refine j_goto 7 C dX1_unequalMutants_43 rfl ?_
        refine J.l0 [0, 1, 2] rfl ?_
        exact ih _ _ _ _ hq
def Q_X1_unequalMutants (f : FF) (v : VV) (post : Int32 → FF → VV → Prop) : Prop := Q_X1_allMutants  f v (fun r_1 => (∃ n_12 : Nat, Q_X1_unequalMutants_L7 (fun x_13 x_14 f_15 v_16 => (Q_X1_allMutants  f_15 v_16 (fun r_17 => (post (r_17 &&& (x_13 ^^^ (-1 : Int32))) f_15 v_16)))) n_12 r_1 (0 : Int32) f v))
set_option maxRecDepth 100000 in
set_option maxHeartbeats 4000000 in
theorem m_X1_unequalMutants {l : Launch} (G : Gx) (h : Nat → Nat) (f : FF) (v : VV) {post : Int32 → FF → VV → Prop} (hq : Q_X1_unequalMutants f v post) : MetI l yX1_unequalMutants (gC yX1_unequalMutants cX1_unequalMutants 3 (some .int)) rmX1_unequalMutants G [.ref (h 0)] (wP G h) f v post := by
  refine met_i (own := RX1) (by decide) rfl (Nat.le_of_ble_eq_true rfl) (fun κ hκ C hR => ?_)
  unfold Q_X1_unequalMutants at hq
  subst hκ
  show J κ 0 0 (wP G h f v) 0 [(0, .ref (h 0))] []
  refine j_aload_n 1 C dX1_unequalMutants_0 rfl 0 rfl ?_
  refine j_callVi_ro 4 C [] [] (As := []) (m_X1_allMutants G h f v hq) oX1_allMutants kX1_77 ⟨rfl, rfl⟩ eX1_allMutants ⟨Nat.le_of_ble_eq_true rfl, Nat.le_of_ble_eq_true rfl⟩ ⟨Nat.zero_le _, Nat.zero_le _⟩ (List.append_nil _).symm (fun _ _ => rfl) 0 rfl rfl rfl (Nat.le_of_ble_eq_true rfl) dX1_unequalMutants_1 rfl (fun r_1 hq => ?_)
  refine j_istore_n 5 C dX1_unequalMutants_4 rfl (Nat.le_of_ble_eq_true rfl) [1, 0] (lv' := [(0, .ref (h 0)), (1, .int r_1)]) rfl ?_
  refine j_iconst 6 C dX1_unequalMutants_5 rfl ic_0 ?_
  refine j_istore_n 7 C dX1_unequalMutants_6 rfl (Nat.le_of_ble_eq_true rfl) [1, 2, 0] (lv' := [(0, .ref (h 0)), (1, .int r_1), (2, .int (0 : Int32))]) rfl ?_
  obtain ⟨n_12, hq⟩ := hq
  refine t_X1_unequalMutants_L7 C ?_ n_12 _ _ _ _ hq
  · intro x_13 x_14 f_15 v_16 hq
    refine j_aload_n 47 C dX1_unequalMutants_46 rfl 0 rfl ?_
    refine j_callVi_ro 50 C [] [] (As := []) (m_X1_allMutants G h f_15 v_16 hq) oX1_allMutants kX1_77 ⟨rfl, rfl⟩ eX1_allMutants ⟨Nat.le_of_ble_eq_true rfl, Nat.le_of_ble_eq_true rfl⟩ ⟨Nat.zero_le _, Nat.zero_le _⟩ (List.append_nil _).symm (fun _ _ => rfl) 0 rfl rfl rfl (Nat.le_of_ble_eq_true rfl) dX1_unequalMutants_47 rfl (fun r_17 hq => ?_)
    refine j_iload_n 51 C dX1_unequalMutants_50 rfl 1 rfl ?_
    refine j_iconst 52 C dX1_unequalMutants_51 rfl ic_m1 ?_
    refine j_ixor 53 C dX1_unequalMutants_52 rfl ?_
    refine j_iand 54 C dX1_unequalMutants_53 rfl ?_
    exact hR _ _ _ f_15 v_16 dX1_unequalMutants_54 hq
def Q_X1_countEqual (f : FF) (v : VV) (post : Int32 → FF → VV → Prop) : Prop := Q_X1_mutants  f v (fun r_1 => (Q_X1_unequalMutants  f v (fun r_2 f_3 v_4 => (Q_J6_bitCount_0f7a4 r_2 (fun r_5 => (post (r_1 - r_5) f_3 v_4))))))
set_option maxRecDepth 100000 in
set_option maxHeartbeats 4000000 in
theorem m_X1_countEqual {l : Launch} (G : Gx) (h : Nat → Nat) (f : FF) (v : VV) {post : Int32 → FF → VV → Prop} (hq : Q_X1_countEqual f v post) : MetI l yX1_countEqual (gC yX1_countEqual cX1_countEqual 1 (some .int)) rmX1_countEqual G [.ref (h 0)] (wP G h) f v post := by
  refine met_i (own := RX1) (by decide) rfl (Nat.le_of_ble_eq_true rfl) (fun κ hκ C hR => ?_)
  unfold Q_X1_countEqual at hq
  subst hκ
  show J κ 0 0 (wP G h f v) 0 [(0, .ref (h 0))] []
  refine j_aload_n 1 C dX1_countEqual_0 rfl 0 rfl ?_
  refine j_callVi_ro 4 C [] [] (As := []) (m_X1_mutants G h f v hq) oX1_mutants kX1_46 ⟨rfl, rfl⟩ eX1_mutants ⟨Nat.le_of_ble_eq_true rfl, Nat.le_of_ble_eq_true rfl⟩ ⟨Nat.zero_le _, Nat.zero_le _⟩ (List.append_nil _).symm (fun _ _ => rfl) 0 rfl rfl rfl (Nat.le_of_ble_eq_true rfl) dX1_countEqual_1 rfl (fun r_1 hq => ?_)
  refine j_aload_n 5 C dX1_countEqual_4 rfl 0 rfl ?_
  refine j_callVi 8 C [] [] (fun f' v' => (wP G h f' v')) (As := []) (m_X1_unequalMutants G h f v hq) oX1_unequalMutants kX1_83 ⟨rfl, rfl⟩ eX1_unequalMutants ⟨Nat.le_of_ble_eq_true rfl, Nat.le_of_ble_eq_true rfl⟩ ⟨Nat.zero_le _, Nat.zero_le _⟩ (List.append_nil _).symm (fun _ _ => List.append_nil _) (fun _ _ => rfl) 0 rfl rfl rfl (Nat.le_of_ble_eq_true rfl) dX1_countEqual_5 rfl (fun r_2 f_3 v_4 hq => ?_)
  refine j_callSi 11 C [] (wP G h f_3 v_4) (fun _ _ => (wP G h f_3 v_4)) (As := [.int r_2]) (m_J6_bitCount_0f7a4 G r_2 hq) oJ6_bitCount_0f7a4 kX1_86 ⟨rfl, rfl⟩ eJ6_bitCount_0f7a4 ⟨Nat.le_of_ble_eq_true rfl, Nat.le_of_ble_eq_true rfl⟩ ⟨Nat.zero_le _, Nat.zero_le _⟩ rfl (fun _ _ => rfl) (fun _ _ => rfl) rfl (Nat.le_of_ble_eq_true rfl) dX1_countEqual_8 rfl (fun r_5 _ _ hq => ?_)
  refine j_isub 12 C dX1_countEqual_11 rfl ?_
  exact hR _ _ _ f_3 v_4 dX1_countEqual_12 hq
def Q_X0_countLeast_L4 (f : FF) (v : VV) (K29 : Int32 → Int32 → Prop) : Nat → Int32 → Int32 → Prop
  | 0, _, _ => False
  | n + 1, x1, x2 => (((v 1) ≤ x2 → (K29 x1 x2)) ∧ (¬ (v 1) ≤ x2 → (Q_X0_isLeast x2 f v (fun r_2 => (((r_2 = 0 → (∀ x_4 : Int32, x_4 = (x2 + (1 : Int32)) → (Q_X0_countLeast_L4 f v K29 n x1 x_4))) ∧ (¬ r_2 = 0 → (∀ x_5 : Int32, x_5 = (x1 + (1 : Int32)) → (∀ x_6 : Int32, x_6 = (x2 + (1 : Int32)) → (Q_X0_countLeast_L4 f v K29 n x_5 x_6))))))))))
set_option maxRecDepth 100000 in
set_option maxHeartbeats 4000000 in
theorem t_X0_countLeast_L4 {κ : Kx} {G : Gx} {h : Nat → Nat} (C : Cx κ G RX0 cX0_countLeast rmX0_countLeast 3) {f : FF} {v : VV} {K29 : Int32 → Int32 → Prop} (hK29 : ∀ (x1 : Int32) (x2 : Int32), K29 x1 x2 → J κ 0 0 (wK G h f v) 29 [(0, .ref (h 0)), (1, .int x1), (2, .int x2)] []) : ∀ (n : Nat) (x1 : Int32) (x2 : Int32), Q_X0_countLeast_L4 f v K29 n x1 x2 → J κ 0 0 (wK G h f v) 4 [(0, .ref (h 0)), (1, .int x1), (2, .int x2)] [] := by
  intro n
  induction n with
  | zero => intro x1 x2 hq; exact False.elim hq
  | succ n ih =>
    intro x1 x2 hq
    rw [Q_X0_countLeast_L4] at hq
    refine j_iload_n 5 C dX0_countLeast_4 rfl 2 rfl ?_
    refine j_aload_n 6 C dX0_countLeast_5 rfl 0 rfl ?_
    refine j_get 9 C uX0 0 rfl rfl 5 (Nat.le_of_ble_eq_true rfl) lX0_35 (v := .int (v 1)) rfl dX0_countLeast_6 rfl ?_
    refine j_icmp_ge 12 29 C dX0_countLeast_9 rfl rfl (fun c_1 => ?_) (fun c_1 => ?_)
    · replace hq := hq.1 c_1
      refine J.l0 [0, 1, 2] rfl ?_
      exact hK29 _ _ hq
    · replace hq := hq.2 c_1
      refine j_aload_n 13 C dX0_countLeast_12 rfl 0 rfl ?_
      refine j_iload_n 14 C dX0_countLeast_13 rfl 2 rfl ?_
      refine j_callVi_ro 17 C [] [] (As := [.int x2]) (m_X0_isLeast G h x2 f v hq) oX0_isLeast kX0_51 ⟨rfl, rfl⟩ eX0_isLeast ⟨Nat.le_of_ble_eq_true rfl, Nat.le_of_ble_eq_true rfl⟩ ⟨Nat.zero_le _, Nat.zero_le _⟩ (List.append_nil _).symm (fun _ _ => rfl) 0 rfl rfl rfl (Nat.le_of_ble_eq_true rfl) dX0_countLeast_14 rfl (fun r_2 hq => ?_)
      refine j_if_eq 20 23 C dX0_countLeast_17 rfl rfl (fun c_3 => ?_) (fun c_3 => ?_)
      · replace hq := hq.1 c_3
        obtain ⟨x_4, ex_4⟩ : ∃ y : Int32, y = (x2 + (1 : Int32)) := ⟨_, rfl⟩
        replace hq := hq x_4 ex_4
        refine j_iinc 26 C dX0_countLeast_23 rfl 2 rfl (v := x_4) (by rw [ex_4]; rfl) (Nat.le_of_ble_eq_true rfl) [1, 2, 0] (lv' := [(0, .ref (h 0)), (1, .int x1), (2, .int x_4)]) rfl ?_
        refine j_goto 4 C dX0_countLeast_26 rfl ?_
        refine J.l0 [0, 1, 2] rfl ?_
        exact ih _ _ hq
      · replace hq := hq.2 c_3
        obtain ⟨x_5, ex_5⟩ : ∃ y : Int32, y = (x1 + (1 : Int32)) := ⟨_, rfl⟩
        replace hq := hq x_5 ex_5
        refine j_iinc 23 C dX0_countLeast_20 rfl 1 rfl (v := x_5) (by rw [ex_5]; rfl) (Nat.le_of_ble_eq_true rfl) [1, 0, 2] (lv' := [(0, .ref (h 0)), (1, .int x_5), (2, .int x2)]) rfl ?_
        obtain ⟨x_6, ex_6⟩ : ∃ y : Int32, y = (x2 + (1 : Int32)) := ⟨_, rfl⟩
        replace hq := hq x_6 ex_6
        refine j_iinc 26 C dX0_countLeast_23 rfl 2 rfl (v := x_6) (by rw [ex_6]; rfl) (Nat.le_of_ble_eq_true rfl) [1, 2, 0] (lv' := [(0, .ref (h 0)), (1, .int x_5), (2, .int x_6)]) rfl ?_
        refine j_goto 4 C dX0_countLeast_26 rfl ?_
        refine J.l0 [0, 1, 2] rfl ?_
        exact ih _ _ hq
def Q_X0_countLeast (f : FF) (v : VV) (post : Int32 → Prop) : Prop := ∃ n_7 : Nat, Q_X0_countLeast_L4 f v (fun x_8 x_9 => (post x_8)) n_7 (0 : Int32) (0 : Int32)
set_option maxRecDepth 100000 in
set_option maxHeartbeats 4000000 in
theorem m_X0_countLeast {l : Launch} (G : Gx) (h : Nat → Nat) (f : FF) (v : VV) {post : Int32 → Prop} (hq : Q_X0_countLeast f v post) : MetI l yX0_countLeast (gC yX0_countLeast cX0_countLeast 3 (some .int)) rmX0_countLeast G [.ref (h 0)] (wK G h) f v (fun r f' v' => post r ∧ f' = f ∧ v' = v) := by
  refine met_i (own := RX0) (by decide) rfl (Nat.le_of_ble_eq_true rfl) (fun κ hκ C hR => ?_)
  unfold Q_X0_countLeast at hq
  subst hκ
  show J κ 0 0 (wK G h f v) 0 [(0, .ref (h 0))] []
  refine j_iconst 1 C dX0_countLeast_0 rfl ic_0 ?_
  refine j_istore_n 2 C dX0_countLeast_1 rfl (Nat.le_of_ble_eq_true rfl) [1, 0] (lv' := [(0, .ref (h 0)), (1, .int (0 : Int32))]) rfl ?_
  refine j_iconst 3 C dX0_countLeast_2 rfl ic_0 ?_
  refine j_istore_n 4 C dX0_countLeast_3 rfl (Nat.le_of_ble_eq_true rfl) [1, 2, 0] (lv' := [(0, .ref (h 0)), (1, .int (0 : Int32)), (2, .int (0 : Int32))]) rfl ?_
  obtain ⟨n_7, hq⟩ := hq
  refine t_X0_countLeast_L4 C ?_ n_7 _ _ hq
  · intro x_8 x_9 hq
    refine j_iload_n 30 C dX0_countLeast_29 rfl 1 rfl ?_
    exact hR _ _ _ f v dX0_countLeast_30 ⟨hq, rfl, rfl⟩
def Q_X0_weightOf_L4 (f : FF) (v : VV) (x1 : Int32) (K33 : Int32 → Int32 → Prop) : Nat → Int32 → Int32 → Prop
  | 0, _, _ => False
  | n + 1, x2, x3 => (((v 0) ≤ x3 → (K33 x2 x3)) ∧ (¬ (v 0) ≤ x3 → (vp_in x3 7 ∧ (∀ x_3 : Int32, x_3 = (x2 + (((x1 >>> (x3 &&& 31)) &&& (1 : Int32)) * ((f 2) (x3).toNatClampNeg))) → (∀ x_4 : Int32, x_4 = (x3 + (1 : Int32)) → (Q_X0_weightOf_L4 f v x1 K33 n x_3 x_4))))))
set_option maxRecDepth 100000 in
set_option maxHeartbeats 4000000 in
theorem t_X0_weightOf_L4 {κ : Kx} {G : Gx} {h : Nat → Nat} (C : Cx κ G RX0 cX0_weightOf rmX0_weightOf 4) {f : FF} {v : VV} {x1 : Int32} {K33 : Int32 → Int32 → Prop} (hK33 : ∀ (x2 : Int32) (x3 : Int32), K33 x2 x3 → J κ 0 0 (wK G h f v) 33 [(0, .ref (h 0)), (1, .int x1), (2, .int x2), (3, .int x3)] []) : ∀ (n : Nat) (x2 : Int32) (x3 : Int32), Q_X0_weightOf_L4 f v x1 K33 n x2 x3 → J κ 0 0 (wK G h f v) 4 [(0, .ref (h 0)), (1, .int x1), (2, .int x2), (3, .int x3)] [] := by
  intro n
  induction n with
  | zero => intro x2 x3 hq; exact False.elim hq
  | succ n ih =>
    intro x2 x3 hq
    rw [Q_X0_weightOf_L4] at hq
    refine j_iload_n 5 C dX0_weightOf_4 rfl 3 rfl ?_
    refine j_aload_n 6 C dX0_weightOf_5 rfl 0 rfl ?_
    refine j_get 9 C uX0 0 rfl rfl 4 (Nat.le_of_ble_eq_true rfl) lX0_30 (v := .int (v 0)) rfl dX0_weightOf_6 rfl ?_
    refine j_icmp_ge 12 33 C dX0_weightOf_9 rfl rfl (fun c_1 => ?_) (fun c_1 => ?_)
    · replace hq := hq.1 c_1
      refine J.l0 [0, 1, 2, 3] rfl ?_
      exact hK33 _ _ hq
    · replace hq := hq.2 c_1
      refine j_iload_n 13 C dX0_weightOf_12 rfl 2 rfl ?_
      refine j_iload_n 14 C dX0_weightOf_13 rfl 1 rfl ?_
      refine j_iload_n 15 C dX0_weightOf_14 rfl 3 rfl ?_
      refine j_ishr 16 C dX0_weightOf_15 rfl ?_
      refine j_iconst 17 C dX0_weightOf_16 rfl ic_1 ?_
      refine j_iand 18 C dX0_weightOf_17 rfl ?_
      refine j_aload_n 19 C dX0_weightOf_18 rfl 0 rfl ?_
      refine j_get 22 C uX0 0 rfl rfl 2 (Nat.le_of_ble_eq_true rfl) lX0_18 (v := .ref (h 3)) rfl dX0_weightOf_19 rfl ?_
      refine j_iload_n 23 C dX0_weightOf_22 rfl 3 rfl ?_
      obtain ⟨hi_2, hq⟩ := hq
      refine j_iald 24 C 3 (f := (f 2)) rfl hi_2 dX0_weightOf_23 rfl ?_
      refine j_imul 25 C dX0_weightOf_24 rfl ?_
      refine j_iadd 26 C dX0_weightOf_25 rfl ?_
      refine J.topi (fun x_3 ex_3 => ?_)
      replace hq := hq x_3 ex_3
      refine j_istore_n 27 C dX0_weightOf_26 rfl (Nat.le_of_ble_eq_true rfl) [1, 2, 0, 3] (lv' := [(0, .ref (h 0)), (1, .int x1), (2, .int x_3), (3, .int x3)]) rfl ?_
      obtain ⟨x_4, ex_4⟩ : ∃ y : Int32, y = (x3 + (1 : Int32)) := ⟨_, rfl⟩
      replace hq := hq x_4 ex_4
      refine j_iinc 30 C dX0_weightOf_27 rfl 3 rfl (v := x_4) (by rw [ex_4]; rfl) (Nat.le_of_ble_eq_true rfl) [1, 2, 3, 0] (lv' := [(0, .ref (h 0)), (1, .int x1), (2, .int x_3), (3, .int x_4)]) rfl ?_
      refine j_goto 4 C dX0_weightOf_30 rfl ?_
      refine J.l0 [0, 1, 2, 3] rfl ?_
      exact ih _ _ hq
def Q_X0_weightOf (p0 : Int32) (f : FF) (v : VV) (post : Int32 → Prop) : Prop := ∃ n_5 : Nat, Q_X0_weightOf_L4 f v p0 (fun x_6 x_7 => (post x_6)) n_5 (0 : Int32) (0 : Int32)
set_option maxRecDepth 100000 in
set_option maxHeartbeats 4000000 in
theorem m_X0_weightOf {l : Launch} (G : Gx) (h : Nat → Nat) (p0 : Int32) (f : FF) (v : VV) {post : Int32 → Prop} (hq : Q_X0_weightOf p0 f v post) : MetI l yX0_weightOf (gC yX0_weightOf cX0_weightOf 4 (some .int)) rmX0_weightOf G [.ref (h 0), .int p0] (wK G h) f v (fun r f' v' => post r ∧ f' = f ∧ v' = v) := by
  refine met_i (own := RX0) (by decide) rfl (Nat.le_of_ble_eq_true rfl) (fun κ hκ C hR => ?_)
  unfold Q_X0_weightOf at hq
  subst hκ
  show J κ 0 0 (wK G h f v) 0 [(0, .ref (h 0)), (1, .int p0)] []
  refine j_iconst 1 C dX0_weightOf_0 rfl ic_0 ?_
  refine j_istore_n 2 C dX0_weightOf_1 rfl (Nat.le_of_ble_eq_true rfl) [1, 2, 0] (lv' := [(0, .ref (h 0)), (1, .int p0), (2, .int (0 : Int32))]) rfl ?_
  refine j_iconst 3 C dX0_weightOf_2 rfl ic_0 ?_
  refine j_istore_n 4 C dX0_weightOf_3 rfl (Nat.le_of_ble_eq_true rfl) [1, 2, 3, 0] (lv' := [(0, .ref (h 0)), (1, .int p0), (2, .int (0 : Int32)), (3, .int (0 : Int32))]) rfl ?_
  obtain ⟨n_5, hq⟩ := hq
  refine t_X0_weightOf_L4 C ?_ n_5 _ _ hq
  · intro x_6 x_7 hq
    refine j_iload_n 34 C dX0_weightOf_33 rfl 2 rfl ?_
    exact hR _ _ _ f v dX0_weightOf_34 ⟨hq, rfl, rfl⟩
def Q_X0_killedBy_L4 (f : FF) (v : VV) (x1 : Int32) (K35 : Int32 → Int32 → Prop) : Nat → Int32 → Int32 → Prop
  | 0, _, _ => False
  | n + 1, x2, x3 => (((v 0) ≤ x3 → (K35 x2 x3)) ∧ (¬ (v 0) ≤ x3 → (((((x1 >>> (x3 &&& 31)) &&& (1 : Int32)) = 0 → (∀ x_3 : Int32, x_3 = (x3 + (1 : Int32)) → (Q_X0_killedBy_L4 f v x1 K35 n x2 x_3))) ∧ (¬ ((x1 >>> (x3 &&& 31)) &&& (1 : Int32)) = 0 → (vp_in x3 7 ∧ (∀ x_5 : Int32, x_5 = (x2 ||| ((f 0) (x3).toNatClampNeg)) → (∀ x_6 : Int32, x_6 = (x3 + (1 : Int32)) → (Q_X0_killedBy_L4 f v x1 K35 n x_5 x_6)))))))))
set_option maxRecDepth 100000 in
set_option maxHeartbeats 4000000 in
theorem t_X0_killedBy_L4 {κ : Kx} {G : Gx} {h : Nat → Nat} (C : Cx κ G RX0 cX0_killedBy rmX0_killedBy 4) {f : FF} {v : VV} {x1 : Int32} {K35 : Int32 → Int32 → Prop} (hK35 : ∀ (x2 : Int32) (x3 : Int32), K35 x2 x3 → J κ 0 0 (wK G h f v) 35 [(0, .ref (h 0)), (1, .int x1), (2, .int x2), (3, .int x3)] []) : ∀ (n : Nat) (x2 : Int32) (x3 : Int32), Q_X0_killedBy_L4 f v x1 K35 n x2 x3 → J κ 0 0 (wK G h f v) 4 [(0, .ref (h 0)), (1, .int x1), (2, .int x2), (3, .int x3)] [] := by
  intro n
  induction n with
  | zero => intro x2 x3 hq; exact False.elim hq
  | succ n ih =>
    intro x2 x3 hq
    rw [Q_X0_killedBy_L4] at hq
    refine j_iload_n 5 C dX0_killedBy_4 rfl 3 rfl ?_
    refine j_aload_n 6 C dX0_killedBy_5 rfl 0 rfl ?_
    refine j_get 9 C uX0 0 rfl rfl 4 (Nat.le_of_ble_eq_true rfl) lX0_30 (v := .int (v 0)) rfl dX0_killedBy_6 rfl ?_
    refine j_icmp_ge 12 35 C dX0_killedBy_9 rfl rfl (fun c_1 => ?_) (fun c_1 => ?_)
    · replace hq := hq.1 c_1
      refine J.l0 [0, 1, 2, 3] rfl ?_
      exact hK35 _ _ hq
    · replace hq := hq.2 c_1
      refine j_iload_n 13 C dX0_killedBy_12 rfl 1 rfl ?_
      refine j_iload_n 14 C dX0_killedBy_13 rfl 3 rfl ?_
      refine j_ishr 15 C dX0_killedBy_14 rfl ?_
      refine j_iconst 16 C dX0_killedBy_15 rfl ic_1 ?_
      refine j_iand 17 C dX0_killedBy_16 rfl ?_
      refine j_if_eq 20 29 C dX0_killedBy_17 rfl rfl (fun c_2 => ?_) (fun c_2 => ?_)
      · replace hq := hq.1 c_2
        obtain ⟨x_3, ex_3⟩ : ∃ y : Int32, y = (x3 + (1 : Int32)) := ⟨_, rfl⟩
        replace hq := hq x_3 ex_3
        refine j_iinc 32 C dX0_killedBy_29 rfl 3 rfl (v := x_3) (by rw [ex_3]; rfl) (Nat.le_of_ble_eq_true rfl) [1, 2, 3, 0] (lv' := [(0, .ref (h 0)), (1, .int x1), (2, .int x2), (3, .int x_3)]) rfl ?_
        refine j_goto 4 C dX0_killedBy_32 rfl ?_
        refine J.l0 [0, 1, 2, 3] rfl ?_
        exact ih _ _ hq
      · replace hq := hq.2 c_2
        refine j_iload_n 21 C dX0_killedBy_20 rfl 2 rfl ?_
        refine j_aload_n 22 C dX0_killedBy_21 rfl 0 rfl ?_
        refine j_get 25 C uX0 0 rfl rfl 0 (Nat.le_of_ble_eq_true rfl) lX0_9 (v := .ref (h 1)) rfl dX0_killedBy_22 rfl ?_
        refine j_iload_n 26 C dX0_killedBy_25 rfl 3 rfl ?_
        obtain ⟨hi_4, hq⟩ := hq
        refine j_iald 27 C 1 (f := (f 0)) rfl hi_4 dX0_killedBy_26 rfl ?_
        refine j_ior 28 C dX0_killedBy_27 rfl ?_
        refine J.topi (fun x_5 ex_5 => ?_)
        replace hq := hq x_5 ex_5
        refine j_istore_n 29 C dX0_killedBy_28 rfl (Nat.le_of_ble_eq_true rfl) [1, 2, 0, 3] (lv' := [(0, .ref (h 0)), (1, .int x1), (2, .int x_5), (3, .int x3)]) rfl ?_
        obtain ⟨x_6, ex_6⟩ : ∃ y : Int32, y = (x3 + (1 : Int32)) := ⟨_, rfl⟩
        replace hq := hq x_6 ex_6
        refine j_iinc 32 C dX0_killedBy_29 rfl 3 rfl (v := x_6) (by rw [ex_6]; rfl) (Nat.le_of_ble_eq_true rfl) [1, 2, 3, 0] (lv' := [(0, .ref (h 0)), (1, .int x1), (2, .int x_5), (3, .int x_6)]) rfl ?_
        refine j_goto 4 C dX0_killedBy_32 rfl ?_
        refine J.l0 [0, 1, 2, 3] rfl ?_
        exact ih _ _ hq
def Q_X0_killedBy (p0 : Int32) (f : FF) (v : VV) (post : Int32 → Prop) : Prop := ∃ n_7 : Nat, Q_X0_killedBy_L4 f v p0 (fun x_8 x_9 => (post x_8)) n_7 (0 : Int32) (0 : Int32)
set_option maxRecDepth 100000 in
set_option maxHeartbeats 4000000 in
theorem m_X0_killedBy {l : Launch} (G : Gx) (h : Nat → Nat) (p0 : Int32) (f : FF) (v : VV) {post : Int32 → Prop} (hq : Q_X0_killedBy p0 f v post) : MetI l yX0_killedBy (gC yX0_killedBy cX0_killedBy 4 (some .int)) rmX0_killedBy G [.ref (h 0), .int p0] (wK G h) f v (fun r f' v' => post r ∧ f' = f ∧ v' = v) := by
  refine met_i (own := RX0) (by decide) rfl (Nat.le_of_ble_eq_true rfl) (fun κ hκ C hR => ?_)
  unfold Q_X0_killedBy at hq
  subst hκ
  show J κ 0 0 (wK G h f v) 0 [(0, .ref (h 0)), (1, .int p0)] []
  refine j_iconst 1 C dX0_killedBy_0 rfl ic_0 ?_
  refine j_istore_n 2 C dX0_killedBy_1 rfl (Nat.le_of_ble_eq_true rfl) [1, 2, 0] (lv' := [(0, .ref (h 0)), (1, .int p0), (2, .int (0 : Int32))]) rfl ?_
  refine j_iconst 3 C dX0_killedBy_2 rfl ic_0 ?_
  refine j_istore_n 4 C dX0_killedBy_3 rfl (Nat.le_of_ble_eq_true rfl) [1, 2, 3, 0] (lv' := [(0, .ref (h 0)), (1, .int p0), (2, .int (0 : Int32)), (3, .int (0 : Int32))]) rfl ?_
  obtain ⟨n_7, hq⟩ := hq
  refine t_X0_killedBy_L4 C ?_ n_7 _ _ hq
  · intro x_8 x_9 hq
    refine j_iload_n 36 C dX0_killedBy_35 rfl 2 rfl ?_
    exact hR _ _ _ f v dX0_killedBy_36 ⟨hq, rfl, rfl⟩
def Q_X0_lightestTests_L7 (f : FF) (v : VV) (K53 : Int32 → Int32 → Int32 → Prop) : Nat → Int32 → Int32 → Int32 → Prop
  | 0, _, _, _ => False
  | n + 1, x1, x2, x3 => ((((1 : Int32) <<< ((v 0) &&& 31)) ≤ x3 → (K53 x1 x2 x3)) ∧ (¬ ((1 : Int32) <<< ((v 0) &&& 31)) ≤ x3 → (Q_X0_weightOf x3 f v (fun r_2 => (((x2 ≤ r_2 → (∀ x_4 : Int32, x_4 = (x3 + (1 : Int32)) → (Q_X0_lightestTests_L7 f v K53 n x1 x2 x_4))) ∧ (¬ x2 ≤ r_2 → (Q_X0_killedBy x3 f v (fun r_5 => (((¬ r_5 = (v 2) → (∀ x_7 : Int32, x_7 = (x3 + (1 : Int32)) → (Q_X0_lightestTests_L7 f v K53 n x1 x2 x_7))) ∧ (r_5 = (v 2) → (∀ x_8 : Int32, x_8 = (x3 + (1 : Int32)) → (Q_X0_lightestTests_L7 f v K53 n x3 r_2 x_8))))))))))))))
set_option maxRecDepth 100000 in
set_option maxHeartbeats 4000000 in
theorem t_X0_lightestTests_L7 {κ : Kx} {G : Gx} {h : Nat → Nat} (C : Cx κ G RX0 cX0_lightestTests rmX0_lightestTests 5) {f : FF} {v : VV} {K53 : Int32 → Int32 → Int32 → Prop} (hK53 : ∀ (x1 : Int32) (x2 : Int32) (x3 : Int32), K53 x1 x2 x3 → J κ 0 0 (wK G h f v) 53 [(0, .ref (h 0)), (1, .int x1), (2, .int x2), (3, .int x3)] []) : ∀ (n : Nat) (x1 : Int32) (x2 : Int32) (x3 : Int32), Q_X0_lightestTests_L7 f v K53 n x1 x2 x3 → J κ 0 0 (wK G h f v) 7 [(0, .ref (h 0)), (1, .int x1), (2, .int x2), (3, .int x3)] [] := by
  intro n
  induction n with
  | zero => intro x1 x2 x3 hq; exact False.elim hq
  | succ n ih =>
    intro x1 x2 x3 hq
    rw [Q_X0_lightestTests_L7] at hq
    refine j_iload_n 8 C dX0_lightestTests_7 rfl 3 rfl ?_
    refine j_iconst 9 C dX0_lightestTests_8 rfl ic_1 ?_
    refine j_aload_n 10 C dX0_lightestTests_9 rfl 0 rfl ?_
    refine j_get 13 C uX0 0 rfl rfl 4 (Nat.le_of_ble_eq_true rfl) lX0_30 (v := .int (v 0)) rfl dX0_lightestTests_10 rfl ?_
    refine j_ishl 14 C dX0_lightestTests_13 rfl ?_
    refine j_icmp_ge 17 53 C dX0_lightestTests_14 rfl rfl (fun c_1 => ?_) (fun c_1 => ?_)
    · replace hq := hq.1 c_1
      refine J.l0 [0, 1, 2, 3] rfl ?_
      exact hK53 _ _ _ hq
    · replace hq := hq.2 c_1
      refine j_aload_n 18 C dX0_lightestTests_17 rfl 0 rfl ?_
      refine j_iload_n 19 C dX0_lightestTests_18 rfl 3 rfl ?_
      refine j_callVi_ro 22 C [] [] (As := [.int x3]) (m_X0_weightOf G h x3 f v hq) oX0_weightOf kX0_61 ⟨rfl, rfl⟩ eX0_weightOf ⟨Nat.le_of_ble_eq_true rfl, Nat.le_of_ble_eq_true rfl⟩ ⟨Nat.zero_le _, Nat.zero_le _⟩ (List.append_nil _).symm (fun _ _ => rfl) 0 rfl rfl rfl (Nat.le_of_ble_eq_true rfl) dX0_lightestTests_19 rfl (fun r_2 hq => ?_)
      refine j_istore 24 C dX0_lightestTests_22 rfl (Nat.le_of_ble_eq_true rfl) [1, 2, 3, 4, 0] (lv' := [(0, .ref (h 0)), (1, .int x1), (2, .int x2), (3, .int x3), (4, .int r_2)]) rfl ?_
      refine j_iload 26 C dX0_lightestTests_24 rfl 4 rfl ?_
      refine j_iload_n 27 C dX0_lightestTests_26 rfl 2 rfl ?_
      refine j_icmp_ge 30 47 C dX0_lightestTests_27 rfl rfl (fun c_3 => ?_) (fun c_3 => ?_)
      · replace hq := hq.1 c_3
        obtain ⟨x_4, ex_4⟩ : ∃ y : Int32, y = (x3 + (1 : Int32)) := ⟨_, rfl⟩
        replace hq := hq x_4 ex_4
        refine j_iinc 50 C dX0_lightestTests_47 rfl 3 rfl (v := x_4) (by rw [ex_4]; rfl) (Nat.le_of_ble_eq_true rfl) [1, 2, 3, 0, 4] (lv' := [(0, .ref (h 0)), (1, .int x1), (2, .int x2), (3, .int x_4), (4, .int r_2)]) rfl ?_
        refine j_goto 7 C dX0_lightestTests_50 rfl ?_
        refine J.l0 [0, 1, 2, 3] rfl ?_
        exact ih _ _ _ hq
      · replace hq := hq.2 c_3
        refine j_aload_n 31 C dX0_lightestTests_30 rfl 0 rfl ?_
        refine j_iload_n 32 C dX0_lightestTests_31 rfl 3 rfl ?_
        refine j_callVi_ro 35 C [] [] (As := [.int x3]) (m_X0_killedBy G h x3 f v hq) oX0_killedBy kX0_64 ⟨rfl, rfl⟩ eX0_killedBy ⟨Nat.le_of_ble_eq_true rfl, Nat.le_of_ble_eq_true rfl⟩ ⟨Nat.zero_le _, Nat.zero_le _⟩ (List.append_nil _).symm (fun _ _ => rfl) 0 rfl rfl rfl (Nat.le_of_ble_eq_true rfl) dX0_lightestTests_32 rfl (fun r_5 hq => ?_)
        refine j_aload_n 36 C dX0_lightestTests_35 rfl 0 rfl ?_
        refine j_get 39 C uX0 0 rfl rfl 6 (Nat.le_of_ble_eq_true rfl) lX0_37 (v := .int (v 2)) rfl dX0_lightestTests_36 rfl ?_
        refine j_icmp_ne 42 47 C dX0_lightestTests_39 rfl rfl (fun c_6 => ?_) (fun c_6 => ?_)
        · replace hq := hq.1 c_6
          obtain ⟨x_7, ex_7⟩ : ∃ y : Int32, y = (x3 + (1 : Int32)) := ⟨_, rfl⟩
          replace hq := hq x_7 ex_7
          refine j_iinc 50 C dX0_lightestTests_47 rfl 3 rfl (v := x_7) (by rw [ex_7]; rfl) (Nat.le_of_ble_eq_true rfl) [1, 2, 3, 0, 4] (lv' := [(0, .ref (h 0)), (1, .int x1), (2, .int x2), (3, .int x_7), (4, .int r_2)]) rfl ?_
          refine j_goto 7 C dX0_lightestTests_50 rfl ?_
          refine J.l0 [0, 1, 2, 3] rfl ?_
          exact ih _ _ _ hq
        · replace hq := hq.2 c_6
          refine j_iload_n 43 C dX0_lightestTests_42 rfl 3 rfl ?_
          refine j_istore_n 44 C dX0_lightestTests_43 rfl (Nat.le_of_ble_eq_true rfl) [1, 0, 2, 3, 4] (lv' := [(0, .ref (h 0)), (1, .int x3), (2, .int x2), (3, .int x3), (4, .int r_2)]) rfl ?_
          refine j_iload 46 C dX0_lightestTests_44 rfl 4 rfl ?_
          refine j_istore_n 47 C dX0_lightestTests_46 rfl (Nat.le_of_ble_eq_true rfl) [1, 2, 0, 3, 4] (lv' := [(0, .ref (h 0)), (1, .int x3), (2, .int r_2), (3, .int x3), (4, .int r_2)]) rfl ?_
          obtain ⟨x_8, ex_8⟩ : ∃ y : Int32, y = (x3 + (1 : Int32)) := ⟨_, rfl⟩
          replace hq := hq x_8 ex_8
          refine j_iinc 50 C dX0_lightestTests_47 rfl 3 rfl (v := x_8) (by rw [ex_8]; rfl) (Nat.le_of_ble_eq_true rfl) [1, 2, 3, 0, 4] (lv' := [(0, .ref (h 0)), (1, .int x3), (2, .int r_2), (3, .int x_8), (4, .int r_2)]) rfl ?_
          refine j_goto 7 C dX0_lightestTests_50 rfl ?_
          refine J.l0 [0, 1, 2, 3] rfl ?_
          exact ih _ _ _ hq
def Q_X0_lightestTests (f : FF) (v : VV) (post : Int32 → Prop) : Prop := ∃ n_9 : Nat, Q_X0_lightestTests_L7 f v (fun x_10 x_11 x_12 => (post x_10)) n_9 (0 : Int32) (2147483647 : Int32) (0 : Int32)
set_option maxRecDepth 100000 in
set_option maxHeartbeats 4000000 in
theorem m_X0_lightestTests {l : Launch} (G : Gx) (h : Nat → Nat) (f : FF) (v : VV) {post : Int32 → Prop} (hq : Q_X0_lightestTests f v post) : MetI l yX0_lightestTests (gC yX0_lightestTests cX0_lightestTests 5 (some .int)) rmX0_lightestTests G [.ref (h 0)] (wK G h) f v (fun r f' v' => post r ∧ f' = f ∧ v' = v) := by
  refine met_i (own := RX0) (by decide) rfl (Nat.le_of_ble_eq_true rfl) (fun κ hκ C hR => ?_)
  unfold Q_X0_lightestTests at hq
  subst hκ
  show J κ 0 0 (wK G h f v) 0 [(0, .ref (h 0))] []
  refine j_iconst 1 C dX0_lightestTests_0 rfl ic_0 ?_
  refine j_istore_n 2 C dX0_lightestTests_1 rfl (Nat.le_of_ble_eq_true rfl) [1, 0] (lv' := [(0, .ref (h 0)), (1, .int (0 : Int32))]) rfl ?_
  refine j_ldc 4 C dX0_lightestTests_2 rfl kX0_60 ?_
  refine j_istore_n 5 C dX0_lightestTests_4 rfl (Nat.le_of_ble_eq_true rfl) [1, 2, 0] (lv' := [(0, .ref (h 0)), (1, .int (0 : Int32)), (2, .int (2147483647 : Int32))]) rfl ?_
  refine j_iconst 6 C dX0_lightestTests_5 rfl ic_0 ?_
  refine j_istore_n 7 C dX0_lightestTests_6 rfl (Nat.le_of_ble_eq_true rfl) [1, 2, 3, 0] (lv' := [(0, .ref (h 0)), (1, .int (0 : Int32)), (2, .int (2147483647 : Int32)), (3, .int (0 : Int32))]) rfl ?_
  obtain ⟨n_9, hq⟩ := hq
  refine t_X0_lightestTests_L7 C ?_ n_9 _ _ _ hq
  · intro x_10 x_11 x_12 hq
    refine j_iload_n 54 C dX0_lightestTests_53 rfl 1 rfl ?_
    exact hR _ _ _ f v dX0_lightestTests_54 ⟨hq, rfl, rfl⟩
def Q_X0_isBetter (p0 : Int32) (p1 : Int32) (p2 : Int32) (p3 : Int32) (f : FF) (v : VV) (post : Int32 → Prop) : Prop := vp_in p1 7 ∧ (Q_J6_bitCount_0f7a4 (((f 0) (p1).toNatClampNeg) &&& p3) (fun r_2 => (vp_in p2 7 ∧ (Q_J6_bitCount_0f7a4 (((f 0) (p2).toNatClampNeg) &&& p3) (fun r_4 => (((p0 = (0 : Int32) → (((r_2 ≤ r_4 → (post (0 : Int32))) ∧ (¬ r_2 ≤ r_4 → (post (1 : Int32)))))) ∧ (¬ p0 = (0 : Int32) → (((p0 = (1 : Int32) → (vp_in p1 7 ∧ (vp_in p2 7 ∧ (((((f 2) (p2).toNatClampNeg) ≤ ((f 2) (p1).toNatClampNeg) → (post (0 : Int32))) ∧ (¬ ((f 2) (p2).toNatClampNeg) ≤ ((f 2) (p1).toNatClampNeg) → (post (1 : Int32)))))))) ∧ (¬ p0 = (1 : Int32) → (vp_in p2 7 ∧ (vp_in p1 7 ∧ ((((r_2 * ((f 2) (p2).toNatClampNeg)) ≤ (r_4 * ((f 2) (p1).toNatClampNeg)) → (post (0 : Int32))) ∧ (¬ (r_2 * ((f 2) (p2).toNatClampNeg)) ≤ (r_4 * ((f 2) (p1).toNatClampNeg)) → (post (1 : Int32))))))))))))))))))
set_option maxRecDepth 100000 in
set_option maxHeartbeats 4000000 in
theorem m_X0_isBetter {l : Launch} (G : Gx) (h : Nat → Nat) (p0 : Int32) (p1 : Int32) (p2 : Int32) (p3 : Int32) (f : FF) (v : VV) {post : Int32 → Prop} (hq : Q_X0_isBetter p0 p1 p2 p3 f v post) : MetI l yX0_isBetter (gC yX0_isBetter cX0_isBetter 7 (some .boolean)) rmX0_isBetter G [.ref (h 0), .int p0, .int p1, .int p2, .int p3] (wK G h) f v (fun r f' v' => post r ∧ f' = f ∧ v' = v) := by
  refine met_z (own := RX0) (by decide) rfl (Nat.le_of_ble_eq_true rfl) (fun κ hκ C hR => ?_)
  unfold Q_X0_isBetter at hq
  subst hκ
  show J κ 0 0 (wK G h f v) 0 [(0, .ref (h 0)), (1, .int p0), (2, .int p1), (3, .int p2), (4, .int p3)] []
  refine j_aload_n 1 C dX0_isBetter_0 rfl 0 rfl ?_
  refine j_get 4 C uX0 0 rfl rfl 0 (Nat.le_of_ble_eq_true rfl) lX0_9 (v := .ref (h 1)) rfl dX0_isBetter_1 rfl ?_
  refine j_iload_n 5 C dX0_isBetter_4 rfl 2 rfl ?_
  obtain ⟨hi_1, hq⟩ := hq
  refine j_iald 6 C 1 (f := (f 0)) rfl hi_1 dX0_isBetter_5 rfl ?_
  refine j_iload 8 C dX0_isBetter_6 rfl 4 rfl ?_
  refine j_iand 9 C dX0_isBetter_8 rfl ?_
  refine j_callSi 12 C [] (wK G h f v) (fun _ _ => (wK G h f v)) (As := [.int (((f 0) (p1).toNatClampNeg) &&& p3)]) (m_J6_bitCount_0f7a4 G (((f 0) (p1).toNatClampNeg) &&& p3) hq) oJ6_bitCount_0f7a4 kX0_55 ⟨rfl, rfl⟩ eJ6_bitCount_0f7a4 ⟨Nat.le_of_ble_eq_true rfl, Nat.le_of_ble_eq_true rfl⟩ ⟨Nat.zero_le _, Nat.zero_le _⟩ rfl (fun _ _ => rfl) (fun _ _ => rfl) rfl (Nat.le_of_ble_eq_true rfl) dX0_isBetter_9 rfl (fun r_2 _ _ hq => ?_)
  refine j_istore 14 C dX0_isBetter_12 rfl (Nat.le_of_ble_eq_true rfl) [1, 2, 3, 4, 5, 0] (lv' := [(0, .ref (h 0)), (1, .int p0), (2, .int p1), (3, .int p2), (4, .int p3), (5, .int r_2)]) rfl ?_
  refine j_aload_n 15 C dX0_isBetter_14 rfl 0 rfl ?_
  refine j_get 18 C uX0 0 rfl rfl 0 (Nat.le_of_ble_eq_true rfl) lX0_9 (v := .ref (h 1)) rfl dX0_isBetter_15 rfl ?_
  refine j_iload_n 19 C dX0_isBetter_18 rfl 3 rfl ?_
  obtain ⟨hi_3, hq⟩ := hq
  refine j_iald 20 C 1 (f := (f 0)) rfl hi_3 dX0_isBetter_19 rfl ?_
  refine j_iload 22 C dX0_isBetter_20 rfl 4 rfl ?_
  refine j_iand 23 C dX0_isBetter_22 rfl ?_
  refine j_callSi 26 C [] (wK G h f v) (fun _ _ => (wK G h f v)) (As := [.int (((f 0) (p2).toNatClampNeg) &&& p3)]) (m_J6_bitCount_0f7a4 G (((f 0) (p2).toNatClampNeg) &&& p3) hq) oJ6_bitCount_0f7a4 kX0_55 ⟨rfl, rfl⟩ eJ6_bitCount_0f7a4 ⟨Nat.le_of_ble_eq_true rfl, Nat.le_of_ble_eq_true rfl⟩ ⟨Nat.zero_le _, Nat.zero_le _⟩ rfl (fun _ _ => rfl) (fun _ _ => rfl) rfl (Nat.le_of_ble_eq_true rfl) dX0_isBetter_23 rfl (fun r_4 _ _ hq => ?_)
  refine j_istore 28 C dX0_isBetter_26 rfl (Nat.le_of_ble_eq_true rfl) [1, 2, 3, 4, 5, 6, 0] (lv' := [(0, .ref (h 0)), (1, .int p0), (2, .int p1), (3, .int p2), (4, .int p3), (5, .int r_2), (6, .int r_4)]) rfl ?_
  refine j_iload_n 29 C dX0_isBetter_28 rfl 1 rfl ?_
  by_cases c_5 : p0 = (0 : Int32)
  · replace hq := hq.1 c_5
    refine j_lookup 56 C dX0_isBetter_29 (by decide) (off := 27) (by rw [c_5] <;> decide) rfl ?_
    refine j_iload 58 C dX0_isBetter_56 rfl 5 rfl ?_
    refine j_iload 60 C dX0_isBetter_58 rfl 6 rfl ?_
    refine j_icmp_le 63 67 C dX0_isBetter_60 rfl rfl (fun c_6 => ?_) (fun c_6 => ?_)
    · replace hq := hq.1 c_6
      refine j_iconst 68 C dX0_isBetter_67 rfl ic_0 ?_
      exact hR _ _ _ f v dX0_isBetter_68 (Or.inl rfl) ⟨hq, rfl, rfl⟩
    · replace hq := hq.2 c_6
      refine j_iconst 64 C dX0_isBetter_63 rfl ic_1 ?_
      refine j_goto 68 C dX0_isBetter_64 rfl ?_
      exact hR _ _ _ f v dX0_isBetter_68 (Or.inr rfl) ⟨hq, rfl, rfl⟩
  · replace hq := hq.2 c_5
    by_cases c_7 : p0 = (1 : Int32)
    · replace hq := hq.1 c_7
      refine j_lookup 69 C dX0_isBetter_29 (by decide) (off := 40) (by rw [c_7] <;> decide) rfl ?_
      refine j_aload_n 70 C dX0_isBetter_69 rfl 0 rfl ?_
      refine j_get 73 C uX0 0 rfl rfl 2 (Nat.le_of_ble_eq_true rfl) lX0_18 (v := .ref (h 3)) rfl dX0_isBetter_70 rfl ?_
      refine j_iload_n 74 C dX0_isBetter_73 rfl 2 rfl ?_
      obtain ⟨hi_8, hq⟩ := hq
      refine j_iald 75 C 3 (f := (f 2)) rfl hi_8 dX0_isBetter_74 rfl ?_
      refine j_aload_n 76 C dX0_isBetter_75 rfl 0 rfl ?_
      refine j_get 79 C uX0 0 rfl rfl 2 (Nat.le_of_ble_eq_true rfl) lX0_18 (v := .ref (h 3)) rfl dX0_isBetter_76 rfl ?_
      refine j_iload_n 80 C dX0_isBetter_79 rfl 3 rfl ?_
      obtain ⟨hi_9, hq⟩ := hq
      refine j_iald 81 C 3 (f := (f 2)) rfl hi_9 dX0_isBetter_80 rfl ?_
      refine j_icmp_ge 84 88 C dX0_isBetter_81 rfl rfl (fun c_10 => ?_) (fun c_10 => ?_)
      · replace hq := hq.1 c_10
        refine j_iconst 89 C dX0_isBetter_88 rfl ic_0 ?_
        exact hR _ _ _ f v dX0_isBetter_89 (Or.inl rfl) ⟨hq, rfl, rfl⟩
      · replace hq := hq.2 c_10
        refine j_iconst 85 C dX0_isBetter_84 rfl ic_1 ?_
        refine j_goto 89 C dX0_isBetter_85 rfl ?_
        exact hR _ _ _ f v dX0_isBetter_89 (Or.inr rfl) ⟨hq, rfl, rfl⟩
    · replace hq := hq.2 c_7
      have zc_5 := ne_toInt (z := 0) (by decide) c_5
      have zc_7 := ne_toInt (z := 1) (by decide) c_7
      refine j_lookup 90 C dX0_isBetter_29 (by decide) (off := 61) (by simp only [Op.lookupswitch.offset_cons, Op.lookupswitch.offset_nil]; rw [if_neg (fun e9 => zc_5 e9.symm)]; rw [if_neg (fun e9 => zc_7 e9.symm)]) rfl ?_
      refine j_iload 92 C dX0_isBetter_90 rfl 5 rfl ?_
      refine j_aload_n 93 C dX0_isBetter_92 rfl 0 rfl ?_
      refine j_get 96 C uX0 0 rfl rfl 2 (Nat.le_of_ble_eq_true rfl) lX0_18 (v := .ref (h 3)) rfl dX0_isBetter_93 rfl ?_
      refine j_iload_n 97 C dX0_isBetter_96 rfl 3 rfl ?_
      obtain ⟨hi_11, hq⟩ := hq
      refine j_iald 98 C 3 (f := (f 2)) rfl hi_11 dX0_isBetter_97 rfl ?_
      refine j_imul 99 C dX0_isBetter_98 rfl ?_
      refine j_iload 101 C dX0_isBetter_99 rfl 6 rfl ?_
      refine j_aload_n 102 C dX0_isBetter_101 rfl 0 rfl ?_
      refine j_get 105 C uX0 0 rfl rfl 2 (Nat.le_of_ble_eq_true rfl) lX0_18 (v := .ref (h 3)) rfl dX0_isBetter_102 rfl ?_
      refine j_iload_n 106 C dX0_isBetter_105 rfl 2 rfl ?_
      obtain ⟨hi_12, hq⟩ := hq
      refine j_iald 107 C 3 (f := (f 2)) rfl hi_12 dX0_isBetter_106 rfl ?_
      refine j_imul 108 C dX0_isBetter_107 rfl ?_
      refine j_icmp_le 111 115 C dX0_isBetter_108 rfl rfl (fun c_13 => ?_) (fun c_13 => ?_)
      · replace hq := hq.1 c_13
        refine j_iconst 116 C dX0_isBetter_115 rfl ic_0 ?_
        exact hR _ _ _ f v dX0_isBetter_116 (Or.inl rfl) ⟨hq, rfl, rfl⟩
      · replace hq := hq.2 c_13
        refine j_iconst 112 C dX0_isBetter_111 rfl ic_1 ?_
        refine j_goto 116 C dX0_isBetter_112 rfl ?_
        exact hR _ _ _ f v dX0_isBetter_116 (Or.inr rfl) ⟨hq, rfl, rfl⟩
def Q_X0_bestTest_L5 (f : FF) (v : VV) (x1 : Int32) (x2 : Int32) (K58 : Int32 → Int32 → Prop) : Nat → Int32 → Int32 → Prop
  | 0, _, _ => False
  | n + 1, x3, x4 => (((v 0) ≤ x4 → (K58 x3 x4)) ∧ (¬ (v 0) ≤ x4 → (vp_in x4 7 ∧ ((((((f 0) (x4).toNatClampNeg) &&& x2) = 0 → (∀ x_4 : Int32, x_4 = (x4 + (1 : Int32)) → (Q_X0_bestTest_L5 f v x1 x2 K58 n x3 x_4))) ∧ (¬ (((f 0) (x4).toNatClampNeg) &&& x2) = 0 → (vp_in x3 7 ∧ ((((((f 0) (x3).toNatClampNeg) &&& x2) = 0 → (∀ x_7 : Int32, x_7 = (x4 + (1 : Int32)) → (Q_X0_bestTest_L5 f v x1 x2 K58 n x4 x_7))) ∧ (¬ (((f 0) (x3).toNatClampNeg) &&& x2) = 0 → (Q_X0_isBetter x1 x4 x3 x2 f v (fun r_8 => (((r_8 = 0 → (∀ x_10 : Int32, x_10 = (x4 + (1 : Int32)) → (Q_X0_bestTest_L5 f v x1 x2 K58 n x3 x_10))) ∧ (¬ r_8 = 0 → (∀ x_11 : Int32, x_11 = (x4 + (1 : Int32)) → (Q_X0_bestTest_L5 f v x1 x2 K58 n x4 x_11)))))))))))))))))
set_option maxRecDepth 100000 in
set_option maxHeartbeats 4000000 in
theorem t_X0_bestTest_L5 {κ : Kx} {G : Gx} {h : Nat → Nat} (C : Cx κ G RX0 cX0_bestTest rmX0_bestTest 5) {f : FF} {v : VV} {x1 : Int32} {x2 : Int32} {K58 : Int32 → Int32 → Prop} (hK58 : ∀ (x3 : Int32) (x4 : Int32), K58 x3 x4 → J κ 0 0 (wK G h f v) 58 [(0, .ref (h 0)), (1, .int x1), (2, .int x2), (3, .int x3), (4, .int x4)] []) : ∀ (n : Nat) (x3 : Int32) (x4 : Int32), Q_X0_bestTest_L5 f v x1 x2 K58 n x3 x4 → J κ 0 0 (wK G h f v) 5 [(0, .ref (h 0)), (1, .int x1), (2, .int x2), (3, .int x3), (4, .int x4)] [] := by
  intro n
  induction n with
  | zero => intro x3 x4 hq; exact False.elim hq
  | succ n ih =>
    intro x3 x4 hq
    rw [Q_X0_bestTest_L5] at hq
    refine j_iload 7 C dX0_bestTest_5 rfl 4 rfl ?_
    refine j_aload_n 8 C dX0_bestTest_7 rfl 0 rfl ?_
    refine j_get 11 C uX0 0 rfl rfl 4 (Nat.le_of_ble_eq_true rfl) lX0_30 (v := .int (v 0)) rfl dX0_bestTest_8 rfl ?_
    refine j_icmp_ge 14 58 C dX0_bestTest_11 rfl rfl (fun c_1 => ?_) (fun c_1 => ?_)
    · replace hq := hq.1 c_1
      refine J.l0 [0, 1, 2, 3, 4] rfl ?_
      exact hK58 _ _ hq
    · replace hq := hq.2 c_1
      refine j_aload_n 15 C dX0_bestTest_14 rfl 0 rfl ?_
      refine j_get 18 C uX0 0 rfl rfl 0 (Nat.le_of_ble_eq_true rfl) lX0_9 (v := .ref (h 1)) rfl dX0_bestTest_15 rfl ?_
      refine j_iload 20 C dX0_bestTest_18 rfl 4 rfl ?_
      obtain ⟨hi_2, hq⟩ := hq
      refine j_iald 21 C 1 (f := (f 0)) rfl hi_2 dX0_bestTest_20 rfl ?_
      refine j_iload_n 22 C dX0_bestTest_21 rfl 2 rfl ?_
      refine j_iand 23 C dX0_bestTest_22 rfl ?_
      refine j_if_eq 26 52 C dX0_bestTest_23 rfl rfl (fun c_3 => ?_) (fun c_3 => ?_)
      · replace hq := hq.1 c_3
        obtain ⟨x_4, ex_4⟩ : ∃ y : Int32, y = (x4 + (1 : Int32)) := ⟨_, rfl⟩
        replace hq := hq x_4 ex_4
        refine j_iinc 55 C dX0_bestTest_52 rfl 4 rfl (v := x_4) (by rw [ex_4]; rfl) (Nat.le_of_ble_eq_true rfl) [1, 2, 3, 4, 0] (lv' := [(0, .ref (h 0)), (1, .int x1), (2, .int x2), (3, .int x3), (4, .int x_4)]) rfl ?_
        refine j_goto 5 C dX0_bestTest_55 rfl ?_
        refine J.l0 [0, 1, 2, 3, 4] rfl ?_
        exact ih _ _ hq
      · replace hq := hq.2 c_3
        refine j_aload_n 27 C dX0_bestTest_26 rfl 0 rfl ?_
        refine j_get 30 C uX0 0 rfl rfl 0 (Nat.le_of_ble_eq_true rfl) lX0_9 (v := .ref (h 1)) rfl dX0_bestTest_27 rfl ?_
        refine j_iload_n 31 C dX0_bestTest_30 rfl 3 rfl ?_
        obtain ⟨hi_5, hq⟩ := hq
        refine j_iald 32 C 1 (f := (f 0)) rfl hi_5 dX0_bestTest_31 rfl ?_
        refine j_iload_n 33 C dX0_bestTest_32 rfl 2 rfl ?_
        refine j_iand 34 C dX0_bestTest_33 rfl ?_
        refine j_if_eq 37 49 C dX0_bestTest_34 rfl rfl (fun c_6 => ?_) (fun c_6 => ?_)
        · replace hq := hq.1 c_6
          refine j_iload 51 C dX0_bestTest_49 rfl 4 rfl ?_
          refine j_istore_n 52 C dX0_bestTest_51 rfl (Nat.le_of_ble_eq_true rfl) [1, 2, 3, 0, 4] (lv' := [(0, .ref (h 0)), (1, .int x1), (2, .int x2), (3, .int x4), (4, .int x4)]) rfl ?_
          obtain ⟨x_7, ex_7⟩ : ∃ y : Int32, y = (x4 + (1 : Int32)) := ⟨_, rfl⟩
          replace hq := hq x_7 ex_7
          refine j_iinc 55 C dX0_bestTest_52 rfl 4 rfl (v := x_7) (by rw [ex_7]; rfl) (Nat.le_of_ble_eq_true rfl) [1, 2, 3, 4, 0] (lv' := [(0, .ref (h 0)), (1, .int x1), (2, .int x2), (3, .int x4), (4, .int x_7)]) rfl ?_
          refine j_goto 5 C dX0_bestTest_55 rfl ?_
          refine J.l0 [0, 1, 2, 3, 4] rfl ?_
          exact ih _ _ hq
        · replace hq := hq.2 c_6
          refine j_aload_n 38 C dX0_bestTest_37 rfl 0 rfl ?_
          refine j_iload_n 39 C dX0_bestTest_38 rfl 1 rfl ?_
          refine j_iload 41 C dX0_bestTest_39 rfl 4 rfl ?_
          refine j_iload_n 42 C dX0_bestTest_41 rfl 3 rfl ?_
          refine j_iload_n 43 C dX0_bestTest_42 rfl 2 rfl ?_
          refine j_callVi_ro 46 C [] [] (As := [.int x1, .int x4, .int x3, .int x2]) (m_X0_isBetter G h x1 x4 x3 x2 f v hq) oX0_isBetter kX0_71 ⟨rfl, rfl⟩ eX0_isBetter ⟨Nat.le_of_ble_eq_true rfl, Nat.le_of_ble_eq_true rfl⟩ ⟨Nat.zero_le _, Nat.zero_le _⟩ (List.append_nil _).symm (fun _ _ => rfl) 0 rfl rfl rfl (Nat.le_of_ble_eq_true rfl) dX0_bestTest_43 rfl (fun r_8 hq => ?_)
          refine j_if_eq 49 52 C dX0_bestTest_46 rfl rfl (fun c_9 => ?_) (fun c_9 => ?_)
          · replace hq := hq.1 c_9
            obtain ⟨x_10, ex_10⟩ : ∃ y : Int32, y = (x4 + (1 : Int32)) := ⟨_, rfl⟩
            replace hq := hq x_10 ex_10
            refine j_iinc 55 C dX0_bestTest_52 rfl 4 rfl (v := x_10) (by rw [ex_10]; rfl) (Nat.le_of_ble_eq_true rfl) [1, 2, 3, 4, 0] (lv' := [(0, .ref (h 0)), (1, .int x1), (2, .int x2), (3, .int x3), (4, .int x_10)]) rfl ?_
            refine j_goto 5 C dX0_bestTest_55 rfl ?_
            refine J.l0 [0, 1, 2, 3, 4] rfl ?_
            exact ih _ _ hq
          · replace hq := hq.2 c_9
            refine j_iload 51 C dX0_bestTest_49 rfl 4 rfl ?_
            refine j_istore_n 52 C dX0_bestTest_51 rfl (Nat.le_of_ble_eq_true rfl) [1, 2, 3, 0, 4] (lv' := [(0, .ref (h 0)), (1, .int x1), (2, .int x2), (3, .int x4), (4, .int x4)]) rfl ?_
            obtain ⟨x_11, ex_11⟩ : ∃ y : Int32, y = (x4 + (1 : Int32)) := ⟨_, rfl⟩
            replace hq := hq x_11 ex_11
            refine j_iinc 55 C dX0_bestTest_52 rfl 4 rfl (v := x_11) (by rw [ex_11]; rfl) (Nat.le_of_ble_eq_true rfl) [1, 2, 3, 4, 0] (lv' := [(0, .ref (h 0)), (1, .int x1), (2, .int x2), (3, .int x4), (4, .int x_11)]) rfl ?_
            refine j_goto 5 C dX0_bestTest_55 rfl ?_
            refine J.l0 [0, 1, 2, 3, 4] rfl ?_
            exact ih _ _ hq
def Q_X0_bestTest (p0 : Int32) (p1 : Int32) (f : FF) (v : VV) (post : Int32 → Prop) : Prop := ∃ n_12 : Nat, Q_X0_bestTest_L5 f v p0 p1 (fun x_13 x_14 => (post x_13)) n_12 (0 : Int32) (1 : Int32)
set_option maxRecDepth 100000 in
set_option maxHeartbeats 4000000 in
theorem m_X0_bestTest {l : Launch} (G : Gx) (h : Nat → Nat) (p0 : Int32) (p1 : Int32) (f : FF) (v : VV) {post : Int32 → Prop} (hq : Q_X0_bestTest p0 p1 f v post) : MetI l yX0_bestTest (gC yX0_bestTest cX0_bestTest 5 (some .int)) rmX0_bestTest G [.ref (h 0), .int p0, .int p1] (wK G h) f v (fun r f' v' => post r ∧ f' = f ∧ v' = v) := by
  refine met_i (own := RX0) (by decide) rfl (Nat.le_of_ble_eq_true rfl) (fun κ hκ C hR => ?_)
  unfold Q_X0_bestTest at hq
  subst hκ
  show J κ 0 0 (wK G h f v) 0 [(0, .ref (h 0)), (1, .int p0), (2, .int p1)] []
  refine j_iconst 1 C dX0_bestTest_0 rfl ic_0 ?_
  refine j_istore_n 2 C dX0_bestTest_1 rfl (Nat.le_of_ble_eq_true rfl) [1, 2, 3, 0] (lv' := [(0, .ref (h 0)), (1, .int p0), (2, .int p1), (3, .int (0 : Int32))]) rfl ?_
  refine j_iconst 3 C dX0_bestTest_2 rfl ic_1 ?_
  refine j_istore 5 C dX0_bestTest_3 rfl (Nat.le_of_ble_eq_true rfl) [1, 2, 3, 4, 0] (lv' := [(0, .ref (h 0)), (1, .int p0), (2, .int p1), (3, .int (0 : Int32)), (4, .int (1 : Int32))]) rfl ?_
  obtain ⟨n_12, hq⟩ := hq
  refine t_X0_bestTest_L5 C ?_ n_12 _ _ hq
  · intro x_13 x_14 hq
    refine j_iload_n 59 C dX0_bestTest_58 rfl 3 rfl ?_
    exact hR _ _ _ f v dX0_bestTest_59 ⟨hq, rfl, rfl⟩
def Q_X0_chooseTests_L7 (x1 : Int32) (K53 : Int32 → Int32 → FF → VV → Prop) : Nat → Int32 → Int32 → FF → VV → Prop
  | 0, _, _, _, _ => False
  | n + 1, x2, x3, f, v => ((x2 = 0 → (K53 x2 x3 f v)) ∧ (¬ x2 = 0 → ((((v 0) ≤ x3 → (K53 x2 x3 f v)) ∧ (¬ (v 0) ≤ x3 → (Q_X0_bestTest x1 x2 f v (fun r_4 => (vp_in x3 7 ∧ (∀ f_6 : FF, f_6 = fu f 3 (wr (f 3) x3 r_4) → (vp_in x3 7 ∧ (vp_in ((f_6 3) (x3).toNatClampNeg) 7 ∧ (∀ x_9 : Int32, x_9 = (x2 &&& (((f_6 0) (((f_6 3) (x3).toNatClampNeg)).toNatClampNeg) ^^^ (-1 : Int32))) → (∀ x_10 : Int32, x_10 = (x3 + (1 : Int32)) → (Q_X0_chooseTests_L7 x1 K53 n x_9 x_10 f_6 v))))))))))))))
set_option maxRecDepth 100000 in
set_option maxHeartbeats 4000000 in
theorem t_X0_chooseTests_L7 {κ : Kx} {G : Gx} {h : Nat → Nat} (C : Cx κ G RX0 cX0_chooseTests rmX0_chooseTests 4) {x1 : Int32} {K53 : Int32 → Int32 → FF → VV → Prop} (hK53 : ∀ (x2 : Int32) (x3 : Int32) (f : FF) (v : VV), K53 x2 x3 f v → J κ 0 0 (wK G h f v) 53 [(0, .ref (h 0)), (1, .int x1), (2, .int x2), (3, .int x3)] []) : ∀ (n : Nat) (x2 : Int32) (x3 : Int32) (f : FF) (v : VV), Q_X0_chooseTests_L7 x1 K53 n x2 x3 f v → J κ 0 0 (wK G h f v) 7 [(0, .ref (h 0)), (1, .int x1), (2, .int x2), (3, .int x3)] [] := by
  intro n
  induction n with
  | zero => intro x2 x3 f v hq; exact False.elim hq
  | succ n ih =>
    intro x2 x3 f v hq
    rw [Q_X0_chooseTests_L7] at hq
    refine j_iload_n 8 C dX0_chooseTests_7 rfl 2 rfl ?_
    refine j_if_eq 11 53 C dX0_chooseTests_8 rfl rfl (fun c_2 => ?_) (fun c_2 => ?_)
    · replace hq := hq.1 c_2
      refine J.l0 [0, 1, 2, 3] rfl ?_
      exact hK53 _ _ _ _ hq
    · replace hq := hq.2 c_2
      refine j_iload_n 12 C dX0_chooseTests_11 rfl 3 rfl ?_
      refine j_aload_n 13 C dX0_chooseTests_12 rfl 0 rfl ?_
      refine j_get 16 C uX0 0 rfl rfl 4 (Nat.le_of_ble_eq_true rfl) lX0_30 (v := .int (v 0)) rfl dX0_chooseTests_13 rfl ?_
      refine j_icmp_ge 19 53 C dX0_chooseTests_16 rfl rfl (fun c_3 => ?_) (fun c_3 => ?_)
      · replace hq := hq.1 c_3
        refine J.l0 [0, 1, 2, 3] rfl ?_
        exact hK53 _ _ _ _ hq
      · replace hq := hq.2 c_3
        refine j_aload_n 20 C dX0_chooseTests_19 rfl 0 rfl ?_
        refine j_get 23 C uX0 0 rfl rfl 3 (Nat.le_of_ble_eq_true rfl) lX0_21 (v := .ref (h 4)) rfl dX0_chooseTests_20 rfl ?_
        refine j_iload_n 24 C dX0_chooseTests_23 rfl 3 rfl ?_
        refine j_aload_n 25 C dX0_chooseTests_24 rfl 0 rfl ?_
        refine j_iload_n 26 C dX0_chooseTests_25 rfl 1 rfl ?_
        refine j_iload_n 27 C dX0_chooseTests_26 rfl 2 rfl ?_
        refine j_callVi_ro 30 C [] [] (As := [.int x1, .int x2]) (m_X0_bestTest G h x1 x2 f v hq) oX0_bestTest kX0_67 ⟨rfl, rfl⟩ eX0_bestTest ⟨Nat.le_of_ble_eq_true rfl, Nat.le_of_ble_eq_true rfl⟩ ⟨Nat.zero_le _, Nat.zero_le _⟩ (List.append_nil _).symm (fun _ _ => rfl) 0 rfl rfl rfl (Nat.le_of_ble_eq_true rfl) dX0_chooseTests_27 rfl (fun r_4 hq => ?_)
        obtain ⟨hi_5, hq⟩ := hq
        obtain ⟨f_6, ef_6⟩ : ∃ y : FF, y = fu f 3 (wr (f 3) x3 r_4) := ⟨_, rfl⟩
        replace hq := hq f_6 ef_6
        refine j_iast 31 C 4 rfl hi_5 dX0_chooseTests_30 rfl (ws' := (wK G h f_6 v)) (by subst ef_6; rfl) ?_
        refine j_iload_n 32 C dX0_chooseTests_31 rfl 2 rfl ?_
        refine j_aload_n 33 C dX0_chooseTests_32 rfl 0 rfl ?_
        refine j_get 36 C uX0 0 rfl rfl 0 (Nat.le_of_ble_eq_true rfl) lX0_9 (v := .ref (h 1)) rfl dX0_chooseTests_33 rfl ?_
        refine j_aload_n 37 C dX0_chooseTests_36 rfl 0 rfl ?_
        refine j_get 40 C uX0 0 rfl rfl 3 (Nat.le_of_ble_eq_true rfl) lX0_21 (v := .ref (h 4)) rfl dX0_chooseTests_37 rfl ?_
        refine j_iload_n 41 C dX0_chooseTests_40 rfl 3 rfl ?_
        obtain ⟨hi_7, hq⟩ := hq
        refine j_iald 42 C 4 (f := (f_6 3)) rfl hi_7 dX0_chooseTests_41 rfl ?_
        obtain ⟨hi_8, hq⟩ := hq
        refine j_iald 43 C 1 (f := (f_6 0)) rfl hi_8 dX0_chooseTests_42 rfl ?_
        refine j_iconst 44 C dX0_chooseTests_43 rfl ic_m1 ?_
        refine j_ixor 45 C dX0_chooseTests_44 rfl ?_
        refine j_iand 46 C dX0_chooseTests_45 rfl ?_
        refine J.topi (fun x_9 ex_9 => ?_)
        replace hq := hq x_9 ex_9
        refine j_istore_n 47 C dX0_chooseTests_46 rfl (Nat.le_of_ble_eq_true rfl) [1, 2, 0, 3] (lv' := [(0, .ref (h 0)), (1, .int x1), (2, .int x_9), (3, .int x3)]) rfl ?_
        obtain ⟨x_10, ex_10⟩ : ∃ y : Int32, y = (x3 + (1 : Int32)) := ⟨_, rfl⟩
        replace hq := hq x_10 ex_10
        refine j_iinc 50 C dX0_chooseTests_47 rfl 3 rfl (v := x_10) (by rw [ex_10]; rfl) (Nat.le_of_ble_eq_true rfl) [1, 2, 3, 0] (lv' := [(0, .ref (h 0)), (1, .int x1), (2, .int x_9), (3, .int x_10)]) rfl ?_
        refine j_goto 7 C dX0_chooseTests_50 rfl ?_
        refine J.l0 [0, 1, 2, 3] rfl ?_
        exact ih _ _ _ _ hq
def Q_X0_chooseTests (p0 : Int32) (f : FF) (v : VV) (post : Int32 → FF → VV → Prop) : Prop := ∀ x_1 : Int32, x_1 = (v 2) → (∃ n_11 : Nat, Q_X0_chooseTests_L7 p0 (fun x_12 x_13 f_14 v_15 => (post x_13 f_14 v_15)) n_11 x_1 (0 : Int32) f v)
set_option maxRecDepth 100000 in
set_option maxHeartbeats 4000000 in
theorem m_X0_chooseTests {l : Launch} (G : Gx) (h : Nat → Nat) (p0 : Int32) (f : FF) (v : VV) {post : Int32 → FF → VV → Prop} (hq : Q_X0_chooseTests p0 f v post) : MetI l yX0_chooseTests (gC yX0_chooseTests cX0_chooseTests 4 (some .int)) rmX0_chooseTests G [.ref (h 0), .int p0] (wK G h) f v post := by
  refine met_i (own := RX0) (by decide) rfl (Nat.le_of_ble_eq_true rfl) (fun κ hκ C hR => ?_)
  unfold Q_X0_chooseTests at hq
  subst hκ
  show J κ 0 0 (wK G h f v) 0 [(0, .ref (h 0)), (1, .int p0)] []
  refine j_aload_n 1 C dX0_chooseTests_0 rfl 0 rfl ?_
  refine j_get 4 C uX0 0 rfl rfl 6 (Nat.le_of_ble_eq_true rfl) lX0_37 (v := .int (v 2)) rfl dX0_chooseTests_1 rfl ?_
  refine J.topi (fun x_1 ex_1 => ?_)
  replace hq := hq x_1 ex_1
  refine j_istore_n 5 C dX0_chooseTests_4 rfl (Nat.le_of_ble_eq_true rfl) [1, 2, 0] (lv' := [(0, .ref (h 0)), (1, .int p0), (2, .int x_1)]) rfl ?_
  refine j_iconst 6 C dX0_chooseTests_5 rfl ic_0 ?_
  refine j_istore_n 7 C dX0_chooseTests_6 rfl (Nat.le_of_ble_eq_true rfl) [1, 2, 3, 0] (lv' := [(0, .ref (h 0)), (1, .int p0), (2, .int x_1), (3, .int (0 : Int32))]) rfl ?_
  obtain ⟨n_11, hq⟩ := hq
  refine t_X0_chooseTests_L7 C ?_ n_11 _ _ _ _ hq
  · intro x_12 x_13 f_14 v_15 hq
    refine j_iload_n 54 C dX0_chooseTests_53 rfl 3 rfl ?_
    exact hR _ _ _ f_14 v_15 dX0_chooseTests_54 hq
def Q_X0_chosenSet_L4 (f : FF) (v : VV) (x1 : Int32) (K26 : Int32 → Int32 → Prop) : Nat → Int32 → Int32 → Prop
  | 0, _, _ => False
  | n + 1, x2, x3 => ((x1 ≤ x3 → (K26 x2 x3)) ∧ (¬ x1 ≤ x3 → (vp_in x3 7 ∧ (∀ x_3 : Int32, x_3 = (x2 ||| ((1 : Int32) <<< (((f 3) (x3).toNatClampNeg) &&& 31))) → (∀ x_4 : Int32, x_4 = (x3 + (1 : Int32)) → (Q_X0_chosenSet_L4 f v x1 K26 n x_3 x_4))))))
set_option maxRecDepth 100000 in
set_option maxHeartbeats 4000000 in
theorem t_X0_chosenSet_L4 {κ : Kx} {G : Gx} {h : Nat → Nat} (C : Cx κ G RX0 cX0_chosenSet rmX0_chosenSet 4) {f : FF} {v : VV} {x1 : Int32} {K26 : Int32 → Int32 → Prop} (hK26 : ∀ (x2 : Int32) (x3 : Int32), K26 x2 x3 → J κ 0 0 (wK G h f v) 26 [(0, .ref (h 0)), (1, .int x1), (2, .int x2), (3, .int x3)] []) : ∀ (n : Nat) (x2 : Int32) (x3 : Int32), Q_X0_chosenSet_L4 f v x1 K26 n x2 x3 → J κ 0 0 (wK G h f v) 4 [(0, .ref (h 0)), (1, .int x1), (2, .int x2), (3, .int x3)] [] := by
  intro n
  induction n with
  | zero => intro x2 x3 hq; exact False.elim hq
  | succ n ih =>
    intro x2 x3 hq
    rw [Q_X0_chosenSet_L4] at hq
    refine j_iload_n 5 C dX0_chosenSet_4 rfl 3 rfl ?_
    refine j_iload_n 6 C dX0_chosenSet_5 rfl 1 rfl ?_
    refine j_icmp_ge 9 26 C dX0_chosenSet_6 rfl rfl (fun c_1 => ?_) (fun c_1 => ?_)
    · replace hq := hq.1 c_1
      refine J.l0 [0, 1, 2, 3] rfl ?_
      exact hK26 _ _ hq
    · replace hq := hq.2 c_1
      refine j_iload_n 10 C dX0_chosenSet_9 rfl 2 rfl ?_
      refine j_iconst 11 C dX0_chosenSet_10 rfl ic_1 ?_
      refine j_aload_n 12 C dX0_chosenSet_11 rfl 0 rfl ?_
      refine j_get 15 C uX0 0 rfl rfl 3 (Nat.le_of_ble_eq_true rfl) lX0_21 (v := .ref (h 4)) rfl dX0_chosenSet_12 rfl ?_
      refine j_iload_n 16 C dX0_chosenSet_15 rfl 3 rfl ?_
      obtain ⟨hi_2, hq⟩ := hq
      refine j_iald 17 C 4 (f := (f 3)) rfl hi_2 dX0_chosenSet_16 rfl ?_
      refine j_ishl 18 C dX0_chosenSet_17 rfl ?_
      refine j_ior 19 C dX0_chosenSet_18 rfl ?_
      refine J.topi (fun x_3 ex_3 => ?_)
      replace hq := hq x_3 ex_3
      refine j_istore_n 20 C dX0_chosenSet_19 rfl (Nat.le_of_ble_eq_true rfl) [1, 2, 0, 3] (lv' := [(0, .ref (h 0)), (1, .int x1), (2, .int x_3), (3, .int x3)]) rfl ?_
      obtain ⟨x_4, ex_4⟩ : ∃ y : Int32, y = (x3 + (1 : Int32)) := ⟨_, rfl⟩
      replace hq := hq x_4 ex_4
      refine j_iinc 23 C dX0_chosenSet_20 rfl 3 rfl (v := x_4) (by rw [ex_4]; rfl) (Nat.le_of_ble_eq_true rfl) [1, 2, 3, 0] (lv' := [(0, .ref (h 0)), (1, .int x1), (2, .int x_3), (3, .int x_4)]) rfl ?_
      refine j_goto 4 C dX0_chosenSet_23 rfl ?_
      refine J.l0 [0, 1, 2, 3] rfl ?_
      exact ih _ _ hq
def Q_X0_chosenSet (p0 : Int32) (f : FF) (v : VV) (post : Int32 → Prop) : Prop := ∃ n_5 : Nat, Q_X0_chosenSet_L4 f v p0 (fun x_6 x_7 => (post x_6)) n_5 (0 : Int32) (0 : Int32)
set_option maxRecDepth 100000 in
set_option maxHeartbeats 4000000 in
theorem m_X0_chosenSet {l : Launch} (G : Gx) (h : Nat → Nat) (p0 : Int32) (f : FF) (v : VV) {post : Int32 → Prop} (hq : Q_X0_chosenSet p0 f v post) : MetI l yX0_chosenSet (gC yX0_chosenSet cX0_chosenSet 4 (some .int)) rmX0_chosenSet G [.ref (h 0), .int p0] (wK G h) f v (fun r f' v' => post r ∧ f' = f ∧ v' = v) := by
  refine met_i (own := RX0) (by decide) rfl (Nat.le_of_ble_eq_true rfl) (fun κ hκ C hR => ?_)
  unfold Q_X0_chosenSet at hq
  subst hκ
  show J κ 0 0 (wK G h f v) 0 [(0, .ref (h 0)), (1, .int p0)] []
  refine j_iconst 1 C dX0_chosenSet_0 rfl ic_0 ?_
  refine j_istore_n 2 C dX0_chosenSet_1 rfl (Nat.le_of_ble_eq_true rfl) [1, 2, 0] (lv' := [(0, .ref (h 0)), (1, .int p0), (2, .int (0 : Int32))]) rfl ?_
  refine j_iconst 3 C dX0_chosenSet_2 rfl ic_0 ?_
  refine j_istore_n 4 C dX0_chosenSet_3 rfl (Nat.le_of_ble_eq_true rfl) [1, 2, 3, 0] (lv' := [(0, .ref (h 0)), (1, .int p0), (2, .int (0 : Int32)), (3, .int (0 : Int32))]) rfl ?_
  obtain ⟨n_5, hq⟩ := hq
  refine t_X0_chosenSet_L4 C ?_ n_5 _ _ hq
  · intro x_6 x_7 hq
    refine j_iload_n 27 C dX0_chosenSet_26 rfl 2 rfl ?_
    exact hR _ _ _ f v dX0_chosenSet_27 ⟨hq, rfl, rfl⟩
def Q_X4_share_L12 (x0 : Int32) (x1 : Int32) (x2 : Int32) (K41 : Int32 → Int32 → Prop) : Nat → Int32 → Int32 → Prop
  | 0, _, _ => False
  | n + 1, x3, x4 => ((x1 < x4 → (K41 x3 x4)) ∧ (¬ x1 < x4 → (¬ x4 = 0 ∧ (((¬ (x0 - x0 / x4 * x4) = 0 → (∀ x_5 : Int32, x_5 = (x4 + (1 : Int32)) → (Q_X4_share_L12 x0 x1 x2 K41 n x3 x_5))) ∧ ((x0 - x0 / x4 * x4) = 0 → (¬ x4 = 0 ∧ (((¬ (x1 - x1 / x4 * x4) = 0 → (∀ x_8 : Int32, x_8 = (x4 + (1 : Int32)) → (Q_X4_share_L12 x0 x1 x2 K41 n x3 x_8))) ∧ ((x1 - x1 / x4 * x4) = 0 → (∀ x_9 : Int32, x_9 = (x4 + (1 : Int32)) → (Q_X4_share_L12 x0 x1 x2 K41 n x4 x_9))))))))))))
set_option maxRecDepth 100000 in
set_option maxHeartbeats 4000000 in
theorem t_X4_share_L12 {κ : Kx} {G : Gx} (C : Cx κ G RX4 cX4_share rmX4_share 5) {x0 : Int32} {x1 : Int32} {x2 : Int32} {K41 : Int32 → Int32 → Prop} (hK41 : ∀ (x3 : Int32) (x4 : Int32), K41 x3 x4 → J κ 0 0 [] 41 [(0, .int x0), (1, .int x1), (2, .int x2), (3, .int x3), (4, .int x4)] []) : ∀ (n : Nat) (x3 : Int32) (x4 : Int32), Q_X4_share_L12 x0 x1 x2 K41 n x3 x4 → J κ 0 0 [] 12 [(0, .int x0), (1, .int x1), (2, .int x2), (3, .int x3), (4, .int x4)] [] := by
  intro n
  induction n with
  | zero => intro x3 x4 hq; exact False.elim hq
  | succ n ih =>
    intro x3 x4 hq
    rw [Q_X4_share_L12] at hq
    refine j_iload 14 C dX4_share_12 rfl 4 rfl ?_
    refine j_iload_n 15 C dX4_share_14 rfl 1 rfl ?_
    refine j_icmp_gt 18 41 C dX4_share_15 rfl rfl (fun c_2 => ?_) (fun c_2 => ?_)
    · replace hq := hq.1 c_2
      refine J.l0 [0, 1, 2, 3, 4] rfl ?_
      exact hK41 _ _ hq
    · replace hq := hq.2 c_2
      refine j_iload_n 19 C dX4_share_18 rfl 0 rfl ?_
      refine j_iload 21 C dX4_share_19 rfl 4 rfl ?_
      obtain ⟨hz_3, hq⟩ := hq
      refine j_irem 22 C dX4_share_21 rfl hz_3 ?_
      refine j_if_ne 25 35 C dX4_share_22 rfl rfl (fun c_4 => ?_) (fun c_4 => ?_)
      · replace hq := hq.1 c_4
        obtain ⟨x_5, ex_5⟩ : ∃ y : Int32, y = (x4 + (1 : Int32)) := ⟨_, rfl⟩
        replace hq := hq x_5 ex_5
        refine j_iinc 38 C dX4_share_35 rfl 4 rfl (v := x_5) (by rw [ex_5]; rfl) (Nat.le_of_ble_eq_true rfl) [1, 2, 3, 4, 0] (lv' := [(0, .int x0), (1, .int x1), (2, .int x2), (3, .int x3), (4, .int x_5)]) rfl ?_
        refine j_goto 12 C dX4_share_38 rfl ?_
        refine J.l0 [0, 1, 2, 3, 4] rfl ?_
        exact ih _ _ hq
      · replace hq := hq.2 c_4
        refine j_iload_n 26 C dX4_share_25 rfl 1 rfl ?_
        refine j_iload 28 C dX4_share_26 rfl 4 rfl ?_
        obtain ⟨hz_6, hq⟩ := hq
        refine j_irem 29 C dX4_share_28 rfl hz_6 ?_
        refine j_if_ne 32 35 C dX4_share_29 rfl rfl (fun c_7 => ?_) (fun c_7 => ?_)
        · replace hq := hq.1 c_7
          obtain ⟨x_8, ex_8⟩ : ∃ y : Int32, y = (x4 + (1 : Int32)) := ⟨_, rfl⟩
          replace hq := hq x_8 ex_8
          refine j_iinc 38 C dX4_share_35 rfl 4 rfl (v := x_8) (by rw [ex_8]; rfl) (Nat.le_of_ble_eq_true rfl) [1, 2, 3, 4, 0] (lv' := [(0, .int x0), (1, .int x1), (2, .int x2), (3, .int x3), (4, .int x_8)]) rfl ?_
          refine j_goto 12 C dX4_share_38 rfl ?_
          refine J.l0 [0, 1, 2, 3, 4] rfl ?_
          exact ih _ _ hq
        · replace hq := hq.2 c_7
          refine j_iload 34 C dX4_share_32 rfl 4 rfl ?_
          refine j_istore_n 35 C dX4_share_34 rfl (Nat.le_of_ble_eq_true rfl) [1, 2, 3, 0, 4] (lv' := [(0, .int x0), (1, .int x1), (2, .int x2), (3, .int x4), (4, .int x4)]) rfl ?_
          obtain ⟨x_9, ex_9⟩ : ∃ y : Int32, y = (x4 + (1 : Int32)) := ⟨_, rfl⟩
          replace hq := hq x_9 ex_9
          refine j_iinc 38 C dX4_share_35 rfl 4 rfl (v := x_9) (by rw [ex_9]; rfl) (Nat.le_of_ble_eq_true rfl) [1, 2, 3, 4, 0] (lv' := [(0, .int x0), (1, .int x1), (2, .int x2), (3, .int x4), (4, .int x_9)]) rfl ?_
          refine j_goto 12 C dX4_share_38 rfl ?_
          refine J.l0 [0, 1, 2, 3, 4] rfl ?_
          exact ih _ _ hq
def Q_X4_share (p0 : Int32) (p1 : Int32) (p2 : Int32) (post : Int64 → Prop) : Prop := ((0 < p1 → (∃ n_10 : Nat, Q_X4_share_L12 p0 p1 p2 (fun x_11 x_12 => (((¬ p2 = 0 → (¬ x_11 = 0 ∧ (post (((p1 / x_11)).toInt64)))) ∧ (p2 = 0 → (¬ x_11 = 0 ∧ (post (((p0 / x_11)).toInt64))))))) n_10 (1 : Int32) (2 : Int32))) ∧ (¬ 0 < p1 → (post ((p2).toInt64))))
set_option maxRecDepth 100000 in
set_option maxHeartbeats 4000000 in
theorem m_X4_share {l : Launch} (G : Gx) (p0 : Int32) (p1 : Int32) (p2 : Int32) {post : Int64 → Prop} (hq : Q_X4_share p0 p1 p2 post) : MetL l yX4_share (gC yX4_share cX4_share 5 (some .long)) rmX4_share G [.int p0, .int p1, .int p2] w0 f0 v0 (fun r _ _ => post r) := by
  refine met_l (own := RX4) (by decide) rfl (Nat.le_of_ble_eq_true rfl) (fun κ hκ C hR => ?_)
  unfold Q_X4_share at hq
  subst hκ
  show J κ 0 0 [] 0 [(0, .int p0), (1, .int p1), (2, .int p2)] []
  refine j_iload_n 1 C dX4_share_0 rfl 1 rfl ?_
  refine j_if_gt 4 7 C dX4_share_1 rfl rfl (fun c_1 => ?_) (fun c_1 => ?_)
  · replace hq := hq.1 c_1
    refine j_iconst 8 C dX4_share_7 rfl ic_1 ?_
    refine j_istore_n 9 C dX4_share_8 rfl (Nat.le_of_ble_eq_true rfl) [1, 2, 3, 0] (lv' := [(0, .int p0), (1, .int p1), (2, .int p2), (3, .int (1 : Int32))]) rfl ?_
    refine j_iconst 10 C dX4_share_9 rfl ic_2 ?_
    refine j_istore 12 C dX4_share_10 rfl (Nat.le_of_ble_eq_true rfl) [1, 2, 3, 4, 0] (lv' := [(0, .int p0), (1, .int p1), (2, .int p2), (3, .int (1 : Int32)), (4, .int (2 : Int32))]) rfl ?_
    obtain ⟨n_10, hq⟩ := hq
    refine t_X4_share_L12 C ?_ n_10 _ _ hq
    · intro x_11 x_12 hq
      refine j_iload_n 42 C dX4_share_41 rfl 2 rfl ?_
      refine j_if_ne 45 52 C dX4_share_42 rfl rfl (fun c_13 => ?_) (fun c_13 => ?_)
      · replace hq := hq.1 c_13
        refine j_iload_n 53 C dX4_share_52 rfl 1 rfl ?_
        refine j_iload_n 54 C dX4_share_53 rfl 3 rfl ?_
        obtain ⟨hz_14, hq⟩ := hq
        refine j_idiv 55 C dX4_share_54 rfl hz_14 ?_
        refine j_i2l 56 C dX4_share_55 rfl ?_
        exact hR _ _ _ f0 v0 dX4_share_56 hq
      · replace hq := hq.2 c_13
        refine j_iload_n 46 C dX4_share_45 rfl 0 rfl ?_
        refine j_iload_n 47 C dX4_share_46 rfl 3 rfl ?_
        obtain ⟨hz_15, hq⟩ := hq
        refine j_idiv 48 C dX4_share_47 rfl hz_15 ?_
        refine j_i2l 49 C dX4_share_48 rfl ?_
        refine j_goto 56 C dX4_share_49 rfl ?_
        exact hR _ _ _ f0 v0 dX4_share_56 hq
  · replace hq := hq.2 c_1
    refine j_iload_n 5 C dX4_share_4 rfl 2 rfl ?_
    refine j_i2l 6 C dX4_share_5 rfl ?_
    exact hR _ _ _ f0 v0 dX4_share_6 hq
def Q_X2_renew_L12 (x1 : Int32) (x2 : Int32) (K30 : Int32 → FF → VV → Prop) : Nat → Int32 → FF → VV → Prop
  | 0, _, _, _ => False
  | n + 1, x3, f, v => ((x2 ≤ x3 → (K30 x3 f v)) ∧ (¬ x2 ≤ x3 → (vp_in x3 60 ∧ (∀ f_5 : FF, f_5 = fu f 0 (wr (f 0) x3 (0 : Int32)) → (∀ x_6 : Int32, x_6 = (x3 + (1 : Int32)) → (Q_X2_renew_L12 x1 x2 K30 n x_6 f_5 v))))))
set_option maxRecDepth 100000 in
set_option maxHeartbeats 4000000 in
theorem t_X2_renew_L12 {κ : Kx} {G : Gx} {h : Nat → Nat} (C : Cx κ G RX2 cX2_renew rmX2_renew 4) {x1 : Int32} {x2 : Int32} {K30 : Int32 → FF → VV → Prop} (hK30 : ∀ (x3 : Int32) (f : FF) (v : VV), K30 x3 f v → J κ 0 0 (wS G h f v) 30 [(0, .ref (h 0)), (1, .int x1), (2, .int x2), (3, .int x3)] []) : ∀ (n : Nat) (x3 : Int32) (f : FF) (v : VV), Q_X2_renew_L12 x1 x2 K30 n x3 f v → J κ 0 0 (wS G h f v) 12 [(0, .ref (h 0)), (1, .int x1), (2, .int x2), (3, .int x3)] [] := by
  intro n
  induction n with
  | zero => intro x3 f v hq; exact False.elim hq
  | succ n ih =>
    intro x3 f v hq
    rw [Q_X2_renew_L12] at hq
    refine j_iload_n 13 C dX2_renew_12 rfl 3 rfl ?_
    refine j_iload_n 14 C dX2_renew_13 rfl 2 rfl ?_
    refine j_icmp_ge 17 30 C dX2_renew_14 rfl rfl (fun c_3 => ?_) (fun c_3 => ?_)
    · replace hq := hq.1 c_3
      refine J.l0 [0, 1, 2, 3] rfl ?_
      exact hK30 _ _ _ hq
    · replace hq := hq.2 c_3
      refine j_aload_n 18 C dX2_renew_17 rfl 0 rfl ?_
      refine j_get 21 C uX2 0 rfl rfl 0 (Nat.le_of_ble_eq_true rfl) lX2_9 (v := .ref (h 1)) rfl dX2_renew_18 rfl ?_
      refine j_iload_n 22 C dX2_renew_21 rfl 3 rfl ?_
      refine j_iconst 23 C dX2_renew_22 rfl ic_0 ?_
      obtain ⟨hi_4, hq⟩ := hq
      obtain ⟨f_5, ef_5⟩ : ∃ y : FF, y = fu f 0 (wr (f 0) x3 (0 : Int32)) := ⟨_, rfl⟩
      replace hq := hq f_5 ef_5
      refine j_iast 24 C 1 rfl hi_4 dX2_renew_23 rfl (ws' := (wS G h f_5 v)) (by subst ef_5; rfl) ?_
      obtain ⟨x_6, ex_6⟩ : ∃ y : Int32, y = (x3 + (1 : Int32)) := ⟨_, rfl⟩
      replace hq := hq x_6 ex_6
      refine j_iinc 27 C dX2_renew_24 rfl 3 rfl (v := x_6) (by rw [ex_6]; rfl) (Nat.le_of_ble_eq_true rfl) [1, 2, 3, 0] (lv' := [(0, .ref (h 0)), (1, .int x1), (2, .int x2), (3, .int x_6)]) rfl ?_
      refine j_goto 12 C dX2_renew_27 rfl ?_
      refine J.l0 [0, 1, 2, 3] rfl ?_
      exact ih _ _ _ hq
def Q_X2_renew (p0 : Int32) (p1 : Int32) (f : FF) (v : VV) (post : FF → VV → Prop) : Prop := ∀ v_1 : VV, v_1 = fu v 0 p0 → (∀ v_2 : VV, v_2 = fu v_1 1 p1 → (∃ n_7 : Nat, Q_X2_renew_L12 p0 p1 (fun x_8 f_9 v_10 => (post f_9 v_10)) n_7 (0 : Int32) f v_2))
set_option maxRecDepth 100000 in
set_option maxHeartbeats 4000000 in
theorem m_X2_renew {l : Launch} (G : Gx) (h : Nat → Nat) (p0 : Int32) (p1 : Int32) (f : FF) (v : VV) {post : FF → VV → Prop} (hq : Q_X2_renew p0 p1 f v post) : MetV l yX2_renew (gC yX2_renew cX2_renew 4 none) rmX2_renew G [.ref (h 0), .int p0, .int p1] (wS G h) f v post := by
  refine met_v (own := RX2) (by decide) rfl (Nat.le_of_ble_eq_true rfl) (fun κ hκ C hR => ?_)
  unfold Q_X2_renew at hq
  subst hκ
  show J κ 0 0 (wS G h f v) 0 [(0, .ref (h 0)), (1, .int p0), (2, .int p1)] []
  refine j_aload_n 1 C dX2_renew_0 rfl 0 rfl ?_
  refine j_iload_n 2 C dX2_renew_1 rfl 1 rfl ?_
  obtain ⟨v_1, ev_1⟩ : ∃ y : VV, y = fu v 0 p0 := ⟨_, rfl⟩
  replace hq := hq v_1 ev_1
  refine j_put 5 C uX2 tyX2 tyX2_ok nmX2 0 rfl rfl 1 (Nat.le_of_ble_eq_true rfl) lX2_15 rfl rfl (Nat.le_of_ble_eq_true rfl) dX2_renew_2 rfl (ws' := (wS G h f v_1)) (by subst ev_1; rfl) ?_
  refine j_aload_n 6 C dX2_renew_5 rfl 0 rfl ?_
  refine j_iload_n 7 C dX2_renew_6 rfl 2 rfl ?_
  obtain ⟨v_2, ev_2⟩ : ∃ y : VV, y = fu v_1 1 p1 := ⟨_, rfl⟩
  replace hq := hq v_2 ev_2
  refine j_put 10 C uX2 tyX2 tyX2_ok nmX2 0 rfl rfl 2 (Nat.le_of_ble_eq_true rfl) lX2_19 rfl rfl (Nat.le_of_ble_eq_true rfl) dX2_renew_7 rfl (ws' := (wS G h f v_2)) (by subst ev_2; rfl) ?_
  refine j_iconst 11 C dX2_renew_10 rfl ic_0 ?_
  refine j_istore_n 12 C dX2_renew_11 rfl (Nat.le_of_ble_eq_true rfl) [1, 2, 3, 0] (lv' := [(0, .ref (h 0)), (1, .int p0), (2, .int p1), (3, .int (0 : Int32))]) rfl ?_
  obtain ⟨n_7, hq⟩ := hq
  refine t_X2_renew_L12 C ?_ n_7 _ _ _ hq
  · intro x_8 f_9 v_10 hq
    exact hR _ _ _ _ dX2_renew_30 hq
def Q_X2_becomeNothing (f : FF) (v : VV) (post : FF → VV → Prop) : Prop := ∀ v_1 : VV, v_1 = fu v 0 (-1 : Int32) → (∀ v_2 : VV, v_2 = fu v_1 1 (0 : Int32) → (post f v_2))
set_option maxRecDepth 100000 in
set_option maxHeartbeats 4000000 in
theorem m_X2_becomeNothing {l : Launch} (G : Gx) (h : Nat → Nat) (f : FF) (v : VV) {post : FF → VV → Prop} (hq : Q_X2_becomeNothing f v post) : MetV l yX2_becomeNothing (gC yX2_becomeNothing cX2_becomeNothing 1 none) rmX2_becomeNothing G [.ref (h 0)] (wS G h) f v post := by
  refine met_v (own := RX2) (by decide) rfl (Nat.le_of_ble_eq_true rfl) (fun κ hκ C hR => ?_)
  unfold Q_X2_becomeNothing at hq
  subst hκ
  show J κ 0 0 (wS G h f v) 0 [(0, .ref (h 0))] []
  refine j_aload_n 1 C dX2_becomeNothing_0 rfl 0 rfl ?_
  refine j_iconst 2 C dX2_becomeNothing_1 rfl ic_m1 ?_
  obtain ⟨v_1, ev_1⟩ : ∃ y : VV, y = fu v 0 (-1 : Int32) := ⟨_, rfl⟩
  replace hq := hq v_1 ev_1
  refine j_put 5 C uX2 tyX2 tyX2_ok nmX2 0 rfl rfl 1 (Nat.le_of_ble_eq_true rfl) lX2_15 rfl rfl (Nat.le_of_ble_eq_true rfl) dX2_becomeNothing_2 rfl (ws' := (wS G h f v_1)) (by subst ev_1; rfl) ?_
  refine j_aload_n 6 C dX2_becomeNothing_5 rfl 0 rfl ?_
  refine j_iconst 7 C dX2_becomeNothing_6 rfl ic_0 ?_
  obtain ⟨v_2, ev_2⟩ : ∃ y : VV, y = fu v_1 1 (0 : Int32) := ⟨_, rfl⟩
  replace hq := hq v_2 ev_2
  refine j_put 10 C uX2 tyX2 tyX2_ok nmX2 0 rfl rfl 2 (Nat.le_of_ble_eq_true rfl) lX2_19 rfl rfl (Nat.le_of_ble_eq_true rfl) dX2_becomeNothing_7 rfl (ws' := (wS G h f v_2)) (by subst ev_2; rfl) ?_
  exact hR _ _ _ _ dX2_becomeNothing_10 hq
def Q_X2_hasCell (p0 : Int32) (f : FF) (v : VV) (post : Int32 → Prop) : Prop := ((p0 < 0 → (post (0 : Int32))) ∧ (¬ p0 < 0 → ((((v 1) ≤ p0 → (post (0 : Int32))) ∧ (¬ (v 1) ≤ p0 → (post (1 : Int32)))))))
set_option maxRecDepth 100000 in
set_option maxHeartbeats 4000000 in
theorem m_X2_hasCell {l : Launch} (G : Gx) (h : Nat → Nat) (p0 : Int32) (f : FF) (v : VV) {post : Int32 → Prop} (hq : Q_X2_hasCell p0 f v post) : MetI l yX2_hasCell (gC yX2_hasCell cX2_hasCell 2 (some .boolean)) rmX2_hasCell G [.ref (h 0), .int p0] (wS G h) f v (fun r f' v' => post r ∧ f' = f ∧ v' = v) := by
  refine met_z (own := RX2) (by decide) rfl (Nat.le_of_ble_eq_true rfl) (fun κ hκ C hR => ?_)
  unfold Q_X2_hasCell at hq
  subst hκ
  show J κ 0 0 (wS G h f v) 0 [(0, .ref (h 0)), (1, .int p0)] []
  refine j_iload_n 1 C dX2_hasCell_0 rfl 1 rfl ?_
  refine j_if_lt 4 16 C dX2_hasCell_1 rfl rfl (fun c_1 => ?_) (fun c_1 => ?_)
  · replace hq := hq.1 c_1
    refine j_iconst 17 C dX2_hasCell_16 rfl ic_0 ?_
    exact hR _ _ _ f v dX2_hasCell_17 (Or.inl rfl) ⟨hq, rfl, rfl⟩
  · replace hq := hq.2 c_1
    refine j_iload_n 5 C dX2_hasCell_4 rfl 1 rfl ?_
    refine j_aload_n 6 C dX2_hasCell_5 rfl 0 rfl ?_
    refine j_get 9 C uX2 0 rfl rfl 2 (Nat.le_of_ble_eq_true rfl) lX2_19 (v := .int (v 1)) rfl dX2_hasCell_6 rfl ?_
    refine j_icmp_ge 12 16 C dX2_hasCell_9 rfl rfl (fun c_2 => ?_) (fun c_2 => ?_)
    · replace hq := hq.1 c_2
      refine j_iconst 17 C dX2_hasCell_16 rfl ic_0 ?_
      exact hR _ _ _ f v dX2_hasCell_17 (Or.inl rfl) ⟨hq, rfl, rfl⟩
    · replace hq := hq.2 c_2
      refine j_iconst 13 C dX2_hasCell_12 rfl ic_1 ?_
      refine j_goto 17 C dX2_hasCell_13 rfl ?_
      exact hR _ _ _ f v dX2_hasCell_17 (Or.inr rfl) ⟨hq, rfl, rfl⟩
def Q_X2_cut (p0 : Int32) (f : FF) (v : VV) (post : Int32 → Prop) : Prop := (((v 0) = (0 : Int32) → (post ((p0).toInt8.toInt32))) ∧ (¬ (v 0) = (0 : Int32) → ((((v 0) = (1 : Int32) → (post ((p0).toInt16.toInt32))) ∧ (¬ (v 0) = (1 : Int32) → (post p0))))))
set_option maxRecDepth 100000 in
set_option maxHeartbeats 4000000 in
theorem m_X2_cut {l : Launch} (G : Gx) (h : Nat → Nat) (p0 : Int32) (f : FF) (v : VV) {post : Int32 → Prop} (hq : Q_X2_cut p0 f v post) : MetI l yX2_cut (gC yX2_cut cX2_cut 2 (some .int)) rmX2_cut G [.ref (h 0), .int p0] (wS G h) f v (fun r f' v' => post r ∧ f' = f ∧ v' = v) := by
  refine met_i (own := RX2) (by decide) rfl (Nat.le_of_ble_eq_true rfl) (fun κ hκ C hR => ?_)
  unfold Q_X2_cut at hq
  subst hκ
  show J κ 0 0 (wS G h f v) 0 [(0, .ref (h 0)), (1, .int p0)] []
  refine j_aload_n 1 C dX2_cut_0 rfl 0 rfl ?_
  refine j_get 4 C uX2 0 rfl rfl 1 (Nat.le_of_ble_eq_true rfl) lX2_15 (v := .int (v 0)) rfl dX2_cut_1 rfl ?_
  by_cases c_1 : (v 0) = (0 : Int32)
  · replace hq := hq.1 c_1
    refine j_lookup 32 C dX2_cut_4 (by decide) (off := 28) (by rw [c_1] <;> decide) rfl ?_
    refine j_iload_n 33 C dX2_cut_32 rfl 1 rfl ?_
    refine j_i2b 34 C dX2_cut_33 rfl ?_
    exact hR _ _ _ f v dX2_cut_34 ⟨hq, rfl, rfl⟩
  · replace hq := hq.2 c_1
    by_cases c_2 : (v 0) = (1 : Int32)
    · replace hq := hq.1 c_2
      refine j_lookup 35 C dX2_cut_4 (by decide) (off := 31) (by rw [c_2] <;> decide) rfl ?_
      refine j_iload_n 36 C dX2_cut_35 rfl 1 rfl ?_
      refine j_i2s 37 C dX2_cut_36 rfl ?_
      exact hR _ _ _ f v dX2_cut_37 ⟨hq, rfl, rfl⟩
    · replace hq := hq.2 c_2
      have zc_1 := ne_toInt (z := 0) (by decide) c_1
      have zc_2 := ne_toInt (z := 1) (by decide) c_2
      refine j_lookup 38 C dX2_cut_4 (by decide) (off := 34) (by simp only [Op.lookupswitch.offset_cons, Op.lookupswitch.offset_nil]; rw [if_neg (fun e9 => zc_1 e9.symm)]; rw [if_neg (fun e9 => zc_2 e9.symm)]) rfl ?_
      refine j_iload_n 39 C dX2_cut_38 rfl 1 rfl ?_
      exact hR _ _ _ f v dX2_cut_39 ⟨hq, rfl, rfl⟩
