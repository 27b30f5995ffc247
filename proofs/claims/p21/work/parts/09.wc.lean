/-! ===== printed by program (wip/gen/run.py): what a walk needs, and the contract out of it ===== -/
def Q_X5_fails (p0 : Int32) (f : FF) (v : VV) (post : Int32 → FF → VV → Prop) : Prop := ∀ v_1 : VV, v_1 = fu v 0 p0 → (post ((-10 : Int32) - p0) f v_1)
set_option maxRecDepth 100000 in
set_option maxHeartbeats 4000000 in
theorem m_X5_fails {l : Launch} (G : Gx) (h : Nat → Nat) (p0 : Int32) (f : FF) (v : VV) {post : Int32 → FF → VV → Prop} (hq : Q_X5_fails p0 f v post) : MetI l yX5_fails (gC yX5_fails cX5_fails 2 (some .int)) rmX5_fails G [.ref (h 0), .int p0] (wE G h) f v post := by
  refine met_i (own := RX5) (by decide) rfl (Nat.le_of_ble_eq_true rfl) (fun κ hκ C hR => ?_)
  unfold Q_X5_fails at hq
  subst hκ
  show J κ 0 0 (wE G h f v) 0 [(0, .ref (h 0)), (1, .int p0)] []
  refine j_aload_n 1 C dX5_fails_0 rfl 0 rfl ?_
  refine j_iload_n 2 C dX5_fails_1 rfl 1 rfl ?_
  obtain ⟨v_1, ev_1⟩ : ∃ y : VV, y = fu v 0 p0 := ⟨_, rfl⟩
  replace hq := hq v_1 ev_1
  refine j_put 5 C uX5 tyX5 tyX5_ok nmX5 0 rfl rfl 0 (Nat.le_of_ble_eq_true rfl) lX5_61 rfl rfl (Nat.le_of_ble_eq_true rfl) dX5_fails_2 rfl (ws' := (wE G h f v_1)) (by subst ev_1; rfl) ?_
  refine j_bipush 7 C dX5_fails_5 rfl bc_m10 ?_
  refine j_iload_n 8 C dX5_fails_7 rfl 1 rfl ?_
  refine j_isub 9 C dX5_fails_8 rfl ?_
  exact hR _ _ _ f v_1 dX5_fails_9 hq
def Q_X5_lost (p0 : Int32) (f : FF) (v : VV) (post : Int64 → FF → VV → Prop) : Prop := ∀ v_1 : VV, v_1 = fu v 0 p0 → (post (-9223372036854775808 : Int64) f v_1)
set_option maxRecDepth 100000 in
set_option maxHeartbeats 4000000 in
theorem m_X5_lost {l : Launch} (G : Gx) (h : Nat → Nat) (p0 : Int32) (f : FF) (v : VV) {post : Int64 → FF → VV → Prop} (hq : Q_X5_lost p0 f v post) : MetL l yX5_lost (gC yX5_lost cX5_lost 2 (some .long)) rmX5_lost G [.ref (h 0), .int p0] (wE G h) f v post := by
  refine met_l (own := RX5) (by decide) rfl (Nat.le_of_ble_eq_true rfl) (fun κ hκ C hR => ?_)
  unfold Q_X5_lost at hq
  subst hκ
  show J κ 0 0 (wE G h f v) 0 [(0, .ref (h 0)), (1, .int p0)] []
  refine j_aload_n 1 C dX5_lost_0 rfl 0 rfl ?_
  refine j_iload_n 2 C dX5_lost_1 rfl 1 rfl ?_
  obtain ⟨v_1, ev_1⟩ : ∃ y : VV, y = fu v 0 p0 := ⟨_, rfl⟩
  replace hq := hq v_1 ev_1
  refine j_put 5 C uX5 tyX5 tyX5_ok nmX5 0 rfl rfl 0 (Nat.le_of_ble_eq_true rfl) lX5_61 rfl rfl (Nat.le_of_ble_eq_true rfl) dX5_lost_2 rfl (ws' := (wE G h f v_1)) (by subst ev_1; rfl) ?_
  refine j_ldc2_w 8 C dX5_lost_5 rfl kX5_65 ?_
  exact hR _ _ _ f v_1 dX5_lost_8 hq
def Q_X5_within (p0 : Int32) (p1 : Int32) (p2 : Int32) (post : Int32 → Prop) : Prop := ((p0 < p1 → (post (0 : Int32))) ∧ (¬ p0 < p1 → (((p2 < p0 → (post (0 : Int32))) ∧ (¬ p2 < p0 → (post (1 : Int32)))))))
set_option maxRecDepth 100000 in
set_option maxHeartbeats 4000000 in
theorem m_X5_within {l : Launch} (G : Gx) (p0 : Int32) (p1 : Int32) (p2 : Int32) {post : Int32 → Prop} (hq : Q_X5_within p0 p1 p2 post) : MetI l yX5_within (gC yX5_within cX5_within 3 (some .boolean)) rmX5_within G [.int p0, .int p1, .int p2] w0 f0 v0 (fun r _ _ => post r) := by
  refine met_z (own := RX5) (by decide) rfl (Nat.le_of_ble_eq_true rfl) (fun κ hκ C hR => ?_)
  unfold Q_X5_within at hq
  subst hκ
  show J κ 0 0 [] 0 [(0, .int p0), (1, .int p1), (2, .int p2)] []
  refine j_iload_n 1 C dX5_within_0 rfl 0 rfl ?_
  refine j_iload_n 2 C dX5_within_1 rfl 1 rfl ?_
  refine j_icmp_lt 5 14 C dX5_within_2 rfl rfl (fun c_1 => ?_) (fun c_1 => ?_)
  · replace hq := hq.1 c_1
    refine j_iconst 15 C dX5_within_14 rfl ic_0 ?_
    exact hR _ _ _ f0 v0 dX5_within_15 (Or.inl rfl) hq
  · replace hq := hq.2 c_1
    refine j_iload_n 6 C dX5_within_5 rfl 0 rfl ?_
    refine j_iload_n 7 C dX5_within_6 rfl 2 rfl ?_
    refine j_icmp_gt 10 14 C dX5_within_7 rfl rfl (fun c_2 => ?_) (fun c_2 => ?_)
    · replace hq := hq.1 c_2
      refine j_iconst 15 C dX5_within_14 rfl ic_0 ?_
      exact hR _ _ _ f0 v0 dX5_within_15 (Or.inl rfl) hq
    · replace hq := hq.2 c_2
      refine j_iconst 11 C dX5_within_10 rfl ic_1 ?_
      refine j_goto 15 C dX5_within_11 rfl ?_
      exact hR _ _ _ f0 v0 dX5_within_15 (Or.inr rfl) hq
def Q_X5_isSheet (p0 : Int32) (post : Int32 → Prop) : Prop := Q_X5_within p0 (0 : Int32) (3 : Int32) (fun r_1 => (((r_1 = 0 ∨ r_1 = 1) ∧ post r_1)))
set_option maxRecDepth 100000 in
set_option maxHeartbeats 4000000 in
theorem m_X5_isSheet {l : Launch} (G : Gx) (p0 : Int32) {post : Int32 → Prop} (hq : Q_X5_isSheet p0 post) : MetI l yX5_isSheet (gC yX5_isSheet cX5_isSheet 1 (some .boolean)) rmX5_isSheet G [.int p0] w0 f0 v0 (fun r _ _ => post r) := by
  refine met_z (own := RX5) (by decide) rfl (Nat.le_of_ble_eq_true rfl) (fun κ hκ C hR => ?_)
  unfold Q_X5_isSheet at hq
  subst hκ
  show J κ 0 0 [] 0 [(0, .int p0)] []
  refine j_iload_n 1 C dX5_isSheet_0 rfl 0 rfl ?_
  refine j_iconst 2 C dX5_isSheet_1 rfl ic_0 ?_
  refine j_iconst 3 C dX5_isSheet_2 rfl ic_3 ?_
  refine j_callSi 6 C [] [] (fun _ _ => []) (As := [.int p0, .int (0 : Int32), .int (3 : Int32)]) (m_X5_within G p0 (0 : Int32) (3 : Int32) hq) oX5_within kX5_67 ⟨rfl, rfl⟩ eX5_within ⟨Nat.le_of_ble_eq_true rfl, Nat.le_of_ble_eq_true rfl⟩ ⟨Nat.zero_le _, Nat.zero_le _⟩ rfl (fun _ _ => rfl) (fun _ _ => rfl) rfl (Nat.le_of_ble_eq_true rfl) dX5_isSheet_3 rfl (fun r_1 _ _ hq => ?_)
  exact hR _ _ _ f0 v0 dX5_isSheet_6 hq.1 hq.2
def Q_X5_isSort (p0 : Int32) (post : Int32 → Prop) : Prop := Q_X5_within p0 (0 : Int32) (2 : Int32) (fun r_1 => (((r_1 = 0 ∨ r_1 = 1) ∧ post r_1)))
set_option maxRecDepth 100000 in
set_option maxHeartbeats 4000000 in
theorem m_X5_isSort {l : Launch} (G : Gx) (p0 : Int32) {post : Int32 → Prop} (hq : Q_X5_isSort p0 post) : MetI l yX5_isSort (gC yX5_isSort cX5_isSort 1 (some .boolean)) rmX5_isSort G [.int p0] w0 f0 v0 (fun r _ _ => post r) := by
  refine met_z (own := RX5) (by decide) rfl (Nat.le_of_ble_eq_true rfl) (fun κ hκ C hR => ?_)
  unfold Q_X5_isSort at hq
  subst hκ
  show J κ 0 0 [] 0 [(0, .int p0)] []
  refine j_iload_n 1 C dX5_isSort_0 rfl 0 rfl ?_
  refine j_iconst 2 C dX5_isSort_1 rfl ic_0 ?_
  refine j_iconst 3 C dX5_isSort_2 rfl ic_2 ?_
  refine j_callSi 6 C [] [] (fun _ _ => []) (As := [.int p0, .int (0 : Int32), .int (2 : Int32)]) (m_X5_within G p0 (0 : Int32) (2 : Int32) hq) oX5_within kX5_67 ⟨rfl, rfl⟩ eX5_within ⟨Nat.le_of_ble_eq_true rfl, Nat.le_of_ble_eq_true rfl⟩ ⟨Nat.zero_le _, Nat.zero_le _⟩ rfl (fun _ _ => rfl) (fun _ _ => rfl) rfl (Nat.le_of_ble_eq_true rfl) dX5_isSort_3 rfl (fun r_1 _ _ hq => ?_)
  exact hR _ _ _ f0 v0 dX5_isSort_6 hq.1 hq.2
def Q_X5_against (p0 : Int32) (p1 : Int32) (p2 : Int32) (p3 : Int32) (f : FF) (v : VV) (post : Int32 → Prop) : Prop := vp_in p0 4 ∧ (((((f 0) (p0).toNatClampNeg) = (-9 : Int32) → (vp_in p0 4 ∧ (((¬ ((f 0) (p0).toNatClampNeg) = (-9 : Int32) → (((0 ≤ p3 → (((p2 < 0 → (post (3 : Int32))) ∧ (¬ p2 < 0 → (vp_in p0 4 ∧ (((((f 1) (p0).toNatClampNeg) < p2 → (post (3 : Int32))) ∧ (¬ ((f 1) (p0).toNatClampNeg) < p2 → (vp_in p0 4 ∧ (((p3 ≤ (((f 1) (p0).toNatClampNeg) - p2) → (post (0 : Int32))) ∧ (¬ p3 ≤ (((f 1) (p0).toNatClampNeg) - p2) → (post (3 : Int32)))))))))))))) ∧ (¬ 0 ≤ p3 → (post (4 : Int32)))))) ∧ (((f 0) (p0).toNatClampNeg) = (-9 : Int32) → (post (1 : Int32))))))) ∧ (¬ ((f 0) (p0).toNatClampNeg) = (-9 : Int32) → (vp_in p0 4 ∧ (((((f 0) (p0).toNatClampNeg) = p1 → (vp_in p0 4 ∧ (((¬ ((f 0) (p0).toNatClampNeg) = (-9 : Int32) → (((0 ≤ p3 → (((p2 < 0 → (post (3 : Int32))) ∧ (¬ p2 < 0 → (vp_in p0 4 ∧ (((((f 1) (p0).toNatClampNeg) < p2 → (post (3 : Int32))) ∧ (¬ ((f 1) (p0).toNatClampNeg) < p2 → (vp_in p0 4 ∧ (((p3 ≤ (((f 1) (p0).toNatClampNeg) - p2) → (post (0 : Int32))) ∧ (¬ p3 ≤ (((f 1) (p0).toNatClampNeg) - p2) → (post (3 : Int32)))))))))))))) ∧ (¬ 0 ≤ p3 → (post (4 : Int32)))))) ∧ (((f 0) (p0).toNatClampNeg) = (-9 : Int32) → (post (1 : Int32))))))) ∧ (¬ ((f 0) (p0).toNatClampNeg) = p1 → (post (2 : Int32)))))))))
set_option maxRecDepth 100000 in
set_option maxHeartbeats 4000000 in
theorem m_X5_against {l : Launch} (G : Gx) (h : Nat → Nat) (p0 : Int32) (p1 : Int32) (p2 : Int32) (p3 : Int32) (f : FF) (v : VV) {post : Int32 → Prop} (hq : Q_X5_against p0 p1 p2 p3 f v post) : MetI l yX5_against (gC yX5_against cX5_against 5 (some .int)) rmX5_against G [.ref (h 0), .int p0, .int p1, .int p2, .int p3] (wE G h) f v (fun r f' v' => post r ∧ f' = f ∧ v' = v) := by
  refine met_i (own := RX5) (by decide) rfl (Nat.le_of_ble_eq_true rfl) (fun κ hκ C hR => ?_)
  unfold Q_X5_against at hq
  subst hκ
  show J κ 0 0 (wE G h f v) 0 [(0, .ref (h 0)), (1, .int p0), (2, .int p1), (3, .int p2), (4, .int p3)] []
  refine j_aload_n 1 C dX5_against_0 rfl 0 rfl ?_
  refine j_get 4 C uX5 0 rfl rfl 2 (Nat.le_of_ble_eq_true rfl) lX5_9 (v := .ref (h 1)) rfl dX5_against_1 rfl ?_
  refine j_iload_n 5 C dX5_against_4 rfl 1 rfl ?_
  obtain ⟨hi_1, hq⟩ := hq
  refine j_iald 6 C 1 (f := (f 0)) rfl hi_1 dX5_against_5 rfl ?_
  refine j_bipush 8 C dX5_against_6 rfl bc_m9 ?_
  refine j_icmp_eq 11 23 C dX5_against_8 rfl rfl (fun c_2 => ?_) (fun c_2 => ?_)
  · replace hq := hq.1 c_2
    refine j_aload_n 24 C dX5_against_23 rfl 0 rfl ?_
    refine j_get 27 C uX5 0 rfl rfl 2 (Nat.le_of_ble_eq_true rfl) lX5_9 (v := .ref (h 1)) rfl dX5_against_24 rfl ?_
    refine j_iload_n 28 C dX5_against_27 rfl 1 rfl ?_
    obtain ⟨hi_3, hq⟩ := hq
    refine j_iald 29 C 1 (f := (f 0)) rfl hi_3 dX5_against_28 rfl ?_
    refine j_bipush 31 C dX5_against_29 rfl bc_m9 ?_
    refine j_icmp_ne 34 36 C dX5_against_31 rfl rfl (fun c_4 => ?_) (fun c_4 => ?_)
    · replace hq := hq.1 c_4
      refine j_iload 38 C dX5_against_36 rfl 4 rfl ?_
      refine j_if_ge 41 43 C dX5_against_38 rfl rfl (fun c_5 => ?_) (fun c_5 => ?_)
      · replace hq := hq.1 c_5
        refine j_iload_n 44 C dX5_against_43 rfl 3 rfl ?_
        refine j_if_lt 47 70 C dX5_against_44 rfl rfl (fun c_6 => ?_) (fun c_6 => ?_)
        · replace hq := hq.1 c_6
          refine j_iconst 71 C dX5_against_70 rfl ic_3 ?_
          refine j_goto 75 C dX5_against_71 rfl ?_
          exact hR _ _ _ f v dX5_against_75 ⟨hq, rfl, rfl⟩
        · replace hq := hq.2 c_6
          refine j_iload_n 48 C dX5_against_47 rfl 3 rfl ?_
          refine j_aload_n 49 C dX5_against_48 rfl 0 rfl ?_
          refine j_get 52 C uX5 0 rfl rfl 3 (Nat.le_of_ble_eq_true rfl) lX5_13 (v := .ref (h 2)) rfl dX5_against_49 rfl ?_
          refine j_iload_n 53 C dX5_against_52 rfl 1 rfl ?_
          obtain ⟨hi_7, hq⟩ := hq
          refine j_iald 54 C 2 (f := (f 1)) rfl hi_7 dX5_against_53 rfl ?_
          refine j_icmp_gt 57 70 C dX5_against_54 rfl rfl (fun c_8 => ?_) (fun c_8 => ?_)
          · replace hq := hq.1 c_8
            refine j_iconst 71 C dX5_against_70 rfl ic_3 ?_
            refine j_goto 75 C dX5_against_71 rfl ?_
            exact hR _ _ _ f v dX5_against_75 ⟨hq, rfl, rfl⟩
          · replace hq := hq.2 c_8
            refine j_iload 59 C dX5_against_57 rfl 4 rfl ?_
            refine j_aload_n 60 C dX5_against_59 rfl 0 rfl ?_
            refine j_get 63 C uX5 0 rfl rfl 3 (Nat.le_of_ble_eq_true rfl) lX5_13 (v := .ref (h 2)) rfl dX5_against_60 rfl ?_
            refine j_iload_n 64 C dX5_against_63 rfl 1 rfl ?_
            obtain ⟨hi_9, hq⟩ := hq
            refine j_iald 65 C 2 (f := (f 1)) rfl hi_9 dX5_against_64 rfl ?_
            refine j_iload_n 66 C dX5_against_65 rfl 3 rfl ?_
            refine j_isub 67 C dX5_against_66 rfl ?_
            refine j_icmp_le 70 74 C dX5_against_67 rfl rfl (fun c_10 => ?_) (fun c_10 => ?_)
            · replace hq := hq.1 c_10
              refine j_iconst 75 C dX5_against_74 rfl ic_0 ?_
              exact hR _ _ _ f v dX5_against_75 ⟨hq, rfl, rfl⟩
            · replace hq := hq.2 c_10
              refine j_iconst 71 C dX5_against_70 rfl ic_3 ?_
              refine j_goto 75 C dX5_against_71 rfl ?_
              exact hR _ _ _ f v dX5_against_75 ⟨hq, rfl, rfl⟩
      · replace hq := hq.2 c_5
        refine j_iconst 42 C dX5_against_41 rfl ic_4 ?_
        exact hR _ _ _ f v dX5_against_42 ⟨hq, rfl, rfl⟩
    · replace hq := hq.2 c_4
      refine j_iconst 35 C dX5_against_34 rfl ic_1 ?_
      exact hR _ _ _ f v dX5_against_35 ⟨hq, rfl, rfl⟩
  · replace hq := hq.2 c_2
    refine j_aload_n 12 C dX5_against_11 rfl 0 rfl ?_
    refine j_get 15 C uX5 0 rfl rfl 2 (Nat.le_of_ble_eq_true rfl) lX5_9 (v := .ref (h 1)) rfl dX5_against_12 rfl ?_
    refine j_iload_n 16 C dX5_against_15 rfl 1 rfl ?_
    obtain ⟨hi_11, hq⟩ := hq
    refine j_iald 17 C 1 (f := (f 0)) rfl hi_11 dX5_against_16 rfl ?_
    refine j_iload_n 18 C dX5_against_17 rfl 2 rfl ?_
    refine j_icmp_eq 21 23 C dX5_against_18 rfl rfl (fun c_12 => ?_) (fun c_12 => ?_)
    · replace hq := hq.1 c_12
      refine j_aload_n 24 C dX5_against_23 rfl 0 rfl ?_
      refine j_get 27 C uX5 0 rfl rfl 2 (Nat.le_of_ble_eq_true rfl) lX5_9 (v := .ref (h 1)) rfl dX5_against_24 rfl ?_
      refine j_iload_n 28 C dX5_against_27 rfl 1 rfl ?_
      obtain ⟨hi_13, hq⟩ := hq
      refine j_iald 29 C 1 (f := (f 0)) rfl hi_13 dX5_against_28 rfl ?_
      refine j_bipush 31 C dX5_against_29 rfl bc_m9 ?_
      refine j_icmp_ne 34 36 C dX5_against_31 rfl rfl (fun c_14 => ?_) (fun c_14 => ?_)
      · replace hq := hq.1 c_14
        refine j_iload 38 C dX5_against_36 rfl 4 rfl ?_
        refine j_if_ge 41 43 C dX5_against_38 rfl rfl (fun c_15 => ?_) (fun c_15 => ?_)
        · replace hq := hq.1 c_15
          refine j_iload_n 44 C dX5_against_43 rfl 3 rfl ?_
          refine j_if_lt 47 70 C dX5_against_44 rfl rfl (fun c_16 => ?_) (fun c_16 => ?_)
          · replace hq := hq.1 c_16
            refine j_iconst 71 C dX5_against_70 rfl ic_3 ?_
            refine j_goto 75 C dX5_against_71 rfl ?_
            exact hR _ _ _ f v dX5_against_75 ⟨hq, rfl, rfl⟩
          · replace hq := hq.2 c_16
            refine j_iload_n 48 C dX5_against_47 rfl 3 rfl ?_
            refine j_aload_n 49 C dX5_against_48 rfl 0 rfl ?_
            refine j_get 52 C uX5 0 rfl rfl 3 (Nat.le_of_ble_eq_true rfl) lX5_13 (v := .ref (h 2)) rfl dX5_against_49 rfl ?_
            refine j_iload_n 53 C dX5_against_52 rfl 1 rfl ?_
            obtain ⟨hi_17, hq⟩ := hq
            refine j_iald 54 C 2 (f := (f 1)) rfl hi_17 dX5_against_53 rfl ?_
            refine j_icmp_gt 57 70 C dX5_against_54 rfl rfl (fun c_18 => ?_) (fun c_18 => ?_)
            · replace hq := hq.1 c_18
              refine j_iconst 71 C dX5_against_70 rfl ic_3 ?_
              refine j_goto 75 C dX5_against_71 rfl ?_
              exact hR _ _ _ f v dX5_against_75 ⟨hq, rfl, rfl⟩
            · replace hq := hq.2 c_18
              refine j_iload 59 C dX5_against_57 rfl 4 rfl ?_
              refine j_aload_n 60 C dX5_against_59 rfl 0 rfl ?_
              refine j_get 63 C uX5 0 rfl rfl 3 (Nat.le_of_ble_eq_true rfl) lX5_13 (v := .ref (h 2)) rfl dX5_against_60 rfl ?_
              refine j_iload_n 64 C dX5_against_63 rfl 1 rfl ?_
              obtain ⟨hi_19, hq⟩ := hq
              refine j_iald 65 C 2 (f := (f 1)) rfl hi_19 dX5_against_64 rfl ?_
              refine j_iload_n 66 C dX5_against_65 rfl 3 rfl ?_
              refine j_isub 67 C dX5_against_66 rfl ?_
              refine j_icmp_le 70 74 C dX5_against_67 rfl rfl (fun c_20 => ?_) (fun c_20 => ?_)
              · replace hq := hq.1 c_20
                refine j_iconst 75 C dX5_against_74 rfl ic_0 ?_
                exact hR _ _ _ f v dX5_against_75 ⟨hq, rfl, rfl⟩
              · replace hq := hq.2 c_20
                refine j_iconst 71 C dX5_against_70 rfl ic_3 ?_
                refine j_goto 75 C dX5_against_71 rfl ?_
                exact hR _ _ _ f v dX5_against_75 ⟨hq, rfl, rfl⟩
        · replace hq := hq.2 c_15
          refine j_iconst 42 C dX5_against_41 rfl ic_4 ?_
          exact hR _ _ _ f v dX5_against_42 ⟨hq, rfl, rfl⟩
      · replace hq := hq.2 c_14
        refine j_iconst 35 C dX5_against_34 rfl ic_1 ?_
        exact hR _ _ _ f v dX5_against_35 ⟨hq, rfl, rfl⟩
    · replace hq := hq.2 c_12
      refine j_iconst 22 C dX5_against_21 rfl ic_2 ?_
      exact hR _ _ _ f v dX5_against_22 ⟨hq, rfl, rfl⟩
def Q_X5_isStep (p0 : Int32) (f : FF) (v : VV) (post : Int32 → Prop) : Prop := ((p0 < 0 → (post (0 : Int32))) ∧ (¬ p0 < 0 → ((((v 2) ≤ p0 → (post (0 : Int32))) ∧ (¬ (v 2) ≤ p0 → (post (1 : Int32)))))))
set_option maxRecDepth 100000 in
set_option maxHeartbeats 4000000 in
theorem m_X5_isStep {l : Launch} (G : Gx) (h : Nat → Nat) (p0 : Int32) (f : FF) (v : VV) {post : Int32 → Prop} (hq : Q_X5_isStep p0 f v post) : MetI l yX5_isStep (gC yX5_isStep cX5_isStep 2 (some .boolean)) rmX5_isStep G [.ref (h 0), .int p0] (wE G h) f v (fun r f' v' => post r ∧ f' = f ∧ v' = v) := by
  refine met_z (own := RX5) (by decide) rfl (Nat.le_of_ble_eq_true rfl) (fun κ hκ C hR => ?_)
  unfold Q_X5_isStep at hq
  subst hκ
  show J κ 0 0 (wE G h f v) 0 [(0, .ref (h 0)), (1, .int p0)] []
  refine j_iload_n 1 C dX5_isStep_0 rfl 1 rfl ?_
  refine j_if_lt 4 16 C dX5_isStep_1 rfl rfl (fun c_1 => ?_) (fun c_1 => ?_)
  · replace hq := hq.1 c_1
    refine j_iconst 17 C dX5_isStep_16 rfl ic_0 ?_
    exact hR _ _ _ f v dX5_isStep_17 (Or.inl rfl) ⟨hq, rfl, rfl⟩
  · replace hq := hq.2 c_1
    refine j_iload_n 5 C dX5_isStep_4 rfl 1 rfl ?_
    refine j_aload_n 6 C dX5_isStep_5 rfl 0 rfl ?_
    refine j_get 9 C uX5 0 rfl rfl 5 (Nat.le_of_ble_eq_true rfl) lX5_71 (v := .int (v 2)) rfl dX5_isStep_6 rfl ?_
    refine j_icmp_ge 12 16 C dX5_isStep_9 rfl rfl (fun c_2 => ?_) (fun c_2 => ?_)
    · replace hq := hq.1 c_2
      refine j_iconst 17 C dX5_isStep_16 rfl ic_0 ?_
      exact hR _ _ _ f v dX5_isStep_17 (Or.inl rfl) ⟨hq, rfl, rfl⟩
    · replace hq := hq.2 c_2
      refine j_iconst 13 C dX5_isStep_12 rfl ic_1 ?_
      refine j_goto 17 C dX5_isStep_13 rfl ?_
      exact hR _ _ _ f v dX5_isStep_17 (Or.inr rfl) ⟨hq, rfl, rfl⟩
def Q_X5_isTest (p0 : Int32) (f : FF) (v : VV) (post : Int32 → Prop) : Prop := ((p0 < 0 → (post (0 : Int32))) ∧ (¬ p0 < 0 → ((((v 3) ≤ p0 → (post (0 : Int32))) ∧ (¬ (v 3) ≤ p0 → (post (1 : Int32)))))))
set_option maxRecDepth 100000 in
set_option maxHeartbeats 4000000 in
theorem m_X5_isTest {l : Launch} (G : Gx) (h : Nat → Nat) (p0 : Int32) (f : FF) (v : VV) {post : Int32 → Prop} (hq : Q_X5_isTest p0 f v post) : MetI l yX5_isTest (gC yX5_isTest cX5_isTest 2 (some .boolean)) rmX5_isTest G [.ref (h 0), .int p0] (wE G h) f v (fun r f' v' => post r ∧ f' = f ∧ v' = v) := by
  refine met_z (own := RX5) (by decide) rfl (Nat.le_of_ble_eq_true rfl) (fun κ hκ C hR => ?_)
  unfold Q_X5_isTest at hq
  subst hκ
  show J κ 0 0 (wE G h f v) 0 [(0, .ref (h 0)), (1, .int p0)] []
  refine j_iload_n 1 C dX5_isTest_0 rfl 1 rfl ?_
  refine j_if_lt 4 16 C dX5_isTest_1 rfl rfl (fun c_1 => ?_) (fun c_1 => ?_)
  · replace hq := hq.1 c_1
    refine j_iconst 17 C dX5_isTest_16 rfl ic_0 ?_
    exact hR _ _ _ f v dX5_isTest_17 (Or.inl rfl) ⟨hq, rfl, rfl⟩
  · replace hq := hq.2 c_1
    refine j_iload_n 5 C dX5_isTest_4 rfl 1 rfl ?_
    refine j_aload_n 6 C dX5_isTest_5 rfl 0 rfl ?_
    refine j_get 9 C uX5 0 rfl rfl 6 (Nat.le_of_ble_eq_true rfl) lX5_74 (v := .int (v 3)) rfl dX5_isTest_6 rfl ?_
    refine j_icmp_ge 12 16 C dX5_isTest_9 rfl rfl (fun c_2 => ?_) (fun c_2 => ?_)
    · replace hq := hq.1 c_2
      refine j_iconst 17 C dX5_isTest_16 rfl ic_0 ?_
      exact hR _ _ _ f v dX5_isTest_17 (Or.inl rfl) ⟨hq, rfl, rfl⟩
    · replace hq := hq.2 c_2
      refine j_iconst 13 C dX5_isTest_12 rfl ic_1 ?_
      refine j_goto 17 C dX5_isTest_13 rfl ?_
      exact hR _ _ _ f v dX5_isTest_17 (Or.inr rfl) ⟨hq, rfl, rfl⟩
def Q_X5_mutants (f : FF) (v : VV) (post : Int32 → Prop) : Prop := post ((4 : Int32) * (v 2))
set_option maxRecDepth 100000 in
set_option maxHeartbeats 4000000 in
theorem m_X5_mutants {l : Launch} (G : Gx) (h : Nat → Nat) (f : FF) (v : VV) {post : Int32 → Prop} (hq : Q_X5_mutants f v post) : MetI l yX5_mutants (gC yX5_mutants cX5_mutants 1 (some .int)) rmX5_mutants G [.ref (h 0)] (wE G h) f v (fun r f' v' => post r ∧ f' = f ∧ v' = v) := by
  refine met_i (own := RX5) (by decide) rfl (Nat.le_of_ble_eq_true rfl) (fun κ hκ C hR => ?_)
  unfold Q_X5_mutants at hq
  subst hκ
  show J κ 0 0 (wE G h f v) 0 [(0, .ref (h 0))] []
  refine j_iconst 1 C dX5_mutants_0 rfl ic_4 ?_
  refine j_aload_n 2 C dX5_mutants_1 rfl 0 rfl ?_
  refine j_get 5 C uX5 0 rfl rfl 5 (Nat.le_of_ble_eq_true rfl) lX5_71 (v := .int (v 2)) rfl dX5_mutants_2 rfl ?_
  refine j_imul 6 C dX5_mutants_5 rfl ?_
  exact hR _ _ _ f v dX5_mutants_6 ⟨hq, rfl, rfl⟩
def Q_X5_isMutant (p0 : Int32) (f : FF) (v : VV) (post : Int32 → Prop) : Prop := ((p0 < 0 → (post (0 : Int32))) ∧ (¬ p0 < 0 → (Q_X5_mutants  f v (fun r_2 => (((r_2 ≤ p0 → (post (0 : Int32))) ∧ (¬ r_2 ≤ p0 → (post (1 : Int32)))))))))
set_option maxRecDepth 100000 in
set_option maxHeartbeats 4000000 in
theorem m_X5_isMutant {l : Launch} (G : Gx) (h : Nat → Nat) (p0 : Int32) (f : FF) (v : VV) {post : Int32 → Prop} (hq : Q_X5_isMutant p0 f v post) : MetI l yX5_isMutant (gC yX5_isMutant cX5_isMutant 2 (some .boolean)) rmX5_isMutant G [.ref (h 0), .int p0] (wE G h) f v (fun r f' v' => post r ∧ f' = f ∧ v' = v) := by
  refine met_z (own := RX5) (by decide) rfl (Nat.le_of_ble_eq_true rfl) (fun κ hκ C hR => ?_)
  unfold Q_X5_isMutant at hq
  subst hκ
  show J κ 0 0 (wE G h f v) 0 [(0, .ref (h 0)), (1, .int p0)] []
  refine j_iload_n 1 C dX5_isMutant_0 rfl 1 rfl ?_
  refine j_if_lt 4 16 C dX5_isMutant_1 rfl rfl (fun c_1 => ?_) (fun c_1 => ?_)
  · replace hq := hq.1 c_1
    refine j_iconst 17 C dX5_isMutant_16 rfl ic_0 ?_
    exact hR _ _ _ f v dX5_isMutant_17 (Or.inl rfl) ⟨hq, rfl, rfl⟩
  · replace hq := hq.2 c_1
    refine j_iload_n 5 C dX5_isMutant_4 rfl 1 rfl ?_
    refine j_aload_n 6 C dX5_isMutant_5 rfl 0 rfl ?_
    refine j_callVi_ro 9 C [] [] (As := []) (m_X5_mutants G h f v hq) oX5_mutants kX5_77 ⟨rfl, rfl⟩ eX5_mutants ⟨Nat.le_of_ble_eq_true rfl, Nat.le_of_ble_eq_true rfl⟩ ⟨Nat.zero_le _, Nat.zero_le _⟩ (List.append_nil _).symm (fun _ _ => rfl) 0 rfl rfl rfl (Nat.le_of_ble_eq_true rfl) dX5_isMutant_6 rfl (fun r_2 hq => ?_)
    refine j_icmp_ge 12 16 C dX5_isMutant_9 rfl rfl (fun c_3 => ?_) (fun c_3 => ?_)
    · replace hq := hq.1 c_3
      refine j_iconst 17 C dX5_isMutant_16 rfl ic_0 ?_
      exact hR _ _ _ f v dX5_isMutant_17 (Or.inl rfl) ⟨hq, rfl, rfl⟩
    · replace hq := hq.2 c_3
      refine j_iconst 13 C dX5_isMutant_12 rfl ic_1 ?_
      refine j_goto 17 C dX5_isMutant_13 rfl ?_
      exact hR _ _ _ f v dX5_isMutant_17 (Or.inr rfl) ⟨hq, rfl, rfl⟩
def Q_X5_size_L4 (x0 : Int32) (K21 : Int32 → Int32 → Prop) : Nat → Int32 → Int32 → Prop
  | 0, _, _ => False
  | n + 1, x1, x2 => ((x2 ≤ 0 → (K21 x1 x2)) ∧ (¬ x2 ≤ 0 → (∀ x_2 : Int32, x_2 = (x1 + (x2 &&& (1 : Int32))) → (∀ x_3 : Int32, x_3 = (x2 >>> ((1 : Int32) &&& 31)) → (Q_X5_size_L4 x0 K21 n x_2 x_3)))))
set_option maxRecDepth 100000 in
set_option maxHeartbeats 4000000 in
theorem t_X5_size_L4 {κ : Kx} {G : Gx} (C : Cx κ G RX5 cX5_size rmX5_size 3) {x0 : Int32} {K21 : Int32 → Int32 → Prop} (hK21 : ∀ (x1 : Int32) (x2 : Int32), K21 x1 x2 → J κ 0 0 [] 21 [(0, .int x0), (1, .int x1), (2, .int x2)] []) : ∀ (n : Nat) (x1 : Int32) (x2 : Int32), Q_X5_size_L4 x0 K21 n x1 x2 → J κ 0 0 [] 4 [(0, .int x0), (1, .int x1), (2, .int x2)] [] := by
  intro n
  induction n with
  | zero => intro x1 x2 hq; exact False.elim hq
  | succ n ih =>
    intro x1 x2 hq
    rw [Q_X5_size_L4] at hq
    refine j_iload_n 5 C dX5_size_4 rfl 2 rfl ?_
    refine j_if_le 8 21 C dX5_size_5 rfl rfl (fun c_1 => ?_) (fun c_1 => ?_)
    · replace hq := hq.1 c_1
      refine J.l0 [0, 1, 2] rfl ?_
      exact hK21 _ _ hq
    · replace hq := hq.2 c_1
      refine j_iload_n 9 C dX5_size_8 rfl 1 rfl ?_
      refine j_iload_n 10 C dX5_size_9 rfl 2 rfl ?_
      refine j_iconst 11 C dX5_size_10 rfl ic_1 ?_
      refine j_iand 12 C dX5_size_11 rfl ?_
      refine j_iadd 13 C dX5_size_12 rfl ?_
      refine J.topi (fun x_2 ex_2 => ?_)
      replace hq := hq x_2 ex_2
      refine j_istore_n 14 C dX5_size_13 rfl (Nat.le_of_ble_eq_true rfl) [1, 0, 2] (lv' := [(0, .int x0), (1, .int x_2), (2, .int x2)]) rfl ?_
      refine j_iload_n 15 C dX5_size_14 rfl 2 rfl ?_
      refine j_iconst 16 C dX5_size_15 rfl ic_1 ?_
      refine j_ishr 17 C dX5_size_16 rfl ?_
      refine J.topi (fun x_3 ex_3 => ?_)
      replace hq := hq x_3 ex_3
      refine j_istore_n 18 C dX5_size_17 rfl (Nat.le_of_ble_eq_true rfl) [1, 2, 0] (lv' := [(0, .int x0), (1, .int x_2), (2, .int x_3)]) rfl ?_
      refine j_goto 4 C dX5_size_18 rfl ?_
      refine J.l0 [0, 1, 2] rfl ?_
      exact ih _ _ hq
def Q_X5_size (p0 : Int32) (post : Int32 → Prop) : Prop := ∃ n_4 : Nat, Q_X5_size_L4 p0 (fun x_5 x_6 => (post x_5)) n_4 (0 : Int32) p0
set_option maxRecDepth 100000 in
set_option maxHeartbeats 4000000 in
theorem m_X5_size {l : Launch} (G : Gx) (p0 : Int32) {post : Int32 → Prop} (hq : Q_X5_size p0 post) : MetI l yX5_size (gC yX5_size cX5_size 3 (some .int)) rmX5_size G [.int p0] w0 f0 v0 (fun r _ _ => post r) := by
  refine met_i (own := RX5) (by decide) rfl (Nat.le_of_ble_eq_true rfl) (fun κ hκ C hR => ?_)
  unfold Q_X5_size at hq
  subst hκ
  show J κ 0 0 [] 0 [(0, .int p0)] []
  refine j_iconst 1 C dX5_size_0 rfl ic_0 ?_
  refine j_istore_n 2 C dX5_size_1 rfl (Nat.le_of_ble_eq_true rfl) [1, 0] (lv' := [(0, .int p0), (1, .int (0 : Int32))]) rfl ?_
  refine j_iload_n 3 C dX5_size_2 rfl 0 rfl ?_
  refine j_istore_n 4 C dX5_size_3 rfl (Nat.le_of_ble_eq_true rfl) [1, 2, 0] (lv' := [(0, .int p0), (1, .int (0 : Int32)), (2, .int p0)]) rfl ?_
  obtain ⟨n_4, hq⟩ := hq
  refine t_X5_size_L4 C ?_ n_4 _ _ hq
  · intro x_5 x_6 hq
    refine j_iload_n 22 C dX5_size_21 rfl 1 rfl ?_
    exact hR _ _ _ f0 v0 dX5_size_22 hq
def Q_X5_isSign (p0 : Int32) (p1 : Int32) (f : FF) (v : VV) (post : Int32 → FF → VV → Prop) : Prop := ((p0 ≤ (v 4) → (post (0 : Int32) f v)) ∧ (¬ p0 ≤ (v 4) → (vp_in (v 4) 240 ∧ (((((f 2) ((v 4)).toNatClampNeg) = p1 → (∀ v_4 : VV, v_4 = fu v 4 ((v 4) + (1 : Int32)) → (post (1 : Int32) f v_4))) ∧ (¬ ((f 2) ((v 4)).toNatClampNeg) = p1 → (post (0 : Int32) f v)))))))
set_option maxRecDepth 100000 in
set_option maxHeartbeats 4000000 in
theorem m_X5_isSign {l : Launch} (G : Gx) (h : Nat → Nat) (p0 : Int32) (p1 : Int32) (f : FF) (v : VV) {post : Int32 → FF → VV → Prop} (hq : Q_X5_isSign p0 p1 f v post) : MetI l yX5_isSign (gC yX5_isSign cX5_isSign 3 (some .boolean)) rmX5_isSign G [.ref (h 0), .int p0, .int p1] (wE G h) f v post := by
  refine met_z (own := RX5) (by decide) rfl (Nat.le_of_ble_eq_true rfl) (fun κ hκ C hR => ?_)
  unfold Q_X5_isSign at hq
  subst hκ
  show J κ 0 0 (wE G h f v) 0 [(0, .ref (h 0)), (1, .int p0), (2, .int p1)] []
  refine j_aload_n 1 C dX5_isSign_0 rfl 0 rfl ?_
  refine j_get 4 C uX5 0 rfl rfl 14 (Nat.le_of_ble_eq_true rfl) lX5_81 (v := .int (v 4)) rfl dX5_isSign_1 rfl ?_
  refine j_iload_n 5 C dX5_isSign_4 rfl 1 rfl ?_
  refine j_icmp_ge 8 21 C dX5_isSign_5 rfl rfl (fun c_1 => ?_) (fun c_1 => ?_)
  · replace hq := hq.1 c_1
    refine j_iconst 22 C dX5_isSign_21 rfl ic_0 ?_
    exact hR _ _ _ f v dX5_isSign_22 (Or.inl rfl) hq
  · replace hq := hq.2 c_1
    refine j_aload_n 9 C dX5_isSign_8 rfl 0 rfl ?_
    refine j_get 12 C uX5 0 rfl rfl 4 (Nat.le_of_ble_eq_true rfl) lX5_16 (v := .ref (h 3)) rfl dX5_isSign_9 rfl ?_
    refine j_aload_n 13 C dX5_isSign_12 rfl 0 rfl ?_
    refine j_get 16 C uX5 0 rfl rfl 14 (Nat.le_of_ble_eq_true rfl) lX5_81 (v := .int (v 4)) rfl dX5_isSign_13 rfl ?_
    obtain ⟨hi_2, hq⟩ := hq
    refine j_iald 17 C 3 (f := (f 2)) rfl hi_2 dX5_isSign_16 rfl ?_
    refine j_iload_n 18 C dX5_isSign_17 rfl 2 rfl ?_
    refine j_icmp_eq 21 23 C dX5_isSign_18 rfl rfl (fun c_3 => ?_) (fun c_3 => ?_)
    · replace hq := hq.1 c_3
      refine j_aload_n 24 C dX5_isSign_23 rfl 0 rfl ?_
      refine j_dup 25 C dX5_isSign_24 rfl rfl ?_
      refine j_get 28 C uX5 0 rfl rfl 14 (Nat.le_of_ble_eq_true rfl) lX5_81 (v := .int (v 4)) rfl dX5_isSign_25 rfl ?_
      refine j_iconst 29 C dX5_isSign_28 rfl ic_1 ?_
      refine j_iadd 30 C dX5_isSign_29 rfl ?_
      obtain ⟨v_4, ev_4⟩ : ∃ y : VV, y = fu v 4 ((v 4) + (1 : Int32)) := ⟨_, rfl⟩
      replace hq := hq v_4 ev_4
      refine j_put 33 C uX5 tyX5 tyX5_ok nmX5 0 rfl rfl 14 (Nat.le_of_ble_eq_true rfl) lX5_81 rfl rfl (Nat.le_of_ble_eq_true rfl) dX5_isSign_30 rfl (ws' := (wE G h f v_4)) (by subst ev_4; rfl) ?_
      refine j_iconst 34 C dX5_isSign_33 rfl ic_1 ?_
      exact hR _ _ _ f v_4 dX5_isSign_34 (Or.inr rfl) hq
    · replace hq := hq.2 c_3
      refine j_iconst 22 C dX5_isSign_21 rfl ic_0 ?_
      exact hR _ _ _ f v dX5_isSign_22 (Or.inl rfl) hq
def Q_X5_wayBy (p0 : Int32) (post : Int32 → Prop) : Prop := ((p0 = (97 : Int32) → (post (0 : Int32))) ∧ (¬ p0 = (97 : Int32) → (((p0 = (103 : Int32) → (post (3 : Int32))) ∧ (¬ p0 = (103 : Int32) → (((p0 = (108 : Int32) → (post (4 : Int32))) ∧ (¬ p0 = (108 : Int32) → (((p0 = (109 : Int32) → (post (2 : Int32))) ∧ (¬ p0 = (109 : Int32) → (((p0 = (115 : Int32) → (post (1 : Int32))) ∧ (¬ p0 = (115 : Int32) → (post (-9 : Int32))))))))))))))))
set_option maxRecDepth 100000 in
set_option maxHeartbeats 4000000 in
theorem m_X5_wayBy {l : Launch} (G : Gx) (p0 : Int32) {post : Int32 → Prop} (hq : Q_X5_wayBy p0 post) : MetI l yX5_wayBy (gC yX5_wayBy cX5_wayBy 1 (some .int)) rmX5_wayBy G [.int p0] w0 f0 v0 (fun r _ _ => post r) := by
  refine met_i (own := RX5) (by decide) rfl (Nat.le_of_ble_eq_true rfl) (fun κ hκ C hR => ?_)
  unfold Q_X5_wayBy at hq
  subst hκ
  show J κ 0 0 [] 0 [(0, .int p0)] []
  refine j_iload_n 1 C dX5_wayBy_0 rfl 0 rfl ?_
  by_cases c_1 : p0 = (97 : Int32)
  · replace hq := hq.1 c_1
    refine j_lookup 52 C dX5_wayBy_1 (by decide) (off := 51) (by rw [c_1] <;> decide) rfl ?_
    refine j_iconst 53 C dX5_wayBy_52 rfl ic_0 ?_
    exact hR _ _ _ f0 v0 dX5_wayBy_53 hq
  · replace hq := hq.2 c_1
    by_cases c_2 : p0 = (103 : Int32)
    · replace hq := hq.1 c_2
      refine j_lookup 58 C dX5_wayBy_1 (by decide) (off := 57) (by rw [c_2] <;> decide) rfl ?_
      refine j_iconst 59 C dX5_wayBy_58 rfl ic_3 ?_
      exact hR _ _ _ f0 v0 dX5_wayBy_59 hq
    · replace hq := hq.2 c_2
      by_cases c_3 : p0 = (108 : Int32)
      · replace hq := hq.1 c_3
        refine j_lookup 60 C dX5_wayBy_1 (by decide) (off := 59) (by rw [c_3] <;> decide) rfl ?_
        refine j_iconst 61 C dX5_wayBy_60 rfl ic_4 ?_
        exact hR _ _ _ f0 v0 dX5_wayBy_61 hq
      · replace hq := hq.2 c_3
        by_cases c_4 : p0 = (109 : Int32)
        · replace hq := hq.1 c_4
          refine j_lookup 56 C dX5_wayBy_1 (by decide) (off := 55) (by rw [c_4] <;> decide) rfl ?_
          refine j_iconst 57 C dX5_wayBy_56 rfl ic_2 ?_
          exact hR _ _ _ f0 v0 dX5_wayBy_57 hq
        · replace hq := hq.2 c_4
          by_cases c_5 : p0 = (115 : Int32)
          · replace hq := hq.1 c_5
            refine j_lookup 54 C dX5_wayBy_1 (by decide) (off := 53) (by rw [c_5] <;> decide) rfl ?_
            refine j_iconst 55 C dX5_wayBy_54 rfl ic_1 ?_
            exact hR _ _ _ f0 v0 dX5_wayBy_55 hq
          · replace hq := hq.2 c_5
            have zc_1 := ne_toInt (z := 97) (by decide) c_1
            have zc_2 := ne_toInt (z := 103) (by decide) c_2
            have zc_3 := ne_toInt (z := 108) (by decide) c_3
            have zc_4 := ne_toInt (z := 109) (by decide) c_4
            have zc_5 := ne_toInt (z := 115) (by decide) c_5
            refine j_lookup 62 C dX5_wayBy_1 (by decide) (off := 61) (by simp only [Op.lookupswitch.offset_cons, Op.lookupswitch.offset_nil]; rw [if_neg (fun e9 => zc_1 e9.symm)]; rw [if_neg (fun e9 => zc_2 e9.symm)]; rw [if_neg (fun e9 => zc_3 e9.symm)]; rw [if_neg (fun e9 => zc_4 e9.symm)]; rw [if_neg (fun e9 => zc_5 e9.symm)]) rfl ?_
            refine j_bipush 64 C dX5_wayBy_62 rfl bc_m9 ?_
            exact hR _ _ _ f0 v0 dX5_wayBy_64 hq
def Q_X5_readStepNext_L56 (x1 : Int32) (x2 : Int32) (K155 : Int32 → FF → VV → Prop) (K173 : Int32 → FF → VV → Prop) : Nat → Int32 → FF → VV → Prop
  | 0, _, _, _ => False
  | n + 1, x3, f, v => (((3 : Int32) ≤ x3 → (K173 x3 f v)) ∧ (¬ (3 : Int32) ≤ x3 → (((x1 ≤ (v 4) → (Q_X5_within (0 : Int32) (48 : Int32) ((47 : Int32) + (v 5)) (fun r_9 => (((r_9 = 0 → (vp_in (x2 + x3) 15 ∧ (∀ f_12 : FF, f_12 = fu f 10 (wr (f 10) (x2 + x3) (-9 : Int32)) → (vp_in (x2 + x3) 15 ∧ (((¬ ((f_12 10) ((x2 + x3)).toNatClampNeg) = (-9 : Int32) → (∀ v_15 : VV, v_15 = fu v 4 ((v 4) + (1 : Int32)) → (∀ x_16 : Int32, x_16 = (x3 + (1 : Int32)) → (Q_X5_readStepNext_L56 x1 x2 K155 K173 n x_16 f_12 v_15)))) ∧ (((f_12 10) ((x2 + x3)).toNatClampNeg) = (-9 : Int32) → (K155 x3 f_12 v)))))))) ∧ (¬ r_9 = 0 → (vp_in (x2 + x3) 15 ∧ (∀ f_18 : FF, f_18 = fu f 10 (wr (f 10) (x2 + x3) ((0 : Int32) - (48 : Int32))) → (vp_in (x2 + x3) 15 ∧ (((¬ ((f_18 10) ((x2 + x3)).toNatClampNeg) = (-9 : Int32) → (∀ v_21 : VV, v_21 = fu v 4 ((v 4) + (1 : Int32)) → (∀ x_22 : Int32, x_22 = (x3 + (1 : Int32)) → (Q_X5_readStepNext_L56 x1 x2 K155 K173 n x_22 f_18 v_21)))) ∧ (((f_18 10) ((x2 + x3)).toNatClampNeg) = (-9 : Int32) → (K155 x3 f_18 v))))))))))))) ∧ (¬ x1 ≤ (v 4) → (vp_in (v 4) 240 ∧ (∀ x_24 : Int32, x_24 = ((f 2) ((v 4)).toNatClampNeg) → (((¬ x_24 = (120 : Int32) → (((¬ x_24 = (121 : Int32) → (Q_X5_within x_24 (48 : Int32) ((47 : Int32) + (v 5)) (fun r_27 => (((r_27 = 0 → (vp_in (x2 + x3) 15 ∧ (∀ f_30 : FF, f_30 = fu f 10 (wr (f 10) (x2 + x3) (-9 : Int32)) → (vp_in (x2 + x3) 15 ∧ (((¬ ((f_30 10) ((x2 + x3)).toNatClampNeg) = (-9 : Int32) → (∀ v_33 : VV, v_33 = fu v 4 ((v 4) + (1 : Int32)) → (∀ x_34 : Int32, x_34 = (x3 + (1 : Int32)) → (Q_X5_readStepNext_L56 x1 x2 K155 K173 n x_34 f_30 v_33)))) ∧ (((f_30 10) ((x2 + x3)).toNatClampNeg) = (-9 : Int32) → (K155 x3 f_30 v)))))))) ∧ (¬ r_27 = 0 → (vp_in (x2 + x3) 15 ∧ (∀ f_36 : FF, f_36 = fu f 10 (wr (f 10) (x2 + x3) (x_24 - (48 : Int32))) → (vp_in (x2 + x3) 15 ∧ (((¬ ((f_36 10) ((x2 + x3)).toNatClampNeg) = (-9 : Int32) → (∀ v_39 : VV, v_39 = fu v 4 ((v 4) + (1 : Int32)) → (∀ x_40 : Int32, x_40 = (x3 + (1 : Int32)) → (Q_X5_readStepNext_L56 x1 x2 K155 K173 n x_40 f_36 v_39)))) ∧ (((f_36 10) ((x2 + x3)).toNatClampNeg) = (-9 : Int32) → (K155 x3 f_36 v))))))))))))) ∧ (x_24 = (121 : Int32) → (vp_in (x2 + x3) 15 ∧ (∀ f_42 : FF, f_42 = fu f 10 (wr (f 10) (x2 + x3) (6 : Int32)) → (vp_in (x2 + x3) 15 ∧ (((¬ ((f_42 10) ((x2 + x3)).toNatClampNeg) = (-9 : Int32) → (∀ v_45 : VV, v_45 = fu v 4 ((v 4) + (1 : Int32)) → (∀ x_46 : Int32, x_46 = (x3 + (1 : Int32)) → (Q_X5_readStepNext_L56 x1 x2 K155 K173 n x_46 f_42 v_45)))) ∧ (((f_42 10) ((x2 + x3)).toNatClampNeg) = (-9 : Int32) → (K155 x3 f_42 v))))))))))) ∧ (x_24 = (120 : Int32) → (vp_in (x2 + x3) 15 ∧ (∀ f_48 : FF, f_48 = fu f 10 (wr (f 10) (x2 + x3) (5 : Int32)) → (vp_in (x2 + x3) 15 ∧ (((¬ ((f_48 10) ((x2 + x3)).toNatClampNeg) = (-9 : Int32) → (∀ v_51 : VV, v_51 = fu v 4 ((v 4) + (1 : Int32)) → (∀ x_52 : Int32, x_52 = (x3 + (1 : Int32)) → (Q_X5_readStepNext_L56 x1 x2 K155 K173 n x_52 f_48 v_51)))) ∧ (((f_48 10) ((x2 + x3)).toNatClampNeg) = (-9 : Int32) → (K155 x3 f_48 v)))))))))))))))))
set_option maxRecDepth 100000 in
set_option maxHeartbeats 4000000 in
theorem t_X5_readStepNext_L56 {κ : Kx} {G : Gx} {h : Nat → Nat} (C : Cx κ G RX5 cX5_readStepNext rmX5_readStepNext 5) {x1 : Int32} {x2 : Int32} {K155 : Int32 → FF → VV → Prop} {K173 : Int32 → FF → VV → Prop} (hK155 : ∀ (x3 : Int32) (f : FF) (v : VV), K155 x3 f v → J κ 0 0 (wE G h f v) 155 [(0, .ref (h 0)), (1, .int x1), (2, .int x2), (3, .int x3)] []) (hK173 : ∀ (x3 : Int32) (f : FF) (v : VV), K173 x3 f v → J κ 0 0 (wE G h f v) 173 [(0, .ref (h 0)), (1, .int x1), (2, .int x2), (3, .int x3)] []) : ∀ (n : Nat) (x3 : Int32) (f : FF) (v : VV), Q_X5_readStepNext_L56 x1 x2 K155 K173 n x3 f v → J κ 0 0 (wE G h f v) 56 [(0, .ref (h 0)), (1, .int x1), (2, .int x2), (3, .int x3)] [] := by
  intro n
  induction n with
  | zero => intro x3 f v hq; exact False.elim hq
  | succ n ih =>
    intro x3 f v hq
    rw [Q_X5_readStepNext_L56] at hq
    refine j_iload_n 57 C dX5_readStepNext_56 rfl 3 rfl ?_
    refine j_iconst 58 C dX5_readStepNext_57 rfl ic_3 ?_
    refine j_icmp_ge 61 173 C dX5_readStepNext_58 rfl rfl (fun c_7 => ?_) (fun c_7 => ?_)
    · replace hq := hq.1 c_7
      refine J.l0 [0, 1, 2, 3] rfl ?_
      exact hK173 _ _ _ hq
    · replace hq := hq.2 c_7
      refine j_aload_n 62 C dX5_readStepNext_61 rfl 0 rfl ?_
      refine j_get 65 C uX5 0 rfl rfl 14 (Nat.le_of_ble_eq_true rfl) lX5_81 (v := .int (v 4)) rfl dX5_readStepNext_62 rfl ?_
      refine j_iload_n 66 C dX5_readStepNext_65 rfl 1 rfl ?_
      refine j_icmp_ge 69 81 C dX5_readStepNext_66 rfl rfl (fun c_8 => ?_) (fun c_8 => ?_)
      · replace hq := hq.1 c_8
        refine j_iconst 82 C dX5_readStepNext_81 rfl ic_0 ?_
        refine j_istore 84 C dX5_readStepNext_82 rfl (Nat.le_of_ble_eq_true rfl) [1, 2, 3, 4, 0] (lv' := [(0, .ref (h 0)), (1, .int x1), (2, .int x2), (3, .int x3), (4, .int (0 : Int32))]) rfl ?_
        refine j_aload_n 85 C dX5_readStepNext_84 rfl 0 rfl ?_
        refine j_get 88 C uX5 0 rfl rfl 17 (Nat.le_of_ble_eq_true rfl) lX5_40 (v := .ref (h 11)) rfl dX5_readStepNext_85 rfl ?_
        refine j_iload_n 89 C dX5_readStepNext_88 rfl 2 rfl ?_
        refine j_iload_n 90 C dX5_readStepNext_89 rfl 3 rfl ?_
        refine j_iadd 91 C dX5_readStepNext_90 rfl ?_
        refine j_iload 93 C dX5_readStepNext_91 rfl 4 rfl ?_
        refine j_bipush 95 C dX5_readStepNext_93 rfl bc_120 ?_
        refine j_icmp_ne 98 102 C dX5_readStepNext_95 rfl rfl (fun _ => ?_) (fun h9 => absurd h9 (by decide))
        refine j_iload 104 C dX5_readStepNext_102 rfl 4 rfl ?_
        refine j_bipush 106 C dX5_readStepNext_104 rfl bc_121 ?_
        refine j_icmp_ne 109 114 C dX5_readStepNext_106 rfl rfl (fun _ => ?_) (fun h9 => absurd h9 (by decide))
        refine j_iload 116 C dX5_readStepNext_114 rfl 4 rfl ?_
        refine j_bipush 118 C dX5_readStepNext_116 rfl bc_48 ?_
        refine j_bipush 120 C dX5_readStepNext_118 rfl bc_47 ?_
        refine j_aload_n 121 C dX5_readStepNext_120 rfl 0 rfl ?_
        refine j_get 124 C uX5 0 rfl rfl 15 (Nat.le_of_ble_eq_true rfl) lX5_102 (v := .int (v 5)) rfl dX5_readStepNext_121 rfl ?_
        refine j_iadd 125 C dX5_readStepNext_124 rfl ?_
        refine j_callSi 128 C [] (wE G h f v) (fun _ _ => (wE G h f v)) (As := [.int (0 : Int32), .int (48 : Int32), .int ((47 : Int32) + (v 5))]) (m_X5_within G (0 : Int32) (48 : Int32) ((47 : Int32) + (v 5)) hq) oX5_within kX5_67 ⟨rfl, rfl⟩ eX5_within ⟨Nat.le_of_ble_eq_true rfl, Nat.le_of_ble_eq_true rfl⟩ ⟨Nat.zero_le _, Nat.zero_le _⟩ rfl (fun _ _ => rfl) (fun _ _ => rfl) rfl (Nat.le_of_ble_eq_true rfl) dX5_readStepNext_125 rfl (fun r_9 _ _ hq => ?_)
        refine j_if_eq 131 139 C dX5_readStepNext_128 rfl rfl (fun c_10 => ?_) (fun c_10 => ?_)
        · replace hq := hq.1 c_10
          refine j_bipush 141 C dX5_readStepNext_139 rfl bc_m9 ?_
          obtain ⟨hi_11, hq⟩ := hq
          obtain ⟨f_12, ef_12⟩ : ∃ y : FF, y = fu f 10 (wr (f 10) (x2 + x3) (-9 : Int32)) := ⟨_, rfl⟩
          replace hq := hq f_12 ef_12
          refine j_iast 142 C 11 rfl hi_11 dX5_readStepNext_141 rfl (ws' := (wE G h f_12 v)) (by subst ef_12; rfl) ?_
          refine j_aload_n 143 C dX5_readStepNext_142 rfl 0 rfl ?_
          refine j_get 146 C uX5 0 rfl rfl 17 (Nat.le_of_ble_eq_true rfl) lX5_40 (v := .ref (h 11)) rfl dX5_readStepNext_143 rfl ?_
          refine j_iload_n 147 C dX5_readStepNext_146 rfl 2 rfl ?_
          refine j_iload_n 148 C dX5_readStepNext_147 rfl 3 rfl ?_
          refine j_iadd 149 C dX5_readStepNext_148 rfl ?_
          obtain ⟨hi_13, hq⟩ := hq
          refine j_iald 150 C 11 (f := (f_12 10)) rfl hi_13 dX5_readStepNext_149 rfl ?_
          refine j_bipush 152 C dX5_readStepNext_150 rfl bc_m9 ?_
          refine j_icmp_ne 155 157 C dX5_readStepNext_152 rfl rfl (fun c_14 => ?_) (fun c_14 => ?_)
          · replace hq := hq.1 c_14
            refine j_aload_n 158 C dX5_readStepNext_157 rfl 0 rfl ?_
            refine j_dup 159 C dX5_readStepNext_158 rfl rfl ?_
            refine j_get 162 C uX5 0 rfl rfl 14 (Nat.le_of_ble_eq_true rfl) lX5_81 (v := .int (v 4)) rfl dX5_readStepNext_159 rfl ?_
            refine j_iconst 163 C dX5_readStepNext_162 rfl ic_1 ?_
            refine j_iadd 164 C dX5_readStepNext_163 rfl ?_
            obtain ⟨v_15, ev_15⟩ : ∃ y : VV, y = fu v 4 ((v 4) + (1 : Int32)) := ⟨_, rfl⟩
            replace hq := hq v_15 ev_15
            refine j_put 167 C uX5 tyX5 tyX5_ok nmX5 0 rfl rfl 14 (Nat.le_of_ble_eq_true rfl) lX5_81 rfl rfl (Nat.le_of_ble_eq_true rfl) dX5_readStepNext_164 rfl (ws' := (wE G h f_12 v_15)) (by subst ev_15; rfl) ?_
            obtain ⟨x_16, ex_16⟩ : ∃ y : Int32, y = (x3 + (1 : Int32)) := ⟨_, rfl⟩
            replace hq := hq x_16 ex_16
            refine j_iinc 170 C dX5_readStepNext_167 rfl 3 rfl (v := x_16) (by rw [ex_16]; rfl) (Nat.le_of_ble_eq_true rfl) [1, 2, 3, 0, 4] (lv' := [(0, .ref (h 0)), (1, .int x1), (2, .int x2), (3, .int x_16), (4, .int (0 : Int32))]) rfl ?_
            refine j_goto 56 C dX5_readStepNext_170 rfl ?_
            refine J.l0 [0, 1, 2, 3] rfl ?_
            exact ih _ _ _ hq
          · replace hq := hq.2 c_14
            refine J.l0 [0, 1, 2, 3] rfl ?_
            exact hK155 _ _ _ hq
        · replace hq := hq.2 c_10
          refine j_iload 133 C dX5_readStepNext_131 rfl 4 rfl ?_
          refine j_bipush 135 C dX5_readStepNext_133 rfl bc_48 ?_
          refine j_isub 136 C dX5_readStepNext_135 rfl ?_
          refine j_goto 141 C dX5_readStepNext_136 rfl ?_
          obtain ⟨hi_17, hq⟩ := hq
          obtain ⟨f_18, ef_18⟩ : ∃ y : FF, y = fu f 10 (wr (f 10) (x2 + x3) ((0 : Int32) - (48 : Int32))) := ⟨_, rfl⟩
          replace hq := hq f_18 ef_18
          refine j_iast 142 C 11 rfl hi_17 dX5_readStepNext_141 rfl (ws' := (wE G h f_18 v)) (by subst ef_18; rfl) ?_
          refine j_aload_n 143 C dX5_readStepNext_142 rfl 0 rfl ?_
          refine j_get 146 C uX5 0 rfl rfl 17 (Nat.le_of_ble_eq_true rfl) lX5_40 (v := .ref (h 11)) rfl dX5_readStepNext_143 rfl ?_
          refine j_iload_n 147 C dX5_readStepNext_146 rfl 2 rfl ?_
          refine j_iload_n 148 C dX5_readStepNext_147 rfl 3 rfl ?_
          refine j_iadd 149 C dX5_readStepNext_148 rfl ?_
          obtain ⟨hi_19, hq⟩ := hq
          refine j_iald 150 C 11 (f := (f_18 10)) rfl hi_19 dX5_readStepNext_149 rfl ?_
          refine j_bipush 152 C dX5_readStepNext_150 rfl bc_m9 ?_
          refine j_icmp_ne 155 157 C dX5_readStepNext_152 rfl rfl (fun c_20 => ?_) (fun c_20 => ?_)
          · replace hq := hq.1 c_20
            refine j_aload_n 158 C dX5_readStepNext_157 rfl 0 rfl ?_
            refine j_dup 159 C dX5_readStepNext_158 rfl rfl ?_
            refine j_get 162 C uX5 0 rfl rfl 14 (Nat.le_of_ble_eq_true rfl) lX5_81 (v := .int (v 4)) rfl dX5_readStepNext_159 rfl ?_
            refine j_iconst 163 C dX5_readStepNext_162 rfl ic_1 ?_
            refine j_iadd 164 C dX5_readStepNext_163 rfl ?_
            obtain ⟨v_21, ev_21⟩ : ∃ y : VV, y = fu v 4 ((v 4) + (1 : Int32)) := ⟨_, rfl⟩
            replace hq := hq v_21 ev_21
            refine j_put 167 C uX5 tyX5 tyX5_ok nmX5 0 rfl rfl 14 (Nat.le_of_ble_eq_true rfl) lX5_81 rfl rfl (Nat.le_of_ble_eq_true rfl) dX5_readStepNext_164 rfl (ws' := (wE G h f_18 v_21)) (by subst ev_21; rfl) ?_
            obtain ⟨x_22, ex_22⟩ : ∃ y : Int32, y = (x3 + (1 : Int32)) := ⟨_, rfl⟩
            replace hq := hq x_22 ex_22
            refine j_iinc 170 C dX5_readStepNext_167 rfl 3 rfl (v := x_22) (by rw [ex_22]; rfl) (Nat.le_of_ble_eq_true rfl) [1, 2, 3, 0, 4] (lv' := [(0, .ref (h 0)), (1, .int x1), (2, .int x2), (3, .int x_22), (4, .int (0 : Int32))]) rfl ?_
            refine j_goto 56 C dX5_readStepNext_170 rfl ?_
            refine J.l0 [0, 1, 2, 3] rfl ?_
            exact ih _ _ _ hq
          · replace hq := hq.2 c_20
            refine J.l0 [0, 1, 2, 3] rfl ?_
            exact hK155 _ _ _ hq
      · replace hq := hq.2 c_8
        refine j_aload_n 70 C dX5_readStepNext_69 rfl 0 rfl ?_
        refine j_get 73 C uX5 0 rfl rfl 4 (Nat.le_of_ble_eq_true rfl) lX5_16 (v := .ref (h 3)) rfl dX5_readStepNext_70 rfl ?_
        refine j_aload_n 74 C dX5_readStepNext_73 rfl 0 rfl ?_
        refine j_get 77 C uX5 0 rfl rfl 14 (Nat.le_of_ble_eq_true rfl) lX5_81 (v := .int (v 4)) rfl dX5_readStepNext_74 rfl ?_
        obtain ⟨hi_23, hq⟩ := hq
        refine j_iald 78 C 3 (f := (f 2)) rfl hi_23 dX5_readStepNext_77 rfl ?_
        refine j_goto 82 C dX5_readStepNext_78 rfl ?_
        refine J.topi (fun x_24 ex_24 => ?_)
        replace hq := hq x_24 ex_24
        refine j_istore 84 C dX5_readStepNext_82 rfl (Nat.le_of_ble_eq_true rfl) [1, 2, 3, 4, 0] (lv' := [(0, .ref (h 0)), (1, .int x1), (2, .int x2), (3, .int x3), (4, .int x_24)]) rfl ?_
        refine j_aload_n 85 C dX5_readStepNext_84 rfl 0 rfl ?_
        refine j_get 88 C uX5 0 rfl rfl 17 (Nat.le_of_ble_eq_true rfl) lX5_40 (v := .ref (h 11)) rfl dX5_readStepNext_85 rfl ?_
        refine j_iload_n 89 C dX5_readStepNext_88 rfl 2 rfl ?_
        refine j_iload_n 90 C dX5_readStepNext_89 rfl 3 rfl ?_
        refine j_iadd 91 C dX5_readStepNext_90 rfl ?_
        refine j_iload 93 C dX5_readStepNext_91 rfl 4 rfl ?_
        refine j_bipush 95 C dX5_readStepNext_93 rfl bc_120 ?_
        refine j_icmp_ne 98 102 C dX5_readStepNext_95 rfl rfl (fun c_25 => ?_) (fun c_25 => ?_)
        · replace hq := hq.1 c_25
          refine j_iload 104 C dX5_readStepNext_102 rfl 4 rfl ?_
          refine j_bipush 106 C dX5_readStepNext_104 rfl bc_121 ?_
          refine j_icmp_ne 109 114 C dX5_readStepNext_106 rfl rfl (fun c_26 => ?_) (fun c_26 => ?_)
          · replace hq := hq.1 c_26
            refine j_iload 116 C dX5_readStepNext_114 rfl 4 rfl ?_
            refine j_bipush 118 C dX5_readStepNext_116 rfl bc_48 ?_
            refine j_bipush 120 C dX5_readStepNext_118 rfl bc_47 ?_
            refine j_aload_n 121 C dX5_readStepNext_120 rfl 0 rfl ?_
            refine j_get 124 C uX5 0 rfl rfl 15 (Nat.le_of_ble_eq_true rfl) lX5_102 (v := .int (v 5)) rfl dX5_readStepNext_121 rfl ?_
            refine j_iadd 125 C dX5_readStepNext_124 rfl ?_
            refine j_callSi 128 C [] (wE G h f v) (fun _ _ => (wE G h f v)) (As := [.int x_24, .int (48 : Int32), .int ((47 : Int32) + (v 5))]) (m_X5_within G x_24 (48 : Int32) ((47 : Int32) + (v 5)) hq) oX5_within kX5_67 ⟨rfl, rfl⟩ eX5_within ⟨Nat.le_of_ble_eq_true rfl, Nat.le_of_ble_eq_true rfl⟩ ⟨Nat.zero_le _, Nat.zero_le _⟩ rfl (fun _ _ => rfl) (fun _ _ => rfl) rfl (Nat.le_of_ble_eq_true rfl) dX5_readStepNext_125 rfl (fun r_27 _ _ hq => ?_)
            refine j_if_eq 131 139 C dX5_readStepNext_128 rfl rfl (fun c_28 => ?_) (fun c_28 => ?_)
            · replace hq := hq.1 c_28
              refine j_bipush 141 C dX5_readStepNext_139 rfl bc_m9 ?_
              obtain ⟨hi_29, hq⟩ := hq
              obtain ⟨f_30, ef_30⟩ : ∃ y : FF, y = fu f 10 (wr (f 10) (x2 + x3) (-9 : Int32)) := ⟨_, rfl⟩
              replace hq := hq f_30 ef_30
              refine j_iast 142 C 11 rfl hi_29 dX5_readStepNext_141 rfl (ws' := (wE G h f_30 v)) (by subst ef_30; rfl) ?_
              refine j_aload_n 143 C dX5_readStepNext_142 rfl 0 rfl ?_
              refine j_get 146 C uX5 0 rfl rfl 17 (Nat.le_of_ble_eq_true rfl) lX5_40 (v := .ref (h 11)) rfl dX5_readStepNext_143 rfl ?_
              refine j_iload_n 147 C dX5_readStepNext_146 rfl 2 rfl ?_
              refine j_iload_n 148 C dX5_readStepNext_147 rfl 3 rfl ?_
              refine j_iadd 149 C dX5_readStepNext_148 rfl ?_
              obtain ⟨hi_31, hq⟩ := hq
              refine j_iald 150 C 11 (f := (f_30 10)) rfl hi_31 dX5_readStepNext_149 rfl ?_
              refine j_bipush 152 C dX5_readStepNext_150 rfl bc_m9 ?_
              refine j_icmp_ne 155 157 C dX5_readStepNext_152 rfl rfl (fun c_32 => ?_) (fun c_32 => ?_)
              · replace hq := hq.1 c_32
                refine j_aload_n 158 C dX5_readStepNext_157 rfl 0 rfl ?_
                refine j_dup 159 C dX5_readStepNext_158 rfl rfl ?_
                refine j_get 162 C uX5 0 rfl rfl 14 (Nat.le_of_ble_eq_true rfl) lX5_81 (v := .int (v 4)) rfl dX5_readStepNext_159 rfl ?_
                refine j_iconst 163 C dX5_readStepNext_162 rfl ic_1 ?_
                refine j_iadd 164 C dX5_readStepNext_163 rfl ?_
                obtain ⟨v_33, ev_33⟩ : ∃ y : VV, y = fu v 4 ((v 4) + (1 : Int32)) := ⟨_, rfl⟩
                replace hq := hq v_33 ev_33
                refine j_put 167 C uX5 tyX5 tyX5_ok nmX5 0 rfl rfl 14 (Nat.le_of_ble_eq_true rfl) lX5_81 rfl rfl (Nat.le_of_ble_eq_true rfl) dX5_readStepNext_164 rfl (ws' := (wE G h f_30 v_33)) (by subst ev_33; rfl) ?_
                obtain ⟨x_34, ex_34⟩ : ∃ y : Int32, y = (x3 + (1 : Int32)) := ⟨_, rfl⟩
                replace hq := hq x_34 ex_34
                refine j_iinc 170 C dX5_readStepNext_167 rfl 3 rfl (v := x_34) (by rw [ex_34]; rfl) (Nat.le_of_ble_eq_true rfl) [1, 2, 3, 0, 4] (lv' := [(0, .ref (h 0)), (1, .int x1), (2, .int x2), (3, .int x_34), (4, .int x_24)]) rfl ?_
                refine j_goto 56 C dX5_readStepNext_170 rfl ?_
                refine J.l0 [0, 1, 2, 3] rfl ?_
                exact ih _ _ _ hq
              · replace hq := hq.2 c_32
                refine J.l0 [0, 1, 2, 3] rfl ?_
                exact hK155 _ _ _ hq
            · replace hq := hq.2 c_28
              refine j_iload 133 C dX5_readStepNext_131 rfl 4 rfl ?_
              refine j_bipush 135 C dX5_readStepNext_133 rfl bc_48 ?_
              refine j_isub 136 C dX5_readStepNext_135 rfl ?_
              refine j_goto 141 C dX5_readStepNext_136 rfl ?_
              obtain ⟨hi_35, hq⟩ := hq
              obtain ⟨f_36, ef_36⟩ : ∃ y : FF, y = fu f 10 (wr (f 10) (x2 + x3) (x_24 - (48 : Int32))) := ⟨_, rfl⟩
              replace hq := hq f_36 ef_36
              refine j_iast 142 C 11 rfl hi_35 dX5_readStepNext_141 rfl (ws' := (wE G h f_36 v)) (by subst ef_36; rfl) ?_
              refine j_aload_n 143 C dX5_readStepNext_142 rfl 0 rfl ?_
              refine j_get 146 C uX5 0 rfl rfl 17 (Nat.le_of_ble_eq_true rfl) lX5_40 (v := .ref (h 11)) rfl dX5_readStepNext_143 rfl ?_
              refine j_iload_n 147 C dX5_readStepNext_146 rfl 2 rfl ?_
              refine j_iload_n 148 C dX5_readStepNext_147 rfl 3 rfl ?_
              refine j_iadd 149 C dX5_readStepNext_148 rfl ?_
              obtain ⟨hi_37, hq⟩ := hq
              refine j_iald 150 C 11 (f := (f_36 10)) rfl hi_37 dX5_readStepNext_149 rfl ?_
              refine j_bipush 152 C dX5_readStepNext_150 rfl bc_m9 ?_
              refine j_icmp_ne 155 157 C dX5_readStepNext_152 rfl rfl (fun c_38 => ?_) (fun c_38 => ?_)
              · replace hq := hq.1 c_38
                refine j_aload_n 158 C dX5_readStepNext_157 rfl 0 rfl ?_
                refine j_dup 159 C dX5_readStepNext_158 rfl rfl ?_
                refine j_get 162 C uX5 0 rfl rfl 14 (Nat.le_of_ble_eq_true rfl) lX5_81 (v := .int (v 4)) rfl dX5_readStepNext_159 rfl ?_
                refine j_iconst 163 C dX5_readStepNext_162 rfl ic_1 ?_
                refine j_iadd 164 C dX5_readStepNext_163 rfl ?_
                obtain ⟨v_39, ev_39⟩ : ∃ y : VV, y = fu v 4 ((v 4) + (1 : Int32)) := ⟨_, rfl⟩
                replace hq := hq v_39 ev_39
                refine j_put 167 C uX5 tyX5 tyX5_ok nmX5 0 rfl rfl 14 (Nat.le_of_ble_eq_true rfl) lX5_81 rfl rfl (Nat.le_of_ble_eq_true rfl) dX5_readStepNext_164 rfl (ws' := (wE G h f_36 v_39)) (by subst ev_39; rfl) ?_
                obtain ⟨x_40, ex_40⟩ : ∃ y : Int32, y = (x3 + (1 : Int32)) := ⟨_, rfl⟩
                replace hq := hq x_40 ex_40
                refine j_iinc 170 C dX5_readStepNext_167 rfl 3 rfl (v := x_40) (by rw [ex_40]; rfl) (Nat.le_of_ble_eq_true rfl) [1, 2, 3, 0, 4] (lv' := [(0, .ref (h 0)), (1, .int x1), (2, .int x2), (3, .int x_40), (4, .int x_24)]) rfl ?_
                refine j_goto 56 C dX5_readStepNext_170 rfl ?_
                refine J.l0 [0, 1, 2, 3] rfl ?_
                exact ih _ _ _ hq
              · replace hq := hq.2 c_38
                refine J.l0 [0, 1, 2, 3] rfl ?_
                exact hK155 _ _ _ hq
          · replace hq := hq.2 c_26
            refine j_bipush 111 C dX5_readStepNext_109 rfl bc_6 ?_
            refine j_goto 141 C dX5_readStepNext_111 rfl ?_
            obtain ⟨hi_41, hq⟩ := hq
            obtain ⟨f_42, ef_42⟩ : ∃ y : FF, y = fu f 10 (wr (f 10) (x2 + x3) (6 : Int32)) := ⟨_, rfl⟩
            replace hq := hq f_42 ef_42
            refine j_iast 142 C 11 rfl hi_41 dX5_readStepNext_141 rfl (ws' := (wE G h f_42 v)) (by subst ef_42; rfl) ?_
            refine j_aload_n 143 C dX5_readStepNext_142 rfl 0 rfl ?_
            refine j_get 146 C uX5 0 rfl rfl 17 (Nat.le_of_ble_eq_true rfl) lX5_40 (v := .ref (h 11)) rfl dX5_readStepNext_143 rfl ?_
            refine j_iload_n 147 C dX5_readStepNext_146 rfl 2 rfl ?_
            refine j_iload_n 148 C dX5_readStepNext_147 rfl 3 rfl ?_
            refine j_iadd 149 C dX5_readStepNext_148 rfl ?_
            obtain ⟨hi_43, hq⟩ := hq
            refine j_iald 150 C 11 (f := (f_42 10)) rfl hi_43 dX5_readStepNext_149 rfl ?_
            refine j_bipush 152 C dX5_readStepNext_150 rfl bc_m9 ?_
            refine j_icmp_ne 155 157 C dX5_readStepNext_152 rfl rfl (fun c_44 => ?_) (fun c_44 => ?_)
            · replace hq := hq.1 c_44
              refine j_aload_n 158 C dX5_readStepNext_157 rfl 0 rfl ?_
              refine j_dup 159 C dX5_readStepNext_158 rfl rfl ?_
              refine j_get 162 C uX5 0 rfl rfl 14 (Nat.le_of_ble_eq_true rfl) lX5_81 (v := .int (v 4)) rfl dX5_readStepNext_159 rfl ?_
              refine j_iconst 163 C dX5_readStepNext_162 rfl ic_1 ?_
              refine j_iadd 164 C dX5_readStepNext_163 rfl ?_
              obtain ⟨v_45, ev_45⟩ : ∃ y : VV, y = fu v 4 ((v 4) + (1 : Int32)) := ⟨_, rfl⟩
              replace hq := hq v_45 ev_45
              refine j_put 167 C uX5 tyX5 tyX5_ok nmX5 0 rfl rfl 14 (Nat.le_of_ble_eq_true rfl) lX5_81 rfl rfl (Nat.le_of_ble_eq_true rfl) dX5_readStepNext_164 rfl (ws' := (wE G h f_42 v_45)) (by subst ev_45; rfl) ?_
              obtain ⟨x_46, ex_46⟩ : ∃ y : Int32, y = (x3 + (1 : Int32)) := ⟨_, rfl⟩
              replace hq := hq x_46 ex_46
              refine j_iinc 170 C dX5_readStepNext_167 rfl 3 rfl (v := x_46) (by rw [ex_46]; rfl) (Nat.le_of_ble_eq_true rfl) [1, 2, 3, 0, 4] (lv' := [(0, .ref (h 0)), (1, .int x1), (2, .int x2), (3, .int x_46), (4, .int x_24)]) rfl ?_
              refine j_goto 56 C dX5_readStepNext_170 rfl ?_
              refine J.l0 [0, 1, 2, 3] rfl ?_
              exact ih _ _ _ hq
            · replace hq := hq.2 c_44
              refine J.l0 [0, 1, 2, 3] rfl ?_
              exact hK155 _ _ _ hq
        · replace hq := hq.2 c_25
          refine j_iconst 99 C dX5_readStepNext_98 rfl ic_5 ?_
          refine j_goto 141 C dX5_readStepNext_99 rfl ?_
          obtain ⟨hi_47, hq⟩ := hq
          obtain ⟨f_48, ef_48⟩ : ∃ y : FF, y = fu f 10 (wr (f 10) (x2 + x3) (5 : Int32)) := ⟨_, rfl⟩
          replace hq := hq f_48 ef_48
          refine j_iast 142 C 11 rfl hi_47 dX5_readStepNext_141 rfl (ws' := (wE G h f_48 v)) (by subst ef_48; rfl) ?_
          refine j_aload_n 143 C dX5_readStepNext_142 rfl 0 rfl ?_
          refine j_get 146 C uX5 0 rfl rfl 17 (Nat.le_of_ble_eq_true rfl) lX5_40 (v := .ref (h 11)) rfl dX5_readStepNext_143 rfl ?_
          refine j_iload_n 147 C dX5_readStepNext_146 rfl 2 rfl ?_
          refine j_iload_n 148 C dX5_readStepNext_147 rfl 3 rfl ?_
          refine j_iadd 149 C dX5_readStepNext_148 rfl ?_
          obtain ⟨hi_49, hq⟩ := hq
          refine j_iald 150 C 11 (f := (f_48 10)) rfl hi_49 dX5_readStepNext_149 rfl ?_
          refine j_bipush 152 C dX5_readStepNext_150 rfl bc_m9 ?_
          refine j_icmp_ne 155 157 C dX5_readStepNext_152 rfl rfl (fun c_50 => ?_) (fun c_50 => ?_)
          · replace hq := hq.1 c_50
            refine j_aload_n 158 C dX5_readStepNext_157 rfl 0 rfl ?_
            refine j_dup 159 C dX5_readStepNext_158 rfl rfl ?_
            refine j_get 162 C uX5 0 rfl rfl 14 (Nat.le_of_ble_eq_true rfl) lX5_81 (v := .int (v 4)) rfl dX5_readStepNext_159 rfl ?_
            refine j_iconst 163 C dX5_readStepNext_162 rfl ic_1 ?_
            refine j_iadd 164 C dX5_readStepNext_163 rfl ?_
            obtain ⟨v_51, ev_51⟩ : ∃ y : VV, y = fu v 4 ((v 4) + (1 : Int32)) := ⟨_, rfl⟩
            replace hq := hq v_51 ev_51
            refine j_put 167 C uX5 tyX5 tyX5_ok nmX5 0 rfl rfl 14 (Nat.le_of_ble_eq_true rfl) lX5_81 rfl rfl (Nat.le_of_ble_eq_true rfl) dX5_readStepNext_164 rfl (ws' := (wE G h f_48 v_51)) (by subst ev_51; rfl) ?_
            obtain ⟨x_52, ex_52⟩ : ∃ y : Int32, y = (x3 + (1 : Int32)) := ⟨_, rfl⟩
            replace hq := hq x_52 ex_52
            refine j_iinc 170 C dX5_readStepNext_167 rfl 3 rfl (v := x_52) (by rw [ex_52]; rfl) (Nat.le_of_ble_eq_true rfl) [1, 2, 3, 0, 4] (lv' := [(0, .ref (h 0)), (1, .int x1), (2, .int x2), (3, .int x_52), (4, .int x_24)]) rfl ?_
            refine j_goto 56 C dX5_readStepNext_170 rfl ?_
            refine J.l0 [0, 1, 2, 3] rfl ?_
            exact ih _ _ _ hq
          · replace hq := hq.2 c_50
            refine J.l0 [0, 1, 2, 3] rfl ?_
            exact hK155 _ _ _ hq
def Q_X5_readStepNext (p0 : Int32) (p1 : Int32) (f : FF) (v : VV) (post : Int32 → FF → VV → Prop) : Prop := ((p0 ≤ (v 4) → (vp_in p1 15 ∧ (∀ f_3 : FF, f_3 = fu f 10 (wr (f 10) p1 (-9 : Int32)) → (vp_in p1 15 ∧ (((¬ ((f_3 10) (p1).toNatClampNeg) = (-9 : Int32) → (∀ v_6 : VV, v_6 = fu v 4 ((v 4) + (1 : Int32)) → (∃ n_53 : Nat, Q_X5_readStepNext_L56 p0 p1 (fun x_54 f_55 v_56 => (post (0 : Int32) f_55 v_56)) (fun x_57 f_58 v_59 => (post (1 : Int32) f_58 v_59)) n_53 (1 : Int32) f_3 v_6))) ∧ (((f_3 10) (p1).toNatClampNeg) = (-9 : Int32) → (post (0 : Int32) f_3 v)))))))) ∧ (¬ p0 ≤ (v 4) → (vp_in (v 4) 240 ∧ (Q_X5_wayBy ((f 2) ((v 4)).toNatClampNeg) (fun r_61 => (vp_in p1 15 ∧ (∀ f_63 : FF, f_63 = fu f 10 (wr (f 10) p1 r_61) → (vp_in p1 15 ∧ (((¬ ((f_63 10) (p1).toNatClampNeg) = (-9 : Int32) → (∀ v_66 : VV, v_66 = fu v 4 ((v 4) + (1 : Int32)) → (∃ n_67 : Nat, Q_X5_readStepNext_L56 p0 p1 (fun x_68 f_69 v_70 => (post (0 : Int32) f_69 v_70)) (fun x_71 f_72 v_73 => (post (1 : Int32) f_72 v_73)) n_67 (1 : Int32) f_63 v_66))) ∧ (((f_63 10) (p1).toNatClampNeg) = (-9 : Int32) → (post (0 : Int32) f_63 v))))))))))))
set_option maxRecDepth 100000 in
set_option maxHeartbeats 4000000 in
theorem m_X5_readStepNext {l : Launch} (G : Gx) (h : Nat → Nat) (p0 : Int32) (p1 : Int32) (f : FF) (v : VV) {post : Int32 → FF → VV → Prop} (hq : Q_X5_readStepNext p0 p1 f v post) : MetI l yX5_readStepNext (gC yX5_readStepNext cX5_readStepNext 5 (some .boolean)) rmX5_readStepNext G [.ref (h 0), .int p0, .int p1] (wE G h) f v post := by
  refine met_z (own := RX5) (by decide) rfl (Nat.le_of_ble_eq_true rfl) (fun κ hκ C hR => ?_)
  unfold Q_X5_readStepNext at hq
  subst hκ
  show J κ 0 0 (wE G h f v) 0 [(0, .ref (h 0)), (1, .int p0), (2, .int p1)] []
  refine j_aload_n 1 C dX5_readStepNext_0 rfl 0 rfl ?_
  refine j_get 4 C uX5 0 rfl rfl 17 (Nat.le_of_ble_eq_true rfl) lX5_40 (v := .ref (h 11)) rfl dX5_readStepNext_1 rfl ?_
  refine j_iload_n 5 C dX5_readStepNext_4 rfl 2 rfl ?_
  refine j_aload_n 6 C dX5_readStepNext_5 rfl 0 rfl ?_
  refine j_get 9 C uX5 0 rfl rfl 14 (Nat.le_of_ble_eq_true rfl) lX5_81 (v := .int (v 4)) rfl dX5_readStepNext_6 rfl ?_
  refine j_iload_n 10 C dX5_readStepNext_9 rfl 1 rfl ?_
  refine j_icmp_ge 13 28 C dX5_readStepNext_10 rfl rfl (fun c_1 => ?_) (fun c_1 => ?_)
  · replace hq := hq.1 c_1
    refine j_bipush 30 C dX5_readStepNext_28 rfl bc_m9 ?_
    obtain ⟨hi_2, hq⟩ := hq
    obtain ⟨f_3, ef_3⟩ : ∃ y : FF, y = fu f 10 (wr (f 10) p1 (-9 : Int32)) := ⟨_, rfl⟩
    replace hq := hq f_3 ef_3
    refine j_iast 31 C 11 rfl hi_2 dX5_readStepNext_30 rfl (ws' := (wE G h f_3 v)) (by subst ef_3; rfl) ?_
    refine j_aload_n 32 C dX5_readStepNext_31 rfl 0 rfl ?_
    refine j_get 35 C uX5 0 rfl rfl 17 (Nat.le_of_ble_eq_true rfl) lX5_40 (v := .ref (h 11)) rfl dX5_readStepNext_32 rfl ?_
    refine j_iload_n 36 C dX5_readStepNext_35 rfl 2 rfl ?_
    obtain ⟨hi_4, hq⟩ := hq
    refine j_iald 37 C 11 (f := (f_3 10)) rfl hi_4 dX5_readStepNext_36 rfl ?_
    refine j_bipush 39 C dX5_readStepNext_37 rfl bc_m9 ?_
    refine j_icmp_ne 42 44 C dX5_readStepNext_39 rfl rfl (fun c_5 => ?_) (fun c_5 => ?_)
    · replace hq := hq.1 c_5
      refine j_aload_n 45 C dX5_readStepNext_44 rfl 0 rfl ?_
      refine j_dup 46 C dX5_readStepNext_45 rfl rfl ?_
      refine j_get 49 C uX5 0 rfl rfl 14 (Nat.le_of_ble_eq_true rfl) lX5_81 (v := .int (v 4)) rfl dX5_readStepNext_46 rfl ?_
      refine j_iconst 50 C dX5_readStepNext_49 rfl ic_1 ?_
      refine j_iadd 51 C dX5_readStepNext_50 rfl ?_
      obtain ⟨v_6, ev_6⟩ : ∃ y : VV, y = fu v 4 ((v 4) + (1 : Int32)) := ⟨_, rfl⟩
      replace hq := hq v_6 ev_6
      refine j_put 54 C uX5 tyX5 tyX5_ok nmX5 0 rfl rfl 14 (Nat.le_of_ble_eq_true rfl) lX5_81 rfl rfl (Nat.le_of_ble_eq_true rfl) dX5_readStepNext_51 rfl (ws' := (wE G h f_3 v_6)) (by subst ev_6; rfl) ?_
      refine j_iconst 55 C dX5_readStepNext_54 rfl ic_1 ?_
      refine j_istore_n 56 C dX5_readStepNext_55 rfl (Nat.le_of_ble_eq_true rfl) [1, 2, 3, 0] (lv' := [(0, .ref (h 0)), (1, .int p0), (2, .int p1), (3, .int (1 : Int32))]) rfl ?_
      obtain ⟨n_53, hq⟩ := hq
      refine t_X5_readStepNext_L56 C ?_ ?_ n_53 _ _ _ hq
      · intro x_54 f_55 v_56 hq
        refine j_iconst 156 C dX5_readStepNext_155 rfl ic_0 ?_
        exact hR _ _ _ f_55 v_56 dX5_readStepNext_156 (Or.inl rfl) hq
      · intro x_57 f_58 v_59 hq
        refine j_iconst 174 C dX5_readStepNext_173 rfl ic_1 ?_
        exact hR _ _ _ f_58 v_59 dX5_readStepNext_174 (Or.inr rfl) hq
    · replace hq := hq.2 c_5
      refine j_iconst 43 C dX5_readStepNext_42 rfl ic_0 ?_
      exact hR _ _ _ f_3 v dX5_readStepNext_43 (Or.inl rfl) hq
  · replace hq := hq.2 c_1
    refine j_aload_n 14 C dX5_readStepNext_13 rfl 0 rfl ?_
    refine j_get 17 C uX5 0 rfl rfl 4 (Nat.le_of_ble_eq_true rfl) lX5_16 (v := .ref (h 3)) rfl dX5_readStepNext_14 rfl ?_
    refine j_aload_n 18 C dX5_readStepNext_17 rfl 0 rfl ?_
    refine j_get 21 C uX5 0 rfl rfl 14 (Nat.le_of_ble_eq_true rfl) lX5_81 (v := .int (v 4)) rfl dX5_readStepNext_18 rfl ?_
    obtain ⟨hi_60, hq⟩ := hq
    refine j_iald 22 C 3 (f := (f 2)) rfl hi_60 dX5_readStepNext_21 rfl ?_
    refine j_callSi 25 C [] (wE G h f v) (fun _ _ => (wE G h f v)) (As := [.int ((f 2) ((v 4)).toNatClampNeg)]) (m_X5_wayBy G ((f 2) ((v 4)).toNatClampNeg) hq) oX5_wayBy kX5_121 ⟨rfl, rfl⟩ eX5_wayBy ⟨Nat.le_of_ble_eq_true rfl, Nat.le_of_ble_eq_true rfl⟩ ⟨Nat.zero_le _, Nat.zero_le _⟩ rfl (fun _ _ => rfl) (fun _ _ => rfl) rfl (Nat.le_of_ble_eq_true rfl) dX5_readStepNext_22 rfl (fun r_61 _ _ hq => ?_)
    refine j_goto 30 C dX5_readStepNext_25 rfl ?_
    obtain ⟨hi_62, hq⟩ := hq
    obtain ⟨f_63, ef_63⟩ : ∃ y : FF, y = fu f 10 (wr (f 10) p1 r_61) := ⟨_, rfl⟩
    replace hq := hq f_63 ef_63
    refine j_iast 31 C 11 rfl hi_62 dX5_readStepNext_30 rfl (ws' := (wE G h f_63 v)) (by subst ef_63; rfl) ?_
    refine j_aload_n 32 C dX5_readStepNext_31 rfl 0 rfl ?_
    refine j_get 35 C uX5 0 rfl rfl 17 (Nat.le_of_ble_eq_true rfl) lX5_40 (v := .ref (h 11)) rfl dX5_readStepNext_32 rfl ?_
    refine j_iload_n 36 C dX5_readStepNext_35 rfl 2 rfl ?_
    obtain ⟨hi_64, hq⟩ := hq
    refine j_iald 37 C 11 (f := (f_63 10)) rfl hi_64 dX5_readStepNext_36 rfl ?_
    refine j_bipush 39 C dX5_readStepNext_37 rfl bc_m9 ?_
    refine j_icmp_ne 42 44 C dX5_readStepNext_39 rfl rfl (fun c_65 => ?_) (fun c_65 => ?_)
    · replace hq := hq.1 c_65
      refine j_aload_n 45 C dX5_readStepNext_44 rfl 0 rfl ?_
      refine j_dup 46 C dX5_readStepNext_45 rfl rfl ?_
      refine j_get 49 C uX5 0 rfl rfl 14 (Nat.le_of_ble_eq_true rfl) lX5_81 (v := .int (v 4)) rfl dX5_readStepNext_46 rfl ?_
      refine j_iconst 50 C dX5_readStepNext_49 rfl ic_1 ?_
      refine j_iadd 51 C dX5_readStepNext_50 rfl ?_
      obtain ⟨v_66, ev_66⟩ : ∃ y : VV, y = fu v 4 ((v 4) + (1 : Int32)) := ⟨_, rfl⟩
      replace hq := hq v_66 ev_66
      refine j_put 54 C uX5 tyX5 tyX5_ok nmX5 0 rfl rfl 14 (Nat.le_of_ble_eq_true rfl) lX5_81 rfl rfl (Nat.le_of_ble_eq_true rfl) dX5_readStepNext_51 rfl (ws' := (wE G h f_63 v_66)) (by subst ev_66; rfl) ?_
      refine j_iconst 55 C dX5_readStepNext_54 rfl ic_1 ?_
      refine j_istore_n 56 C dX5_readStepNext_55 rfl (Nat.le_of_ble_eq_true rfl) [1, 2, 3, 0] (lv' := [(0, .ref (h 0)), (1, .int p0), (2, .int p1), (3, .int (1 : Int32))]) rfl ?_
      obtain ⟨n_67, hq⟩ := hq
      refine t_X5_readStepNext_L56 C ?_ ?_ n_67 _ _ _ hq
      · intro x_68 f_69 v_70 hq
        refine j_iconst 156 C dX5_readStepNext_155 rfl ic_0 ?_
        exact hR _ _ _ f_69 v_70 dX5_readStepNext_156 (Or.inl rfl) hq
      · intro x_71 f_72 v_73 hq
        refine j_iconst 174 C dX5_readStepNext_173 rfl ic_1 ?_
        exact hR _ _ _ f_72 v_73 dX5_readStepNext_174 (Or.inr rfl) hq
    · replace hq := hq.2 c_65
      refine j_iconst 43 C dX5_readStepNext_42 rfl ic_0 ?_
      exact hR _ _ _ f_63 v dX5_readStepNext_43 (Or.inl rfl) hq
def Q_X5_readTestNext_L86 (x1 : Int32) (x2 : Int32) (x3 : Int32) (K130 : Int32 → FF → VV → Prop) (K169 : Int32 → FF → VV → Prop) : Nat → Int32 → FF → VV → Prop
  | 0, _, _, _ => False
  | n + 1, x4, f, v => (((4 : Int32) ≤ x4 → (K169 x4 f v)) ∧ (¬ (4 : Int32) ≤ x4 → (((x1 ≤ (v 4) → (K130 x4 f v)) ∧ (¬ x1 ≤ (v 4) → (vp_in (v 4) 240 ∧ (((¬ x4 = (1 : Int32) → (Q_X5_within ((f 2) ((v 4)).toNatClampNeg) (48 : Int32) (57 : Int32) (fun r_11 => (((¬ r_11 = 0 → (vp_in (v 4) 240 ∧ (vp_in (x2 + x4) 28 ∧ (∀ f_15 : FF, f_15 = fu f 11 (wr (f 11) (x2 + x4) (((f 2) ((v 4)).toNatClampNeg) - (48 : Int32))) → (∀ v_16 : VV, v_16 = fu v 4 ((v 4) + (1 : Int32)) → (∀ x_17 : Int32, x_17 = (x4 + (1 : Int32)) → (Q_X5_readTestNext_L86 x1 x2 x3 K130 K169 n x_17 f_15 v_16))))))) ∧ (r_11 = 0 → (K130 x4 f v))))))) ∧ (x4 = (1 : Int32) → (Q_X5_within ((f 2) ((v 4)).toNatClampNeg) (49 : Int32) (57 : Int32) (fun r_18 => (((¬ r_18 = 0 → (vp_in (v 4) 240 ∧ (vp_in (x2 + x4) 28 ∧ (∀ f_22 : FF, f_22 = fu f 11 (wr (f 11) (x2 + x4) (((f 2) ((v 4)).toNatClampNeg) - (48 : Int32))) → (∀ v_23 : VV, v_23 = fu v 4 ((v 4) + (1 : Int32)) → (∀ x_24 : Int32, x_24 = (x4 + (1 : Int32)) → (Q_X5_readTestNext_L86 x1 x2 x3 K130 K169 n x_24 f_22 v_23))))))) ∧ (r_18 = 0 → (K130 x4 f v)))))))))))))))
set_option maxRecDepth 100000 in
set_option maxHeartbeats 4000000 in
theorem t_X5_readTestNext_L86 {κ : Kx} {G : Gx} {h : Nat → Nat} (C : Cx κ G RX5 cX5_readTestNext rmX5_readTestNext 5) {x1 : Int32} {x2 : Int32} {x3 : Int32} {K130 : Int32 → FF → VV → Prop} {K169 : Int32 → FF → VV → Prop} (hK130 : ∀ (x4 : Int32) (f : FF) (v : VV), K130 x4 f v → J κ 0 0 (wE G h f v) 130 [(0, .ref (h 0)), (1, .int x1), (2, .int x2), (3, .int x3), (4, .int x4)] []) (hK169 : ∀ (x4 : Int32) (f : FF) (v : VV), K169 x4 f v → J κ 0 0 (wE G h f v) 169 [(0, .ref (h 0)), (1, .int x1), (2, .int x2), (3, .int x3), (4, .int x4)] []) : ∀ (n : Nat) (x4 : Int32) (f : FF) (v : VV), Q_X5_readTestNext_L86 x1 x2 x3 K130 K169 n x4 f v → J κ 0 0 (wE G h f v) 86 [(0, .ref (h 0)), (1, .int x1), (2, .int x2), (3, .int x3), (4, .int x4)] [] := by
  intro n
  induction n with
  | zero => intro x4 f v hq; exact False.elim hq
  | succ n ih =>
    intro x4 f v hq
    rw [Q_X5_readTestNext_L86] at hq
    refine j_iload 88 C dX5_readTestNext_86 rfl 4 rfl ?_
    refine j_iconst 89 C dX5_readTestNext_88 rfl ic_4 ?_
    refine j_icmp_ge 92 169 C dX5_readTestNext_89 rfl rfl (fun c_7 => ?_) (fun c_7 => ?_)
    · replace hq := hq.1 c_7
      refine J.l0 [0, 1, 2, 3, 4] rfl ?_
      exact hK169 _ _ _ hq
    · replace hq := hq.2 c_7
      refine j_aload_n 93 C dX5_readTestNext_92 rfl 0 rfl ?_
      refine j_get 96 C uX5 0 rfl rfl 14 (Nat.le_of_ble_eq_true rfl) lX5_81 (v := .int (v 4)) rfl dX5_readTestNext_93 rfl ?_
      refine j_iload_n 97 C dX5_readTestNext_96 rfl 1 rfl ?_
      refine j_icmp_ge 100 130 C dX5_readTestNext_97 rfl rfl (fun c_8 => ?_) (fun c_8 => ?_)
      · replace hq := hq.1 c_8
        refine J.l0 [0, 1, 2, 3, 4] rfl ?_
        exact hK130 _ _ _ hq
      · replace hq := hq.2 c_8
        refine j_aload_n 101 C dX5_readTestNext_100 rfl 0 rfl ?_
        refine j_get 104 C uX5 0 rfl rfl 4 (Nat.le_of_ble_eq_true rfl) lX5_16 (v := .ref (h 3)) rfl dX5_readTestNext_101 rfl ?_
        refine j_aload_n 105 C dX5_readTestNext_104 rfl 0 rfl ?_
        refine j_get 108 C uX5 0 rfl rfl 14 (Nat.le_of_ble_eq_true rfl) lX5_81 (v := .int (v 4)) rfl dX5_readTestNext_105 rfl ?_
        obtain ⟨hi_9, hq⟩ := hq
        refine j_iald 109 C 3 (f := (f 2)) rfl hi_9 dX5_readTestNext_108 rfl ?_
        refine j_iload 111 C dX5_readTestNext_109 rfl 4 rfl ?_
        refine j_iconst 112 C dX5_readTestNext_111 rfl ic_1 ?_
        refine j_icmp_ne 115 120 C dX5_readTestNext_112 rfl rfl (fun c_10 => ?_) (fun c_10 => ?_)
        · replace hq := hq.1 c_10
          refine j_bipush 122 C dX5_readTestNext_120 rfl bc_48 ?_
          refine j_bipush 124 C dX5_readTestNext_122 rfl bc_57 ?_
          refine j_callSi 127 C [] (wE G h f v) (fun _ _ => (wE G h f v)) (As := [.int ((f 2) ((v 4)).toNatClampNeg), .int (48 : Int32), .int (57 : Int32)]) (m_X5_within G ((f 2) ((v 4)).toNatClampNeg) (48 : Int32) (57 : Int32) hq) oX5_within kX5_67 ⟨rfl, rfl⟩ eX5_within ⟨Nat.le_of_ble_eq_true rfl, Nat.le_of_ble_eq_true rfl⟩ ⟨Nat.zero_le _, Nat.zero_le _⟩ rfl (fun _ _ => rfl) (fun _ _ => rfl) rfl (Nat.le_of_ble_eq_true rfl) dX5_readTestNext_124 rfl (fun r_11 _ _ hq => ?_)
          refine j_if_ne 130 132 C dX5_readTestNext_127 rfl rfl (fun c_12 => ?_) (fun c_12 => ?_)
          · replace hq := hq.1 c_12
            refine j_aload_n 133 C dX5_readTestNext_132 rfl 0 rfl ?_
            refine j_get 136 C uX5 0 rfl rfl 18 (Nat.le_of_ble_eq_true rfl) lX5_43 (v := .ref (h 12)) rfl dX5_readTestNext_133 rfl ?_
            refine j_iload_n 137 C dX5_readTestNext_136 rfl 2 rfl ?_
            refine j_iload 139 C dX5_readTestNext_137 rfl 4 rfl ?_
            refine j_iadd 140 C dX5_readTestNext_139 rfl ?_
            refine j_aload_n 141 C dX5_readTestNext_140 rfl 0 rfl ?_
            refine j_get 144 C uX5 0 rfl rfl 4 (Nat.le_of_ble_eq_true rfl) lX5_16 (v := .ref (h 3)) rfl dX5_readTestNext_141 rfl ?_
            refine j_aload_n 145 C dX5_readTestNext_144 rfl 0 rfl ?_
            refine j_get 148 C uX5 0 rfl rfl 14 (Nat.le_of_ble_eq_true rfl) lX5_81 (v := .int (v 4)) rfl dX5_readTestNext_145 rfl ?_
            obtain ⟨hi_13, hq⟩ := hq
            refine j_iald 149 C 3 (f := (f 2)) rfl hi_13 dX5_readTestNext_148 rfl ?_
            refine j_bipush 151 C dX5_readTestNext_149 rfl bc_48 ?_
            refine j_isub 152 C dX5_readTestNext_151 rfl ?_
            obtain ⟨hi_14, hq⟩ := hq
            obtain ⟨f_15, ef_15⟩ : ∃ y : FF, y = fu f 11 (wr (f 11) (x2 + x4) (((f 2) ((v 4)).toNatClampNeg) - (48 : Int32))) := ⟨_, rfl⟩
            replace hq := hq f_15 ef_15
            refine j_iast 153 C 12 rfl hi_14 dX5_readTestNext_152 rfl (ws' := (wE G h f_15 v)) (by subst ef_15; rfl) ?_
            refine j_aload_n 154 C dX5_readTestNext_153 rfl 0 rfl ?_
            refine j_dup 155 C dX5_readTestNext_154 rfl rfl ?_
            refine j_get 158 C uX5 0 rfl rfl 14 (Nat.le_of_ble_eq_true rfl) lX5_81 (v := .int (v 4)) rfl dX5_readTestNext_155 rfl ?_
            refine j_iconst 159 C dX5_readTestNext_158 rfl ic_1 ?_
            refine j_iadd 160 C dX5_readTestNext_159 rfl ?_
            obtain ⟨v_16, ev_16⟩ : ∃ y : VV, y = fu v 4 ((v 4) + (1 : Int32)) := ⟨_, rfl⟩
            replace hq := hq v_16 ev_16
            refine j_put 163 C uX5 tyX5 tyX5_ok nmX5 0 rfl rfl 14 (Nat.le_of_ble_eq_true rfl) lX5_81 rfl rfl (Nat.le_of_ble_eq_true rfl) dX5_readTestNext_160 rfl (ws' := (wE G h f_15 v_16)) (by subst ev_16; rfl) ?_
            obtain ⟨x_17, ex_17⟩ : ∃ y : Int32, y = (x4 + (1 : Int32)) := ⟨_, rfl⟩
            replace hq := hq x_17 ex_17
            refine j_iinc 166 C dX5_readTestNext_163 rfl 4 rfl (v := x_17) (by rw [ex_17]; rfl) (Nat.le_of_ble_eq_true rfl) [1, 2, 3, 4, 0] (lv' := [(0, .ref (h 0)), (1, .int x1), (2, .int x2), (3, .int x3), (4, .int x_17)]) rfl ?_
            refine j_goto 86 C dX5_readTestNext_166 rfl ?_
            refine J.l0 [0, 1, 2, 3, 4] rfl ?_
            exact ih _ _ _ hq
          · replace hq := hq.2 c_12
            refine J.l0 [0, 1, 2, 3, 4] rfl ?_
            exact hK130 _ _ _ hq
        · replace hq := hq.2 c_10
          refine j_bipush 117 C dX5_readTestNext_115 rfl bc_49 ?_
          refine j_goto 122 C dX5_readTestNext_117 rfl ?_
          refine j_bipush 124 C dX5_readTestNext_122 rfl bc_57 ?_
          refine j_callSi 127 C [] (wE G h f v) (fun _ _ => (wE G h f v)) (As := [.int ((f 2) ((v 4)).toNatClampNeg), .int (49 : Int32), .int (57 : Int32)]) (m_X5_within G ((f 2) ((v 4)).toNatClampNeg) (49 : Int32) (57 : Int32) hq) oX5_within kX5_67 ⟨rfl, rfl⟩ eX5_within ⟨Nat.le_of_ble_eq_true rfl, Nat.le_of_ble_eq_true rfl⟩ ⟨Nat.zero_le _, Nat.zero_le _⟩ rfl (fun _ _ => rfl) (fun _ _ => rfl) rfl (Nat.le_of_ble_eq_true rfl) dX5_readTestNext_124 rfl (fun r_18 _ _ hq => ?_)
          refine j_if_ne 130 132 C dX5_readTestNext_127 rfl rfl (fun c_19 => ?_) (fun c_19 => ?_)
          · replace hq := hq.1 c_19
            refine j_aload_n 133 C dX5_readTestNext_132 rfl 0 rfl ?_
            refine j_get 136 C uX5 0 rfl rfl 18 (Nat.le_of_ble_eq_true rfl) lX5_43 (v := .ref (h 12)) rfl dX5_readTestNext_133 rfl ?_
            refine j_iload_n 137 C dX5_readTestNext_136 rfl 2 rfl ?_
            refine j_iload 139 C dX5_readTestNext_137 rfl 4 rfl ?_
            refine j_iadd 140 C dX5_readTestNext_139 rfl ?_
            refine j_aload_n 141 C dX5_readTestNext_140 rfl 0 rfl ?_
            refine j_get 144 C uX5 0 rfl rfl 4 (Nat.le_of_ble_eq_true rfl) lX5_16 (v := .ref (h 3)) rfl dX5_readTestNext_141 rfl ?_
            refine j_aload_n 145 C dX5_readTestNext_144 rfl 0 rfl ?_
            refine j_get 148 C uX5 0 rfl rfl 14 (Nat.le_of_ble_eq_true rfl) lX5_81 (v := .int (v 4)) rfl dX5_readTestNext_145 rfl ?_
            obtain ⟨hi_20, hq⟩ := hq
            refine j_iald 149 C 3 (f := (f 2)) rfl hi_20 dX5_readTestNext_148 rfl ?_
            refine j_bipush 151 C dX5_readTestNext_149 rfl bc_48 ?_
            refine j_isub 152 C dX5_readTestNext_151 rfl ?_
            obtain ⟨hi_21, hq⟩ := hq
            obtain ⟨f_22, ef_22⟩ : ∃ y : FF, y = fu f 11 (wr (f 11) (x2 + x4) (((f 2) ((v 4)).toNatClampNeg) - (48 : Int32))) := ⟨_, rfl⟩
            replace hq := hq f_22 ef_22
            refine j_iast 153 C 12 rfl hi_21 dX5_readTestNext_152 rfl (ws' := (wE G h f_22 v)) (by subst ef_22; rfl) ?_
            refine j_aload_n 154 C dX5_readTestNext_153 rfl 0 rfl ?_
            refine j_dup 155 C dX5_readTestNext_154 rfl rfl ?_
            refine j_get 158 C uX5 0 rfl rfl 14 (Nat.le_of_ble_eq_true rfl) lX5_81 (v := .int (v 4)) rfl dX5_readTestNext_155 rfl ?_
            refine j_iconst 159 C dX5_readTestNext_158 rfl ic_1 ?_
            refine j_iadd 160 C dX5_readTestNext_159 rfl ?_
            obtain ⟨v_23, ev_23⟩ : ∃ y : VV, y = fu v 4 ((v 4) + (1 : Int32)) := ⟨_, rfl⟩
            replace hq := hq v_23 ev_23
            refine j_put 163 C uX5 tyX5 tyX5_ok nmX5 0 rfl rfl 14 (Nat.le_of_ble_eq_true rfl) lX5_81 rfl rfl (Nat.le_of_ble_eq_true rfl) dX5_readTestNext_160 rfl (ws' := (wE G h f_22 v_23)) (by subst ev_23; rfl) ?_
            obtain ⟨x_24, ex_24⟩ : ∃ y : Int32, y = (x4 + (1 : Int32)) := ⟨_, rfl⟩
            replace hq := hq x_24 ex_24
            refine j_iinc 166 C dX5_readTestNext_163 rfl 4 rfl (v := x_24) (by rw [ex_24]; rfl) (Nat.le_of_ble_eq_true rfl) [1, 2, 3, 4, 0] (lv' := [(0, .ref (h 0)), (1, .int x1), (2, .int x2), (3, .int x3), (4, .int x_24)]) rfl ?_
            refine j_goto 86 C dX5_readTestNext_166 rfl ?_
            refine J.l0 [0, 1, 2, 3, 4] rfl ?_
            exact ih _ _ _ hq
          · replace hq := hq.2 c_19
            refine J.l0 [0, 1, 2, 3, 4] rfl ?_
            exact hK130 _ _ _ hq
def Q_X5_readTestNext (p0 : Int32) (p1 : Int32) (f : FF) (v : VV) (post : Int32 → FF → VV → Prop) : Prop := ((p0 ≤ (v 4) → (vp_in p1 28 ∧ (∀ f_3 : FF, f_3 = fu f 11 (wr (f 11) p1 (-9 : Int32)) → (vp_in p1 28 ∧ (((¬ ((f_3 11) (p1).toNatClampNeg) = (-9 : Int32) → (∀ v_6 : VV, v_6 = fu v 4 ((v 4) + (1 : Int32)) → (∃ n_25 : Nat, Q_X5_readTestNext_L86 p0 p1 (0 : Int32) (fun x_26 f_27 v_28 => (post (0 : Int32) f_27 v_28)) (fun x_29 f_30 v_31 => (post (1 : Int32) f_30 v_31)) n_25 (1 : Int32) f_3 v_6))) ∧ (((f_3 11) (p1).toNatClampNeg) = (-9 : Int32) → (post (0 : Int32) f_3 v)))))))) ∧ (¬ p0 ≤ (v 4) → (vp_in (v 4) 240 ∧ (∀ x_33 : Int32, x_33 = ((f 2) ((v 4)).toNatClampNeg) → (((¬ x_33 = (80 : Int32) → (((¬ x_33 = (83 : Int32) → (((¬ x_33 = (68 : Int32) → (vp_in p1 28 ∧ (∀ f_38 : FF, f_38 = fu f 11 (wr (f 11) p1 (-9 : Int32)) → (vp_in p1 28 ∧ (((¬ ((f_38 11) (p1).toNatClampNeg) = (-9 : Int32) → (∀ v_41 : VV, v_41 = fu v 4 ((v 4) + (1 : Int32)) → (∃ n_42 : Nat, Q_X5_readTestNext_L86 p0 p1 x_33 (fun x_43 f_44 v_45 => (post (0 : Int32) f_44 v_45)) (fun x_46 f_47 v_48 => (post (1 : Int32) f_47 v_48)) n_42 (1 : Int32) f_38 v_41))) ∧ (((f_38 11) (p1).toNatClampNeg) = (-9 : Int32) → (post (0 : Int32) f_38 v)))))))) ∧ (x_33 = (68 : Int32) → (vp_in p1 28 ∧ (∀ f_50 : FF, f_50 = fu f 11 (wr (f 11) p1 (2 : Int32)) → (vp_in p1 28 ∧ (((¬ ((f_50 11) (p1).toNatClampNeg) = (-9 : Int32) → (∀ v_53 : VV, v_53 = fu v 4 ((v 4) + (1 : Int32)) → (∃ n_54 : Nat, Q_X5_readTestNext_L86 p0 p1 x_33 (fun x_55 f_56 v_57 => (post (0 : Int32) f_56 v_57)) (fun x_58 f_59 v_60 => (post (1 : Int32) f_59 v_60)) n_54 (1 : Int32) f_50 v_53))) ∧ (((f_50 11) (p1).toNatClampNeg) = (-9 : Int32) → (post (0 : Int32) f_50 v))))))))))) ∧ (x_33 = (83 : Int32) → (vp_in p1 28 ∧ (∀ f_62 : FF, f_62 = fu f 11 (wr (f 11) p1 (1 : Int32)) → (vp_in p1 28 ∧ (((¬ ((f_62 11) (p1).toNatClampNeg) = (-9 : Int32) → (∀ v_65 : VV, v_65 = fu v 4 ((v 4) + (1 : Int32)) → (∃ n_66 : Nat, Q_X5_readTestNext_L86 p0 p1 x_33 (fun x_67 f_68 v_69 => (post (0 : Int32) f_68 v_69)) (fun x_70 f_71 v_72 => (post (1 : Int32) f_71 v_72)) n_66 (1 : Int32) f_62 v_65))) ∧ (((f_62 11) (p1).toNatClampNeg) = (-9 : Int32) → (post (0 : Int32) f_62 v))))))))))) ∧ (x_33 = (80 : Int32) → (vp_in p1 28 ∧ (∀ f_74 : FF, f_74 = fu f 11 (wr (f 11) p1 (0 : Int32)) → (vp_in p1 28 ∧ (((¬ ((f_74 11) (p1).toNatClampNeg) = (-9 : Int32) → (∀ v_77 : VV, v_77 = fu v 4 ((v 4) + (1 : Int32)) → (∃ n_78 : Nat, Q_X5_readTestNext_L86 p0 p1 x_33 (fun x_79 f_80 v_81 => (post (0 : Int32) f_80 v_81)) (fun x_82 f_83 v_84 => (post (1 : Int32) f_83 v_84)) n_78 (1 : Int32) f_74 v_77))) ∧ (((f_74 11) (p1).toNatClampNeg) = (-9 : Int32) → (post (0 : Int32) f_74 v))))))))))))))
set_option maxRecDepth 100000 in
set_option maxHeartbeats 4000000 in
theorem m_X5_readTestNext {l : Launch} (G : Gx) (h : Nat → Nat) (p0 : Int32) (p1 : Int32) (f : FF) (v : VV) {post : Int32 → FF → VV → Prop} (hq : Q_X5_readTestNext p0 p1 f v post) : MetI l yX5_readTestNext (gC yX5_readTestNext cX5_readTestNext 5 (some .boolean)) rmX5_readTestNext G [.ref (h 0), .int p0, .int p1] (wE G h) f v post := by
  refine met_z (own := RX5) (by decide) rfl (Nat.le_of_ble_eq_true rfl) (fun κ hκ C hR => ?_)
  unfold Q_X5_readTestNext at hq
  subst hκ
  show J κ 0 0 (wE G h f v) 0 [(0, .ref (h 0)), (1, .int p0), (2, .int p1)] []
  refine j_aload_n 1 C dX5_readTestNext_0 rfl 0 rfl ?_
  refine j_get 4 C uX5 0 rfl rfl 14 (Nat.le_of_ble_eq_true rfl) lX5_81 (v := .int (v 4)) rfl dX5_readTestNext_1 rfl ?_
  refine j_iload_n 5 C dX5_readTestNext_4 rfl 1 rfl ?_
  refine j_icmp_ge 8 20 C dX5_readTestNext_5 rfl rfl (fun c_1 => ?_) (fun c_1 => ?_)
  · replace hq := hq.1 c_1
    refine j_iconst 21 C dX5_readTestNext_20 rfl ic_0 ?_
    refine j_istore_n 22 C dX5_readTestNext_21 rfl (Nat.le_of_ble_eq_true rfl) [1, 2, 3, 0] (lv' := [(0, .ref (h 0)), (1, .int p0), (2, .int p1), (3, .int (0 : Int32))]) rfl ?_
    refine j_aload_n 23 C dX5_readTestNext_22 rfl 0 rfl ?_
    refine j_get 26 C uX5 0 rfl rfl 18 (Nat.le_of_ble_eq_true rfl) lX5_43 (v := .ref (h 12)) rfl dX5_readTestNext_23 rfl ?_
    refine j_iload_n 27 C dX5_readTestNext_26 rfl 2 rfl ?_
    refine j_iload_n 28 C dX5_readTestNext_27 rfl 3 rfl ?_
    refine j_bipush 30 C dX5_readTestNext_28 rfl bc_80 ?_
    refine j_icmp_ne 33 37 C dX5_readTestNext_30 rfl rfl (fun _ => ?_) (fun h9 => absurd h9 (by decide))
    refine j_iload_n 38 C dX5_readTestNext_37 rfl 3 rfl ?_
    refine j_bipush 40 C dX5_readTestNext_38 rfl bc_83 ?_
    refine j_icmp_ne 43 47 C dX5_readTestNext_40 rfl rfl (fun _ => ?_) (fun h9 => absurd h9 (by decide))
    refine j_iload_n 48 C dX5_readTestNext_47 rfl 3 rfl ?_
    refine j_bipush 50 C dX5_readTestNext_48 rfl bc_68 ?_
    refine j_icmp_ne 53 57 C dX5_readTestNext_50 rfl rfl (fun _ => ?_) (fun h9 => absurd h9 (by decide))
    refine j_bipush 59 C dX5_readTestNext_57 rfl bc_m9 ?_
    obtain ⟨hi_2, hq⟩ := hq
    obtain ⟨f_3, ef_3⟩ : ∃ y : FF, y = fu f 11 (wr (f 11) p1 (-9 : Int32)) := ⟨_, rfl⟩
    replace hq := hq f_3 ef_3
    refine j_iast 60 C 12 rfl hi_2 dX5_readTestNext_59 rfl (ws' := (wE G h f_3 v)) (by subst ef_3; rfl) ?_
    refine j_aload_n 61 C dX5_readTestNext_60 rfl 0 rfl ?_
    refine j_get 64 C uX5 0 rfl rfl 18 (Nat.le_of_ble_eq_true rfl) lX5_43 (v := .ref (h 12)) rfl dX5_readTestNext_61 rfl ?_
    refine j_iload_n 65 C dX5_readTestNext_64 rfl 2 rfl ?_
    obtain ⟨hi_4, hq⟩ := hq
    refine j_iald 66 C 12 (f := (f_3 11)) rfl hi_4 dX5_readTestNext_65 rfl ?_
    refine j_bipush 68 C dX5_readTestNext_66 rfl bc_m9 ?_
    refine j_icmp_ne 71 73 C dX5_readTestNext_68 rfl rfl (fun c_5 => ?_) (fun c_5 => ?_)
    · replace hq := hq.1 c_5
      refine j_aload_n 74 C dX5_readTestNext_73 rfl 0 rfl ?_
      refine j_dup 75 C dX5_readTestNext_74 rfl rfl ?_
      refine j_get 78 C uX5 0 rfl rfl 14 (Nat.le_of_ble_eq_true rfl) lX5_81 (v := .int (v 4)) rfl dX5_readTestNext_75 rfl ?_
      refine j_iconst 79 C dX5_readTestNext_78 rfl ic_1 ?_
      refine j_iadd 80 C dX5_readTestNext_79 rfl ?_
      obtain ⟨v_6, ev_6⟩ : ∃ y : VV, y = fu v 4 ((v 4) + (1 : Int32)) := ⟨_, rfl⟩
      replace hq := hq v_6 ev_6
      refine j_put 83 C uX5 tyX5 tyX5_ok nmX5 0 rfl rfl 14 (Nat.le_of_ble_eq_true rfl) lX5_81 rfl rfl (Nat.le_of_ble_eq_true rfl) dX5_readTestNext_80 rfl (ws' := (wE G h f_3 v_6)) (by subst ev_6; rfl) ?_
      refine j_iconst 84 C dX5_readTestNext_83 rfl ic_1 ?_
      refine j_istore 86 C dX5_readTestNext_84 rfl (Nat.le_of_ble_eq_true rfl) [1, 2, 3, 4, 0] (lv' := [(0, .ref (h 0)), (1, .int p0), (2, .int p1), (3, .int (0 : Int32)), (4, .int (1 : Int32))]) rfl ?_
      obtain ⟨n_25, hq⟩ := hq
      refine t_X5_readTestNext_L86 C ?_ ?_ n_25 _ _ _ hq
      · intro x_26 f_27 v_28 hq
        refine j_iconst 131 C dX5_readTestNext_130 rfl ic_0 ?_
        exact hR _ _ _ f_27 v_28 dX5_readTestNext_131 (Or.inl rfl) hq
      · intro x_29 f_30 v_31 hq
        refine j_iconst 170 C dX5_readTestNext_169 rfl ic_1 ?_
        exact hR _ _ _ f_30 v_31 dX5_readTestNext_170 (Or.inr rfl) hq
    · replace hq := hq.2 c_5
      refine j_iconst 72 C dX5_readTestNext_71 rfl ic_0 ?_
      exact hR _ _ _ f_3 v dX5_readTestNext_72 (Or.inl rfl) hq
  · replace hq := hq.2 c_1
    refine j_aload_n 9 C dX5_readTestNext_8 rfl 0 rfl ?_
    refine j_get 12 C uX5 0 rfl rfl 4 (Nat.le_of_ble_eq_true rfl) lX5_16 (v := .ref (h 3)) rfl dX5_readTestNext_9 rfl ?_
    refine j_aload_n 13 C dX5_readTestNext_12 rfl 0 rfl ?_
    refine j_get 16 C uX5 0 rfl rfl 14 (Nat.le_of_ble_eq_true rfl) lX5_81 (v := .int (v 4)) rfl dX5_readTestNext_13 rfl ?_
    obtain ⟨hi_32, hq⟩ := hq
    refine j_iald 17 C 3 (f := (f 2)) rfl hi_32 dX5_readTestNext_16 rfl ?_
    refine j_goto 21 C dX5_readTestNext_17 rfl ?_
    refine J.topi (fun x_33 ex_33 => ?_)
    replace hq := hq x_33 ex_33
    refine j_istore_n 22 C dX5_readTestNext_21 rfl (Nat.le_of_ble_eq_true rfl) [1, 2, 3, 0] (lv' := [(0, .ref (h 0)), (1, .int p0), (2, .int p1), (3, .int x_33)]) rfl ?_
    refine j_aload_n 23 C dX5_readTestNext_22 rfl 0 rfl ?_
    refine j_get 26 C uX5 0 rfl rfl 18 (Nat.le_of_ble_eq_true rfl) lX5_43 (v := .ref (h 12)) rfl dX5_readTestNext_23 rfl ?_
    refine j_iload_n 27 C dX5_readTestNext_26 rfl 2 rfl ?_
    refine j_iload_n 28 C dX5_readTestNext_27 rfl 3 rfl ?_
    refine j_bipush 30 C dX5_readTestNext_28 rfl bc_80 ?_
    refine j_icmp_ne 33 37 C dX5_readTestNext_30 rfl rfl (fun c_34 => ?_) (fun c_34 => ?_)
    · replace hq := hq.1 c_34
      refine j_iload_n 38 C dX5_readTestNext_37 rfl 3 rfl ?_
      refine j_bipush 40 C dX5_readTestNext_38 rfl bc_83 ?_
      refine j_icmp_ne 43 47 C dX5_readTestNext_40 rfl rfl (fun c_35 => ?_) (fun c_35 => ?_)
      · replace hq := hq.1 c_35
        refine j_iload_n 48 C dX5_readTestNext_47 rfl 3 rfl ?_
        refine j_bipush 50 C dX5_readTestNext_48 rfl bc_68 ?_
        refine j_icmp_ne 53 57 C dX5_readTestNext_50 rfl rfl (fun c_36 => ?_) (fun c_36 => ?_)
        · replace hq := hq.1 c_36
          refine j_bipush 59 C dX5_readTestNext_57 rfl bc_m9 ?_
          obtain ⟨hi_37, hq⟩ := hq
          obtain ⟨f_38, ef_38⟩ : ∃ y : FF, y = fu f 11 (wr (f 11) p1 (-9 : Int32)) := ⟨_, rfl⟩
          replace hq := hq f_38 ef_38
          refine j_iast 60 C 12 rfl hi_37 dX5_readTestNext_59 rfl (ws' := (wE G h f_38 v)) (by subst ef_38; rfl) ?_
          refine j_aload_n 61 C dX5_readTestNext_60 rfl 0 rfl ?_
          refine j_get 64 C uX5 0 rfl rfl 18 (Nat.le_of_ble_eq_true rfl) lX5_43 (v := .ref (h 12)) rfl dX5_readTestNext_61 rfl ?_
          refine j_iload_n 65 C dX5_readTestNext_64 rfl 2 rfl ?_
          obtain ⟨hi_39, hq⟩ := hq
          refine j_iald 66 C 12 (f := (f_38 11)) rfl hi_39 dX5_readTestNext_65 rfl ?_
          refine j_bipush 68 C dX5_readTestNext_66 rfl bc_m9 ?_
          refine j_icmp_ne 71 73 C dX5_readTestNext_68 rfl rfl (fun c_40 => ?_) (fun c_40 => ?_)
          · replace hq := hq.1 c_40
            refine j_aload_n 74 C dX5_readTestNext_73 rfl 0 rfl ?_
            refine j_dup 75 C dX5_readTestNext_74 rfl rfl ?_
            refine j_get 78 C uX5 0 rfl rfl 14 (Nat.le_of_ble_eq_true rfl) lX5_81 (v := .int (v 4)) rfl dX5_readTestNext_75 rfl ?_
            refine j_iconst 79 C dX5_readTestNext_78 rfl ic_1 ?_
            refine j_iadd 80 C dX5_readTestNext_79 rfl ?_
            obtain ⟨v_41, ev_41⟩ : ∃ y : VV, y = fu v 4 ((v 4) + (1 : Int32)) := ⟨_, rfl⟩
            replace hq := hq v_41 ev_41
            refine j_put 83 C uX5 tyX5 tyX5_ok nmX5 0 rfl rfl 14 (Nat.le_of_ble_eq_true rfl) lX5_81 rfl rfl (Nat.le_of_ble_eq_true rfl) dX5_readTestNext_80 rfl (ws' := (wE G h f_38 v_41)) (by subst ev_41; rfl) ?_
            refine j_iconst 84 C dX5_readTestNext_83 rfl ic_1 ?_
            refine j_istore 86 C dX5_readTestNext_84 rfl (Nat.le_of_ble_eq_true rfl) [1, 2, 3, 4, 0] (lv' := [(0, .ref (h 0)), (1, .int p0), (2, .int p1), (3, .int x_33), (4, .int (1 : Int32))]) rfl ?_
            obtain ⟨n_42, hq⟩ := hq
            refine t_X5_readTestNext_L86 C ?_ ?_ n_42 _ _ _ hq
            · intro x_43 f_44 v_45 hq
              refine j_iconst 131 C dX5_readTestNext_130 rfl ic_0 ?_
              exact hR _ _ _ f_44 v_45 dX5_readTestNext_131 (Or.inl rfl) hq
            · intro x_46 f_47 v_48 hq
              refine j_iconst 170 C dX5_readTestNext_169 rfl ic_1 ?_
              exact hR _ _ _ f_47 v_48 dX5_readTestNext_170 (Or.inr rfl) hq
          · replace hq := hq.2 c_40
            refine j_iconst 72 C dX5_readTestNext_71 rfl ic_0 ?_
            exact hR _ _ _ f_38 v dX5_readTestNext_72 (Or.inl rfl) hq
        · replace hq := hq.2 c_36
          refine j_iconst 54 C dX5_readTestNext_53 rfl ic_2 ?_
          refine j_goto 59 C dX5_readTestNext_54 rfl ?_
          obtain ⟨hi_49, hq⟩ := hq
          obtain ⟨f_50, ef_50⟩ : ∃ y : FF, y = fu f 11 (wr (f 11) p1 (2 : Int32)) := ⟨_, rfl⟩
          replace hq := hq f_50 ef_50
          refine j_iast 60 C 12 rfl hi_49 dX5_readTestNext_59 rfl (ws' := (wE G h f_50 v)) (by subst ef_50; rfl) ?_
          refine j_aload_n 61 C dX5_readTestNext_60 rfl 0 rfl ?_
          refine j_get 64 C uX5 0 rfl rfl 18 (Nat.le_of_ble_eq_true rfl) lX5_43 (v := .ref (h 12)) rfl dX5_readTestNext_61 rfl ?_
          refine j_iload_n 65 C dX5_readTestNext_64 rfl 2 rfl ?_
          obtain ⟨hi_51, hq⟩ := hq
          refine j_iald 66 C 12 (f := (f_50 11)) rfl hi_51 dX5_readTestNext_65 rfl ?_
          refine j_bipush 68 C dX5_readTestNext_66 rfl bc_m9 ?_
          refine j_icmp_ne 71 73 C dX5_readTestNext_68 rfl rfl (fun c_52 => ?_) (fun c_52 => ?_)
          · replace hq := hq.1 c_52
            refine j_aload_n 74 C dX5_readTestNext_73 rfl 0 rfl ?_
            refine j_dup 75 C dX5_readTestNext_74 rfl rfl ?_
            refine j_get 78 C uX5 0 rfl rfl 14 (Nat.le_of_ble_eq_true rfl) lX5_81 (v := .int (v 4)) rfl dX5_readTestNext_75 rfl ?_
            refine j_iconst 79 C dX5_readTestNext_78 rfl ic_1 ?_
            refine j_iadd 80 C dX5_readTestNext_79 rfl ?_
            obtain ⟨v_53, ev_53⟩ : ∃ y : VV, y = fu v 4 ((v 4) + (1 : Int32)) := ⟨_, rfl⟩
            replace hq := hq v_53 ev_53
            refine j_put 83 C uX5 tyX5 tyX5_ok nmX5 0 rfl rfl 14 (Nat.le_of_ble_eq_true rfl) lX5_81 rfl rfl (Nat.le_of_ble_eq_true rfl) dX5_readTestNext_80 rfl (ws' := (wE G h f_50 v_53)) (by subst ev_53; rfl) ?_
            refine j_iconst 84 C dX5_readTestNext_83 rfl ic_1 ?_
            refine j_istore 86 C dX5_readTestNext_84 rfl (Nat.le_of_ble_eq_true rfl) [1, 2, 3, 4, 0] (lv' := [(0, .ref (h 0)), (1, .int p0), (2, .int p1), (3, .int x_33), (4, .int (1 : Int32))]) rfl ?_
            obtain ⟨n_54, hq⟩ := hq
            refine t_X5_readTestNext_L86 C ?_ ?_ n_54 _ _ _ hq
            · intro x_55 f_56 v_57 hq
              refine j_iconst 131 C dX5_readTestNext_130 rfl ic_0 ?_
              exact hR _ _ _ f_56 v_57 dX5_readTestNext_131 (Or.inl rfl) hq
            · intro x_58 f_59 v_60 hq
              refine j_iconst 170 C dX5_readTestNext_169 rfl ic_1 ?_
              exact hR _ _ _ f_59 v_60 dX5_readTestNext_170 (Or.inr rfl) hq
          · replace hq := hq.2 c_52
            refine j_iconst 72 C dX5_readTestNext_71 rfl ic_0 ?_
            exact hR _ _ _ f_50 v dX5_readTestNext_72 (Or.inl rfl) hq
      · replace hq := hq.2 c_35
        refine j_iconst 44 C dX5_readTestNext_43 rfl ic_1 ?_
        refine j_goto 59 C dX5_readTestNext_44 rfl ?_
        obtain ⟨hi_61, hq⟩ := hq
        obtain ⟨f_62, ef_62⟩ : ∃ y : FF, y = fu f 11 (wr (f 11) p1 (1 : Int32)) := ⟨_, rfl⟩
        replace hq := hq f_62 ef_62
        refine j_iast 60 C 12 rfl hi_61 dX5_readTestNext_59 rfl (ws' := (wE G h f_62 v)) (by subst ef_62; rfl) ?_
        refine j_aload_n 61 C dX5_readTestNext_60 rfl 0 rfl ?_
        refine j_get 64 C uX5 0 rfl rfl 18 (Nat.le_of_ble_eq_true rfl) lX5_43 (v := .ref (h 12)) rfl dX5_readTestNext_61 rfl ?_
        refine j_iload_n 65 C dX5_readTestNext_64 rfl 2 rfl ?_
        obtain ⟨hi_63, hq⟩ := hq
        refine j_iald 66 C 12 (f := (f_62 11)) rfl hi_63 dX5_readTestNext_65 rfl ?_
        refine j_bipush 68 C dX5_readTestNext_66 rfl bc_m9 ?_
        refine j_icmp_ne 71 73 C dX5_readTestNext_68 rfl rfl (fun c_64 => ?_) (fun c_64 => ?_)
        · replace hq := hq.1 c_64
          refine j_aload_n 74 C dX5_readTestNext_73 rfl 0 rfl ?_
          refine j_dup 75 C dX5_readTestNext_74 rfl rfl ?_
          refine j_get 78 C uX5 0 rfl rfl 14 (Nat.le_of_ble_eq_true rfl) lX5_81 (v := .int (v 4)) rfl dX5_readTestNext_75 rfl ?_
          refine j_iconst 79 C dX5_readTestNext_78 rfl ic_1 ?_
          refine j_iadd 80 C dX5_readTestNext_79 rfl ?_
          obtain ⟨v_65, ev_65⟩ : ∃ y : VV, y = fu v 4 ((v 4) + (1 : Int32)) := ⟨_, rfl⟩
          replace hq := hq v_65 ev_65
          refine j_put 83 C uX5 tyX5 tyX5_ok nmX5 0 rfl rfl 14 (Nat.le_of_ble_eq_true rfl) lX5_81 rfl rfl (Nat.le_of_ble_eq_true rfl) dX5_readTestNext_80 rfl (ws' := (wE G h f_62 v_65)) (by subst ev_65; rfl) ?_
          refine j_iconst 84 C dX5_readTestNext_83 rfl ic_1 ?_
          refine j_istore 86 C dX5_readTestNext_84 rfl (Nat.le_of_ble_eq_true rfl) [1, 2, 3, 4, 0] (lv' := [(0, .ref (h 0)), (1, .int p0), (2, .int p1), (3, .int x_33), (4, .int (1 : Int32))]) rfl ?_
          obtain ⟨n_66, hq⟩ := hq
          refine t_X5_readTestNext_L86 C ?_ ?_ n_66 _ _ _ hq
          · intro x_67 f_68 v_69 hq
            refine j_iconst 131 C dX5_readTestNext_130 rfl ic_0 ?_
            exact hR _ _ _ f_68 v_69 dX5_readTestNext_131 (Or.inl rfl) hq
          · intro x_70 f_71 v_72 hq
            refine j_iconst 170 C dX5_readTestNext_169 rfl ic_1 ?_
            exact hR _ _ _ f_71 v_72 dX5_readTestNext_170 (Or.inr rfl) hq
        · replace hq := hq.2 c_64
          refine j_iconst 72 C dX5_readTestNext_71 rfl ic_0 ?_
          exact hR _ _ _ f_62 v dX5_readTestNext_72 (Or.inl rfl) hq
    · replace hq := hq.2 c_34
      refine j_iconst 34 C dX5_readTestNext_33 rfl ic_0 ?_
      refine j_goto 59 C dX5_readTestNext_34 rfl ?_
      obtain ⟨hi_73, hq⟩ := hq
      obtain ⟨f_74, ef_74⟩ : ∃ y : FF, y = fu f 11 (wr (f 11) p1 (0 : Int32)) := ⟨_, rfl⟩
      replace hq := hq f_74 ef_74
      refine j_iast 60 C 12 rfl hi_73 dX5_readTestNext_59 rfl (ws' := (wE G h f_74 v)) (by subst ef_74; rfl) ?_
      refine j_aload_n 61 C dX5_readTestNext_60 rfl 0 rfl ?_
      refine j_get 64 C uX5 0 rfl rfl 18 (Nat.le_of_ble_eq_true rfl) lX5_43 (v := .ref (h 12)) rfl dX5_readTestNext_61 rfl ?_
      refine j_iload_n 65 C dX5_readTestNext_64 rfl 2 rfl ?_
      obtain ⟨hi_75, hq⟩ := hq
      refine j_iald 66 C 12 (f := (f_74 11)) rfl hi_75 dX5_readTestNext_65 rfl ?_
      refine j_bipush 68 C dX5_readTestNext_66 rfl bc_m9 ?_
      refine j_icmp_ne 71 73 C dX5_readTestNext_68 rfl rfl (fun c_76 => ?_) (fun c_76 => ?_)
      · replace hq := hq.1 c_76
        refine j_aload_n 74 C dX5_readTestNext_73 rfl 0 rfl ?_
        refine j_dup 75 C dX5_readTestNext_74 rfl rfl ?_
        refine j_get 78 C uX5 0 rfl rfl 14 (Nat.le_of_ble_eq_true rfl) lX5_81 (v := .int (v 4)) rfl dX5_readTestNext_75 rfl ?_
        refine j_iconst 79 C dX5_readTestNext_78 rfl ic_1 ?_
        refine j_iadd 80 C dX5_readTestNext_79 rfl ?_
        obtain ⟨v_77, ev_77⟩ : ∃ y : VV, y = fu v 4 ((v 4) + (1 : Int32)) := ⟨_, rfl⟩
        replace hq := hq v_77 ev_77
        refine j_put 83 C uX5 tyX5 tyX5_ok nmX5 0 rfl rfl 14 (Nat.le_of_ble_eq_true rfl) lX5_81 rfl rfl (Nat.le_of_ble_eq_true rfl) dX5_readTestNext_80 rfl (ws' := (wE G h f_74 v_77)) (by subst ev_77; rfl) ?_
        refine j_iconst 84 C dX5_readTestNext_83 rfl ic_1 ?_
        refine j_istore 86 C dX5_readTestNext_84 rfl (Nat.le_of_ble_eq_true rfl) [1, 2, 3, 4, 0] (lv' := [(0, .ref (h 0)), (1, .int p0), (2, .int p1), (3, .int x_33), (4, .int (1 : Int32))]) rfl ?_
        obtain ⟨n_78, hq⟩ := hq
        refine t_X5_readTestNext_L86 C ?_ ?_ n_78 _ _ _ hq
        · intro x_79 f_80 v_81 hq
          refine j_iconst 131 C dX5_readTestNext_130 rfl ic_0 ?_
          exact hR _ _ _ f_80 v_81 dX5_readTestNext_131 (Or.inl rfl) hq
        · intro x_82 f_83 v_84 hq
          refine j_iconst 170 C dX5_readTestNext_169 rfl ic_1 ?_
          exact hR _ _ _ f_83 v_84 dX5_readTestNext_170 (Or.inr rfl) hq
      · replace hq := hq.2 c_76
        refine j_iconst 72 C dX5_readTestNext_71 rfl ic_0 ?_
        exact hR _ _ _ f_74 v dX5_readTestNext_72 (Or.inl rfl) hq
def Q_X5_readAll_L22 (x1 : Int32) (K83 : FF → VV → Prop) (K98 : FF → VV → Prop) : Nat → FF → VV → Prop
  | 0, _, _ => False
  | n + 1, f, v => (((v 5) = 0 → (Q_X5_isSign x1 (59 : Int32) f v (fun r_8 f_9 v_10 => (((r_8 = 0 → (K83 f_9 v_10)) ∧ (¬ r_8 = 0 → (Q_X5_readStepNext x1 ((3 : Int32) * (v_10 5)) f_9 v_10 (fun r_12 f_13 v_14 => (((¬ r_12 = 0 → (∀ v_16 : VV, v_16 = fu v_14 5 ((v_14 5) + (1 : Int32)) → (Q_X5_readAll_L22 x1 K83 K98 n f_13 v_16))) ∧ (r_12 = 0 → (K83 f_13 v_14)))))))))))) ∧ (¬ (v 5) = 0 → ((((5 : Int32) ≤ (v 5) → (K98 f v)) ∧ (¬ (5 : Int32) ≤ (v 5) → (((x1 ≤ (v 4) → (K98 f v)) ∧ (¬ x1 ≤ (v 4) → (vp_in (v 4) 240 ∧ (((¬ ((f 2) ((v 4)).toNatClampNeg) = (59 : Int32) → (K98 f v)) ∧ (((f 2) ((v 4)).toNatClampNeg) = (59 : Int32) → (Q_X5_isSign x1 (59 : Int32) f v (fun r_21 f_22 v_23 => (((r_21 = 0 → (K83 f_22 v_23)) ∧ (¬ r_21 = 0 → (Q_X5_readStepNext x1 ((3 : Int32) * (v_23 5)) f_22 v_23 (fun r_25 f_26 v_27 => (((¬ r_25 = 0 → (∀ v_29 : VV, v_29 = fu v_27 5 ((v_27 5) + (1 : Int32)) → (Q_X5_readAll_L22 x1 K83 K98 n f_26 v_29))) ∧ (r_25 = 0 → (K83 f_26 v_27)))))))))))))))))))))))
set_option maxRecDepth 100000 in
set_option maxHeartbeats 4000000 in
theorem t_X5_readAll_L22 {κ : Kx} {G : Gx} {h : Nat → Nat} (C : Cx κ G RX5 cX5_readAll rmX5_readAll 2) {x1 : Int32} {K83 : FF → VV → Prop} {K98 : FF → VV → Prop} (hK83 : ∀ (f : FF) (v : VV), K83 f v → J κ 0 0 (wE G h f v) 83 [(0, .ref (h 0)), (1, .int x1)] []) (hK98 : ∀ (f : FF) (v : VV), K98 f v → J κ 0 0 (wE G h f v) 98 [(0, .ref (h 0)), (1, .int x1)] []) : ∀ (n : Nat) (f : FF) (v : VV), Q_X5_readAll_L22 x1 K83 K98 n f v → J κ 0 0 (wE G h f v) 22 [(0, .ref (h 0)), (1, .int x1)] [] := by
  intro n
  induction n with
  | zero => intro f v hq; exact False.elim hq
  | succ n ih =>
    intro f v hq
    rw [Q_X5_readAll_L22] at hq
    refine j_aload_n 23 C dX5_readAll_22 rfl 0 rfl ?_
    refine j_get 26 C uX5 0 rfl rfl 15 (Nat.le_of_ble_eq_true rfl) lX5_102 (v := .int (v 5)) rfl dX5_readAll_23 rfl ?_
    refine j_if_eq 29 59 C dX5_readAll_26 rfl rfl (fun c_7 => ?_) (fun c_7 => ?_)
    · replace hq := hq.1 c_7
      refine j_aload_n 60 C dX5_readAll_59 rfl 0 rfl ?_
      refine j_iload_n 61 C dX5_readAll_60 rfl 1 rfl ?_
      refine j_bipush 63 C dX5_readAll_61 rfl bc_59 ?_
      refine j_callVi 66 C [] [] (fun f' v' => (wE G h f' v')) (As := [.int x1, .int (59 : Int32)]) (m_X5_isSign G h x1 (59 : Int32) f v hq) oX5_isSign kX5_111 ⟨rfl, rfl⟩ eX5_isSign ⟨Nat.le_of_ble_eq_true rfl, Nat.le_of_ble_eq_true rfl⟩ ⟨Nat.zero_le _, Nat.zero_le _⟩ (List.append_nil _).symm (fun _ _ => List.append_nil _) (fun _ _ => rfl) 0 rfl rfl rfl (Nat.le_of_ble_eq_true rfl) dX5_readAll_63 rfl (fun r_8 f_9 v_10 hq => ?_)
      refine j_if_eq 69 83 C dX5_readAll_66 rfl rfl (fun c_11 => ?_) (fun c_11 => ?_)
      · replace hq := hq.1 c_11
        refine J.l0 [0, 1] rfl ?_
        exact hK83 _ _ hq
      · replace hq := hq.2 c_11
        refine j_aload_n 70 C dX5_readAll_69 rfl 0 rfl ?_
        refine j_iload_n 71 C dX5_readAll_70 rfl 1 rfl ?_
        refine j_iconst 72 C dX5_readAll_71 rfl ic_3 ?_
        refine j_aload_n 73 C dX5_readAll_72 rfl 0 rfl ?_
        refine j_get 76 C uX5 0 rfl rfl 15 (Nat.le_of_ble_eq_true rfl) lX5_102 (v := .int (v_10 5)) rfl dX5_readAll_73 rfl ?_
        refine j_imul 77 C dX5_readAll_76 rfl ?_
        refine j_callVi 80 C [] [] (fun f' v' => (wE G h f' v')) (As := [.int x1, .int ((3 : Int32) * (v_10 5))]) (m_X5_readStepNext G h x1 ((3 : Int32) * (v_10 5)) f_9 v_10 hq) oX5_readStepNext kX5_115 ⟨rfl, rfl⟩ eX5_readStepNext ⟨Nat.le_of_ble_eq_true rfl, Nat.le_of_ble_eq_true rfl⟩ ⟨Nat.zero_le _, Nat.zero_le _⟩ (List.append_nil _).symm (fun _ _ => List.append_nil _) (fun _ _ => rfl) 0 rfl rfl rfl (Nat.le_of_ble_eq_true rfl) dX5_readAll_77 rfl (fun r_12 f_13 v_14 hq => ?_)
        refine j_if_ne 83 85 C dX5_readAll_80 rfl rfl (fun c_15 => ?_) (fun c_15 => ?_)
        · replace hq := hq.1 c_15
          refine j_aload_n 86 C dX5_readAll_85 rfl 0 rfl ?_
          refine j_dup 87 C dX5_readAll_86 rfl rfl ?_
          refine j_get 90 C uX5 0 rfl rfl 15 (Nat.le_of_ble_eq_true rfl) lX5_102 (v := .int (v_14 5)) rfl dX5_readAll_87 rfl ?_
          refine j_iconst 91 C dX5_readAll_90 rfl ic_1 ?_
          refine j_iadd 92 C dX5_readAll_91 rfl ?_
          obtain ⟨v_16, ev_16⟩ : ∃ y : VV, y = fu v_14 5 ((v_14 5) + (1 : Int32)) := ⟨_, rfl⟩
          replace hq := hq v_16 ev_16
          refine j_put 95 C uX5 tyX5 tyX5_ok nmX5 0 rfl rfl 15 (Nat.le_of_ble_eq_true rfl) lX5_102 rfl rfl (Nat.le_of_ble_eq_true rfl) dX5_readAll_92 rfl (ws' := (wE G h f_13 v_16)) (by subst ev_16; rfl) ?_
          refine j_goto 22 C dX5_readAll_95 rfl ?_
          refine J.l0 [0, 1] rfl ?_
          exact ih _ _ hq
        · replace hq := hq.2 c_15
          refine J.l0 [0, 1] rfl ?_
          exact hK83 _ _ hq
    · replace hq := hq.2 c_7
      refine j_aload_n 30 C dX5_readAll_29 rfl 0 rfl ?_
      refine j_get 33 C uX5 0 rfl rfl 15 (Nat.le_of_ble_eq_true rfl) lX5_102 (v := .int (v 5)) rfl dX5_readAll_30 rfl ?_
      refine j_iconst 34 C dX5_readAll_33 rfl ic_5 ?_
      refine j_icmp_ge 37 98 C dX5_readAll_34 rfl rfl (fun c_17 => ?_) (fun c_17 => ?_)
      · replace hq := hq.1 c_17
        refine J.l0 [0, 1] rfl ?_
        exact hK98 _ _ hq
      · replace hq := hq.2 c_17
        refine j_aload_n 38 C dX5_readAll_37 rfl 0 rfl ?_
        refine j_get 41 C uX5 0 rfl rfl 14 (Nat.le_of_ble_eq_true rfl) lX5_81 (v := .int (v 4)) rfl dX5_readAll_38 rfl ?_
        refine j_iload_n 42 C dX5_readAll_41 rfl 1 rfl ?_
        refine j_icmp_ge 45 98 C dX5_readAll_42 rfl rfl (fun c_18 => ?_) (fun c_18 => ?_)
        · replace hq := hq.1 c_18
          refine J.l0 [0, 1] rfl ?_
          exact hK98 _ _ hq
        · replace hq := hq.2 c_18
          refine j_aload_n 46 C dX5_readAll_45 rfl 0 rfl ?_
          refine j_get 49 C uX5 0 rfl rfl 4 (Nat.le_of_ble_eq_true rfl) lX5_16 (v := .ref (h 3)) rfl dX5_readAll_46 rfl ?_
          refine j_aload_n 50 C dX5_readAll_49 rfl 0 rfl ?_
          refine j_get 53 C uX5 0 rfl rfl 14 (Nat.le_of_ble_eq_true rfl) lX5_81 (v := .int (v 4)) rfl dX5_readAll_50 rfl ?_
          obtain ⟨hi_19, hq⟩ := hq
          refine j_iald 54 C 3 (f := (f 2)) rfl hi_19 dX5_readAll_53 rfl ?_
          refine j_bipush 56 C dX5_readAll_54 rfl bc_59 ?_
          refine j_icmp_ne 59 98 C dX5_readAll_56 rfl rfl (fun c_20 => ?_) (fun c_20 => ?_)
          · replace hq := hq.1 c_20
            refine J.l0 [0, 1] rfl ?_
            exact hK98 _ _ hq
          · replace hq := hq.2 c_20
            refine j_aload_n 60 C dX5_readAll_59 rfl 0 rfl ?_
            refine j_iload_n 61 C dX5_readAll_60 rfl 1 rfl ?_
            refine j_bipush 63 C dX5_readAll_61 rfl bc_59 ?_
            refine j_callVi 66 C [] [] (fun f' v' => (wE G h f' v')) (As := [.int x1, .int (59 : Int32)]) (m_X5_isSign G h x1 (59 : Int32) f v hq) oX5_isSign kX5_111 ⟨rfl, rfl⟩ eX5_isSign ⟨Nat.le_of_ble_eq_true rfl, Nat.le_of_ble_eq_true rfl⟩ ⟨Nat.zero_le _, Nat.zero_le _⟩ (List.append_nil _).symm (fun _ _ => List.append_nil _) (fun _ _ => rfl) 0 rfl rfl rfl (Nat.le_of_ble_eq_true rfl) dX5_readAll_63 rfl (fun r_21 f_22 v_23 hq => ?_)
            refine j_if_eq 69 83 C dX5_readAll_66 rfl rfl (fun c_24 => ?_) (fun c_24 => ?_)
            · replace hq := hq.1 c_24
              refine J.l0 [0, 1] rfl ?_
              exact hK83 _ _ hq
            · replace hq := hq.2 c_24
              refine j_aload_n 70 C dX5_readAll_69 rfl 0 rfl ?_
              refine j_iload_n 71 C dX5_readAll_70 rfl 1 rfl ?_
              refine j_iconst 72 C dX5_readAll_71 rfl ic_3 ?_
              refine j_aload_n 73 C dX5_readAll_72 rfl 0 rfl ?_
              refine j_get 76 C uX5 0 rfl rfl 15 (Nat.le_of_ble_eq_true rfl) lX5_102 (v := .int (v_23 5)) rfl dX5_readAll_73 rfl ?_
              refine j_imul 77 C dX5_readAll_76 rfl ?_
              refine j_callVi 80 C [] [] (fun f' v' => (wE G h f' v')) (As := [.int x1, .int ((3 : Int32) * (v_23 5))]) (m_X5_readStepNext G h x1 ((3 : Int32) * (v_23 5)) f_22 v_23 hq) oX5_readStepNext kX5_115 ⟨rfl, rfl⟩ eX5_readStepNext ⟨Nat.le_of_ble_eq_true rfl, Nat.le_of_ble_eq_true rfl⟩ ⟨Nat.zero_le _, Nat.zero_le _⟩ (List.append_nil _).symm (fun _ _ => List.append_nil _) (fun _ _ => rfl) 0 rfl rfl rfl (Nat.le_of_ble_eq_true rfl) dX5_readAll_77 rfl (fun r_25 f_26 v_27 hq => ?_)
              refine j_if_ne 83 85 C dX5_readAll_80 rfl rfl (fun c_28 => ?_) (fun c_28 => ?_)
              · replace hq := hq.1 c_28
                refine j_aload_n 86 C dX5_readAll_85 rfl 0 rfl ?_
                refine j_dup 87 C dX5_readAll_86 rfl rfl ?_
                refine j_get 90 C uX5 0 rfl rfl 15 (Nat.le_of_ble_eq_true rfl) lX5_102 (v := .int (v_27 5)) rfl dX5_readAll_87 rfl ?_
                refine j_iconst 91 C dX5_readAll_90 rfl ic_1 ?_
                refine j_iadd 92 C dX5_readAll_91 rfl ?_
                obtain ⟨v_29, ev_29⟩ : ∃ y : VV, y = fu v_27 5 ((v_27 5) + (1 : Int32)) := ⟨_, rfl⟩
                replace hq := hq v_29 ev_29
                refine j_put 95 C uX5 tyX5 tyX5_ok nmX5 0 rfl rfl 15 (Nat.le_of_ble_eq_true rfl) lX5_102 rfl rfl (Nat.le_of_ble_eq_true rfl) dX5_readAll_92 rfl (ws' := (wE G h f_26 v_29)) (by subst ev_29; rfl) ?_
                refine j_goto 22 C dX5_readAll_95 rfl ?_
                refine J.l0 [0, 1] rfl ?_
                exact ih _ _ hq
              · replace hq := hq.2 c_28
                refine J.l0 [0, 1] rfl ?_
                exact hK83 _ _ hq
def Q_X5_readAll_L98 (x1 : Int32) (K146 : FF → VV → Prop) (K161 : FF → VV → Prop) : Nat → FF → VV → Prop
  | 0, _, _ => False
  | n + 1, f, v => (((v 6) = 0 → (Q_X5_isSign x1 (44 : Int32) f v (fun r_36 f_37 v_38 => (((r_36 = 0 → (K146 f_37 v_38)) ∧ (¬ r_36 = 0 → (Q_X5_readTestNext x1 ((4 : Int32) * (v_38 6)) f_37 v_38 (fun r_40 f_41 v_42 => (((¬ r_40 = 0 → (∀ v_44 : VV, v_44 = fu v_42 6 ((v_42 6) + (1 : Int32)) → (Q_X5_readAll_L98 x1 K146 K161 n f_41 v_44))) ∧ (r_40 = 0 → (K146 f_41 v_42)))))))))))) ∧ (¬ (v 6) = 0 → ((((7 : Int32) ≤ (v 6) → (K161 f v)) ∧ (¬ (7 : Int32) ≤ (v 6) → (((x1 ≤ (v 4) → (K161 f v)) ∧ (¬ x1 ≤ (v 4) → (Q_X5_isSign x1 (44 : Int32) f v (fun r_47 f_48 v_49 => (((r_47 = 0 → (K146 f_48 v_49)) ∧ (¬ r_47 = 0 → (Q_X5_readTestNext x1 ((4 : Int32) * (v_49 6)) f_48 v_49 (fun r_51 f_52 v_53 => (((¬ r_51 = 0 → (∀ v_55 : VV, v_55 = fu v_53 6 ((v_53 6) + (1 : Int32)) → (Q_X5_readAll_L98 x1 K146 K161 n f_52 v_55))) ∧ (r_51 = 0 → (K146 f_52 v_53)))))))))))))))))))
set_option maxRecDepth 100000 in
set_option maxHeartbeats 4000000 in
theorem t_X5_readAll_L98 {κ : Kx} {G : Gx} {h : Nat → Nat} (C : Cx κ G RX5 cX5_readAll rmX5_readAll 2) {x1 : Int32} {K146 : FF → VV → Prop} {K161 : FF → VV → Prop} (hK146 : ∀ (f : FF) (v : VV), K146 f v → J κ 0 0 (wE G h f v) 146 [(0, .ref (h 0)), (1, .int x1)] []) (hK161 : ∀ (f : FF) (v : VV), K161 f v → J κ 0 0 (wE G h f v) 161 [(0, .ref (h 0)), (1, .int x1)] []) : ∀ (n : Nat) (f : FF) (v : VV), Q_X5_readAll_L98 x1 K146 K161 n f v → J κ 0 0 (wE G h f v) 98 [(0, .ref (h 0)), (1, .int x1)] [] := by
  intro n
  induction n with
  | zero => intro f v hq; exact False.elim hq
  | succ n ih =>
    intro f v hq
    rw [Q_X5_readAll_L98] at hq
    refine j_aload_n 99 C dX5_readAll_98 rfl 0 rfl ?_
    refine j_get 102 C uX5 0 rfl rfl 16 (Nat.le_of_ble_eq_true rfl) lX5_105 (v := .int (v 6)) rfl dX5_readAll_99 rfl ?_
    refine j_if_eq 105 122 C dX5_readAll_102 rfl rfl (fun c_35 => ?_) (fun c_35 => ?_)
    · replace hq := hq.1 c_35
      refine j_aload_n 123 C dX5_readAll_122 rfl 0 rfl ?_
      refine j_iload_n 124 C dX5_readAll_123 rfl 1 rfl ?_
      refine j_bipush 126 C dX5_readAll_124 rfl bc_44 ?_
      refine j_callVi 129 C [] [] (fun f' v' => (wE G h f' v')) (As := [.int x1, .int (44 : Int32)]) (m_X5_isSign G h x1 (44 : Int32) f v hq) oX5_isSign kX5_111 ⟨rfl, rfl⟩ eX5_isSign ⟨Nat.le_of_ble_eq_true rfl, Nat.le_of_ble_eq_true rfl⟩ ⟨Nat.zero_le _, Nat.zero_le _⟩ (List.append_nil _).symm (fun _ _ => List.append_nil _) (fun _ _ => rfl) 0 rfl rfl rfl (Nat.le_of_ble_eq_true rfl) dX5_readAll_126 rfl (fun r_36 f_37 v_38 hq => ?_)
      refine j_if_eq 132 146 C dX5_readAll_129 rfl rfl (fun c_39 => ?_) (fun c_39 => ?_)
      · replace hq := hq.1 c_39
        refine J.l0 [0, 1] rfl ?_
        exact hK146 _ _ hq
      · replace hq := hq.2 c_39
        refine j_aload_n 133 C dX5_readAll_132 rfl 0 rfl ?_
        refine j_iload_n 134 C dX5_readAll_133 rfl 1 rfl ?_
        refine j_iconst 135 C dX5_readAll_134 rfl ic_4 ?_
        refine j_aload_n 136 C dX5_readAll_135 rfl 0 rfl ?_
        refine j_get 139 C uX5 0 rfl rfl 16 (Nat.le_of_ble_eq_true rfl) lX5_105 (v := .int (v_38 6)) rfl dX5_readAll_136 rfl ?_
        refine j_imul 140 C dX5_readAll_139 rfl ?_
        refine j_callVi 143 C [] [] (fun f' v' => (wE G h f' v')) (As := [.int x1, .int ((4 : Int32) * (v_38 6))]) (m_X5_readTestNext G h x1 ((4 : Int32) * (v_38 6)) f_37 v_38 hq) oX5_readTestNext kX5_118 ⟨rfl, rfl⟩ eX5_readTestNext ⟨Nat.le_of_ble_eq_true rfl, Nat.le_of_ble_eq_true rfl⟩ ⟨Nat.zero_le _, Nat.zero_le _⟩ (List.append_nil _).symm (fun _ _ => List.append_nil _) (fun _ _ => rfl) 0 rfl rfl rfl (Nat.le_of_ble_eq_true rfl) dX5_readAll_140 rfl (fun r_40 f_41 v_42 hq => ?_)
        refine j_if_ne 146 148 C dX5_readAll_143 rfl rfl (fun c_43 => ?_) (fun c_43 => ?_)
        · replace hq := hq.1 c_43
          refine j_aload_n 149 C dX5_readAll_148 rfl 0 rfl ?_
          refine j_dup 150 C dX5_readAll_149 rfl rfl ?_
          refine j_get 153 C uX5 0 rfl rfl 16 (Nat.le_of_ble_eq_true rfl) lX5_105 (v := .int (v_42 6)) rfl dX5_readAll_150 rfl ?_
          refine j_iconst 154 C dX5_readAll_153 rfl ic_1 ?_
          refine j_iadd 155 C dX5_readAll_154 rfl ?_
          obtain ⟨v_44, ev_44⟩ : ∃ y : VV, y = fu v_42 6 ((v_42 6) + (1 : Int32)) := ⟨_, rfl⟩
          replace hq := hq v_44 ev_44
          refine j_put 158 C uX5 tyX5 tyX5_ok nmX5 0 rfl rfl 16 (Nat.le_of_ble_eq_true rfl) lX5_105 rfl rfl (Nat.le_of_ble_eq_true rfl) dX5_readAll_155 rfl (ws' := (wE G h f_41 v_44)) (by subst ev_44; rfl) ?_
          refine j_goto 98 C dX5_readAll_158 rfl ?_
          refine J.l0 [0, 1] rfl ?_
          exact ih _ _ hq
        · replace hq := hq.2 c_43
          refine J.l0 [0, 1] rfl ?_
          exact hK146 _ _ hq
    · replace hq := hq.2 c_35
      refine j_aload_n 106 C dX5_readAll_105 rfl 0 rfl ?_
      refine j_get 109 C uX5 0 rfl rfl 16 (Nat.le_of_ble_eq_true rfl) lX5_105 (v := .int (v 6)) rfl dX5_readAll_106 rfl ?_
      refine j_bipush 111 C dX5_readAll_109 rfl bc_7 ?_
      refine j_icmp_ge 114 161 C dX5_readAll_111 rfl rfl (fun c_45 => ?_) (fun c_45 => ?_)
      · replace hq := hq.1 c_45
        refine J.l0 [0, 1] rfl ?_
        exact hK161 _ _ hq
      · replace hq := hq.2 c_45
        refine j_aload_n 115 C dX5_readAll_114 rfl 0 rfl ?_
        refine j_get 118 C uX5 0 rfl rfl 14 (Nat.le_of_ble_eq_true rfl) lX5_81 (v := .int (v 4)) rfl dX5_readAll_115 rfl ?_
        refine j_iload_n 119 C dX5_readAll_118 rfl 1 rfl ?_
        refine j_icmp_ge 122 161 C dX5_readAll_119 rfl rfl (fun c_46 => ?_) (fun c_46 => ?_)
        · replace hq := hq.1 c_46
          refine J.l0 [0, 1] rfl ?_
          exact hK161 _ _ hq
        · replace hq := hq.2 c_46
          refine j_aload_n 123 C dX5_readAll_122 rfl 0 rfl ?_
          refine j_iload_n 124 C dX5_readAll_123 rfl 1 rfl ?_
          refine j_bipush 126 C dX5_readAll_124 rfl bc_44 ?_
          refine j_callVi 129 C [] [] (fun f' v' => (wE G h f' v')) (As := [.int x1, .int (44 : Int32)]) (m_X5_isSign G h x1 (44 : Int32) f v hq) oX5_isSign kX5_111 ⟨rfl, rfl⟩ eX5_isSign ⟨Nat.le_of_ble_eq_true rfl, Nat.le_of_ble_eq_true rfl⟩ ⟨Nat.zero_le _, Nat.zero_le _⟩ (List.append_nil _).symm (fun _ _ => List.append_nil _) (fun _ _ => rfl) 0 rfl rfl rfl (Nat.le_of_ble_eq_true rfl) dX5_readAll_126 rfl (fun r_47 f_48 v_49 hq => ?_)
          refine j_if_eq 132 146 C dX5_readAll_129 rfl rfl (fun c_50 => ?_) (fun c_50 => ?_)
          · replace hq := hq.1 c_50
            refine J.l0 [0, 1] rfl ?_
            exact hK146 _ _ hq
          · replace hq := hq.2 c_50
            refine j_aload_n 133 C dX5_readAll_132 rfl 0 rfl ?_
            refine j_iload_n 134 C dX5_readAll_133 rfl 1 rfl ?_
            refine j_iconst 135 C dX5_readAll_134 rfl ic_4 ?_
            refine j_aload_n 136 C dX5_readAll_135 rfl 0 rfl ?_
            refine j_get 139 C uX5 0 rfl rfl 16 (Nat.le_of_ble_eq_true rfl) lX5_105 (v := .int (v_49 6)) rfl dX5_readAll_136 rfl ?_
            refine j_imul 140 C dX5_readAll_139 rfl ?_
            refine j_callVi 143 C [] [] (fun f' v' => (wE G h f' v')) (As := [.int x1, .int ((4 : Int32) * (v_49 6))]) (m_X5_readTestNext G h x1 ((4 : Int32) * (v_49 6)) f_48 v_49 hq) oX5_readTestNext kX5_118 ⟨rfl, rfl⟩ eX5_readTestNext ⟨Nat.le_of_ble_eq_true rfl, Nat.le_of_ble_eq_true rfl⟩ ⟨Nat.zero_le _, Nat.zero_le _⟩ (List.append_nil _).symm (fun _ _ => List.append_nil _) (fun _ _ => rfl) 0 rfl rfl rfl (Nat.le_of_ble_eq_true rfl) dX5_readAll_140 rfl (fun r_51 f_52 v_53 hq => ?_)
            refine j_if_ne 146 148 C dX5_readAll_143 rfl rfl (fun c_54 => ?_) (fun c_54 => ?_)
            · replace hq := hq.1 c_54
              refine j_aload_n 149 C dX5_readAll_148 rfl 0 rfl ?_
              refine j_dup 150 C dX5_readAll_149 rfl rfl ?_
              refine j_get 153 C uX5 0 rfl rfl 16 (Nat.le_of_ble_eq_true rfl) lX5_105 (v := .int (v_53 6)) rfl dX5_readAll_150 rfl ?_
              refine j_iconst 154 C dX5_readAll_153 rfl ic_1 ?_
              refine j_iadd 155 C dX5_readAll_154 rfl ?_
              obtain ⟨v_55, ev_55⟩ : ∃ y : VV, y = fu v_53 6 ((v_53 6) + (1 : Int32)) := ⟨_, rfl⟩
              replace hq := hq v_55 ev_55
              refine j_put 158 C uX5 tyX5 tyX5_ok nmX5 0 rfl rfl 16 (Nat.le_of_ble_eq_true rfl) lX5_105 rfl rfl (Nat.le_of_ble_eq_true rfl) dX5_readAll_155 rfl (ws' := (wE G h f_52 v_55)) (by subst ev_55; rfl) ?_
              refine j_goto 98 C dX5_readAll_158 rfl ?_
              refine J.l0 [0, 1] rfl ?_
              exact ih _ _ hq
            · replace hq := hq.2 c_54
              refine J.l0 [0, 1] rfl ?_
              exact hK146 _ _ hq
def Q_X5_readAll (p0 : Int32) (f : FF) (v : VV) (post : Int32 → FF → VV → Prop) : Prop := ∀ v_1 : VV, v_1 = fu v 5 (0 : Int32) → (∀ v_2 : VV, v_2 = fu v_1 6 (0 : Int32) → (Q_X5_isSign p0 (109 : Int32) f v_2 (fun r_3 f_4 v_5 => (((¬ r_3 = 0 → (∃ n_30 : Nat, Q_X5_readAll_L22 p0 (fun f_31 v_32 => (post (0 : Int32) f_31 v_32)) (fun f_33 v_34 => (∃ n_56 : Nat, Q_X5_readAll_L98 p0 (fun f_57 v_58 => (post (0 : Int32) f_57 v_58)) (fun f_59 v_60 => (((¬ (v_60 4) = p0 → (post (0 : Int32) f_59 v_60)) ∧ ((v_60 4) = p0 → (post (1 : Int32) f_59 v_60))))) n_56 f_33 v_34)) n_30 f_4 v_5)) ∧ (r_3 = 0 → (post (0 : Int32) f_4 v_5)))))))
set_option maxRecDepth 100000 in
set_option maxHeartbeats 4000000 in
theorem m_X5_readAll {l : Launch} (G : Gx) (h : Nat → Nat) (p0 : Int32) (f : FF) (v : VV) {post : Int32 → FF → VV → Prop} (hq : Q_X5_readAll p0 f v post) : MetI l yX5_readAll (gC yX5_readAll cX5_readAll 2 (some .boolean)) rmX5_readAll G [.ref (h 0), .int p0] (wE G h) f v post := by
  refine met_z (own := RX5) (by decide) rfl (Nat.le_of_ble_eq_true rfl) (fun κ hκ C hR => ?_)
  unfold Q_X5_readAll at hq
  subst hκ
  show J κ 0 0 (wE G h f v) 0 [(0, .ref (h 0)), (1, .int p0)] []
  refine j_aload_n 1 C dX5_readAll_0 rfl 0 rfl ?_
  refine j_iconst 2 C dX5_readAll_1 rfl ic_0 ?_
  obtain ⟨v_1, ev_1⟩ : ∃ y : VV, y = fu v 5 (0 : Int32) := ⟨_, rfl⟩
  replace hq := hq v_1 ev_1
  refine j_put 5 C uX5 tyX5 tyX5_ok nmX5 0 rfl rfl 15 (Nat.le_of_ble_eq_true rfl) lX5_102 rfl rfl (Nat.le_of_ble_eq_true rfl) dX5_readAll_2 rfl (ws' := (wE G h f v_1)) (by subst ev_1; rfl) ?_
  refine j_aload_n 6 C dX5_readAll_5 rfl 0 rfl ?_
  refine j_iconst 7 C dX5_readAll_6 rfl ic_0 ?_
  obtain ⟨v_2, ev_2⟩ : ∃ y : VV, y = fu v_1 6 (0 : Int32) := ⟨_, rfl⟩
  replace hq := hq v_2 ev_2
  refine j_put 10 C uX5 tyX5 tyX5_ok nmX5 0 rfl rfl 16 (Nat.le_of_ble_eq_true rfl) lX5_105 rfl rfl (Nat.le_of_ble_eq_true rfl) dX5_readAll_7 rfl (ws' := (wE G h f v_2)) (by subst ev_2; rfl) ?_
  refine j_aload_n 11 C dX5_readAll_10 rfl 0 rfl ?_
  refine j_iload_n 12 C dX5_readAll_11 rfl 1 rfl ?_
  refine j_bipush 14 C dX5_readAll_12 rfl bc_109 ?_
  refine j_callVi 17 C [] [] (fun f' v' => (wE G h f' v')) (As := [.int p0, .int (109 : Int32)]) (m_X5_isSign G h p0 (109 : Int32) f v_2 hq) oX5_isSign kX5_111 ⟨rfl, rfl⟩ eX5_isSign ⟨Nat.le_of_ble_eq_true rfl, Nat.le_of_ble_eq_true rfl⟩ ⟨Nat.zero_le _, Nat.zero_le _⟩ (List.append_nil _).symm (fun _ _ => List.append_nil _) (fun _ _ => rfl) 0 rfl rfl rfl (Nat.le_of_ble_eq_true rfl) dX5_readAll_14 rfl (fun r_3 f_4 v_5 hq => ?_)
  refine j_if_ne 20 22 C dX5_readAll_17 rfl rfl (fun c_6 => ?_) (fun c_6 => ?_)
  · replace hq := hq.1 c_6
    obtain ⟨n_30, hq⟩ := hq
    refine t_X5_readAll_L22 C ?_ ?_ n_30 _ _ hq
    · intro f_31 v_32 hq
      refine j_iconst 84 C dX5_readAll_83 rfl ic_0 ?_
      exact hR _ _ _ f_31 v_32 dX5_readAll_84 (Or.inl rfl) hq
    · intro f_33 v_34 hq
      obtain ⟨n_56, hq⟩ := hq
      refine t_X5_readAll_L98 C ?_ ?_ n_56 _ _ hq
      · intro f_57 v_58 hq
        refine j_iconst 147 C dX5_readAll_146 rfl ic_0 ?_
        exact hR _ _ _ f_57 v_58 dX5_readAll_147 (Or.inl rfl) hq
      · intro f_59 v_60 hq
        refine j_aload_n 162 C dX5_readAll_161 rfl 0 rfl ?_
        refine j_get 165 C uX5 0 rfl rfl 14 (Nat.le_of_ble_eq_true rfl) lX5_81 (v := .int (v_60 4)) rfl dX5_readAll_162 rfl ?_
        refine j_iload_n 166 C dX5_readAll_165 rfl 1 rfl ?_
        refine j_icmp_ne 169 173 C dX5_readAll_166 rfl rfl (fun c_61 => ?_) (fun c_61 => ?_)
        · replace hq := hq.1 c_61
          refine j_iconst 174 C dX5_readAll_173 rfl ic_0 ?_
          exact hR _ _ _ f_59 v_60 dX5_readAll_174 (Or.inl rfl) hq
        · replace hq := hq.2 c_61
          refine j_iconst 170 C dX5_readAll_169 rfl ic_1 ?_
          refine j_goto 174 C dX5_readAll_170 rfl ?_
          exact hR _ _ _ f_59 v_60 dX5_readAll_174 (Or.inr rfl) hq
  · replace hq := hq.2 c_6
    refine j_iconst 21 C dX5_readAll_20 rfl ic_0 ?_
    exact hR _ _ _ f_4 v_5 dX5_readAll_21 (Or.inl rfl) hq
def Q_X5_program_L103 (x1 : Int32) (x2 : Int32) (x3 : Int32) (x4 : Int32) (x5 : Int32) (x6 : Int32) (K170 : Int32 → FF → VV → Prop) : Nat → Int32 → FF → VV → Prop
  | 0, _, _, _ => False
  | n + 1, x7, f, v => (((v 2) ≤ x7 → (K170 x7 f v)) ∧ (¬ (v 2) ≤ x7 → (vp_in ((3 : Int32) * x7) 15 ∧ (vp_in x7 5 ∧ (∀ f_19 : FF, f_19 = fu f 3 (wr (f 3) x7 ((f 10) (((3 : Int32) * x7)).toNatClampNeg)) → (vp_in (((3 : Int32) * x7) + (1 : Int32)) 15 ∧ (vp_in x7 5 ∧ (∀ f_22 : FF, f_22 = fu f_19 4 (wr (f_19 4) x7 ((f_19 10) ((((3 : Int32) * x7) + (1 : Int32))).toNatClampNeg)) → (vp_in (((3 : Int32) * x7) + (2 : Int32)) 15 ∧ (vp_in x7 5 ∧ (∀ f_25 : FF, f_25 = fu f_22 5 (wr (f_22 5) x7 ((f_22 10) ((((3 : Int32) * x7) + (2 : Int32))).toNatClampNeg)) → (∀ x_26 : Int32, x_26 = (x7 + (1 : Int32)) → (Q_X5_program_L103 x1 x2 x3 x4 x5 x6 K170 n x_26 f_25 v)))))))))))))
set_option maxRecDepth 100000 in
set_option maxHeartbeats 4000000 in
theorem t_X5_program_L103 {κ : Kx} {G : Gx} {h : Nat → Nat} (C : Cx κ G RX5 cX5_program rmX5_program 8) {x1 : Int32} {x2 : Int32} {x3 : Int32} {x4 : Int32} {x5 : Int32} {x6 : Int32} {K170 : Int32 → FF → VV → Prop} (hK170 : ∀ (x7 : Int32) (f : FF) (v : VV), K170 x7 f v → J κ 0 0 (wE G h f v) 170 [(0, .ref (h 0)), (1, .int x1), (2, .int x2), (3, .int x3), (4, .int x4), (5, .int x5), (6, .int x6), (7, .int x7)] []) : ∀ (n : Nat) (x7 : Int32) (f : FF) (v : VV), Q_X5_program_L103 x1 x2 x3 x4 x5 x6 K170 n x7 f v → J κ 0 0 (wE G h f v) 103 [(0, .ref (h 0)), (1, .int x1), (2, .int x2), (3, .int x3), (4, .int x4), (5, .int x5), (6, .int x6), (7, .int x7)] [] := by
  intro n
  induction n with
  | zero => intro x7 f v hq; exact False.elim hq
  | succ n ih =>
    intro x7 f v hq
    rw [Q_X5_program_L103] at hq
    refine j_iload 105 C dX5_program_103 rfl 7 rfl ?_
    refine j_aload_n 106 C dX5_program_105 rfl 0 rfl ?_
    refine j_get 109 C uX5 0 rfl rfl 5 (Nat.le_of_ble_eq_true rfl) lX5_71 (v := .int (v 2)) rfl dX5_program_106 rfl ?_
    refine j_icmp_ge 112 170 C dX5_program_109 rfl rfl (fun c_16 => ?_) (fun c_16 => ?_)
    · replace hq := hq.1 c_16
      refine J.l0 [0, 1, 2, 3, 4, 5, 6, 7] rfl ?_
      exact hK170 _ _ _ hq
    · replace hq := hq.2 c_16
      refine j_aload_n 113 C dX5_program_112 rfl 0 rfl ?_
      refine j_get 116 C uX5 0 rfl rfl 7 (Nat.le_of_ble_eq_true rfl) lX5_19 (v := .ref (h 4)) rfl dX5_program_113 rfl ?_
      refine j_iload 118 C dX5_program_116 rfl 7 rfl ?_
      refine j_aload_n 119 C dX5_program_118 rfl 0 rfl ?_
      refine j_get 122 C uX5 0 rfl rfl 17 (Nat.le_of_ble_eq_true rfl) lX5_40 (v := .ref (h 11)) rfl dX5_program_119 rfl ?_
      refine j_iconst 123 C dX5_program_122 rfl ic_3 ?_
      refine j_iload 125 C dX5_program_123 rfl 7 rfl ?_
      refine j_imul 126 C dX5_program_125 rfl ?_
      obtain ⟨hi_17, hq⟩ := hq
      refine j_iald 127 C 11 (f := (f 10)) rfl hi_17 dX5_program_126 rfl ?_
      obtain ⟨hi_18, hq⟩ := hq
      obtain ⟨f_19, ef_19⟩ : ∃ y : FF, y = fu f 3 (wr (f 3) x7 ((f 10) (((3 : Int32) * x7)).toNatClampNeg)) := ⟨_, rfl⟩
      replace hq := hq f_19 ef_19
      refine j_iast 128 C 4 rfl hi_18 dX5_program_127 rfl (ws' := (wE G h f_19 v)) (by subst ef_19; rfl) ?_
      refine j_aload_n 129 C dX5_program_128 rfl 0 rfl ?_
      refine j_get 132 C uX5 0 rfl rfl 8 (Nat.le_of_ble_eq_true rfl) lX5_22 (v := .ref (h 5)) rfl dX5_program_129 rfl ?_
      refine j_iload 134 C dX5_program_132 rfl 7 rfl ?_
      refine j_aload_n 135 C dX5_program_134 rfl 0 rfl ?_
      refine j_get 138 C uX5 0 rfl rfl 17 (Nat.le_of_ble_eq_true rfl) lX5_40 (v := .ref (h 11)) rfl dX5_program_135 rfl ?_
      refine j_iconst 139 C dX5_program_138 rfl ic_3 ?_
      refine j_iload 141 C dX5_program_139 rfl 7 rfl ?_
      refine j_imul 142 C dX5_program_141 rfl ?_
      refine j_iconst 143 C dX5_program_142 rfl ic_1 ?_
      refine j_iadd 144 C dX5_program_143 rfl ?_
      obtain ⟨hi_20, hq⟩ := hq
      refine j_iald 145 C 11 (f := (f_19 10)) rfl hi_20 dX5_program_144 rfl ?_
      obtain ⟨hi_21, hq⟩ := hq
      obtain ⟨f_22, ef_22⟩ : ∃ y : FF, y = fu f_19 4 (wr (f_19 4) x7 ((f_19 10) ((((3 : Int32) * x7) + (1 : Int32))).toNatClampNeg)) := ⟨_, rfl⟩
      replace hq := hq f_22 ef_22
      refine j_iast 146 C 5 rfl hi_21 dX5_program_145 rfl (ws' := (wE G h f_22 v)) (by subst ef_22; rfl) ?_
      refine j_aload_n 147 C dX5_program_146 rfl 0 rfl ?_
      refine j_get 150 C uX5 0 rfl rfl 9 (Nat.le_of_ble_eq_true rfl) lX5_25 (v := .ref (h 6)) rfl dX5_program_147 rfl ?_
      refine j_iload 152 C dX5_program_150 rfl 7 rfl ?_
      refine j_aload_n 153 C dX5_program_152 rfl 0 rfl ?_
      refine j_get 156 C uX5 0 rfl rfl 17 (Nat.le_of_ble_eq_true rfl) lX5_40 (v := .ref (h 11)) rfl dX5_program_153 rfl ?_
      refine j_iconst 157 C dX5_program_156 rfl ic_3 ?_
      refine j_iload 159 C dX5_program_157 rfl 7 rfl ?_
      refine j_imul 160 C dX5_program_159 rfl ?_
      refine j_iconst 161 C dX5_program_160 rfl ic_2 ?_
      refine j_iadd 162 C dX5_program_161 rfl ?_
      obtain ⟨hi_23, hq⟩ := hq
      refine j_iald 163 C 11 (f := (f_22 10)) rfl hi_23 dX5_program_162 rfl ?_
      obtain ⟨hi_24, hq⟩ := hq
      obtain ⟨f_25, ef_25⟩ : ∃ y : FF, y = fu f_22 5 (wr (f_22 5) x7 ((f_22 10) ((((3 : Int32) * x7) + (2 : Int32))).toNatClampNeg)) := ⟨_, rfl⟩
      replace hq := hq f_25 ef_25
      refine j_iast 164 C 6 rfl hi_24 dX5_program_163 rfl (ws' := (wE G h f_25 v)) (by subst ef_25; rfl) ?_
      obtain ⟨x_26, ex_26⟩ : ∃ y : Int32, y = (x7 + (1 : Int32)) := ⟨_, rfl⟩
      replace hq := hq x_26 ex_26
      refine j_iinc 167 C dX5_program_164 rfl 7 rfl (v := x_26) (by rw [ex_26]; rfl) (Nat.le_of_ble_eq_true rfl) [1, 2, 3, 4, 5, 6, 7, 0] (lv' := [(0, .ref (h 0)), (1, .int x1), (2, .int x2), (3, .int x3), (4, .int x4), (5, .int x5), (6, .int x6), (7, .int x_26)]) rfl ?_
      refine j_goto 103 C dX5_program_167 rfl ?_
      refine J.l0 [0, 1, 2, 3, 4, 5, 6, 7] rfl ?_
      exact ih _ _ _ hq
def Q_X5_program_L173 (x1 : Int32) (x2 : Int32) (x3 : Int32) (x4 : Int32) (x5 : Int32) (x6 : Int32) (K258 : Int32 → FF → VV → Prop) : Nat → Int32 → FF → VV → Prop
  | 0, _, _, _ => False
  | n + 1, x7, f, v => (((v 3) ≤ x7 → (K258 x7 f v)) ∧ (¬ (v 3) ≤ x7 → (vp_in ((4 : Int32) * x7) 28 ∧ (vp_in x7 7 ∧ (∀ f_34 : FF, f_34 = fu f 6 (wr (f 6) x7 ((f 11) (((4 : Int32) * x7)).toNatClampNeg)) → (vp_in (((4 : Int32) * x7) + (1 : Int32)) 28 ∧ (vp_in x7 7 ∧ (∀ f_37 : FF, f_37 = fu f_34 7 (wr (f_34 7) x7 ((f_34 11) ((((4 : Int32) * x7) + (1 : Int32))).toNatClampNeg)) → (vp_in (((4 : Int32) * x7) + (2 : Int32)) 28 ∧ (vp_in x7 7 ∧ (∀ f_40 : FF, f_40 = fu f_37 8 (wr (f_37 8) x7 ((f_37 11) ((((4 : Int32) * x7) + (2 : Int32))).toNatClampNeg)) → (vp_in (((4 : Int32) * x7) + (3 : Int32)) 28 ∧ (vp_in x7 7 ∧ (∀ f_43 : FF, f_43 = fu f_40 9 (wr (f_40 9) x7 ((f_40 11) ((((4 : Int32) * x7) + (3 : Int32))).toNatClampNeg)) → (∀ x_44 : Int32, x_44 = (x7 + (1 : Int32)) → (Q_X5_program_L173 x1 x2 x3 x4 x5 x6 K258 n x_44 f_43 v))))))))))))))))
set_option maxRecDepth 100000 in
set_option maxHeartbeats 4000000 in
theorem t_X5_program_L173 {κ : Kx} {G : Gx} {h : Nat → Nat} (C : Cx κ G RX5 cX5_program rmX5_program 8) {x1 : Int32} {x2 : Int32} {x3 : Int32} {x4 : Int32} {x5 : Int32} {x6 : Int32} {K258 : Int32 → FF → VV → Prop} (hK258 : ∀ (x7 : Int32) (f : FF) (v : VV), K258 x7 f v → J κ 0 0 (wE G h f v) 258 [(0, .ref (h 0)), (1, .int x1), (2, .int x2), (3, .int x3), (4, .int x4), (5, .int x5), (6, .int x6), (7, .int x7)] []) : ∀ (n : Nat) (x7 : Int32) (f : FF) (v : VV), Q_X5_program_L173 x1 x2 x3 x4 x5 x6 K258 n x7 f v → J κ 0 0 (wE G h f v) 173 [(0, .ref (h 0)), (1, .int x1), (2, .int x2), (3, .int x3), (4, .int x4), (5, .int x5), (6, .int x6), (7, .int x7)] [] := by
  intro n
  induction n with
  | zero => intro x7 f v hq; exact False.elim hq
  | succ n ih =>
    intro x7 f v hq
    rw [Q_X5_program_L173] at hq
    refine j_iload 175 C dX5_program_173 rfl 7 rfl ?_
    refine j_aload_n 176 C dX5_program_175 rfl 0 rfl ?_
    refine j_get 179 C uX5 0 rfl rfl 6 (Nat.le_of_ble_eq_true rfl) lX5_74 (v := .int (v 3)) rfl dX5_program_176 rfl ?_
    refine j_icmp_ge 182 258 C dX5_program_179 rfl rfl (fun c_31 => ?_) (fun c_31 => ?_)
    · replace hq := hq.1 c_31
      refine J.l0 [0, 1, 2, 3, 4, 5, 6, 7] rfl ?_
      exact hK258 _ _ _ hq
    · replace hq := hq.2 c_31
      refine j_aload_n 183 C dX5_program_182 rfl 0 rfl ?_
      refine j_get 186 C uX5 0 rfl rfl 10 (Nat.le_of_ble_eq_true rfl) lX5_28 (v := .ref (h 7)) rfl dX5_program_183 rfl ?_
      refine j_iload 188 C dX5_program_186 rfl 7 rfl ?_
      refine j_aload_n 189 C dX5_program_188 rfl 0 rfl ?_
      refine j_get 192 C uX5 0 rfl rfl 18 (Nat.le_of_ble_eq_true rfl) lX5_43 (v := .ref (h 12)) rfl dX5_program_189 rfl ?_
      refine j_iconst 193 C dX5_program_192 rfl ic_4 ?_
      refine j_iload 195 C dX5_program_193 rfl 7 rfl ?_
      refine j_imul 196 C dX5_program_195 rfl ?_
      obtain ⟨hi_32, hq⟩ := hq
      refine j_iald 197 C 12 (f := (f 11)) rfl hi_32 dX5_program_196 rfl ?_
      obtain ⟨hi_33, hq⟩ := hq
      obtain ⟨f_34, ef_34⟩ : ∃ y : FF, y = fu f 6 (wr (f 6) x7 ((f 11) (((4 : Int32) * x7)).toNatClampNeg)) := ⟨_, rfl⟩
      replace hq := hq f_34 ef_34
      refine j_iast 198 C 7 rfl hi_33 dX5_program_197 rfl (ws' := (wE G h f_34 v)) (by subst ef_34; rfl) ?_
      refine j_aload_n 199 C dX5_program_198 rfl 0 rfl ?_
      refine j_get 202 C uX5 0 rfl rfl 11 (Nat.le_of_ble_eq_true rfl) lX5_31 (v := .ref (h 8)) rfl dX5_program_199 rfl ?_
      refine j_iload 204 C dX5_program_202 rfl 7 rfl ?_
      refine j_aload_n 205 C dX5_program_204 rfl 0 rfl ?_
      refine j_get 208 C uX5 0 rfl rfl 18 (Nat.le_of_ble_eq_true rfl) lX5_43 (v := .ref (h 12)) rfl dX5_program_205 rfl ?_
      refine j_iconst 209 C dX5_program_208 rfl ic_4 ?_
      refine j_iload 211 C dX5_program_209 rfl 7 rfl ?_
      refine j_imul 212 C dX5_program_211 rfl ?_
      refine j_iconst 213 C dX5_program_212 rfl ic_1 ?_
      refine j_iadd 214 C dX5_program_213 rfl ?_
      obtain ⟨hi_35, hq⟩ := hq
      refine j_iald 215 C 12 (f := (f_34 11)) rfl hi_35 dX5_program_214 rfl ?_
      obtain ⟨hi_36, hq⟩ := hq
      obtain ⟨f_37, ef_37⟩ : ∃ y : FF, y = fu f_34 7 (wr (f_34 7) x7 ((f_34 11) ((((4 : Int32) * x7) + (1 : Int32))).toNatClampNeg)) := ⟨_, rfl⟩
      replace hq := hq f_37 ef_37
      refine j_iast 216 C 8 rfl hi_36 dX5_program_215 rfl (ws' := (wE G h f_37 v)) (by subst ef_37; rfl) ?_
      refine j_aload_n 217 C dX5_program_216 rfl 0 rfl ?_
      refine j_get 220 C uX5 0 rfl rfl 12 (Nat.le_of_ble_eq_true rfl) lX5_34 (v := .ref (h 9)) rfl dX5_program_217 rfl ?_
      refine j_iload 222 C dX5_program_220 rfl 7 rfl ?_
      refine j_aload_n 223 C dX5_program_222 rfl 0 rfl ?_
      refine j_get 226 C uX5 0 rfl rfl 18 (Nat.le_of_ble_eq_true rfl) lX5_43 (v := .ref (h 12)) rfl dX5_program_223 rfl ?_
      refine j_iconst 227 C dX5_program_226 rfl ic_4 ?_
      refine j_iload 229 C dX5_program_227 rfl 7 rfl ?_
      refine j_imul 230 C dX5_program_229 rfl ?_
      refine j_iconst 231 C dX5_program_230 rfl ic_2 ?_
      refine j_iadd 232 C dX5_program_231 rfl ?_
      obtain ⟨hi_38, hq⟩ := hq
      refine j_iald 233 C 12 (f := (f_37 11)) rfl hi_38 dX5_program_232 rfl ?_
      obtain ⟨hi_39, hq⟩ := hq
      obtain ⟨f_40, ef_40⟩ : ∃ y : FF, y = fu f_37 8 (wr (f_37 8) x7 ((f_37 11) ((((4 : Int32) * x7) + (2 : Int32))).toNatClampNeg)) := ⟨_, rfl⟩
      replace hq := hq f_40 ef_40
      refine j_iast 234 C 9 rfl hi_39 dX5_program_233 rfl (ws' := (wE G h f_40 v)) (by subst ef_40; rfl) ?_
      refine j_aload_n 235 C dX5_program_234 rfl 0 rfl ?_
      refine j_get 238 C uX5 0 rfl rfl 13 (Nat.le_of_ble_eq_true rfl) lX5_37 (v := .ref (h 10)) rfl dX5_program_235 rfl ?_
      refine j_iload 240 C dX5_program_238 rfl 7 rfl ?_
      refine j_aload_n 241 C dX5_program_240 rfl 0 rfl ?_
      refine j_get 244 C uX5 0 rfl rfl 18 (Nat.le_of_ble_eq_true rfl) lX5_43 (v := .ref (h 12)) rfl dX5_program_241 rfl ?_
      refine j_iconst 245 C dX5_program_244 rfl ic_4 ?_
      refine j_iload 247 C dX5_program_245 rfl 7 rfl ?_
      refine j_imul 248 C dX5_program_247 rfl ?_
      refine j_iconst 249 C dX5_program_248 rfl ic_3 ?_
      refine j_iadd 250 C dX5_program_249 rfl ?_
      obtain ⟨hi_41, hq⟩ := hq
      refine j_iald 251 C 12 (f := (f_40 11)) rfl hi_41 dX5_program_250 rfl ?_
      obtain ⟨hi_42, hq⟩ := hq
      obtain ⟨f_43, ef_43⟩ : ∃ y : FF, y = fu f_40 9 (wr (f_40 9) x7 ((f_40 11) ((((4 : Int32) * x7) + (3 : Int32))).toNatClampNeg)) := ⟨_, rfl⟩
      replace hq := hq f_43 ef_43
      refine j_iast 252 C 10 rfl hi_42 dX5_program_251 rfl (ws' := (wE G h f_43 v)) (by subst ef_43; rfl) ?_
      obtain ⟨x_44, ex_44⟩ : ∃ y : Int32, y = (x7 + (1 : Int32)) := ⟨_, rfl⟩
      replace hq := hq x_44 ex_44
      refine j_iinc 255 C dX5_program_252 rfl 7 rfl (v := x_44) (by rw [ex_44]; rfl) (Nat.le_of_ble_eq_true rfl) [1, 2, 3, 4, 5, 6, 7, 0] (lv' := [(0, .ref (h 0)), (1, .int x1), (2, .int x2), (3, .int x3), (4, .int x4), (5, .int x5), (6, .int x6), (7, .int x_44)]) rfl ?_
      refine j_goto 173 C dX5_program_255 rfl ?_
      refine J.l0 [0, 1, 2, 3, 4, 5, 6, 7] rfl ?_
      exact ih _ _ _ hq
def Q_X5_program (p0 : Int32) (p1 : Int32) (p2 : Int32) (p3 : Int32) (f : FF) (v : VV) (post : Int32 → FF → VV → Prop) : Prop := ∀ v_1 : VV, v_1 = fu v 0 (0 : Int32) → (Q_X5_isSheet p0 (fun r_2 => (((¬ r_2 = 0 → (Q_X5_isSort p1 (fun r_4 => (((¬ r_4 = 0 → (Q_X5_against p0 p1 p2 p3 f v_1 (fun r_6 => (((r_6 = 0 → (∀ x_8 : Int32, x_8 = (((60 : Int32) * p0) + p2) → (∀ v_9 : VV, v_9 = fu v_1 4 x_8 → (Q_X5_readAll (x_8 + p3) f v_9 (fun r_10 f_11 v_12 => (((¬ r_10 = 0 → (∀ v_14 : VV, v_14 = fu v_12 2 (v_12 5) → (∀ v_15 : VV, v_15 = fu v_14 3 (v_14 6) → (∃ n_27 : Nat, Q_X5_program_L103 p0 p1 p2 p3 r_6 x_8 (fun x_28 f_29 v_30 => (∃ n_45 : Nat, Q_X5_program_L173 p0 p1 p2 p3 r_6 x_8 (fun x_46 f_47 v_48 => (∀ v_49 : VV, v_49 = fu v_48 8 (0 : Int32) → (Q_X5_mutants  f_47 v_49 (fun r_50 => (post r_50 f_47 v_49))))) n_45 (0 : Int32) f_29 v_30)) n_27 (0 : Int32) f_11 v_15)))) ∧ (r_10 = 0 → (post ((-100 : Int32) - ((v_12 4) - x_8)) f_11 v_12))))))))) ∧ (¬ r_6 = 0 → (Q_X5_fails r_6 f v_1 (fun r_51 f_52 v_53 => (post r_51 f_52 v_53))))))))) ∧ (r_4 = 0 → (post (-2 : Int32) f v_1))))))) ∧ (r_2 = 0 → (post (-1 : Int32) f v_1))))))
set_option maxRecDepth 100000 in
set_option maxHeartbeats 4000000 in
theorem m_X5_program {l : Launch} (G : Gx) (h : Nat → Nat) (p0 : Int32) (p1 : Int32) (p2 : Int32) (p3 : Int32) (f : FF) (v : VV) {post : Int32 → FF → VV → Prop} (hq : Q_X5_program p0 p1 p2 p3 f v post) : MetI l yX5_program (gC yX5_program cX5_program 8 (some .int)) rmX5_program G [.ref (h 0), .int p0, .int p1, .int p2, .int p3] (wE G h) f v post := by
  refine met_i (own := RX5) (by decide) rfl (Nat.le_of_ble_eq_true rfl) (fun κ hκ C hR => ?_)
  unfold Q_X5_program at hq
  subst hκ
  show J κ 0 0 (wE G h f v) 0 [(0, .ref (h 0)), (1, .int p0), (2, .int p1), (3, .int p2), (4, .int p3)] []
  refine j_aload_n 1 C dX5_program_0 rfl 0 rfl ?_
  refine j_iconst 2 C dX5_program_1 rfl ic_0 ?_
  obtain ⟨v_1, ev_1⟩ : ∃ y : VV, y = fu v 0 (0 : Int32) := ⟨_, rfl⟩
  replace hq := hq v_1 ev_1
  refine j_put 5 C uX5 tyX5 tyX5_ok nmX5 0 rfl rfl 0 (Nat.le_of_ble_eq_true rfl) lX5_61 rfl rfl (Nat.le_of_ble_eq_true rfl) dX5_program_2 rfl (ws' := (wE G h f v_1)) (by subst ev_1; rfl) ?_
  refine j_iload_n 6 C dX5_program_5 rfl 1 rfl ?_
  refine j_callSi 9 C [] (wE G h f v_1) (fun _ _ => (wE G h f v_1)) (As := [.int p0]) (m_X5_isSheet G p0 hq) oX5_isSheet kX5_84 ⟨rfl, rfl⟩ eX5_isSheet ⟨Nat.le_of_ble_eq_true rfl, Nat.le_of_ble_eq_true rfl⟩ ⟨Nat.zero_le _, Nat.zero_le _⟩ rfl (fun _ _ => rfl) (fun _ _ => rfl) rfl (Nat.le_of_ble_eq_true rfl) dX5_program_6 rfl (fun r_2 _ _ hq => ?_)
  refine j_if_ne 12 14 C dX5_program_9 rfl rfl (fun c_3 => ?_) (fun c_3 => ?_)
  · replace hq := hq.1 c_3
    refine j_iload_n 15 C dX5_program_14 rfl 2 rfl ?_
    refine j_callSi 18 C [] (wE G h f v_1) (fun _ _ => (wE G h f v_1)) (As := [.int p1]) (m_X5_isSort G p1 hq) oX5_isSort kX5_88 ⟨rfl, rfl⟩ eX5_isSort ⟨Nat.le_of_ble_eq_true rfl, Nat.le_of_ble_eq_true rfl⟩ ⟨Nat.zero_le _, Nat.zero_le _⟩ rfl (fun _ _ => rfl) (fun _ _ => rfl) rfl (Nat.le_of_ble_eq_true rfl) dX5_program_15 rfl (fun r_4 _ _ hq => ?_)
    refine j_if_ne 21 24 C dX5_program_18 rfl rfl (fun c_5 => ?_) (fun c_5 => ?_)
    · replace hq := hq.1 c_5
      refine j_aload_n 25 C dX5_program_24 rfl 0 rfl ?_
      refine j_iload_n 26 C dX5_program_25 rfl 1 rfl ?_
      refine j_iload_n 27 C dX5_program_26 rfl 2 rfl ?_
      refine j_iload_n 28 C dX5_program_27 rfl 3 rfl ?_
      refine j_iload 30 C dX5_program_28 rfl 4 rfl ?_
      refine j_callVi_ro 33 C [] [] (As := [.int p0, .int p1, .int p2, .int p3]) (m_X5_against G h p0 p1 p2 p3 f v_1 hq) oX5_against kX5_91 ⟨rfl, rfl⟩ eX5_against ⟨Nat.le_of_ble_eq_true rfl, Nat.le_of_ble_eq_true rfl⟩ ⟨Nat.zero_le _, Nat.zero_le _⟩ (List.append_nil _).symm (fun _ _ => rfl) 0 rfl rfl rfl (Nat.le_of_ble_eq_true rfl) dX5_program_30 rfl (fun r_6 hq => ?_)
      refine j_istore 35 C dX5_program_33 rfl (Nat.le_of_ble_eq_true rfl) [1, 2, 3, 4, 5, 0] (lv' := [(0, .ref (h 0)), (1, .int p0), (2, .int p1), (3, .int p2), (4, .int p3), (5, .int r_6)]) rfl ?_
      refine j_iload 37 C dX5_program_35 rfl 5 rfl ?_
      refine j_if_eq 40 47 C dX5_program_37 rfl rfl (fun c_7 => ?_) (fun c_7 => ?_)
      · replace hq := hq.1 c_7
        refine j_bipush 49 C dX5_program_47 rfl bc_60 ?_
        refine j_iload_n 50 C dX5_program_49 rfl 1 rfl ?_
        refine j_imul 51 C dX5_program_50 rfl ?_
        refine j_iload_n 52 C dX5_program_51 rfl 3 rfl ?_
        refine j_iadd 53 C dX5_program_52 rfl ?_
        refine J.topi (fun x_8 ex_8 => ?_)
        replace hq := hq x_8 ex_8
        refine j_istore 55 C dX5_program_53 rfl (Nat.le_of_ble_eq_true rfl) [1, 2, 3, 4, 5, 6, 0] (lv' := [(0, .ref (h 0)), (1, .int p0), (2, .int p1), (3, .int p2), (4, .int p3), (5, .int r_6), (6, .int x_8)]) rfl ?_
        refine j_aload_n 56 C dX5_program_55 rfl 0 rfl ?_
        refine j_iload 58 C dX5_program_56 rfl 6 rfl ?_
        obtain ⟨v_9, ev_9⟩ : ∃ y : VV, y = fu v_1 4 x_8 := ⟨_, rfl⟩
        replace hq := hq v_9 ev_9
        refine j_put 61 C uX5 tyX5 tyX5_ok nmX5 0 rfl rfl 14 (Nat.le_of_ble_eq_true rfl) lX5_81 rfl rfl (Nat.le_of_ble_eq_true rfl) dX5_program_58 rfl (ws' := (wE G h f v_9)) (by subst ev_9; rfl) ?_
        refine j_aload_n 62 C dX5_program_61 rfl 0 rfl ?_
        refine j_iload 64 C dX5_program_62 rfl 6 rfl ?_
        refine j_iload 66 C dX5_program_64 rfl 4 rfl ?_
        refine j_iadd 67 C dX5_program_66 rfl ?_
        refine j_callVi 70 C [] [] (fun f' v' => (wE G h f' v')) (As := [.int (x_8 + p3)]) (m_X5_readAll G h (x_8 + p3) f v_9 hq) oX5_readAll kX5_99 ⟨rfl, rfl⟩ eX5_readAll ⟨Nat.le_of_ble_eq_true rfl, Nat.le_of_ble_eq_true rfl⟩ ⟨Nat.zero_le _, Nat.zero_le _⟩ (List.append_nil _).symm (fun _ _ => List.append_nil _) (fun _ _ => rfl) 0 rfl rfl rfl (Nat.le_of_ble_eq_true rfl) dX5_program_67 rfl (fun r_10 f_11 v_12 hq => ?_)
        refine j_if_ne 73 84 C dX5_program_70 rfl rfl (fun c_13 => ?_) (fun c_13 => ?_)
        · replace hq := hq.1 c_13
          refine j_aload_n 85 C dX5_program_84 rfl 0 rfl ?_
          refine j_aload_n 86 C dX5_program_85 rfl 0 rfl ?_
          refine j_get 89 C uX5 0 rfl rfl 15 (Nat.le_of_ble_eq_true rfl) lX5_102 (v := .int (v_12 5)) rfl dX5_program_86 rfl ?_
          obtain ⟨v_14, ev_14⟩ : ∃ y : VV, y = fu v_12 2 (v_12 5) := ⟨_, rfl⟩
          replace hq := hq v_14 ev_14
          refine j_put 92 C uX5 tyX5 tyX5_ok nmX5 0 rfl rfl 5 (Nat.le_of_ble_eq_true rfl) lX5_71 rfl rfl (Nat.le_of_ble_eq_true rfl) dX5_program_89 rfl (ws' := (wE G h f_11 v_14)) (by subst ev_14; rfl) ?_
          refine j_aload_n 93 C dX5_program_92 rfl 0 rfl ?_
          refine j_aload_n 94 C dX5_program_93 rfl 0 rfl ?_
          refine j_get 97 C uX5 0 rfl rfl 16 (Nat.le_of_ble_eq_true rfl) lX5_105 (v := .int (v_14 6)) rfl dX5_program_94 rfl ?_
          obtain ⟨v_15, ev_15⟩ : ∃ y : VV, y = fu v_14 3 (v_14 6) := ⟨_, rfl⟩
          replace hq := hq v_15 ev_15
          refine j_put 100 C uX5 tyX5 tyX5_ok nmX5 0 rfl rfl 6 (Nat.le_of_ble_eq_true rfl) lX5_74 rfl rfl (Nat.le_of_ble_eq_true rfl) dX5_program_97 rfl (ws' := (wE G h f_11 v_15)) (by subst ev_15; rfl) ?_
          refine j_iconst 101 C dX5_program_100 rfl ic_0 ?_
          refine j_istore 103 C dX5_program_101 rfl (Nat.le_of_ble_eq_true rfl) [1, 2, 3, 4, 5, 6, 7, 0] (lv' := [(0, .ref (h 0)), (1, .int p0), (2, .int p1), (3, .int p2), (4, .int p3), (5, .int r_6), (6, .int x_8), (7, .int (0 : Int32))]) rfl ?_
          obtain ⟨n_27, hq⟩ := hq
          refine t_X5_program_L103 C ?_ n_27 _ _ _ hq
          · intro x_28 f_29 v_30 hq
            refine j_iconst 171 C dX5_program_170 rfl ic_0 ?_
            refine j_istore 173 C dX5_program_171 rfl (Nat.le_of_ble_eq_true rfl) [1, 2, 3, 4, 5, 6, 7, 0] (lv' := [(0, .ref (h 0)), (1, .int p0), (2, .int p1), (3, .int p2), (4, .int p3), (5, .int r_6), (6, .int x_8), (7, .int (0 : Int32))]) rfl ?_
            obtain ⟨n_45, hq⟩ := hq
            refine t_X5_program_L173 C ?_ n_45 _ _ _ hq
            · intro x_46 f_47 v_48 hq
              refine j_aload_n 259 C dX5_program_258 rfl 0 rfl ?_
              refine j_iconst 260 C dX5_program_259 rfl ic_0 ?_
              obtain ⟨v_49, ev_49⟩ : ∃ y : VV, y = fu v_48 8 (0 : Int32) := ⟨_, rfl⟩
              replace hq := hq v_49 ev_49
              refine j_put 263 C uX5 tyX5 tyX5_ok nmX5 0 rfl rfl 24 (Nat.le_of_ble_eq_true rfl) lX5_108 rfl rfl (Nat.le_of_ble_eq_true rfl) dX5_program_260 rfl (ws' := (wE G h f_47 v_49)) (by subst ev_49; rfl) ?_
              refine j_aload_n 264 C dX5_program_263 rfl 0 rfl ?_
              refine j_callVi_ro 267 C [] [] (As := []) (m_X5_mutants G h f_47 v_49 hq) oX5_mutants kX5_77 ⟨rfl, rfl⟩ eX5_mutants ⟨Nat.le_of_ble_eq_true rfl, Nat.le_of_ble_eq_true rfl⟩ ⟨Nat.zero_le _, Nat.zero_le _⟩ (List.append_nil _).symm (fun _ _ => rfl) 0 rfl rfl rfl (Nat.le_of_ble_eq_true rfl) dX5_program_264 rfl (fun r_50 hq => ?_)
              exact hR _ _ _ f_47 v_49 dX5_program_267 hq
        · replace hq := hq.2 c_13
          refine j_bipush 75 C dX5_program_73 rfl bc_m100 ?_
          refine j_aload_n 76 C dX5_program_75 rfl 0 rfl ?_
          refine j_get 79 C uX5 0 rfl rfl 14 (Nat.le_of_ble_eq_true rfl) lX5_81 (v := .int (v_12 4)) rfl dX5_program_76 rfl ?_
          refine j_iload 81 C dX5_program_79 rfl 6 rfl ?_
          refine j_isub 82 C dX5_program_81 rfl ?_
          refine j_isub 83 C dX5_program_82 rfl ?_
          exact hR _ _ _ f_11 v_12 dX5_program_83 hq
      · replace hq := hq.2 c_7
        refine j_aload_n 41 C dX5_program_40 rfl 0 rfl ?_
        refine j_iload 43 C dX5_program_41 rfl 5 rfl ?_
        refine j_callVi 46 C [] [] (fun f' v' => (wE G h f' v')) (As := [.int r_6]) (m_X5_fails G h r_6 f v_1 hq) oX5_fails kX5_95 ⟨rfl, rfl⟩ eX5_fails ⟨Nat.le_of_ble_eq_true rfl, Nat.le_of_ble_eq_true rfl⟩ ⟨Nat.zero_le _, Nat.zero_le _⟩ (List.append_nil _).symm (fun _ _ => List.append_nil _) (fun _ _ => rfl) 0 rfl rfl rfl (Nat.le_of_ble_eq_true rfl) dX5_program_43 rfl (fun r_51 f_52 v_53 hq => ?_)
        exact hR _ _ _ f_52 v_53 dX5_program_46 hq
    · replace hq := hq.2 c_5
      refine j_bipush 23 C dX5_program_21 rfl bc_m2 ?_
      exact hR _ _ _ f v_1 dX5_program_23 hq
  · replace hq := hq.2 c_3
    refine j_iconst 13 C dX5_program_12 rfl ic_m1 ?_
    exact hR _ _ _ f v_1 dX5_program_13 hq
def Q_X5_weightOf (p0 : Int32) (f : FF) (v : VV) (post : Int32 → Prop) : Prop := vp_in p0 7 ∧ (((¬ ((f 6) (p0).toNatClampNeg) = 0 → (vp_in p0 7 ∧ (((¬ ((f 6) (p0).toNatClampNeg) = (1 : Int32) → (vp_in p0 7 ∧ (post ((2 : Int32) * ((f 7) (p0).toNatClampNeg))))) ∧ (((f 6) (p0).toNatClampNeg) = (1 : Int32) → (vp_in p0 7 ∧ (post (((f 7) (p0).toNatClampNeg) + (1 : Int32))))))))) ∧ (((f 6) (p0).toNatClampNeg) = 0 → (vp_in p0 7 ∧ (post ((f 7) (p0).toNatClampNeg))))))
set_option maxRecDepth 100000 in
set_option maxHeartbeats 4000000 in
theorem m_X5_weightOf {l : Launch} (G : Gx) (h : Nat → Nat) (p0 : Int32) (f : FF) (v : VV) {post : Int32 → Prop} (hq : Q_X5_weightOf p0 f v post) : MetI l yX5_weightOf (gC yX5_weightOf cX5_weightOf 2 (some .int)) rmX5_weightOf G [.ref (h 0), .int p0] (wE G h) f v (fun r f' v' => post r ∧ f' = f ∧ v' = v) := by
  refine met_i (own := RX5) (by decide) rfl (Nat.le_of_ble_eq_true rfl) (fun κ hκ C hR => ?_)
  unfold Q_X5_weightOf at hq
  subst hκ
  show J κ 0 0 (wE G h f v) 0 [(0, .ref (h 0)), (1, .int p0)] []
  refine j_aload_n 1 C dX5_weightOf_0 rfl 0 rfl ?_
  refine j_get 4 C uX5 0 rfl rfl 10 (Nat.le_of_ble_eq_true rfl) lX5_28 (v := .ref (h 7)) rfl dX5_weightOf_1 rfl ?_
  refine j_iload_n 5 C dX5_weightOf_4 rfl 1 rfl ?_
  obtain ⟨hi_1, hq⟩ := hq
  refine j_iald 6 C 7 (f := (f 6)) rfl hi_1 dX5_weightOf_5 rfl ?_
  refine j_if_ne 9 18 C dX5_weightOf_6 rfl rfl (fun c_2 => ?_) (fun c_2 => ?_)
  · replace hq := hq.1 c_2
    refine j_aload_n 19 C dX5_weightOf_18 rfl 0 rfl ?_
    refine j_get 22 C uX5 0 rfl rfl 10 (Nat.le_of_ble_eq_true rfl) lX5_28 (v := .ref (h 7)) rfl dX5_weightOf_19 rfl ?_
    refine j_iload_n 23 C dX5_weightOf_22 rfl 1 rfl ?_
    obtain ⟨hi_3, hq⟩ := hq
    refine j_iald 24 C 7 (f := (f 6)) rfl hi_3 dX5_weightOf_23 rfl ?_
    refine j_iconst 25 C dX5_weightOf_24 rfl ic_1 ?_
    refine j_icmp_ne 28 39 C dX5_weightOf_25 rfl rfl (fun c_4 => ?_) (fun c_4 => ?_)
    · replace hq := hq.1 c_4
      refine j_iconst 40 C dX5_weightOf_39 rfl ic_2 ?_
      refine j_aload_n 41 C dX5_weightOf_40 rfl 0 rfl ?_
      refine j_get 44 C uX5 0 rfl rfl 11 (Nat.le_of_ble_eq_true rfl) lX5_31 (v := .ref (h 8)) rfl dX5_weightOf_41 rfl ?_
      refine j_iload_n 45 C dX5_weightOf_44 rfl 1 rfl ?_
      obtain ⟨hi_5, hq⟩ := hq
      refine j_iald 46 C 8 (f := (f 7)) rfl hi_5 dX5_weightOf_45 rfl ?_
      refine j_imul 47 C dX5_weightOf_46 rfl ?_
      exact hR _ _ _ f v dX5_weightOf_47 ⟨hq, rfl, rfl⟩
    · replace hq := hq.2 c_4
      refine j_aload_n 29 C dX5_weightOf_28 rfl 0 rfl ?_
      refine j_get 32 C uX5 0 rfl rfl 11 (Nat.le_of_ble_eq_true rfl) lX5_31 (v := .ref (h 8)) rfl dX5_weightOf_29 rfl ?_
      refine j_iload_n 33 C dX5_weightOf_32 rfl 1 rfl ?_
      obtain ⟨hi_6, hq⟩ := hq
      refine j_iald 34 C 8 (f := (f 7)) rfl hi_6 dX5_weightOf_33 rfl ?_
      refine j_iconst 35 C dX5_weightOf_34 rfl ic_1 ?_
      refine j_iadd 36 C dX5_weightOf_35 rfl ?_
      refine j_goto 47 C dX5_weightOf_36 rfl ?_
      exact hR _ _ _ f v dX5_weightOf_47 ⟨hq, rfl, rfl⟩
  · replace hq := hq.2 c_2
    refine j_aload_n 10 C dX5_weightOf_9 rfl 0 rfl ?_
    refine j_get 13 C uX5 0 rfl rfl 11 (Nat.le_of_ble_eq_true rfl) lX5_31 (v := .ref (h 8)) rfl dX5_weightOf_10 rfl ?_
    refine j_iload_n 14 C dX5_weightOf_13 rfl 1 rfl ?_
    obtain ⟨hi_7, hq⟩ := hq
    refine j_iald 15 C 8 (f := (f 7)) rfl hi_7 dX5_weightOf_14 rfl ?_
    refine j_goto 47 C dX5_weightOf_15 rfl ?_
    exact hR _ _ _ f v dX5_weightOf_47 ⟨hq, rfl, rfl⟩
def Q_X5_makes (p0 : Int32) (p1 : Int32) (p2 : Int32) (post : Int32 → Prop) : Prop := ((p0 = (0 : Int32) → (post ((p1 + p2) - (p1 + p2) / (10 : Int32) * (10 : Int32)))) ∧ (¬ p0 = (0 : Int32) → (((p0 = (1 : Int32) → (((p2 ≤ p1 → (post (p1 - p2))) ∧ (¬ p2 ≤ p1 → (post ((p1 - p2) + (10 : Int32))))))) ∧ (¬ p0 = (1 : Int32) → (((p0 = (2 : Int32) → (post ((p1 * p2) - (p1 * p2) / (10 : Int32) * (10 : Int32)))) ∧ (¬ p0 = (2 : Int32) → (((p0 = (3 : Int32) → (((p1 ≤ p2 → (post p2)) ∧ (¬ p1 ≤ p2 → (post p1))))) ∧ (¬ p0 = (3 : Int32) → (((p2 ≤ p1 → (post p2)) ∧ (¬ p2 ≤ p1 → (post p1)))))))))))))))
set_option maxRecDepth 100000 in
set_option maxHeartbeats 4000000 in
theorem m_X5_makes {l : Launch} (G : Gx) (p0 : Int32) (p1 : Int32) (p2 : Int32) {post : Int32 → Prop} (hq : Q_X5_makes p0 p1 p2 post) : MetI l yX5_makes (gC yX5_makes cX5_makes 3 (some .int)) rmX5_makes G [.int p0, .int p1, .int p2] w0 f0 v0 (fun r _ _ => post r) := by
  refine met_i (own := RX5) (by decide) rfl (Nat.le_of_ble_eq_true rfl) (fun κ hκ C hR => ?_)
  unfold Q_X5_makes at hq
  subst hκ
  show J κ 0 0 [] 0 [(0, .int p0), (1, .int p1), (2, .int p2)] []
  refine j_iload_n 1 C dX5_makes_0 rfl 0 rfl ?_
  by_cases c_1 : p0 = (0 : Int32)
  · replace hq := hq.1 c_1
    refine j_tableIn 32 C (0 : Int32) dX5_makes_1 c_1 (by decide) (by decide) rfl rfl ?_
    refine j_iload_n 33 C dX5_makes_32 rfl 1 rfl ?_
    refine j_iload_n 34 C dX5_makes_33 rfl 2 rfl ?_
    refine j_iadd 35 C dX5_makes_34 rfl ?_
    refine j_bipush 37 C dX5_makes_35 rfl bc_10 ?_
    refine j_irem 38 C dX5_makes_37 rfl (by decide) ?_
    exact hR _ _ _ f0 v0 dX5_makes_38 hq
  · replace hq := hq.2 c_1
    by_cases c_2 : p0 = (1 : Int32)
    · replace hq := hq.1 c_2
      refine j_tableIn 39 C (1 : Int32) dX5_makes_1 c_2 (by decide) (by decide) rfl rfl ?_
      refine j_iload_n 40 C dX5_makes_39 rfl 1 rfl ?_
      refine j_iload_n 41 C dX5_makes_40 rfl 2 rfl ?_
      refine j_icmp_ge 44 53 C dX5_makes_41 rfl rfl (fun c_3 => ?_) (fun c_3 => ?_)
      · replace hq := hq.1 c_3
        refine j_iload_n 54 C dX5_makes_53 rfl 1 rfl ?_
        refine j_iload_n 55 C dX5_makes_54 rfl 2 rfl ?_
        refine j_isub 56 C dX5_makes_55 rfl ?_
        exact hR _ _ _ f0 v0 dX5_makes_56 hq
      · replace hq := hq.2 c_3
        refine j_iload_n 45 C dX5_makes_44 rfl 1 rfl ?_
        refine j_iload_n 46 C dX5_makes_45 rfl 2 rfl ?_
        refine j_isub 47 C dX5_makes_46 rfl ?_
        refine j_bipush 49 C dX5_makes_47 rfl bc_10 ?_
        refine j_iadd 50 C dX5_makes_49 rfl ?_
        refine j_goto 56 C dX5_makes_50 rfl ?_
        exact hR _ _ _ f0 v0 dX5_makes_56 hq
    · replace hq := hq.2 c_2
      by_cases c_4 : p0 = (2 : Int32)
      · replace hq := hq.1 c_4
        refine j_tableIn 57 C (2 : Int32) dX5_makes_1 c_4 (by decide) (by decide) rfl rfl ?_
        refine j_iload_n 58 C dX5_makes_57 rfl 1 rfl ?_
        refine j_iload_n 59 C dX5_makes_58 rfl 2 rfl ?_
        refine j_imul 60 C dX5_makes_59 rfl ?_
        refine j_bipush 62 C dX5_makes_60 rfl bc_10 ?_
        refine j_irem 63 C dX5_makes_62 rfl (by decide) ?_
        exact hR _ _ _ f0 v0 dX5_makes_63 hq
      · replace hq := hq.2 c_4
        by_cases c_5 : p0 = (3 : Int32)
        · replace hq := hq.1 c_5
          refine j_tableIn 64 C (3 : Int32) dX5_makes_1 c_5 (by decide) (by decide) rfl rfl ?_
          refine j_iload_n 65 C dX5_makes_64 rfl 1 rfl ?_
          refine j_iload_n 66 C dX5_makes_65 rfl 2 rfl ?_
          refine j_icmp_le 69 73 C dX5_makes_66 rfl rfl (fun c_6 => ?_) (fun c_6 => ?_)
          · replace hq := hq.1 c_6
            refine j_iload_n 74 C dX5_makes_73 rfl 2 rfl ?_
            exact hR _ _ _ f0 v0 dX5_makes_74 hq
          · replace hq := hq.2 c_6
            refine j_iload_n 70 C dX5_makes_69 rfl 1 rfl ?_
            refine j_goto 74 C dX5_makes_70 rfl ?_
            exact hR _ _ _ f0 v0 dX5_makes_74 hq
        · replace hq := hq.2 c_5
          have zc_1 := ne_toInt (z := 0) (by decide) c_1
          have zc_2 := ne_toInt (z := 1) (by decide) c_2
          have zc_4 := ne_toInt (z := 2) (by decide) c_4
          have zc_5 := ne_toInt (z := 3) (by decide) c_5
          refine j_tableOut 75 C dX5_makes_1 (by omega) rfl ?_
          refine j_iload_n 76 C dX5_makes_75 rfl 1 rfl ?_
          refine j_iload_n 77 C dX5_makes_76 rfl 2 rfl ?_
          refine j_icmp_ge 80 84 C dX5_makes_77 rfl rfl (fun c_7 => ?_) (fun c_7 => ?_)
          · replace hq := hq.1 c_7
            refine j_iload_n 85 C dX5_makes_84 rfl 2 rfl ?_
            exact hR _ _ _ f0 v0 dX5_makes_85 hq
          · replace hq := hq.2 c_7
            refine j_iload_n 81 C dX5_makes_80 rfl 1 rfl ?_
            refine j_goto 85 C dX5_makes_81 rfl ?_
            exact hR _ _ _ f0 v0 dX5_makes_85 hq
def Q_X5_sourceOf (p0 : Int32) (p1 : Int32) (p2 : Int32) (f : FF) (v : VV) (post : Int32 → Prop) : Prop := ((¬ p0 = (5 : Int32) → (((¬ p0 = (6 : Int32) → (vp_in p0 5 ∧ (post ((f 12) (p0).toNatClampNeg)))) ∧ (p0 = (6 : Int32) → (post p2))))) ∧ (p0 = (5 : Int32) → (post p1)))
set_option maxRecDepth 100000 in
set_option maxHeartbeats 4000000 in
theorem m_X5_sourceOf {l : Launch} (G : Gx) (h : Nat → Nat) (p0 : Int32) (p1 : Int32) (p2 : Int32) (f : FF) (v : VV) {post : Int32 → Prop} (hq : Q_X5_sourceOf p0 p1 p2 f v post) : MetI l yX5_sourceOf (gC yX5_sourceOf cX5_sourceOf 4 (some .int)) rmX5_sourceOf G [.ref (h 0), .int p0, .int p1, .int p2] (wE G h) f v (fun r f' v' => post r ∧ f' = f ∧ v' = v) := by
  refine met_i (own := RX5) (by decide) rfl (Nat.le_of_ble_eq_true rfl) (fun κ hκ C hR => ?_)
  unfold Q_X5_sourceOf at hq
  subst hκ
  show J κ 0 0 (wE G h f v) 0 [(0, .ref (h 0)), (1, .int p0), (2, .int p1), (3, .int p2)] []
  refine j_iload_n 1 C dX5_sourceOf_0 rfl 1 rfl ?_
  refine j_iconst 2 C dX5_sourceOf_1 rfl ic_5 ?_
  refine j_icmp_ne 5 9 C dX5_sourceOf_2 rfl rfl (fun c_1 => ?_) (fun c_1 => ?_)
  · replace hq := hq.1 c_1
    refine j_iload_n 10 C dX5_sourceOf_9 rfl 1 rfl ?_
    refine j_bipush 12 C dX5_sourceOf_10 rfl bc_6 ?_
    refine j_icmp_ne 15 19 C dX5_sourceOf_12 rfl rfl (fun c_2 => ?_) (fun c_2 => ?_)
    · replace hq := hq.1 c_2
      refine j_aload_n 20 C dX5_sourceOf_19 rfl 0 rfl ?_
      refine j_get 23 C uX5 0 rfl rfl 19 (Nat.le_of_ble_eq_true rfl) lX5_46 (v := .ref (h 13)) rfl dX5_sourceOf_20 rfl ?_
      refine j_iload_n 24 C dX5_sourceOf_23 rfl 1 rfl ?_
      obtain ⟨hi_3, hq⟩ := hq
      refine j_iald 25 C 13 (f := (f 12)) rfl hi_3 dX5_sourceOf_24 rfl ?_
      exact hR _ _ _ f v dX5_sourceOf_25 ⟨hq, rfl, rfl⟩
    · replace hq := hq.2 c_2
      refine j_iload_n 16 C dX5_sourceOf_15 rfl 3 rfl ?_
      refine j_goto 25 C dX5_sourceOf_16 rfl ?_
      exact hR _ _ _ f v dX5_sourceOf_25 ⟨hq, rfl, rfl⟩
  · replace hq := hq.2 c_1
    refine j_iload_n 6 C dX5_sourceOf_5 rfl 2 rfl ?_
    refine j_goto 25 C dX5_sourceOf_6 rfl ?_
    exact hR _ _ _ f v dX5_sourceOf_25 ⟨hq, rfl, rfl⟩
def Q_X5_runs_L3 (x1 : Int32) (x2 : Int32) (x3 : Int32) (x4 : Int32) (K72 : Int32 → FF → VV → Prop) : Nat → Int32 → FF → VV → Prop
  | 0, _, _, _ => False
  | n + 1, x5, f, v => (((v 2) ≤ x5 → (K72 x5 f v)) ∧ (¬ (v 2) ≤ x5 → (((¬ x5 = x3 → (vp_in x5 5 ∧ (vp_in x5 5 ∧ (Q_X5_sourceOf ((f 4) (x5).toNatClampNeg) x1 x2 f v (fun r_5 => (vp_in x5 5 ∧ (Q_X5_sourceOf ((f 5) (x5).toNatClampNeg) x1 x2 f v (fun r_7 => (Q_X5_makes ((f 3) (x5).toNatClampNeg) r_5 r_7 (fun r_8 => (vp_in x5 5 ∧ (∀ f_10 : FF, f_10 = fu f 12 (wr (f 12) x5 r_8) → (∀ x_11 : Int32, x_11 = (x5 + (1 : Int32)) → (Q_X5_runs_L3 x1 x2 x3 x4 K72 n x_11 f_10 v)))))))))))))) ∧ (x5 = x3 → (vp_in x5 5 ∧ (Q_X5_sourceOf ((f 4) (x5).toNatClampNeg) x1 x2 f v (fun r_13 => (vp_in x5 5 ∧ (Q_X5_sourceOf ((f 5) (x5).toNatClampNeg) x1 x2 f v (fun r_15 => (Q_X5_makes x4 r_13 r_15 (fun r_16 => (vp_in x5 5 ∧ (∀ f_18 : FF, f_18 = fu f 12 (wr (f 12) x5 r_16) → (∀ x_19 : Int32, x_19 = (x5 + (1 : Int32)) → (Q_X5_runs_L3 x1 x2 x3 x4 K72 n x_19 f_18 v)))))))))))))))))
set_option maxRecDepth 100000 in
set_option maxHeartbeats 4000000 in
theorem t_X5_runs_L3 {κ : Kx} {G : Gx} {h : Nat → Nat} (C : Cx κ G RX5 cX5_runs rmX5_runs 6) {x1 : Int32} {x2 : Int32} {x3 : Int32} {x4 : Int32} {K72 : Int32 → FF → VV → Prop} (hK72 : ∀ (x5 : Int32) (f : FF) (v : VV), K72 x5 f v → J κ 0 0 (wE G h f v) 72 [(0, .ref (h 0)), (1, .int x1), (2, .int x2), (3, .int x3), (4, .int x4), (5, .int x5)] []) : ∀ (n : Nat) (x5 : Int32) (f : FF) (v : VV), Q_X5_runs_L3 x1 x2 x3 x4 K72 n x5 f v → J κ 0 0 (wE G h f v) 3 [(0, .ref (h 0)), (1, .int x1), (2, .int x2), (3, .int x3), (4, .int x4), (5, .int x5)] [] := by
  intro n
  induction n with
  | zero => intro x5 f v hq; exact False.elim hq
  | succ n ih =>
    intro x5 f v hq
    rw [Q_X5_runs_L3] at hq
    refine j_iload 5 C dX5_runs_3 rfl 5 rfl ?_
    refine j_aload_n 6 C dX5_runs_5 rfl 0 rfl ?_
    refine j_get 9 C uX5 0 rfl rfl 5 (Nat.le_of_ble_eq_true rfl) lX5_71 (v := .int (v 2)) rfl dX5_runs_6 rfl ?_
    refine j_icmp_ge 12 72 C dX5_runs_9 rfl rfl (fun c_1 => ?_) (fun c_1 => ?_)
    · replace hq := hq.1 c_1
      refine J.l0 [0, 1, 2, 3, 4, 5] rfl ?_
      exact hK72 _ _ _ hq
    · replace hq := hq.2 c_1
      refine j_aload_n 13 C dX5_runs_12 rfl 0 rfl ?_
      refine j_get 16 C uX5 0 rfl rfl 19 (Nat.le_of_ble_eq_true rfl) lX5_46 (v := .ref (h 13)) rfl dX5_runs_13 rfl ?_
      refine j_iload 18 C dX5_runs_16 rfl 5 rfl ?_
      refine j_iload 20 C dX5_runs_18 rfl 5 rfl ?_
      refine j_iload_n 21 C dX5_runs_20 rfl 3 rfl ?_
      refine j_icmp_ne 24 29 C dX5_runs_21 rfl rfl (fun c_2 => ?_) (fun c_2 => ?_)
      · replace hq := hq.1 c_2
        refine j_aload_n 30 C dX5_runs_29 rfl 0 rfl ?_
        refine j_get 33 C uX5 0 rfl rfl 7 (Nat.le_of_ble_eq_true rfl) lX5_19 (v := .ref (h 4)) rfl dX5_runs_30 rfl ?_
        refine j_iload 35 C dX5_runs_33 rfl 5 rfl ?_
        obtain ⟨hi_3, hq⟩ := hq
        refine j_iald 36 C 4 (f := (f 3)) rfl hi_3 dX5_runs_35 rfl ?_
        refine j_aload_n 37 C dX5_runs_36 rfl 0 rfl ?_
        refine j_aload_n 38 C dX5_runs_37 rfl 0 rfl ?_
        refine j_get 41 C uX5 0 rfl rfl 8 (Nat.le_of_ble_eq_true rfl) lX5_22 (v := .ref (h 5)) rfl dX5_runs_38 rfl ?_
        refine j_iload 43 C dX5_runs_41 rfl 5 rfl ?_
        obtain ⟨hi_4, hq⟩ := hq
        refine j_iald 44 C 5 (f := (f 4)) rfl hi_4 dX5_runs_43 rfl ?_
        refine j_iload_n 45 C dX5_runs_44 rfl 1 rfl ?_
        refine j_iload_n 46 C dX5_runs_45 rfl 2 rfl ?_
        refine j_callVi_ro 49 C [] [] (As := [.int ((f 4) (x5).toNatClampNeg), .int x1, .int x2]) (m_X5_sourceOf G h ((f 4) (x5).toNatClampNeg) x1 x2 f v hq) oX5_sourceOf kX5_124 ⟨rfl, rfl⟩ eX5_sourceOf ⟨Nat.le_of_ble_eq_true rfl, Nat.le_of_ble_eq_true rfl⟩ ⟨Nat.zero_le _, Nat.zero_le _⟩ (List.append_nil _).symm (fun _ _ => rfl) 0 rfl rfl rfl (Nat.le_of_ble_eq_true rfl) dX5_runs_46 rfl (fun r_5 hq => ?_)
        refine j_aload_n 50 C dX5_runs_49 rfl 0 rfl ?_
        refine j_aload_n 51 C dX5_runs_50 rfl 0 rfl ?_
        refine j_get 54 C uX5 0 rfl rfl 9 (Nat.le_of_ble_eq_true rfl) lX5_25 (v := .ref (h 6)) rfl dX5_runs_51 rfl ?_
        refine j_iload 56 C dX5_runs_54 rfl 5 rfl ?_
        obtain ⟨hi_6, hq⟩ := hq
        refine j_iald 57 C 6 (f := (f 5)) rfl hi_6 dX5_runs_56 rfl ?_
        refine j_iload_n 58 C dX5_runs_57 rfl 1 rfl ?_
        refine j_iload_n 59 C dX5_runs_58 rfl 2 rfl ?_
        refine j_callVi_ro 62 C [] [] (As := [.int ((f 5) (x5).toNatClampNeg), .int x1, .int x2]) (m_X5_sourceOf G h ((f 5) (x5).toNatClampNeg) x1 x2 f v hq) oX5_sourceOf kX5_124 ⟨rfl, rfl⟩ eX5_sourceOf ⟨Nat.le_of_ble_eq_true rfl, Nat.le_of_ble_eq_true rfl⟩ ⟨Nat.zero_le _, Nat.zero_le _⟩ (List.append_nil _).symm (fun _ _ => rfl) 0 rfl rfl rfl (Nat.le_of_ble_eq_true rfl) dX5_runs_59 rfl (fun r_7 hq => ?_)
        refine j_callSi 65 C [] (wE G h f v) (fun _ _ => (wE G h f v)) (As := [.int ((f 3) (x5).toNatClampNeg), .int r_5, .int r_7]) (m_X5_makes G ((f 3) (x5).toNatClampNeg) r_5 r_7 hq) oX5_makes kX5_128 ⟨rfl, rfl⟩ eX5_makes ⟨Nat.le_of_ble_eq_true rfl, Nat.le_of_ble_eq_true rfl⟩ ⟨Nat.zero_le _, Nat.zero_le _⟩ rfl (fun _ _ => rfl) (fun _ _ => rfl) rfl (Nat.le_of_ble_eq_true rfl) dX5_runs_62 rfl (fun r_8 _ _ hq => ?_)
        obtain ⟨hi_9, hq⟩ := hq
        obtain ⟨f_10, ef_10⟩ : ∃ y : FF, y = fu f 12 (wr (f 12) x5 r_8) := ⟨_, rfl⟩
        replace hq := hq f_10 ef_10
        refine j_iast 66 C 13 rfl hi_9 dX5_runs_65 rfl (ws' := (wE G h f_10 v)) (by subst ef_10; rfl) ?_
        obtain ⟨x_11, ex_11⟩ : ∃ y : Int32, y = (x5 + (1 : Int32)) := ⟨_, rfl⟩
        replace hq := hq x_11 ex_11
        refine j_iinc 69 C dX5_runs_66 rfl 5 rfl (v := x_11) (by rw [ex_11]; rfl) (Nat.le_of_ble_eq_true rfl) [1, 2, 3, 4, 5, 0] (lv' := [(0, .ref (h 0)), (1, .int x1), (2, .int x2), (3, .int x3), (4, .int x4), (5, .int x_11)]) rfl ?_
        refine j_goto 3 C dX5_runs_69 rfl ?_
        refine J.l0 [0, 1, 2, 3, 4, 5] rfl ?_
        exact ih _ _ _ hq
      · replace hq := hq.2 c_2
        refine j_iload 26 C dX5_runs_24 rfl 4 rfl ?_
        refine j_goto 36 C dX5_runs_26 rfl ?_
        refine j_aload_n 37 C dX5_runs_36 rfl 0 rfl ?_
        refine j_aload_n 38 C dX5_runs_37 rfl 0 rfl ?_
        refine j_get 41 C uX5 0 rfl rfl 8 (Nat.le_of_ble_eq_true rfl) lX5_22 (v := .ref (h 5)) rfl dX5_runs_38 rfl ?_
        refine j_iload 43 C dX5_runs_41 rfl 5 rfl ?_
        obtain ⟨hi_12, hq⟩ := hq
        refine j_iald 44 C 5 (f := (f 4)) rfl hi_12 dX5_runs_43 rfl ?_
        refine j_iload_n 45 C dX5_runs_44 rfl 1 rfl ?_
        refine j_iload_n 46 C dX5_runs_45 rfl 2 rfl ?_
        refine j_callVi_ro 49 C [] [] (As := [.int ((f 4) (x5).toNatClampNeg), .int x1, .int x2]) (m_X5_sourceOf G h ((f 4) (x5).toNatClampNeg) x1 x2 f v hq) oX5_sourceOf kX5_124 ⟨rfl, rfl⟩ eX5_sourceOf ⟨Nat.le_of_ble_eq_true rfl, Nat.le_of_ble_eq_true rfl⟩ ⟨Nat.zero_le _, Nat.zero_le _⟩ (List.append_nil _).symm (fun _ _ => rfl) 0 rfl rfl rfl (Nat.le_of_ble_eq_true rfl) dX5_runs_46 rfl (fun r_13 hq => ?_)
        refine j_aload_n 50 C dX5_runs_49 rfl 0 rfl ?_
        refine j_aload_n 51 C dX5_runs_50 rfl 0 rfl ?_
        refine j_get 54 C uX5 0 rfl rfl 9 (Nat.le_of_ble_eq_true rfl) lX5_25 (v := .ref (h 6)) rfl dX5_runs_51 rfl ?_
        refine j_iload 56 C dX5_runs_54 rfl 5 rfl ?_
        obtain ⟨hi_14, hq⟩ := hq
        refine j_iald 57 C 6 (f := (f 5)) rfl hi_14 dX5_runs_56 rfl ?_
        refine j_iload_n 58 C dX5_runs_57 rfl 1 rfl ?_
        refine j_iload_n 59 C dX5_runs_58 rfl 2 rfl ?_
        refine j_callVi_ro 62 C [] [] (As := [.int ((f 5) (x5).toNatClampNeg), .int x1, .int x2]) (m_X5_sourceOf G h ((f 5) (x5).toNatClampNeg) x1 x2 f v hq) oX5_sourceOf kX5_124 ⟨rfl, rfl⟩ eX5_sourceOf ⟨Nat.le_of_ble_eq_true rfl, Nat.le_of_ble_eq_true rfl⟩ ⟨Nat.zero_le _, Nat.zero_le _⟩ (List.append_nil _).symm (fun _ _ => rfl) 0 rfl rfl rfl (Nat.le_of_ble_eq_true rfl) dX5_runs_59 rfl (fun r_15 hq => ?_)
        refine j_callSi 65 C [] (wE G h f v) (fun _ _ => (wE G h f v)) (As := [.int x4, .int r_13, .int r_15]) (m_X5_makes G x4 r_13 r_15 hq) oX5_makes kX5_128 ⟨rfl, rfl⟩ eX5_makes ⟨Nat.le_of_ble_eq_true rfl, Nat.le_of_ble_eq_true rfl⟩ ⟨Nat.zero_le _, Nat.zero_le _⟩ rfl (fun _ _ => rfl) (fun _ _ => rfl) rfl (Nat.le_of_ble_eq_true rfl) dX5_runs_62 rfl (fun r_16 _ _ hq => ?_)
        obtain ⟨hi_17, hq⟩ := hq
        obtain ⟨f_18, ef_18⟩ : ∃ y : FF, y = fu f 12 (wr (f 12) x5 r_16) := ⟨_, rfl⟩
        replace hq := hq f_18 ef_18
        refine j_iast 66 C 13 rfl hi_17 dX5_runs_65 rfl (ws' := (wE G h f_18 v)) (by subst ef_18; rfl) ?_
        obtain ⟨x_19, ex_19⟩ : ∃ y : Int32, y = (x5 + (1 : Int32)) := ⟨_, rfl⟩
        replace hq := hq x_19 ex_19
        refine j_iinc 69 C dX5_runs_66 rfl 5 rfl (v := x_19) (by rw [ex_19]; rfl) (Nat.le_of_ble_eq_true rfl) [1, 2, 3, 4, 5, 0] (lv' := [(0, .ref (h 0)), (1, .int x1), (2, .int x2), (3, .int x3), (4, .int x4), (5, .int x_19)]) rfl ?_
        refine j_goto 3 C dX5_runs_69 rfl ?_
        refine J.l0 [0, 1, 2, 3, 4, 5] rfl ?_
        exact ih _ _ _ hq
def Q_X5_runs (p0 : Int32) (p1 : Int32) (p2 : Int32) (p3 : Int32) (f : FF) (v : VV) (post : Int32 → FF → VV → Prop) : Prop := ∃ n_20 : Nat, Q_X5_runs_L3 p0 p1 p2 p3 (fun x_21 f_22 v_23 => (vp_in ((v_23 2) - (1 : Int32)) 5 ∧ (post ((f_22 12) (((v_23 2) - (1 : Int32))).toNatClampNeg) f_22 v_23))) n_20 (0 : Int32) f v
set_option maxRecDepth 100000 in
set_option maxHeartbeats 4000000 in
theorem m_X5_runs {l : Launch} (G : Gx) (h : Nat → Nat) (p0 : Int32) (p1 : Int32) (p2 : Int32) (p3 : Int32) (f : FF) (v : VV) {post : Int32 → FF → VV → Prop} (hq : Q_X5_runs p0 p1 p2 p3 f v post) : MetI l yX5_runs (gC yX5_runs cX5_runs 6 (some .int)) rmX5_runs G [.ref (h 0), .int p0, .int p1, .int p2, .int p3] (wE G h) f v post := by
  refine met_i (own := RX5) (by decide) rfl (Nat.le_of_ble_eq_true rfl) (fun κ hκ C hR => ?_)
  unfold Q_X5_runs at hq
  subst hκ
  show J κ 0 0 (wE G h f v) 0 [(0, .ref (h 0)), (1, .int p0), (2, .int p1), (3, .int p2), (4, .int p3)] []
  refine j_iconst 1 C dX5_runs_0 rfl ic_0 ?_
  refine j_istore 3 C dX5_runs_1 rfl (Nat.le_of_ble_eq_true rfl) [1, 2, 3, 4, 5, 0] (lv' := [(0, .ref (h 0)), (1, .int p0), (2, .int p1), (3, .int p2), (4, .int p3), (5, .int (0 : Int32))]) rfl ?_
  obtain ⟨n_20, hq⟩ := hq
  refine t_X5_runs_L3 C ?_ n_20 _ _ _ hq
  · intro x_21 f_22 v_23 hq
    refine j_aload_n 73 C dX5_runs_72 rfl 0 rfl ?_
    refine j_get 76 C uX5 0 rfl rfl 19 (Nat.le_of_ble_eq_true rfl) lX5_46 (v := .ref (h 13)) rfl dX5_runs_73 rfl ?_
    refine j_aload_n 77 C dX5_runs_76 rfl 0 rfl ?_
    refine j_get 80 C uX5 0 rfl rfl 5 (Nat.le_of_ble_eq_true rfl) lX5_71 (v := .int (v_23 2)) rfl dX5_runs_77 rfl ?_
    refine j_iconst 81 C dX5_runs_80 rfl ic_1 ?_
    refine j_isub 82 C dX5_runs_81 rfl ?_
    obtain ⟨hi_24, hq⟩ := hq
    refine j_iald 83 C 13 (f := (f_22 12)) rfl hi_24 dX5_runs_82 rfl ?_
    exact hR _ _ _ f_22 v_23 dX5_runs_83 hq
def Q_X5_stepOf (p0 : Int32) (post : Int32 → Prop) : Prop := post (p0 / (4 : Int32))
set_option maxRecDepth 100000 in
set_option maxHeartbeats 4000000 in
theorem m_X5_stepOf {l : Launch} (G : Gx) (p0 : Int32) {post : Int32 → Prop} (hq : Q_X5_stepOf p0 post) : MetI l yX5_stepOf (gC yX5_stepOf cX5_stepOf 1 (some .int)) rmX5_stepOf G [.int p0] w0 f0 v0 (fun r _ _ => post r) := by
  refine met_i (own := RX5) (by decide) rfl (Nat.le_of_ble_eq_true rfl) (fun κ hκ C hR => ?_)
  unfold Q_X5_stepOf at hq
  subst hκ
  show J κ 0 0 [] 0 [(0, .int p0)] []
  refine j_iload_n 1 C dX5_stepOf_0 rfl 0 rfl ?_
  refine j_iconst 2 C dX5_stepOf_1 rfl ic_4 ?_
  refine j_idiv 3 C dX5_stepOf_2 rfl (by decide) ?_
  exact hR _ _ _ f0 v0 dX5_stepOf_3 hq
def Q_X5_otherWay (p0 : Int32) (f : FF) (v : VV) (post : Int32 → Prop) : Prop := Q_X5_stepOf p0 (fun r_1 => (vp_in r_1 5 ∧ (((((f 3) (r_1).toNatClampNeg) ≤ (p0 - p0 / (4 : Int32) * (4 : Int32)) → (post ((p0 - p0 / (4 : Int32) * (4 : Int32)) + (1 : Int32)))) ∧ (¬ ((f 3) (r_1).toNatClampNeg) ≤ (p0 - p0 / (4 : Int32) * (4 : Int32)) → (post (p0 - p0 / (4 : Int32) * (4 : Int32))))))))
set_option maxRecDepth 100000 in
set_option maxHeartbeats 4000000 in
theorem m_X5_otherWay {l : Launch} (G : Gx) (h : Nat → Nat) (p0 : Int32) (f : FF) (v : VV) {post : Int32 → Prop} (hq : Q_X5_otherWay p0 f v post) : MetI l yX5_otherWay (gC yX5_otherWay cX5_otherWay 2 (some .int)) rmX5_otherWay G [.ref (h 0), .int p0] (wE G h) f v (fun r f' v' => post r ∧ f' = f ∧ v' = v) := by
  refine met_i (own := RX5) (by decide) rfl (Nat.le_of_ble_eq_true rfl) (fun κ hκ C hR => ?_)
  unfold Q_X5_otherWay at hq
  subst hκ
  show J κ 0 0 (wE G h f v) 0 [(0, .ref (h 0)), (1, .int p0)] []
  refine j_iload_n 1 C dX5_otherWay_0 rfl 1 rfl ?_
  refine j_iconst 2 C dX5_otherWay_1 rfl ic_4 ?_
  refine j_irem 3 C dX5_otherWay_2 rfl (by decide) ?_
  refine j_aload_n 4 C dX5_otherWay_3 rfl 0 rfl ?_
  refine j_get 7 C uX5 0 rfl rfl 7 (Nat.le_of_ble_eq_true rfl) lX5_19 (v := .ref (h 4)) rfl dX5_otherWay_4 rfl ?_
  refine j_iload_n 8 C dX5_otherWay_7 rfl 1 rfl ?_
  refine j_callSi 11 C [] (wE G h f v) (fun _ _ => (wE G h f v)) (As := [.int p0]) (m_X5_stepOf G p0 hq) oX5_stepOf kX5_131 ⟨rfl, rfl⟩ eX5_stepOf ⟨Nat.le_of_ble_eq_true rfl, Nat.le_of_ble_eq_true rfl⟩ ⟨Nat.zero_le _, Nat.zero_le _⟩ rfl (fun _ _ => rfl) (fun _ _ => rfl) rfl (Nat.le_of_ble_eq_true rfl) dX5_otherWay_8 rfl (fun r_1 _ _ hq => ?_)
  obtain ⟨hi_2, hq⟩ := hq
  refine j_iald 12 C 4 (f := (f 3)) rfl hi_2 dX5_otherWay_11 rfl ?_
  refine j_icmp_ge 15 21 C dX5_otherWay_12 rfl rfl (fun c_3 => ?_) (fun c_3 => ?_)
  · replace hq := hq.1 c_3
    refine j_iload_n 22 C dX5_otherWay_21 rfl 1 rfl ?_
    refine j_iconst 23 C dX5_otherWay_22 rfl ic_4 ?_
    refine j_irem 24 C dX5_otherWay_23 rfl (by decide) ?_
    refine j_iconst 25 C dX5_otherWay_24 rfl ic_1 ?_
    refine j_iadd 26 C dX5_otherWay_25 rfl ?_
    exact hR _ _ _ f v dX5_otherWay_26 ⟨hq, rfl, rfl⟩
  · replace hq := hq.2 c_3
    refine j_iload_n 16 C dX5_otherWay_15 rfl 1 rfl ?_
    refine j_iconst 17 C dX5_otherWay_16 rfl ic_4 ?_
    refine j_irem 18 C dX5_otherWay_17 rfl (by decide) ?_
    refine j_goto 26 C dX5_otherWay_18 rfl ?_
    exact hR _ _ _ f v dX5_otherWay_26 ⟨hq, rfl, rfl⟩
def Q_X5_plainRun (p0 : Int32) (p1 : Int32) (f : FF) (v : VV) (post : Int32 → FF → VV → Prop) : Prop := Q_X5_runs p0 p1 (-9 : Int32) (0 : Int32) f v (fun r_1 f_2 v_3 => (post r_1 f_2 v_3))
set_option maxRecDepth 100000 in
set_option maxHeartbeats 4000000 in
theorem m_X5_plainRun {l : Launch} (G : Gx) (h : Nat → Nat) (p0 : Int32) (p1 : Int32) (f : FF) (v : VV) {post : Int32 → FF → VV → Prop} (hq : Q_X5_plainRun p0 p1 f v post) : MetI l yX5_plainRun (gC yX5_plainRun cX5_plainRun 3 (some .int)) rmX5_plainRun G [.ref (h 0), .int p0, .int p1] (wE G h) f v post := by
  refine met_i (own := RX5) (by decide) rfl (Nat.le_of_ble_eq_true rfl) (fun κ hκ C hR => ?_)
  unfold Q_X5_plainRun at hq
  subst hκ
  show J κ 0 0 (wE G h f v) 0 [(0, .ref (h 0)), (1, .int p0), (2, .int p1)] []
  refine j_aload_n 1 C dX5_plainRun_0 rfl 0 rfl ?_
  refine j_iload_n 2 C dX5_plainRun_1 rfl 1 rfl ?_
  refine j_iload_n 3 C dX5_plainRun_2 rfl 2 rfl ?_
  refine j_bipush 5 C dX5_plainRun_3 rfl bc_m9 ?_
  refine j_iconst 6 C dX5_plainRun_5 rfl ic_0 ?_
  refine j_callVi 9 C [] [] (fun f' v' => (wE G h f' v')) (As := [.int p0, .int p1, .int (-9 : Int32), .int (0 : Int32)]) (m_X5_runs G h p0 p1 (-9 : Int32) (0 : Int32) f v hq) oX5_runs kX5_134 ⟨rfl, rfl⟩ eX5_runs ⟨Nat.le_of_ble_eq_true rfl, Nat.le_of_ble_eq_true rfl⟩ ⟨Nat.zero_le _, Nat.zero_le _⟩ (List.append_nil _).symm (fun _ _ => List.append_nil _) (fun _ _ => rfl) 0 rfl rfl rfl (Nat.le_of_ble_eq_true rfl) dX5_plainRun_6 rfl (fun r_1 f_2 v_3 hq => ?_)
  exact hR _ _ _ f_2 v_3 dX5_plainRun_9 hq
def Q_X5_mutantRun (p0 : Int32) (p1 : Int32) (p2 : Int32) (f : FF) (v : VV) (post : Int32 → FF → VV → Prop) : Prop := Q_X5_stepOf p0 (fun r_1 => (Q_X5_otherWay p0 f v (fun r_2 => (Q_X5_runs p1 p2 r_1 r_2 f v (fun r_3 f_4 v_5 => (post r_3 f_4 v_5))))))
set_option maxRecDepth 100000 in
set_option maxHeartbeats 4000000 in
theorem m_X5_mutantRun {l : Launch} (G : Gx) (h : Nat → Nat) (p0 : Int32) (p1 : Int32) (p2 : Int32) (f : FF) (v : VV) {post : Int32 → FF → VV → Prop} (hq : Q_X5_mutantRun p0 p1 p2 f v post) : MetI l yX5_mutantRun (gC yX5_mutantRun cX5_mutantRun 4 (some .int)) rmX5_mutantRun G [.ref (h 0), .int p0, .int p1, .int p2] (wE G h) f v post := by
  refine met_i (own := RX5) (by decide) rfl (Nat.le_of_ble_eq_true rfl) (fun κ hκ C hR => ?_)
  unfold Q_X5_mutantRun at hq
  subst hκ
  show J κ 0 0 (wE G h f v) 0 [(0, .ref (h 0)), (1, .int p0), (2, .int p1), (3, .int p2)] []
  refine j_aload_n 1 C dX5_mutantRun_0 rfl 0 rfl ?_
  refine j_iload_n 2 C dX5_mutantRun_1 rfl 2 rfl ?_
  refine j_iload_n 3 C dX5_mutantRun_2 rfl 3 rfl ?_
  refine j_iload_n 4 C dX5_mutantRun_3 rfl 1 rfl ?_
  refine j_callSi 7 C [] (wE G h f v) (fun _ _ => (wE G h f v)) (As := [.int p0]) (m_X5_stepOf G p0 hq) oX5_stepOf kX5_131 ⟨rfl, rfl⟩ eX5_stepOf ⟨Nat.le_of_ble_eq_true rfl, Nat.le_of_ble_eq_true rfl⟩ ⟨Nat.zero_le _, Nat.zero_le _⟩ rfl (fun _ _ => rfl) (fun _ _ => rfl) rfl (Nat.le_of_ble_eq_true rfl) dX5_mutantRun_4 rfl (fun r_1 _ _ hq => ?_)
  refine j_aload_n 8 C dX5_mutantRun_7 rfl 0 rfl ?_
  refine j_iload_n 9 C dX5_mutantRun_8 rfl 1 rfl ?_
  refine j_callVi_ro 12 C [] [] (As := [.int p0]) (m_X5_otherWay G h p0 f v hq) oX5_otherWay kX5_137 ⟨rfl, rfl⟩ eX5_otherWay ⟨Nat.le_of_ble_eq_true rfl, Nat.le_of_ble_eq_true rfl⟩ ⟨Nat.zero_le _, Nat.zero_le _⟩ (List.append_nil _).symm (fun _ _ => rfl) 0 rfl rfl rfl (Nat.le_of_ble_eq_true rfl) dX5_mutantRun_9 rfl (fun r_2 hq => ?_)
  refine j_callVi 15 C [] [] (fun f' v' => (wE G h f' v')) (As := [.int p1, .int p2, .int r_1, .int r_2]) (m_X5_runs G h p1 p2 r_1 r_2 f v hq) oX5_runs kX5_134 ⟨rfl, rfl⟩ eX5_runs ⟨Nat.le_of_ble_eq_true rfl, Nat.le_of_ble_eq_true rfl⟩ ⟨Nat.zero_le _, Nat.zero_le _⟩ (List.append_nil _).symm (fun _ _ => List.append_nil _) (fun _ _ => rfl) 0 rfl rfl rfl (Nat.le_of_ble_eq_true rfl) dX5_mutantRun_12 rfl (fun r_3 f_4 v_5 hq => ?_)
  exact hR _ _ _ f_4 v_5 dX5_mutantRun_15 hq
def Q_X5_kills (p0 : Int32) (p1 : Int32) (f : FF) (v : VV) (post : Int32 → FF → VV → Prop) : Prop := vp_in p0 7 ∧ (vp_in p0 7 ∧ (Q_X5_plainRun ((f 8) (p0).toNatClampNeg) ((f 9) (p0).toNatClampNeg) f v (fun r_3 f_4 v_5 => (vp_in p0 7 ∧ (vp_in p0 7 ∧ (Q_X5_mutantRun p1 ((f_4 8) (p0).toNatClampNeg) ((f_4 9) (p0).toNatClampNeg) f_4 v_5 (fun r_8 f_9 v_10 => (((r_3 = r_8 → (post (0 : Int32) f_9 v_10)) ∧ (¬ r_3 = r_8 → (post (1 : Int32) f_9 v_10)))))))))))
set_option maxRecDepth 100000 in
set_option maxHeartbeats 4000000 in
theorem m_X5_kills {l : Launch} (G : Gx) (h : Nat → Nat) (p0 : Int32) (p1 : Int32) (f : FF) (v : VV) {post : Int32 → FF → VV → Prop} (hq : Q_X5_kills p0 p1 f v post) : MetI l yX5_kills (gC yX5_kills cX5_kills 3 (some .boolean)) rmX5_kills G [.ref (h 0), .int p0, .int p1] (wE G h) f v post := by
  refine met_z (own := RX5) (by decide) rfl (Nat.le_of_ble_eq_true rfl) (fun κ hκ C hR => ?_)
  unfold Q_X5_kills at hq
  subst hκ
  show J κ 0 0 (wE G h f v) 0 [(0, .ref (h 0)), (1, .int p0), (2, .int p1)] []
  refine j_aload_n 1 C dX5_kills_0 rfl 0 rfl ?_
  refine j_aload_n 2 C dX5_kills_1 rfl 0 rfl ?_
  refine j_get 5 C uX5 0 rfl rfl 12 (Nat.le_of_ble_eq_true rfl) lX5_34 (v := .ref (h 9)) rfl dX5_kills_2 rfl ?_
  refine j_iload_n 6 C dX5_kills_5 rfl 1 rfl ?_
  obtain ⟨hi_1, hq⟩ := hq
  refine j_iald 7 C 9 (f := (f 8)) rfl hi_1 dX5_kills_6 rfl ?_
  refine j_aload_n 8 C dX5_kills_7 rfl 0 rfl ?_
  refine j_get 11 C uX5 0 rfl rfl 13 (Nat.le_of_ble_eq_true rfl) lX5_37 (v := .ref (h 10)) rfl dX5_kills_8 rfl ?_
  refine j_iload_n 12 C dX5_kills_11 rfl 1 rfl ?_
  obtain ⟨hi_2, hq⟩ := hq
  refine j_iald 13 C 10 (f := (f 9)) rfl hi_2 dX5_kills_12 rfl ?_
  refine j_callVi 16 C [] [] (fun f' v' => (wE G h f' v')) (As := [.int ((f 8) (p0).toNatClampNeg), .int ((f 9) (p0).toNatClampNeg)]) (m_X5_plainRun G h ((f 8) (p0).toNatClampNeg) ((f 9) (p0).toNatClampNeg) f v hq) oX5_plainRun kX5_140 ⟨rfl, rfl⟩ eX5_plainRun ⟨Nat.le_of_ble_eq_true rfl, Nat.le_of_ble_eq_true rfl⟩ ⟨Nat.zero_le _, Nat.zero_le _⟩ (List.append_nil _).symm (fun _ _ => List.append_nil _) (fun _ _ => rfl) 0 rfl rfl rfl (Nat.le_of_ble_eq_true rfl) dX5_kills_13 rfl (fun r_3 f_4 v_5 hq => ?_)
  refine j_aload_n 17 C dX5_kills_16 rfl 0 rfl ?_
  refine j_iload_n 18 C dX5_kills_17 rfl 2 rfl ?_
  refine j_aload_n 19 C dX5_kills_18 rfl 0 rfl ?_
  refine j_get 22 C uX5 0 rfl rfl 12 (Nat.le_of_ble_eq_true rfl) lX5_34 (v := .ref (h 9)) rfl dX5_kills_19 rfl ?_
  refine j_iload_n 23 C dX5_kills_22 rfl 1 rfl ?_
  obtain ⟨hi_6, hq⟩ := hq
  refine j_iald 24 C 9 (f := (f_4 8)) rfl hi_6 dX5_kills_23 rfl ?_
  refine j_aload_n 25 C dX5_kills_24 rfl 0 rfl ?_
  refine j_get 28 C uX5 0 rfl rfl 13 (Nat.le_of_ble_eq_true rfl) lX5_37 (v := .ref (h 10)) rfl dX5_kills_25 rfl ?_
  refine j_iload_n 29 C dX5_kills_28 rfl 1 rfl ?_
  obtain ⟨hi_7, hq⟩ := hq
  refine j_iald 30 C 10 (f := (f_4 9)) rfl hi_7 dX5_kills_29 rfl ?_
  refine j_callVi 33 C [] [] (fun f' v' => (wE G h f' v')) (As := [.int p1, .int ((f_4 8) (p0).toNatClampNeg), .int ((f_4 9) (p0).toNatClampNeg)]) (m_X5_mutantRun G h p1 ((f_4 8) (p0).toNatClampNeg) ((f_4 9) (p0).toNatClampNeg) f_4 v_5 hq) oX5_mutantRun kX5_144 ⟨rfl, rfl⟩ eX5_mutantRun ⟨Nat.le_of_ble_eq_true rfl, Nat.le_of_ble_eq_true rfl⟩ ⟨Nat.zero_le _, Nat.zero_le _⟩ (List.append_nil _).symm (fun _ _ => List.append_nil _) (fun _ _ => rfl) 0 rfl rfl rfl (Nat.le_of_ble_eq_true rfl) dX5_kills_30 rfl (fun r_8 f_9 v_10 hq => ?_)
  refine j_icmp_eq 36 40 C dX5_kills_33 rfl rfl (fun c_11 => ?_) (fun c_11 => ?_)
  · replace hq := hq.1 c_11
    refine j_iconst 41 C dX5_kills_40 rfl ic_0 ?_
    exact hR _ _ _ f_9 v_10 dX5_kills_41 (Or.inl rfl) hq
  · replace hq := hq.2 c_11
    refine j_iconst 37 C dX5_kills_36 rfl ic_1 ?_
    refine j_goto 41 C dX5_kills_37 rfl ?_
    exact hR _ _ _ f_9 v_10 dX5_kills_41 (Or.inr rfl) hq
def Q_X5_infects (p0 : Int32) (p1 : Int32) (f : FF) (v : VV) (post : Int32 → FF → VV → Prop) : Prop := vp_in p0 7 ∧ (vp_in p0 7 ∧ (Q_X5_plainRun ((f 8) (p0).toNatClampNeg) ((f 9) (p0).toNatClampNeg) f v (fun r_3 f_4 v_5 => (Q_X5_stepOf p1 (fun r_6 => (vp_in r_6 5 ∧ (∀ x_8 : Int32, x_8 = ((f_4 12) (r_6).toNatClampNeg) → (vp_in p0 7 ∧ (vp_in p0 7 ∧ (Q_X5_mutantRun p1 ((f_4 8) (p0).toNatClampNeg) ((f_4 9) (p0).toNatClampNeg) f_4 v_5 (fun r_11 f_12 v_13 => (Q_X5_stepOf p1 (fun r_14 => (vp_in r_14 5 ∧ (((((f_12 12) (r_14).toNatClampNeg) = x_8 → (post (0 : Int32) f_12 v_13)) ∧ (¬ ((f_12 12) (r_14).toNatClampNeg) = x_8 → (post (1 : Int32) f_12 v_13))))))))))))))))))
set_option maxRecDepth 100000 in
set_option maxHeartbeats 4000000 in
theorem m_X5_infects {l : Launch} (G : Gx) (h : Nat → Nat) (p0 : Int32) (p1 : Int32) (f : FF) (v : VV) {post : Int32 → FF → VV → Prop} (hq : Q_X5_infects p0 p1 f v post) : MetI l yX5_infects (gC yX5_infects cX5_infects 4 (some .boolean)) rmX5_infects G [.ref (h 0), .int p0, .int p1] (wE G h) f v post := by
  refine met_z (own := RX5) (by decide) rfl (Nat.le_of_ble_eq_true rfl) (fun κ hκ C hR => ?_)
  unfold Q_X5_infects at hq
  subst hκ
  show J κ 0 0 (wE G h f v) 0 [(0, .ref (h 0)), (1, .int p0), (2, .int p1)] []
  refine j_aload_n 1 C dX5_infects_0 rfl 0 rfl ?_
  refine j_aload_n 2 C dX5_infects_1 rfl 0 rfl ?_
  refine j_get 5 C uX5 0 rfl rfl 12 (Nat.le_of_ble_eq_true rfl) lX5_34 (v := .ref (h 9)) rfl dX5_infects_2 rfl ?_
  refine j_iload_n 6 C dX5_infects_5 rfl 1 rfl ?_
  obtain ⟨hi_1, hq⟩ := hq
  refine j_iald 7 C 9 (f := (f 8)) rfl hi_1 dX5_infects_6 rfl ?_
  refine j_aload_n 8 C dX5_infects_7 rfl 0 rfl ?_
  refine j_get 11 C uX5 0 rfl rfl 13 (Nat.le_of_ble_eq_true rfl) lX5_37 (v := .ref (h 10)) rfl dX5_infects_8 rfl ?_
  refine j_iload_n 12 C dX5_infects_11 rfl 1 rfl ?_
  obtain ⟨hi_2, hq⟩ := hq
  refine j_iald 13 C 10 (f := (f 9)) rfl hi_2 dX5_infects_12 rfl ?_
  refine j_callVi 16 C [] [] (fun f' v' => (wE G h f' v')) (As := [.int ((f 8) (p0).toNatClampNeg), .int ((f 9) (p0).toNatClampNeg)]) (m_X5_plainRun G h ((f 8) (p0).toNatClampNeg) ((f 9) (p0).toNatClampNeg) f v hq) oX5_plainRun kX5_140 ⟨rfl, rfl⟩ eX5_plainRun ⟨Nat.le_of_ble_eq_true rfl, Nat.le_of_ble_eq_true rfl⟩ ⟨Nat.zero_le _, Nat.zero_le _⟩ (List.append_nil _).symm (fun _ _ => List.append_nil _) (fun _ _ => rfl) 0 rfl rfl rfl (Nat.le_of_ble_eq_true rfl) dX5_infects_13 rfl (fun r_3 f_4 v_5 hq => ?_)
  refine j_pop 17 C dX5_infects_16 rfl rfl ?_
  refine j_aload_n 18 C dX5_infects_17 rfl 0 rfl ?_
  refine j_get 21 C uX5 0 rfl rfl 19 (Nat.le_of_ble_eq_true rfl) lX5_46 (v := .ref (h 13)) rfl dX5_infects_18 rfl ?_
  refine j_iload_n 22 C dX5_infects_21 rfl 2 rfl ?_
  refine j_callSi 25 C [] (wE G h f_4 v_5) (fun _ _ => (wE G h f_4 v_5)) (As := [.int p1]) (m_X5_stepOf G p1 hq) oX5_stepOf kX5_131 ⟨rfl, rfl⟩ eX5_stepOf ⟨Nat.le_of_ble_eq_true rfl, Nat.le_of_ble_eq_true rfl⟩ ⟨Nat.zero_le _, Nat.zero_le _⟩ rfl (fun _ _ => rfl) (fun _ _ => rfl) rfl (Nat.le_of_ble_eq_true rfl) dX5_infects_22 rfl (fun r_6 _ _ hq => ?_)
  obtain ⟨hi_7, hq⟩ := hq
  refine j_iald 26 C 13 (f := (f_4 12)) rfl hi_7 dX5_infects_25 rfl ?_
  refine J.topi (fun x_8 ex_8 => ?_)
  replace hq := hq x_8 ex_8
  refine j_istore_n 27 C dX5_infects_26 rfl (Nat.le_of_ble_eq_true rfl) [1, 2, 3, 0] (lv' := [(0, .ref (h 0)), (1, .int p0), (2, .int p1), (3, .int x_8)]) rfl ?_
  refine j_aload_n 28 C dX5_infects_27 rfl 0 rfl ?_
  refine j_iload_n 29 C dX5_infects_28 rfl 2 rfl ?_
  refine j_aload_n 30 C dX5_infects_29 rfl 0 rfl ?_
  refine j_get 33 C uX5 0 rfl rfl 12 (Nat.le_of_ble_eq_true rfl) lX5_34 (v := .ref (h 9)) rfl dX5_infects_30 rfl ?_
  refine j_iload_n 34 C dX5_infects_33 rfl 1 rfl ?_
  obtain ⟨hi_9, hq⟩ := hq
  refine j_iald 35 C 9 (f := (f_4 8)) rfl hi_9 dX5_infects_34 rfl ?_
  refine j_aload_n 36 C dX5_infects_35 rfl 0 rfl ?_
  refine j_get 39 C uX5 0 rfl rfl 13 (Nat.le_of_ble_eq_true rfl) lX5_37 (v := .ref (h 10)) rfl dX5_infects_36 rfl ?_
  refine j_iload_n 40 C dX5_infects_39 rfl 1 rfl ?_
  obtain ⟨hi_10, hq⟩ := hq
  refine j_iald 41 C 10 (f := (f_4 9)) rfl hi_10 dX5_infects_40 rfl ?_
  refine j_callVi 44 C [] [] (fun f' v' => (wE G h f' v')) (As := [.int p1, .int ((f_4 8) (p0).toNatClampNeg), .int ((f_4 9) (p0).toNatClampNeg)]) (m_X5_mutantRun G h p1 ((f_4 8) (p0).toNatClampNeg) ((f_4 9) (p0).toNatClampNeg) f_4 v_5 hq) oX5_mutantRun kX5_144 ⟨rfl, rfl⟩ eX5_mutantRun ⟨Nat.le_of_ble_eq_true rfl, Nat.le_of_ble_eq_true rfl⟩ ⟨Nat.zero_le _, Nat.zero_le _⟩ (List.append_nil _).symm (fun _ _ => List.append_nil _) (fun _ _ => rfl) 0 rfl rfl rfl (Nat.le_of_ble_eq_true rfl) dX5_infects_41 rfl (fun r_11 f_12 v_13 hq => ?_)
  refine j_pop 45 C dX5_infects_44 rfl rfl ?_
  refine j_aload_n 46 C dX5_infects_45 rfl 0 rfl ?_
  refine j_get 49 C uX5 0 rfl rfl 19 (Nat.le_of_ble_eq_true rfl) lX5_46 (v := .ref (h 13)) rfl dX5_infects_46 rfl ?_
  refine j_iload_n 50 C dX5_infects_49 rfl 2 rfl ?_
  refine j_callSi 53 C [] (wE G h f_12 v_13) (fun _ _ => (wE G h f_12 v_13)) (As := [.int p1]) (m_X5_stepOf G p1 hq) oX5_stepOf kX5_131 ⟨rfl, rfl⟩ eX5_stepOf ⟨Nat.le_of_ble_eq_true rfl, Nat.le_of_ble_eq_true rfl⟩ ⟨Nat.zero_le _, Nat.zero_le _⟩ rfl (fun _ _ => rfl) (fun _ _ => rfl) rfl (Nat.le_of_ble_eq_true rfl) dX5_infects_50 rfl (fun r_14 _ _ hq => ?_)
  obtain ⟨hi_15, hq⟩ := hq
  refine j_iald 54 C 13 (f := (f_12 12)) rfl hi_15 dX5_infects_53 rfl ?_
  refine j_iload_n 55 C dX5_infects_54 rfl 3 rfl ?_
  refine j_icmp_eq 58 62 C dX5_infects_55 rfl rfl (fun c_16 => ?_) (fun c_16 => ?_)
  · replace hq := hq.1 c_16
    refine j_iconst 63 C dX5_infects_62 rfl ic_0 ?_
    exact hR _ _ _ f_12 v_13 dX5_infects_63 (Or.inl rfl) hq
  · replace hq := hq.2 c_16
    refine j_iconst 59 C dX5_infects_58 rfl ic_1 ?_
    refine j_goto 63 C dX5_infects_59 rfl ?_
    exact hR _ _ _ f_12 v_13 dX5_infects_63 (Or.inr rfl) hq
def Q_X5_differs_L4 (x1 : Int32) (K52 : Int32 → Int32 → FF → VV → Prop) : Nat → Int32 → Int32 → FF → VV → Prop
  | 0, _, _, _, _ => False
  | n + 1, x2, x3, f, v => (((100 : Int32) ≤ x3 → (K52 x2 x3 f v)) ∧ (¬ (100 : Int32) ≤ x3 → (Q_X5_plainRun (x3 / (10 : Int32)) (x3 - x3 / (10 : Int32) * (10 : Int32)) f v (fun r_2 f_3 v_4 => (Q_X5_mutantRun x1 (x3 / (10 : Int32)) (x3 - x3 / (10 : Int32) * (10 : Int32)) f_3 v_4 (fun r_5 f_6 v_7 => (((¬ r_2 = r_5 → (∀ x_9 : Int32, x_9 = (x2 + (1 : Int32)) → (∀ x_10 : Int32, x_10 = (x3 + (1 : Int32)) → (Q_X5_differs_L4 x1 K52 n x_9 x_10 f_6 v_7)))) ∧ (r_2 = r_5 → (∀ x_11 : Int32, x_11 = (x2 + (0 : Int32)) → (∀ x_12 : Int32, x_12 = (x3 + (1 : Int32)) → (Q_X5_differs_L4 x1 K52 n x_11 x_12 f_6 v_7))))))))))))
set_option maxRecDepth 100000 in
set_option maxHeartbeats 4000000 in
theorem t_X5_differs_L4 {κ : Kx} {G : Gx} {h : Nat → Nat} (C : Cx κ G RX5 cX5_differs rmX5_differs 4) {x1 : Int32} {K52 : Int32 → Int32 → FF → VV → Prop} (hK52 : ∀ (x2 : Int32) (x3 : Int32) (f : FF) (v : VV), K52 x2 x3 f v → J κ 0 0 (wE G h f v) 52 [(0, .ref (h 0)), (1, .int x1), (2, .int x2), (3, .int x3)] []) : ∀ (n : Nat) (x2 : Int32) (x3 : Int32) (f : FF) (v : VV), Q_X5_differs_L4 x1 K52 n x2 x3 f v → J κ 0 0 (wE G h f v) 4 [(0, .ref (h 0)), (1, .int x1), (2, .int x2), (3, .int x3)] [] := by
  intro n
  induction n with
  | zero => intro x2 x3 f v hq; exact False.elim hq
  | succ n ih =>
    intro x2 x3 f v hq
    rw [Q_X5_differs_L4] at hq
    refine j_iload_n 5 C dX5_differs_4 rfl 3 rfl ?_
    refine j_bipush 7 C dX5_differs_5 rfl bc_100 ?_
    refine j_icmp_ge 10 52 C dX5_differs_7 rfl rfl (fun c_1 => ?_) (fun c_1 => ?_)
    · replace hq := hq.1 c_1
      refine J.l0 [0, 1, 2, 3] rfl ?_
      exact hK52 _ _ _ _ hq
    · replace hq := hq.2 c_1
      refine j_iload_n 11 C dX5_differs_10 rfl 2 rfl ?_
      refine j_aload_n 12 C dX5_differs_11 rfl 0 rfl ?_
      refine j_iload_n 13 C dX5_differs_12 rfl 3 rfl ?_
      refine j_bipush 15 C dX5_differs_13 rfl bc_10 ?_
      refine j_idiv 16 C dX5_differs_15 rfl (by decide) ?_
      refine j_iload_n 17 C dX5_differs_16 rfl 3 rfl ?_
      refine j_bipush 19 C dX5_differs_17 rfl bc_10 ?_
      refine j_irem 20 C dX5_differs_19 rfl (by decide) ?_
      refine j_callVi 23 C [] [] (fun f' v' => (wE G h f' v')) (As := [.int (x3 / (10 : Int32)), .int (x3 - x3 / (10 : Int32) * (10 : Int32))]) (m_X5_plainRun G h (x3 / (10 : Int32)) (x3 - x3 / (10 : Int32) * (10 : Int32)) f v hq) oX5_plainRun kX5_140 ⟨rfl, rfl⟩ eX5_plainRun ⟨Nat.le_of_ble_eq_true rfl, Nat.le_of_ble_eq_true rfl⟩ ⟨Nat.zero_le _, Nat.zero_le _⟩ (List.append_nil _).symm (fun _ _ => List.append_nil _) (fun _ _ => rfl) 0 rfl rfl rfl (Nat.le_of_ble_eq_true rfl) dX5_differs_20 rfl (fun r_2 f_3 v_4 hq => ?_)
      refine j_aload_n 24 C dX5_differs_23 rfl 0 rfl ?_
      refine j_iload_n 25 C dX5_differs_24 rfl 1 rfl ?_
      refine j_iload_n 26 C dX5_differs_25 rfl 3 rfl ?_
      refine j_bipush 28 C dX5_differs_26 rfl bc_10 ?_
      refine j_idiv 29 C dX5_differs_28 rfl (by decide) ?_
      refine j_iload_n 30 C dX5_differs_29 rfl 3 rfl ?_
      refine j_bipush 32 C dX5_differs_30 rfl bc_10 ?_
      refine j_irem 33 C dX5_differs_32 rfl (by decide) ?_
      refine j_callVi 36 C [] [] (fun f' v' => (wE G h f' v')) (As := [.int x1, .int (x3 / (10 : Int32)), .int (x3 - x3 / (10 : Int32) * (10 : Int32))]) (m_X5_mutantRun G h x1 (x3 / (10 : Int32)) (x3 - x3 / (10 : Int32) * (10 : Int32)) f_3 v_4 hq) oX5_mutantRun kX5_144 ⟨rfl, rfl⟩ eX5_mutantRun ⟨Nat.le_of_ble_eq_true rfl, Nat.le_of_ble_eq_true rfl⟩ ⟨Nat.zero_le _, Nat.zero_le _⟩ (List.append_nil _).symm (fun _ _ => List.append_nil _) (fun _ _ => rfl) 0 rfl rfl rfl (Nat.le_of_ble_eq_true rfl) dX5_differs_33 rfl (fun r_5 f_6 v_7 hq => ?_)
      refine j_icmp_ne 39 43 C dX5_differs_36 rfl rfl (fun c_8 => ?_) (fun c_8 => ?_)
      · replace hq := hq.1 c_8
        refine j_iconst 44 C dX5_differs_43 rfl ic_1 ?_
        refine j_iadd 45 C dX5_differs_44 rfl ?_
        refine J.topi (fun x_9 ex_9 => ?_)
        replace hq := hq x_9 ex_9
        refine j_istore_n 46 C dX5_differs_45 rfl (Nat.le_of_ble_eq_true rfl) [1, 2, 0, 3] (lv' := [(0, .ref (h 0)), (1, .int x1), (2, .int x_9), (3, .int x3)]) rfl ?_
        obtain ⟨x_10, ex_10⟩ : ∃ y : Int32, y = (x3 + (1 : Int32)) := ⟨_, rfl⟩
        replace hq := hq x_10 ex_10
        refine j_iinc 49 C dX5_differs_46 rfl 3 rfl (v := x_10) (by rw [ex_10]; rfl) (Nat.le_of_ble_eq_true rfl) [1, 2, 3, 0] (lv' := [(0, .ref (h 0)), (1, .int x1), (2, .int x_9), (3, .int x_10)]) rfl ?_
        refine j_goto 4 C dX5_differs_49 rfl ?_
        refine J.l0 [0, 1, 2, 3] rfl ?_
        exact ih _ _ _ _ hq
      · replace hq := hq.2 c_8
        refine j_iconst 40 C dX5_differs_39 rfl ic_0 ?_
        refine j_goto 44 C dX5_differs_40 rfl ?_
        refine j_iadd 45 C dX5_differs_44 rfl ?_
        refine J.topi (fun x_11 ex_11 => ?_)
        replace hq := hq x_11 ex_11
        refine j_istore_n 46 C dX5_differs_45 rfl (Nat.le_of_ble_eq_true rfl) [1, 2, 0, 3] (lv' := [(0, .ref (h 0)), (1, .int x1), (2, .int x_11), (3, .int x3)]) rfl ?_
        obtain ⟨x_12, ex_12⟩ : ∃ y : Int32, y = (x3 + (1 : Int32)) := ⟨_, rfl⟩
        replace hq := hq x_12 ex_12
        refine j_iinc 49 C dX5_differs_46 rfl 3 rfl (v := x_12) (by rw [ex_12]; rfl) (Nat.le_of_ble_eq_true rfl) [1, 2, 3, 0] (lv' := [(0, .ref (h 0)), (1, .int x1), (2, .int x_11), (3, .int x_12)]) rfl ?_
        refine j_goto 4 C dX5_differs_49 rfl ?_
        refine J.l0 [0, 1, 2, 3] rfl ?_
        exact ih _ _ _ _ hq
def Q_X5_differs (p0 : Int32) (f : FF) (v : VV) (post : Int32 → FF → VV → Prop) : Prop := ∃ n_13 : Nat, Q_X5_differs_L4 p0 (fun x_14 x_15 f_16 v_17 => (post x_14 f_16 v_17)) n_13 (0 : Int32) (0 : Int32) f v
set_option maxRecDepth 100000 in
set_option maxHeartbeats 4000000 in
theorem m_X5_differs {l : Launch} (G : Gx) (h : Nat → Nat) (p0 : Int32) (f : FF) (v : VV) {post : Int32 → FF → VV → Prop} (hq : Q_X5_differs p0 f v post) : MetI l yX5_differs (gC yX5_differs cX5_differs 4 (some .int)) rmX5_differs G [.ref (h 0), .int p0] (wE G h) f v post := by
  refine met_i (own := RX5) (by decide) rfl (Nat.le_of_ble_eq_true rfl) (fun κ hκ C hR => ?_)
  unfold Q_X5_differs at hq
  subst hκ
  show J κ 0 0 (wE G h f v) 0 [(0, .ref (h 0)), (1, .int p0)] []
  refine j_iconst 1 C dX5_differs_0 rfl ic_0 ?_
  refine j_istore_n 2 C dX5_differs_1 rfl (Nat.le_of_ble_eq_true rfl) [1, 2, 0] (lv' := [(0, .ref (h 0)), (1, .int p0), (2, .int (0 : Int32))]) rfl ?_
  refine j_iconst 3 C dX5_differs_2 rfl ic_0 ?_
  refine j_istore_n 4 C dX5_differs_3 rfl (Nat.le_of_ble_eq_true rfl) [1, 2, 3, 0] (lv' := [(0, .ref (h 0)), (1, .int p0), (2, .int (0 : Int32)), (3, .int (0 : Int32))]) rfl ?_
  obtain ⟨n_13, hq⟩ := hq
  refine t_X5_differs_L4 C ?_ n_13 _ _ _ _ hq
  · intro x_14 x_15 f_16 v_17 hq
    refine j_iload_n 53 C dX5_differs_52 rfl 2 rfl ?_
    exact hR _ _ _ f_16 v_17 dX5_differs_53 hq
def Q_X5_manyEqual_L4 (K34 : Int32 → Int32 → FF → VV → Prop) : Nat → Int32 → Int32 → FF → VV → Prop
  | 0, _, _, _, _ => False
  | n + 1, x1, x2, f, v => Q_X5_mutants  f v (fun r_1 => (((r_1 ≤ x2 → (K34 x1 x2 f v)) ∧ (¬ r_1 ≤ x2 → (Q_X5_differs x2 f v (fun r_3 f_4 v_5 => (((¬ r_3 = 0 → (∀ x_7 : Int32, x_7 = (x1 + (0 : Int32)) → (∀ x_8 : Int32, x_8 = (x2 + (1 : Int32)) → (Q_X5_manyEqual_L4 K34 n x_7 x_8 f_4 v_5)))) ∧ (r_3 = 0 → (∀ x_9 : Int32, x_9 = (x1 + (1 : Int32)) → (∀ x_10 : Int32, x_10 = (x2 + (1 : Int32)) → (Q_X5_manyEqual_L4 K34 n x_9 x_10 f_4 v_5))))))))))))
set_option maxRecDepth 100000 in
set_option maxHeartbeats 4000000 in
theorem t_X5_manyEqual_L4 {κ : Kx} {G : Gx} {h : Nat → Nat} (C : Cx κ G RX5 cX5_manyEqual rmX5_manyEqual 3) {K34 : Int32 → Int32 → FF → VV → Prop} (hK34 : ∀ (x1 : Int32) (x2 : Int32) (f : FF) (v : VV), K34 x1 x2 f v → J κ 0 0 (wE G h f v) 34 [(0, .ref (h 0)), (1, .int x1), (2, .int x2)] []) : ∀ (n : Nat) (x1 : Int32) (x2 : Int32) (f : FF) (v : VV), Q_X5_manyEqual_L4 K34 n x1 x2 f v → J κ 0 0 (wE G h f v) 4 [(0, .ref (h 0)), (1, .int x1), (2, .int x2)] [] := by
  intro n
  induction n with
  | zero => intro x1 x2 f v hq; exact False.elim hq
  | succ n ih =>
    intro x1 x2 f v hq
    rw [Q_X5_manyEqual_L4] at hq
    refine j_iload_n 5 C dX5_manyEqual_4 rfl 2 rfl ?_
    refine j_aload_n 6 C dX5_manyEqual_5 rfl 0 rfl ?_
    refine j_callVi_ro 9 C [] [] (As := []) (m_X5_mutants G h f v hq) oX5_mutants kX5_77 ⟨rfl, rfl⟩ eX5_mutants ⟨Nat.le_of_ble_eq_true rfl, Nat.le_of_ble_eq_true rfl⟩ ⟨Nat.zero_le _, Nat.zero_le _⟩ (List.append_nil _).symm (fun _ _ => rfl) 0 rfl rfl rfl (Nat.le_of_ble_eq_true rfl) dX5_manyEqual_6 rfl (fun r_1 hq => ?_)
    refine j_icmp_ge 12 34 C dX5_manyEqual_9 rfl rfl (fun c_2 => ?_) (fun c_2 => ?_)
    · replace hq := hq.1 c_2
      refine J.l0 [0, 1, 2] rfl ?_
      exact hK34 _ _ _ _ hq
    · replace hq := hq.2 c_2
      refine j_iload_n 13 C dX5_manyEqual_12 rfl 1 rfl ?_
      refine j_aload_n 14 C dX5_manyEqual_13 rfl 0 rfl ?_
      refine j_iload_n 15 C dX5_manyEqual_14 rfl 2 rfl ?_
      refine j_callVi 18 C [] [] (fun f' v' => (wE G h f' v')) (As := [.int x2]) (m_X5_differs G h x2 f v hq) oX5_differs kX5_147 ⟨rfl, rfl⟩ eX5_differs ⟨Nat.le_of_ble_eq_true rfl, Nat.le_of_ble_eq_true rfl⟩ ⟨Nat.zero_le _, Nat.zero_le _⟩ (List.append_nil _).symm (fun _ _ => List.append_nil _) (fun _ _ => rfl) 0 rfl rfl rfl (Nat.le_of_ble_eq_true rfl) dX5_manyEqual_15 rfl (fun r_3 f_4 v_5 hq => ?_)
      refine j_if_ne 21 25 C dX5_manyEqual_18 rfl rfl (fun c_6 => ?_) (fun c_6 => ?_)
      · replace hq := hq.1 c_6
        refine j_iconst 26 C dX5_manyEqual_25 rfl ic_0 ?_
        refine j_iadd 27 C dX5_manyEqual_26 rfl ?_
        refine J.topi (fun x_7 ex_7 => ?_)
        replace hq := hq x_7 ex_7
        refine j_istore_n 28 C dX5_manyEqual_27 rfl (Nat.le_of_ble_eq_true rfl) [1, 0, 2] (lv' := [(0, .ref (h 0)), (1, .int x_7), (2, .int x2)]) rfl ?_
        obtain ⟨x_8, ex_8⟩ : ∃ y : Int32, y = (x2 + (1 : Int32)) := ⟨_, rfl⟩
        replace hq := hq x_8 ex_8
        refine j_iinc 31 C dX5_manyEqual_28 rfl 2 rfl (v := x_8) (by rw [ex_8]; rfl) (Nat.le_of_ble_eq_true rfl) [1, 2, 0] (lv' := [(0, .ref (h 0)), (1, .int x_7), (2, .int x_8)]) rfl ?_
        refine j_goto 4 C dX5_manyEqual_31 rfl ?_
        refine J.l0 [0, 1, 2] rfl ?_
        exact ih _ _ _ _ hq
      · replace hq := hq.2 c_6
        refine j_iconst 22 C dX5_manyEqual_21 rfl ic_1 ?_
        refine j_goto 26 C dX5_manyEqual_22 rfl ?_
        refine j_iadd 27 C dX5_manyEqual_26 rfl ?_
        refine J.topi (fun x_9 ex_9 => ?_)
        replace hq := hq x_9 ex_9
        refine j_istore_n 28 C dX5_manyEqual_27 rfl (Nat.le_of_ble_eq_true rfl) [1, 0, 2] (lv' := [(0, .ref (h 0)), (1, .int x_9), (2, .int x2)]) rfl ?_
        obtain ⟨x_10, ex_10⟩ : ∃ y : Int32, y = (x2 + (1 : Int32)) := ⟨_, rfl⟩
        replace hq := hq x_10 ex_10
        refine j_iinc 31 C dX5_manyEqual_28 rfl 2 rfl (v := x_10) (by rw [ex_10]; rfl) (Nat.le_of_ble_eq_true rfl) [1, 2, 0] (lv' := [(0, .ref (h 0)), (1, .int x_9), (2, .int x_10)]) rfl ?_
        refine j_goto 4 C dX5_manyEqual_31 rfl ?_
        refine J.l0 [0, 1, 2] rfl ?_
        exact ih _ _ _ _ hq
def Q_X5_manyEqual (f : FF) (v : VV) (post : Int32 → FF → VV → Prop) : Prop := ∃ n_11 : Nat, Q_X5_manyEqual_L4 (fun x_12 x_13 f_14 v_15 => (post x_12 f_14 v_15)) n_11 (0 : Int32) (0 : Int32) f v
set_option maxRecDepth 100000 in
set_option maxHeartbeats 4000000 in
theorem m_X5_manyEqual {l : Launch} (G : Gx) (h : Nat → Nat) (f : FF) (v : VV) {post : Int32 → FF → VV → Prop} (hq : Q_X5_manyEqual f v post) : MetI l yX5_manyEqual (gC yX5_manyEqual cX5_manyEqual 3 (some .int)) rmX5_manyEqual G [.ref (h 0)] (wE G h) f v post := by
  refine met_i (own := RX5) (by decide) rfl (Nat.le_of_ble_eq_true rfl) (fun κ hκ C hR => ?_)
  unfold Q_X5_manyEqual at hq
  subst hκ
  show J κ 0 0 (wE G h f v) 0 [(0, .ref (h 0))] []
  refine j_iconst 1 C dX5_manyEqual_0 rfl ic_0 ?_
  refine j_istore_n 2 C dX5_manyEqual_1 rfl (Nat.le_of_ble_eq_true rfl) [1, 0] (lv' := [(0, .ref (h 0)), (1, .int (0 : Int32))]) rfl ?_
  refine j_iconst 3 C dX5_manyEqual_2 rfl ic_0 ?_
  refine j_istore_n 4 C dX5_manyEqual_3 rfl (Nat.le_of_ble_eq_true rfl) [1, 2, 0] (lv' := [(0, .ref (h 0)), (1, .int (0 : Int32)), (2, .int (0 : Int32))]) rfl ?_
  obtain ⟨n_11, hq⟩ := hq
  refine t_X5_manyEqual_L4 C ?_ n_11 _ _ _ _ hq
  · intro x_12 x_13 f_14 v_15 hq
    refine j_iload_n 35 C dX5_manyEqual_34 rfl 1 rfl ?_
    exact hR _ _ _ f_14 v_15 dX5_manyEqual_35 hq
def Q_X5_findKillers_L19 (x1 : Int32) (K58 : Int32 → FF → VV → Prop) : Nat → Int32 → FF → VV → Prop
  | 0, _, _, _ => False
  | n + 1, x2, f, v => (((v 3) ≤ x2 → (K58 x2 f v)) ∧ (¬ (v 3) ≤ x2 → (vp_in x1 20 ∧ (Q_X5_kills x2 x1 f v (fun r_7 f_8 v_9 => (((r_7 = 0 → (vp_in x1 20 ∧ (∀ f_12 : FF, f_12 = fu f_8 13 (wr (f_8 13) x1 (((f 13) (x1).toNatClampNeg) ||| (0 : Int32))) → (∀ x_13 : Int32, x_13 = (x2 + (1 : Int32)) → (Q_X5_findKillers_L19 x1 K58 n x_13 f_12 v_9))))) ∧ (¬ r_7 = 0 → (vp_in x1 20 ∧ (∀ f_15 : FF, f_15 = fu f_8 13 (wr (f_8 13) x1 (((f 13) (x1).toNatClampNeg) ||| ((1 : Int32) <<< (x2 &&& 31)))) → (∀ x_16 : Int32, x_16 = (x2 + (1 : Int32)) → (Q_X5_findKillers_L19 x1 K58 n x_16 f_15 v_9))))))))))))
set_option maxRecDepth 100000 in
set_option maxHeartbeats 4000000 in
theorem t_X5_findKillers_L19 {κ : Kx} {G : Gx} {h : Nat → Nat} (C : Cx κ G RX5 cX5_findKillers rmX5_findKillers 3) {x1 : Int32} {K58 : Int32 → FF → VV → Prop} (hK58 : ∀ (x2 : Int32) (f : FF) (v : VV), K58 x2 f v → J κ 0 0 (wE G h f v) 58 [(0, .ref (h 0)), (1, .int x1), (2, .int x2)] []) : ∀ (n : Nat) (x2 : Int32) (f : FF) (v : VV), Q_X5_findKillers_L19 x1 K58 n x2 f v → J κ 0 0 (wE G h f v) 19 [(0, .ref (h 0)), (1, .int x1), (2, .int x2)] [] := by
  intro n
  induction n with
  | zero => intro x2 f v hq; exact False.elim hq
  | succ n ih =>
    intro x2 f v hq
    rw [Q_X5_findKillers_L19] at hq
    refine j_iload_n 20 C dX5_findKillers_19 rfl 2 rfl ?_
    refine j_aload_n 21 C dX5_findKillers_20 rfl 0 rfl ?_
    refine j_get 24 C uX5 0 rfl rfl 6 (Nat.le_of_ble_eq_true rfl) lX5_74 (v := .int (v 3)) rfl dX5_findKillers_21 rfl ?_
    refine j_icmp_ge 27 58 C dX5_findKillers_24 rfl rfl (fun c_5 => ?_) (fun c_5 => ?_)
    · replace hq := hq.1 c_5
      refine J.l0 [0, 1, 2] rfl ?_
      exact hK58 _ _ _ hq
    · replace hq := hq.2 c_5
      refine j_aload_n 28 C dX5_findKillers_27 rfl 0 rfl ?_
      refine j_get 31 C uX5 0 rfl rfl 20 (Nat.le_of_ble_eq_true rfl) lX5_49 (v := .ref (h 14)) rfl dX5_findKillers_28 rfl ?_
      refine j_iload_n 32 C dX5_findKillers_31 rfl 1 rfl ?_
      refine j_dup2 33 C dX5_findKillers_32 rfl rfl rfl ?_
      obtain ⟨hi_6, hq⟩ := hq
      refine j_iald 34 C 14 (f := (f 13)) rfl hi_6 dX5_findKillers_33 rfl ?_
      refine j_aload_n 35 C dX5_findKillers_34 rfl 0 rfl ?_
      refine j_iload_n 36 C dX5_findKillers_35 rfl 2 rfl ?_
      refine j_iload_n 37 C dX5_findKillers_36 rfl 1 rfl ?_
      refine j_callVi 40 C [] [] (fun f' v' => (wE G h f' v')) (As := [.int x2, .int x1]) (m_X5_kills G h x2 x1 f v hq) oX5_kills kX5_150 ⟨rfl, rfl⟩ eX5_kills ⟨Nat.le_of_ble_eq_true rfl, Nat.le_of_ble_eq_true rfl⟩ ⟨Nat.zero_le _, Nat.zero_le _⟩ (List.append_nil _).symm (fun _ _ => List.append_nil _) (fun _ _ => rfl) 0 rfl rfl rfl (Nat.le_of_ble_eq_true rfl) dX5_findKillers_37 rfl (fun r_7 f_8 v_9 hq => ?_)
      refine j_if_eq 43 49 C dX5_findKillers_40 rfl rfl (fun c_10 => ?_) (fun c_10 => ?_)
      · replace hq := hq.1 c_10
        refine j_iconst 50 C dX5_findKillers_49 rfl ic_0 ?_
        refine j_ior 51 C dX5_findKillers_50 rfl ?_
        obtain ⟨hi_11, hq⟩ := hq
        obtain ⟨f_12, ef_12⟩ : ∃ y : FF, y = fu f_8 13 (wr (f_8 13) x1 (((f 13) (x1).toNatClampNeg) ||| (0 : Int32))) := ⟨_, rfl⟩
        replace hq := hq f_12 ef_12
        refine j_iast 52 C 14 rfl hi_11 dX5_findKillers_51 rfl (ws' := (wE G h f_12 v_9)) (by subst ef_12; rfl) ?_
        obtain ⟨x_13, ex_13⟩ : ∃ y : Int32, y = (x2 + (1 : Int32)) := ⟨_, rfl⟩
        replace hq := hq x_13 ex_13
        refine j_iinc 55 C dX5_findKillers_52 rfl 2 rfl (v := x_13) (by rw [ex_13]; rfl) (Nat.le_of_ble_eq_true rfl) [1, 2, 0] (lv' := [(0, .ref (h 0)), (1, .int x1), (2, .int x_13)]) rfl ?_
        refine j_goto 19 C dX5_findKillers_55 rfl ?_
        refine J.l0 [0, 1, 2] rfl ?_
        exact ih _ _ _ hq
      · replace hq := hq.2 c_10
        refine j_iconst 44 C dX5_findKillers_43 rfl ic_1 ?_
        refine j_iload_n 45 C dX5_findKillers_44 rfl 2 rfl ?_
        refine j_ishl 46 C dX5_findKillers_45 rfl ?_
        refine j_goto 50 C dX5_findKillers_46 rfl ?_
        refine j_ior 51 C dX5_findKillers_50 rfl ?_
        obtain ⟨hi_14, hq⟩ := hq
        obtain ⟨f_15, ef_15⟩ : ∃ y : FF, y = fu f_8 13 (wr (f_8 13) x1 (((f 13) (x1).toNatClampNeg) ||| ((1 : Int32) <<< (x2 &&& 31)))) := ⟨_, rfl⟩
        replace hq := hq f_15 ef_15
        refine j_iast 52 C 14 rfl hi_14 dX5_findKillers_51 rfl (ws' := (wE G h f_15 v_9)) (by subst ef_15; rfl) ?_
        obtain ⟨x_16, ex_16⟩ : ∃ y : Int32, y = (x2 + (1 : Int32)) := ⟨_, rfl⟩
        replace hq := hq x_16 ex_16
        refine j_iinc 55 C dX5_findKillers_52 rfl 2 rfl (v := x_16) (by rw [ex_16]; rfl) (Nat.le_of_ble_eq_true rfl) [1, 2, 0] (lv' := [(0, .ref (h 0)), (1, .int x1), (2, .int x_16)]) rfl ?_
        refine j_goto 19 C dX5_findKillers_55 rfl ?_
        refine J.l0 [0, 1, 2] rfl ?_
        exact ih _ _ _ hq
def Q_X5_findKillers_L2 (K64 : Int32 → FF → VV → Prop) : Nat → Int32 → FF → VV → Prop
  | 0, _, _, _ => False
  | n + 1, x1, f, v => Q_X5_mutants  f v (fun r_1 => (((r_1 ≤ x1 → (K64 x1 f v)) ∧ (¬ r_1 ≤ x1 → (vp_in x1 20 ∧ (∀ f_4 : FF, f_4 = fu f 13 (wr (f 13) x1 (0 : Int32)) → (∃ n_17 : Nat, Q_X5_findKillers_L19 x1 (fun x_18 f_19 v_20 => (∀ x_21 : Int32, x_21 = (x1 + (1 : Int32)) → (Q_X5_findKillers_L2 K64 n x_21 f_19 v_20))) n_17 (0 : Int32) f_4 v)))))))
set_option maxRecDepth 100000 in
set_option maxHeartbeats 4000000 in
theorem t_X5_findKillers_L2 {κ : Kx} {G : Gx} {h : Nat → Nat} (C : Cx κ G RX5 cX5_findKillers rmX5_findKillers 3) {K64 : Int32 → FF → VV → Prop} (hK64 : ∀ (x1 : Int32) (f : FF) (v : VV), K64 x1 f v → J κ 0 0 (wE G h f v) 64 [(0, .ref (h 0)), (1, .int x1)] []) : ∀ (n : Nat) (x1 : Int32) (f : FF) (v : VV), Q_X5_findKillers_L2 K64 n x1 f v → J κ 0 0 (wE G h f v) 2 [(0, .ref (h 0)), (1, .int x1)] [] := by
  intro n
  induction n with
  | zero => intro x1 f v hq; exact False.elim hq
  | succ n ih =>
    intro x1 f v hq
    rw [Q_X5_findKillers_L2] at hq
    refine j_iload_n 3 C dX5_findKillers_2 rfl 1 rfl ?_
    refine j_aload_n 4 C dX5_findKillers_3 rfl 0 rfl ?_
    refine j_callVi_ro 7 C [] [] (As := []) (m_X5_mutants G h f v hq) oX5_mutants kX5_77 ⟨rfl, rfl⟩ eX5_mutants ⟨Nat.le_of_ble_eq_true rfl, Nat.le_of_ble_eq_true rfl⟩ ⟨Nat.zero_le _, Nat.zero_le _⟩ (List.append_nil _).symm (fun _ _ => rfl) 0 rfl rfl rfl (Nat.le_of_ble_eq_true rfl) dX5_findKillers_4 rfl (fun r_1 hq => ?_)
    refine j_icmp_ge 10 64 C dX5_findKillers_7 rfl rfl (fun c_2 => ?_) (fun c_2 => ?_)
    · replace hq := hq.1 c_2
      refine J.l0 [0, 1] rfl ?_
      exact hK64 _ _ _ hq
    · replace hq := hq.2 c_2
      refine j_aload_n 11 C dX5_findKillers_10 rfl 0 rfl ?_
      refine j_get 14 C uX5 0 rfl rfl 20 (Nat.le_of_ble_eq_true rfl) lX5_49 (v := .ref (h 14)) rfl dX5_findKillers_11 rfl ?_
      refine j_iload_n 15 C dX5_findKillers_14 rfl 1 rfl ?_
      refine j_iconst 16 C dX5_findKillers_15 rfl ic_0 ?_
      obtain ⟨hi_3, hq⟩ := hq
      obtain ⟨f_4, ef_4⟩ : ∃ y : FF, y = fu f 13 (wr (f 13) x1 (0 : Int32)) := ⟨_, rfl⟩
      replace hq := hq f_4 ef_4
      refine j_iast 17 C 14 rfl hi_3 dX5_findKillers_16 rfl (ws' := (wE G h f_4 v)) (by subst ef_4; rfl) ?_
      refine j_iconst 18 C dX5_findKillers_17 rfl ic_0 ?_
      refine j_istore_n 19 C dX5_findKillers_18 rfl (Nat.le_of_ble_eq_true rfl) [1, 2, 0] (lv' := [(0, .ref (h 0)), (1, .int x1), (2, .int (0 : Int32))]) rfl ?_
      obtain ⟨n_17, hq⟩ := hq
      refine t_X5_findKillers_L19 C ?_ n_17 _ _ _ hq
      · intro x_18 f_19 v_20 hq
        obtain ⟨x_21, ex_21⟩ : ∃ y : Int32, y = (x1 + (1 : Int32)) := ⟨_, rfl⟩
        replace hq := hq x_21 ex_21
        refine j_iinc 61 C dX5_findKillers_58 rfl 1 rfl (v := x_21) (by rw [ex_21]; rfl) (Nat.le_of_ble_eq_true rfl) [1, 0, 2] (lv' := [(0, .ref (h 0)), (1, .int x_21), (2, .int x_18)]) rfl ?_
        refine j_goto 2 C dX5_findKillers_61 rfl ?_
        refine J.l0 [0, 1] rfl ?_
        exact ih _ _ _ hq
def Q_X5_findKillers (f : FF) (v : VV) (post : FF → VV → Prop) : Prop := ∃ n_22 : Nat, Q_X5_findKillers_L2 (fun x_23 f_24 v_25 => (post f_24 v_25)) n_22 (0 : Int32) f v
set_option maxRecDepth 100000 in
set_option maxHeartbeats 4000000 in
theorem m_X5_findKillers {l : Launch} (G : Gx) (h : Nat → Nat) (f : FF) (v : VV) {post : FF → VV → Prop} (hq : Q_X5_findKillers f v post) : MetV l yX5_findKillers (gC yX5_findKillers cX5_findKillers 3 none) rmX5_findKillers G [.ref (h 0)] (wE G h) f v post := by
  refine met_v (own := RX5) (by decide) rfl (Nat.le_of_ble_eq_true rfl) (fun κ hκ C hR => ?_)
  unfold Q_X5_findKillers at hq
  subst hκ
  show J κ 0 0 (wE G h f v) 0 [(0, .ref (h 0))] []
  refine j_iconst 1 C dX5_findKillers_0 rfl ic_0 ?_
  refine j_istore_n 2 C dX5_findKillers_1 rfl (Nat.le_of_ble_eq_true rfl) [1, 0] (lv' := [(0, .ref (h 0)), (1, .int (0 : Int32))]) rfl ?_
  obtain ⟨n_22, hq⟩ := hq
  refine t_X5_findKillers_L2 C ?_ n_22 _ _ _ hq
  · intro x_23 f_24 v_25 hq
    exact hR _ _ _ _ dX5_findKillers_64 hq
def Q_X5_killed_L4 (f : FF) (v : VV) (K35 : Int32 → Int32 → Prop) : Nat → Int32 → Int32 → Prop
  | 0, _, _ => False
  | n + 1, x1, x2 => Q_X5_mutants  f v (fun r_1 => (((r_1 ≤ x2 → (K35 x1 x2)) ∧ (¬ r_1 ≤ x2 → (vp_in x2 20 ∧ (((¬ ((f 13) (x2).toNatClampNeg) = 0 → (∀ x_5 : Int32, x_5 = (x1 + (1 : Int32)) → (∀ x_6 : Int32, x_6 = (x2 + (1 : Int32)) → (Q_X5_killed_L4 f v K35 n x_5 x_6)))) ∧ (((f 13) (x2).toNatClampNeg) = 0 → (∀ x_7 : Int32, x_7 = (x1 + (0 : Int32)) → (∀ x_8 : Int32, x_8 = (x2 + (1 : Int32)) → (Q_X5_killed_L4 f v K35 n x_7 x_8)))))))))))
set_option maxRecDepth 100000 in
set_option maxHeartbeats 4000000 in
theorem t_X5_killed_L4 {κ : Kx} {G : Gx} {h : Nat → Nat} (C : Cx κ G RX5 cX5_killed rmX5_killed 3) {f : FF} {v : VV} {K35 : Int32 → Int32 → Prop} (hK35 : ∀ (x1 : Int32) (x2 : Int32), K35 x1 x2 → J κ 0 0 (wE G h f v) 35 [(0, .ref (h 0)), (1, .int x1), (2, .int x2)] []) : ∀ (n : Nat) (x1 : Int32) (x2 : Int32), Q_X5_killed_L4 f v K35 n x1 x2 → J κ 0 0 (wE G h f v) 4 [(0, .ref (h 0)), (1, .int x1), (2, .int x2)] [] := by
  intro n
  induction n with
  | zero => intro x1 x2 hq; exact False.elim hq
  | succ n ih =>
    intro x1 x2 hq
    rw [Q_X5_killed_L4] at hq
    refine j_iload_n 5 C dX5_killed_4 rfl 2 rfl ?_
    refine j_aload_n 6 C dX5_killed_5 rfl 0 rfl ?_
    refine j_callVi_ro 9 C [] [] (As := []) (m_X5_mutants G h f v hq) oX5_mutants kX5_77 ⟨rfl, rfl⟩ eX5_mutants ⟨Nat.le_of_ble_eq_true rfl, Nat.le_of_ble_eq_true rfl⟩ ⟨Nat.zero_le _, Nat.zero_le _⟩ (List.append_nil _).symm (fun _ _ => rfl) 0 rfl rfl rfl (Nat.le_of_ble_eq_true rfl) dX5_killed_6 rfl (fun r_1 hq => ?_)
    refine j_icmp_ge 12 35 C dX5_killed_9 rfl rfl (fun c_2 => ?_) (fun c_2 => ?_)
    · replace hq := hq.1 c_2
      refine J.l0 [0, 1, 2] rfl ?_
      exact hK35 _ _ hq
    · replace hq := hq.2 c_2
      refine j_iload_n 13 C dX5_killed_12 rfl 1 rfl ?_
      refine j_aload_n 14 C dX5_killed_13 rfl 0 rfl ?_
      refine j_get 17 C uX5 0 rfl rfl 20 (Nat.le_of_ble_eq_true rfl) lX5_49 (v := .ref (h 14)) rfl dX5_killed_14 rfl ?_
      refine j_iload_n 18 C dX5_killed_17 rfl 2 rfl ?_
      obtain ⟨hi_3, hq⟩ := hq
      refine j_iald 19 C 14 (f := (f 13)) rfl hi_3 dX5_killed_18 rfl ?_
      refine j_if_ne 22 26 C dX5_killed_19 rfl rfl (fun c_4 => ?_) (fun c_4 => ?_)
      · replace hq := hq.1 c_4
        refine j_iconst 27 C dX5_killed_26 rfl ic_1 ?_
        refine j_iadd 28 C dX5_killed_27 rfl ?_
        refine J.topi (fun x_5 ex_5 => ?_)
        replace hq := hq x_5 ex_5
        refine j_istore_n 29 C dX5_killed_28 rfl (Nat.le_of_ble_eq_true rfl) [1, 0, 2] (lv' := [(0, .ref (h 0)), (1, .int x_5), (2, .int x2)]) rfl ?_
        obtain ⟨x_6, ex_6⟩ : ∃ y : Int32, y = (x2 + (1 : Int32)) := ⟨_, rfl⟩
        replace hq := hq x_6 ex_6
        refine j_iinc 32 C dX5_killed_29 rfl 2 rfl (v := x_6) (by rw [ex_6]; rfl) (Nat.le_of_ble_eq_true rfl) [1, 2, 0] (lv' := [(0, .ref (h 0)), (1, .int x_5), (2, .int x_6)]) rfl ?_
        refine j_goto 4 C dX5_killed_32 rfl ?_
        refine J.l0 [0, 1, 2] rfl ?_
        exact ih _ _ hq
      · replace hq := hq.2 c_4
        refine j_iconst 23 C dX5_killed_22 rfl ic_0 ?_
        refine j_goto 27 C dX5_killed_23 rfl ?_
        refine j_iadd 28 C dX5_killed_27 rfl ?_
        refine J.topi (fun x_7 ex_7 => ?_)
        replace hq := hq x_7 ex_7
        refine j_istore_n 29 C dX5_killed_28 rfl (Nat.le_of_ble_eq_true rfl) [1, 0, 2] (lv' := [(0, .ref (h 0)), (1, .int x_7), (2, .int x2)]) rfl ?_
        obtain ⟨x_8, ex_8⟩ : ∃ y : Int32, y = (x2 + (1 : Int32)) := ⟨_, rfl⟩
        replace hq := hq x_8 ex_8
        refine j_iinc 32 C dX5_killed_29 rfl 2 rfl (v := x_8) (by rw [ex_8]; rfl) (Nat.le_of_ble_eq_true rfl) [1, 2, 0] (lv' := [(0, .ref (h 0)), (1, .int x_7), (2, .int x_8)]) rfl ?_
        refine j_goto 4 C dX5_killed_32 rfl ?_
        refine J.l0 [0, 1, 2] rfl ?_
        exact ih _ _ hq
def Q_X5_killed (f : FF) (v : VV) (post : Int32 → Prop) : Prop := ∃ n_9 : Nat, Q_X5_killed_L4 f v (fun x_10 x_11 => (post x_10)) n_9 (0 : Int32) (0 : Int32)
set_option maxRecDepth 100000 in
set_option maxHeartbeats 4000000 in
theorem m_X5_killed {l : Launch} (G : Gx) (h : Nat → Nat) (f : FF) (v : VV) {post : Int32 → Prop} (hq : Q_X5_killed f v post) : MetI l yX5_killed (gC yX5_killed cX5_killed 3 (some .int)) rmX5_killed G [.ref (h 0)] (wE G h) f v (fun r f' v' => post r ∧ f' = f ∧ v' = v) := by
  refine met_i (own := RX5) (by decide) rfl (Nat.le_of_ble_eq_true rfl) (fun κ hκ C hR => ?_)
  unfold Q_X5_killed at hq
  subst hκ
  show J κ 0 0 (wE G h f v) 0 [(0, .ref (h 0))] []
  refine j_iconst 1 C dX5_killed_0 rfl ic_0 ?_
  refine j_istore_n 2 C dX5_killed_1 rfl (Nat.le_of_ble_eq_true rfl) [1, 0] (lv' := [(0, .ref (h 0)), (1, .int (0 : Int32))]) rfl ?_
  refine j_iconst 3 C dX5_killed_2 rfl ic_0 ?_
  refine j_istore_n 4 C dX5_killed_3 rfl (Nat.le_of_ble_eq_true rfl) [1, 2, 0] (lv' := [(0, .ref (h 0)), (1, .int (0 : Int32)), (2, .int (0 : Int32))]) rfl ?_
  obtain ⟨n_9, hq⟩ := hq
  refine t_X5_killed_L4 C ?_ n_9 _ _ hq
  · intro x_10 x_11 hq
    refine j_iload_n 36 C dX5_killed_35 rfl 1 rfl ?_
    exact hR _ _ _ f v dX5_killed_36 ⟨hq, rfl, rfl⟩
def Q_X5_killedBy_L4 (f : FF) (v : VV) (x1 : Int32) (K33 : Int32 → Int32 → Prop) : Nat → Int32 → Int32 → Prop
  | 0, _, _ => False
  | n + 1, x2, x3 => Q_X5_mutants  f v (fun r_1 => (((r_1 ≤ x3 → (K33 x2 x3)) ∧ (¬ r_1 ≤ x3 → (vp_in x3 20 ∧ (∀ x_4 : Int32, x_4 = (x2 ||| (((((f 13) (x3).toNatClampNeg) >>> (x1 &&& 31)) &&& (1 : Int32)) <<< (x3 &&& 31))) → (∀ x_5 : Int32, x_5 = (x3 + (1 : Int32)) → (Q_X5_killedBy_L4 f v x1 K33 n x_4 x_5))))))))
set_option maxRecDepth 100000 in
set_option maxHeartbeats 4000000 in
theorem t_X5_killedBy_L4 {κ : Kx} {G : Gx} {h : Nat → Nat} (C : Cx κ G RX5 cX5_killedBy rmX5_killedBy 4) {f : FF} {v : VV} {x1 : Int32} {K33 : Int32 → Int32 → Prop} (hK33 : ∀ (x2 : Int32) (x3 : Int32), K33 x2 x3 → J κ 0 0 (wE G h f v) 33 [(0, .ref (h 0)), (1, .int x1), (2, .int x2), (3, .int x3)] []) : ∀ (n : Nat) (x2 : Int32) (x3 : Int32), Q_X5_killedBy_L4 f v x1 K33 n x2 x3 → J κ 0 0 (wE G h f v) 4 [(0, .ref (h 0)), (1, .int x1), (2, .int x2), (3, .int x3)] [] := by
  intro n
  induction n with
  | zero => intro x2 x3 hq; exact False.elim hq
  | succ n ih =>
    intro x2 x3 hq
    rw [Q_X5_killedBy_L4] at hq
    refine j_iload_n 5 C dX5_killedBy_4 rfl 3 rfl ?_
    refine j_aload_n 6 C dX5_killedBy_5 rfl 0 rfl ?_
    refine j_callVi_ro 9 C [] [] (As := []) (m_X5_mutants G h f v hq) oX5_mutants kX5_77 ⟨rfl, rfl⟩ eX5_mutants ⟨Nat.le_of_ble_eq_true rfl, Nat.le_of_ble_eq_true rfl⟩ ⟨Nat.zero_le _, Nat.zero_le _⟩ (List.append_nil _).symm (fun _ _ => rfl) 0 rfl rfl rfl (Nat.le_of_ble_eq_true rfl) dX5_killedBy_6 rfl (fun r_1 hq => ?_)
    refine j_icmp_ge 12 33 C dX5_killedBy_9 rfl rfl (fun c_2 => ?_) (fun c_2 => ?_)
    · replace hq := hq.1 c_2
      refine J.l0 [0, 1, 2, 3] rfl ?_
      exact hK33 _ _ hq
    · replace hq := hq.2 c_2
      refine j_iload_n 13 C dX5_killedBy_12 rfl 2 rfl ?_
      refine j_aload_n 14 C dX5_killedBy_13 rfl 0 rfl ?_
      refine j_get 17 C uX5 0 rfl rfl 20 (Nat.le_of_ble_eq_true rfl) lX5_49 (v := .ref (h 14)) rfl dX5_killedBy_14 rfl ?_
      refine j_iload_n 18 C dX5_killedBy_17 rfl 3 rfl ?_
      obtain ⟨hi_3, hq⟩ := hq
      refine j_iald 19 C 14 (f := (f 13)) rfl hi_3 dX5_killedBy_18 rfl ?_
      refine j_iload_n 20 C dX5_killedBy_19 rfl 1 rfl ?_
      refine j_ishr 21 C dX5_killedBy_20 rfl ?_
      refine j_iconst 22 C dX5_killedBy_21 rfl ic_1 ?_
      refine j_iand 23 C dX5_killedBy_22 rfl ?_
      refine j_iload_n 24 C dX5_killedBy_23 rfl 3 rfl ?_
      refine j_ishl 25 C dX5_killedBy_24 rfl ?_
      refine j_ior 26 C dX5_killedBy_25 rfl ?_
      refine J.topi (fun x_4 ex_4 => ?_)
      replace hq := hq x_4 ex_4
      refine j_istore_n 27 C dX5_killedBy_26 rfl (Nat.le_of_ble_eq_true rfl) [1, 2, 0, 3] (lv' := [(0, .ref (h 0)), (1, .int x1), (2, .int x_4), (3, .int x3)]) rfl ?_
      obtain ⟨x_5, ex_5⟩ : ∃ y : Int32, y = (x3 + (1 : Int32)) := ⟨_, rfl⟩
      replace hq := hq x_5 ex_5
      refine j_iinc 30 C dX5_killedBy_27 rfl 3 rfl (v := x_5) (by rw [ex_5]; rfl) (Nat.le_of_ble_eq_true rfl) [1, 2, 3, 0] (lv' := [(0, .ref (h 0)), (1, .int x1), (2, .int x_4), (3, .int x_5)]) rfl ?_
      refine j_goto 4 C dX5_killedBy_30 rfl ?_
      refine J.l0 [0, 1, 2, 3] rfl ?_
      exact ih _ _ hq
def Q_X5_killedBy (p0 : Int32) (f : FF) (v : VV) (post : Int32 → Prop) : Prop := ∃ n_6 : Nat, Q_X5_killedBy_L4 f v p0 (fun x_7 x_8 => (post x_7)) n_6 (0 : Int32) (0 : Int32)
set_option maxRecDepth 100000 in
set_option maxHeartbeats 4000000 in
theorem m_X5_killedBy {l : Launch} (G : Gx) (h : Nat → Nat) (p0 : Int32) (f : FF) (v : VV) {post : Int32 → Prop} (hq : Q_X5_killedBy p0 f v post) : MetI l yX5_killedBy (gC yX5_killedBy cX5_killedBy 4 (some .int)) rmX5_killedBy G [.ref (h 0), .int p0] (wE G h) f v (fun r f' v' => post r ∧ f' = f ∧ v' = v) := by
  refine met_i (own := RX5) (by decide) rfl (Nat.le_of_ble_eq_true rfl) (fun κ hκ C hR => ?_)
  unfold Q_X5_killedBy at hq
  subst hκ
  show J κ 0 0 (wE G h f v) 0 [(0, .ref (h 0)), (1, .int p0)] []
  refine j_iconst 1 C dX5_killedBy_0 rfl ic_0 ?_
  refine j_istore_n 2 C dX5_killedBy_1 rfl (Nat.le_of_ble_eq_true rfl) [1, 2, 0] (lv' := [(0, .ref (h 0)), (1, .int p0), (2, .int (0 : Int32))]) rfl ?_
  refine j_iconst 3 C dX5_killedBy_2 rfl ic_0 ?_
  refine j_istore_n 4 C dX5_killedBy_3 rfl (Nat.le_of_ble_eq_true rfl) [1, 2, 3, 0] (lv' := [(0, .ref (h 0)), (1, .int p0), (2, .int (0 : Int32)), (3, .int (0 : Int32))]) rfl ?_
  obtain ⟨n_6, hq⟩ := hq
  refine t_X5_killedBy_L4 C ?_ n_6 _ _ hq
  · intro x_7 x_8 hq
    refine j_iload_n 34 C dX5_killedBy_33 rfl 2 rfl ?_
    exact hR _ _ _ f v dX5_killedBy_34 ⟨hq, rfl, rfl⟩
def Q_X5_ofStep (p0 : Int32) (p1 : Int32) (f : FF) (v : VV) (post : Int32 → Prop) : Prop := Q_X5_isStep p0 f v (fun r_1 => (((¬ r_1 = 0 → (((¬ p1 = 0 → (((¬ p1 = (1 : Int32) → (((¬ p1 = (2 : Int32) → (post (-2 : Int32))) ∧ (p1 = (2 : Int32) → (vp_in p0 5 ∧ (post ((f 5) (p0).toNatClampNeg))))))) ∧ (p1 = (1 : Int32) → (vp_in p0 5 ∧ (post ((f 4) (p0).toNatClampNeg))))))) ∧ (p1 = 0 → (vp_in p0 5 ∧ (post ((f 3) (p0).toNatClampNeg))))))) ∧ (r_1 = 0 → (post (-1 : Int32))))))
set_option maxRecDepth 100000 in
set_option maxHeartbeats 4000000 in
theorem m_X5_ofStep {l : Launch} (G : Gx) (h : Nat → Nat) (p0 : Int32) (p1 : Int32) (f : FF) (v : VV) {post : Int32 → Prop} (hq : Q_X5_ofStep p0 p1 f v post) : MetI l yX5_ofStep (gC yX5_ofStep cX5_ofStep 3 (some .int)) rmX5_ofStep G [.ref (h 0), .int p0, .int p1] (wE G h) f v (fun r f' v' => post r ∧ f' = f ∧ v' = v) := by
  refine met_i (own := RX5) (by decide) rfl (Nat.le_of_ble_eq_true rfl) (fun κ hκ C hR => ?_)
  unfold Q_X5_ofStep at hq
  subst hκ
  show J κ 0 0 (wE G h f v) 0 [(0, .ref (h 0)), (1, .int p0), (2, .int p1)] []
  refine j_aload_n 1 C dX5_ofStep_0 rfl 0 rfl ?_
  refine j_iload_n 2 C dX5_ofStep_1 rfl 1 rfl ?_
  refine j_callVi_ro 5 C [] [] (As := [.int p0]) (m_X5_isStep G h p0 f v hq) oX5_isStep kX5_153 ⟨rfl, rfl⟩ eX5_isStep ⟨Nat.le_of_ble_eq_true rfl, Nat.le_of_ble_eq_true rfl⟩ ⟨Nat.zero_le _, Nat.zero_le _⟩ (List.append_nil _).symm (fun _ _ => rfl) 0 rfl rfl rfl (Nat.le_of_ble_eq_true rfl) dX5_ofStep_2 rfl (fun r_1 hq => ?_)
  refine j_if_ne 8 10 C dX5_ofStep_5 rfl rfl (fun c_2 => ?_) (fun c_2 => ?_)
  · replace hq := hq.1 c_2
    refine j_iload_n 11 C dX5_ofStep_10 rfl 2 rfl ?_
    refine j_if_ne 14 23 C dX5_ofStep_11 rfl rfl (fun c_3 => ?_) (fun c_3 => ?_)
    · replace hq := hq.1 c_3
      refine j_iload_n 24 C dX5_ofStep_23 rfl 2 rfl ?_
      refine j_iconst 25 C dX5_ofStep_24 rfl ic_1 ?_
      refine j_icmp_ne 28 37 C dX5_ofStep_25 rfl rfl (fun c_4 => ?_) (fun c_4 => ?_)
      · replace hq := hq.1 c_4
        refine j_iload_n 38 C dX5_ofStep_37 rfl 2 rfl ?_
        refine j_iconst 39 C dX5_ofStep_38 rfl ic_2 ?_
        refine j_icmp_ne 42 51 C dX5_ofStep_39 rfl rfl (fun c_5 => ?_) (fun c_5 => ?_)
        · replace hq := hq.1 c_5
          refine j_bipush 53 C dX5_ofStep_51 rfl bc_m2 ?_
          exact hR _ _ _ f v dX5_ofStep_53 ⟨hq, rfl, rfl⟩
        · replace hq := hq.2 c_5
          refine j_aload_n 43 C dX5_ofStep_42 rfl 0 rfl ?_
          refine j_get 46 C uX5 0 rfl rfl 9 (Nat.le_of_ble_eq_true rfl) lX5_25 (v := .ref (h 6)) rfl dX5_ofStep_43 rfl ?_
          refine j_iload_n 47 C dX5_ofStep_46 rfl 1 rfl ?_
          obtain ⟨hi_6, hq⟩ := hq
          refine j_iald 48 C 6 (f := (f 5)) rfl hi_6 dX5_ofStep_47 rfl ?_
          refine j_goto 53 C dX5_ofStep_48 rfl ?_
          exact hR _ _ _ f v dX5_ofStep_53 ⟨hq, rfl, rfl⟩
      · replace hq := hq.2 c_4
        refine j_aload_n 29 C dX5_ofStep_28 rfl 0 rfl ?_
        refine j_get 32 C uX5 0 rfl rfl 8 (Nat.le_of_ble_eq_true rfl) lX5_22 (v := .ref (h 5)) rfl dX5_ofStep_29 rfl ?_
        refine j_iload_n 33 C dX5_ofStep_32 rfl 1 rfl ?_
        obtain ⟨hi_7, hq⟩ := hq
        refine j_iald 34 C 5 (f := (f 4)) rfl hi_7 dX5_ofStep_33 rfl ?_
        refine j_goto 53 C dX5_ofStep_34 rfl ?_
        exact hR _ _ _ f v dX5_ofStep_53 ⟨hq, rfl, rfl⟩
    · replace hq := hq.2 c_3
      refine j_aload_n 15 C dX5_ofStep_14 rfl 0 rfl ?_
      refine j_get 18 C uX5 0 rfl rfl 7 (Nat.le_of_ble_eq_true rfl) lX5_19 (v := .ref (h 4)) rfl dX5_ofStep_15 rfl ?_
      refine j_iload_n 19 C dX5_ofStep_18 rfl 1 rfl ?_
      obtain ⟨hi_8, hq⟩ := hq
      refine j_iald 20 C 4 (f := (f 3)) rfl hi_8 dX5_ofStep_19 rfl ?_
      refine j_goto 53 C dX5_ofStep_20 rfl ?_
      exact hR _ _ _ f v dX5_ofStep_53 ⟨hq, rfl, rfl⟩
  · replace hq := hq.2 c_2
    refine j_iconst 9 C dX5_ofStep_8 rfl ic_m1 ?_
    exact hR _ _ _ f v dX5_ofStep_9 ⟨hq, rfl, rfl⟩
def Q_X5_ofTest (p0 : Int32) (p1 : Int32) (f : FF) (v : VV) (post : Int32 → FF → VV → Prop) : Prop := Q_X5_isTest p0 f v (fun r_1 => (((¬ r_1 = 0 → (((p1 = (0 : Int32) → (vp_in p0 7 ∧ (post ((f 6) (p0).toNatClampNeg) f v))) ∧ (¬ p1 = (0 : Int32) → (((p1 = (1 : Int32) → (vp_in p0 7 ∧ (post ((f 7) (p0).toNatClampNeg) f v))) ∧ (¬ p1 = (1 : Int32) → (((p1 = (2 : Int32) → (Q_X5_weightOf p0 f v (fun r_8 => (post r_8 f v)))) ∧ (¬ p1 = (2 : Int32) → (((p1 = (3 : Int32) → (vp_in p0 7 ∧ (post ((f 8) (p0).toNatClampNeg) f v))) ∧ (¬ p1 = (3 : Int32) → (((p1 = (4 : Int32) → (vp_in p0 7 ∧ (post ((f 9) (p0).toNatClampNeg) f v))) ∧ (¬ p1 = (4 : Int32) → (((p1 = (5 : Int32) → (vp_in p0 7 ∧ (vp_in p0 7 ∧ (Q_X5_plainRun ((f 8) (p0).toNatClampNeg) ((f 9) (p0).toNatClampNeg) f v (fun r_16 f_17 v_18 => (post r_16 f_17 v_18)))))) ∧ (¬ p1 = (5 : Int32) → (((p1 = (6 : Int32) → (Q_X5_findKillers  f v (fun f_21 v_22 => (Q_X5_killedBy p0 f_21 v_22 (fun r_23 => (post r_23 f_21 v_22)))))) ∧ (¬ p1 = (6 : Int32) → (post (-2 : Int32) f v))))))))))))))))))))))) ∧ (r_1 = 0 → (post (-1 : Int32) f v)))))
set_option maxRecDepth 100000 in
set_option maxHeartbeats 4000000 in
theorem m_X5_ofTest {l : Launch} (G : Gx) (h : Nat → Nat) (p0 : Int32) (p1 : Int32) (f : FF) (v : VV) {post : Int32 → FF → VV → Prop} (hq : Q_X5_ofTest p0 p1 f v post) : MetI l yX5_ofTest (gC yX5_ofTest cX5_ofTest 3 (some .int)) rmX5_ofTest G [.ref (h 0), .int p0, .int p1] (wE G h) f v post := by
  refine met_i (own := RX5) (by decide) rfl (Nat.le_of_ble_eq_true rfl) (fun κ hκ C hR => ?_)
  unfold Q_X5_ofTest at hq
  subst hκ
  show J κ 0 0 (wE G h f v) 0 [(0, .ref (h 0)), (1, .int p0), (2, .int p1)] []
  refine j_aload_n 1 C dX5_ofTest_0 rfl 0 rfl ?_
  refine j_iload_n 2 C dX5_ofTest_1 rfl 1 rfl ?_
  refine j_callVi_ro 5 C [] [] (As := [.int p0]) (m_X5_isTest G h p0 f v hq) oX5_isTest kX5_156 ⟨rfl, rfl⟩ eX5_isTest ⟨Nat.le_of_ble_eq_true rfl, Nat.le_of_ble_eq_true rfl⟩ ⟨Nat.zero_le _, Nat.zero_le _⟩ (List.append_nil _).symm (fun _ _ => rfl) 0 rfl rfl rfl (Nat.le_of_ble_eq_true rfl) dX5_ofTest_2 rfl (fun r_1 hq => ?_)
  refine j_if_ne 8 10 C dX5_ofTest_5 rfl rfl (fun c_2 => ?_) (fun c_2 => ?_)
  · replace hq := hq.1 c_2
    refine j_iload_n 11 C dX5_ofTest_10 rfl 2 rfl ?_
    by_cases c_3 : p1 = (0 : Int32)
    · replace hq := hq.1 c_3
      refine j_tableIn 52 C (0 : Int32) dX5_ofTest_11 c_3 (by decide) (by decide) rfl rfl ?_
      refine j_aload_n 53 C dX5_ofTest_52 rfl 0 rfl ?_
      refine j_get 56 C uX5 0 rfl rfl 10 (Nat.le_of_ble_eq_true rfl) lX5_28 (v := .ref (h 7)) rfl dX5_ofTest_53 rfl ?_
      refine j_iload_n 57 C dX5_ofTest_56 rfl 1 rfl ?_
      obtain ⟨hi_4, hq⟩ := hq
      refine j_iald 58 C 7 (f := (f 6)) rfl hi_4 dX5_ofTest_57 rfl ?_
      exact hR _ _ _ f v dX5_ofTest_58 hq
    · replace hq := hq.2 c_3
      by_cases c_5 : p1 = (1 : Int32)
      · replace hq := hq.1 c_5
        refine j_tableIn 59 C (1 : Int32) dX5_ofTest_11 c_5 (by decide) (by decide) rfl rfl ?_
        refine j_aload_n 60 C dX5_ofTest_59 rfl 0 rfl ?_
        refine j_get 63 C uX5 0 rfl rfl 11 (Nat.le_of_ble_eq_true rfl) lX5_31 (v := .ref (h 8)) rfl dX5_ofTest_60 rfl ?_
        refine j_iload_n 64 C dX5_ofTest_63 rfl 1 rfl ?_
        obtain ⟨hi_6, hq⟩ := hq
        refine j_iald 65 C 8 (f := (f 7)) rfl hi_6 dX5_ofTest_64 rfl ?_
        exact hR _ _ _ f v dX5_ofTest_65 hq
      · replace hq := hq.2 c_5
        by_cases c_7 : p1 = (2 : Int32)
        · replace hq := hq.1 c_7
          refine j_tableIn 66 C (2 : Int32) dX5_ofTest_11 c_7 (by decide) (by decide) rfl rfl ?_
          refine j_aload_n 67 C dX5_ofTest_66 rfl 0 rfl ?_
          refine j_iload_n 68 C dX5_ofTest_67 rfl 1 rfl ?_
          refine j_callVi_ro 71 C [] [] (As := [.int p0]) (m_X5_weightOf G h p0 f v hq) oX5_weightOf kX5_159 ⟨rfl, rfl⟩ eX5_weightOf ⟨Nat.le_of_ble_eq_true rfl, Nat.le_of_ble_eq_true rfl⟩ ⟨Nat.zero_le _, Nat.zero_le _⟩ (List.append_nil _).symm (fun _ _ => rfl) 0 rfl rfl rfl (Nat.le_of_ble_eq_true rfl) dX5_ofTest_68 rfl (fun r_8 hq => ?_)
          exact hR _ _ _ f v dX5_ofTest_71 hq
        · replace hq := hq.2 c_7
          by_cases c_9 : p1 = (3 : Int32)
          · replace hq := hq.1 c_9
            refine j_tableIn 72 C (3 : Int32) dX5_ofTest_11 c_9 (by decide) (by decide) rfl rfl ?_
            refine j_aload_n 73 C dX5_ofTest_72 rfl 0 rfl ?_
            refine j_get 76 C uX5 0 rfl rfl 12 (Nat.le_of_ble_eq_true rfl) lX5_34 (v := .ref (h 9)) rfl dX5_ofTest_73 rfl ?_
            refine j_iload_n 77 C dX5_ofTest_76 rfl 1 rfl ?_
            obtain ⟨hi_10, hq⟩ := hq
            refine j_iald 78 C 9 (f := (f 8)) rfl hi_10 dX5_ofTest_77 rfl ?_
            exact hR _ _ _ f v dX5_ofTest_78 hq
          · replace hq := hq.2 c_9
            by_cases c_11 : p1 = (4 : Int32)
            · replace hq := hq.1 c_11
              refine j_tableIn 79 C (4 : Int32) dX5_ofTest_11 c_11 (by decide) (by decide) rfl rfl ?_
              refine j_aload_n 80 C dX5_ofTest_79 rfl 0 rfl ?_
              refine j_get 83 C uX5 0 rfl rfl 13 (Nat.le_of_ble_eq_true rfl) lX5_37 (v := .ref (h 10)) rfl dX5_ofTest_80 rfl ?_
              refine j_iload_n 84 C dX5_ofTest_83 rfl 1 rfl ?_
              obtain ⟨hi_12, hq⟩ := hq
              refine j_iald 85 C 10 (f := (f 9)) rfl hi_12 dX5_ofTest_84 rfl ?_
              exact hR _ _ _ f v dX5_ofTest_85 hq
            · replace hq := hq.2 c_11
              by_cases c_13 : p1 = (5 : Int32)
              · replace hq := hq.1 c_13
                refine j_tableIn 86 C (5 : Int32) dX5_ofTest_11 c_13 (by decide) (by decide) rfl rfl ?_
                refine j_aload_n 87 C dX5_ofTest_86 rfl 0 rfl ?_
                refine j_aload_n 88 C dX5_ofTest_87 rfl 0 rfl ?_
                refine j_get 91 C uX5 0 rfl rfl 12 (Nat.le_of_ble_eq_true rfl) lX5_34 (v := .ref (h 9)) rfl dX5_ofTest_88 rfl ?_
                refine j_iload_n 92 C dX5_ofTest_91 rfl 1 rfl ?_
                obtain ⟨hi_14, hq⟩ := hq
                refine j_iald 93 C 9 (f := (f 8)) rfl hi_14 dX5_ofTest_92 rfl ?_
                refine j_aload_n 94 C dX5_ofTest_93 rfl 0 rfl ?_
                refine j_get 97 C uX5 0 rfl rfl 13 (Nat.le_of_ble_eq_true rfl) lX5_37 (v := .ref (h 10)) rfl dX5_ofTest_94 rfl ?_
                refine j_iload_n 98 C dX5_ofTest_97 rfl 1 rfl ?_
                obtain ⟨hi_15, hq⟩ := hq
                refine j_iald 99 C 10 (f := (f 9)) rfl hi_15 dX5_ofTest_98 rfl ?_
                refine j_callVi 102 C [] [] (fun f' v' => (wE G h f' v')) (As := [.int ((f 8) (p0).toNatClampNeg), .int ((f 9) (p0).toNatClampNeg)]) (m_X5_plainRun G h ((f 8) (p0).toNatClampNeg) ((f 9) (p0).toNatClampNeg) f v hq) oX5_plainRun kX5_140 ⟨rfl, rfl⟩ eX5_plainRun ⟨Nat.le_of_ble_eq_true rfl, Nat.le_of_ble_eq_true rfl⟩ ⟨Nat.zero_le _, Nat.zero_le _⟩ (List.append_nil _).symm (fun _ _ => List.append_nil _) (fun _ _ => rfl) 0 rfl rfl rfl (Nat.le_of_ble_eq_true rfl) dX5_ofTest_99 rfl (fun r_16 f_17 v_18 hq => ?_)
                exact hR _ _ _ f_17 v_18 dX5_ofTest_102 hq
              · replace hq := hq.2 c_13
                by_cases c_19 : p1 = (6 : Int32)
                · replace hq := hq.1 c_19
                  refine j_tableIn 103 C (6 : Int32) dX5_ofTest_11 c_19 (by decide) (by decide) rfl rfl ?_
                  refine j_aload_n 104 C dX5_ofTest_103 rfl 0 rfl ?_
                  refine j_callVv 107 C [] [] (fun f' v' => (wE G h f' v')) (As := []) (m_X5_findKillers G h f v hq) oX5_findKillers kX5_162 ⟨rfl, rfl⟩ eX5_findKillers ⟨Nat.le_of_ble_eq_true rfl, Nat.le_of_ble_eq_true rfl⟩ ⟨Nat.zero_le _, Nat.zero_le _⟩ (List.append_nil _).symm (fun _ _ => List.append_nil _) (fun _ _ => rfl) 0 rfl rfl rfl (Nat.le_of_ble_eq_true rfl) dX5_ofTest_104 rfl (fun f_21 v_22 hq => ?_)
                  refine j_aload_n 108 C dX5_ofTest_107 rfl 0 rfl ?_
                  refine j_iload_n 109 C dX5_ofTest_108 rfl 1 rfl ?_
                  refine j_callVi_ro 112 C [] [] (As := [.int p0]) (m_X5_killedBy G h p0 f_21 v_22 hq) oX5_killedBy kX5_165 ⟨rfl, rfl⟩ eX5_killedBy ⟨Nat.le_of_ble_eq_true rfl, Nat.le_of_ble_eq_true rfl⟩ ⟨Nat.zero_le _, Nat.zero_le _⟩ (List.append_nil _).symm (fun _ _ => rfl) 0 rfl rfl rfl (Nat.le_of_ble_eq_true rfl) dX5_ofTest_109 rfl (fun r_23 hq => ?_)
                  exact hR _ _ _ f_21 v_22 dX5_ofTest_112 hq
                · replace hq := hq.2 c_19
                  have zc_3 := ne_toInt (z := 0) (by decide) c_3
                  have zc_5 := ne_toInt (z := 1) (by decide) c_5
                  have zc_7 := ne_toInt (z := 2) (by decide) c_7
                  have zc_9 := ne_toInt (z := 3) (by decide) c_9
                  have zc_11 := ne_toInt (z := 4) (by decide) c_11
                  have zc_13 := ne_toInt (z := 5) (by decide) c_13
                  have zc_19 := ne_toInt (z := 6) (by decide) c_19
                  refine j_tableOut 113 C dX5_ofTest_11 (by omega) rfl ?_
                  refine j_bipush 115 C dX5_ofTest_113 rfl bc_m2 ?_
                  exact hR _ _ _ f v dX5_ofTest_115 hq
  · replace hq := hq.2 c_2
    refine j_iconst 9 C dX5_ofTest_8 rfl ic_m1 ?_
    exact hR _ _ _ f v dX5_ofTest_9 hq
def Q_X5_output (p0 : Int32) (p1 : Int32) (f : FF) (v : VV) (post : Int32 → FF → VV → Prop) : Prop := Q_X5_within p0 (0 : Int32) (9 : Int32) (fun r_1 => (((r_1 = 0 → (post (-2 : Int32) f v)) ∧ (¬ r_1 = 0 → (Q_X5_within p1 (0 : Int32) (9 : Int32) (fun r_3 => (((¬ r_3 = 0 → (((¬ (v 2) = 0 → (Q_X5_plainRun p0 p1 f v (fun r_6 f_7 v_8 => (post r_6 f_7 v_8)))) ∧ ((v 2) = 0 → (post (-3 : Int32) f v))))) ∧ (r_3 = 0 → (post (-2 : Int32) f v))))))))))
set_option maxRecDepth 100000 in
set_option maxHeartbeats 4000000 in
theorem m_X5_output {l : Launch} (G : Gx) (h : Nat → Nat) (p0 : Int32) (p1 : Int32) (f : FF) (v : VV) {post : Int32 → FF → VV → Prop} (hq : Q_X5_output p0 p1 f v post) : MetI l yX5_output (gC yX5_output cX5_output 3 (some .int)) rmX5_output G [.ref (h 0), .int p0, .int p1] (wE G h) f v post := by
  refine met_i (own := RX5) (by decide) rfl (Nat.le_of_ble_eq_true rfl) (fun κ hκ C hR => ?_)
  unfold Q_X5_output at hq
  subst hκ
  show J κ 0 0 (wE G h f v) 0 [(0, .ref (h 0)), (1, .int p0), (2, .int p1)] []
  refine j_iload_n 1 C dX5_output_0 rfl 1 rfl ?_
  refine j_iconst 2 C dX5_output_1 rfl ic_0 ?_
  refine j_bipush 4 C dX5_output_2 rfl bc_9 ?_
  refine j_callSi 7 C [] (wE G h f v) (fun _ _ => (wE G h f v)) (As := [.int p0, .int (0 : Int32), .int (9 : Int32)]) (m_X5_within G p0 (0 : Int32) (9 : Int32) hq) oX5_within kX5_67 ⟨rfl, rfl⟩ eX5_within ⟨Nat.le_of_ble_eq_true rfl, Nat.le_of_ble_eq_true rfl⟩ ⟨Nat.zero_le _, Nat.zero_le _⟩ rfl (fun _ _ => rfl) (fun _ _ => rfl) rfl (Nat.le_of_ble_eq_true rfl) dX5_output_4 rfl (fun r_1 _ _ hq => ?_)
  refine j_if_eq 10 20 C dX5_output_7 rfl rfl (fun c_2 => ?_) (fun c_2 => ?_)
  · replace hq := hq.1 c_2
    refine j_bipush 22 C dX5_output_20 rfl bc_m2 ?_
    exact hR _ _ _ f v dX5_output_22 hq
  · replace hq := hq.2 c_2
    refine j_iload_n 11 C dX5_output_10 rfl 2 rfl ?_
    refine j_iconst 12 C dX5_output_11 rfl ic_0 ?_
    refine j_bipush 14 C dX5_output_12 rfl bc_9 ?_
    refine j_callSi 17 C [] (wE G h f v) (fun _ _ => (wE G h f v)) (As := [.int p1, .int (0 : Int32), .int (9 : Int32)]) (m_X5_within G p1 (0 : Int32) (9 : Int32) hq) oX5_within kX5_67 ⟨rfl, rfl⟩ eX5_within ⟨Nat.le_of_ble_eq_true rfl, Nat.le_of_ble_eq_true rfl⟩ ⟨Nat.zero_le _, Nat.zero_le _⟩ rfl (fun _ _ => rfl) (fun _ _ => rfl) rfl (Nat.le_of_ble_eq_true rfl) dX5_output_14 rfl (fun r_3 _ _ hq => ?_)
    refine j_if_ne 20 23 C dX5_output_17 rfl rfl (fun c_4 => ?_) (fun c_4 => ?_)
    · replace hq := hq.1 c_4
      refine j_aload_n 24 C dX5_output_23 rfl 0 rfl ?_
      refine j_get 27 C uX5 0 rfl rfl 5 (Nat.le_of_ble_eq_true rfl) lX5_71 (v := .int (v 2)) rfl dX5_output_24 rfl ?_
      refine j_if_ne 30 35 C dX5_output_27 rfl rfl (fun c_5 => ?_) (fun c_5 => ?_)
      · replace hq := hq.1 c_5
        refine j_aload_n 36 C dX5_output_35 rfl 0 rfl ?_
        refine j_iload_n 37 C dX5_output_36 rfl 1 rfl ?_
        refine j_iload_n 38 C dX5_output_37 rfl 2 rfl ?_
        refine j_callVi 41 C [] [] (fun f' v' => (wE G h f' v')) (As := [.int p0, .int p1]) (m_X5_plainRun G h p0 p1 f v hq) oX5_plainRun kX5_140 ⟨rfl, rfl⟩ eX5_plainRun ⟨Nat.le_of_ble_eq_true rfl, Nat.le_of_ble_eq_true rfl⟩ ⟨Nat.zero_le _, Nat.zero_le _⟩ (List.append_nil _).symm (fun _ _ => List.append_nil _) (fun _ _ => rfl) 0 rfl rfl rfl (Nat.le_of_ble_eq_true rfl) dX5_output_38 rfl (fun r_6 f_7 v_8 hq => ?_)
        exact hR _ _ _ f_7 v_8 dX5_output_41 hq
      · replace hq := hq.2 c_5
        refine j_bipush 32 C dX5_output_30 rfl bc_m3 ?_
        refine j_goto 41 C dX5_output_32 rfl ?_
        exact hR _ _ _ f v dX5_output_41 hq
    · replace hq := hq.2 c_4
      refine j_bipush 22 C dX5_output_20 rfl bc_m2 ?_
      exact hR _ _ _ f v dX5_output_22 hq
def Q_X5_way (p0 : Int32) (p1 : Int32) (f : FF) (v : VV) (post : Int32 → FF → VV → Prop) : Prop := Q_X5_isStep p0 f v (fun r_1 => (((¬ r_1 = 0 → (Q_X5_within p1 (0 : Int32) (4 : Int32) (fun r_3 => (((¬ r_3 = 0 → (vp_in p0 5 ∧ (∀ x_6 : Int32, x_6 = ((f 3) (p0).toNatClampNeg) → (vp_in p0 5 ∧ (∀ f_8 : FF, f_8 = fu f 3 (wr (f 3) p0 p1) → (post x_6 f_8 v)))))) ∧ (r_3 = 0 → (post (-2 : Int32) f v))))))) ∧ (r_1 = 0 → (post (-1 : Int32) f v)))))
set_option maxRecDepth 100000 in
set_option maxHeartbeats 4000000 in
theorem m_X5_way {l : Launch} (G : Gx) (h : Nat → Nat) (p0 : Int32) (p1 : Int32) (f : FF) (v : VV) {post : Int32 → FF → VV → Prop} (hq : Q_X5_way p0 p1 f v post) : MetI l yX5_way (gC yX5_way cX5_way 4 (some .int)) rmX5_way G [.ref (h 0), .int p0, .int p1] (wE G h) f v post := by
  refine met_i (own := RX5) (by decide) rfl (Nat.le_of_ble_eq_true rfl) (fun κ hκ C hR => ?_)
  unfold Q_X5_way at hq
  subst hκ
  show J κ 0 0 (wE G h f v) 0 [(0, .ref (h 0)), (1, .int p0), (2, .int p1)] []
  refine j_aload_n 1 C dX5_way_0 rfl 0 rfl ?_
  refine j_iload_n 2 C dX5_way_1 rfl 1 rfl ?_
  refine j_callVi_ro 5 C [] [] (As := [.int p0]) (m_X5_isStep G h p0 f v hq) oX5_isStep kX5_153 ⟨rfl, rfl⟩ eX5_isStep ⟨Nat.le_of_ble_eq_true rfl, Nat.le_of_ble_eq_true rfl⟩ ⟨Nat.zero_le _, Nat.zero_le _⟩ (List.append_nil _).symm (fun _ _ => rfl) 0 rfl rfl rfl (Nat.le_of_ble_eq_true rfl) dX5_way_2 rfl (fun r_1 hq => ?_)
  refine j_if_ne 8 10 C dX5_way_5 rfl rfl (fun c_2 => ?_) (fun c_2 => ?_)
  · replace hq := hq.1 c_2
    refine j_iload_n 11 C dX5_way_10 rfl 2 rfl ?_
    refine j_iconst 12 C dX5_way_11 rfl ic_0 ?_
    refine j_iconst 13 C dX5_way_12 rfl ic_4 ?_
    refine j_callSi 16 C [] (wE G h f v) (fun _ _ => (wE G h f v)) (As := [.int p1, .int (0 : Int32), .int (4 : Int32)]) (m_X5_within G p1 (0 : Int32) (4 : Int32) hq) oX5_within kX5_67 ⟨rfl, rfl⟩ eX5_within ⟨Nat.le_of_ble_eq_true rfl, Nat.le_of_ble_eq_true rfl⟩ ⟨Nat.zero_le _, Nat.zero_le _⟩ rfl (fun _ _ => rfl) (fun _ _ => rfl) rfl (Nat.le_of_ble_eq_true rfl) dX5_way_13 rfl (fun r_3 _ _ hq => ?_)
    refine j_if_ne 19 22 C dX5_way_16 rfl rfl (fun c_4 => ?_) (fun c_4 => ?_)
    · replace hq := hq.1 c_4
      refine j_aload_n 23 C dX5_way_22 rfl 0 rfl ?_
      refine j_get 26 C uX5 0 rfl rfl 7 (Nat.le_of_ble_eq_true rfl) lX5_19 (v := .ref (h 4)) rfl dX5_way_23 rfl ?_
      refine j_iload_n 27 C dX5_way_26 rfl 1 rfl ?_
      obtain ⟨hi_5, hq⟩ := hq
      refine j_iald 28 C 4 (f := (f 3)) rfl hi_5 dX5_way_27 rfl ?_
      refine J.topi (fun x_6 ex_6 => ?_)
      replace hq := hq x_6 ex_6
      refine j_istore_n 29 C dX5_way_28 rfl (Nat.le_of_ble_eq_true rfl) [1, 2, 3, 0] (lv' := [(0, .ref (h 0)), (1, .int p0), (2, .int p1), (3, .int x_6)]) rfl ?_
      refine j_aload_n 30 C dX5_way_29 rfl 0 rfl ?_
      refine j_get 33 C uX5 0 rfl rfl 7 (Nat.le_of_ble_eq_true rfl) lX5_19 (v := .ref (h 4)) rfl dX5_way_30 rfl ?_
      refine j_iload_n 34 C dX5_way_33 rfl 1 rfl ?_
      refine j_iload_n 35 C dX5_way_34 rfl 2 rfl ?_
      obtain ⟨hi_7, hq⟩ := hq
      obtain ⟨f_8, ef_8⟩ : ∃ y : FF, y = fu f 3 (wr (f 3) p0 p1) := ⟨_, rfl⟩
      replace hq := hq f_8 ef_8
      refine j_iast 36 C 4 rfl hi_7 dX5_way_35 rfl (ws' := (wE G h f_8 v)) (by subst ef_8; rfl) ?_
      refine j_iload_n 37 C dX5_way_36 rfl 3 rfl ?_
      exact hR _ _ _ f_8 v dX5_way_37 hq
    · replace hq := hq.2 c_4
      refine j_bipush 21 C dX5_way_19 rfl bc_m2 ?_
      exact hR _ _ _ f v dX5_way_21 hq
  · replace hq := hq.2 c_2
    refine j_iconst 9 C dX5_way_8 rfl ic_m1 ?_
    exact hR _ _ _ f v dX5_way_9 hq
def Q_X5_time (p0 : Int32) (p1 : Int32) (f : FF) (v : VV) (post : Int32 → FF → VV → Prop) : Prop := Q_X5_isTest p0 f v (fun r_1 => (((¬ r_1 = 0 → (Q_X5_within p1 (1 : Int32) (9 : Int32) (fun r_3 => (((¬ r_3 = 0 → (vp_in p0 7 ∧ (∀ x_6 : Int32, x_6 = ((f 7) (p0).toNatClampNeg) → (vp_in p0 7 ∧ (∀ f_8 : FF, f_8 = fu f 7 (wr (f 7) p0 p1) → (post x_6 f_8 v)))))) ∧ (r_3 = 0 → (post (-2 : Int32) f v))))))) ∧ (r_1 = 0 → (post (-1 : Int32) f v)))))
set_option maxRecDepth 100000 in
set_option maxHeartbeats 4000000 in
theorem m_X5_time {l : Launch} (G : Gx) (h : Nat → Nat) (p0 : Int32) (p1 : Int32) (f : FF) (v : VV) {post : Int32 → FF → VV → Prop} (hq : Q_X5_time p0 p1 f v post) : MetI l yX5_time (gC yX5_time cX5_time 4 (some .int)) rmX5_time G [.ref (h 0), .int p0, .int p1] (wE G h) f v post := by
  refine met_i (own := RX5) (by decide) rfl (Nat.le_of_ble_eq_true rfl) (fun κ hκ C hR => ?_)
  unfold Q_X5_time at hq
  subst hκ
  show J κ 0 0 (wE G h f v) 0 [(0, .ref (h 0)), (1, .int p0), (2, .int p1)] []
  refine j_aload_n 1 C dX5_time_0 rfl 0 rfl ?_
  refine j_iload_n 2 C dX5_time_1 rfl 1 rfl ?_
  refine j_callVi_ro 5 C [] [] (As := [.int p0]) (m_X5_isTest G h p0 f v hq) oX5_isTest kX5_156 ⟨rfl, rfl⟩ eX5_isTest ⟨Nat.le_of_ble_eq_true rfl, Nat.le_of_ble_eq_true rfl⟩ ⟨Nat.zero_le _, Nat.zero_le _⟩ (List.append_nil _).symm (fun _ _ => rfl) 0 rfl rfl rfl (Nat.le_of_ble_eq_true rfl) dX5_time_2 rfl (fun r_1 hq => ?_)
  refine j_if_ne 8 10 C dX5_time_5 rfl rfl (fun c_2 => ?_) (fun c_2 => ?_)
  · replace hq := hq.1 c_2
    refine j_iload_n 11 C dX5_time_10 rfl 2 rfl ?_
    refine j_iconst 12 C dX5_time_11 rfl ic_1 ?_
    refine j_bipush 14 C dX5_time_12 rfl bc_9 ?_
    refine j_callSi 17 C [] (wE G h f v) (fun _ _ => (wE G h f v)) (As := [.int p1, .int (1 : Int32), .int (9 : Int32)]) (m_X5_within G p1 (1 : Int32) (9 : Int32) hq) oX5_within kX5_67 ⟨rfl, rfl⟩ eX5_within ⟨Nat.le_of_ble_eq_true rfl, Nat.le_of_ble_eq_true rfl⟩ ⟨Nat.zero_le _, Nat.zero_le _⟩ rfl (fun _ _ => rfl) (fun _ _ => rfl) rfl (Nat.le_of_ble_eq_true rfl) dX5_time_14 rfl (fun r_3 _ _ hq => ?_)
    refine j_if_ne 20 23 C dX5_time_17 rfl rfl (fun c_4 => ?_) (fun c_4 => ?_)
    · replace hq := hq.1 c_4
      refine j_aload_n 24 C dX5_time_23 rfl 0 rfl ?_
      refine j_get 27 C uX5 0 rfl rfl 11 (Nat.le_of_ble_eq_true rfl) lX5_31 (v := .ref (h 8)) rfl dX5_time_24 rfl ?_
      refine j_iload_n 28 C dX5_time_27 rfl 1 rfl ?_
      obtain ⟨hi_5, hq⟩ := hq
      refine j_iald 29 C 8 (f := (f 7)) rfl hi_5 dX5_time_28 rfl ?_
      refine J.topi (fun x_6 ex_6 => ?_)
      replace hq := hq x_6 ex_6
      refine j_istore_n 30 C dX5_time_29 rfl (Nat.le_of_ble_eq_true rfl) [1, 2, 3, 0] (lv' := [(0, .ref (h 0)), (1, .int p0), (2, .int p1), (3, .int x_6)]) rfl ?_
      refine j_aload_n 31 C dX5_time_30 rfl 0 rfl ?_
      refine j_get 34 C uX5 0 rfl rfl 11 (Nat.le_of_ble_eq_true rfl) lX5_31 (v := .ref (h 8)) rfl dX5_time_31 rfl ?_
      refine j_iload_n 35 C dX5_time_34 rfl 1 rfl ?_
      refine j_iload_n 36 C dX5_time_35 rfl 2 rfl ?_
      obtain ⟨hi_7, hq⟩ := hq
      obtain ⟨f_8, ef_8⟩ : ∃ y : FF, y = fu f 7 (wr (f 7) p0 p1) := ⟨_, rfl⟩
      replace hq := hq f_8 ef_8
      refine j_iast 37 C 8 rfl hi_7 dX5_time_36 rfl (ws' := (wE G h f_8 v)) (by subst ef_8; rfl) ?_
      refine j_iload_n 38 C dX5_time_37 rfl 3 rfl ?_
      exact hR _ _ _ f_8 v dX5_time_38 hq
    · replace hq := hq.2 c_4
      refine j_bipush 22 C dX5_time_20 rfl bc_m2 ?_
      exact hR _ _ _ f v dX5_time_22 hq
  · replace hq := hq.2 c_2
    refine j_iconst 9 C dX5_time_8 rfl ic_m1 ?_
    exact hR _ _ _ f v dX5_time_9 hq
def Q_X5_aim (p0 : Int32) (p1 : Int32) (p2 : Int32) (f : FF) (v : VV) (post : Int32 → FF → VV → Prop) : Prop := Q_X5_isTest p0 f v (fun r_1 => (((¬ r_1 = 0 → (Q_X5_within p1 (0 : Int32) (9 : Int32) (fun r_3 => (((r_3 = 0 → (post (-2 : Int32) f v)) ∧ (¬ r_3 = 0 → (Q_X5_within p2 (0 : Int32) (9 : Int32) (fun r_5 => (((¬ r_5 = 0 → (vp_in p0 7 ∧ (vp_in p0 7 ∧ (∀ x_9 : Int32, x_9 = (((10 : Int32) * ((f 8) (p0).toNatClampNeg)) + ((f 9) (p0).toNatClampNeg)) → (vp_in p0 7 ∧ (∀ f_11 : FF, f_11 = fu f 8 (wr (f 8) p0 p1) → (vp_in p0 7 ∧ (∀ f_13 : FF, f_13 = fu f_11 9 (wr (f_11 9) p0 p2) → (post x_9 f_13 v))))))))) ∧ (r_5 = 0 → (post (-2 : Int32) f v)))))))))))) ∧ (r_1 = 0 → (post (-1 : Int32) f v)))))
set_option maxRecDepth 100000 in
set_option maxHeartbeats 4000000 in
theorem m_X5_aim {l : Launch} (G : Gx) (h : Nat → Nat) (p0 : Int32) (p1 : Int32) (p2 : Int32) (f : FF) (v : VV) {post : Int32 → FF → VV → Prop} (hq : Q_X5_aim p0 p1 p2 f v post) : MetI l yX5_aim (gC yX5_aim cX5_aim 5 (some .int)) rmX5_aim G [.ref (h 0), .int p0, .int p1, .int p2] (wE G h) f v post := by
  refine met_i (own := RX5) (by decide) rfl (Nat.le_of_ble_eq_true rfl) (fun κ hκ C hR => ?_)
  unfold Q_X5_aim at hq
  subst hκ
  show J κ 0 0 (wE G h f v) 0 [(0, .ref (h 0)), (1, .int p0), (2, .int p1), (3, .int p2)] []
  refine j_aload_n 1 C dX5_aim_0 rfl 0 rfl ?_
  refine j_iload_n 2 C dX5_aim_1 rfl 1 rfl ?_
  refine j_callVi_ro 5 C [] [] (As := [.int p0]) (m_X5_isTest G h p0 f v hq) oX5_isTest kX5_156 ⟨rfl, rfl⟩ eX5_isTest ⟨Nat.le_of_ble_eq_true rfl, Nat.le_of_ble_eq_true rfl⟩ ⟨Nat.zero_le _, Nat.zero_le _⟩ (List.append_nil _).symm (fun _ _ => rfl) 0 rfl rfl rfl (Nat.le_of_ble_eq_true rfl) dX5_aim_2 rfl (fun r_1 hq => ?_)
  refine j_if_ne 8 10 C dX5_aim_5 rfl rfl (fun c_2 => ?_) (fun c_2 => ?_)
  · replace hq := hq.1 c_2
    refine j_iload_n 11 C dX5_aim_10 rfl 2 rfl ?_
    refine j_iconst 12 C dX5_aim_11 rfl ic_0 ?_
    refine j_bipush 14 C dX5_aim_12 rfl bc_9 ?_
    refine j_callSi 17 C [] (wE G h f v) (fun _ _ => (wE G h f v)) (As := [.int p1, .int (0 : Int32), .int (9 : Int32)]) (m_X5_within G p1 (0 : Int32) (9 : Int32) hq) oX5_within kX5_67 ⟨rfl, rfl⟩ eX5_within ⟨Nat.le_of_ble_eq_true rfl, Nat.le_of_ble_eq_true rfl⟩ ⟨Nat.zero_le _, Nat.zero_le _⟩ rfl (fun _ _ => rfl) (fun _ _ => rfl) rfl (Nat.le_of_ble_eq_true rfl) dX5_aim_14 rfl (fun r_3 _ _ hq => ?_)
    refine j_if_eq 20 30 C dX5_aim_17 rfl rfl (fun c_4 => ?_) (fun c_4 => ?_)
    · replace hq := hq.1 c_4
      refine j_bipush 32 C dX5_aim_30 rfl bc_m2 ?_
      exact hR _ _ _ f v dX5_aim_32 hq
    · replace hq := hq.2 c_4
      refine j_iload_n 21 C dX5_aim_20 rfl 3 rfl ?_
      refine j_iconst 22 C dX5_aim_21 rfl ic_0 ?_
      refine j_bipush 24 C dX5_aim_22 rfl bc_9 ?_
      refine j_callSi 27 C [] (wE G h f v) (fun _ _ => (wE G h f v)) (As := [.int p2, .int (0 : Int32), .int (9 : Int32)]) (m_X5_within G p2 (0 : Int32) (9 : Int32) hq) oX5_within kX5_67 ⟨rfl, rfl⟩ eX5_within ⟨Nat.le_of_ble_eq_true rfl, Nat.le_of_ble_eq_true rfl⟩ ⟨Nat.zero_le _, Nat.zero_le _⟩ rfl (fun _ _ => rfl) (fun _ _ => rfl) rfl (Nat.le_of_ble_eq_true rfl) dX5_aim_24 rfl (fun r_5 _ _ hq => ?_)
      refine j_if_ne 30 33 C dX5_aim_27 rfl rfl (fun c_6 => ?_) (fun c_6 => ?_)
      · replace hq := hq.1 c_6
        refine j_bipush 35 C dX5_aim_33 rfl bc_10 ?_
        refine j_aload_n 36 C dX5_aim_35 rfl 0 rfl ?_
        refine j_get 39 C uX5 0 rfl rfl 12 (Nat.le_of_ble_eq_true rfl) lX5_34 (v := .ref (h 9)) rfl dX5_aim_36 rfl ?_
        refine j_iload_n 40 C dX5_aim_39 rfl 1 rfl ?_
        obtain ⟨hi_7, hq⟩ := hq
        refine j_iald 41 C 9 (f := (f 8)) rfl hi_7 dX5_aim_40 rfl ?_
        refine j_imul 42 C dX5_aim_41 rfl ?_
        refine j_aload_n 43 C dX5_aim_42 rfl 0 rfl ?_
        refine j_get 46 C uX5 0 rfl rfl 13 (Nat.le_of_ble_eq_true rfl) lX5_37 (v := .ref (h 10)) rfl dX5_aim_43 rfl ?_
        refine j_iload_n 47 C dX5_aim_46 rfl 1 rfl ?_
        obtain ⟨hi_8, hq⟩ := hq
        refine j_iald 48 C 10 (f := (f 9)) rfl hi_8 dX5_aim_47 rfl ?_
        refine j_iadd 49 C dX5_aim_48 rfl ?_
        refine J.topi (fun x_9 ex_9 => ?_)
        replace hq := hq x_9 ex_9
        refine j_istore 51 C dX5_aim_49 rfl (Nat.le_of_ble_eq_true rfl) [1, 2, 3, 4, 0] (lv' := [(0, .ref (h 0)), (1, .int p0), (2, .int p1), (3, .int p2), (4, .int x_9)]) rfl ?_
        refine j_aload_n 52 C dX5_aim_51 rfl 0 rfl ?_
        refine j_get 55 C uX5 0 rfl rfl 12 (Nat.le_of_ble_eq_true rfl) lX5_34 (v := .ref (h 9)) rfl dX5_aim_52 rfl ?_
        refine j_iload_n 56 C dX5_aim_55 rfl 1 rfl ?_
        refine j_iload_n 57 C dX5_aim_56 rfl 2 rfl ?_
        obtain ⟨hi_10, hq⟩ := hq
        obtain ⟨f_11, ef_11⟩ : ∃ y : FF, y = fu f 8 (wr (f 8) p0 p1) := ⟨_, rfl⟩
        replace hq := hq f_11 ef_11
        refine j_iast 58 C 9 rfl hi_10 dX5_aim_57 rfl (ws' := (wE G h f_11 v)) (by subst ef_11; rfl) ?_
        refine j_aload_n 59 C dX5_aim_58 rfl 0 rfl ?_
        refine j_get 62 C uX5 0 rfl rfl 13 (Nat.le_of_ble_eq_true rfl) lX5_37 (v := .ref (h 10)) rfl dX5_aim_59 rfl ?_
        refine j_iload_n 63 C dX5_aim_62 rfl 1 rfl ?_
        refine j_iload_n 64 C dX5_aim_63 rfl 3 rfl ?_
        obtain ⟨hi_12, hq⟩ := hq
        obtain ⟨f_13, ef_13⟩ : ∃ y : FF, y = fu f_11 9 (wr (f_11 9) p0 p2) := ⟨_, rfl⟩
        replace hq := hq f_13 ef_13
        refine j_iast 65 C 10 rfl hi_12 dX5_aim_64 rfl (ws' := (wE G h f_13 v)) (by subst ef_13; rfl) ?_
        refine j_iload 67 C dX5_aim_65 rfl 4 rfl ?_
        exact hR _ _ _ f_13 v dX5_aim_67 hq
      · replace hq := hq.2 c_6
        refine j_bipush 32 C dX5_aim_30 rfl bc_m2 ?_
        exact hR _ _ _ f v dX5_aim_32 hq
  · replace hq := hq.2 c_2
    refine j_iconst 9 C dX5_aim_8 rfl ic_m1 ?_
    exact hR _ _ _ f v dX5_aim_9 hq
def Q_X5_doesSubsume (p0 : Int32) (p1 : Int32) (f : FF) (v : VV) (post : Int32 → Prop) : Prop := vp_in p0 20 ∧ (((((f 13) (p0).toNatClampNeg) = 0 → (post (0 : Int32))) ∧ (¬ ((f 13) (p0).toNatClampNeg) = 0 → (vp_in p0 20 ∧ (vp_in p1 20 ∧ (((¬ (((f 13) (p0).toNatClampNeg) &&& (((f 13) (p1).toNatClampNeg) ^^^ (-1 : Int32))) = 0 → (post (0 : Int32))) ∧ ((((f 13) (p0).toNatClampNeg) &&& (((f 13) (p1).toNatClampNeg) ^^^ (-1 : Int32))) = 0 → (post (1 : Int32))))))))))
set_option maxRecDepth 100000 in
set_option maxHeartbeats 4000000 in
theorem m_X5_doesSubsume {l : Launch} (G : Gx) (h : Nat → Nat) (p0 : Int32) (p1 : Int32) (f : FF) (v : VV) {post : Int32 → Prop} (hq : Q_X5_doesSubsume p0 p1 f v post) : MetI l yX5_doesSubsume (gC yX5_doesSubsume cX5_doesSubsume 3 (some .boolean)) rmX5_doesSubsume G [.ref (h 0), .int p0, .int p1] (wE G h) f v (fun r f' v' => post r ∧ f' = f ∧ v' = v) := by
  refine met_z (own := RX5) (by decide) rfl (Nat.le_of_ble_eq_true rfl) (fun κ hκ C hR => ?_)
  unfold Q_X5_doesSubsume at hq
  subst hκ
  show J κ 0 0 (wE G h f v) 0 [(0, .ref (h 0)), (1, .int p0), (2, .int p1)] []
  refine j_aload_n 1 C dX5_doesSubsume_0 rfl 0 rfl ?_
  refine j_get 4 C uX5 0 rfl rfl 20 (Nat.le_of_ble_eq_true rfl) lX5_49 (v := .ref (h 14)) rfl dX5_doesSubsume_1 rfl ?_
  refine j_iload_n 5 C dX5_doesSubsume_4 rfl 1 rfl ?_
  obtain ⟨hi_1, hq⟩ := hq
  refine j_iald 6 C 14 (f := (f 13)) rfl hi_1 dX5_doesSubsume_5 rfl ?_
  refine j_if_eq 9 31 C dX5_doesSubsume_6 rfl rfl (fun c_2 => ?_) (fun c_2 => ?_)
  · replace hq := hq.1 c_2
    refine j_iconst 32 C dX5_doesSubsume_31 rfl ic_0 ?_
    exact hR _ _ _ f v dX5_doesSubsume_32 (Or.inl rfl) ⟨hq, rfl, rfl⟩
  · replace hq := hq.2 c_2
    refine j_aload_n 10 C dX5_doesSubsume_9 rfl 0 rfl ?_
    refine j_get 13 C uX5 0 rfl rfl 20 (Nat.le_of_ble_eq_true rfl) lX5_49 (v := .ref (h 14)) rfl dX5_doesSubsume_10 rfl ?_
    refine j_iload_n 14 C dX5_doesSubsume_13 rfl 1 rfl ?_
    obtain ⟨hi_3, hq⟩ := hq
    refine j_iald 15 C 14 (f := (f 13)) rfl hi_3 dX5_doesSubsume_14 rfl ?_
    refine j_aload_n 16 C dX5_doesSubsume_15 rfl 0 rfl ?_
    refine j_get 19 C uX5 0 rfl rfl 20 (Nat.le_of_ble_eq_true rfl) lX5_49 (v := .ref (h 14)) rfl dX5_doesSubsume_16 rfl ?_
    refine j_iload_n 20 C dX5_doesSubsume_19 rfl 2 rfl ?_
    obtain ⟨hi_4, hq⟩ := hq
    refine j_iald 21 C 14 (f := (f 13)) rfl hi_4 dX5_doesSubsume_20 rfl ?_
    refine j_iconst 22 C dX5_doesSubsume_21 rfl ic_m1 ?_
    refine j_ixor 23 C dX5_doesSubsume_22 rfl ?_
    refine j_iand 24 C dX5_doesSubsume_23 rfl ?_
    refine j_if_ne 27 31 C dX5_doesSubsume_24 rfl rfl (fun c_5 => ?_) (fun c_5 => ?_)
    · replace hq := hq.1 c_5
      refine j_iconst 32 C dX5_doesSubsume_31 rfl ic_0 ?_
      exact hR _ _ _ f v dX5_doesSubsume_32 (Or.inl rfl) ⟨hq, rfl, rfl⟩
    · replace hq := hq.2 c_5
      refine j_iconst 28 C dX5_doesSubsume_27 rfl ic_1 ?_
      refine j_goto 32 C dX5_doesSubsume_28 rfl ?_
      exact hR _ _ _ f v dX5_doesSubsume_32 (Or.inr rfl) ⟨hq, rfl, rfl⟩
def Q_X5_isLeast_L17 (f : FF) (v : VV) (x1 : Int32) (K70 : Int32 → Int32 → Prop) : Nat → Int32 → Int32 → Prop
  | 0, _, _ => False
  | n + 1, x2, x3 => Q_X5_mutants  f v (fun r_3 => (((r_3 ≤ x3 → (K70 x2 x3)) ∧ (¬ r_3 ≤ x3 → (((x2 = 0 → (∀ x_6 : Int32, x_6 = (x3 + (1 : Int32)) → (Q_X5_isLeast_L17 f v x1 K70 n (0 : Int32) x_6))) ∧ (¬ x2 = 0 → (Q_X5_doesSubsume x3 x1 f v (fun r_7 => (((r_7 = 0 → (∀ x_9 : Int32, x_9 = (x3 + (1 : Int32)) → (Q_X5_isLeast_L17 f v x1 K70 n (1 : Int32) x_9))) ∧ (¬ r_7 = 0 → (vp_in x3 20 ∧ (vp_in x1 20 ∧ (((¬ ((f 13) (x3).toNatClampNeg) = ((f 13) (x1).toNatClampNeg) → (∀ x_13 : Int32, x_13 = (x3 + (1 : Int32)) → (Q_X5_isLeast_L17 f v x1 K70 n (0 : Int32) x_13))) ∧ (((f 13) (x3).toNatClampNeg) = ((f 13) (x1).toNatClampNeg) → (((x3 < x1 → (∀ x_15 : Int32, x_15 = (x3 + (1 : Int32)) → (Q_X5_isLeast_L17 f v x1 K70 n (0 : Int32) x_15))) ∧ (¬ x3 < x1 → (∀ x_16 : Int32, x_16 = (x3 + (1 : Int32)) → (Q_X5_isLeast_L17 f v x1 K70 n (1 : Int32) x_16))))))))))))))))))))))
set_option maxRecDepth 100000 in
set_option maxHeartbeats 4000000 in
theorem t_X5_isLeast_L17 {κ : Kx} {G : Gx} {h : Nat → Nat} (C : Cx κ G RX5 cX5_isLeast rmX5_isLeast 4) {f : FF} {v : VV} {x1 : Int32} {K70 : Int32 → Int32 → Prop} (hK70 : ∀ (x2 : Int32) (x3 : Int32), K70 x2 x3 → J κ 0 0 (wE G h f v) 70 [(0, .ref (h 0)), (1, .int x1), (2, .int x2), (3, .int x3)] []) : ∀ (n : Nat) (x2 : Int32) (x3 : Int32), Q_X5_isLeast_L17 f v x1 K70 n x2 x3 → J κ 0 0 (wE G h f v) 17 [(0, .ref (h 0)), (1, .int x1), (2, .int x2), (3, .int x3)] [] := by
  intro n
  induction n with
  | zero => intro x2 x3 hq; exact False.elim hq
  | succ n ih =>
    intro x2 x3 hq
    rw [Q_X5_isLeast_L17] at hq
    refine j_iload_n 18 C dX5_isLeast_17 rfl 3 rfl ?_
    refine j_aload_n 19 C dX5_isLeast_18 rfl 0 rfl ?_
    refine j_callVi_ro 22 C [] [] (As := []) (m_X5_mutants G h f v hq) oX5_mutants kX5_77 ⟨rfl, rfl⟩ eX5_mutants ⟨Nat.le_of_ble_eq_true rfl, Nat.le_of_ble_eq_true rfl⟩ ⟨Nat.zero_le _, Nat.zero_le _⟩ (List.append_nil _).symm (fun _ _ => rfl) 0 rfl rfl rfl (Nat.le_of_ble_eq_true rfl) dX5_isLeast_19 rfl (fun r_3 hq => ?_)
    refine j_icmp_ge 25 70 C dX5_isLeast_22 rfl rfl (fun c_4 => ?_) (fun c_4 => ?_)
    · replace hq := hq.1 c_4
      refine J.l0 [0, 1, 2, 3] rfl ?_
      exact hK70 _ _ hq
    · replace hq := hq.2 c_4
      refine j_iload_n 26 C dX5_isLeast_25 rfl 2 rfl ?_
      refine j_if_eq 29 62 C dX5_isLeast_26 rfl rfl (fun c_5 => ?_) (fun c_5 => ?_)
      · replace hq := hq.1 c_5
        refine j_iconst 63 C dX5_isLeast_62 rfl ic_0 ?_
        refine j_istore_n 64 C dX5_isLeast_63 rfl (Nat.le_of_ble_eq_true rfl) [1, 2, 0, 3] (lv' := [(0, .ref (h 0)), (1, .int x1), (2, .int (0 : Int32)), (3, .int x3)]) rfl ?_
        obtain ⟨x_6, ex_6⟩ : ∃ y : Int32, y = (x3 + (1 : Int32)) := ⟨_, rfl⟩
        replace hq := hq x_6 ex_6
        refine j_iinc 67 C dX5_isLeast_64 rfl 3 rfl (v := x_6) (by rw [ex_6]; rfl) (Nat.le_of_ble_eq_true rfl) [1, 2, 3, 0] (lv' := [(0, .ref (h 0)), (1, .int x1), (2, .int (0 : Int32)), (3, .int x_6)]) rfl ?_
        refine j_goto 17 C dX5_isLeast_67 rfl ?_
        refine J.l0 [0, 1, 2, 3] rfl ?_
        exact ih _ _ hq
      · replace hq := hq.2 c_5
        refine j_aload_n 30 C dX5_isLeast_29 rfl 0 rfl ?_
        refine j_iload_n 31 C dX5_isLeast_30 rfl 3 rfl ?_
        refine j_iload_n 32 C dX5_isLeast_31 rfl 1 rfl ?_
        refine j_callVi_ro 35 C [] [] (As := [.int x3, .int x1]) (m_X5_doesSubsume G h x3 x1 f v hq) oX5_doesSubsume kX5_168 ⟨rfl, rfl⟩ eX5_doesSubsume ⟨Nat.le_of_ble_eq_true rfl, Nat.le_of_ble_eq_true rfl⟩ ⟨Nat.zero_le _, Nat.zero_le _⟩ (List.append_nil _).symm (fun _ _ => rfl) 0 rfl rfl rfl (Nat.le_of_ble_eq_true rfl) dX5_isLeast_32 rfl (fun r_7 hq => ?_)
        refine j_if_eq 38 58 C dX5_isLeast_35 rfl rfl (fun c_8 => ?_) (fun c_8 => ?_)
        · replace hq := hq.1 c_8
          refine j_iconst 59 C dX5_isLeast_58 rfl ic_1 ?_
          refine j_goto 63 C dX5_isLeast_59 rfl ?_
          refine j_istore_n 64 C dX5_isLeast_63 rfl (Nat.le_of_ble_eq_true rfl) [1, 2, 0, 3] (lv' := [(0, .ref (h 0)), (1, .int x1), (2, .int (1 : Int32)), (3, .int x3)]) rfl ?_
          obtain ⟨x_9, ex_9⟩ : ∃ y : Int32, y = (x3 + (1 : Int32)) := ⟨_, rfl⟩
          replace hq := hq x_9 ex_9
          refine j_iinc 67 C dX5_isLeast_64 rfl 3 rfl (v := x_9) (by rw [ex_9]; rfl) (Nat.le_of_ble_eq_true rfl) [1, 2, 3, 0] (lv' := [(0, .ref (h 0)), (1, .int x1), (2, .int (1 : Int32)), (3, .int x_9)]) rfl ?_
          refine j_goto 17 C dX5_isLeast_67 rfl ?_
          refine J.l0 [0, 1, 2, 3] rfl ?_
          exact ih _ _ hq
        · replace hq := hq.2 c_8
          refine j_aload_n 39 C dX5_isLeast_38 rfl 0 rfl ?_
          refine j_get 42 C uX5 0 rfl rfl 20 (Nat.le_of_ble_eq_true rfl) lX5_49 (v := .ref (h 14)) rfl dX5_isLeast_39 rfl ?_
          refine j_iload_n 43 C dX5_isLeast_42 rfl 3 rfl ?_
          obtain ⟨hi_10, hq⟩ := hq
          refine j_iald 44 C 14 (f := (f 13)) rfl hi_10 dX5_isLeast_43 rfl ?_
          refine j_aload_n 45 C dX5_isLeast_44 rfl 0 rfl ?_
          refine j_get 48 C uX5 0 rfl rfl 20 (Nat.le_of_ble_eq_true rfl) lX5_49 (v := .ref (h 14)) rfl dX5_isLeast_45 rfl ?_
          refine j_iload_n 49 C dX5_isLeast_48 rfl 1 rfl ?_
          obtain ⟨hi_11, hq⟩ := hq
          refine j_iald 50 C 14 (f := (f 13)) rfl hi_11 dX5_isLeast_49 rfl ?_
          refine j_icmp_ne 53 62 C dX5_isLeast_50 rfl rfl (fun c_12 => ?_) (fun c_12 => ?_)
          · replace hq := hq.1 c_12
            refine j_iconst 63 C dX5_isLeast_62 rfl ic_0 ?_
            refine j_istore_n 64 C dX5_isLeast_63 rfl (Nat.le_of_ble_eq_true rfl) [1, 2, 0, 3] (lv' := [(0, .ref (h 0)), (1, .int x1), (2, .int (0 : Int32)), (3, .int x3)]) rfl ?_
            obtain ⟨x_13, ex_13⟩ : ∃ y : Int32, y = (x3 + (1 : Int32)) := ⟨_, rfl⟩
            replace hq := hq x_13 ex_13
            refine j_iinc 67 C dX5_isLeast_64 rfl 3 rfl (v := x_13) (by rw [ex_13]; rfl) (Nat.le_of_ble_eq_true rfl) [1, 2, 3, 0] (lv' := [(0, .ref (h 0)), (1, .int x1), (2, .int (0 : Int32)), (3, .int x_13)]) rfl ?_
            refine j_goto 17 C dX5_isLeast_67 rfl ?_
            refine J.l0 [0, 1, 2, 3] rfl ?_
            exact ih _ _ hq
          · replace hq := hq.2 c_12
            refine j_iload_n 54 C dX5_isLeast_53 rfl 3 rfl ?_
            refine j_iload_n 55 C dX5_isLeast_54 rfl 1 rfl ?_
            refine j_icmp_lt 58 62 C dX5_isLeast_55 rfl rfl (fun c_14 => ?_) (fun c_14 => ?_)
            · replace hq := hq.1 c_14
              refine j_iconst 63 C dX5_isLeast_62 rfl ic_0 ?_
              refine j_istore_n 64 C dX5_isLeast_63 rfl (Nat.le_of_ble_eq_true rfl) [1, 2, 0, 3] (lv' := [(0, .ref (h 0)), (1, .int x1), (2, .int (0 : Int32)), (3, .int x3)]) rfl ?_
              obtain ⟨x_15, ex_15⟩ : ∃ y : Int32, y = (x3 + (1 : Int32)) := ⟨_, rfl⟩
              replace hq := hq x_15 ex_15
              refine j_iinc 67 C dX5_isLeast_64 rfl 3 rfl (v := x_15) (by rw [ex_15]; rfl) (Nat.le_of_ble_eq_true rfl) [1, 2, 3, 0] (lv' := [(0, .ref (h 0)), (1, .int x1), (2, .int (0 : Int32)), (3, .int x_15)]) rfl ?_
              refine j_goto 17 C dX5_isLeast_67 rfl ?_
              refine J.l0 [0, 1, 2, 3] rfl ?_
              exact ih _ _ hq
            · replace hq := hq.2 c_14
              refine j_iconst 59 C dX5_isLeast_58 rfl ic_1 ?_
              refine j_goto 63 C dX5_isLeast_59 rfl ?_
              refine j_istore_n 64 C dX5_isLeast_63 rfl (Nat.le_of_ble_eq_true rfl) [1, 2, 0, 3] (lv' := [(0, .ref (h 0)), (1, .int x1), (2, .int (1 : Int32)), (3, .int x3)]) rfl ?_
              obtain ⟨x_16, ex_16⟩ : ∃ y : Int32, y = (x3 + (1 : Int32)) := ⟨_, rfl⟩
              replace hq := hq x_16 ex_16
              refine j_iinc 67 C dX5_isLeast_64 rfl 3 rfl (v := x_16) (by rw [ex_16]; rfl) (Nat.le_of_ble_eq_true rfl) [1, 2, 3, 0] (lv' := [(0, .ref (h 0)), (1, .int x1), (2, .int (1 : Int32)), (3, .int x_16)]) rfl ?_
              refine j_goto 17 C dX5_isLeast_67 rfl ?_
              refine J.l0 [0, 1, 2, 3] rfl ?_
              exact ih _ _ hq
def Q_X5_isLeast (p0 : Int32) (f : FF) (v : VV) (post : Int32 → Prop) : Prop := vp_in p0 20 ∧ (((((f 13) (p0).toNatClampNeg) = 0 → (∃ n_17 : Nat, Q_X5_isLeast_L17 f v p0 (fun x_18 x_19 => (((x_18 = 0 ∨ x_18 = 1) ∧ post x_18))) n_17 (0 : Int32) (0 : Int32))) ∧ (¬ ((f 13) (p0).toNatClampNeg) = 0 → (∃ n_20 : Nat, Q_X5_isLeast_L17 f v p0 (fun x_21 x_22 => (((x_21 = 0 ∨ x_21 = 1) ∧ post x_21))) n_20 (1 : Int32) (0 : Int32)))))
set_option maxRecDepth 100000 in
set_option maxHeartbeats 4000000 in
theorem m_X5_isLeast {l : Launch} (G : Gx) (h : Nat → Nat) (p0 : Int32) (f : FF) (v : VV) {post : Int32 → Prop} (hq : Q_X5_isLeast p0 f v post) : MetI l yX5_isLeast (gC yX5_isLeast cX5_isLeast 4 (some .boolean)) rmX5_isLeast G [.ref (h 0), .int p0] (wE G h) f v (fun r f' v' => post r ∧ f' = f ∧ v' = v) := by
  refine met_z (own := RX5) (by decide) rfl (Nat.le_of_ble_eq_true rfl) (fun κ hκ C hR => ?_)
  unfold Q_X5_isLeast at hq
  subst hκ
  show J κ 0 0 (wE G h f v) 0 [(0, .ref (h 0)), (1, .int p0)] []
  refine j_aload_n 1 C dX5_isLeast_0 rfl 0 rfl ?_
  refine j_get 4 C uX5 0 rfl rfl 20 (Nat.le_of_ble_eq_true rfl) lX5_49 (v := .ref (h 14)) rfl dX5_isLeast_1 rfl ?_
  refine j_iload_n 5 C dX5_isLeast_4 rfl 1 rfl ?_
  obtain ⟨hi_1, hq⟩ := hq
  refine j_iald 6 C 14 (f := (f 13)) rfl hi_1 dX5_isLeast_5 rfl ?_
  refine j_if_eq 9 13 C dX5_isLeast_6 rfl rfl (fun c_2 => ?_) (fun c_2 => ?_)
  · replace hq := hq.1 c_2
    refine j_iconst 14 C dX5_isLeast_13 rfl ic_0 ?_
    refine j_istore_n 15 C dX5_isLeast_14 rfl (Nat.le_of_ble_eq_true rfl) [1, 2, 0] (lv' := [(0, .ref (h 0)), (1, .int p0), (2, .int (0 : Int32))]) rfl ?_
    refine j_iconst 16 C dX5_isLeast_15 rfl ic_0 ?_
    refine j_istore_n 17 C dX5_isLeast_16 rfl (Nat.le_of_ble_eq_true rfl) [1, 2, 3, 0] (lv' := [(0, .ref (h 0)), (1, .int p0), (2, .int (0 : Int32)), (3, .int (0 : Int32))]) rfl ?_
    obtain ⟨n_17, hq⟩ := hq
    refine t_X5_isLeast_L17 C ?_ n_17 _ _ hq
    · intro x_18 x_19 hq
      refine j_iload_n 71 C dX5_isLeast_70 rfl 2 rfl ?_
      exact hR _ _ _ f v dX5_isLeast_71 hq.1 ⟨hq.2, rfl, rfl⟩
  · replace hq := hq.2 c_2
    refine j_iconst 10 C dX5_isLeast_9 rfl ic_1 ?_
    refine j_goto 14 C dX5_isLeast_10 rfl ?_
    refine j_istore_n 15 C dX5_isLeast_14 rfl (Nat.le_of_ble_eq_true rfl) [1, 2, 0] (lv' := [(0, .ref (h 0)), (1, .int p0), (2, .int (1 : Int32))]) rfl ?_
    refine j_iconst 16 C dX5_isLeast_15 rfl ic_0 ?_
    refine j_istore_n 17 C dX5_isLeast_16 rfl (Nat.le_of_ble_eq_true rfl) [1, 2, 3, 0] (lv' := [(0, .ref (h 0)), (1, .int p0), (2, .int (1 : Int32)), (3, .int (0 : Int32))]) rfl ?_
    obtain ⟨n_20, hq⟩ := hq
    refine t_X5_isLeast_L17 C ?_ n_20 _ _ hq
    · intro x_21 x_22 hq
      refine j_iload_n 71 C dX5_isLeast_70 rfl 2 rfl ?_
      exact hR _ _ _ f v dX5_isLeast_71 hq.1 ⟨hq.2, rfl, rfl⟩
def Q_X5_subsumed_L4 (f : FF) (v : VV) (x1 : Int32) (K35 : Int32 → Int32 → Prop) : Nat → Int32 → Int32 → Prop
  | 0, _, _ => False
  | n + 1, x2, x3 => Q_X5_mutants  f v (fun r_1 => (((r_1 ≤ x3 → (K35 x2 x3)) ∧ (¬ r_1 ≤ x3 → (Q_X5_doesSubsume x1 x3 f v (fun r_3 => (((r_3 = 0 → (∀ x_5 : Int32, x_5 = (x2 + (0 : Int32)) → (∀ x_6 : Int32, x_6 = (x3 + (1 : Int32)) → (Q_X5_subsumed_L4 f v x1 K35 n x_5 x_6)))) ∧ (¬ r_3 = 0 → (∀ x_7 : Int32, x_7 = (x2 + (1 : Int32)) → (∀ x_8 : Int32, x_8 = (x3 + (1 : Int32)) → (Q_X5_subsumed_L4 f v x1 K35 n x_7 x_8))))))))))))
set_option maxRecDepth 100000 in
set_option maxHeartbeats 4000000 in
theorem t_X5_subsumed_L4 {κ : Kx} {G : Gx} {h : Nat → Nat} (C : Cx κ G RX5 cX5_subsumed rmX5_subsumed 4) {f : FF} {v : VV} {x1 : Int32} {K35 : Int32 → Int32 → Prop} (hK35 : ∀ (x2 : Int32) (x3 : Int32), K35 x2 x3 → J κ 0 0 (wE G h f v) 35 [(0, .ref (h 0)), (1, .int x1), (2, .int x2), (3, .int x3)] []) : ∀ (n : Nat) (x2 : Int32) (x3 : Int32), Q_X5_subsumed_L4 f v x1 K35 n x2 x3 → J κ 0 0 (wE G h f v) 4 [(0, .ref (h 0)), (1, .int x1), (2, .int x2), (3, .int x3)] [] := by
  intro n
  induction n with
  | zero => intro x2 x3 hq; exact False.elim hq
  | succ n ih =>
    intro x2 x3 hq
    rw [Q_X5_subsumed_L4] at hq
    refine j_iload_n 5 C dX5_subsumed_4 rfl 3 rfl ?_
    refine j_aload_n 6 C dX5_subsumed_5 rfl 0 rfl ?_
    refine j_callVi_ro 9 C [] [] (As := []) (m_X5_mutants G h f v hq) oX5_mutants kX5_77 ⟨rfl, rfl⟩ eX5_mutants ⟨Nat.le_of_ble_eq_true rfl, Nat.le_of_ble_eq_true rfl⟩ ⟨Nat.zero_le _, Nat.zero_le _⟩ (List.append_nil _).symm (fun _ _ => rfl) 0 rfl rfl rfl (Nat.le_of_ble_eq_true rfl) dX5_subsumed_6 rfl (fun r_1 hq => ?_)
    refine j_icmp_ge 12 35 C dX5_subsumed_9 rfl rfl (fun c_2 => ?_) (fun c_2 => ?_)
    · replace hq := hq.1 c_2
      refine J.l0 [0, 1, 2, 3] rfl ?_
      exact hK35 _ _ hq
    · replace hq := hq.2 c_2
      refine j_iload_n 13 C dX5_subsumed_12 rfl 2 rfl ?_
      refine j_aload_n 14 C dX5_subsumed_13 rfl 0 rfl ?_
      refine j_iload_n 15 C dX5_subsumed_14 rfl 1 rfl ?_
      refine j_iload_n 16 C dX5_subsumed_15 rfl 3 rfl ?_
      refine j_callVi_ro 19 C [] [] (As := [.int x1, .int x3]) (m_X5_doesSubsume G h x1 x3 f v hq) oX5_doesSubsume kX5_168 ⟨rfl, rfl⟩ eX5_doesSubsume ⟨Nat.le_of_ble_eq_true rfl, Nat.le_of_ble_eq_true rfl⟩ ⟨Nat.zero_le _, Nat.zero_le _⟩ (List.append_nil _).symm (fun _ _ => rfl) 0 rfl rfl rfl (Nat.le_of_ble_eq_true rfl) dX5_subsumed_16 rfl (fun r_3 hq => ?_)
      refine j_if_eq 22 26 C dX5_subsumed_19 rfl rfl (fun c_4 => ?_) (fun c_4 => ?_)
      · replace hq := hq.1 c_4
        refine j_iconst 27 C dX5_subsumed_26 rfl ic_0 ?_
        refine j_iadd 28 C dX5_subsumed_27 rfl ?_
        refine J.topi (fun x_5 ex_5 => ?_)
        replace hq := hq x_5 ex_5
        refine j_istore_n 29 C dX5_subsumed_28 rfl (Nat.le_of_ble_eq_true rfl) [1, 2, 0, 3] (lv' := [(0, .ref (h 0)), (1, .int x1), (2, .int x_5), (3, .int x3)]) rfl ?_
        obtain ⟨x_6, ex_6⟩ : ∃ y : Int32, y = (x3 + (1 : Int32)) := ⟨_, rfl⟩
        replace hq := hq x_6 ex_6
        refine j_iinc 32 C dX5_subsumed_29 rfl 3 rfl (v := x_6) (by rw [ex_6]; rfl) (Nat.le_of_ble_eq_true rfl) [1, 2, 3, 0] (lv' := [(0, .ref (h 0)), (1, .int x1), (2, .int x_5), (3, .int x_6)]) rfl ?_
        refine j_goto 4 C dX5_subsumed_32 rfl ?_
        refine J.l0 [0, 1, 2, 3] rfl ?_
        exact ih _ _ hq
      · replace hq := hq.2 c_4
        refine j_iconst 23 C dX5_subsumed_22 rfl ic_1 ?_
        refine j_goto 27 C dX5_subsumed_23 rfl ?_
        refine j_iadd 28 C dX5_subsumed_27 rfl ?_
        refine J.topi (fun x_7 ex_7 => ?_)
        replace hq := hq x_7 ex_7
        refine j_istore_n 29 C dX5_subsumed_28 rfl (Nat.le_of_ble_eq_true rfl) [1, 2, 0, 3] (lv' := [(0, .ref (h 0)), (1, .int x1), (2, .int x_7), (3, .int x3)]) rfl ?_
        obtain ⟨x_8, ex_8⟩ : ∃ y : Int32, y = (x3 + (1 : Int32)) := ⟨_, rfl⟩
        replace hq := hq x_8 ex_8
        refine j_iinc 32 C dX5_subsumed_29 rfl 3 rfl (v := x_8) (by rw [ex_8]; rfl) (Nat.le_of_ble_eq_true rfl) [1, 2, 3, 0] (lv' := [(0, .ref (h 0)), (1, .int x1), (2, .int x_7), (3, .int x_8)]) rfl ?_
        refine j_goto 4 C dX5_subsumed_32 rfl ?_
        refine J.l0 [0, 1, 2, 3] rfl ?_
        exact ih _ _ hq
def Q_X5_subsumed (p0 : Int32) (f : FF) (v : VV) (post : Int32 → Prop) : Prop := ∃ n_9 : Nat, Q_X5_subsumed_L4 f v p0 (fun x_10 x_11 => (post x_10)) n_9 (0 : Int32) (0 : Int32)
set_option maxRecDepth 100000 in
set_option maxHeartbeats 4000000 in
theorem m_X5_subsumed {l : Launch} (G : Gx) (h : Nat → Nat) (p0 : Int32) (f : FF) (v : VV) {post : Int32 → Prop} (hq : Q_X5_subsumed p0 f v post) : MetI l yX5_subsumed (gC yX5_subsumed cX5_subsumed 4 (some .int)) rmX5_subsumed G [.ref (h 0), .int p0] (wE G h) f v (fun r f' v' => post r ∧ f' = f ∧ v' = v) := by
  refine met_i (own := RX5) (by decide) rfl (Nat.le_of_ble_eq_true rfl) (fun κ hκ C hR => ?_)
  unfold Q_X5_subsumed at hq
  subst hκ
  show J κ 0 0 (wE G h f v) 0 [(0, .ref (h 0)), (1, .int p0)] []
  refine j_iconst 1 C dX5_subsumed_0 rfl ic_0 ?_
  refine j_istore_n 2 C dX5_subsumed_1 rfl (Nat.le_of_ble_eq_true rfl) [1, 2, 0] (lv' := [(0, .ref (h 0)), (1, .int p0), (2, .int (0 : Int32))]) rfl ?_
  refine j_iconst 3 C dX5_subsumed_2 rfl ic_0 ?_
  refine j_istore_n 4 C dX5_subsumed_3 rfl (Nat.le_of_ble_eq_true rfl) [1, 2, 3, 0] (lv' := [(0, .ref (h 0)), (1, .int p0), (2, .int (0 : Int32)), (3, .int (0 : Int32))]) rfl ?_
  obtain ⟨n_9, hq⟩ := hq
  refine t_X5_subsumed_L4 C ?_ n_9 _ _ hq
  · intro x_10 x_11 hq
    refine j_iload_n 36 C dX5_subsumed_35 rfl 2 rfl ?_
    exact hR _ _ _ f v dX5_subsumed_36 ⟨hq, rfl, rfl⟩
def Q_X5_ofMutant (p0 : Int32) (p1 : Int32) (f : FF) (v : VV) (post : Int32 → FF → VV → Prop) : Prop := Q_X5_isMutant p0 f v (fun r_1 => (((¬ r_1 = 0 → (Q_X5_findKillers  f v (fun f_4 v_5 => (((p1 = (0 : Int32) → (Q_X5_stepOf p0 (fun r_7 => (post r_7 f_4 v_5)))) ∧ (¬ p1 = (0 : Int32) → (((p1 = (1 : Int32) → (Q_X5_otherWay p0 f_4 v_5 (fun r_9 => (post r_9 f_4 v_5)))) ∧ (¬ p1 = (1 : Int32) → (((p1 = (2 : Int32) → (vp_in p0 20 ∧ (post ((f_4 13) (p0).toNatClampNeg) f_4 v_5))) ∧ (¬ p1 = (2 : Int32) → (((p1 = (3 : Int32) → (Q_X5_differs p0 f_4 v_5 (fun r_13 f_14 v_15 => (((¬ r_13 = 0 → (post (0 : Int32) f_14 v_15)) ∧ (r_13 = 0 → (post (1 : Int32) f_14 v_15))))))) ∧ (¬ p1 = (3 : Int32) → (((p1 = (4 : Int32) → (Q_X5_differs p0 f_4 v_5 (fun r_18 f_19 v_20 => (post r_18 f_19 v_20)))) ∧ (¬ p1 = (4 : Int32) → (((p1 = (5 : Int32) → (Q_X5_isLeast p0 f_4 v_5 (fun r_22 => (((r_22 = 0 → (post (0 : Int32) f_4 v_5)) ∧ (¬ r_22 = 0 → (post (1 : Int32) f_4 v_5))))))) ∧ (¬ p1 = (5 : Int32) → (((p1 = (6 : Int32) → (Q_X5_subsumed p0 f_4 v_5 (fun r_25 => (post r_25 f_4 v_5)))) ∧ (¬ p1 = (6 : Int32) → (post (-2 : Int32) f_4 v_5))))))))))))))))))))))))) ∧ (r_1 = 0 → (post (-1 : Int32) f v)))))
set_option maxRecDepth 100000 in
set_option maxHeartbeats 4000000 in
theorem m_X5_ofMutant {l : Launch} (G : Gx) (h : Nat → Nat) (p0 : Int32) (p1 : Int32) (f : FF) (v : VV) {post : Int32 → FF → VV → Prop} (hq : Q_X5_ofMutant p0 p1 f v post) : MetI l yX5_ofMutant (gC yX5_ofMutant cX5_ofMutant 3 (some .int)) rmX5_ofMutant G [.ref (h 0), .int p0, .int p1] (wE G h) f v post := by
  refine met_i (own := RX5) (by decide) rfl (Nat.le_of_ble_eq_true rfl) (fun κ hκ C hR => ?_)
  unfold Q_X5_ofMutant at hq
  subst hκ
  show J κ 0 0 (wE G h f v) 0 [(0, .ref (h 0)), (1, .int p0), (2, .int p1)] []
  refine j_aload_n 1 C dX5_ofMutant_0 rfl 0 rfl ?_
  refine j_iload_n 2 C dX5_ofMutant_1 rfl 1 rfl ?_
  refine j_callVi_ro 5 C [] [] (As := [.int p0]) (m_X5_isMutant G h p0 f v hq) oX5_isMutant kX5_171 ⟨rfl, rfl⟩ eX5_isMutant ⟨Nat.le_of_ble_eq_true rfl, Nat.le_of_ble_eq_true rfl⟩ ⟨Nat.zero_le _, Nat.zero_le _⟩ (List.append_nil _).symm (fun _ _ => rfl) 0 rfl rfl rfl (Nat.le_of_ble_eq_true rfl) dX5_ofMutant_2 rfl (fun r_1 hq => ?_)
  refine j_if_ne 8 10 C dX5_ofMutant_5 rfl rfl (fun c_2 => ?_) (fun c_2 => ?_)
  · replace hq := hq.1 c_2
    refine j_aload_n 11 C dX5_ofMutant_10 rfl 0 rfl ?_
    refine j_callVv 14 C [] [] (fun f' v' => (wE G h f' v')) (As := []) (m_X5_findKillers G h f v hq) oX5_findKillers kX5_162 ⟨rfl, rfl⟩ eX5_findKillers ⟨Nat.le_of_ble_eq_true rfl, Nat.le_of_ble_eq_true rfl⟩ ⟨Nat.zero_le _, Nat.zero_le _⟩ (List.append_nil _).symm (fun _ _ => List.append_nil _) (fun _ _ => rfl) 0 rfl rfl rfl (Nat.le_of_ble_eq_true rfl) dX5_ofMutant_11 rfl (fun f_4 v_5 hq => ?_)
    refine j_iload_n 15 C dX5_ofMutant_14 rfl 2 rfl ?_
    by_cases c_6 : p1 = (0 : Int32)
    · replace hq := hq.1 c_6
      refine j_tableIn 56 C (0 : Int32) dX5_ofMutant_15 c_6 (by decide) (by decide) rfl rfl ?_
      refine j_iload_n 57 C dX5_ofMutant_56 rfl 1 rfl ?_
      refine j_callSi 60 C [] (wE G h f_4 v_5) (fun _ _ => (wE G h f_4 v_5)) (As := [.int p0]) (m_X5_stepOf G p0 hq) oX5_stepOf kX5_131 ⟨rfl, rfl⟩ eX5_stepOf ⟨Nat.le_of_ble_eq_true rfl, Nat.le_of_ble_eq_true rfl⟩ ⟨Nat.zero_le _, Nat.zero_le _⟩ rfl (fun _ _ => rfl) (fun _ _ => rfl) rfl (Nat.le_of_ble_eq_true rfl) dX5_ofMutant_57 rfl (fun r_7 _ _ hq => ?_)
      exact hR _ _ _ f_4 v_5 dX5_ofMutant_60 hq
    · replace hq := hq.2 c_6
      by_cases c_8 : p1 = (1 : Int32)
      · replace hq := hq.1 c_8
        refine j_tableIn 61 C (1 : Int32) dX5_ofMutant_15 c_8 (by decide) (by decide) rfl rfl ?_
        refine j_aload_n 62 C dX5_ofMutant_61 rfl 0 rfl ?_
        refine j_iload_n 63 C dX5_ofMutant_62 rfl 1 rfl ?_
        refine j_callVi_ro 66 C [] [] (As := [.int p0]) (m_X5_otherWay G h p0 f_4 v_5 hq) oX5_otherWay kX5_137 ⟨rfl, rfl⟩ eX5_otherWay ⟨Nat.le_of_ble_eq_true rfl, Nat.le_of_ble_eq_true rfl⟩ ⟨Nat.zero_le _, Nat.zero_le _⟩ (List.append_nil _).symm (fun _ _ => rfl) 0 rfl rfl rfl (Nat.le_of_ble_eq_true rfl) dX5_ofMutant_63 rfl (fun r_9 hq => ?_)
        exact hR _ _ _ f_4 v_5 dX5_ofMutant_66 hq
      · replace hq := hq.2 c_8
        by_cases c_10 : p1 = (2 : Int32)
        · replace hq := hq.1 c_10
          refine j_tableIn 67 C (2 : Int32) dX5_ofMutant_15 c_10 (by decide) (by decide) rfl rfl ?_
          refine j_aload_n 68 C dX5_ofMutant_67 rfl 0 rfl ?_
          refine j_get 71 C uX5 0 rfl rfl 20 (Nat.le_of_ble_eq_true rfl) lX5_49 (v := .ref (h 14)) rfl dX5_ofMutant_68 rfl ?_
          refine j_iload_n 72 C dX5_ofMutant_71 rfl 1 rfl ?_
          obtain ⟨hi_11, hq⟩ := hq
          refine j_iald 73 C 14 (f := (f_4 13)) rfl hi_11 dX5_ofMutant_72 rfl ?_
          exact hR _ _ _ f_4 v_5 dX5_ofMutant_73 hq
        · replace hq := hq.2 c_10
          by_cases c_12 : p1 = (3 : Int32)
          · replace hq := hq.1 c_12
            refine j_tableIn 74 C (3 : Int32) dX5_ofMutant_15 c_12 (by decide) (by decide) rfl rfl ?_
            refine j_aload_n 75 C dX5_ofMutant_74 rfl 0 rfl ?_
            refine j_iload_n 76 C dX5_ofMutant_75 rfl 1 rfl ?_
            refine j_callVi 79 C [] [] (fun f' v' => (wE G h f' v')) (As := [.int p0]) (m_X5_differs G h p0 f_4 v_5 hq) oX5_differs kX5_147 ⟨rfl, rfl⟩ eX5_differs ⟨Nat.le_of_ble_eq_true rfl, Nat.le_of_ble_eq_true rfl⟩ ⟨Nat.zero_le _, Nat.zero_le _⟩ (List.append_nil _).symm (fun _ _ => List.append_nil _) (fun _ _ => rfl) 0 rfl rfl rfl (Nat.le_of_ble_eq_true rfl) dX5_ofMutant_76 rfl (fun r_13 f_14 v_15 hq => ?_)
            refine j_if_ne 82 86 C dX5_ofMutant_79 rfl rfl (fun c_16 => ?_) (fun c_16 => ?_)
            · replace hq := hq.1 c_16
              refine j_iconst 87 C dX5_ofMutant_86 rfl ic_0 ?_
              exact hR _ _ _ f_14 v_15 dX5_ofMutant_87 hq
            · replace hq := hq.2 c_16
              refine j_iconst 83 C dX5_ofMutant_82 rfl ic_1 ?_
              refine j_goto 87 C dX5_ofMutant_83 rfl ?_
              exact hR _ _ _ f_14 v_15 dX5_ofMutant_87 hq
          · replace hq := hq.2 c_12
            by_cases c_17 : p1 = (4 : Int32)
            · replace hq := hq.1 c_17
              refine j_tableIn 88 C (4 : Int32) dX5_ofMutant_15 c_17 (by decide) (by decide) rfl rfl ?_
              refine j_aload_n 89 C dX5_ofMutant_88 rfl 0 rfl ?_
              refine j_iload_n 90 C dX5_ofMutant_89 rfl 1 rfl ?_
              refine j_callVi 93 C [] [] (fun f' v' => (wE G h f' v')) (As := [.int p0]) (m_X5_differs G h p0 f_4 v_5 hq) oX5_differs kX5_147 ⟨rfl, rfl⟩ eX5_differs ⟨Nat.le_of_ble_eq_true rfl, Nat.le_of_ble_eq_true rfl⟩ ⟨Nat.zero_le _, Nat.zero_le _⟩ (List.append_nil _).symm (fun _ _ => List.append_nil _) (fun _ _ => rfl) 0 rfl rfl rfl (Nat.le_of_ble_eq_true rfl) dX5_ofMutant_90 rfl (fun r_18 f_19 v_20 hq => ?_)
              exact hR _ _ _ f_19 v_20 dX5_ofMutant_93 hq
            · replace hq := hq.2 c_17
              by_cases c_21 : p1 = (5 : Int32)
              · replace hq := hq.1 c_21
                refine j_tableIn 94 C (5 : Int32) dX5_ofMutant_15 c_21 (by decide) (by decide) rfl rfl ?_
                refine j_aload_n 95 C dX5_ofMutant_94 rfl 0 rfl ?_
                refine j_iload_n 96 C dX5_ofMutant_95 rfl 1 rfl ?_
                refine j_callVi_ro 99 C [] [] (As := [.int p0]) (m_X5_isLeast G h p0 f_4 v_5 hq) oX5_isLeast kX5_174 ⟨rfl, rfl⟩ eX5_isLeast ⟨Nat.le_of_ble_eq_true rfl, Nat.le_of_ble_eq_true rfl⟩ ⟨Nat.zero_le _, Nat.zero_le _⟩ (List.append_nil _).symm (fun _ _ => rfl) 0 rfl rfl rfl (Nat.le_of_ble_eq_true rfl) dX5_ofMutant_96 rfl (fun r_22 hq => ?_)
                refine j_if_eq 102 106 C dX5_ofMutant_99 rfl rfl (fun c_23 => ?_) (fun c_23 => ?_)
                · replace hq := hq.1 c_23
                  refine j_iconst 107 C dX5_ofMutant_106 rfl ic_0 ?_
                  exact hR _ _ _ f_4 v_5 dX5_ofMutant_107 hq
                · replace hq := hq.2 c_23
                  refine j_iconst 103 C dX5_ofMutant_102 rfl ic_1 ?_
                  refine j_goto 107 C dX5_ofMutant_103 rfl ?_
                  exact hR _ _ _ f_4 v_5 dX5_ofMutant_107 hq
              · replace hq := hq.2 c_21
                by_cases c_24 : p1 = (6 : Int32)
                · replace hq := hq.1 c_24
                  refine j_tableIn 108 C (6 : Int32) dX5_ofMutant_15 c_24 (by decide) (by decide) rfl rfl ?_
                  refine j_aload_n 109 C dX5_ofMutant_108 rfl 0 rfl ?_
                  refine j_iload_n 110 C dX5_ofMutant_109 rfl 1 rfl ?_
                  refine j_callVi_ro 113 C [] [] (As := [.int p0]) (m_X5_subsumed G h p0 f_4 v_5 hq) oX5_subsumed kX5_177 ⟨rfl, rfl⟩ eX5_subsumed ⟨Nat.le_of_ble_eq_true rfl, Nat.le_of_ble_eq_true rfl⟩ ⟨Nat.zero_le _, Nat.zero_le _⟩ (List.append_nil _).symm (fun _ _ => rfl) 0 rfl rfl rfl (Nat.le_of_ble_eq_true rfl) dX5_ofMutant_110 rfl (fun r_25 hq => ?_)
                  exact hR _ _ _ f_4 v_5 dX5_ofMutant_113 hq
                · replace hq := hq.2 c_24
                  have zc_6 := ne_toInt (z := 0) (by decide) c_6
                  have zc_8 := ne_toInt (z := 1) (by decide) c_8
                  have zc_10 := ne_toInt (z := 2) (by decide) c_10
                  have zc_12 := ne_toInt (z := 3) (by decide) c_12
                  have zc_17 := ne_toInt (z := 4) (by decide) c_17
                  have zc_21 := ne_toInt (z := 5) (by decide) c_21
                  have zc_24 := ne_toInt (z := 6) (by decide) c_24
                  refine j_tableOut 114 C dX5_ofMutant_15 (by omega) rfl ?_
                  refine j_bipush 116 C dX5_ofMutant_114 rfl bc_m2 ?_
                  exact hR _ _ _ f_4 v_5 dX5_ofMutant_116 hq
  · replace hq := hq.2 c_2
    refine j_iconst 9 C dX5_ofMutant_8 rfl ic_m1 ?_
    exact hR _ _ _ f v dX5_ofMutant_9 hq
def Q_X5_state (p0 : Int32) (p1 : Int32) (f : FF) (v : VV) (post : Int32 → FF → VV → Prop) : Prop := Q_X5_isMutant p0 f v (fun r_1 => (((r_1 = 0 → (post (-1 : Int32) f v)) ∧ (¬ r_1 = 0 → (Q_X5_isTest p1 f v (fun r_3 => (((¬ r_3 = 0 → (Q_X5_kills p1 p0 f v (fun r_5 f_6 v_7 => (((r_5 = 0 → (Q_X5_infects p1 p0 f_6 v_7 (fun r_9 f_10 v_11 => (((r_9 = 0 → (post (0 : Int32) f_10 v_11)) ∧ (¬ r_9 = 0 → (post (1 : Int32) f_10 v_11))))))) ∧ (¬ r_5 = 0 → (post (2 : Int32) f_6 v_7))))))) ∧ (r_3 = 0 → (post (-1 : Int32) f v))))))))))
set_option maxRecDepth 100000 in
set_option maxHeartbeats 4000000 in
theorem m_X5_state {l : Launch} (G : Gx) (h : Nat → Nat) (p0 : Int32) (p1 : Int32) (f : FF) (v : VV) {post : Int32 → FF → VV → Prop} (hq : Q_X5_state p0 p1 f v post) : MetI l yX5_state (gC yX5_state cX5_state 3 (some .int)) rmX5_state G [.ref (h 0), .int p0, .int p1] (wE G h) f v post := by
  refine met_i (own := RX5) (by decide) rfl (Nat.le_of_ble_eq_true rfl) (fun κ hκ C hR => ?_)
  unfold Q_X5_state at hq
  subst hκ
  show J κ 0 0 (wE G h f v) 0 [(0, .ref (h 0)), (1, .int p0), (2, .int p1)] []
  refine j_aload_n 1 C dX5_state_0 rfl 0 rfl ?_
  refine j_iload_n 2 C dX5_state_1 rfl 1 rfl ?_
  refine j_callVi_ro 5 C [] [] (As := [.int p0]) (m_X5_isMutant G h p0 f v hq) oX5_isMutant kX5_171 ⟨rfl, rfl⟩ eX5_isMutant ⟨Nat.le_of_ble_eq_true rfl, Nat.le_of_ble_eq_true rfl⟩ ⟨Nat.zero_le _, Nat.zero_le _⟩ (List.append_nil _).symm (fun _ _ => rfl) 0 rfl rfl rfl (Nat.le_of_ble_eq_true rfl) dX5_state_2 rfl (fun r_1 hq => ?_)
  refine j_if_eq 8 16 C dX5_state_5 rfl rfl (fun c_2 => ?_) (fun c_2 => ?_)
  · replace hq := hq.1 c_2
    refine j_iconst 17 C dX5_state_16 rfl ic_m1 ?_
    exact hR _ _ _ f v dX5_state_17 hq
  · replace hq := hq.2 c_2
    refine j_aload_n 9 C dX5_state_8 rfl 0 rfl ?_
    refine j_iload_n 10 C dX5_state_9 rfl 2 rfl ?_
    refine j_callVi_ro 13 C [] [] (As := [.int p1]) (m_X5_isTest G h p1 f v hq) oX5_isTest kX5_156 ⟨rfl, rfl⟩ eX5_isTest ⟨Nat.le_of_ble_eq_true rfl, Nat.le_of_ble_eq_true rfl⟩ ⟨Nat.zero_le _, Nat.zero_le _⟩ (List.append_nil _).symm (fun _ _ => rfl) 0 rfl rfl rfl (Nat.le_of_ble_eq_true rfl) dX5_state_10 rfl (fun r_3 hq => ?_)
    refine j_if_ne 16 18 C dX5_state_13 rfl rfl (fun c_4 => ?_) (fun c_4 => ?_)
    · replace hq := hq.1 c_4
      refine j_aload_n 19 C dX5_state_18 rfl 0 rfl ?_
      refine j_iload_n 20 C dX5_state_19 rfl 2 rfl ?_
      refine j_iload_n 21 C dX5_state_20 rfl 1 rfl ?_
      refine j_callVi 24 C [] [] (fun f' v' => (wE G h f' v')) (As := [.int p1, .int p0]) (m_X5_kills G h p1 p0 f v hq) oX5_kills kX5_150 ⟨rfl, rfl⟩ eX5_kills ⟨Nat.le_of_ble_eq_true rfl, Nat.le_of_ble_eq_true rfl⟩ ⟨Nat.zero_le _, Nat.zero_le _⟩ (List.append_nil _).symm (fun _ _ => List.append_nil _) (fun _ _ => rfl) 0 rfl rfl rfl (Nat.le_of_ble_eq_true rfl) dX5_state_21 rfl (fun r_5 f_6 v_7 hq => ?_)
      refine j_if_eq 27 31 C dX5_state_24 rfl rfl (fun c_8 => ?_) (fun c_8 => ?_)
      · replace hq := hq.1 c_8
        refine j_aload_n 32 C dX5_state_31 rfl 0 rfl ?_
        refine j_iload_n 33 C dX5_state_32 rfl 2 rfl ?_
        refine j_iload_n 34 C dX5_state_33 rfl 1 rfl ?_
        refine j_callVi 37 C [] [] (fun f' v' => (wE G h f' v')) (As := [.int p1, .int p0]) (m_X5_infects G h p1 p0 f_6 v_7 hq) oX5_infects kX5_180 ⟨rfl, rfl⟩ eX5_infects ⟨Nat.le_of_ble_eq_true rfl, Nat.le_of_ble_eq_true rfl⟩ ⟨Nat.zero_le _, Nat.zero_le _⟩ (List.append_nil _).symm (fun _ _ => List.append_nil _) (fun _ _ => rfl) 0 rfl rfl rfl (Nat.le_of_ble_eq_true rfl) dX5_state_34 rfl (fun r_9 f_10 v_11 hq => ?_)
        refine j_if_eq 40 44 C dX5_state_37 rfl rfl (fun c_12 => ?_) (fun c_12 => ?_)
        · replace hq := hq.1 c_12
          refine j_iconst 45 C dX5_state_44 rfl ic_0 ?_
          exact hR _ _ _ f_10 v_11 dX5_state_45 hq
        · replace hq := hq.2 c_12
          refine j_iconst 41 C dX5_state_40 rfl ic_1 ?_
          refine j_goto 45 C dX5_state_41 rfl ?_
          exact hR _ _ _ f_10 v_11 dX5_state_45 hq
      · replace hq := hq.2 c_8
        refine j_iconst 28 C dX5_state_27 rfl ic_2 ?_
        refine j_goto 45 C dX5_state_28 rfl ?_
        exact hR _ _ _ f_6 v_7 dX5_state_45 hq
    · replace hq := hq.2 c_4
      refine j_iconst 17 C dX5_state_16 rfl ic_m1 ?_
      exact hR _ _ _ f v dX5_state_17 hq
def Q_X5_subsumes (p0 : Int32) (p1 : Int32) (f : FF) (v : VV) (post : Int32 → FF → VV → Prop) : Prop := Q_X5_isMutant p0 f v (fun r_1 => (((r_1 = 0 → (post (-1 : Int32) f v)) ∧ (¬ r_1 = 0 → (Q_X5_isMutant p1 f v (fun r_3 => (((¬ r_3 = 0 → (Q_X5_findKillers  f v (fun f_6 v_7 => (Q_X5_doesSubsume p0 p1 f_6 v_7 (fun r_8 => (((r_8 = 0 → (post (0 : Int32) f_6 v_7)) ∧ (¬ r_8 = 0 → (post (1 : Int32) f_6 v_7))))))))) ∧ (r_3 = 0 → (post (-1 : Int32) f v))))))))))
set_option maxRecDepth 100000 in
set_option maxHeartbeats 4000000 in
theorem m_X5_subsumes {l : Launch} (G : Gx) (h : Nat → Nat) (p0 : Int32) (p1 : Int32) (f : FF) (v : VV) {post : Int32 → FF → VV → Prop} (hq : Q_X5_subsumes p0 p1 f v post) : MetI l yX5_subsumes (gC yX5_subsumes cX5_subsumes 3 (some .int)) rmX5_subsumes G [.ref (h 0), .int p0, .int p1] (wE G h) f v post := by
  refine met_i (own := RX5) (by decide) rfl (Nat.le_of_ble_eq_true rfl) (fun κ hκ C hR => ?_)
  unfold Q_X5_subsumes at hq
  subst hκ
  show J κ 0 0 (wE G h f v) 0 [(0, .ref (h 0)), (1, .int p0), (2, .int p1)] []
  refine j_aload_n 1 C dX5_subsumes_0 rfl 0 rfl ?_
  refine j_iload_n 2 C dX5_subsumes_1 rfl 1 rfl ?_
  refine j_callVi_ro 5 C [] [] (As := [.int p0]) (m_X5_isMutant G h p0 f v hq) oX5_isMutant kX5_171 ⟨rfl, rfl⟩ eX5_isMutant ⟨Nat.le_of_ble_eq_true rfl, Nat.le_of_ble_eq_true rfl⟩ ⟨Nat.zero_le _, Nat.zero_le _⟩ (List.append_nil _).symm (fun _ _ => rfl) 0 rfl rfl rfl (Nat.le_of_ble_eq_true rfl) dX5_subsumes_2 rfl (fun r_1 hq => ?_)
  refine j_if_eq 8 16 C dX5_subsumes_5 rfl rfl (fun c_2 => ?_) (fun c_2 => ?_)
  · replace hq := hq.1 c_2
    refine j_iconst 17 C dX5_subsumes_16 rfl ic_m1 ?_
    exact hR _ _ _ f v dX5_subsumes_17 hq
  · replace hq := hq.2 c_2
    refine j_aload_n 9 C dX5_subsumes_8 rfl 0 rfl ?_
    refine j_iload_n 10 C dX5_subsumes_9 rfl 2 rfl ?_
    refine j_callVi_ro 13 C [] [] (As := [.int p1]) (m_X5_isMutant G h p1 f v hq) oX5_isMutant kX5_171 ⟨rfl, rfl⟩ eX5_isMutant ⟨Nat.le_of_ble_eq_true rfl, Nat.le_of_ble_eq_true rfl⟩ ⟨Nat.zero_le _, Nat.zero_le _⟩ (List.append_nil _).symm (fun _ _ => rfl) 0 rfl rfl rfl (Nat.le_of_ble_eq_true rfl) dX5_subsumes_10 rfl (fun r_3 hq => ?_)
    refine j_if_ne 16 18 C dX5_subsumes_13 rfl rfl (fun c_4 => ?_) (fun c_4 => ?_)
    · replace hq := hq.1 c_4
      refine j_aload_n 19 C dX5_subsumes_18 rfl 0 rfl ?_
      refine j_callVv 22 C [] [] (fun f' v' => (wE G h f' v')) (As := []) (m_X5_findKillers G h f v hq) oX5_findKillers kX5_162 ⟨rfl, rfl⟩ eX5_findKillers ⟨Nat.le_of_ble_eq_true rfl, Nat.le_of_ble_eq_true rfl⟩ ⟨Nat.zero_le _, Nat.zero_le _⟩ (List.append_nil _).symm (fun _ _ => List.append_nil _) (fun _ _ => rfl) 0 rfl rfl rfl (Nat.le_of_ble_eq_true rfl) dX5_subsumes_19 rfl (fun f_6 v_7 hq => ?_)
      refine j_aload_n 23 C dX5_subsumes_22 rfl 0 rfl ?_
      refine j_iload_n 24 C dX5_subsumes_23 rfl 1 rfl ?_
      refine j_iload_n 25 C dX5_subsumes_24 rfl 2 rfl ?_
      refine j_callVi_ro 28 C [] [] (As := [.int p0, .int p1]) (m_X5_doesSubsume G h p0 p1 f_6 v_7 hq) oX5_doesSubsume kX5_168 ⟨rfl, rfl⟩ eX5_doesSubsume ⟨Nat.le_of_ble_eq_true rfl, Nat.le_of_ble_eq_true rfl⟩ ⟨Nat.zero_le _, Nat.zero_le _⟩ (List.append_nil _).symm (fun _ _ => rfl) 0 rfl rfl rfl (Nat.le_of_ble_eq_true rfl) dX5_subsumes_25 rfl (fun r_8 hq => ?_)
      refine j_if_eq 31 35 C dX5_subsumes_28 rfl rfl (fun c_9 => ?_) (fun c_9 => ?_)
      · replace hq := hq.1 c_9
        refine j_iconst 36 C dX5_subsumes_35 rfl ic_0 ?_
        exact hR _ _ _ f_6 v_7 dX5_subsumes_36 hq
      · replace hq := hq.2 c_9
        refine j_iconst 32 C dX5_subsumes_31 rfl ic_1 ?_
        refine j_goto 36 C dX5_subsumes_32 rfl ?_
        exact hR _ _ _ f_6 v_7 dX5_subsumes_36 hq
    · replace hq := hq.2 c_4
      refine j_iconst 17 C dX5_subsumes_16 rfl ic_m1 ?_
      exact hR _ _ _ f v dX5_subsumes_17 hq
def Q_X5_hardest_L19 (K85 : Int32 → Int32 → FF → VV → Prop) : Nat → Int32 → Int32 → FF → VV → Prop
  | 0, _, _, _, _ => False
  | n + 1, x1, x2, f, v => Q_X5_mutants  f v (fun r_5 => (((r_5 ≤ x2 → (K85 x1 x2 f v)) ∧ (¬ r_5 ≤ x2 → (vp_in x2 20 ∧ (((((f 13) (x2).toNatClampNeg) = 0 → (∀ x_9 : Int32, x_9 = (x2 + (1 : Int32)) → (Q_X5_hardest_L19 K85 n x1 x_9 f v))) ∧ (¬ ((f 13) (x2).toNatClampNeg) = 0 → (((x1 = (-9 : Int32) → (∀ x_11 : Int32, x_11 = (x2 + (1 : Int32)) → (Q_X5_hardest_L19 K85 n x2 x_11 f v))) ∧ (¬ x1 = (-9 : Int32) → (vp_in x2 20 ∧ (Q_X5_size ((f 13) (x2).toNatClampNeg) (fun r_13 => (vp_in x1 20 ∧ (Q_X5_size ((f 13) (x1).toNatClampNeg) (fun r_15 => (((r_15 ≤ r_13 → (∀ x_17 : Int32, x_17 = (x2 + (1 : Int32)) → (Q_X5_hardest_L19 K85 n x1 x_17 f v))) ∧ (¬ r_15 ≤ r_13 → (∀ x_18 : Int32, x_18 = (x2 + (1 : Int32)) → (Q_X5_hardest_L19 K85 n x2 x_18 f v))))))))))))))))))))))
set_option maxRecDepth 100000 in
set_option maxHeartbeats 4000000 in
theorem t_X5_hardest_L19 {κ : Kx} {G : Gx} {h : Nat → Nat} (C : Cx κ G RX5 cX5_hardest rmX5_hardest 4) {K85 : Int32 → Int32 → FF → VV → Prop} (hK85 : ∀ (x1 : Int32) (x2 : Int32) (f : FF) (v : VV), K85 x1 x2 f v → J κ 0 0 (wE G h f v) 85 [(0, .ref (h 0)), (1, .int x1), (2, .int x2)] []) : ∀ (n : Nat) (x1 : Int32) (x2 : Int32) (f : FF) (v : VV), Q_X5_hardest_L19 K85 n x1 x2 f v → J κ 0 0 (wE G h f v) 19 [(0, .ref (h 0)), (1, .int x1), (2, .int x2)] [] := by
  intro n
  induction n with
  | zero => intro x1 x2 f v hq; exact False.elim hq
  | succ n ih =>
    intro x1 x2 f v hq
    rw [Q_X5_hardest_L19] at hq
    refine j_iload_n 20 C dX5_hardest_19 rfl 2 rfl ?_
    refine j_aload_n 21 C dX5_hardest_20 rfl 0 rfl ?_
    refine j_callVi_ro 24 C [] [] (As := []) (m_X5_mutants G h f v hq) oX5_mutants kX5_77 ⟨rfl, rfl⟩ eX5_mutants ⟨Nat.le_of_ble_eq_true rfl, Nat.le_of_ble_eq_true rfl⟩ ⟨Nat.zero_le _, Nat.zero_le _⟩ (List.append_nil _).symm (fun _ _ => rfl) 0 rfl rfl rfl (Nat.le_of_ble_eq_true rfl) dX5_hardest_21 rfl (fun r_5 hq => ?_)
    refine j_icmp_ge 27 85 C dX5_hardest_24 rfl rfl (fun c_6 => ?_) (fun c_6 => ?_)
    · replace hq := hq.1 c_6
      refine J.l0 [0, 1, 2] rfl ?_
      exact hK85 _ _ _ _ hq
    · replace hq := hq.2 c_6
      refine j_aload_n 28 C dX5_hardest_27 rfl 0 rfl ?_
      refine j_get 31 C uX5 0 rfl rfl 20 (Nat.le_of_ble_eq_true rfl) lX5_49 (v := .ref (h 14)) rfl dX5_hardest_28 rfl ?_
      refine j_iload_n 32 C dX5_hardest_31 rfl 2 rfl ?_
      obtain ⟨hi_7, hq⟩ := hq
      refine j_iald 33 C 14 (f := (f 13)) rfl hi_7 dX5_hardest_32 rfl ?_
      refine j_if_eq 36 67 C dX5_hardest_33 rfl rfl (fun c_8 => ?_) (fun c_8 => ?_)
      · replace hq := hq.1 c_8
        refine j_iconst 68 C dX5_hardest_67 rfl ic_0 ?_
        refine j_istore_n 69 C dX5_hardest_68 rfl (Nat.le_of_ble_eq_true rfl) [1, 2, 3, 0] (lv' := [(0, .ref (h 0)), (1, .int x1), (2, .int x2), (3, .int (0 : Int32))]) rfl ?_
        refine j_iload_n 70 C dX5_hardest_69 rfl 3 rfl ?_
        refine j_if_eq 73 77 C dX5_hardest_70 rfl rfl (fun _ => ?_) (fun h9 => absurd h9 (by decide))
        refine j_iload_n 78 C dX5_hardest_77 rfl 1 rfl ?_
        refine j_istore_n 79 C dX5_hardest_78 rfl (Nat.le_of_ble_eq_true rfl) [1, 0, 2, 3] (lv' := [(0, .ref (h 0)), (1, .int x1), (2, .int x2), (3, .int (0 : Int32))]) rfl ?_
        obtain ⟨x_9, ex_9⟩ : ∃ y : Int32, y = (x2 + (1 : Int32)) := ⟨_, rfl⟩
        replace hq := hq x_9 ex_9
        refine j_iinc 82 C dX5_hardest_79 rfl 2 rfl (v := x_9) (by rw [ex_9]; rfl) (Nat.le_of_ble_eq_true rfl) [1, 2, 0, 3] (lv' := [(0, .ref (h 0)), (1, .int x1), (2, .int x_9), (3, .int (0 : Int32))]) rfl ?_
        refine j_goto 19 C dX5_hardest_82 rfl ?_
        refine J.l0 [0, 1, 2] rfl ?_
        exact ih _ _ _ _ hq
      · replace hq := hq.2 c_8
        refine j_iload_n 37 C dX5_hardest_36 rfl 1 rfl ?_
        refine j_bipush 39 C dX5_hardest_37 rfl bc_m9 ?_
        refine j_icmp_eq 42 63 C dX5_hardest_39 rfl rfl (fun c_10 => ?_) (fun c_10 => ?_)
        · replace hq := hq.1 c_10
          refine j_iconst 64 C dX5_hardest_63 rfl ic_1 ?_
          refine j_goto 68 C dX5_hardest_64 rfl ?_
          refine j_istore_n 69 C dX5_hardest_68 rfl (Nat.le_of_ble_eq_true rfl) [1, 2, 3, 0] (lv' := [(0, .ref (h 0)), (1, .int x1), (2, .int x2), (3, .int (1 : Int32))]) rfl ?_
          refine j_iload_n 70 C dX5_hardest_69 rfl 3 rfl ?_
          refine j_if_eq 73 77 C dX5_hardest_70 rfl rfl (fun h9 => absurd h9 (by decide)) (fun _ => ?_)
          refine j_iload_n 74 C dX5_hardest_73 rfl 2 rfl ?_
          refine j_goto 78 C dX5_hardest_74 rfl ?_
          refine j_istore_n 79 C dX5_hardest_78 rfl (Nat.le_of_ble_eq_true rfl) [1, 0, 2, 3] (lv' := [(0, .ref (h 0)), (1, .int x2), (2, .int x2), (3, .int (1 : Int32))]) rfl ?_
          obtain ⟨x_11, ex_11⟩ : ∃ y : Int32, y = (x2 + (1 : Int32)) := ⟨_, rfl⟩
          replace hq := hq x_11 ex_11
          refine j_iinc 82 C dX5_hardest_79 rfl 2 rfl (v := x_11) (by rw [ex_11]; rfl) (Nat.le_of_ble_eq_true rfl) [1, 2, 0, 3] (lv' := [(0, .ref (h 0)), (1, .int x2), (2, .int x_11), (3, .int (1 : Int32))]) rfl ?_
          refine j_goto 19 C dX5_hardest_82 rfl ?_
          refine J.l0 [0, 1, 2] rfl ?_
          exact ih _ _ _ _ hq
        · replace hq := hq.2 c_10
          refine j_aload_n 43 C dX5_hardest_42 rfl 0 rfl ?_
          refine j_get 46 C uX5 0 rfl rfl 20 (Nat.le_of_ble_eq_true rfl) lX5_49 (v := .ref (h 14)) rfl dX5_hardest_43 rfl ?_
          refine j_iload_n 47 C dX5_hardest_46 rfl 2 rfl ?_
          obtain ⟨hi_12, hq⟩ := hq
          refine j_iald 48 C 14 (f := (f 13)) rfl hi_12 dX5_hardest_47 rfl ?_
          refine j_callSi 51 C [] (wE G h f v) (fun _ _ => (wE G h f v)) (As := [.int ((f 13) (x2).toNatClampNeg)]) (m_X5_size G ((f 13) (x2).toNatClampNeg) hq) oX5_size kX5_183 ⟨rfl, rfl⟩ eX5_size ⟨Nat.le_of_ble_eq_true rfl, Nat.le_of_ble_eq_true rfl⟩ ⟨Nat.zero_le _, Nat.zero_le _⟩ rfl (fun _ _ => rfl) (fun _ _ => rfl) rfl (Nat.le_of_ble_eq_true rfl) dX5_hardest_48 rfl (fun r_13 _ _ hq => ?_)
          refine j_aload_n 52 C dX5_hardest_51 rfl 0 rfl ?_
          refine j_get 55 C uX5 0 rfl rfl 20 (Nat.le_of_ble_eq_true rfl) lX5_49 (v := .ref (h 14)) rfl dX5_hardest_52 rfl ?_
          refine j_iload_n 56 C dX5_hardest_55 rfl 1 rfl ?_
          obtain ⟨hi_14, hq⟩ := hq
          refine j_iald 57 C 14 (f := (f 13)) rfl hi_14 dX5_hardest_56 rfl ?_
          refine j_callSi 60 C [] (wE G h f v) (fun _ _ => (wE G h f v)) (As := [.int ((f 13) (x1).toNatClampNeg)]) (m_X5_size G ((f 13) (x1).toNatClampNeg) hq) oX5_size kX5_183 ⟨rfl, rfl⟩ eX5_size ⟨Nat.le_of_ble_eq_true rfl, Nat.le_of_ble_eq_true rfl⟩ ⟨Nat.zero_le _, Nat.zero_le _⟩ rfl (fun _ _ => rfl) (fun _ _ => rfl) rfl (Nat.le_of_ble_eq_true rfl) dX5_hardest_57 rfl (fun r_15 _ _ hq => ?_)
          refine j_icmp_ge 63 67 C dX5_hardest_60 rfl rfl (fun c_16 => ?_) (fun c_16 => ?_)
          · replace hq := hq.1 c_16
            refine j_iconst 68 C dX5_hardest_67 rfl ic_0 ?_
            refine j_istore_n 69 C dX5_hardest_68 rfl (Nat.le_of_ble_eq_true rfl) [1, 2, 3, 0] (lv' := [(0, .ref (h 0)), (1, .int x1), (2, .int x2), (3, .int (0 : Int32))]) rfl ?_
            refine j_iload_n 70 C dX5_hardest_69 rfl 3 rfl ?_
            refine j_if_eq 73 77 C dX5_hardest_70 rfl rfl (fun _ => ?_) (fun h9 => absurd h9 (by decide))
            refine j_iload_n 78 C dX5_hardest_77 rfl 1 rfl ?_
            refine j_istore_n 79 C dX5_hardest_78 rfl (Nat.le_of_ble_eq_true rfl) [1, 0, 2, 3] (lv' := [(0, .ref (h 0)), (1, .int x1), (2, .int x2), (3, .int (0 : Int32))]) rfl ?_
            obtain ⟨x_17, ex_17⟩ : ∃ y : Int32, y = (x2 + (1 : Int32)) := ⟨_, rfl⟩
            replace hq := hq x_17 ex_17
            refine j_iinc 82 C dX5_hardest_79 rfl 2 rfl (v := x_17) (by rw [ex_17]; rfl) (Nat.le_of_ble_eq_true rfl) [1, 2, 0, 3] (lv' := [(0, .ref (h 0)), (1, .int x1), (2, .int x_17), (3, .int (0 : Int32))]) rfl ?_
            refine j_goto 19 C dX5_hardest_82 rfl ?_
            refine J.l0 [0, 1, 2] rfl ?_
            exact ih _ _ _ _ hq
          · replace hq := hq.2 c_16
            refine j_iconst 64 C dX5_hardest_63 rfl ic_1 ?_
            refine j_goto 68 C dX5_hardest_64 rfl ?_
            refine j_istore_n 69 C dX5_hardest_68 rfl (Nat.le_of_ble_eq_true rfl) [1, 2, 3, 0] (lv' := [(0, .ref (h 0)), (1, .int x1), (2, .int x2), (3, .int (1 : Int32))]) rfl ?_
            refine j_iload_n 70 C dX5_hardest_69 rfl 3 rfl ?_
            refine j_if_eq 73 77 C dX5_hardest_70 rfl rfl (fun h9 => absurd h9 (by decide)) (fun _ => ?_)
            refine j_iload_n 74 C dX5_hardest_73 rfl 2 rfl ?_
            refine j_goto 78 C dX5_hardest_74 rfl ?_
            refine j_istore_n 79 C dX5_hardest_78 rfl (Nat.le_of_ble_eq_true rfl) [1, 0, 2, 3] (lv' := [(0, .ref (h 0)), (1, .int x2), (2, .int x2), (3, .int (1 : Int32))]) rfl ?_
            obtain ⟨x_18, ex_18⟩ : ∃ y : Int32, y = (x2 + (1 : Int32)) := ⟨_, rfl⟩
            replace hq := hq x_18 ex_18
            refine j_iinc 82 C dX5_hardest_79 rfl 2 rfl (v := x_18) (by rw [ex_18]; rfl) (Nat.le_of_ble_eq_true rfl) [1, 2, 0, 3] (lv' := [(0, .ref (h 0)), (1, .int x2), (2, .int x_18), (3, .int (1 : Int32))]) rfl ?_
            refine j_goto 19 C dX5_hardest_82 rfl ?_
            refine J.l0 [0, 1, 2] rfl ?_
            exact ih _ _ _ _ hq
def Q_X5_hardest (f : FF) (v : VV) (post : Int32 → FF → VV → Prop) : Prop := ((¬ (v 2) = 0 → (Q_X5_findKillers  f v (fun f_3 v_4 => (∃ n_19 : Nat, Q_X5_hardest_L19 (fun x_20 x_21 f_22 v_23 => (post x_20 f_22 v_23)) n_19 (-9 : Int32) (0 : Int32) f_3 v_4)))) ∧ ((v 2) = 0 → (post (-3 : Int32) f v)))
set_option maxRecDepth 100000 in
set_option maxHeartbeats 4000000 in
theorem m_X5_hardest {l : Launch} (G : Gx) (h : Nat → Nat) (f : FF) (v : VV) {post : Int32 → FF → VV → Prop} (hq : Q_X5_hardest f v post) : MetI l yX5_hardest (gC yX5_hardest cX5_hardest 4 (some .int)) rmX5_hardest G [.ref (h 0)] (wE G h) f v post := by
  refine met_i (own := RX5) (by decide) rfl (Nat.le_of_ble_eq_true rfl) (fun κ hκ C hR => ?_)
  unfold Q_X5_hardest at hq
  subst hκ
  show J κ 0 0 (wE G h f v) 0 [(0, .ref (h 0))] []
  refine j_aload_n 1 C dX5_hardest_0 rfl 0 rfl ?_
  refine j_get 4 C uX5 0 rfl rfl 5 (Nat.le_of_ble_eq_true rfl) lX5_71 (v := .int (v 2)) rfl dX5_hardest_1 rfl ?_
  refine j_if_ne 7 10 C dX5_hardest_4 rfl rfl (fun c_1 => ?_) (fun c_1 => ?_)
  · replace hq := hq.1 c_1
    refine j_aload_n 11 C dX5_hardest_10 rfl 0 rfl ?_
    refine j_callVv 14 C [] [] (fun f' v' => (wE G h f' v')) (As := []) (m_X5_findKillers G h f v hq) oX5_findKillers kX5_162 ⟨rfl, rfl⟩ eX5_findKillers ⟨Nat.le_of_ble_eq_true rfl, Nat.le_of_ble_eq_true rfl⟩ ⟨Nat.zero_le _, Nat.zero_le _⟩ (List.append_nil _).symm (fun _ _ => List.append_nil _) (fun _ _ => rfl) 0 rfl rfl rfl (Nat.le_of_ble_eq_true rfl) dX5_hardest_11 rfl (fun f_3 v_4 hq => ?_)
    refine j_bipush 16 C dX5_hardest_14 rfl bc_m9 ?_
    refine j_istore_n 17 C dX5_hardest_16 rfl (Nat.le_of_ble_eq_true rfl) [1, 0] (lv' := [(0, .ref (h 0)), (1, .int (-9 : Int32))]) rfl ?_
    refine j_iconst 18 C dX5_hardest_17 rfl ic_0 ?_
    refine j_istore_n 19 C dX5_hardest_18 rfl (Nat.le_of_ble_eq_true rfl) [1, 2, 0] (lv' := [(0, .ref (h 0)), (1, .int (-9 : Int32)), (2, .int (0 : Int32))]) rfl ?_
    obtain ⟨n_19, hq⟩ := hq
    refine t_X5_hardest_L19 C ?_ n_19 _ _ _ _ hq
    · intro x_20 x_21 f_22 v_23 hq
      refine j_iload_n 86 C dX5_hardest_85 rfl 1 rfl ?_
      exact hR _ _ _ f_22 v_23 dX5_hardest_86 hq
  · replace hq := hq.2 c_1
    refine j_bipush 9 C dX5_hardest_7 rfl bc_m3 ?_
    exact hR _ _ _ f v dX5_hardest_9 hq
def Q_X5_manyLeast_L4 (f : FF) (v : VV) (K34 : Int32 → Int32 → Prop) : Nat → Int32 → Int32 → Prop
  | 0, _, _ => False
  | n + 1, x1, x2 => Q_X5_mutants  f v (fun r_1 => (((r_1 ≤ x2 → (K34 x1 x2)) ∧ (¬ r_1 ≤ x2 → (Q_X5_isLeast x2 f v (fun r_3 => (((r_3 = 0 → (∀ x_5 : Int32, x_5 = (x1 + (0 : Int32)) → (∀ x_6 : Int32, x_6 = (x2 + (1 : Int32)) → (Q_X5_manyLeast_L4 f v K34 n x_5 x_6)))) ∧ (¬ r_3 = 0 → (∀ x_7 : Int32, x_7 = (x1 + (1 : Int32)) → (∀ x_8 : Int32, x_8 = (x2 + (1 : Int32)) → (Q_X5_manyLeast_L4 f v K34 n x_7 x_8))))))))))))
set_option maxRecDepth 100000 in
set_option maxHeartbeats 4000000 in
theorem t_X5_manyLeast_L4 {κ : Kx} {G : Gx} {h : Nat → Nat} (C : Cx κ G RX5 cX5_manyLeast rmX5_manyLeast 3) {f : FF} {v : VV} {K34 : Int32 → Int32 → Prop} (hK34 : ∀ (x1 : Int32) (x2 : Int32), K34 x1 x2 → J κ 0 0 (wE G h f v) 34 [(0, .ref (h 0)), (1, .int x1), (2, .int x2)] []) : ∀ (n : Nat) (x1 : Int32) (x2 : Int32), Q_X5_manyLeast_L4 f v K34 n x1 x2 → J κ 0 0 (wE G h f v) 4 [(0, .ref (h 0)), (1, .int x1), (2, .int x2)] [] := by
  intro n
  induction n with
  | zero => intro x1 x2 hq; exact False.elim hq
  | succ n ih =>
    intro x1 x2 hq
    rw [Q_X5_manyLeast_L4] at hq
    refine j_iload_n 5 C dX5_manyLeast_4 rfl 2 rfl ?_
    refine j_aload_n 6 C dX5_manyLeast_5 rfl 0 rfl ?_
    refine j_callVi_ro 9 C [] [] (As := []) (m_X5_mutants G h f v hq) oX5_mutants kX5_77 ⟨rfl, rfl⟩ eX5_mutants ⟨Nat.le_of_ble_eq_true rfl, Nat.le_of_ble_eq_true rfl⟩ ⟨Nat.zero_le _, Nat.zero_le _⟩ (List.append_nil _).symm (fun _ _ => rfl) 0 rfl rfl rfl (Nat.le_of_ble_eq_true rfl) dX5_manyLeast_6 rfl (fun r_1 hq => ?_)
    refine j_icmp_ge 12 34 C dX5_manyLeast_9 rfl rfl (fun c_2 => ?_) (fun c_2 => ?_)
    · replace hq := hq.1 c_2
      refine J.l0 [0, 1, 2] rfl ?_
      exact hK34 _ _ hq
    · replace hq := hq.2 c_2
      refine j_iload_n 13 C dX5_manyLeast_12 rfl 1 rfl ?_
      refine j_aload_n 14 C dX5_manyLeast_13 rfl 0 rfl ?_
      refine j_iload_n 15 C dX5_manyLeast_14 rfl 2 rfl ?_
      refine j_callVi_ro 18 C [] [] (As := [.int x2]) (m_X5_isLeast G h x2 f v hq) oX5_isLeast kX5_174 ⟨rfl, rfl⟩ eX5_isLeast ⟨Nat.le_of_ble_eq_true rfl, Nat.le_of_ble_eq_true rfl⟩ ⟨Nat.zero_le _, Nat.zero_le _⟩ (List.append_nil _).symm (fun _ _ => rfl) 0 rfl rfl rfl (Nat.le_of_ble_eq_true rfl) dX5_manyLeast_15 rfl (fun r_3 hq => ?_)
      refine j_if_eq 21 25 C dX5_manyLeast_18 rfl rfl (fun c_4 => ?_) (fun c_4 => ?_)
      · replace hq := hq.1 c_4
        refine j_iconst 26 C dX5_manyLeast_25 rfl ic_0 ?_
        refine j_iadd 27 C dX5_manyLeast_26 rfl ?_
        refine J.topi (fun x_5 ex_5 => ?_)
        replace hq := hq x_5 ex_5
        refine j_istore_n 28 C dX5_manyLeast_27 rfl (Nat.le_of_ble_eq_true rfl) [1, 0, 2] (lv' := [(0, .ref (h 0)), (1, .int x_5), (2, .int x2)]) rfl ?_
        obtain ⟨x_6, ex_6⟩ : ∃ y : Int32, y = (x2 + (1 : Int32)) := ⟨_, rfl⟩
        replace hq := hq x_6 ex_6
        refine j_iinc 31 C dX5_manyLeast_28 rfl 2 rfl (v := x_6) (by rw [ex_6]; rfl) (Nat.le_of_ble_eq_true rfl) [1, 2, 0] (lv' := [(0, .ref (h 0)), (1, .int x_5), (2, .int x_6)]) rfl ?_
        refine j_goto 4 C dX5_manyLeast_31 rfl ?_
        refine J.l0 [0, 1, 2] rfl ?_
        exact ih _ _ hq
      · replace hq := hq.2 c_4
        refine j_iconst 22 C dX5_manyLeast_21 rfl ic_1 ?_
        refine j_goto 26 C dX5_manyLeast_22 rfl ?_
        refine j_iadd 27 C dX5_manyLeast_26 rfl ?_
        refine J.topi (fun x_7 ex_7 => ?_)
        replace hq := hq x_7 ex_7
        refine j_istore_n 28 C dX5_manyLeast_27 rfl (Nat.le_of_ble_eq_true rfl) [1, 0, 2] (lv' := [(0, .ref (h 0)), (1, .int x_7), (2, .int x2)]) rfl ?_
        obtain ⟨x_8, ex_8⟩ : ∃ y : Int32, y = (x2 + (1 : Int32)) := ⟨_, rfl⟩
        replace hq := hq x_8 ex_8
        refine j_iinc 31 C dX5_manyLeast_28 rfl 2 rfl (v := x_8) (by rw [ex_8]; rfl) (Nat.le_of_ble_eq_true rfl) [1, 2, 0] (lv' := [(0, .ref (h 0)), (1, .int x_7), (2, .int x_8)]) rfl ?_
        refine j_goto 4 C dX5_manyLeast_31 rfl ?_
        refine J.l0 [0, 1, 2] rfl ?_
        exact ih _ _ hq
def Q_X5_manyLeast (f : FF) (v : VV) (post : Int32 → Prop) : Prop := ∃ n_9 : Nat, Q_X5_manyLeast_L4 f v (fun x_10 x_11 => (post x_10)) n_9 (0 : Int32) (0 : Int32)
set_option maxRecDepth 100000 in
set_option maxHeartbeats 4000000 in
theorem m_X5_manyLeast {l : Launch} (G : Gx) (h : Nat → Nat) (f : FF) (v : VV) {post : Int32 → Prop} (hq : Q_X5_manyLeast f v post) : MetI l yX5_manyLeast (gC yX5_manyLeast cX5_manyLeast 3 (some .int)) rmX5_manyLeast G [.ref (h 0)] (wE G h) f v (fun r f' v' => post r ∧ f' = f ∧ v' = v) := by
  refine met_i (own := RX5) (by decide) rfl (Nat.le_of_ble_eq_true rfl) (fun κ hκ C hR => ?_)
  unfold Q_X5_manyLeast at hq
  subst hκ
  show J κ 0 0 (wE G h f v) 0 [(0, .ref (h 0))] []
  refine j_iconst 1 C dX5_manyLeast_0 rfl ic_0 ?_
  refine j_istore_n 2 C dX5_manyLeast_1 rfl (Nat.le_of_ble_eq_true rfl) [1, 0] (lv' := [(0, .ref (h 0)), (1, .int (0 : Int32))]) rfl ?_
  refine j_iconst 3 C dX5_manyLeast_2 rfl ic_0 ?_
  refine j_istore_n 4 C dX5_manyLeast_3 rfl (Nat.le_of_ble_eq_true rfl) [1, 2, 0] (lv' := [(0, .ref (h 0)), (1, .int (0 : Int32)), (2, .int (0 : Int32))]) rfl ?_
  obtain ⟨n_9, hq⟩ := hq
  refine t_X5_manyLeast_L4 C ?_ n_9 _ _ hq
  · intro x_10 x_11 hq
    refine j_iload_n 35 C dX5_manyLeast_34 rfl 1 rfl ?_
    exact hR _ _ _ f v dX5_manyLeast_35 ⟨hq, rfl, rfl⟩
def Q_X5_keep_L2 (K25 : Int32 → FF → VV → Prop) : Nat → Int32 → FF → VV → Prop
  | 0, _, _, _ => False
  | n + 1, x1, f, v => (((5 : Int32) ≤ x1 → (K25 x1 f v)) ∧ (¬ (5 : Int32) ≤ x1 → (vp_in x1 5 ∧ (vp_in x1 26 ∧ (∀ f_4 : FF, f_4 = fu f 14 (wr (f 14) x1 ((f 3) (x1).toNatClampNeg)) → (∀ x_5 : Int32, x_5 = (x1 + (1 : Int32)) → (Q_X5_keep_L2 K25 n x_5 f_4 v)))))))
set_option maxRecDepth 100000 in
set_option maxHeartbeats 4000000 in
theorem t_X5_keep_L2 {κ : Kx} {G : Gx} {h : Nat → Nat} (C : Cx κ G RX5 cX5_keep rmX5_keep 2) {K25 : Int32 → FF → VV → Prop} (hK25 : ∀ (x1 : Int32) (f : FF) (v : VV), K25 x1 f v → J κ 0 0 (wE G h f v) 25 [(0, .ref (h 0)), (1, .int x1)] []) : ∀ (n : Nat) (x1 : Int32) (f : FF) (v : VV), Q_X5_keep_L2 K25 n x1 f v → J κ 0 0 (wE G h f v) 2 [(0, .ref (h 0)), (1, .int x1)] [] := by
  intro n
  induction n with
  | zero => intro x1 f v hq; exact False.elim hq
  | succ n ih =>
    intro x1 f v hq
    rw [Q_X5_keep_L2] at hq
    refine j_iload_n 3 C dX5_keep_2 rfl 1 rfl ?_
    refine j_iconst 4 C dX5_keep_3 rfl ic_5 ?_
    refine j_icmp_ge 7 25 C dX5_keep_4 rfl rfl (fun c_1 => ?_) (fun c_1 => ?_)
    · replace hq := hq.1 c_1
      refine J.l0 [0, 1] rfl ?_
      exact hK25 _ _ _ hq
    · replace hq := hq.2 c_1
      refine j_aload_n 8 C dX5_keep_7 rfl 0 rfl ?_
      refine j_get 11 C uX5 0 rfl rfl 21 (Nat.le_of_ble_eq_true rfl) lX5_52 (v := .ref (h 15)) rfl dX5_keep_8 rfl ?_
      refine j_iload_n 12 C dX5_keep_11 rfl 1 rfl ?_
      refine j_aload_n 13 C dX5_keep_12 rfl 0 rfl ?_
      refine j_get 16 C uX5 0 rfl rfl 7 (Nat.le_of_ble_eq_true rfl) lX5_19 (v := .ref (h 4)) rfl dX5_keep_13 rfl ?_
      refine j_iload_n 17 C dX5_keep_16 rfl 1 rfl ?_
      obtain ⟨hi_2, hq⟩ := hq
      refine j_iald 18 C 4 (f := (f 3)) rfl hi_2 dX5_keep_17 rfl ?_
      obtain ⟨hi_3, hq⟩ := hq
      obtain ⟨f_4, ef_4⟩ : ∃ y : FF, y = fu f 14 (wr (f 14) x1 ((f 3) (x1).toNatClampNeg)) := ⟨_, rfl⟩
      replace hq := hq f_4 ef_4
      refine j_iast 19 C 15 rfl hi_3 dX5_keep_18 rfl (ws' := (wE G h f_4 v)) (by subst ef_4; rfl) ?_
      obtain ⟨x_5, ex_5⟩ : ∃ y : Int32, y = (x1 + (1 : Int32)) := ⟨_, rfl⟩
      replace hq := hq x_5 ex_5
      refine j_iinc 22 C dX5_keep_19 rfl 1 rfl (v := x_5) (by rw [ex_5]; rfl) (Nat.le_of_ble_eq_true rfl) [1, 0] (lv' := [(0, .ref (h 0)), (1, .int x_5)]) rfl ?_
      refine j_goto 2 C dX5_keep_22 rfl ?_
      refine J.l0 [0, 1] rfl ?_
      exact ih _ _ _ hq
def Q_X5_keep_L27 (K83 : Int32 → FF → VV → Prop) : Nat → Int32 → FF → VV → Prop
  | 0, _, _, _ => False
  | n + 1, x1, f, v => (((7 : Int32) ≤ x1 → (K83 x1 f v)) ∧ (¬ (7 : Int32) ≤ x1 → (vp_in x1 7 ∧ (vp_in ((5 : Int32) + x1) 26 ∧ (∀ f_13 : FF, f_13 = fu f 14 (wr (f 14) ((5 : Int32) + x1) ((f 7) (x1).toNatClampNeg)) → (vp_in x1 7 ∧ (vp_in ((12 : Int32) + x1) 26 ∧ (∀ f_16 : FF, f_16 = fu f_13 14 (wr (f_13 14) ((12 : Int32) + x1) ((f_13 8) (x1).toNatClampNeg)) → (vp_in x1 7 ∧ (vp_in ((19 : Int32) + x1) 26 ∧ (∀ f_19 : FF, f_19 = fu f_16 14 (wr (f_16 14) ((19 : Int32) + x1) ((f_16 9) (x1).toNatClampNeg)) → (∀ x_20 : Int32, x_20 = (x1 + (1 : Int32)) → (Q_X5_keep_L27 K83 n x_20 f_19 v)))))))))))))
set_option maxRecDepth 100000 in
set_option maxHeartbeats 4000000 in
theorem t_X5_keep_L27 {κ : Kx} {G : Gx} {h : Nat → Nat} (C : Cx κ G RX5 cX5_keep rmX5_keep 2) {K83 : Int32 → FF → VV → Prop} (hK83 : ∀ (x1 : Int32) (f : FF) (v : VV), K83 x1 f v → J κ 0 0 (wE G h f v) 83 [(0, .ref (h 0)), (1, .int x1)] []) : ∀ (n : Nat) (x1 : Int32) (f : FF) (v : VV), Q_X5_keep_L27 K83 n x1 f v → J κ 0 0 (wE G h f v) 27 [(0, .ref (h 0)), (1, .int x1)] [] := by
  intro n
  induction n with
  | zero => intro x1 f v hq; exact False.elim hq
  | succ n ih =>
    intro x1 f v hq
    rw [Q_X5_keep_L27] at hq
    refine j_iload_n 28 C dX5_keep_27 rfl 1 rfl ?_
    refine j_bipush 30 C dX5_keep_28 rfl bc_7 ?_
    refine j_icmp_ge 33 83 C dX5_keep_30 rfl rfl (fun c_10 => ?_) (fun c_10 => ?_)
    · replace hq := hq.1 c_10
      refine J.l0 [0, 1] rfl ?_
      exact hK83 _ _ _ hq
    · replace hq := hq.2 c_10
      refine j_aload_n 34 C dX5_keep_33 rfl 0 rfl ?_
      refine j_get 37 C uX5 0 rfl rfl 21 (Nat.le_of_ble_eq_true rfl) lX5_52 (v := .ref (h 15)) rfl dX5_keep_34 rfl ?_
      refine j_iconst 38 C dX5_keep_37 rfl ic_5 ?_
      refine j_iload_n 39 C dX5_keep_38 rfl 1 rfl ?_
      refine j_iadd 40 C dX5_keep_39 rfl ?_
      refine j_aload_n 41 C dX5_keep_40 rfl 0 rfl ?_
      refine j_get 44 C uX5 0 rfl rfl 11 (Nat.le_of_ble_eq_true rfl) lX5_31 (v := .ref (h 8)) rfl dX5_keep_41 rfl ?_
      refine j_iload_n 45 C dX5_keep_44 rfl 1 rfl ?_
      obtain ⟨hi_11, hq⟩ := hq
      refine j_iald 46 C 8 (f := (f 7)) rfl hi_11 dX5_keep_45 rfl ?_
      obtain ⟨hi_12, hq⟩ := hq
      obtain ⟨f_13, ef_13⟩ : ∃ y : FF, y = fu f 14 (wr (f 14) ((5 : Int32) + x1) ((f 7) (x1).toNatClampNeg)) := ⟨_, rfl⟩
      replace hq := hq f_13 ef_13
      refine j_iast 47 C 15 rfl hi_12 dX5_keep_46 rfl (ws' := (wE G h f_13 v)) (by subst ef_13; rfl) ?_
      refine j_aload_n 48 C dX5_keep_47 rfl 0 rfl ?_
      refine j_get 51 C uX5 0 rfl rfl 21 (Nat.le_of_ble_eq_true rfl) lX5_52 (v := .ref (h 15)) rfl dX5_keep_48 rfl ?_
      refine j_bipush 53 C dX5_keep_51 rfl bc_12 ?_
      refine j_iload_n 54 C dX5_keep_53 rfl 1 rfl ?_
      refine j_iadd 55 C dX5_keep_54 rfl ?_
      refine j_aload_n 56 C dX5_keep_55 rfl 0 rfl ?_
      refine j_get 59 C uX5 0 rfl rfl 12 (Nat.le_of_ble_eq_true rfl) lX5_34 (v := .ref (h 9)) rfl dX5_keep_56 rfl ?_
      refine j_iload_n 60 C dX5_keep_59 rfl 1 rfl ?_
      obtain ⟨hi_14, hq⟩ := hq
      refine j_iald 61 C 9 (f := (f_13 8)) rfl hi_14 dX5_keep_60 rfl ?_
      obtain ⟨hi_15, hq⟩ := hq
      obtain ⟨f_16, ef_16⟩ : ∃ y : FF, y = fu f_13 14 (wr (f_13 14) ((12 : Int32) + x1) ((f_13 8) (x1).toNatClampNeg)) := ⟨_, rfl⟩
      replace hq := hq f_16 ef_16
      refine j_iast 62 C 15 rfl hi_15 dX5_keep_61 rfl (ws' := (wE G h f_16 v)) (by subst ef_16; rfl) ?_
      refine j_aload_n 63 C dX5_keep_62 rfl 0 rfl ?_
      refine j_get 66 C uX5 0 rfl rfl 21 (Nat.le_of_ble_eq_true rfl) lX5_52 (v := .ref (h 15)) rfl dX5_keep_63 rfl ?_
      refine j_bipush 68 C dX5_keep_66 rfl bc_19 ?_
      refine j_iload_n 69 C dX5_keep_68 rfl 1 rfl ?_
      refine j_iadd 70 C dX5_keep_69 rfl ?_
      refine j_aload_n 71 C dX5_keep_70 rfl 0 rfl ?_
      refine j_get 74 C uX5 0 rfl rfl 13 (Nat.le_of_ble_eq_true rfl) lX5_37 (v := .ref (h 10)) rfl dX5_keep_71 rfl ?_
      refine j_iload_n 75 C dX5_keep_74 rfl 1 rfl ?_
      obtain ⟨hi_17, hq⟩ := hq
      refine j_iald 76 C 10 (f := (f_16 9)) rfl hi_17 dX5_keep_75 rfl ?_
      obtain ⟨hi_18, hq⟩ := hq
      obtain ⟨f_19, ef_19⟩ : ∃ y : FF, y = fu f_16 14 (wr (f_16 14) ((19 : Int32) + x1) ((f_16 9) (x1).toNatClampNeg)) := ⟨_, rfl⟩
      replace hq := hq f_19 ef_19
      refine j_iast 77 C 15 rfl hi_18 dX5_keep_76 rfl (ws' := (wE G h f_19 v)) (by subst ef_19; rfl) ?_
      obtain ⟨x_20, ex_20⟩ : ∃ y : Int32, y = (x1 + (1 : Int32)) := ⟨_, rfl⟩
      replace hq := hq x_20 ex_20
      refine j_iinc 80 C dX5_keep_77 rfl 1 rfl (v := x_20) (by rw [ex_20]; rfl) (Nat.le_of_ble_eq_true rfl) [1, 0] (lv' := [(0, .ref (h 0)), (1, .int x_20)]) rfl ?_
      refine j_goto 27 C dX5_keep_80 rfl ?_
      refine J.l0 [0, 1] rfl ?_
      exact ih _ _ _ hq
def Q_X5_keep (f : FF) (v : VV) (post : FF → VV → Prop) : Prop := ∃ n_6 : Nat, Q_X5_keep_L2 (fun x_7 f_8 v_9 => (∃ n_21 : Nat, Q_X5_keep_L27 (fun x_22 f_23 v_24 => (post f_23 v_24)) n_21 (0 : Int32) f_8 v_9)) n_6 (0 : Int32) f v
set_option maxRecDepth 100000 in
set_option maxHeartbeats 4000000 in
theorem m_X5_keep {l : Launch} (G : Gx) (h : Nat → Nat) (f : FF) (v : VV) {post : FF → VV → Prop} (hq : Q_X5_keep f v post) : MetV l yX5_keep (gC yX5_keep cX5_keep 2 none) rmX5_keep G [.ref (h 0)] (wE G h) f v post := by
  refine met_v (own := RX5) (by decide) rfl (Nat.le_of_ble_eq_true rfl) (fun κ hκ C hR => ?_)
  unfold Q_X5_keep at hq
  subst hκ
  show J κ 0 0 (wE G h f v) 0 [(0, .ref (h 0))] []
  refine j_iconst 1 C dX5_keep_0 rfl ic_0 ?_
  refine j_istore_n 2 C dX5_keep_1 rfl (Nat.le_of_ble_eq_true rfl) [1, 0] (lv' := [(0, .ref (h 0)), (1, .int (0 : Int32))]) rfl ?_
  obtain ⟨n_6, hq⟩ := hq
  refine t_X5_keep_L2 C ?_ n_6 _ _ _ hq
  · intro x_7 f_8 v_9 hq
    refine j_iconst 26 C dX5_keep_25 rfl ic_0 ?_
    refine j_istore_n 27 C dX5_keep_26 rfl (Nat.le_of_ble_eq_true rfl) [1, 0] (lv' := [(0, .ref (h 0)), (1, .int (0 : Int32))]) rfl ?_
    obtain ⟨n_21, hq⟩ := hq
    refine t_X5_keep_L27 C ?_ n_21 _ _ _ hq
    · intro x_22 f_23 v_24 hq
      exact hR _ _ _ _ dX5_keep_83 hq
def Q_X5_putBack_L2 (K25 : Int32 → FF → VV → Prop) : Nat → Int32 → FF → VV → Prop
  | 0, _, _, _ => False
  | n + 1, x1, f, v => (((5 : Int32) ≤ x1 → (K25 x1 f v)) ∧ (¬ (5 : Int32) ≤ x1 → (vp_in x1 26 ∧ (vp_in x1 5 ∧ (∀ f_4 : FF, f_4 = fu f 3 (wr (f 3) x1 ((f 14) (x1).toNatClampNeg)) → (∀ x_5 : Int32, x_5 = (x1 + (1 : Int32)) → (Q_X5_putBack_L2 K25 n x_5 f_4 v)))))))
set_option maxRecDepth 100000 in
set_option maxHeartbeats 4000000 in
theorem t_X5_putBack_L2 {κ : Kx} {G : Gx} {h : Nat → Nat} (C : Cx κ G RX5 cX5_putBack rmX5_putBack 2) {K25 : Int32 → FF → VV → Prop} (hK25 : ∀ (x1 : Int32) (f : FF) (v : VV), K25 x1 f v → J κ 0 0 (wE G h f v) 25 [(0, .ref (h 0)), (1, .int x1)] []) : ∀ (n : Nat) (x1 : Int32) (f : FF) (v : VV), Q_X5_putBack_L2 K25 n x1 f v → J κ 0 0 (wE G h f v) 2 [(0, .ref (h 0)), (1, .int x1)] [] := by
  intro n
  induction n with
  | zero => intro x1 f v hq; exact False.elim hq
  | succ n ih =>
    intro x1 f v hq
    rw [Q_X5_putBack_L2] at hq
    refine j_iload_n 3 C dX5_putBack_2 rfl 1 rfl ?_
    refine j_iconst 4 C dX5_putBack_3 rfl ic_5 ?_
    refine j_icmp_ge 7 25 C dX5_putBack_4 rfl rfl (fun c_1 => ?_) (fun c_1 => ?_)
    · replace hq := hq.1 c_1
      refine J.l0 [0, 1] rfl ?_
      exact hK25 _ _ _ hq
    · replace hq := hq.2 c_1
      refine j_aload_n 8 C dX5_putBack_7 rfl 0 rfl ?_
      refine j_get 11 C uX5 0 rfl rfl 7 (Nat.le_of_ble_eq_true rfl) lX5_19 (v := .ref (h 4)) rfl dX5_putBack_8 rfl ?_
      refine j_iload_n 12 C dX5_putBack_11 rfl 1 rfl ?_
      refine j_aload_n 13 C dX5_putBack_12 rfl 0 rfl ?_
      refine j_get 16 C uX5 0 rfl rfl 21 (Nat.le_of_ble_eq_true rfl) lX5_52 (v := .ref (h 15)) rfl dX5_putBack_13 rfl ?_
      refine j_iload_n 17 C dX5_putBack_16 rfl 1 rfl ?_
      obtain ⟨hi_2, hq⟩ := hq
      refine j_iald 18 C 15 (f := (f 14)) rfl hi_2 dX5_putBack_17 rfl ?_
      obtain ⟨hi_3, hq⟩ := hq
      obtain ⟨f_4, ef_4⟩ : ∃ y : FF, y = fu f 3 (wr (f 3) x1 ((f 14) (x1).toNatClampNeg)) := ⟨_, rfl⟩
      replace hq := hq f_4 ef_4
      refine j_iast 19 C 4 rfl hi_3 dX5_putBack_18 rfl (ws' := (wE G h f_4 v)) (by subst ef_4; rfl) ?_
      obtain ⟨x_5, ex_5⟩ : ∃ y : Int32, y = (x1 + (1 : Int32)) := ⟨_, rfl⟩
      replace hq := hq x_5 ex_5
      refine j_iinc 22 C dX5_putBack_19 rfl 1 rfl (v := x_5) (by rw [ex_5]; rfl) (Nat.le_of_ble_eq_true rfl) [1, 0] (lv' := [(0, .ref (h 0)), (1, .int x_5)]) rfl ?_
      refine j_goto 2 C dX5_putBack_22 rfl ?_
      refine J.l0 [0, 1] rfl ?_
      exact ih _ _ _ hq
def Q_X5_putBack_L27 (K83 : Int32 → FF → VV → Prop) : Nat → Int32 → FF → VV → Prop
  | 0, _, _, _ => False
  | n + 1, x1, f, v => (((7 : Int32) ≤ x1 → (K83 x1 f v)) ∧ (¬ (7 : Int32) ≤ x1 → (vp_in ((5 : Int32) + x1) 26 ∧ (vp_in x1 7 ∧ (∀ f_13 : FF, f_13 = fu f 7 (wr (f 7) x1 ((f 14) (((5 : Int32) + x1)).toNatClampNeg)) → (vp_in ((12 : Int32) + x1) 26 ∧ (vp_in x1 7 ∧ (∀ f_16 : FF, f_16 = fu f_13 8 (wr (f_13 8) x1 ((f_13 14) (((12 : Int32) + x1)).toNatClampNeg)) → (vp_in ((19 : Int32) + x1) 26 ∧ (vp_in x1 7 ∧ (∀ f_19 : FF, f_19 = fu f_16 9 (wr (f_16 9) x1 ((f_16 14) (((19 : Int32) + x1)).toNatClampNeg)) → (∀ x_20 : Int32, x_20 = (x1 + (1 : Int32)) → (Q_X5_putBack_L27 K83 n x_20 f_19 v)))))))))))))
set_option maxRecDepth 100000 in
set_option maxHeartbeats 4000000 in
theorem t_X5_putBack_L27 {κ : Kx} {G : Gx} {h : Nat → Nat} (C : Cx κ G RX5 cX5_putBack rmX5_putBack 2) {K83 : Int32 → FF → VV → Prop} (hK83 : ∀ (x1 : Int32) (f : FF) (v : VV), K83 x1 f v → J κ 0 0 (wE G h f v) 83 [(0, .ref (h 0)), (1, .int x1)] []) : ∀ (n : Nat) (x1 : Int32) (f : FF) (v : VV), Q_X5_putBack_L27 K83 n x1 f v → J κ 0 0 (wE G h f v) 27 [(0, .ref (h 0)), (1, .int x1)] [] := by
  intro n
  induction n with
  | zero => intro x1 f v hq; exact False.elim hq
  | succ n ih =>
    intro x1 f v hq
    rw [Q_X5_putBack_L27] at hq
    refine j_iload_n 28 C dX5_putBack_27 rfl 1 rfl ?_
    refine j_bipush 30 C dX5_putBack_28 rfl bc_7 ?_
    refine j_icmp_ge 33 83 C dX5_putBack_30 rfl rfl (fun c_10 => ?_) (fun c_10 => ?_)
    · replace hq := hq.1 c_10
      refine J.l0 [0, 1] rfl ?_
      exact hK83 _ _ _ hq
    · replace hq := hq.2 c_10
      refine j_aload_n 34 C dX5_putBack_33 rfl 0 rfl ?_
      refine j_get 37 C uX5 0 rfl rfl 11 (Nat.le_of_ble_eq_true rfl) lX5_31 (v := .ref (h 8)) rfl dX5_putBack_34 rfl ?_
      refine j_iload_n 38 C dX5_putBack_37 rfl 1 rfl ?_
      refine j_aload_n 39 C dX5_putBack_38 rfl 0 rfl ?_
      refine j_get 42 C uX5 0 rfl rfl 21 (Nat.le_of_ble_eq_true rfl) lX5_52 (v := .ref (h 15)) rfl dX5_putBack_39 rfl ?_
      refine j_iconst 43 C dX5_putBack_42 rfl ic_5 ?_
      refine j_iload_n 44 C dX5_putBack_43 rfl 1 rfl ?_
      refine j_iadd 45 C dX5_putBack_44 rfl ?_
      obtain ⟨hi_11, hq⟩ := hq
      refine j_iald 46 C 15 (f := (f 14)) rfl hi_11 dX5_putBack_45 rfl ?_
      obtain ⟨hi_12, hq⟩ := hq
      obtain ⟨f_13, ef_13⟩ : ∃ y : FF, y = fu f 7 (wr (f 7) x1 ((f 14) (((5 : Int32) + x1)).toNatClampNeg)) := ⟨_, rfl⟩
      replace hq := hq f_13 ef_13
      refine j_iast 47 C 8 rfl hi_12 dX5_putBack_46 rfl (ws' := (wE G h f_13 v)) (by subst ef_13; rfl) ?_
      refine j_aload_n 48 C dX5_putBack_47 rfl 0 rfl ?_
      refine j_get 51 C uX5 0 rfl rfl 12 (Nat.le_of_ble_eq_true rfl) lX5_34 (v := .ref (h 9)) rfl dX5_putBack_48 rfl ?_
      refine j_iload_n 52 C dX5_putBack_51 rfl 1 rfl ?_
      refine j_aload_n 53 C dX5_putBack_52 rfl 0 rfl ?_
      refine j_get 56 C uX5 0 rfl rfl 21 (Nat.le_of_ble_eq_true rfl) lX5_52 (v := .ref (h 15)) rfl dX5_putBack_53 rfl ?_
      refine j_bipush 58 C dX5_putBack_56 rfl bc_12 ?_
      refine j_iload_n 59 C dX5_putBack_58 rfl 1 rfl ?_
      refine j_iadd 60 C dX5_putBack_59 rfl ?_
      obtain ⟨hi_14, hq⟩ := hq
      refine j_iald 61 C 15 (f := (f_13 14)) rfl hi_14 dX5_putBack_60 rfl ?_
      obtain ⟨hi_15, hq⟩ := hq
      obtain ⟨f_16, ef_16⟩ : ∃ y : FF, y = fu f_13 8 (wr (f_13 8) x1 ((f_13 14) (((12 : Int32) + x1)).toNatClampNeg)) := ⟨_, rfl⟩
      replace hq := hq f_16 ef_16
      refine j_iast 62 C 9 rfl hi_15 dX5_putBack_61 rfl (ws' := (wE G h f_16 v)) (by subst ef_16; rfl) ?_
      refine j_aload_n 63 C dX5_putBack_62 rfl 0 rfl ?_
      refine j_get 66 C uX5 0 rfl rfl 13 (Nat.le_of_ble_eq_true rfl) lX5_37 (v := .ref (h 10)) rfl dX5_putBack_63 rfl ?_
      refine j_iload_n 67 C dX5_putBack_66 rfl 1 rfl ?_
      refine j_aload_n 68 C dX5_putBack_67 rfl 0 rfl ?_
      refine j_get 71 C uX5 0 rfl rfl 21 (Nat.le_of_ble_eq_true rfl) lX5_52 (v := .ref (h 15)) rfl dX5_putBack_68 rfl ?_
      refine j_bipush 73 C dX5_putBack_71 rfl bc_19 ?_
      refine j_iload_n 74 C dX5_putBack_73 rfl 1 rfl ?_
      refine j_iadd 75 C dX5_putBack_74 rfl ?_
      obtain ⟨hi_17, hq⟩ := hq
      refine j_iald 76 C 15 (f := (f_16 14)) rfl hi_17 dX5_putBack_75 rfl ?_
      obtain ⟨hi_18, hq⟩ := hq
      obtain ⟨f_19, ef_19⟩ : ∃ y : FF, y = fu f_16 9 (wr (f_16 9) x1 ((f_16 14) (((19 : Int32) + x1)).toNatClampNeg)) := ⟨_, rfl⟩
      replace hq := hq f_19 ef_19
      refine j_iast 77 C 10 rfl hi_18 dX5_putBack_76 rfl (ws' := (wE G h f_19 v)) (by subst ef_19; rfl) ?_
      obtain ⟨x_20, ex_20⟩ : ∃ y : Int32, y = (x1 + (1 : Int32)) := ⟨_, rfl⟩
      replace hq := hq x_20 ex_20
      refine j_iinc 80 C dX5_putBack_77 rfl 1 rfl (v := x_20) (by rw [ex_20]; rfl) (Nat.le_of_ble_eq_true rfl) [1, 0] (lv' := [(0, .ref (h 0)), (1, .int x_20)]) rfl ?_
      refine j_goto 27 C dX5_putBack_80 rfl ?_
      refine J.l0 [0, 1] rfl ?_
      exact ih _ _ _ hq
def Q_X5_putBack (f : FF) (v : VV) (post : FF → VV → Prop) : Prop := ∃ n_6 : Nat, Q_X5_putBack_L2 (fun x_7 f_8 v_9 => (∃ n_21 : Nat, Q_X5_putBack_L27 (fun x_22 f_23 v_24 => (post f_23 v_24)) n_21 (0 : Int32) f_8 v_9)) n_6 (0 : Int32) f v
set_option maxRecDepth 100000 in
set_option maxHeartbeats 4000000 in
theorem m_X5_putBack {l : Launch} (G : Gx) (h : Nat → Nat) (f : FF) (v : VV) {post : FF → VV → Prop} (hq : Q_X5_putBack f v post) : MetV l yX5_putBack (gC yX5_putBack cX5_putBack 2 none) rmX5_putBack G [.ref (h 0)] (wE G h) f v post := by
  refine met_v (own := RX5) (by decide) rfl (Nat.le_of_ble_eq_true rfl) (fun κ hκ C hR => ?_)
  unfold Q_X5_putBack at hq
  subst hκ
  show J κ 0 0 (wE G h f v) 0 [(0, .ref (h 0))] []
  refine j_iconst 1 C dX5_putBack_0 rfl ic_0 ?_
  refine j_istore_n 2 C dX5_putBack_1 rfl (Nat.le_of_ble_eq_true rfl) [1, 0] (lv' := [(0, .ref (h 0)), (1, .int (0 : Int32))]) rfl ?_
  obtain ⟨n_6, hq⟩ := hq
  refine t_X5_putBack_L2 C ?_ n_6 _ _ _ hq
  · intro x_7 f_8 v_9 hq
    refine j_iconst 26 C dX5_putBack_25 rfl ic_0 ?_
    refine j_istore_n 27 C dX5_putBack_26 rfl (Nat.le_of_ble_eq_true rfl) [1, 0] (lv' := [(0, .ref (h 0)), (1, .int (0 : Int32))]) rfl ?_
    obtain ⟨n_21, hq⟩ := hq
    refine t_X5_putBack_L27 C ?_ n_21 _ _ _ hq
    · intro x_22 f_23 v_24 hq
      exact hR _ _ _ _ dX5_putBack_83 hq
def Q_X5_does (p0 : Int32) (p1 : Int32) (f : FF) (v : VV) (post : Int32 → FF → VV → Prop) : Prop := (((10 : Int32) ≤ p1 → (∀ x_2 : Int32, x_2 = (p1 - p1 / (10 : Int32) * (10 : Int32)) → (Q_X5_isTest x_2 f v (fun r_3 => (((¬ r_3 = 0 → ((((20 : Int32) ≤ p1 → (vp_in x_2 7 ∧ (∀ f_7 : FF, f_7 = fu f 8 (wr (f 8) x_2 (p0 / (10 : Int32))) → (vp_in x_2 7 ∧ (∀ f_9 : FF, f_9 = fu f_7 9 (wr (f_7 9) x_2 (p0 - p0 / (10 : Int32) * (10 : Int32))) → (post (1 : Int32) f_9 v)))))) ∧ (¬ (20 : Int32) ≤ p1 → (vp_in x_2 7 ∧ (∀ f_11 : FF, f_11 = fu f 7 (wr (f 7) x_2 p0) → (post (1 : Int32) f_11 v))))))) ∧ (r_3 = 0 → (post (0 : Int32) f v)))))))) ∧ (¬ (10 : Int32) ≤ p1 → (Q_X5_isStep p1 f v (fun r_12 => (((¬ r_12 = 0 → (vp_in p1 5 ∧ (∀ f_15 : FF, f_15 = fu f 3 (wr (f 3) p1 p0) → (post (1 : Int32) f_15 v)))) ∧ (r_12 = 0 → (post (0 : Int32) f v))))))))
set_option maxRecDepth 100000 in
set_option maxHeartbeats 4000000 in
theorem m_X5_does {l : Launch} (G : Gx) (h : Nat → Nat) (p0 : Int32) (p1 : Int32) (f : FF) (v : VV) {post : Int32 → FF → VV → Prop} (hq : Q_X5_does p0 p1 f v post) : MetI l yX5_does (gC yX5_does cX5_does 4 (some .boolean)) rmX5_does G [.ref (h 0), .int p0, .int p1] (wE G h) f v post := by
  refine met_z (own := RX5) (by decide) rfl (Nat.le_of_ble_eq_true rfl) (fun κ hκ C hR => ?_)
  unfold Q_X5_does at hq
  subst hκ
  show J κ 0 0 (wE G h f v) 0 [(0, .ref (h 0)), (1, .int p0), (2, .int p1)] []
  refine j_iload_n 1 C dX5_does_0 rfl 2 rfl ?_
  refine j_bipush 3 C dX5_does_1 rfl bc_10 ?_
  refine j_icmp_ge 6 25 C dX5_does_3 rfl rfl (fun c_1 => ?_) (fun c_1 => ?_)
  · replace hq := hq.1 c_1
    refine j_iload_n 26 C dX5_does_25 rfl 2 rfl ?_
    refine j_bipush 28 C dX5_does_26 rfl bc_10 ?_
    refine j_irem 29 C dX5_does_28 rfl (by decide) ?_
    refine J.topi (fun x_2 ex_2 => ?_)
    replace hq := hq x_2 ex_2
    refine j_istore_n 30 C dX5_does_29 rfl (Nat.le_of_ble_eq_true rfl) [1, 2, 3, 0] (lv' := [(0, .ref (h 0)), (1, .int p0), (2, .int p1), (3, .int x_2)]) rfl ?_
    refine j_aload_n 31 C dX5_does_30 rfl 0 rfl ?_
    refine j_iload_n 32 C dX5_does_31 rfl 3 rfl ?_
    refine j_callVi_ro 35 C [] [] (As := [.int x_2]) (m_X5_isTest G h x_2 f v hq) oX5_isTest kX5_156 ⟨rfl, rfl⟩ eX5_isTest ⟨Nat.le_of_ble_eq_true rfl, Nat.le_of_ble_eq_true rfl⟩ ⟨Nat.zero_le _, Nat.zero_le _⟩ (List.append_nil _).symm (fun _ _ => rfl) 0 rfl rfl rfl (Nat.le_of_ble_eq_true rfl) dX5_does_32 rfl (fun r_3 hq => ?_)
    refine j_if_ne 38 40 C dX5_does_35 rfl rfl (fun c_4 => ?_) (fun c_4 => ?_)
    · replace hq := hq.1 c_4
      refine j_iload_n 41 C dX5_does_40 rfl 2 rfl ?_
      refine j_bipush 43 C dX5_does_41 rfl bc_20 ?_
      refine j_icmp_ge 46 56 C dX5_does_43 rfl rfl (fun c_5 => ?_) (fun c_5 => ?_)
      · replace hq := hq.1 c_5
        refine j_aload_n 57 C dX5_does_56 rfl 0 rfl ?_
        refine j_get 60 C uX5 0 rfl rfl 12 (Nat.le_of_ble_eq_true rfl) lX5_34 (v := .ref (h 9)) rfl dX5_does_57 rfl ?_
        refine j_iload_n 61 C dX5_does_60 rfl 3 rfl ?_
        refine j_iload_n 62 C dX5_does_61 rfl 1 rfl ?_
        refine j_bipush 64 C dX5_does_62 rfl bc_10 ?_
        refine j_idiv 65 C dX5_does_64 rfl (by decide) ?_
        obtain ⟨hi_6, hq⟩ := hq
        obtain ⟨f_7, ef_7⟩ : ∃ y : FF, y = fu f 8 (wr (f 8) x_2 (p0 / (10 : Int32))) := ⟨_, rfl⟩
        replace hq := hq f_7 ef_7
        refine j_iast 66 C 9 rfl hi_6 dX5_does_65 rfl (ws' := (wE G h f_7 v)) (by subst ef_7; rfl) ?_
        refine j_aload_n 67 C dX5_does_66 rfl 0 rfl ?_
        refine j_get 70 C uX5 0 rfl rfl 13 (Nat.le_of_ble_eq_true rfl) lX5_37 (v := .ref (h 10)) rfl dX5_does_67 rfl ?_
        refine j_iload_n 71 C dX5_does_70 rfl 3 rfl ?_
        refine j_iload_n 72 C dX5_does_71 rfl 1 rfl ?_
        refine j_bipush 74 C dX5_does_72 rfl bc_10 ?_
        refine j_irem 75 C dX5_does_74 rfl (by decide) ?_
        obtain ⟨hi_8, hq⟩ := hq
        obtain ⟨f_9, ef_9⟩ : ∃ y : FF, y = fu f_7 9 (wr (f_7 9) x_2 (p0 - p0 / (10 : Int32) * (10 : Int32))) := ⟨_, rfl⟩
        replace hq := hq f_9 ef_9
        refine j_iast 76 C 10 rfl hi_8 dX5_does_75 rfl (ws' := (wE G h f_9 v)) (by subst ef_9; rfl) ?_
        refine j_iconst 77 C dX5_does_76 rfl ic_1 ?_
        exact hR _ _ _ f_9 v dX5_does_77 (Or.inr rfl) hq
      · replace hq := hq.2 c_5
        refine j_aload_n 47 C dX5_does_46 rfl 0 rfl ?_
        refine j_get 50 C uX5 0 rfl rfl 11 (Nat.le_of_ble_eq_true rfl) lX5_31 (v := .ref (h 8)) rfl dX5_does_47 rfl ?_
        refine j_iload_n 51 C dX5_does_50 rfl 3 rfl ?_
        refine j_iload_n 52 C dX5_does_51 rfl 1 rfl ?_
        obtain ⟨hi_10, hq⟩ := hq
        obtain ⟨f_11, ef_11⟩ : ∃ y : FF, y = fu f 7 (wr (f 7) x_2 p0) := ⟨_, rfl⟩
        replace hq := hq f_11 ef_11
        refine j_iast 53 C 8 rfl hi_10 dX5_does_52 rfl (ws' := (wE G h f_11 v)) (by subst ef_11; rfl) ?_
        refine j_goto 76 C dX5_does_53 rfl ?_
        refine j_iconst 77 C dX5_does_76 rfl ic_1 ?_
        exact hR _ _ _ f_11 v dX5_does_77 (Or.inr rfl) hq
    · replace hq := hq.2 c_4
      refine j_iconst 39 C dX5_does_38 rfl ic_0 ?_
      exact hR _ _ _ f v dX5_does_39 (Or.inl rfl) hq
  · replace hq := hq.2 c_1
    refine j_aload_n 7 C dX5_does_6 rfl 0 rfl ?_
    refine j_iload_n 8 C dX5_does_7 rfl 2 rfl ?_
    refine j_callVi_ro 11 C [] [] (As := [.int p1]) (m_X5_isStep G h p1 f v hq) oX5_isStep kX5_153 ⟨rfl, rfl⟩ eX5_isStep ⟨Nat.le_of_ble_eq_true rfl, Nat.le_of_ble_eq_true rfl⟩ ⟨Nat.zero_le _, Nat.zero_le _⟩ (List.append_nil _).symm (fun _ _ => rfl) 0 rfl rfl rfl (Nat.le_of_ble_eq_true rfl) dX5_does_8 rfl (fun r_12 hq => ?_)
    refine j_if_ne 14 16 C dX5_does_11 rfl rfl (fun c_13 => ?_) (fun c_13 => ?_)
    · replace hq := hq.1 c_13
      refine j_aload_n 17 C dX5_does_16 rfl 0 rfl ?_
      refine j_get 20 C uX5 0 rfl rfl 7 (Nat.le_of_ble_eq_true rfl) lX5_19 (v := .ref (h 4)) rfl dX5_does_17 rfl ?_
      refine j_iload_n 21 C dX5_does_20 rfl 2 rfl ?_
      refine j_iload_n 22 C dX5_does_21 rfl 1 rfl ?_
      obtain ⟨hi_14, hq⟩ := hq
      obtain ⟨f_15, ef_15⟩ : ∃ y : FF, y = fu f 3 (wr (f 3) p1 p0) := ⟨_, rfl⟩
      replace hq := hq f_15 ef_15
      refine j_iast 23 C 4 rfl hi_14 dX5_does_22 rfl (ws' := (wE G h f_15 v)) (by subst ef_15; rfl) ?_
      refine j_iconst 24 C dX5_does_23 rfl ic_1 ?_
      exact hR _ _ _ f_15 v dX5_does_24 (Or.inr rfl) hq
    · replace hq := hq.2 c_13
      refine j_iconst 15 C dX5_does_14 rfl ic_0 ?_
      exact hR _ _ _ f v dX5_does_15 (Or.inl rfl) hq
def Q_X5_isPair (p0 : Int32) (p1 : Int32) (post : Int32 → Prop) : Prop := Q_X5_within p1 (0 : Int32) (4 : Int32) (fun r_1 => (((r_1 = 0 → (Q_X5_within p1 (10 : Int32) (16 : Int32) (fun r_3 => (((r_3 = 0 → (Q_X5_within p1 (20 : Int32) (26 : Int32) (fun r_5 => (((r_5 = 0 → (post (0 : Int32))) ∧ (¬ r_5 = 0 → (Q_X5_within p0 (0 : Int32) (99 : Int32) (fun r_7 => (((r_7 = 0 → (post (0 : Int32))) ∧ (¬ r_7 = 0 → (post (1 : Int32))))))))))))) ∧ (¬ r_3 = 0 → (Q_X5_within p0 (1 : Int32) (9 : Int32) (fun r_9 => (((¬ r_9 = 0 → (post (1 : Int32))) ∧ (r_9 = 0 → (Q_X5_within p1 (20 : Int32) (26 : Int32) (fun r_11 => (((r_11 = 0 → (post (0 : Int32))) ∧ (¬ r_11 = 0 → (Q_X5_within p0 (0 : Int32) (99 : Int32) (fun r_13 => (((r_13 = 0 → (post (0 : Int32))) ∧ (¬ r_13 = 0 → (post (1 : Int32))))))))))))))))))))))) ∧ (¬ r_1 = 0 → (Q_X5_within p0 (0 : Int32) (4 : Int32) (fun r_15 => (((¬ r_15 = 0 → (post (1 : Int32))) ∧ (r_15 = 0 → (Q_X5_within p1 (10 : Int32) (16 : Int32) (fun r_17 => (((r_17 = 0 → (Q_X5_within p1 (20 : Int32) (26 : Int32) (fun r_19 => (((r_19 = 0 → (post (0 : Int32))) ∧ (¬ r_19 = 0 → (Q_X5_within p0 (0 : Int32) (99 : Int32) (fun r_21 => (((r_21 = 0 → (post (0 : Int32))) ∧ (¬ r_21 = 0 → (post (1 : Int32))))))))))))) ∧ (¬ r_17 = 0 → (Q_X5_within p0 (1 : Int32) (9 : Int32) (fun r_23 => (((¬ r_23 = 0 → (post (1 : Int32))) ∧ (r_23 = 0 → (Q_X5_within p1 (20 : Int32) (26 : Int32) (fun r_25 => (((r_25 = 0 → (post (0 : Int32))) ∧ (¬ r_25 = 0 → (Q_X5_within p0 (0 : Int32) (99 : Int32) (fun r_27 => (((r_27 = 0 → (post (0 : Int32))) ∧ (¬ r_27 = 0 → (post (1 : Int32)))))))))))))))))))))))))))))))
set_option maxRecDepth 100000 in
set_option maxHeartbeats 4000000 in
theorem m_X5_isPair {l : Launch} (G : Gx) (p0 : Int32) (p1 : Int32) {post : Int32 → Prop} (hq : Q_X5_isPair p0 p1 post) : MetI l yX5_isPair (gC yX5_isPair cX5_isPair 2 (some .boolean)) rmX5_isPair G [.int p0, .int p1] w0 f0 v0 (fun r _ _ => post r) := by
  refine met_z (own := RX5) (by decide) rfl (Nat.le_of_ble_eq_true rfl) (fun κ hκ C hR => ?_)
  unfold Q_X5_isPair at hq
  subst hκ
  show J κ 0 0 [] 0 [(0, .int p0), (1, .int p1)] []
  refine j_iload_n 1 C dX5_isPair_0 rfl 1 rfl ?_
  refine j_iconst 2 C dX5_isPair_1 rfl ic_0 ?_
  refine j_iconst 3 C dX5_isPair_2 rfl ic_4 ?_
  refine j_callSi 6 C [] [] (fun _ _ => []) (As := [.int p1, .int (0 : Int32), .int (4 : Int32)]) (m_X5_within G p1 (0 : Int32) (4 : Int32) hq) oX5_within kX5_67 ⟨rfl, rfl⟩ eX5_within ⟨Nat.le_of_ble_eq_true rfl, Nat.le_of_ble_eq_true rfl⟩ ⟨Nat.zero_le _, Nat.zero_le _⟩ rfl (fun _ _ => rfl) (fun _ _ => rfl) rfl (Nat.le_of_ble_eq_true rfl) dX5_isPair_3 rfl (fun r_1 _ _ hq => ?_)
  refine j_if_eq 9 18 C dX5_isPair_6 rfl rfl (fun c_2 => ?_) (fun c_2 => ?_)
  · replace hq := hq.1 c_2
    refine j_iload_n 19 C dX5_isPair_18 rfl 1 rfl ?_
    refine j_bipush 21 C dX5_isPair_19 rfl bc_10 ?_
    refine j_bipush 23 C dX5_isPair_21 rfl bc_16 ?_
    refine j_callSi 26 C [] [] (fun _ _ => []) (As := [.int p1, .int (10 : Int32), .int (16 : Int32)]) (m_X5_within G p1 (10 : Int32) (16 : Int32) hq) oX5_within kX5_67 ⟨rfl, rfl⟩ eX5_within ⟨Nat.le_of_ble_eq_true rfl, Nat.le_of_ble_eq_true rfl⟩ ⟨Nat.zero_le _, Nat.zero_le _⟩ rfl (fun _ _ => rfl) (fun _ _ => rfl) rfl (Nat.le_of_ble_eq_true rfl) dX5_isPair_23 rfl (fun r_3 _ _ hq => ?_)
    refine j_if_eq 29 39 C dX5_isPair_26 rfl rfl (fun c_4 => ?_) (fun c_4 => ?_)
    · replace hq := hq.1 c_4
      refine j_iload_n 40 C dX5_isPair_39 rfl 1 rfl ?_
      refine j_bipush 42 C dX5_isPair_40 rfl bc_20 ?_
      refine j_bipush 44 C dX5_isPair_42 rfl bc_26 ?_
      refine j_callSi 47 C [] [] (fun _ _ => []) (As := [.int p1, .int (20 : Int32), .int (26 : Int32)]) (m_X5_within G p1 (20 : Int32) (26 : Int32) hq) oX5_within kX5_67 ⟨rfl, rfl⟩ eX5_within ⟨Nat.le_of_ble_eq_true rfl, Nat.le_of_ble_eq_true rfl⟩ ⟨Nat.zero_le _, Nat.zero_le _⟩ rfl (fun _ _ => rfl) (fun _ _ => rfl) rfl (Nat.le_of_ble_eq_true rfl) dX5_isPair_44 rfl (fun r_5 _ _ hq => ?_)
      refine j_if_eq 50 64 C dX5_isPair_47 rfl rfl (fun c_6 => ?_) (fun c_6 => ?_)
      · replace hq := hq.1 c_6
        refine j_iconst 65 C dX5_isPair_64 rfl ic_0 ?_
        exact hR _ _ _ f0 v0 dX5_isPair_65 (Or.inl rfl) hq
      · replace hq := hq.2 c_6
        refine j_iload_n 51 C dX5_isPair_50 rfl 0 rfl ?_
        refine j_iconst 52 C dX5_isPair_51 rfl ic_0 ?_
        refine j_bipush 54 C dX5_isPair_52 rfl bc_99 ?_
        refine j_callSi 57 C [] [] (fun _ _ => []) (As := [.int p0, .int (0 : Int32), .int (99 : Int32)]) (m_X5_within G p0 (0 : Int32) (99 : Int32) hq) oX5_within kX5_67 ⟨rfl, rfl⟩ eX5_within ⟨Nat.le_of_ble_eq_true rfl, Nat.le_of_ble_eq_true rfl⟩ ⟨Nat.zero_le _, Nat.zero_le _⟩ rfl (fun _ _ => rfl) (fun _ _ => rfl) rfl (Nat.le_of_ble_eq_true rfl) dX5_isPair_54 rfl (fun r_7 _ _ hq => ?_)
        refine j_if_eq 60 64 C dX5_isPair_57 rfl rfl (fun c_8 => ?_) (fun c_8 => ?_)
        · replace hq := hq.1 c_8
          refine j_iconst 65 C dX5_isPair_64 rfl ic_0 ?_
          exact hR _ _ _ f0 v0 dX5_isPair_65 (Or.inl rfl) hq
        · replace hq := hq.2 c_8
          refine j_iconst 61 C dX5_isPair_60 rfl ic_1 ?_
          refine j_goto 65 C dX5_isPair_61 rfl ?_
          exact hR _ _ _ f0 v0 dX5_isPair_65 (Or.inr rfl) hq
    · replace hq := hq.2 c_4
      refine j_iload_n 30 C dX5_isPair_29 rfl 0 rfl ?_
      refine j_iconst 31 C dX5_isPair_30 rfl ic_1 ?_
      refine j_bipush 33 C dX5_isPair_31 rfl bc_9 ?_
      refine j_callSi 36 C [] [] (fun _ _ => []) (As := [.int p0, .int (1 : Int32), .int (9 : Int32)]) (m_X5_within G p0 (1 : Int32) (9 : Int32) hq) oX5_within kX5_67 ⟨rfl, rfl⟩ eX5_within ⟨Nat.le_of_ble_eq_true rfl, Nat.le_of_ble_eq_true rfl⟩ ⟨Nat.zero_le _, Nat.zero_le _⟩ rfl (fun _ _ => rfl) (fun _ _ => rfl) rfl (Nat.le_of_ble_eq_true rfl) dX5_isPair_33 rfl (fun r_9 _ _ hq => ?_)
      refine j_if_ne 39 60 C dX5_isPair_36 rfl rfl (fun c_10 => ?_) (fun c_10 => ?_)
      · replace hq := hq.1 c_10
        refine j_iconst 61 C dX5_isPair_60 rfl ic_1 ?_
        refine j_goto 65 C dX5_isPair_61 rfl ?_
        exact hR _ _ _ f0 v0 dX5_isPair_65 (Or.inr rfl) hq
      · replace hq := hq.2 c_10
        refine j_iload_n 40 C dX5_isPair_39 rfl 1 rfl ?_
        refine j_bipush 42 C dX5_isPair_40 rfl bc_20 ?_
        refine j_bipush 44 C dX5_isPair_42 rfl bc_26 ?_
        refine j_callSi 47 C [] [] (fun _ _ => []) (As := [.int p1, .int (20 : Int32), .int (26 : Int32)]) (m_X5_within G p1 (20 : Int32) (26 : Int32) hq) oX5_within kX5_67 ⟨rfl, rfl⟩ eX5_within ⟨Nat.le_of_ble_eq_true rfl, Nat.le_of_ble_eq_true rfl⟩ ⟨Nat.zero_le _, Nat.zero_le _⟩ rfl (fun _ _ => rfl) (fun _ _ => rfl) rfl (Nat.le_of_ble_eq_true rfl) dX5_isPair_44 rfl (fun r_11 _ _ hq => ?_)
        refine j_if_eq 50 64 C dX5_isPair_47 rfl rfl (fun c_12 => ?_) (fun c_12 => ?_)
        · replace hq := hq.1 c_12
          refine j_iconst 65 C dX5_isPair_64 rfl ic_0 ?_
          exact hR _ _ _ f0 v0 dX5_isPair_65 (Or.inl rfl) hq
        · replace hq := hq.2 c_12
          refine j_iload_n 51 C dX5_isPair_50 rfl 0 rfl ?_
          refine j_iconst 52 C dX5_isPair_51 rfl ic_0 ?_
          refine j_bipush 54 C dX5_isPair_52 rfl bc_99 ?_
          refine j_callSi 57 C [] [] (fun _ _ => []) (As := [.int p0, .int (0 : Int32), .int (99 : Int32)]) (m_X5_within G p0 (0 : Int32) (99 : Int32) hq) oX5_within kX5_67 ⟨rfl, rfl⟩ eX5_within ⟨Nat.le_of_ble_eq_true rfl, Nat.le_of_ble_eq_true rfl⟩ ⟨Nat.zero_le _, Nat.zero_le _⟩ rfl (fun _ _ => rfl) (fun _ _ => rfl) rfl (Nat.le_of_ble_eq_true rfl) dX5_isPair_54 rfl (fun r_13 _ _ hq => ?_)
          refine j_if_eq 60 64 C dX5_isPair_57 rfl rfl (fun c_14 => ?_) (fun c_14 => ?_)
          · replace hq := hq.1 c_14
            refine j_iconst 65 C dX5_isPair_64 rfl ic_0 ?_
            exact hR _ _ _ f0 v0 dX5_isPair_65 (Or.inl rfl) hq
          · replace hq := hq.2 c_14
            refine j_iconst 61 C dX5_isPair_60 rfl ic_1 ?_
            refine j_goto 65 C dX5_isPair_61 rfl ?_
            exact hR _ _ _ f0 v0 dX5_isPair_65 (Or.inr rfl) hq
  · replace hq := hq.2 c_2
    refine j_iload_n 10 C dX5_isPair_9 rfl 0 rfl ?_
    refine j_iconst 11 C dX5_isPair_10 rfl ic_0 ?_
    refine j_iconst 12 C dX5_isPair_11 rfl ic_4 ?_
    refine j_callSi 15 C [] [] (fun _ _ => []) (As := [.int p0, .int (0 : Int32), .int (4 : Int32)]) (m_X5_within G p0 (0 : Int32) (4 : Int32) hq) oX5_within kX5_67 ⟨rfl, rfl⟩ eX5_within ⟨Nat.le_of_ble_eq_true rfl, Nat.le_of_ble_eq_true rfl⟩ ⟨Nat.zero_le _, Nat.zero_le _⟩ rfl (fun _ _ => rfl) (fun _ _ => rfl) rfl (Nat.le_of_ble_eq_true rfl) dX5_isPair_12 rfl (fun r_15 _ _ hq => ?_)
    refine j_if_ne 18 60 C dX5_isPair_15 rfl rfl (fun c_16 => ?_) (fun c_16 => ?_)
    · replace hq := hq.1 c_16
      refine j_iconst 61 C dX5_isPair_60 rfl ic_1 ?_
      refine j_goto 65 C dX5_isPair_61 rfl ?_
      exact hR _ _ _ f0 v0 dX5_isPair_65 (Or.inr rfl) hq
    · replace hq := hq.2 c_16
      refine j_iload_n 19 C dX5_isPair_18 rfl 1 rfl ?_
      refine j_bipush 21 C dX5_isPair_19 rfl bc_10 ?_
      refine j_bipush 23 C dX5_isPair_21 rfl bc_16 ?_
      refine j_callSi 26 C [] [] (fun _ _ => []) (As := [.int p1, .int (10 : Int32), .int (16 : Int32)]) (m_X5_within G p1 (10 : Int32) (16 : Int32) hq) oX5_within kX5_67 ⟨rfl, rfl⟩ eX5_within ⟨Nat.le_of_ble_eq_true rfl, Nat.le_of_ble_eq_true rfl⟩ ⟨Nat.zero_le _, Nat.zero_le _⟩ rfl (fun _ _ => rfl) (fun _ _ => rfl) rfl (Nat.le_of_ble_eq_true rfl) dX5_isPair_23 rfl (fun r_17 _ _ hq => ?_)
      refine j_if_eq 29 39 C dX5_isPair_26 rfl rfl (fun c_18 => ?_) (fun c_18 => ?_)
      · replace hq := hq.1 c_18
        refine j_iload_n 40 C dX5_isPair_39 rfl 1 rfl ?_
        refine j_bipush 42 C dX5_isPair_40 rfl bc_20 ?_
        refine j_bipush 44 C dX5_isPair_42 rfl bc_26 ?_
        refine j_callSi 47 C [] [] (fun _ _ => []) (As := [.int p1, .int (20 : Int32), .int (26 : Int32)]) (m_X5_within G p1 (20 : Int32) (26 : Int32) hq) oX5_within kX5_67 ⟨rfl, rfl⟩ eX5_within ⟨Nat.le_of_ble_eq_true rfl, Nat.le_of_ble_eq_true rfl⟩ ⟨Nat.zero_le _, Nat.zero_le _⟩ rfl (fun _ _ => rfl) (fun _ _ => rfl) rfl (Nat.le_of_ble_eq_true rfl) dX5_isPair_44 rfl (fun r_19 _ _ hq => ?_)
        refine j_if_eq 50 64 C dX5_isPair_47 rfl rfl (fun c_20 => ?_) (fun c_20 => ?_)
        · replace hq := hq.1 c_20
          refine j_iconst 65 C dX5_isPair_64 rfl ic_0 ?_
          exact hR _ _ _ f0 v0 dX5_isPair_65 (Or.inl rfl) hq
        · replace hq := hq.2 c_20
          refine j_iload_n 51 C dX5_isPair_50 rfl 0 rfl ?_
          refine j_iconst 52 C dX5_isPair_51 rfl ic_0 ?_
          refine j_bipush 54 C dX5_isPair_52 rfl bc_99 ?_
          refine j_callSi 57 C [] [] (fun _ _ => []) (As := [.int p0, .int (0 : Int32), .int (99 : Int32)]) (m_X5_within G p0 (0 : Int32) (99 : Int32) hq) oX5_within kX5_67 ⟨rfl, rfl⟩ eX5_within ⟨Nat.le_of_ble_eq_true rfl, Nat.le_of_ble_eq_true rfl⟩ ⟨Nat.zero_le _, Nat.zero_le _⟩ rfl (fun _ _ => rfl) (fun _ _ => rfl) rfl (Nat.le_of_ble_eq_true rfl) dX5_isPair_54 rfl (fun r_21 _ _ hq => ?_)
          refine j_if_eq 60 64 C dX5_isPair_57 rfl rfl (fun c_22 => ?_) (fun c_22 => ?_)
          · replace hq := hq.1 c_22
            refine j_iconst 65 C dX5_isPair_64 rfl ic_0 ?_
            exact hR _ _ _ f0 v0 dX5_isPair_65 (Or.inl rfl) hq
          · replace hq := hq.2 c_22
            refine j_iconst 61 C dX5_isPair_60 rfl ic_1 ?_
            refine j_goto 65 C dX5_isPair_61 rfl ?_
            exact hR _ _ _ f0 v0 dX5_isPair_65 (Or.inr rfl) hq
      · replace hq := hq.2 c_18
        refine j_iload_n 30 C dX5_isPair_29 rfl 0 rfl ?_
        refine j_iconst 31 C dX5_isPair_30 rfl ic_1 ?_
        refine j_bipush 33 C dX5_isPair_31 rfl bc_9 ?_
        refine j_callSi 36 C [] [] (fun _ _ => []) (As := [.int p0, .int (1 : Int32), .int (9 : Int32)]) (m_X5_within G p0 (1 : Int32) (9 : Int32) hq) oX5_within kX5_67 ⟨rfl, rfl⟩ eX5_within ⟨Nat.le_of_ble_eq_true rfl, Nat.le_of_ble_eq_true rfl⟩ ⟨Nat.zero_le _, Nat.zero_le _⟩ rfl (fun _ _ => rfl) (fun _ _ => rfl) rfl (Nat.le_of_ble_eq_true rfl) dX5_isPair_33 rfl (fun r_23 _ _ hq => ?_)
        refine j_if_ne 39 60 C dX5_isPair_36 rfl rfl (fun c_24 => ?_) (fun c_24 => ?_)
        · replace hq := hq.1 c_24
          refine j_iconst 61 C dX5_isPair_60 rfl ic_1 ?_
          refine j_goto 65 C dX5_isPair_61 rfl ?_
          exact hR _ _ _ f0 v0 dX5_isPair_65 (Or.inr rfl) hq
        · replace hq := hq.2 c_24
          refine j_iload_n 40 C dX5_isPair_39 rfl 1 rfl ?_
          refine j_bipush 42 C dX5_isPair_40 rfl bc_20 ?_
          refine j_bipush 44 C dX5_isPair_42 rfl bc_26 ?_
          refine j_callSi 47 C [] [] (fun _ _ => []) (As := [.int p1, .int (20 : Int32), .int (26 : Int32)]) (m_X5_within G p1 (20 : Int32) (26 : Int32) hq) oX5_within kX5_67 ⟨rfl, rfl⟩ eX5_within ⟨Nat.le_of_ble_eq_true rfl, Nat.le_of_ble_eq_true rfl⟩ ⟨Nat.zero_le _, Nat.zero_le _⟩ rfl (fun _ _ => rfl) (fun _ _ => rfl) rfl (Nat.le_of_ble_eq_true rfl) dX5_isPair_44 rfl (fun r_25 _ _ hq => ?_)
          refine j_if_eq 50 64 C dX5_isPair_47 rfl rfl (fun c_26 => ?_) (fun c_26 => ?_)
          · replace hq := hq.1 c_26
            refine j_iconst 65 C dX5_isPair_64 rfl ic_0 ?_
            exact hR _ _ _ f0 v0 dX5_isPair_65 (Or.inl rfl) hq
          · replace hq := hq.2 c_26
            refine j_iload_n 51 C dX5_isPair_50 rfl 0 rfl ?_
            refine j_iconst 52 C dX5_isPair_51 rfl ic_0 ?_
            refine j_bipush 54 C dX5_isPair_52 rfl bc_99 ?_
            refine j_callSi 57 C [] [] (fun _ _ => []) (As := [.int p0, .int (0 : Int32), .int (99 : Int32)]) (m_X5_within G p0 (0 : Int32) (99 : Int32) hq) oX5_within kX5_67 ⟨rfl, rfl⟩ eX5_within ⟨Nat.le_of_ble_eq_true rfl, Nat.le_of_ble_eq_true rfl⟩ ⟨Nat.zero_le _, Nat.zero_le _⟩ rfl (fun _ _ => rfl) (fun _ _ => rfl) rfl (Nat.le_of_ble_eq_true rfl) dX5_isPair_54 rfl (fun r_27 _ _ hq => ?_)
            refine j_if_eq 60 64 C dX5_isPair_57 rfl rfl (fun c_28 => ?_) (fun c_28 => ?_)
            · replace hq := hq.1 c_28
              refine j_iconst 65 C dX5_isPair_64 rfl ic_0 ?_
              exact hR _ _ _ f0 v0 dX5_isPair_65 (Or.inl rfl) hq
            · replace hq := hq.2 c_28
              refine j_iconst 61 C dX5_isPair_60 rfl ic_1 ?_
              refine j_goto 65 C dX5_isPair_61 rfl ?_
              exact hR _ _ _ f0 v0 dX5_isPair_65 (Or.inr rfl) hq
def Q_X5_goDay_L2 (x1 : Int32) (x2 : Int32) (K36 : Int32 → FF → VV → Prop) (K44 : Int32 → FF → VV → Prop) : Nat → Int32 → FF → VV → Prop
  | 0, _, _, _ => False
  | n + 1, x3, f, v => ((x2 ≤ x3 → (K44 x3 f v)) ∧ (¬ x2 ≤ x3 → (vp_in (x1 + ((2 : Int32) * x3)) 240 ∧ (vp_in ((x1 + ((2 : Int32) * x3)) + (1 : Int32)) 240 ∧ (Q_X5_does ((f 2) ((x1 + ((2 : Int32) * x3))).toNatClampNeg) ((f 2) (((x1 + ((2 : Int32) * x3)) + (1 : Int32))).toNatClampNeg) f v (fun r_4 f_5 v_6 => (((¬ r_4 = 0 → (∀ x_8 : Int32, x_8 = (x3 + (1 : Int32)) → (Q_X5_goDay_L2 x1 x2 K36 K44 n x_8 f_5 v_6))) ∧ (r_4 = 0 → (K36 x3 f_5 v_6))))))))))
set_option maxRecDepth 100000 in
set_option maxHeartbeats 4000000 in
theorem t_X5_goDay_L2 {κ : Kx} {G : Gx} {h : Nat → Nat} (C : Cx κ G RX5 cX5_goDay rmX5_goDay 4) {x1 : Int32} {x2 : Int32} {K36 : Int32 → FF → VV → Prop} {K44 : Int32 → FF → VV → Prop} (hK36 : ∀ (x3 : Int32) (f : FF) (v : VV), K36 x3 f v → J κ 0 0 (wE G h f v) 36 [(0, .ref (h 0)), (1, .int x1), (2, .int x2), (3, .int x3)] []) (hK44 : ∀ (x3 : Int32) (f : FF) (v : VV), K44 x3 f v → J κ 0 0 (wE G h f v) 44 [(0, .ref (h 0)), (1, .int x1), (2, .int x2), (3, .int x3)] []) : ∀ (n : Nat) (x3 : Int32) (f : FF) (v : VV), Q_X5_goDay_L2 x1 x2 K36 K44 n x3 f v → J κ 0 0 (wE G h f v) 2 [(0, .ref (h 0)), (1, .int x1), (2, .int x2), (3, .int x3)] [] := by
  intro n
  induction n with
  | zero => intro x3 f v hq; exact False.elim hq
  | succ n ih =>
    intro x3 f v hq
    rw [Q_X5_goDay_L2] at hq
    refine j_iload_n 3 C dX5_goDay_2 rfl 3 rfl ?_
    refine j_iload_n 4 C dX5_goDay_3 rfl 2 rfl ?_
    refine j_icmp_ge 7 44 C dX5_goDay_4 rfl rfl (fun c_1 => ?_) (fun c_1 => ?_)
    · replace hq := hq.1 c_1
      refine J.l0 [0, 1, 2, 3] rfl ?_
      exact hK44 _ _ _ hq
    · replace hq := hq.2 c_1
      refine j_aload_n 8 C dX5_goDay_7 rfl 0 rfl ?_
      refine j_aload_n 9 C dX5_goDay_8 rfl 0 rfl ?_
      refine j_get 12 C uX5 0 rfl rfl 4 (Nat.le_of_ble_eq_true rfl) lX5_16 (v := .ref (h 3)) rfl dX5_goDay_9 rfl ?_
      refine j_iload_n 13 C dX5_goDay_12 rfl 1 rfl ?_
      refine j_iconst 14 C dX5_goDay_13 rfl ic_2 ?_
      refine j_iload_n 15 C dX5_goDay_14 rfl 3 rfl ?_
      refine j_imul 16 C dX5_goDay_15 rfl ?_
      refine j_iadd 17 C dX5_goDay_16 rfl ?_
      obtain ⟨hi_2, hq⟩ := hq
      refine j_iald 18 C 3 (f := (f 2)) rfl hi_2 dX5_goDay_17 rfl ?_
      refine j_aload_n 19 C dX5_goDay_18 rfl 0 rfl ?_
      refine j_get 22 C uX5 0 rfl rfl 4 (Nat.le_of_ble_eq_true rfl) lX5_16 (v := .ref (h 3)) rfl dX5_goDay_19 rfl ?_
      refine j_iload_n 23 C dX5_goDay_22 rfl 1 rfl ?_
      refine j_iconst 24 C dX5_goDay_23 rfl ic_2 ?_
      refine j_iload_n 25 C dX5_goDay_24 rfl 3 rfl ?_
      refine j_imul 26 C dX5_goDay_25 rfl ?_
      refine j_iadd 27 C dX5_goDay_26 rfl ?_
      refine j_iconst 28 C dX5_goDay_27 rfl ic_1 ?_
      refine j_iadd 29 C dX5_goDay_28 rfl ?_
      obtain ⟨hi_3, hq⟩ := hq
      refine j_iald 30 C 3 (f := (f 2)) rfl hi_3 dX5_goDay_29 rfl ?_
      refine j_callVi 33 C [] [] (fun f' v' => (wE G h f' v')) (As := [.int ((f 2) ((x1 + ((2 : Int32) * x3))).toNatClampNeg), .int ((f 2) (((x1 + ((2 : Int32) * x3)) + (1 : Int32))).toNatClampNeg)]) (m_X5_does G h ((f 2) ((x1 + ((2 : Int32) * x3))).toNatClampNeg) ((f 2) (((x1 + ((2 : Int32) * x3)) + (1 : Int32))).toNatClampNeg) f v hq) oX5_does kX5_186 ⟨rfl, rfl⟩ eX5_does ⟨Nat.le_of_ble_eq_true rfl, Nat.le_of_ble_eq_true rfl⟩ ⟨Nat.zero_le _, Nat.zero_le _⟩ (List.append_nil _).symm (fun _ _ => List.append_nil _) (fun _ _ => rfl) 0 rfl rfl rfl (Nat.le_of_ble_eq_true rfl) dX5_goDay_30 rfl (fun r_4 f_5 v_6 hq => ?_)
      refine j_if_ne 36 38 C dX5_goDay_33 rfl rfl (fun c_7 => ?_) (fun c_7 => ?_)
      · replace hq := hq.1 c_7
        obtain ⟨x_8, ex_8⟩ : ∃ y : Int32, y = (x3 + (1 : Int32)) := ⟨_, rfl⟩
        replace hq := hq x_8 ex_8
        refine j_iinc 41 C dX5_goDay_38 rfl 3 rfl (v := x_8) (by rw [ex_8]; rfl) (Nat.le_of_ble_eq_true rfl) [1, 2, 3, 0] (lv' := [(0, .ref (h 0)), (1, .int x1), (2, .int x2), (3, .int x_8)]) rfl ?_
        refine j_goto 2 C dX5_goDay_41 rfl ?_
        refine J.l0 [0, 1, 2, 3] rfl ?_
        exact ih _ _ _ hq
      · replace hq := hq.2 c_7
        refine J.l0 [0, 1, 2, 3] rfl ?_
        exact hK36 _ _ _ hq
def Q_X5_goDay (p0 : Int32) (p1 : Int32) (f : FF) (v : VV) (post : Int32 → FF → VV → Prop) : Prop := ∃ n_9 : Nat, Q_X5_goDay_L2 p0 p1 (fun x_10 f_11 v_12 => (post x_10 f_11 v_12)) (fun x_13 f_14 v_15 => (post (-9 : Int32) f_14 v_15)) n_9 (0 : Int32) f v
set_option maxRecDepth 100000 in
set_option maxHeartbeats 4000000 in
theorem m_X5_goDay {l : Launch} (G : Gx) (h : Nat → Nat) (p0 : Int32) (p1 : Int32) (f : FF) (v : VV) {post : Int32 → FF → VV → Prop} (hq : Q_X5_goDay p0 p1 f v post) : MetI l yX5_goDay (gC yX5_goDay cX5_goDay 4 (some .int)) rmX5_goDay G [.ref (h 0), .int p0, .int p1] (wE G h) f v post := by
  refine met_i (own := RX5) (by decide) rfl (Nat.le_of_ble_eq_true rfl) (fun κ hκ C hR => ?_)
  unfold Q_X5_goDay at hq
  subst hκ
  show J κ 0 0 (wE G h f v) 0 [(0, .ref (h 0)), (1, .int p0), (2, .int p1)] []
  refine j_iconst 1 C dX5_goDay_0 rfl ic_0 ?_
  refine j_istore_n 2 C dX5_goDay_1 rfl (Nat.le_of_ble_eq_true rfl) [1, 2, 3, 0] (lv' := [(0, .ref (h 0)), (1, .int p0), (2, .int p1), (3, .int (0 : Int32))]) rfl ?_
  obtain ⟨n_9, hq⟩ := hq
  refine t_X5_goDay_L2 C ?_ ?_ n_9 _ _ _ hq
  · intro x_10 f_11 v_12 hq
    refine j_iload_n 37 C dX5_goDay_36 rfl 3 rfl ?_
    exact hR _ _ _ f_11 v_12 dX5_goDay_37 hq
  · intro x_13 f_14 v_15 hq
    refine j_bipush 46 C dX5_goDay_44 rfl bc_m9 ?_
    exact hR _ _ _ f_14 v_15 dX5_goDay_46 hq
def Q_X5_leftBy_L4 (f : FF) (v : VV) (x1 : Int32) (K48 : Int32 → Int32 → Prop) : Nat → Int32 → Int32 → Prop
  | 0, _, _ => False
  | n + 1, x2, x3 => Q_X5_mutants  f v (fun r_1 => (((r_1 ≤ x3 → (K48 x2 x3)) ∧ (¬ r_1 ≤ x3 → (vp_in x3 20 ∧ (((((f 13) (x3).toNatClampNeg) = 0 → (∀ x_5 : Int32, x_5 = (x2 ||| (0 : Int32)) → (∀ x_6 : Int32, x_6 = (x3 + (1 : Int32)) → (Q_X5_leftBy_L4 f v x1 K48 n x_5 x_6)))) ∧ (¬ ((f 13) (x3).toNatClampNeg) = 0 → (vp_in x3 20 ∧ (((¬ (((f 13) (x3).toNatClampNeg) &&& x1) = 0 → (∀ x_9 : Int32, x_9 = (x2 ||| (0 : Int32)) → (∀ x_10 : Int32, x_10 = (x3 + (1 : Int32)) → (Q_X5_leftBy_L4 f v x1 K48 n x_9 x_10)))) ∧ ((((f 13) (x3).toNatClampNeg) &&& x1) = 0 → (∀ x_11 : Int32, x_11 = (x2 ||| ((1 : Int32) <<< (x3 &&& 31))) → (∀ x_12 : Int32, x_12 = (x3 + (1 : Int32)) → (Q_X5_leftBy_L4 f v x1 K48 n x_11 x_12)))))))))))))))
set_option maxRecDepth 100000 in
set_option maxHeartbeats 4000000 in
theorem t_X5_leftBy_L4 {κ : Kx} {G : Gx} {h : Nat → Nat} (C : Cx κ G RX5 cX5_leftBy rmX5_leftBy 4) {f : FF} {v : VV} {x1 : Int32} {K48 : Int32 → Int32 → Prop} (hK48 : ∀ (x2 : Int32) (x3 : Int32), K48 x2 x3 → J κ 0 0 (wE G h f v) 48 [(0, .ref (h 0)), (1, .int x1), (2, .int x2), (3, .int x3)] []) : ∀ (n : Nat) (x2 : Int32) (x3 : Int32), Q_X5_leftBy_L4 f v x1 K48 n x2 x3 → J κ 0 0 (wE G h f v) 4 [(0, .ref (h 0)), (1, .int x1), (2, .int x2), (3, .int x3)] [] := by
  intro n
  induction n with
  | zero => intro x2 x3 hq; exact False.elim hq
  | succ n ih =>
    intro x2 x3 hq
    rw [Q_X5_leftBy_L4] at hq
    refine j_iload_n 5 C dX5_leftBy_4 rfl 3 rfl ?_
    refine j_aload_n 6 C dX5_leftBy_5 rfl 0 rfl ?_
    refine j_callVi_ro 9 C [] [] (As := []) (m_X5_mutants G h f v hq) oX5_mutants kX5_77 ⟨rfl, rfl⟩ eX5_mutants ⟨Nat.le_of_ble_eq_true rfl, Nat.le_of_ble_eq_true rfl⟩ ⟨Nat.zero_le _, Nat.zero_le _⟩ (List.append_nil _).symm (fun _ _ => rfl) 0 rfl rfl rfl (Nat.le_of_ble_eq_true rfl) dX5_leftBy_6 rfl (fun r_1 hq => ?_)
    refine j_icmp_ge 12 48 C dX5_leftBy_9 rfl rfl (fun c_2 => ?_) (fun c_2 => ?_)
    · replace hq := hq.1 c_2
      refine J.l0 [0, 1, 2, 3] rfl ?_
      exact hK48 _ _ hq
    · replace hq := hq.2 c_2
      refine j_iload_n 13 C dX5_leftBy_12 rfl 2 rfl ?_
      refine j_aload_n 14 C dX5_leftBy_13 rfl 0 rfl ?_
      refine j_get 17 C uX5 0 rfl rfl 20 (Nat.le_of_ble_eq_true rfl) lX5_49 (v := .ref (h 14)) rfl dX5_leftBy_14 rfl ?_
      refine j_iload_n 18 C dX5_leftBy_17 rfl 3 rfl ?_
      obtain ⟨hi_3, hq⟩ := hq
      refine j_iald 19 C 14 (f := (f 13)) rfl hi_3 dX5_leftBy_18 rfl ?_
      refine j_if_eq 22 39 C dX5_leftBy_19 rfl rfl (fun c_4 => ?_) (fun c_4 => ?_)
      · replace hq := hq.1 c_4
        refine j_iconst 40 C dX5_leftBy_39 rfl ic_0 ?_
        refine j_ior 41 C dX5_leftBy_40 rfl ?_
        refine J.topi (fun x_5 ex_5 => ?_)
        replace hq := hq x_5 ex_5
        refine j_istore_n 42 C dX5_leftBy_41 rfl (Nat.le_of_ble_eq_true rfl) [1, 2, 0, 3] (lv' := [(0, .ref (h 0)), (1, .int x1), (2, .int x_5), (3, .int x3)]) rfl ?_
        obtain ⟨x_6, ex_6⟩ : ∃ y : Int32, y = (x3 + (1 : Int32)) := ⟨_, rfl⟩
        replace hq := hq x_6 ex_6
        refine j_iinc 45 C dX5_leftBy_42 rfl 3 rfl (v := x_6) (by rw [ex_6]; rfl) (Nat.le_of_ble_eq_true rfl) [1, 2, 3, 0] (lv' := [(0, .ref (h 0)), (1, .int x1), (2, .int x_5), (3, .int x_6)]) rfl ?_
        refine j_goto 4 C dX5_leftBy_45 rfl ?_
        refine J.l0 [0, 1, 2, 3] rfl ?_
        exact ih _ _ hq
      · replace hq := hq.2 c_4
        refine j_aload_n 23 C dX5_leftBy_22 rfl 0 rfl ?_
        refine j_get 26 C uX5 0 rfl rfl 20 (Nat.le_of_ble_eq_true rfl) lX5_49 (v := .ref (h 14)) rfl dX5_leftBy_23 rfl ?_
        refine j_iload_n 27 C dX5_leftBy_26 rfl 3 rfl ?_
        obtain ⟨hi_7, hq⟩ := hq
        refine j_iald 28 C 14 (f := (f 13)) rfl hi_7 dX5_leftBy_27 rfl ?_
        refine j_iload_n 29 C dX5_leftBy_28 rfl 1 rfl ?_
        refine j_iand 30 C dX5_leftBy_29 rfl ?_
        refine j_if_ne 33 39 C dX5_leftBy_30 rfl rfl (fun c_8 => ?_) (fun c_8 => ?_)
        · replace hq := hq.1 c_8
          refine j_iconst 40 C dX5_leftBy_39 rfl ic_0 ?_
          refine j_ior 41 C dX5_leftBy_40 rfl ?_
          refine J.topi (fun x_9 ex_9 => ?_)
          replace hq := hq x_9 ex_9
          refine j_istore_n 42 C dX5_leftBy_41 rfl (Nat.le_of_ble_eq_true rfl) [1, 2, 0, 3] (lv' := [(0, .ref (h 0)), (1, .int x1), (2, .int x_9), (3, .int x3)]) rfl ?_
          obtain ⟨x_10, ex_10⟩ : ∃ y : Int32, y = (x3 + (1 : Int32)) := ⟨_, rfl⟩
          replace hq := hq x_10 ex_10
          refine j_iinc 45 C dX5_leftBy_42 rfl 3 rfl (v := x_10) (by rw [ex_10]; rfl) (Nat.le_of_ble_eq_true rfl) [1, 2, 3, 0] (lv' := [(0, .ref (h 0)), (1, .int x1), (2, .int x_9), (3, .int x_10)]) rfl ?_
          refine j_goto 4 C dX5_leftBy_45 rfl ?_
          refine J.l0 [0, 1, 2, 3] rfl ?_
          exact ih _ _ hq
        · replace hq := hq.2 c_8
          refine j_iconst 34 C dX5_leftBy_33 rfl ic_1 ?_
          refine j_iload_n 35 C dX5_leftBy_34 rfl 3 rfl ?_
          refine j_ishl 36 C dX5_leftBy_35 rfl ?_
          refine j_goto 40 C dX5_leftBy_36 rfl ?_
          refine j_ior 41 C dX5_leftBy_40 rfl ?_
          refine J.topi (fun x_11 ex_11 => ?_)
          replace hq := hq x_11 ex_11
          refine j_istore_n 42 C dX5_leftBy_41 rfl (Nat.le_of_ble_eq_true rfl) [1, 2, 0, 3] (lv' := [(0, .ref (h 0)), (1, .int x1), (2, .int x_11), (3, .int x3)]) rfl ?_
          obtain ⟨x_12, ex_12⟩ : ∃ y : Int32, y = (x3 + (1 : Int32)) := ⟨_, rfl⟩
          replace hq := hq x_12 ex_12
          refine j_iinc 45 C dX5_leftBy_42 rfl 3 rfl (v := x_12) (by rw [ex_12]; rfl) (Nat.le_of_ble_eq_true rfl) [1, 2, 3, 0] (lv' := [(0, .ref (h 0)), (1, .int x1), (2, .int x_11), (3, .int x_12)]) rfl ?_
          refine j_goto 4 C dX5_leftBy_45 rfl ?_
          refine J.l0 [0, 1, 2, 3] rfl ?_
          exact ih _ _ hq
def Q_X5_leftBy (p0 : Int32) (f : FF) (v : VV) (post : Int32 → Prop) : Prop := ∃ n_13 : Nat, Q_X5_leftBy_L4 f v p0 (fun x_14 x_15 => (post x_14)) n_13 (0 : Int32) (0 : Int32)
set_option maxRecDepth 100000 in
set_option maxHeartbeats 4000000 in
theorem m_X5_leftBy {l : Launch} (G : Gx) (h : Nat → Nat) (p0 : Int32) (f : FF) (v : VV) {post : Int32 → Prop} (hq : Q_X5_leftBy p0 f v post) : MetI l yX5_leftBy (gC yX5_leftBy cX5_leftBy 4 (some .int)) rmX5_leftBy G [.ref (h 0), .int p0] (wE G h) f v (fun r f' v' => post r ∧ f' = f ∧ v' = v) := by
  refine met_i (own := RX5) (by decide) rfl (Nat.le_of_ble_eq_true rfl) (fun κ hκ C hR => ?_)
  unfold Q_X5_leftBy at hq
  subst hκ
  show J κ 0 0 (wE G h f v) 0 [(0, .ref (h 0)), (1, .int p0)] []
  refine j_iconst 1 C dX5_leftBy_0 rfl ic_0 ?_
  refine j_istore_n 2 C dX5_leftBy_1 rfl (Nat.le_of_ble_eq_true rfl) [1, 2, 0] (lv' := [(0, .ref (h 0)), (1, .int p0), (2, .int (0 : Int32))]) rfl ?_
  refine j_iconst 3 C dX5_leftBy_2 rfl ic_0 ?_
  refine j_istore_n 4 C dX5_leftBy_3 rfl (Nat.le_of_ble_eq_true rfl) [1, 2, 3, 0] (lv' := [(0, .ref (h 0)), (1, .int p0), (2, .int (0 : Int32)), (3, .int (0 : Int32))]) rfl ?_
  obtain ⟨n_13, hq⟩ := hq
  refine t_X5_leftBy_L4 C ?_ n_13 _ _ hq
  · intro x_14 x_15 hq
    refine j_iload_n 49 C dX5_leftBy_48 rfl 2 rfl ?_
    exact hR _ _ _ f v dX5_leftBy_49 ⟨hq, rfl, rfl⟩
def Q_X5_weightOfSet_L4 (f : FF) (v : VV) (x1 : Int32) (K39 : Int32 → Int32 → Prop) : Nat → Int32 → Int32 → Prop
  | 0, _, _ => False
  | n + 1, x2, x3 => (((v 3) ≤ x3 → (K39 x2 x3)) ∧ (¬ (v 3) ≤ x3 → (((¬ ((x1 >>> (x3 &&& 31)) &&& (1 : Int32)) = (1 : Int32) → (∀ x_3 : Int32, x_3 = (x2 + (0 : Int32)) → (∀ x_4 : Int32, x_4 = (x3 + (1 : Int32)) → (Q_X5_weightOfSet_L4 f v x1 K39 n x_3 x_4)))) ∧ (((x1 >>> (x3 &&& 31)) &&& (1 : Int32)) = (1 : Int32) → (Q_X5_weightOf x3 f v (fun r_5 => (∀ x_6 : Int32, x_6 = (x2 + r_5) → (∀ x_7 : Int32, x_7 = (x3 + (1 : Int32)) → (Q_X5_weightOfSet_L4 f v x1 K39 n x_6 x_7))))))))))
set_option maxRecDepth 100000 in
set_option maxHeartbeats 4000000 in
theorem t_X5_weightOfSet_L4 {κ : Kx} {G : Gx} {h : Nat → Nat} (C : Cx κ G RX5 cX5_weightOfSet rmX5_weightOfSet 4) {f : FF} {v : VV} {x1 : Int32} {K39 : Int32 → Int32 → Prop} (hK39 : ∀ (x2 : Int32) (x3 : Int32), K39 x2 x3 → J κ 0 0 (wE G h f v) 39 [(0, .ref (h 0)), (1, .int x1), (2, .int x2), (3, .int x3)] []) : ∀ (n : Nat) (x2 : Int32) (x3 : Int32), Q_X5_weightOfSet_L4 f v x1 K39 n x2 x3 → J κ 0 0 (wE G h f v) 4 [(0, .ref (h 0)), (1, .int x1), (2, .int x2), (3, .int x3)] [] := by
  intro n
  induction n with
  | zero => intro x2 x3 hq; exact False.elim hq
  | succ n ih =>
    intro x2 x3 hq
    rw [Q_X5_weightOfSet_L4] at hq
    refine j_iload_n 5 C dX5_weightOfSet_4 rfl 3 rfl ?_
    refine j_aload_n 6 C dX5_weightOfSet_5 rfl 0 rfl ?_
    refine j_get 9 C uX5 0 rfl rfl 6 (Nat.le_of_ble_eq_true rfl) lX5_74 (v := .int (v 3)) rfl dX5_weightOfSet_6 rfl ?_
    refine j_icmp_ge 12 39 C dX5_weightOfSet_9 rfl rfl (fun c_1 => ?_) (fun c_1 => ?_)
    · replace hq := hq.1 c_1
      refine J.l0 [0, 1, 2, 3] rfl ?_
      exact hK39 _ _ hq
    · replace hq := hq.2 c_1
      refine j_iload_n 13 C dX5_weightOfSet_12 rfl 2 rfl ?_
      refine j_iload_n 14 C dX5_weightOfSet_13 rfl 1 rfl ?_
      refine j_iload_n 15 C dX5_weightOfSet_14 rfl 3 rfl ?_
      refine j_ishr 16 C dX5_weightOfSet_15 rfl ?_
      refine j_iconst 17 C dX5_weightOfSet_16 rfl ic_1 ?_
      refine j_iand 18 C dX5_weightOfSet_17 rfl ?_
      refine j_iconst 19 C dX5_weightOfSet_18 rfl ic_1 ?_
      refine j_icmp_ne 22 30 C dX5_weightOfSet_19 rfl rfl (fun c_2 => ?_) (fun c_2 => ?_)
      · replace hq := hq.1 c_2
        refine j_iconst 31 C dX5_weightOfSet_30 rfl ic_0 ?_
        refine j_iadd 32 C dX5_weightOfSet_31 rfl ?_
        refine J.topi (fun x_3 ex_3 => ?_)
        replace hq := hq x_3 ex_3
        refine j_istore_n 33 C dX5_weightOfSet_32 rfl (Nat.le_of_ble_eq_true rfl) [1, 2, 0, 3] (lv' := [(0, .ref (h 0)), (1, .int x1), (2, .int x_3), (3, .int x3)]) rfl ?_
        obtain ⟨x_4, ex_4⟩ : ∃ y : Int32, y = (x3 + (1 : Int32)) := ⟨_, rfl⟩
        replace hq := hq x_4 ex_4
        refine j_iinc 36 C dX5_weightOfSet_33 rfl 3 rfl (v := x_4) (by rw [ex_4]; rfl) (Nat.le_of_ble_eq_true rfl) [1, 2, 3, 0] (lv' := [(0, .ref (h 0)), (1, .int x1), (2, .int x_3), (3, .int x_4)]) rfl ?_
        refine j_goto 4 C dX5_weightOfSet_36 rfl ?_
        refine J.l0 [0, 1, 2, 3] rfl ?_
        exact ih _ _ hq
      · replace hq := hq.2 c_2
        refine j_aload_n 23 C dX5_weightOfSet_22 rfl 0 rfl ?_
        refine j_iload_n 24 C dX5_weightOfSet_23 rfl 3 rfl ?_
        refine j_callVi_ro 27 C [] [] (As := [.int x3]) (m_X5_weightOf G h x3 f v hq) oX5_weightOf kX5_159 ⟨rfl, rfl⟩ eX5_weightOf ⟨Nat.le_of_ble_eq_true rfl, Nat.le_of_ble_eq_true rfl⟩ ⟨Nat.zero_le _, Nat.zero_le _⟩ (List.append_nil _).symm (fun _ _ => rfl) 0 rfl rfl rfl (Nat.le_of_ble_eq_true rfl) dX5_weightOfSet_24 rfl (fun r_5 hq => ?_)
        refine j_goto 31 C dX5_weightOfSet_27 rfl ?_
        refine j_iadd 32 C dX5_weightOfSet_31 rfl ?_
        refine J.topi (fun x_6 ex_6 => ?_)
        replace hq := hq x_6 ex_6
        refine j_istore_n 33 C dX5_weightOfSet_32 rfl (Nat.le_of_ble_eq_true rfl) [1, 2, 0, 3] (lv' := [(0, .ref (h 0)), (1, .int x1), (2, .int x_6), (3, .int x3)]) rfl ?_
        obtain ⟨x_7, ex_7⟩ : ∃ y : Int32, y = (x3 + (1 : Int32)) := ⟨_, rfl⟩
        replace hq := hq x_7 ex_7
        refine j_iinc 36 C dX5_weightOfSet_33 rfl 3 rfl (v := x_7) (by rw [ex_7]; rfl) (Nat.le_of_ble_eq_true rfl) [1, 2, 3, 0] (lv' := [(0, .ref (h 0)), (1, .int x1), (2, .int x_6), (3, .int x_7)]) rfl ?_
        refine j_goto 4 C dX5_weightOfSet_36 rfl ?_
        refine J.l0 [0, 1, 2, 3] rfl ?_
        exact ih _ _ hq
def Q_X5_weightOfSet (p0 : Int32) (f : FF) (v : VV) (post : Int32 → Prop) : Prop := ∃ n_8 : Nat, Q_X5_weightOfSet_L4 f v p0 (fun x_9 x_10 => (post x_9)) n_8 (0 : Int32) (0 : Int32)
set_option maxRecDepth 100000 in
set_option maxHeartbeats 4000000 in
theorem m_X5_weightOfSet {l : Launch} (G : Gx) (h : Nat → Nat) (p0 : Int32) (f : FF) (v : VV) {post : Int32 → Prop} (hq : Q_X5_weightOfSet p0 f v post) : MetI l yX5_weightOfSet (gC yX5_weightOfSet cX5_weightOfSet 4 (some .int)) rmX5_weightOfSet G [.ref (h 0), .int p0] (wE G h) f v (fun r f' v' => post r ∧ f' = f ∧ v' = v) := by
  refine met_i (own := RX5) (by decide) rfl (Nat.le_of_ble_eq_true rfl) (fun κ hκ C hR => ?_)
  unfold Q_X5_weightOfSet at hq
  subst hκ
  show J κ 0 0 (wE G h f v) 0 [(0, .ref (h 0)), (1, .int p0)] []
  refine j_iconst 1 C dX5_weightOfSet_0 rfl ic_0 ?_
  refine j_istore_n 2 C dX5_weightOfSet_1 rfl (Nat.le_of_ble_eq_true rfl) [1, 2, 0] (lv' := [(0, .ref (h 0)), (1, .int p0), (2, .int (0 : Int32))]) rfl ?_
  refine j_iconst 3 C dX5_weightOfSet_2 rfl ic_0 ?_
  refine j_istore_n 4 C dX5_weightOfSet_3 rfl (Nat.le_of_ble_eq_true rfl) [1, 2, 3, 0] (lv' := [(0, .ref (h 0)), (1, .int p0), (2, .int (0 : Int32)), (3, .int (0 : Int32))]) rfl ?_
  obtain ⟨n_8, hq⟩ := hq
  refine t_X5_weightOfSet_L4 C ?_ n_8 _ _ hq
  · intro x_9 x_10 hq
    refine j_iload_n 40 C dX5_weightOfSet_39 rfl 2 rfl ?_
    exact hR _ _ _ f v dX5_weightOfSet_40 ⟨hq, rfl, rfl⟩
def Q_X5_findCover_L5 (f : FF) (v : VV) (K64 : Int32 → Int32 → Prop) : Nat → Int32 → Int32 → Prop
  | 0, _, _ => False
  | n + 1, x1, x2 => ((((1 : Int32) <<< ((v 3) &&& 31)) ≤ x2 → (K64 x1 x2)) ∧ (¬ ((1 : Int32) <<< ((v 3) &&& 31)) ≤ x2 → (Q_X5_leftBy x2 f v (fun r_2 => (((¬ r_2 = 0 → (∀ x_4 : Int32, x_4 = (x2 + (1 : Int32)) → (Q_X5_findCover_L5 f v K64 n x1 x_4))) ∧ (r_2 = 0 → (((x1 = (-9 : Int32) → (∀ x_6 : Int32, x_6 = (x2 + (1 : Int32)) → (Q_X5_findCover_L5 f v K64 n x2 x_6))) ∧ (¬ x1 = (-9 : Int32) → (Q_X5_weightOfSet x2 f v (fun r_7 => (Q_X5_weightOfSet x1 f v (fun r_8 => (((r_8 ≤ r_7 → (∀ x_10 : Int32, x_10 = (x2 + (1 : Int32)) → (Q_X5_findCover_L5 f v K64 n x1 x_10))) ∧ (¬ r_8 ≤ r_7 → (∀ x_11 : Int32, x_11 = (x2 + (1 : Int32)) → (Q_X5_findCover_L5 f v K64 n x2 x_11)))))))))))))))))))
set_option maxRecDepth 100000 in
set_option maxHeartbeats 4000000 in
theorem t_X5_findCover_L5 {κ : Kx} {G : Gx} {h : Nat → Nat} (C : Cx κ G RX5 cX5_findCover rmX5_findCover 4) {f : FF} {v : VV} {K64 : Int32 → Int32 → Prop} (hK64 : ∀ (x1 : Int32) (x2 : Int32), K64 x1 x2 → J κ 0 0 (wE G h f v) 64 [(0, .ref (h 0)), (1, .int x1), (2, .int x2)] []) : ∀ (n : Nat) (x1 : Int32) (x2 : Int32), Q_X5_findCover_L5 f v K64 n x1 x2 → J κ 0 0 (wE G h f v) 5 [(0, .ref (h 0)), (1, .int x1), (2, .int x2)] [] := by
  intro n
  induction n with
  | zero => intro x1 x2 hq; exact False.elim hq
  | succ n ih =>
    intro x1 x2 hq
    rw [Q_X5_findCover_L5] at hq
    refine j_iload_n 6 C dX5_findCover_5 rfl 2 rfl ?_
    refine j_iconst 7 C dX5_findCover_6 rfl ic_1 ?_
    refine j_aload_n 8 C dX5_findCover_7 rfl 0 rfl ?_
    refine j_get 11 C uX5 0 rfl rfl 6 (Nat.le_of_ble_eq_true rfl) lX5_74 (v := .int (v 3)) rfl dX5_findCover_8 rfl ?_
    refine j_ishl 12 C dX5_findCover_11 rfl ?_
    refine j_icmp_ge 15 64 C dX5_findCover_12 rfl rfl (fun c_1 => ?_) (fun c_1 => ?_)
    · replace hq := hq.1 c_1
      refine J.l0 [0, 1, 2] rfl ?_
      exact hK64 _ _ hq
    · replace hq := hq.2 c_1
      refine j_aload_n 16 C dX5_findCover_15 rfl 0 rfl ?_
      refine j_iload_n 17 C dX5_findCover_16 rfl 2 rfl ?_
      refine j_callVi_ro 20 C [] [] (As := [.int x2]) (m_X5_leftBy G h x2 f v hq) oX5_leftBy kX5_219 ⟨rfl, rfl⟩ eX5_leftBy ⟨Nat.le_of_ble_eq_true rfl, Nat.le_of_ble_eq_true rfl⟩ ⟨Nat.zero_le _, Nat.zero_le _⟩ (List.append_nil _).symm (fun _ _ => rfl) 0 rfl rfl rfl (Nat.le_of_ble_eq_true rfl) dX5_findCover_17 rfl (fun r_2 hq => ?_)
      refine j_if_ne 23 27 C dX5_findCover_20 rfl rfl (fun c_3 => ?_) (fun c_3 => ?_)
      · replace hq := hq.1 c_3
        refine j_iconst 28 C dX5_findCover_27 rfl ic_0 ?_
        refine j_istore_n 29 C dX5_findCover_28 rfl (Nat.le_of_ble_eq_true rfl) [1, 2, 3, 0] (lv' := [(0, .ref (h 0)), (1, .int x1), (2, .int x2), (3, .int (0 : Int32))]) rfl ?_
        refine j_iload_n 30 C dX5_findCover_29 rfl 3 rfl ?_
        refine j_if_eq 33 56 C dX5_findCover_30 rfl rfl (fun _ => ?_) (fun h9 => absurd h9 (by decide))
        refine j_iload_n 57 C dX5_findCover_56 rfl 1 rfl ?_
        refine j_istore_n 58 C dX5_findCover_57 rfl (Nat.le_of_ble_eq_true rfl) [1, 0, 2, 3] (lv' := [(0, .ref (h 0)), (1, .int x1), (2, .int x2), (3, .int (0 : Int32))]) rfl ?_
        obtain ⟨x_4, ex_4⟩ : ∃ y : Int32, y = (x2 + (1 : Int32)) := ⟨_, rfl⟩
        replace hq := hq x_4 ex_4
        refine j_iinc 61 C dX5_findCover_58 rfl 2 rfl (v := x_4) (by rw [ex_4]; rfl) (Nat.le_of_ble_eq_true rfl) [1, 2, 0, 3] (lv' := [(0, .ref (h 0)), (1, .int x1), (2, .int x_4), (3, .int (0 : Int32))]) rfl ?_
        refine j_goto 5 C dX5_findCover_61 rfl ?_
        refine J.l0 [0, 1, 2] rfl ?_
        exact ih _ _ hq
      · replace hq := hq.2 c_3
        refine j_iconst 24 C dX5_findCover_23 rfl ic_1 ?_
        refine j_goto 28 C dX5_findCover_24 rfl ?_
        refine j_istore_n 29 C dX5_findCover_28 rfl (Nat.le_of_ble_eq_true rfl) [1, 2, 3, 0] (lv' := [(0, .ref (h 0)), (1, .int x1), (2, .int x2), (3, .int (1 : Int32))]) rfl ?_
        refine j_iload_n 30 C dX5_findCover_29 rfl 3 rfl ?_
        refine j_if_eq 33 56 C dX5_findCover_30 rfl rfl (fun h9 => absurd h9 (by decide)) (fun _ => ?_)
        refine j_iload_n 34 C dX5_findCover_33 rfl 1 rfl ?_
        refine j_bipush 36 C dX5_findCover_34 rfl bc_m9 ?_
        refine j_icmp_eq 39 52 C dX5_findCover_36 rfl rfl (fun c_5 => ?_) (fun c_5 => ?_)
        · replace hq := hq.1 c_5
          refine j_iload_n 53 C dX5_findCover_52 rfl 2 rfl ?_
          refine j_goto 57 C dX5_findCover_53 rfl ?_
          refine j_istore_n 58 C dX5_findCover_57 rfl (Nat.le_of_ble_eq_true rfl) [1, 0, 2, 3] (lv' := [(0, .ref (h 0)), (1, .int x2), (2, .int x2), (3, .int (1 : Int32))]) rfl ?_
          obtain ⟨x_6, ex_6⟩ : ∃ y : Int32, y = (x2 + (1 : Int32)) := ⟨_, rfl⟩
          replace hq := hq x_6 ex_6
          refine j_iinc 61 C dX5_findCover_58 rfl 2 rfl (v := x_6) (by rw [ex_6]; rfl) (Nat.le_of_ble_eq_true rfl) [1, 2, 0, 3] (lv' := [(0, .ref (h 0)), (1, .int x2), (2, .int x_6), (3, .int (1 : Int32))]) rfl ?_
          refine j_goto 5 C dX5_findCover_61 rfl ?_
          refine J.l0 [0, 1, 2] rfl ?_
          exact ih _ _ hq
        · replace hq := hq.2 c_5
          refine j_aload_n 40 C dX5_findCover_39 rfl 0 rfl ?_
          refine j_iload_n 41 C dX5_findCover_40 rfl 2 rfl ?_
          refine j_callVi_ro 44 C [] [] (As := [.int x2]) (m_X5_weightOfSet G h x2 f v hq) oX5_weightOfSet kX5_216 ⟨rfl, rfl⟩ eX5_weightOfSet ⟨Nat.le_of_ble_eq_true rfl, Nat.le_of_ble_eq_true rfl⟩ ⟨Nat.zero_le _, Nat.zero_le _⟩ (List.append_nil _).symm (fun _ _ => rfl) 0 rfl rfl rfl (Nat.le_of_ble_eq_true rfl) dX5_findCover_41 rfl (fun r_7 hq => ?_)
          refine j_aload_n 45 C dX5_findCover_44 rfl 0 rfl ?_
          refine j_iload_n 46 C dX5_findCover_45 rfl 1 rfl ?_
          refine j_callVi_ro 49 C [] [] (As := [.int x1]) (m_X5_weightOfSet G h x1 f v hq) oX5_weightOfSet kX5_216 ⟨rfl, rfl⟩ eX5_weightOfSet ⟨Nat.le_of_ble_eq_true rfl, Nat.le_of_ble_eq_true rfl⟩ ⟨Nat.zero_le _, Nat.zero_le _⟩ (List.append_nil _).symm (fun _ _ => rfl) 0 rfl rfl rfl (Nat.le_of_ble_eq_true rfl) dX5_findCover_46 rfl (fun r_8 hq => ?_)
          refine j_icmp_ge 52 56 C dX5_findCover_49 rfl rfl (fun c_9 => ?_) (fun c_9 => ?_)
          · replace hq := hq.1 c_9
            refine j_iload_n 57 C dX5_findCover_56 rfl 1 rfl ?_
            refine j_istore_n 58 C dX5_findCover_57 rfl (Nat.le_of_ble_eq_true rfl) [1, 0, 2, 3] (lv' := [(0, .ref (h 0)), (1, .int x1), (2, .int x2), (3, .int (1 : Int32))]) rfl ?_
            obtain ⟨x_10, ex_10⟩ : ∃ y : Int32, y = (x2 + (1 : Int32)) := ⟨_, rfl⟩
            replace hq := hq x_10 ex_10
            refine j_iinc 61 C dX5_findCover_58 rfl 2 rfl (v := x_10) (by rw [ex_10]; rfl) (Nat.le_of_ble_eq_true rfl) [1, 2, 0, 3] (lv' := [(0, .ref (h 0)), (1, .int x1), (2, .int x_10), (3, .int (1 : Int32))]) rfl ?_
            refine j_goto 5 C dX5_findCover_61 rfl ?_
            refine J.l0 [0, 1, 2] rfl ?_
            exact ih _ _ hq
          · replace hq := hq.2 c_9
            refine j_iload_n 53 C dX5_findCover_52 rfl 2 rfl ?_
            refine j_goto 57 C dX5_findCover_53 rfl ?_
            refine j_istore_n 58 C dX5_findCover_57 rfl (Nat.le_of_ble_eq_true rfl) [1, 0, 2, 3] (lv' := [(0, .ref (h 0)), (1, .int x2), (2, .int x2), (3, .int (1 : Int32))]) rfl ?_
            obtain ⟨x_11, ex_11⟩ : ∃ y : Int32, y = (x2 + (1 : Int32)) := ⟨_, rfl⟩
            replace hq := hq x_11 ex_11
            refine j_iinc 61 C dX5_findCover_58 rfl 2 rfl (v := x_11) (by rw [ex_11]; rfl) (Nat.le_of_ble_eq_true rfl) [1, 2, 0, 3] (lv' := [(0, .ref (h 0)), (1, .int x2), (2, .int x_11), (3, .int (1 : Int32))]) rfl ?_
            refine j_goto 5 C dX5_findCover_61 rfl ?_
            refine J.l0 [0, 1, 2] rfl ?_
            exact ih _ _ hq
def Q_X5_findCover (f : FF) (v : VV) (post : Int32 → Prop) : Prop := ∃ n_12 : Nat, Q_X5_findCover_L5 f v (fun x_13 x_14 => (post x_13)) n_12 (-9 : Int32) (0 : Int32)
set_option maxRecDepth 100000 in
set_option maxHeartbeats 4000000 in
theorem m_X5_findCover {l : Launch} (G : Gx) (h : Nat → Nat) (f : FF) (v : VV) {post : Int32 → Prop} (hq : Q_X5_findCover f v post) : MetI l yX5_findCover (gC yX5_findCover cX5_findCover 4 (some .int)) rmX5_findCover G [.ref (h 0)] (wE G h) f v (fun r f' v' => post r ∧ f' = f ∧ v' = v) := by
  refine met_i (own := RX5) (by decide) rfl (Nat.le_of_ble_eq_true rfl) (fun κ hκ C hR => ?_)
  unfold Q_X5_findCover at hq
  subst hκ
  show J κ 0 0 (wE G h f v) 0 [(0, .ref (h 0))] []
  refine j_bipush 2 C dX5_findCover_0 rfl bc_m9 ?_
  refine j_istore_n 3 C dX5_findCover_2 rfl (Nat.le_of_ble_eq_true rfl) [1, 0] (lv' := [(0, .ref (h 0)), (1, .int (-9 : Int32))]) rfl ?_
  refine j_iconst 4 C dX5_findCover_3 rfl ic_0 ?_
  refine j_istore_n 5 C dX5_findCover_4 rfl (Nat.le_of_ble_eq_true rfl) [1, 2, 0] (lv' := [(0, .ref (h 0)), (1, .int (-9 : Int32)), (2, .int (0 : Int32))]) rfl ?_
  obtain ⟨n_12, hq⟩ := hq
  refine t_X5_findCover_L5 C ?_ n_12 _ _ hq
  · intro x_13 x_14 hq
    refine j_iload_n 65 C dX5_findCover_64 rfl 1 rfl ?_
    exact hR _ _ _ f v dX5_findCover_65 ⟨hq, rfl, rfl⟩
def Q_X5_tellDay (p0 : Int32) (f : FF) (v : VV) (post : Int32 → FF → VV → Prop) : Prop := ((p0 < (10 : Int32) → (Q_X5_findKillers  f v (fun f_3 v_4 => (((¬ p0 = 0 → (((¬ p0 = (2 : Int32) → (((¬ p0 = (3 : Int32) → (Q_X5_findCover  f_3 v_4 (fun r_8 => (Q_X5_weightOfSet r_8 f_3 v_4 (fun r_9 => (post r_9 f_3 v_4)))))) ∧ (p0 = (3 : Int32) → (Q_X5_manyLeast  f_3 v_4 (fun r_10 => (post r_10 f_3 v_4))))))) ∧ (p0 = (2 : Int32) → (Q_X5_manyEqual  f_3 v_4 (fun r_11 f_12 v_13 => (post r_11 f_12 v_13))))))) ∧ (p0 = 0 → (Q_X5_killed  f_3 v_4 (fun r_14 => (post r_14 f_3 v_4))))))))) ∧ (¬ p0 < (10 : Int32) → (Q_X5_isTest (p0 - (10 : Int32)) f v (fun r_15 => (((r_15 = 0 → (post (-9 : Int32) f v)) ∧ (¬ r_15 = 0 → (vp_in (p0 - (10 : Int32)) 7 ∧ (vp_in (p0 - (10 : Int32)) 7 ∧ (Q_X5_plainRun ((f 8) ((p0 - (10 : Int32))).toNatClampNeg) ((f 9) ((p0 - (10 : Int32))).toNatClampNeg) f v (fun r_19 f_20 v_21 => (post r_19 f_20 v_21))))))))))))
set_option maxRecDepth 100000 in
set_option maxHeartbeats 4000000 in
theorem m_X5_tellDay {l : Launch} (G : Gx) (h : Nat → Nat) (p0 : Int32) (f : FF) (v : VV) {post : Int32 → FF → VV → Prop} (hq : Q_X5_tellDay p0 f v post) : MetI l yX5_tellDay (gC yX5_tellDay cX5_tellDay 2 (some .int)) rmX5_tellDay G [.ref (h 0), .int p0] (wE G h) f v post := by
  refine met_i (own := RX5) (by decide) rfl (Nat.le_of_ble_eq_true rfl) (fun κ hκ C hR => ?_)
  unfold Q_X5_tellDay at hq
  subst hκ
  show J κ 0 0 (wE G h f v) 0 [(0, .ref (h 0)), (1, .int p0)] []
  refine j_iload_n 1 C dX5_tellDay_0 rfl 1 rfl ?_
  refine j_bipush 3 C dX5_tellDay_1 rfl bc_10 ?_
  refine j_icmp_lt 6 45 C dX5_tellDay_3 rfl rfl (fun c_1 => ?_) (fun c_1 => ?_)
  · replace hq := hq.1 c_1
    refine j_aload_n 46 C dX5_tellDay_45 rfl 0 rfl ?_
    refine j_callVv 49 C [] [] (fun f' v' => (wE G h f' v')) (As := []) (m_X5_findKillers G h f v hq) oX5_findKillers kX5_162 ⟨rfl, rfl⟩ eX5_findKillers ⟨Nat.le_of_ble_eq_true rfl, Nat.le_of_ble_eq_true rfl⟩ ⟨Nat.zero_le _, Nat.zero_le _⟩ (List.append_nil _).symm (fun _ _ => List.append_nil _) (fun _ _ => rfl) 0 rfl rfl rfl (Nat.le_of_ble_eq_true rfl) dX5_tellDay_46 rfl (fun f_3 v_4 hq => ?_)
    refine j_iload_n 50 C dX5_tellDay_49 rfl 1 rfl ?_
    refine j_if_ne 53 60 C dX5_tellDay_50 rfl rfl (fun c_5 => ?_) (fun c_5 => ?_)
    · replace hq := hq.1 c_5
      refine j_iload_n 61 C dX5_tellDay_60 rfl 1 rfl ?_
      refine j_iconst 62 C dX5_tellDay_61 rfl ic_2 ?_
      refine j_icmp_ne 65 72 C dX5_tellDay_62 rfl rfl (fun c_6 => ?_) (fun c_6 => ?_)
      · replace hq := hq.1 c_6
        refine j_iload_n 73 C dX5_tellDay_72 rfl 1 rfl ?_
        refine j_iconst 74 C dX5_tellDay_73 rfl ic_3 ?_
        refine j_icmp_ne 77 84 C dX5_tellDay_74 rfl rfl (fun c_7 => ?_) (fun c_7 => ?_)
        · replace hq := hq.1 c_7
          refine j_aload_n 85 C dX5_tellDay_84 rfl 0 rfl ?_
          refine j_aload_n 86 C dX5_tellDay_85 rfl 0 rfl ?_
          refine j_callVi_ro 89 C [] [] (As := []) (m_X5_findCover G h f_3 v_4 hq) oX5_findCover kX5_213 ⟨rfl, rfl⟩ eX5_findCover ⟨Nat.le_of_ble_eq_true rfl, Nat.le_of_ble_eq_true rfl⟩ ⟨Nat.zero_le _, Nat.zero_le _⟩ (List.append_nil _).symm (fun _ _ => rfl) 0 rfl rfl rfl (Nat.le_of_ble_eq_true rfl) dX5_tellDay_86 rfl (fun r_8 hq => ?_)
          refine j_callVi_ro 92 C [] [] (As := [.int r_8]) (m_X5_weightOfSet G h r_8 f_3 v_4 hq) oX5_weightOfSet kX5_216 ⟨rfl, rfl⟩ eX5_weightOfSet ⟨Nat.le_of_ble_eq_true rfl, Nat.le_of_ble_eq_true rfl⟩ ⟨Nat.zero_le _, Nat.zero_le _⟩ (List.append_nil _).symm (fun _ _ => rfl) 0 rfl rfl rfl (Nat.le_of_ble_eq_true rfl) dX5_tellDay_89 rfl (fun r_9 hq => ?_)
          exact hR _ _ _ f_3 v_4 dX5_tellDay_92 hq
        · replace hq := hq.2 c_7
          refine j_aload_n 78 C dX5_tellDay_77 rfl 0 rfl ?_
          refine j_callVi_ro 81 C [] [] (As := []) (m_X5_manyLeast G h f_3 v_4 hq) oX5_manyLeast kX5_210 ⟨rfl, rfl⟩ eX5_manyLeast ⟨Nat.le_of_ble_eq_true rfl, Nat.le_of_ble_eq_true rfl⟩ ⟨Nat.zero_le _, Nat.zero_le _⟩ (List.append_nil _).symm (fun _ _ => rfl) 0 rfl rfl rfl (Nat.le_of_ble_eq_true rfl) dX5_tellDay_78 rfl (fun r_10 hq => ?_)
          refine j_goto 92 C dX5_tellDay_81 rfl ?_
          exact hR _ _ _ f_3 v_4 dX5_tellDay_92 hq
      · replace hq := hq.2 c_6
        refine j_aload_n 66 C dX5_tellDay_65 rfl 0 rfl ?_
        refine j_callVi 69 C [] [] (fun f' v' => (wE G h f' v')) (As := []) (m_X5_manyEqual G h f_3 v_4 hq) oX5_manyEqual kX5_207 ⟨rfl, rfl⟩ eX5_manyEqual ⟨Nat.le_of_ble_eq_true rfl, Nat.le_of_ble_eq_true rfl⟩ ⟨Nat.zero_le _, Nat.zero_le _⟩ (List.append_nil _).symm (fun _ _ => List.append_nil _) (fun _ _ => rfl) 0 rfl rfl rfl (Nat.le_of_ble_eq_true rfl) dX5_tellDay_66 rfl (fun r_11 f_12 v_13 hq => ?_)
        refine j_goto 92 C dX5_tellDay_69 rfl ?_
        exact hR _ _ _ f_12 v_13 dX5_tellDay_92 hq
    · replace hq := hq.2 c_5
      refine j_aload_n 54 C dX5_tellDay_53 rfl 0 rfl ?_
      refine j_callVi_ro 57 C [] [] (As := []) (m_X5_killed G h f_3 v_4 hq) oX5_killed kX5_204 ⟨rfl, rfl⟩ eX5_killed ⟨Nat.le_of_ble_eq_true rfl, Nat.le_of_ble_eq_true rfl⟩ ⟨Nat.zero_le _, Nat.zero_le _⟩ (List.append_nil _).symm (fun _ _ => rfl) 0 rfl rfl rfl (Nat.le_of_ble_eq_true rfl) dX5_tellDay_54 rfl (fun r_14 hq => ?_)
      refine j_goto 92 C dX5_tellDay_57 rfl ?_
      exact hR _ _ _ f_3 v_4 dX5_tellDay_92 hq
  · replace hq := hq.2 c_1
    refine j_aload_n 7 C dX5_tellDay_6 rfl 0 rfl ?_
    refine j_iload_n 8 C dX5_tellDay_7 rfl 1 rfl ?_
    refine j_bipush 10 C dX5_tellDay_8 rfl bc_10 ?_
    refine j_isub 11 C dX5_tellDay_10 rfl ?_
    refine j_callVi_ro 14 C [] [] (As := [.int (p0 - (10 : Int32))]) (m_X5_isTest G h (p0 - (10 : Int32)) f v hq) oX5_isTest kX5_156 ⟨rfl, rfl⟩ eX5_isTest ⟨Nat.le_of_ble_eq_true rfl, Nat.le_of_ble_eq_true rfl⟩ ⟨Nat.zero_le _, Nat.zero_le _⟩ (List.append_nil _).symm (fun _ _ => rfl) 0 rfl rfl rfl (Nat.le_of_ble_eq_true rfl) dX5_tellDay_11 rfl (fun r_15 hq => ?_)
    refine j_if_eq 17 42 C dX5_tellDay_14 rfl rfl (fun c_16 => ?_) (fun c_16 => ?_)
    · replace hq := hq.1 c_16
      refine j_bipush 44 C dX5_tellDay_42 rfl bc_m9 ?_
      exact hR _ _ _ f v dX5_tellDay_44 hq
    · replace hq := hq.2 c_16
      refine j_aload_n 18 C dX5_tellDay_17 rfl 0 rfl ?_
      refine j_aload_n 19 C dX5_tellDay_18 rfl 0 rfl ?_
      refine j_get 22 C uX5 0 rfl rfl 12 (Nat.le_of_ble_eq_true rfl) lX5_34 (v := .ref (h 9)) rfl dX5_tellDay_19 rfl ?_
      refine j_iload_n 23 C dX5_tellDay_22 rfl 1 rfl ?_
      refine j_bipush 25 C dX5_tellDay_23 rfl bc_10 ?_
      refine j_isub 26 C dX5_tellDay_25 rfl ?_
      obtain ⟨hi_17, hq⟩ := hq
      refine j_iald 27 C 9 (f := (f 8)) rfl hi_17 dX5_tellDay_26 rfl ?_
      refine j_aload_n 28 C dX5_tellDay_27 rfl 0 rfl ?_
      refine j_get 31 C uX5 0 rfl rfl 13 (Nat.le_of_ble_eq_true rfl) lX5_37 (v := .ref (h 10)) rfl dX5_tellDay_28 rfl ?_
      refine j_iload_n 32 C dX5_tellDay_31 rfl 1 rfl ?_
      refine j_bipush 34 C dX5_tellDay_32 rfl bc_10 ?_
      refine j_isub 35 C dX5_tellDay_34 rfl ?_
      obtain ⟨hi_18, hq⟩ := hq
      refine j_iald 36 C 10 (f := (f 9)) rfl hi_18 dX5_tellDay_35 rfl ?_
      refine j_callVi 39 C [] [] (fun f' v' => (wE G h f' v')) (As := [.int ((f 8) ((p0 - (10 : Int32))).toNatClampNeg), .int ((f 9) ((p0 - (10 : Int32))).toNatClampNeg)]) (m_X5_plainRun G h ((f 8) ((p0 - (10 : Int32))).toNatClampNeg) ((f 9) ((p0 - (10 : Int32))).toNatClampNeg) f v hq) oX5_plainRun kX5_140 ⟨rfl, rfl⟩ eX5_plainRun ⟨Nat.le_of_ble_eq_true rfl, Nat.le_of_ble_eq_true rfl⟩ ⟨Nat.zero_le _, Nat.zero_le _⟩ (List.append_nil _).symm (fun _ _ => List.append_nil _) (fun _ _ => rfl) 0 rfl rfl rfl (Nat.le_of_ble_eq_true rfl) dX5_tellDay_36 rfl (fun r_19 f_20 v_21 hq => ?_)
      refine j_goto 44 C dX5_tellDay_39 rfl ?_
      exact hR _ _ _ f_20 v_21 dX5_tellDay_44 hq
def Q_X5_day_L103 (x1 : Int32) (x2 : Int32) (x3 : Int32) (x4 : Int32) (x5 : Int32) (x6 : Int32) (x7 : Int32) (K142 : Int32 → FF → VV → Prop) (K151 : Int32 → FF → VV → Prop) : Nat → Int32 → FF → VV → Prop
  | 0, _, _, _ => False
  | n + 1, x8, f, v => ((x4 ≤ x8 → (K151 x8 f v)) ∧ (¬ x4 ≤ x8 → (vp_in (x7 + ((2 : Int32) * x8)) 240 ∧ (vp_in ((x7 + ((2 : Int32) * x8)) + (1 : Int32)) 240 ∧ (Q_X5_isPair ((f 2) ((x7 + ((2 : Int32) * x8))).toNatClampNeg) ((f 2) (((x7 + ((2 : Int32) * x8)) + (1 : Int32))).toNatClampNeg) (fun r_17 => (((¬ r_17 = 0 → (∀ x_19 : Int32, x_19 = (x8 + (1 : Int32)) → (Q_X5_day_L103 x1 x2 x3 x4 x5 x6 x7 K142 K151 n x_19 f v))) ∧ (r_17 = 0 → (K142 x8 f v))))))))))
set_option maxRecDepth 100000 in
set_option maxHeartbeats 4000000 in
theorem t_X5_day_L103 {κ : Kx} {G : Gx} {h : Nat → Nat} (C : Cx κ G RX5 cX5_day rmX5_day 10) {x1 : Int32} {x2 : Int32} {x3 : Int32} {x4 : Int32} {x5 : Int32} {x6 : Int32} {x7 : Int32} {K142 : Int32 → FF → VV → Prop} {K151 : Int32 → FF → VV → Prop} (hK142 : ∀ (x8 : Int32) (f : FF) (v : VV), K142 x8 f v → J κ 0 0 (wE G h f v) 142 [(0, .ref (h 0)), (1, .int x1), (2, .int x2), (3, .int x3), (4, .int x4), (5, .int x5), (6, .int x6), (7, .int x7), (8, .int x8)] []) (hK151 : ∀ (x8 : Int32) (f : FF) (v : VV), K151 x8 f v → J κ 0 0 (wE G h f v) 151 [(0, .ref (h 0)), (1, .int x1), (2, .int x2), (3, .int x3), (4, .int x4), (5, .int x5), (6, .int x6), (7, .int x7), (8, .int x8)] []) : ∀ (n : Nat) (x8 : Int32) (f : FF) (v : VV), Q_X5_day_L103 x1 x2 x3 x4 x5 x6 x7 K142 K151 n x8 f v → J κ 0 0 (wE G h f v) 103 [(0, .ref (h 0)), (1, .int x1), (2, .int x2), (3, .int x3), (4, .int x4), (5, .int x5), (6, .int x6), (7, .int x7), (8, .int x8)] [] := by
  intro n
  induction n with
  | zero => intro x8 f v hq; exact False.elim hq
  | succ n ih =>
    intro x8 f v hq
    rw [Q_X5_day_L103] at hq
    refine j_iload 105 C dX5_day_103 rfl 8 rfl ?_
    refine j_iload 107 C dX5_day_105 rfl 4 rfl ?_
    refine j_icmp_ge 110 151 C dX5_day_107 rfl rfl (fun c_14 => ?_) (fun c_14 => ?_)
    · replace hq := hq.1 c_14
      refine J.l0 [0, 1, 2, 3, 4, 5, 6, 7, 8] rfl ?_
      exact hK151 _ _ _ hq
    · replace hq := hq.2 c_14
      refine j_aload_n 111 C dX5_day_110 rfl 0 rfl ?_
      refine j_get 114 C uX5 0 rfl rfl 4 (Nat.le_of_ble_eq_true rfl) lX5_16 (v := .ref (h 3)) rfl dX5_day_111 rfl ?_
      refine j_iload 116 C dX5_day_114 rfl 7 rfl ?_
      refine j_iconst 117 C dX5_day_116 rfl ic_2 ?_
      refine j_iload 119 C dX5_day_117 rfl 8 rfl ?_
      refine j_imul 120 C dX5_day_119 rfl ?_
      refine j_iadd 121 C dX5_day_120 rfl ?_
      obtain ⟨hi_15, hq⟩ := hq
      refine j_iald 122 C 3 (f := (f 2)) rfl hi_15 dX5_day_121 rfl ?_
      refine j_aload_n 123 C dX5_day_122 rfl 0 rfl ?_
      refine j_get 126 C uX5 0 rfl rfl 4 (Nat.le_of_ble_eq_true rfl) lX5_16 (v := .ref (h 3)) rfl dX5_day_123 rfl ?_
      refine j_iload 128 C dX5_day_126 rfl 7 rfl ?_
      refine j_iconst 129 C dX5_day_128 rfl ic_2 ?_
      refine j_iload 131 C dX5_day_129 rfl 8 rfl ?_
      refine j_imul 132 C dX5_day_131 rfl ?_
      refine j_iadd 133 C dX5_day_132 rfl ?_
      refine j_iconst 134 C dX5_day_133 rfl ic_1 ?_
      refine j_iadd 135 C dX5_day_134 rfl ?_
      obtain ⟨hi_16, hq⟩ := hq
      refine j_iald 136 C 3 (f := (f 2)) rfl hi_16 dX5_day_135 rfl ?_
      refine j_callSi 139 C [] (wE G h f v) (fun _ _ => (wE G h f v)) (As := [.int ((f 2) ((x7 + ((2 : Int32) * x8))).toNatClampNeg), .int ((f 2) (((x7 + ((2 : Int32) * x8)) + (1 : Int32))).toNatClampNeg)]) (m_X5_isPair G ((f 2) ((x7 + ((2 : Int32) * x8))).toNatClampNeg) ((f 2) (((x7 + ((2 : Int32) * x8)) + (1 : Int32))).toNatClampNeg) hq) oX5_isPair kX5_189 ⟨rfl, rfl⟩ eX5_isPair ⟨Nat.le_of_ble_eq_true rfl, Nat.le_of_ble_eq_true rfl⟩ ⟨Nat.zero_le _, Nat.zero_le _⟩ rfl (fun _ _ => rfl) (fun _ _ => rfl) rfl (Nat.le_of_ble_eq_true rfl) dX5_day_136 rfl (fun r_17 _ _ hq => ?_)
      refine j_if_ne 142 145 C dX5_day_139 rfl rfl (fun c_18 => ?_) (fun c_18 => ?_)
      · replace hq := hq.1 c_18
        obtain ⟨x_19, ex_19⟩ : ∃ y : Int32, y = (x8 + (1 : Int32)) := ⟨_, rfl⟩
        replace hq := hq x_19 ex_19
        refine j_iinc 148 C dX5_day_145 rfl 8 rfl (v := x_19) (by rw [ex_19]; rfl) (Nat.le_of_ble_eq_true rfl) [1, 2, 3, 4, 5, 6, 7, 8, 0] (lv' := [(0, .ref (h 0)), (1, .int x1), (2, .int x2), (3, .int x3), (4, .int x4), (5, .int x5), (6, .int x6), (7, .int x7), (8, .int x_19)]) rfl ?_
        refine j_goto 103 C dX5_day_148 rfl ?_
        refine J.l0 [0, 1, 2, 3, 4, 5, 6, 7, 8] rfl ?_
        exact ih _ _ _ hq
      · replace hq := hq.2 c_18
        refine J.l0 [0, 1, 2, 3, 4, 5, 6, 7, 8] rfl ?_
        exact hK142 _ _ _ hq
def Q_X5_day (p0 : Int32) (p1 : Int32) (p2 : Int32) (p3 : Int32) (p4 : Int32) (f : FF) (v : VV) (post : Int32 → FF → VV → Prop) : Prop := ∀ v_1 : VV, v_1 = fu v 0 (0 : Int32) → (Q_X5_isSheet p0 (fun r_2 => (((¬ r_2 = 0 → (Q_X5_isSort p1 (fun r_4 => (((r_4 = 0 → (post (-2 : Int32) f v_1)) ∧ (¬ r_4 = 0 → (Q_X5_within p3 (0 : Int32) (20 : Int32) (fun r_6 => (((r_6 = 0 → (post (-2 : Int32) f v_1)) ∧ (¬ r_6 = 0 → (Q_X5_within p4 (0 : Int32) (4 : Int32) (fun r_8 => (((¬ r_8 = 0 → (Q_X5_against p0 p1 p2 ((2 : Int32) * p3) f v_1 (fun r_10 => (((r_10 = 0 → (((¬ (v_1 2) = 0 → (∀ x_13 : Int32, x_13 = (((60 : Int32) * p0) + p2) → (∃ n_20 : Nat, Q_X5_day_L103 p0 p1 p2 p3 p4 r_10 x_13 (fun x_21 f_22 v_23 => (post (-2 : Int32) f_22 v_23)) (fun x_24 f_25 v_26 => (Q_X5_keep  f_25 v_26 (fun f_28 v_29 => (Q_X5_goDay x_13 p3 f_28 v_29 (fun r_30 f_31 v_32 => (Q_X5_tellDay p4 f_31 v_32 (fun r_33 f_34 v_35 => (Q_X5_putBack  f_34 v_35 (fun f_37 v_38 => (((¬ p4 = (1 : Int32) → (((¬ r_30 = (-9 : Int32) → (post ((-100 : Int32) - r_30) f_37 v_38)) ∧ (r_30 = (-9 : Int32) → (post r_33 f_37 v_38))))) ∧ (p4 = (1 : Int32) → (post r_30 f_37 v_38))))))))))))) n_20 (0 : Int32) f v_1))) ∧ ((v_1 2) = 0 → (post (-3 : Int32) f v_1))))) ∧ (¬ r_10 = 0 → (Q_X5_fails r_10 f v_1 (fun r_41 f_42 v_43 => (post r_41 f_42 v_43))))))))) ∧ (r_8 = 0 → (Q_X5_within p4 (10 : Int32) (16 : Int32) (fun r_44 => (((¬ r_44 = 0 → (Q_X5_against p0 p1 p2 ((2 : Int32) * p3) f v_1 (fun r_46 => (((r_46 = 0 → (((¬ (v_1 2) = 0 → (∀ x_49 : Int32, x_49 = (((60 : Int32) * p0) + p2) → (∃ n_50 : Nat, Q_X5_day_L103 p0 p1 p2 p3 p4 r_46 x_49 (fun x_51 f_52 v_53 => (post (-2 : Int32) f_52 v_53)) (fun x_54 f_55 v_56 => (Q_X5_keep  f_55 v_56 (fun f_58 v_59 => (Q_X5_goDay x_49 p3 f_58 v_59 (fun r_60 f_61 v_62 => (Q_X5_tellDay p4 f_61 v_62 (fun r_63 f_64 v_65 => (Q_X5_putBack  f_64 v_65 (fun f_67 v_68 => (((¬ p4 = (1 : Int32) → (((¬ r_60 = (-9 : Int32) → (post ((-100 : Int32) - r_60) f_67 v_68)) ∧ (r_60 = (-9 : Int32) → (post r_63 f_67 v_68))))) ∧ (p4 = (1 : Int32) → (post r_60 f_67 v_68))))))))))))) n_50 (0 : Int32) f v_1))) ∧ ((v_1 2) = 0 → (post (-3 : Int32) f v_1))))) ∧ (¬ r_46 = 0 → (Q_X5_fails r_46 f v_1 (fun r_71 f_72 v_73 => (post r_71 f_72 v_73))))))))) ∧ (r_44 = 0 → (post (-2 : Int32) f v_1)))))))))))))))))))))) ∧ (r_2 = 0 → (post (-1 : Int32) f v_1))))))
set_option maxRecDepth 100000 in
set_option maxHeartbeats 4000000 in
theorem m_X5_day {l : Launch} (G : Gx) (h : Nat → Nat) (p0 : Int32) (p1 : Int32) (p2 : Int32) (p3 : Int32) (p4 : Int32) (f : FF) (v : VV) {post : Int32 → FF → VV → Prop} (hq : Q_X5_day p0 p1 p2 p3 p4 f v post) : MetI l yX5_day (gC yX5_day cX5_day 10 (some .int)) rmX5_day G [.ref (h 0), .int p0, .int p1, .int p2, .int p3, .int p4] (wE G h) f v post := by
  refine met_i (own := RX5) (by decide) rfl (Nat.le_of_ble_eq_true rfl) (fun κ hκ C hR => ?_)
  unfold Q_X5_day at hq
  subst hκ
  show J κ 0 0 (wE G h f v) 0 [(0, .ref (h 0)), (1, .int p0), (2, .int p1), (3, .int p2), (4, .int p3), (5, .int p4)] []
  refine j_aload_n 1 C dX5_day_0 rfl 0 rfl ?_
  refine j_iconst 2 C dX5_day_1 rfl ic_0 ?_
  obtain ⟨v_1, ev_1⟩ : ∃ y : VV, y = fu v 0 (0 : Int32) := ⟨_, rfl⟩
  replace hq := hq v_1 ev_1
  refine j_put 5 C uX5 tyX5 tyX5_ok nmX5 0 rfl rfl 0 (Nat.le_of_ble_eq_true rfl) lX5_61 rfl rfl (Nat.le_of_ble_eq_true rfl) dX5_day_2 rfl (ws' := (wE G h f v_1)) (by subst ev_1; rfl) ?_
  refine j_iload_n 6 C dX5_day_5 rfl 1 rfl ?_
  refine j_callSi 9 C [] (wE G h f v_1) (fun _ _ => (wE G h f v_1)) (As := [.int p0]) (m_X5_isSheet G p0 hq) oX5_isSheet kX5_84 ⟨rfl, rfl⟩ eX5_isSheet ⟨Nat.le_of_ble_eq_true rfl, Nat.le_of_ble_eq_true rfl⟩ ⟨Nat.zero_le _, Nat.zero_le _⟩ rfl (fun _ _ => rfl) (fun _ _ => rfl) rfl (Nat.le_of_ble_eq_true rfl) dX5_day_6 rfl (fun r_2 _ _ hq => ?_)
  refine j_if_ne 12 14 C dX5_day_9 rfl rfl (fun c_3 => ?_) (fun c_3 => ?_)
  · replace hq := hq.1 c_3
    refine j_iload_n 15 C dX5_day_14 rfl 2 rfl ?_
    refine j_callSi 18 C [] (wE G h f v_1) (fun _ _ => (wE G h f v_1)) (As := [.int p1]) (m_X5_isSort G p1 hq) oX5_isSort kX5_88 ⟨rfl, rfl⟩ eX5_isSort ⟨Nat.le_of_ble_eq_true rfl, Nat.le_of_ble_eq_true rfl⟩ ⟨Nat.zero_le _, Nat.zero_le _⟩ rfl (fun _ _ => rfl) (fun _ _ => rfl) rfl (Nat.le_of_ble_eq_true rfl) dX5_day_15 rfl (fun r_4 _ _ hq => ?_)
    refine j_if_eq 21 54 C dX5_day_18 rfl rfl (fun c_5 => ?_) (fun c_5 => ?_)
    · replace hq := hq.1 c_5
      refine j_bipush 56 C dX5_day_54 rfl bc_m2 ?_
      exact hR _ _ _ f v_1 dX5_day_56 hq
    · replace hq := hq.2 c_5
      refine j_iload 23 C dX5_day_21 rfl 4 rfl ?_
      refine j_iconst 24 C dX5_day_23 rfl ic_0 ?_
      refine j_bipush 26 C dX5_day_24 rfl bc_20 ?_
      refine j_callSi 29 C [] (wE G h f v_1) (fun _ _ => (wE G h f v_1)) (As := [.int p3, .int (0 : Int32), .int (20 : Int32)]) (m_X5_within G p3 (0 : Int32) (20 : Int32) hq) oX5_within kX5_67 ⟨rfl, rfl⟩ eX5_within ⟨Nat.le_of_ble_eq_true rfl, Nat.le_of_ble_eq_true rfl⟩ ⟨Nat.zero_le _, Nat.zero_le _⟩ rfl (fun _ _ => rfl) (fun _ _ => rfl) rfl (Nat.le_of_ble_eq_true rfl) dX5_day_26 rfl (fun r_6 _ _ hq => ?_)
      refine j_if_eq 32 54 C dX5_day_29 rfl rfl (fun c_7 => ?_) (fun c_7 => ?_)
      · replace hq := hq.1 c_7
        refine j_bipush 56 C dX5_day_54 rfl bc_m2 ?_
        exact hR _ _ _ f v_1 dX5_day_56 hq
      · replace hq := hq.2 c_7
        refine j_iload 34 C dX5_day_32 rfl 5 rfl ?_
        refine j_iconst 35 C dX5_day_34 rfl ic_0 ?_
        refine j_iconst 36 C dX5_day_35 rfl ic_4 ?_
        refine j_callSi 39 C [] (wE G h f v_1) (fun _ _ => (wE G h f v_1)) (As := [.int p4, .int (0 : Int32), .int (4 : Int32)]) (m_X5_within G p4 (0 : Int32) (4 : Int32) hq) oX5_within kX5_67 ⟨rfl, rfl⟩ eX5_within ⟨Nat.le_of_ble_eq_true rfl, Nat.le_of_ble_eq_true rfl⟩ ⟨Nat.zero_le _, Nat.zero_le _⟩ rfl (fun _ _ => rfl) (fun _ _ => rfl) rfl (Nat.le_of_ble_eq_true rfl) dX5_day_36 rfl (fun r_8 _ _ hq => ?_)
        refine j_if_ne 42 57 C dX5_day_39 rfl rfl (fun c_9 => ?_) (fun c_9 => ?_)
        · replace hq := hq.1 c_9
          refine j_aload_n 58 C dX5_day_57 rfl 0 rfl ?_
          refine j_iload_n 59 C dX5_day_58 rfl 1 rfl ?_
          refine j_iload_n 60 C dX5_day_59 rfl 2 rfl ?_
          refine j_iload_n 61 C dX5_day_60 rfl 3 rfl ?_
          refine j_iconst 62 C dX5_day_61 rfl ic_2 ?_
          refine j_iload 64 C dX5_day_62 rfl 4 rfl ?_
          refine j_imul 65 C dX5_day_64 rfl ?_
          refine j_callVi_ro 68 C [] [] (As := [.int p0, .int p1, .int p2, .int ((2 : Int32) * p3)]) (m_X5_against G h p0 p1 p2 ((2 : Int32) * p3) f v_1 hq) oX5_against kX5_91 ⟨rfl, rfl⟩ eX5_against ⟨Nat.le_of_ble_eq_true rfl, Nat.le_of_ble_eq_true rfl⟩ ⟨Nat.zero_le _, Nat.zero_le _⟩ (List.append_nil _).symm (fun _ _ => rfl) 0 rfl rfl rfl (Nat.le_of_ble_eq_true rfl) dX5_day_65 rfl (fun r_10 hq => ?_)
          refine j_istore 70 C dX5_day_68 rfl (Nat.le_of_ble_eq_true rfl) [1, 2, 3, 4, 5, 6, 0] (lv' := [(0, .ref (h 0)), (1, .int p0), (2, .int p1), (3, .int p2), (4, .int p3), (5, .int p4), (6, .int r_10)]) rfl ?_
          refine j_iload 72 C dX5_day_70 rfl 6 rfl ?_
          refine j_if_eq 75 82 C dX5_day_72 rfl rfl (fun c_11 => ?_) (fun c_11 => ?_)
          · replace hq := hq.1 c_11
            refine j_aload_n 83 C dX5_day_82 rfl 0 rfl ?_
            refine j_get 86 C uX5 0 rfl rfl 5 (Nat.le_of_ble_eq_true rfl) lX5_71 (v := .int (v_1 2)) rfl dX5_day_83 rfl ?_
            refine j_if_ne 89 92 C dX5_day_86 rfl rfl (fun c_12 => ?_) (fun c_12 => ?_)
            · replace hq := hq.1 c_12
              refine j_bipush 94 C dX5_day_92 rfl bc_60 ?_
              refine j_iload_n 95 C dX5_day_94 rfl 1 rfl ?_
              refine j_imul 96 C dX5_day_95 rfl ?_
              refine j_iload_n 97 C dX5_day_96 rfl 3 rfl ?_
              refine j_iadd 98 C dX5_day_97 rfl ?_
              refine J.topi (fun x_13 ex_13 => ?_)
              replace hq := hq x_13 ex_13
              refine j_istore 100 C dX5_day_98 rfl (Nat.le_of_ble_eq_true rfl) [1, 2, 3, 4, 5, 6, 7, 0] (lv' := [(0, .ref (h 0)), (1, .int p0), (2, .int p1), (3, .int p2), (4, .int p3), (5, .int p4), (6, .int r_10), (7, .int x_13)]) rfl ?_
              refine j_iconst 101 C dX5_day_100 rfl ic_0 ?_
              refine j_istore 103 C dX5_day_101 rfl (Nat.le_of_ble_eq_true rfl) [1, 2, 3, 4, 5, 6, 7, 8, 0] (lv' := [(0, .ref (h 0)), (1, .int p0), (2, .int p1), (3, .int p2), (4, .int p3), (5, .int p4), (6, .int r_10), (7, .int x_13), (8, .int (0 : Int32))]) rfl ?_
              obtain ⟨n_20, hq⟩ := hq
              refine t_X5_day_L103 C ?_ ?_ n_20 _ _ _ hq
              · intro x_21 f_22 v_23 hq
                refine j_bipush 144 C dX5_day_142 rfl bc_m2 ?_
                exact hR _ _ _ f_22 v_23 dX5_day_144 hq
              · intro x_24 f_25 v_26 hq
                refine j_aload_n 152 C dX5_day_151 rfl 0 rfl ?_
                refine j_callVv 155 C [] [] (fun f' v' => (wE G h f' v')) (As := []) (m_X5_keep G h f_25 v_26 hq) oX5_keep kX5_192 ⟨rfl, rfl⟩ eX5_keep ⟨Nat.le_of_ble_eq_true rfl, Nat.le_of_ble_eq_true rfl⟩ ⟨Nat.zero_le _, Nat.zero_le _⟩ (List.append_nil _).symm (fun _ _ => List.append_nil _) (fun _ _ => rfl) 0 rfl rfl rfl (Nat.le_of_ble_eq_true rfl) dX5_day_152 rfl (fun f_28 v_29 hq => ?_)
                refine j_aload_n 156 C dX5_day_155 rfl 0 rfl ?_
                refine j_iload 158 C dX5_day_156 rfl 7 rfl ?_
                refine j_iload 160 C dX5_day_158 rfl 4 rfl ?_
                refine j_callVi 163 C [] [] (fun f' v' => (wE G h f' v')) (As := [.int x_13, .int p3]) (m_X5_goDay G h x_13 p3 f_28 v_29 hq) oX5_goDay kX5_195 ⟨rfl, rfl⟩ eX5_goDay ⟨Nat.le_of_ble_eq_true rfl, Nat.le_of_ble_eq_true rfl⟩ ⟨Nat.zero_le _, Nat.zero_le _⟩ (List.append_nil _).symm (fun _ _ => List.append_nil _) (fun _ _ => rfl) 0 rfl rfl rfl (Nat.le_of_ble_eq_true rfl) dX5_day_160 rfl (fun r_30 f_31 v_32 hq => ?_)
                refine j_istore 165 C dX5_day_163 rfl (Nat.le_of_ble_eq_true rfl) [1, 2, 3, 4, 5, 6, 7, 8, 0] (lv' := [(0, .ref (h 0)), (1, .int p0), (2, .int p1), (3, .int p2), (4, .int p3), (5, .int p4), (6, .int r_10), (7, .int x_13), (8, .int r_30)]) rfl ?_
                refine j_aload_n 166 C dX5_day_165 rfl 0 rfl ?_
                refine j_iload 168 C dX5_day_166 rfl 5 rfl ?_
                refine j_callVi 171 C [] [] (fun f' v' => (wE G h f' v')) (As := [.int p4]) (m_X5_tellDay G h p4 f_31 v_32 hq) oX5_tellDay kX5_198 ⟨rfl, rfl⟩ eX5_tellDay ⟨Nat.le_of_ble_eq_true rfl, Nat.le_of_ble_eq_true rfl⟩ ⟨Nat.zero_le _, Nat.zero_le _⟩ (List.append_nil _).symm (fun _ _ => List.append_nil _) (fun _ _ => rfl) 0 rfl rfl rfl (Nat.le_of_ble_eq_true rfl) dX5_day_168 rfl (fun r_33 f_34 v_35 hq => ?_)
                refine j_istore 173 C dX5_day_171 rfl (Nat.le_of_ble_eq_true rfl) [1, 2, 3, 4, 5, 6, 7, 8, 9, 0] (lv' := [(0, .ref (h 0)), (1, .int p0), (2, .int p1), (3, .int p2), (4, .int p3), (5, .int p4), (6, .int r_10), (7, .int x_13), (8, .int r_30), (9, .int r_33)]) rfl ?_
                refine j_aload_n 174 C dX5_day_173 rfl 0 rfl ?_
                refine j_callVv 177 C [] [] (fun f' v' => (wE G h f' v')) (As := []) (m_X5_putBack G h f_34 v_35 hq) oX5_putBack kX5_201 ⟨rfl, rfl⟩ eX5_putBack ⟨Nat.le_of_ble_eq_true rfl, Nat.le_of_ble_eq_true rfl⟩ ⟨Nat.zero_le _, Nat.zero_le _⟩ (List.append_nil _).symm (fun _ _ => List.append_nil _) (fun _ _ => rfl) 0 rfl rfl rfl (Nat.le_of_ble_eq_true rfl) dX5_day_174 rfl (fun f_37 v_38 hq => ?_)
                refine j_iload 179 C dX5_day_177 rfl 5 rfl ?_
                refine j_iconst 180 C dX5_day_179 rfl ic_1 ?_
                refine j_icmp_ne 183 188 C dX5_day_180 rfl rfl (fun c_39 => ?_) (fun c_39 => ?_)
                · replace hq := hq.1 c_39
                  refine j_iload 190 C dX5_day_188 rfl 8 rfl ?_
                  refine j_bipush 192 C dX5_day_190 rfl bc_m9 ?_
                  refine j_icmp_ne 195 200 C dX5_day_192 rfl rfl (fun c_40 => ?_) (fun c_40 => ?_)
                  · replace hq := hq.1 c_40
                    refine j_bipush 202 C dX5_day_200 rfl bc_m100 ?_
                    refine j_iload 204 C dX5_day_202 rfl 8 rfl ?_
                    refine j_isub 205 C dX5_day_204 rfl ?_
                    exact hR _ _ _ f_37 v_38 dX5_day_205 hq
                  · replace hq := hq.2 c_40
                    refine j_iload 197 C dX5_day_195 rfl 9 rfl ?_
                    refine j_goto 205 C dX5_day_197 rfl ?_
                    exact hR _ _ _ f_37 v_38 dX5_day_205 hq
                · replace hq := hq.2 c_39
                  refine j_iload 185 C dX5_day_183 rfl 8 rfl ?_
                  refine j_goto 205 C dX5_day_185 rfl ?_
                  exact hR _ _ _ f_37 v_38 dX5_day_205 hq
            · replace hq := hq.2 c_12
              refine j_bipush 91 C dX5_day_89 rfl bc_m3 ?_
              exact hR _ _ _ f v_1 dX5_day_91 hq
          · replace hq := hq.2 c_11
            refine j_aload_n 76 C dX5_day_75 rfl 0 rfl ?_
            refine j_iload 78 C dX5_day_76 rfl 6 rfl ?_
            refine j_callVi 81 C [] [] (fun f' v' => (wE G h f' v')) (As := [.int r_10]) (m_X5_fails G h r_10 f v_1 hq) oX5_fails kX5_95 ⟨rfl, rfl⟩ eX5_fails ⟨Nat.le_of_ble_eq_true rfl, Nat.le_of_ble_eq_true rfl⟩ ⟨Nat.zero_le _, Nat.zero_le _⟩ (List.append_nil _).symm (fun _ _ => List.append_nil _) (fun _ _ => rfl) 0 rfl rfl rfl (Nat.le_of_ble_eq_true rfl) dX5_day_78 rfl (fun r_41 f_42 v_43 hq => ?_)
            exact hR _ _ _ f_42 v_43 dX5_day_81 hq
        · replace hq := hq.2 c_9
          refine j_iload 44 C dX5_day_42 rfl 5 rfl ?_
          refine j_bipush 46 C dX5_day_44 rfl bc_10 ?_
          refine j_bipush 48 C dX5_day_46 rfl bc_16 ?_
          refine j_callSi 51 C [] (wE G h f v_1) (fun _ _ => (wE G h f v_1)) (As := [.int p4, .int (10 : Int32), .int (16 : Int32)]) (m_X5_within G p4 (10 : Int32) (16 : Int32) hq) oX5_within kX5_67 ⟨rfl, rfl⟩ eX5_within ⟨Nat.le_of_ble_eq_true rfl, Nat.le_of_ble_eq_true rfl⟩ ⟨Nat.zero_le _, Nat.zero_le _⟩ rfl (fun _ _ => rfl) (fun _ _ => rfl) rfl (Nat.le_of_ble_eq_true rfl) dX5_day_48 rfl (fun r_44 _ _ hq => ?_)
          refine j_if_ne 54 57 C dX5_day_51 rfl rfl (fun c_45 => ?_) (fun c_45 => ?_)
          · replace hq := hq.1 c_45
            refine j_aload_n 58 C dX5_day_57 rfl 0 rfl ?_
            refine j_iload_n 59 C dX5_day_58 rfl 1 rfl ?_
            refine j_iload_n 60 C dX5_day_59 rfl 2 rfl ?_
            refine j_iload_n 61 C dX5_day_60 rfl 3 rfl ?_
            refine j_iconst 62 C dX5_day_61 rfl ic_2 ?_
            refine j_iload 64 C dX5_day_62 rfl 4 rfl ?_
            refine j_imul 65 C dX5_day_64 rfl ?_
            refine j_callVi_ro 68 C [] [] (As := [.int p0, .int p1, .int p2, .int ((2 : Int32) * p3)]) (m_X5_against G h p0 p1 p2 ((2 : Int32) * p3) f v_1 hq) oX5_against kX5_91 ⟨rfl, rfl⟩ eX5_against ⟨Nat.le_of_ble_eq_true rfl, Nat.le_of_ble_eq_true rfl⟩ ⟨Nat.zero_le _, Nat.zero_le _⟩ (List.append_nil _).symm (fun _ _ => rfl) 0 rfl rfl rfl (Nat.le_of_ble_eq_true rfl) dX5_day_65 rfl (fun r_46 hq => ?_)
            refine j_istore 70 C dX5_day_68 rfl (Nat.le_of_ble_eq_true rfl) [1, 2, 3, 4, 5, 6, 0] (lv' := [(0, .ref (h 0)), (1, .int p0), (2, .int p1), (3, .int p2), (4, .int p3), (5, .int p4), (6, .int r_46)]) rfl ?_
            refine j_iload 72 C dX5_day_70 rfl 6 rfl ?_
            refine j_if_eq 75 82 C dX5_day_72 rfl rfl (fun c_47 => ?_) (fun c_47 => ?_)
            · replace hq := hq.1 c_47
              refine j_aload_n 83 C dX5_day_82 rfl 0 rfl ?_
              refine j_get 86 C uX5 0 rfl rfl 5 (Nat.le_of_ble_eq_true rfl) lX5_71 (v := .int (v_1 2)) rfl dX5_day_83 rfl ?_
              refine j_if_ne 89 92 C dX5_day_86 rfl rfl (fun c_48 => ?_) (fun c_48 => ?_)
              · replace hq := hq.1 c_48
                refine j_bipush 94 C dX5_day_92 rfl bc_60 ?_
                refine j_iload_n 95 C dX5_day_94 rfl 1 rfl ?_
                refine j_imul 96 C dX5_day_95 rfl ?_
                refine j_iload_n 97 C dX5_day_96 rfl 3 rfl ?_
                refine j_iadd 98 C dX5_day_97 rfl ?_
                refine J.topi (fun x_49 ex_49 => ?_)
                replace hq := hq x_49 ex_49
                refine j_istore 100 C dX5_day_98 rfl (Nat.le_of_ble_eq_true rfl) [1, 2, 3, 4, 5, 6, 7, 0] (lv' := [(0, .ref (h 0)), (1, .int p0), (2, .int p1), (3, .int p2), (4, .int p3), (5, .int p4), (6, .int r_46), (7, .int x_49)]) rfl ?_
                refine j_iconst 101 C dX5_day_100 rfl ic_0 ?_
                refine j_istore 103 C dX5_day_101 rfl (Nat.le_of_ble_eq_true rfl) [1, 2, 3, 4, 5, 6, 7, 8, 0] (lv' := [(0, .ref (h 0)), (1, .int p0), (2, .int p1), (3, .int p2), (4, .int p3), (5, .int p4), (6, .int r_46), (7, .int x_49), (8, .int (0 : Int32))]) rfl ?_
                obtain ⟨n_50, hq⟩ := hq
                refine t_X5_day_L103 C ?_ ?_ n_50 _ _ _ hq
                · intro x_51 f_52 v_53 hq
                  refine j_bipush 144 C dX5_day_142 rfl bc_m2 ?_
                  exact hR _ _ _ f_52 v_53 dX5_day_144 hq
                · intro x_54 f_55 v_56 hq
                  refine j_aload_n 152 C dX5_day_151 rfl 0 rfl ?_
                  refine j_callVv 155 C [] [] (fun f' v' => (wE G h f' v')) (As := []) (m_X5_keep G h f_55 v_56 hq) oX5_keep kX5_192 ⟨rfl, rfl⟩ eX5_keep ⟨Nat.le_of_ble_eq_true rfl, Nat.le_of_ble_eq_true rfl⟩ ⟨Nat.zero_le _, Nat.zero_le _⟩ (List.append_nil _).symm (fun _ _ => List.append_nil _) (fun _ _ => rfl) 0 rfl rfl rfl (Nat.le_of_ble_eq_true rfl) dX5_day_152 rfl (fun f_58 v_59 hq => ?_)
                  refine j_aload_n 156 C dX5_day_155 rfl 0 rfl ?_
                  refine j_iload 158 C dX5_day_156 rfl 7 rfl ?_
                  refine j_iload 160 C dX5_day_158 rfl 4 rfl ?_
                  refine j_callVi 163 C [] [] (fun f' v' => (wE G h f' v')) (As := [.int x_49, .int p3]) (m_X5_goDay G h x_49 p3 f_58 v_59 hq) oX5_goDay kX5_195 ⟨rfl, rfl⟩ eX5_goDay ⟨Nat.le_of_ble_eq_true rfl, Nat.le_of_ble_eq_true rfl⟩ ⟨Nat.zero_le _, Nat.zero_le _⟩ (List.append_nil _).symm (fun _ _ => List.append_nil _) (fun _ _ => rfl) 0 rfl rfl rfl (Nat.le_of_ble_eq_true rfl) dX5_day_160 rfl (fun r_60 f_61 v_62 hq => ?_)
                  refine j_istore 165 C dX5_day_163 rfl (Nat.le_of_ble_eq_true rfl) [1, 2, 3, 4, 5, 6, 7, 8, 0] (lv' := [(0, .ref (h 0)), (1, .int p0), (2, .int p1), (3, .int p2), (4, .int p3), (5, .int p4), (6, .int r_46), (7, .int x_49), (8, .int r_60)]) rfl ?_
                  refine j_aload_n 166 C dX5_day_165 rfl 0 rfl ?_
                  refine j_iload 168 C dX5_day_166 rfl 5 rfl ?_
                  refine j_callVi 171 C [] [] (fun f' v' => (wE G h f' v')) (As := [.int p4]) (m_X5_tellDay G h p4 f_61 v_62 hq) oX5_tellDay kX5_198 ⟨rfl, rfl⟩ eX5_tellDay ⟨Nat.le_of_ble_eq_true rfl, Nat.le_of_ble_eq_true rfl⟩ ⟨Nat.zero_le _, Nat.zero_le _⟩ (List.append_nil _).symm (fun _ _ => List.append_nil _) (fun _ _ => rfl) 0 rfl rfl rfl (Nat.le_of_ble_eq_true rfl) dX5_day_168 rfl (fun r_63 f_64 v_65 hq => ?_)
                  refine j_istore 173 C dX5_day_171 rfl (Nat.le_of_ble_eq_true rfl) [1, 2, 3, 4, 5, 6, 7, 8, 9, 0] (lv' := [(0, .ref (h 0)), (1, .int p0), (2, .int p1), (3, .int p2), (4, .int p3), (5, .int p4), (6, .int r_46), (7, .int x_49), (8, .int r_60), (9, .int r_63)]) rfl ?_
                  refine j_aload_n 174 C dX5_day_173 rfl 0 rfl ?_
                  refine j_callVv 177 C [] [] (fun f' v' => (wE G h f' v')) (As := []) (m_X5_putBack G h f_64 v_65 hq) oX5_putBack kX5_201 ⟨rfl, rfl⟩ eX5_putBack ⟨Nat.le_of_ble_eq_true rfl, Nat.le_of_ble_eq_true rfl⟩ ⟨Nat.zero_le _, Nat.zero_le _⟩ (List.append_nil _).symm (fun _ _ => List.append_nil _) (fun _ _ => rfl) 0 rfl rfl rfl (Nat.le_of_ble_eq_true rfl) dX5_day_174 rfl (fun f_67 v_68 hq => ?_)
                  refine j_iload 179 C dX5_day_177 rfl 5 rfl ?_
                  refine j_iconst 180 C dX5_day_179 rfl ic_1 ?_
                  refine j_icmp_ne 183 188 C dX5_day_180 rfl rfl (fun c_69 => ?_) (fun c_69 => ?_)
                  · replace hq := hq.1 c_69
                    refine j_iload 190 C dX5_day_188 rfl 8 rfl ?_
                    refine j_bipush 192 C dX5_day_190 rfl bc_m9 ?_
                    refine j_icmp_ne 195 200 C dX5_day_192 rfl rfl (fun c_70 => ?_) (fun c_70 => ?_)
                    · replace hq := hq.1 c_70
                      refine j_bipush 202 C dX5_day_200 rfl bc_m100 ?_
                      refine j_iload 204 C dX5_day_202 rfl 8 rfl ?_
                      refine j_isub 205 C dX5_day_204 rfl ?_
                      exact hR _ _ _ f_67 v_68 dX5_day_205 hq
                    · replace hq := hq.2 c_70
                      refine j_iload 197 C dX5_day_195 rfl 9 rfl ?_
                      refine j_goto 205 C dX5_day_197 rfl ?_
                      exact hR _ _ _ f_67 v_68 dX5_day_205 hq
                  · replace hq := hq.2 c_69
                    refine j_iload 185 C dX5_day_183 rfl 8 rfl ?_
                    refine j_goto 205 C dX5_day_185 rfl ?_
                    exact hR _ _ _ f_67 v_68 dX5_day_205 hq
              · replace hq := hq.2 c_48
                refine j_bipush 91 C dX5_day_89 rfl bc_m3 ?_
                exact hR _ _ _ f v_1 dX5_day_91 hq
            · replace hq := hq.2 c_47
              refine j_aload_n 76 C dX5_day_75 rfl 0 rfl ?_
              refine j_iload 78 C dX5_day_76 rfl 6 rfl ?_
              refine j_callVi 81 C [] [] (fun f' v' => (wE G h f' v')) (As := [.int r_46]) (m_X5_fails G h r_46 f v_1 hq) oX5_fails kX5_95 ⟨rfl, rfl⟩ eX5_fails ⟨Nat.le_of_ble_eq_true rfl, Nat.le_of_ble_eq_true rfl⟩ ⟨Nat.zero_le _, Nat.zero_le _⟩ (List.append_nil _).symm (fun _ _ => List.append_nil _) (fun _ _ => rfl) 0 rfl rfl rfl (Nat.le_of_ble_eq_true rfl) dX5_day_78 rfl (fun r_71 f_72 v_73 hq => ?_)
              exact hR _ _ _ f_72 v_73 dX5_day_81 hq
          · replace hq := hq.2 c_45
            refine j_bipush 56 C dX5_day_54 rfl bc_m2 ?_
            exact hR _ _ _ f v_1 dX5_day_56 hq
  · replace hq := hq.2 c_3
    refine j_iconst 13 C dX5_day_12 rfl ic_m1 ?_
    exact hR _ _ _ f v_1 dX5_day_13 hq
def Q_X5_cover (p0 : Int32) (f : FF) (v : VV) (post : Int32 → FF → VV → Prop) : Prop := Q_X5_within p0 (0 : Int32) (2 : Int32) (fun r_1 => (((¬ r_1 = 0 → (((¬ (v 2) = 0 → (Q_X5_findKillers  f v (fun f_5 v_6 => (Q_X5_findCover  f_5 v_6 (fun r_7 => (((¬ p0 = 0 → (((¬ p0 = (1 : Int32) → (Q_X5_size r_7 (fun r_10 => (post r_10 f_5 v_6)))) ∧ (p0 = (1 : Int32) → (Q_X5_weightOfSet r_7 f_5 v_6 (fun r_11 => (post r_11 f_5 v_6))))))) ∧ (p0 = 0 → (post r_7 f_5 v_6))))))))) ∧ ((v 2) = 0 → (post (-3 : Int32) f v))))) ∧ (r_1 = 0 → (post (-2 : Int32) f v)))))
set_option maxRecDepth 100000 in
set_option maxHeartbeats 4000000 in
theorem m_X5_cover {l : Launch} (G : Gx) (h : Nat → Nat) (p0 : Int32) (f : FF) (v : VV) {post : Int32 → FF → VV → Prop} (hq : Q_X5_cover p0 f v post) : MetI l yX5_cover (gC yX5_cover cX5_cover 3 (some .int)) rmX5_cover G [.ref (h 0), .int p0] (wE G h) f v post := by
  refine met_i (own := RX5) (by decide) rfl (Nat.le_of_ble_eq_true rfl) (fun κ hκ C hR => ?_)
  unfold Q_X5_cover at hq
  subst hκ
  show J κ 0 0 (wE G h f v) 0 [(0, .ref (h 0)), (1, .int p0)] []
  refine j_iload_n 1 C dX5_cover_0 rfl 1 rfl ?_
  refine j_iconst 2 C dX5_cover_1 rfl ic_0 ?_
  refine j_iconst 3 C dX5_cover_2 rfl ic_2 ?_
  refine j_callSi 6 C [] (wE G h f v) (fun _ _ => (wE G h f v)) (As := [.int p0, .int (0 : Int32), .int (2 : Int32)]) (m_X5_within G p0 (0 : Int32) (2 : Int32) hq) oX5_within kX5_67 ⟨rfl, rfl⟩ eX5_within ⟨Nat.le_of_ble_eq_true rfl, Nat.le_of_ble_eq_true rfl⟩ ⟨Nat.zero_le _, Nat.zero_le _⟩ rfl (fun _ _ => rfl) (fun _ _ => rfl) rfl (Nat.le_of_ble_eq_true rfl) dX5_cover_3 rfl (fun r_1 _ _ hq => ?_)
  refine j_if_ne 9 12 C dX5_cover_6 rfl rfl (fun c_2 => ?_) (fun c_2 => ?_)
  · replace hq := hq.1 c_2
    refine j_aload_n 13 C dX5_cover_12 rfl 0 rfl ?_
    refine j_get 16 C uX5 0 rfl rfl 5 (Nat.le_of_ble_eq_true rfl) lX5_71 (v := .int (v 2)) rfl dX5_cover_13 rfl ?_
    refine j_if_ne 19 22 C dX5_cover_16 rfl rfl (fun c_3 => ?_) (fun c_3 => ?_)
    · replace hq := hq.1 c_3
      refine j_aload_n 23 C dX5_cover_22 rfl 0 rfl ?_
      refine j_callVv 26 C [] [] (fun f' v' => (wE G h f' v')) (As := []) (m_X5_findKillers G h f v hq) oX5_findKillers kX5_162 ⟨rfl, rfl⟩ eX5_findKillers ⟨Nat.le_of_ble_eq_true rfl, Nat.le_of_ble_eq_true rfl⟩ ⟨Nat.zero_le _, Nat.zero_le _⟩ (List.append_nil _).symm (fun _ _ => List.append_nil _) (fun _ _ => rfl) 0 rfl rfl rfl (Nat.le_of_ble_eq_true rfl) dX5_cover_23 rfl (fun f_5 v_6 hq => ?_)
      refine j_aload_n 27 C dX5_cover_26 rfl 0 rfl ?_
      refine j_callVi_ro 30 C [] [] (As := []) (m_X5_findCover G h f_5 v_6 hq) oX5_findCover kX5_213 ⟨rfl, rfl⟩ eX5_findCover ⟨Nat.le_of_ble_eq_true rfl, Nat.le_of_ble_eq_true rfl⟩ ⟨Nat.zero_le _, Nat.zero_le _⟩ (List.append_nil _).symm (fun _ _ => rfl) 0 rfl rfl rfl (Nat.le_of_ble_eq_true rfl) dX5_cover_27 rfl (fun r_7 hq => ?_)
      refine j_istore_n 31 C dX5_cover_30 rfl (Nat.le_of_ble_eq_true rfl) [1, 2, 0] (lv' := [(0, .ref (h 0)), (1, .int p0), (2, .int r_7)]) rfl ?_
      refine j_iload_n 32 C dX5_cover_31 rfl 1 rfl ?_
      refine j_if_ne 35 39 C dX5_cover_32 rfl rfl (fun c_8 => ?_) (fun c_8 => ?_)
      · replace hq := hq.1 c_8
        refine j_iload_n 40 C dX5_cover_39 rfl 1 rfl ?_
        refine j_iconst 41 C dX5_cover_40 rfl ic_1 ?_
        refine j_icmp_ne 44 52 C dX5_cover_41 rfl rfl (fun c_9 => ?_) (fun c_9 => ?_)
        · replace hq := hq.1 c_9
          refine j_iload_n 53 C dX5_cover_52 rfl 2 rfl ?_
          refine j_callSi 56 C [] (wE G h f_5 v_6) (fun _ _ => (wE G h f_5 v_6)) (As := [.int r_7]) (m_X5_size G r_7 hq) oX5_size kX5_183 ⟨rfl, rfl⟩ eX5_size ⟨Nat.le_of_ble_eq_true rfl, Nat.le_of_ble_eq_true rfl⟩ ⟨Nat.zero_le _, Nat.zero_le _⟩ rfl (fun _ _ => rfl) (fun _ _ => rfl) rfl (Nat.le_of_ble_eq_true rfl) dX5_cover_53 rfl (fun r_10 _ _ hq => ?_)
          exact hR _ _ _ f_5 v_6 dX5_cover_56 hq
        · replace hq := hq.2 c_9
          refine j_aload_n 45 C dX5_cover_44 rfl 0 rfl ?_
          refine j_iload_n 46 C dX5_cover_45 rfl 2 rfl ?_
          refine j_callVi_ro 49 C [] [] (As := [.int r_7]) (m_X5_weightOfSet G h r_7 f_5 v_6 hq) oX5_weightOfSet kX5_216 ⟨rfl, rfl⟩ eX5_weightOfSet ⟨Nat.le_of_ble_eq_true rfl, Nat.le_of_ble_eq_true rfl⟩ ⟨Nat.zero_le _, Nat.zero_le _⟩ (List.append_nil _).symm (fun _ _ => rfl) 0 rfl rfl rfl (Nat.le_of_ble_eq_true rfl) dX5_cover_46 rfl (fun r_11 hq => ?_)
          refine j_goto 56 C dX5_cover_49 rfl ?_
          exact hR _ _ _ f_5 v_6 dX5_cover_56 hq
      · replace hq := hq.2 c_8
        refine j_iload_n 36 C dX5_cover_35 rfl 2 rfl ?_
        refine j_goto 56 C dX5_cover_36 rfl ?_
        exact hR _ _ _ f_5 v_6 dX5_cover_56 hq
    · replace hq := hq.2 c_3
      refine j_bipush 21 C dX5_cover_19 rfl bc_m3 ?_
      exact hR _ _ _ f v dX5_cover_21 hq
  · replace hq := hq.2 c_2
    refine j_bipush 11 C dX5_cover_9 rfl bc_m2 ?_
    exact hR _ _ _ f v dX5_cover_11 hq
def Q_X5_isBetter (p0 : Int32) (p1 : Int32) (p2 : Int32) (p3 : Int32) (f : FF) (v : VV) (post : Int32 → Prop) : Prop := Q_X5_killedBy p0 f v (fun r_1 => (Q_X5_size (r_1 &&& p2) (fun r_2 => (Q_X5_killedBy p1 f v (fun r_3 => (Q_X5_size (r_3 &&& p2) (fun r_4 => (((¬ p3 = 0 → (((¬ p3 = (1 : Int32) → (Q_X5_weightOf p1 f v (fun r_7 => (Q_X5_weightOf p0 f v (fun r_8 => ((((r_2 * r_7) ≤ (r_4 * r_8) → (post (0 : Int32))) ∧ (¬ (r_2 * r_7) ≤ (r_4 * r_8) → (post (1 : Int32)))))))))) ∧ (p3 = (1 : Int32) → (Q_X5_weightOf p0 f v (fun r_10 => (Q_X5_weightOf p1 f v (fun r_11 => (((r_11 ≤ r_10 → (post (0 : Int32))) ∧ (¬ r_11 ≤ r_10 → (post (1 : Int32))))))))))))) ∧ (p3 = 0 → (((r_2 ≤ r_4 → (post (0 : Int32))) ∧ (¬ r_2 ≤ r_4 → (post (1 : Int32)))))))))))))))
set_option maxRecDepth 100000 in
set_option maxHeartbeats 4000000 in
theorem m_X5_isBetter {l : Launch} (G : Gx) (h : Nat → Nat) (p0 : Int32) (p1 : Int32) (p2 : Int32) (p3 : Int32) (f : FF) (v : VV) {post : Int32 → Prop} (hq : Q_X5_isBetter p0 p1 p2 p3 f v post) : MetI l yX5_isBetter (gC yX5_isBetter cX5_isBetter 7 (some .boolean)) rmX5_isBetter G [.ref (h 0), .int p0, .int p1, .int p2, .int p3] (wE G h) f v (fun r f' v' => post r ∧ f' = f ∧ v' = v) := by
  refine met_z (own := RX5) (by decide) rfl (Nat.le_of_ble_eq_true rfl) (fun κ hκ C hR => ?_)
  unfold Q_X5_isBetter at hq
  subst hκ
  show J κ 0 0 (wE G h f v) 0 [(0, .ref (h 0)), (1, .int p0), (2, .int p1), (3, .int p2), (4, .int p3)] []
  refine j_aload_n 1 C dX5_isBetter_0 rfl 0 rfl ?_
  refine j_iload_n 2 C dX5_isBetter_1 rfl 1 rfl ?_
  refine j_callVi_ro 5 C [] [] (As := [.int p0]) (m_X5_killedBy G h p0 f v hq) oX5_killedBy kX5_165 ⟨rfl, rfl⟩ eX5_killedBy ⟨Nat.le_of_ble_eq_true rfl, Nat.le_of_ble_eq_true rfl⟩ ⟨Nat.zero_le _, Nat.zero_le _⟩ (List.append_nil _).symm (fun _ _ => rfl) 0 rfl rfl rfl (Nat.le_of_ble_eq_true rfl) dX5_isBetter_2 rfl (fun r_1 hq => ?_)
  refine j_iload_n 6 C dX5_isBetter_5 rfl 3 rfl ?_
  refine j_iand 7 C dX5_isBetter_6 rfl ?_
  refine j_callSi 10 C [] (wE G h f v) (fun _ _ => (wE G h f v)) (As := [.int (r_1 &&& p2)]) (m_X5_size G (r_1 &&& p2) hq) oX5_size kX5_183 ⟨rfl, rfl⟩ eX5_size ⟨Nat.le_of_ble_eq_true rfl, Nat.le_of_ble_eq_true rfl⟩ ⟨Nat.zero_le _, Nat.zero_le _⟩ rfl (fun _ _ => rfl) (fun _ _ => rfl) rfl (Nat.le_of_ble_eq_true rfl) dX5_isBetter_7 rfl (fun r_2 _ _ hq => ?_)
  refine j_istore 12 C dX5_isBetter_10 rfl (Nat.le_of_ble_eq_true rfl) [1, 2, 3, 4, 5, 0] (lv' := [(0, .ref (h 0)), (1, .int p0), (2, .int p1), (3, .int p2), (4, .int p3), (5, .int r_2)]) rfl ?_
  refine j_aload_n 13 C dX5_isBetter_12 rfl 0 rfl ?_
  refine j_iload_n 14 C dX5_isBetter_13 rfl 2 rfl ?_
  refine j_callVi_ro 17 C [] [] (As := [.int p1]) (m_X5_killedBy G h p1 f v hq) oX5_killedBy kX5_165 ⟨rfl, rfl⟩ eX5_killedBy ⟨Nat.le_of_ble_eq_true rfl, Nat.le_of_ble_eq_true rfl⟩ ⟨Nat.zero_le _, Nat.zero_le _⟩ (List.append_nil _).symm (fun _ _ => rfl) 0 rfl rfl rfl (Nat.le_of_ble_eq_true rfl) dX5_isBetter_14 rfl (fun r_3 hq => ?_)
  refine j_iload_n 18 C dX5_isBetter_17 rfl 3 rfl ?_
  refine j_iand 19 C dX5_isBetter_18 rfl ?_
  refine j_callSi 22 C [] (wE G h f v) (fun _ _ => (wE G h f v)) (As := [.int (r_3 &&& p2)]) (m_X5_size G (r_3 &&& p2) hq) oX5_size kX5_183 ⟨rfl, rfl⟩ eX5_size ⟨Nat.le_of_ble_eq_true rfl, Nat.le_of_ble_eq_true rfl⟩ ⟨Nat.zero_le _, Nat.zero_le _⟩ rfl (fun _ _ => rfl) (fun _ _ => rfl) rfl (Nat.le_of_ble_eq_true rfl) dX5_isBetter_19 rfl (fun r_4 _ _ hq => ?_)
  refine j_istore 24 C dX5_isBetter_22 rfl (Nat.le_of_ble_eq_true rfl) [1, 2, 3, 4, 5, 6, 0] (lv' := [(0, .ref (h 0)), (1, .int p0), (2, .int p1), (3, .int p2), (4, .int p3), (5, .int r_2), (6, .int r_4)]) rfl ?_
  refine j_iload 26 C dX5_isBetter_24 rfl 4 rfl ?_
  refine j_if_ne 29 44 C dX5_isBetter_26 rfl rfl (fun c_5 => ?_) (fun c_5 => ?_)
  · replace hq := hq.1 c_5
    refine j_iload 46 C dX5_isBetter_44 rfl 4 rfl ?_
    refine j_iconst 47 C dX5_isBetter_46 rfl ic_1 ?_
    refine j_icmp_ne 50 71 C dX5_isBetter_47 rfl rfl (fun c_6 => ?_) (fun c_6 => ?_)
    · replace hq := hq.1 c_6
      refine j_iload 73 C dX5_isBetter_71 rfl 5 rfl ?_
      refine j_aload_n 74 C dX5_isBetter_73 rfl 0 rfl ?_
      refine j_iload_n 75 C dX5_isBetter_74 rfl 2 rfl ?_
      refine j_callVi_ro 78 C [] [] (As := [.int p1]) (m_X5_weightOf G h p1 f v hq) oX5_weightOf kX5_159 ⟨rfl, rfl⟩ eX5_weightOf ⟨Nat.le_of_ble_eq_true rfl, Nat.le_of_ble_eq_true rfl⟩ ⟨Nat.zero_le _, Nat.zero_le _⟩ (List.append_nil _).symm (fun _ _ => rfl) 0 rfl rfl rfl (Nat.le_of_ble_eq_true rfl) dX5_isBetter_75 rfl (fun r_7 hq => ?_)
      refine j_imul 79 C dX5_isBetter_78 rfl ?_
      refine j_iload 81 C dX5_isBetter_79 rfl 6 rfl ?_
      refine j_aload_n 82 C dX5_isBetter_81 rfl 0 rfl ?_
      refine j_iload_n 83 C dX5_isBetter_82 rfl 1 rfl ?_
      refine j_callVi_ro 86 C [] [] (As := [.int p0]) (m_X5_weightOf G h p0 f v hq) oX5_weightOf kX5_159 ⟨rfl, rfl⟩ eX5_weightOf ⟨Nat.le_of_ble_eq_true rfl, Nat.le_of_ble_eq_true rfl⟩ ⟨Nat.zero_le _, Nat.zero_le _⟩ (List.append_nil _).symm (fun _ _ => rfl) 0 rfl rfl rfl (Nat.le_of_ble_eq_true rfl) dX5_isBetter_83 rfl (fun r_8 hq => ?_)
      refine j_imul 87 C dX5_isBetter_86 rfl ?_
      refine j_icmp_le 90 94 C dX5_isBetter_87 rfl rfl (fun c_9 => ?_) (fun c_9 => ?_)
      · replace hq := hq.1 c_9
        refine j_iconst 95 C dX5_isBetter_94 rfl ic_0 ?_
        exact hR _ _ _ f v dX5_isBetter_95 (Or.inl rfl) ⟨hq, rfl, rfl⟩
      · replace hq := hq.2 c_9
        refine j_iconst 91 C dX5_isBetter_90 rfl ic_1 ?_
        refine j_goto 95 C dX5_isBetter_91 rfl ?_
        exact hR _ _ _ f v dX5_isBetter_95 (Or.inr rfl) ⟨hq, rfl, rfl⟩
    · replace hq := hq.2 c_6
      refine j_aload_n 51 C dX5_isBetter_50 rfl 0 rfl ?_
      refine j_iload_n 52 C dX5_isBetter_51 rfl 1 rfl ?_
      refine j_callVi_ro 55 C [] [] (As := [.int p0]) (m_X5_weightOf G h p0 f v hq) oX5_weightOf kX5_159 ⟨rfl, rfl⟩ eX5_weightOf ⟨Nat.le_of_ble_eq_true rfl, Nat.le_of_ble_eq_true rfl⟩ ⟨Nat.zero_le _, Nat.zero_le _⟩ (List.append_nil _).symm (fun _ _ => rfl) 0 rfl rfl rfl (Nat.le_of_ble_eq_true rfl) dX5_isBetter_52 rfl (fun r_10 hq => ?_)
      refine j_aload_n 56 C dX5_isBetter_55 rfl 0 rfl ?_
      refine j_iload_n 57 C dX5_isBetter_56 rfl 2 rfl ?_
      refine j_callVi_ro 60 C [] [] (As := [.int p1]) (m_X5_weightOf G h p1 f v hq) oX5_weightOf kX5_159 ⟨rfl, rfl⟩ eX5_weightOf ⟨Nat.le_of_ble_eq_true rfl, Nat.le_of_ble_eq_true rfl⟩ ⟨Nat.zero_le _, Nat.zero_le _⟩ (List.append_nil _).symm (fun _ _ => rfl) 0 rfl rfl rfl (Nat.le_of_ble_eq_true rfl) dX5_isBetter_57 rfl (fun r_11 hq => ?_)
      refine j_icmp_ge 63 67 C dX5_isBetter_60 rfl rfl (fun c_12 => ?_) (fun c_12 => ?_)
      · replace hq := hq.1 c_12
        refine j_iconst 68 C dX5_isBetter_67 rfl ic_0 ?_
        refine j_goto 95 C dX5_isBetter_68 rfl ?_
        exact hR _ _ _ f v dX5_isBetter_95 (Or.inl rfl) ⟨hq, rfl, rfl⟩
      · replace hq := hq.2 c_12
        refine j_iconst 64 C dX5_isBetter_63 rfl ic_1 ?_
        refine j_goto 95 C dX5_isBetter_64 rfl ?_
        exact hR _ _ _ f v dX5_isBetter_95 (Or.inr rfl) ⟨hq, rfl, rfl⟩
  · replace hq := hq.2 c_5
    refine j_iload 31 C dX5_isBetter_29 rfl 5 rfl ?_
    refine j_iload 33 C dX5_isBetter_31 rfl 6 rfl ?_
    refine j_icmp_le 36 40 C dX5_isBetter_33 rfl rfl (fun c_13 => ?_) (fun c_13 => ?_)
    · replace hq := hq.1 c_13
      refine j_iconst 41 C dX5_isBetter_40 rfl ic_0 ?_
      refine j_goto 95 C dX5_isBetter_41 rfl ?_
      exact hR _ _ _ f v dX5_isBetter_95 (Or.inl rfl) ⟨hq, rfl, rfl⟩
    · replace hq := hq.2 c_13
      refine j_iconst 37 C dX5_isBetter_36 rfl ic_1 ?_
      refine j_goto 95 C dX5_isBetter_37 rfl ?_
      exact hR _ _ _ f v dX5_isBetter_95 (Or.inr rfl) ⟨hq, rfl, rfl⟩
def Q_X5_findChoices_L24 (x1 : Int32) (x2 : Int32) (x3 : Int32) (K91 : Int32 → Int32 → FF → VV → Prop) : Nat → Int32 → Int32 → FF → VV → Prop
  | 0, _, _, _, _ => False
  | n + 1, x4, x5, f, v => (((v 3) ≤ x5 → (K91 x4 x5 f v)) ∧ (¬ (v 3) ≤ x5 → (Q_X5_killedBy x5 f v (fun r_5 => ((((r_5 &&& x3) = 0 → (∀ x_7 : Int32, x_7 = (x5 + (1 : Int32)) → (Q_X5_findChoices_L24 x1 x2 x3 K91 n x4 x_7 f v))) ∧ (¬ (r_5 &&& x3) = 0 → (((x4 = (-9 : Int32) → (∀ x_9 : Int32, x_9 = (x5 + (1 : Int32)) → (Q_X5_findChoices_L24 x1 x2 x3 K91 n x5 x_9 f v))) ∧ (¬ x4 = (-9 : Int32) → (Q_X5_isBetter x5 x4 x3 x1 f v (fun r_10 => (((r_10 = 0 → (∀ x_12 : Int32, x_12 = (x5 + (1 : Int32)) → (Q_X5_findChoices_L24 x1 x2 x3 K91 n x4 x_12 f v))) ∧ (¬ r_10 = 0 → (∀ x_13 : Int32, x_13 = (x5 + (1 : Int32)) → (Q_X5_findChoices_L24 x1 x2 x3 K91 n x5 x_13 f v)))))))))))))))))
set_option maxRecDepth 100000 in
set_option maxHeartbeats 4000000 in
theorem t_X5_findChoices_L24 {κ : Kx} {G : Gx} {h : Nat → Nat} (C : Cx κ G RX5 cX5_findChoices rmX5_findChoices 7) {x1 : Int32} {x2 : Int32} {x3 : Int32} {K91 : Int32 → Int32 → FF → VV → Prop} (hK91 : ∀ (x4 : Int32) (x5 : Int32) (f : FF) (v : VV), K91 x4 x5 f v → J κ 0 0 (wE G h f v) 91 [(0, .ref (h 0)), (1, .int x1), (2, .int x2), (3, .int x3), (4, .int x4), (5, .int x5)] []) : ∀ (n : Nat) (x4 : Int32) (x5 : Int32) (f : FF) (v : VV), Q_X5_findChoices_L24 x1 x2 x3 K91 n x4 x5 f v → J κ 0 0 (wE G h f v) 24 [(0, .ref (h 0)), (1, .int x1), (2, .int x2), (3, .int x3), (4, .int x4), (5, .int x5)] [] := by
  intro n
  induction n with
  | zero => intro x4 x5 f v hq; exact False.elim hq
  | succ n ih =>
    intro x4 x5 f v hq
    rw [Q_X5_findChoices_L24] at hq
    refine j_iload 26 C dX5_findChoices_24 rfl 5 rfl ?_
    refine j_aload_n 27 C dX5_findChoices_26 rfl 0 rfl ?_
    refine j_get 30 C uX5 0 rfl rfl 6 (Nat.le_of_ble_eq_true rfl) lX5_74 (v := .int (v 3)) rfl dX5_findChoices_27 rfl ?_
    refine j_icmp_ge 33 91 C dX5_findChoices_30 rfl rfl (fun c_4 => ?_) (fun c_4 => ?_)
    · replace hq := hq.1 c_4
      refine J.l0 [0, 1, 2, 3, 4, 5] rfl ?_
      exact hK91 _ _ _ _ hq
    · replace hq := hq.2 c_4
      refine j_aload_n 34 C dX5_findChoices_33 rfl 0 rfl ?_
      refine j_iload 36 C dX5_findChoices_34 rfl 5 rfl ?_
      refine j_callVi_ro 39 C [] [] (As := [.int x5]) (m_X5_killedBy G h x5 f v hq) oX5_killedBy kX5_165 ⟨rfl, rfl⟩ eX5_killedBy ⟨Nat.le_of_ble_eq_true rfl, Nat.le_of_ble_eq_true rfl⟩ ⟨Nat.zero_le _, Nat.zero_le _⟩ (List.append_nil _).symm (fun _ _ => rfl) 0 rfl rfl rfl (Nat.le_of_ble_eq_true rfl) dX5_findChoices_36 rfl (fun r_5 hq => ?_)
      refine j_iload_n 40 C dX5_findChoices_39 rfl 3 rfl ?_
      refine j_iand 41 C dX5_findChoices_40 rfl ?_
      refine j_if_eq 44 48 C dX5_findChoices_41 rfl rfl (fun c_6 => ?_) (fun c_6 => ?_)
      · replace hq := hq.1 c_6
        refine j_iconst 49 C dX5_findChoices_48 rfl ic_0 ?_
        refine j_istore 51 C dX5_findChoices_49 rfl (Nat.le_of_ble_eq_true rfl) [1, 2, 3, 4, 5, 6, 0] (lv' := [(0, .ref (h 0)), (1, .int x1), (2, .int x2), (3, .int x3), (4, .int x4), (5, .int x5), (6, .int (0 : Int32))]) rfl ?_
        refine j_iload 53 C dX5_findChoices_51 rfl 6 rfl ?_
        refine j_if_eq 56 81 C dX5_findChoices_53 rfl rfl (fun _ => ?_) (fun h9 => absurd h9 (by decide))
        refine j_iload 83 C dX5_findChoices_81 rfl 4 rfl ?_
        refine j_istore 85 C dX5_findChoices_83 rfl (Nat.le_of_ble_eq_true rfl) [1, 2, 3, 4, 0, 5, 6] (lv' := [(0, .ref (h 0)), (1, .int x1), (2, .int x2), (3, .int x3), (4, .int x4), (5, .int x5), (6, .int (0 : Int32))]) rfl ?_
        obtain ⟨x_7, ex_7⟩ : ∃ y : Int32, y = (x5 + (1 : Int32)) := ⟨_, rfl⟩
        replace hq := hq x_7 ex_7
        refine j_iinc 88 C dX5_findChoices_85 rfl 5 rfl (v := x_7) (by rw [ex_7]; rfl) (Nat.le_of_ble_eq_true rfl) [1, 2, 3, 4, 5, 0, 6] (lv' := [(0, .ref (h 0)), (1, .int x1), (2, .int x2), (3, .int x3), (4, .int x4), (5, .int x_7), (6, .int (0 : Int32))]) rfl ?_
        refine j_goto 24 C dX5_findChoices_88 rfl ?_
        refine J.l0 [0, 1, 2, 3, 4, 5] rfl ?_
        exact ih _ _ _ _ hq
      · replace hq := hq.2 c_6
        refine j_iconst 45 C dX5_findChoices_44 rfl ic_1 ?_
        refine j_goto 49 C dX5_findChoices_45 rfl ?_
        refine j_istore 51 C dX5_findChoices_49 rfl (Nat.le_of_ble_eq_true rfl) [1, 2, 3, 4, 5, 6, 0] (lv' := [(0, .ref (h 0)), (1, .int x1), (2, .int x2), (3, .int x3), (4, .int x4), (5, .int x5), (6, .int (1 : Int32))]) rfl ?_
        refine j_iload 53 C dX5_findChoices_51 rfl 6 rfl ?_
        refine j_if_eq 56 81 C dX5_findChoices_53 rfl rfl (fun h9 => absurd h9 (by decide)) (fun _ => ?_)
        refine j_iload 58 C dX5_findChoices_56 rfl 4 rfl ?_
        refine j_bipush 60 C dX5_findChoices_58 rfl bc_m9 ?_
        refine j_icmp_eq 63 76 C dX5_findChoices_60 rfl rfl (fun c_8 => ?_) (fun c_8 => ?_)
        · replace hq := hq.1 c_8
          refine j_iload 78 C dX5_findChoices_76 rfl 5 rfl ?_
          refine j_goto 83 C dX5_findChoices_78 rfl ?_
          refine j_istore 85 C dX5_findChoices_83 rfl (Nat.le_of_ble_eq_true rfl) [1, 2, 3, 4, 0, 5, 6] (lv' := [(0, .ref (h 0)), (1, .int x1), (2, .int x2), (3, .int x3), (4, .int x5), (5, .int x5), (6, .int (1 : Int32))]) rfl ?_
          obtain ⟨x_9, ex_9⟩ : ∃ y : Int32, y = (x5 + (1 : Int32)) := ⟨_, rfl⟩
          replace hq := hq x_9 ex_9
          refine j_iinc 88 C dX5_findChoices_85 rfl 5 rfl (v := x_9) (by rw [ex_9]; rfl) (Nat.le_of_ble_eq_true rfl) [1, 2, 3, 4, 5, 0, 6] (lv' := [(0, .ref (h 0)), (1, .int x1), (2, .int x2), (3, .int x3), (4, .int x5), (5, .int x_9), (6, .int (1 : Int32))]) rfl ?_
          refine j_goto 24 C dX5_findChoices_88 rfl ?_
          refine J.l0 [0, 1, 2, 3, 4, 5] rfl ?_
          exact ih _ _ _ _ hq
        · replace hq := hq.2 c_8
          refine j_aload_n 64 C dX5_findChoices_63 rfl 0 rfl ?_
          refine j_iload 66 C dX5_findChoices_64 rfl 5 rfl ?_
          refine j_iload 68 C dX5_findChoices_66 rfl 4 rfl ?_
          refine j_iload_n 69 C dX5_findChoices_68 rfl 3 rfl ?_
          refine j_iload_n 70 C dX5_findChoices_69 rfl 1 rfl ?_
          refine j_callVi_ro 73 C [] [] (As := [.int x5, .int x4, .int x3, .int x1]) (m_X5_isBetter G h x5 x4 x3 x1 f v hq) oX5_isBetter kX5_225 ⟨rfl, rfl⟩ eX5_isBetter ⟨Nat.le_of_ble_eq_true rfl, Nat.le_of_ble_eq_true rfl⟩ ⟨Nat.zero_le _, Nat.zero_le _⟩ (List.append_nil _).symm (fun _ _ => rfl) 0 rfl rfl rfl (Nat.le_of_ble_eq_true rfl) dX5_findChoices_70 rfl (fun r_10 hq => ?_)
          refine j_if_eq 76 81 C dX5_findChoices_73 rfl rfl (fun c_11 => ?_) (fun c_11 => ?_)
          · replace hq := hq.1 c_11
            refine j_iload 83 C dX5_findChoices_81 rfl 4 rfl ?_
            refine j_istore 85 C dX5_findChoices_83 rfl (Nat.le_of_ble_eq_true rfl) [1, 2, 3, 4, 0, 5, 6] (lv' := [(0, .ref (h 0)), (1, .int x1), (2, .int x2), (3, .int x3), (4, .int x4), (5, .int x5), (6, .int (1 : Int32))]) rfl ?_
            obtain ⟨x_12, ex_12⟩ : ∃ y : Int32, y = (x5 + (1 : Int32)) := ⟨_, rfl⟩
            replace hq := hq x_12 ex_12
            refine j_iinc 88 C dX5_findChoices_85 rfl 5 rfl (v := x_12) (by rw [ex_12]; rfl) (Nat.le_of_ble_eq_true rfl) [1, 2, 3, 4, 5, 0, 6] (lv' := [(0, .ref (h 0)), (1, .int x1), (2, .int x2), (3, .int x3), (4, .int x4), (5, .int x_12), (6, .int (1 : Int32))]) rfl ?_
            refine j_goto 24 C dX5_findChoices_88 rfl ?_
            refine J.l0 [0, 1, 2, 3, 4, 5] rfl ?_
            exact ih _ _ _ _ hq
          · replace hq := hq.2 c_11
            refine j_iload 78 C dX5_findChoices_76 rfl 5 rfl ?_
            refine j_goto 83 C dX5_findChoices_78 rfl ?_
            refine j_istore 85 C dX5_findChoices_83 rfl (Nat.le_of_ble_eq_true rfl) [1, 2, 3, 4, 0, 5, 6] (lv' := [(0, .ref (h 0)), (1, .int x1), (2, .int x2), (3, .int x3), (4, .int x5), (5, .int x5), (6, .int (1 : Int32))]) rfl ?_
            obtain ⟨x_13, ex_13⟩ : ∃ y : Int32, y = (x5 + (1 : Int32)) := ⟨_, rfl⟩
            replace hq := hq x_13 ex_13
            refine j_iinc 88 C dX5_findChoices_85 rfl 5 rfl (v := x_13) (by rw [ex_13]; rfl) (Nat.le_of_ble_eq_true rfl) [1, 2, 3, 4, 5, 0, 6] (lv' := [(0, .ref (h 0)), (1, .int x1), (2, .int x2), (3, .int x3), (4, .int x5), (5, .int x_13), (6, .int (1 : Int32))]) rfl ?_
            refine j_goto 24 C dX5_findChoices_88 rfl ?_
            refine J.l0 [0, 1, 2, 3, 4, 5] rfl ?_
            exact ih _ _ _ _ hq
def Q_X5_findChoices_L13 (x1 : Int32) (K128 : Int32 → Int32 → FF → VV → Prop) : Nat → Int32 → Int32 → FF → VV → Prop
  | 0, _, _, _, _ => False
  | n + 1, x2, x3, f, v => ((x3 = 0 → (K128 x2 x3 f v)) ∧ (¬ x3 = 0 → (∃ n_14 : Nat, Q_X5_findChoices_L24 x1 x2 x3 (fun x_15 x_16 f_17 v_18 => (∀ x_19 : Int32, x_19 = (x2 ||| ((1 : Int32) <<< (x_15 &&& 31))) → (vp_in (v_18 7) 7 ∧ (∀ f_21 : FF, f_21 = fu f_17 15 (wr (f_17 15) (v_18 7) x_15) → (∀ v_22 : VV, v_22 = fu v_18 7 ((v_18 7) + (1 : Int32)) → (Q_X5_leftBy x_19 f_21 v_22 (fun r_23 => (Q_X5_findChoices_L13 x1 K128 n x_19 r_23 f_21 v_22)))))))) n_14 (-9 : Int32) (0 : Int32) f v)))
set_option maxRecDepth 100000 in
set_option maxHeartbeats 4000000 in
theorem t_X5_findChoices_L13 {κ : Kx} {G : Gx} {h : Nat → Nat} (C : Cx κ G RX5 cX5_findChoices rmX5_findChoices 7) {x1 : Int32} {K128 : Int32 → Int32 → FF → VV → Prop} (hK128 : ∀ (x2 : Int32) (x3 : Int32) (f : FF) (v : VV), K128 x2 x3 f v → J κ 0 0 (wE G h f v) 128 [(0, .ref (h 0)), (1, .int x1), (2, .int x2), (3, .int x3)] []) : ∀ (n : Nat) (x2 : Int32) (x3 : Int32) (f : FF) (v : VV), Q_X5_findChoices_L13 x1 K128 n x2 x3 f v → J κ 0 0 (wE G h f v) 13 [(0, .ref (h 0)), (1, .int x1), (2, .int x2), (3, .int x3)] [] := by
  intro n
  induction n with
  | zero => intro x2 x3 f v hq; exact False.elim hq
  | succ n ih =>
    intro x2 x3 f v hq
    rw [Q_X5_findChoices_L13] at hq
    refine j_iload_n 14 C dX5_findChoices_13 rfl 3 rfl ?_
    refine j_if_eq 17 128 C dX5_findChoices_14 rfl rfl (fun c_3 => ?_) (fun c_3 => ?_)
    · replace hq := hq.1 c_3
      refine J.l0 [0, 1, 2, 3] rfl ?_
      exact hK128 _ _ _ _ hq
    · replace hq := hq.2 c_3
      refine j_bipush 19 C dX5_findChoices_17 rfl bc_m9 ?_
      refine j_istore 21 C dX5_findChoices_19 rfl (Nat.le_of_ble_eq_true rfl) [1, 2, 3, 4, 0] (lv' := [(0, .ref (h 0)), (1, .int x1), (2, .int x2), (3, .int x3), (4, .int (-9 : Int32))]) rfl ?_
      refine j_iconst 22 C dX5_findChoices_21 rfl ic_0 ?_
      refine j_istore 24 C dX5_findChoices_22 rfl (Nat.le_of_ble_eq_true rfl) [1, 2, 3, 4, 5, 0] (lv' := [(0, .ref (h 0)), (1, .int x1), (2, .int x2), (3, .int x3), (4, .int (-9 : Int32)), (5, .int (0 : Int32))]) rfl ?_
      obtain ⟨n_14, hq⟩ := hq
      refine t_X5_findChoices_L24 C ?_ n_14 _ _ _ _ hq
      · intro x_15 x_16 f_17 v_18 hq
        refine j_iload_n 92 C dX5_findChoices_91 rfl 2 rfl ?_
        refine j_iconst 93 C dX5_findChoices_92 rfl ic_1 ?_
        refine j_iload 95 C dX5_findChoices_93 rfl 4 rfl ?_
        refine j_ishl 96 C dX5_findChoices_95 rfl ?_
        refine j_ior 97 C dX5_findChoices_96 rfl ?_
        refine J.topi (fun x_19 ex_19 => ?_)
        replace hq := hq x_19 ex_19
        refine j_istore_n 98 C dX5_findChoices_97 rfl (Nat.le_of_ble_eq_true rfl) [1, 2, 0, 3, 4, 5] (lv' := [(0, .ref (h 0)), (1, .int x1), (2, .int x_19), (3, .int x3), (4, .int x_15), (5, .int x_16)]) rfl ?_
        refine j_aload_n 99 C dX5_findChoices_98 rfl 0 rfl ?_
        refine j_get 102 C uX5 0 rfl rfl 22 (Nat.le_of_ble_eq_true rfl) lX5_55 (v := .ref (h 16)) rfl dX5_findChoices_99 rfl ?_
        refine j_aload_n 103 C dX5_findChoices_102 rfl 0 rfl ?_
        refine j_get 106 C uX5 0 rfl rfl 23 (Nat.le_of_ble_eq_true rfl) lX5_222 (v := .int (v_18 7)) rfl dX5_findChoices_103 rfl ?_
        refine j_iload 108 C dX5_findChoices_106 rfl 4 rfl ?_
        obtain ⟨hi_20, hq⟩ := hq
        obtain ⟨f_21, ef_21⟩ : ∃ y : FF, y = fu f_17 15 (wr (f_17 15) (v_18 7) x_15) := ⟨_, rfl⟩
        replace hq := hq f_21 ef_21
        refine j_iast 109 C 16 rfl hi_20 dX5_findChoices_108 rfl (ws' := (wE G h f_21 v_18)) (by subst ef_21; rfl) ?_
        refine j_aload_n 110 C dX5_findChoices_109 rfl 0 rfl ?_
        refine j_dup 111 C dX5_findChoices_110 rfl rfl ?_
        refine j_get 114 C uX5 0 rfl rfl 23 (Nat.le_of_ble_eq_true rfl) lX5_222 (v := .int (v_18 7)) rfl dX5_findChoices_111 rfl ?_
        refine j_iconst 115 C dX5_findChoices_114 rfl ic_1 ?_
        refine j_iadd 116 C dX5_findChoices_115 rfl ?_
        obtain ⟨v_22, ev_22⟩ : ∃ y : VV, y = fu v_18 7 ((v_18 7) + (1 : Int32)) := ⟨_, rfl⟩
        replace hq := hq v_22 ev_22
        refine j_put 119 C uX5 tyX5 tyX5_ok nmX5 0 rfl rfl 23 (Nat.le_of_ble_eq_true rfl) lX5_222 rfl rfl (Nat.le_of_ble_eq_true rfl) dX5_findChoices_116 rfl (ws' := (wE G h f_21 v_22)) (by subst ev_22; rfl) ?_
        refine j_aload_n 120 C dX5_findChoices_119 rfl 0 rfl ?_
        refine j_iload_n 121 C dX5_findChoices_120 rfl 2 rfl ?_
        refine j_callVi_ro 124 C [] [] (As := [.int x_19]) (m_X5_leftBy G h x_19 f_21 v_22 hq) oX5_leftBy kX5_219 ⟨rfl, rfl⟩ eX5_leftBy ⟨Nat.le_of_ble_eq_true rfl, Nat.le_of_ble_eq_true rfl⟩ ⟨Nat.zero_le _, Nat.zero_le _⟩ (List.append_nil _).symm (fun _ _ => rfl) 0 rfl rfl rfl (Nat.le_of_ble_eq_true rfl) dX5_findChoices_121 rfl (fun r_23 hq => ?_)
        refine j_istore_n 125 C dX5_findChoices_124 rfl (Nat.le_of_ble_eq_true rfl) [1, 2, 3, 0, 4, 5] (lv' := [(0, .ref (h 0)), (1, .int x1), (2, .int x_19), (3, .int r_23), (4, .int x_15), (5, .int x_16)]) rfl ?_
        refine j_goto 13 C dX5_findChoices_125 rfl ?_
        refine J.l0 [0, 1, 2, 3] rfl ?_
        exact ih _ _ _ _ hq
def Q_X5_findChoices (p0 : Int32) (f : FF) (v : VV) (post : Int32 → FF → VV → Prop) : Prop := ∀ v_1 : VV, v_1 = fu v 7 (0 : Int32) → (Q_X5_leftBy (0 : Int32) f v_1 (fun r_2 => (∃ n_24 : Nat, Q_X5_findChoices_L13 p0 (fun x_25 x_26 f_27 v_28 => (post x_25 f_27 v_28)) n_24 (0 : Int32) r_2 f v_1)))
set_option maxRecDepth 100000 in
set_option maxHeartbeats 4000000 in
theorem m_X5_findChoices {l : Launch} (G : Gx) (h : Nat → Nat) (p0 : Int32) (f : FF) (v : VV) {post : Int32 → FF → VV → Prop} (hq : Q_X5_findChoices p0 f v post) : MetI l yX5_findChoices (gC yX5_findChoices cX5_findChoices 7 (some .int)) rmX5_findChoices G [.ref (h 0), .int p0] (wE G h) f v post := by
  refine met_i (own := RX5) (by decide) rfl (Nat.le_of_ble_eq_true rfl) (fun κ hκ C hR => ?_)
  unfold Q_X5_findChoices at hq
  subst hκ
  show J κ 0 0 (wE G h f v) 0 [(0, .ref (h 0)), (1, .int p0)] []
  refine j_iconst 1 C dX5_findChoices_0 rfl ic_0 ?_
  refine j_istore_n 2 C dX5_findChoices_1 rfl (Nat.le_of_ble_eq_true rfl) [1, 2, 0] (lv' := [(0, .ref (h 0)), (1, .int p0), (2, .int (0 : Int32))]) rfl ?_
  refine j_aload_n 3 C dX5_findChoices_2 rfl 0 rfl ?_
  refine j_iconst 4 C dX5_findChoices_3 rfl ic_0 ?_
  obtain ⟨v_1, ev_1⟩ : ∃ y : VV, y = fu v 7 (0 : Int32) := ⟨_, rfl⟩
  replace hq := hq v_1 ev_1
  refine j_put 7 C uX5 tyX5 tyX5_ok nmX5 0 rfl rfl 23 (Nat.le_of_ble_eq_true rfl) lX5_222 rfl rfl (Nat.le_of_ble_eq_true rfl) dX5_findChoices_4 rfl (ws' := (wE G h f v_1)) (by subst ev_1; rfl) ?_
  refine j_aload_n 8 C dX5_findChoices_7 rfl 0 rfl ?_
  refine j_iconst 9 C dX5_findChoices_8 rfl ic_0 ?_
  refine j_callVi_ro 12 C [] [] (As := [.int (0 : Int32)]) (m_X5_leftBy G h (0 : Int32) f v_1 hq) oX5_leftBy kX5_219 ⟨rfl, rfl⟩ eX5_leftBy ⟨Nat.le_of_ble_eq_true rfl, Nat.le_of_ble_eq_true rfl⟩ ⟨Nat.zero_le _, Nat.zero_le _⟩ (List.append_nil _).symm (fun _ _ => rfl) 0 rfl rfl rfl (Nat.le_of_ble_eq_true rfl) dX5_findChoices_9 rfl (fun r_2 hq => ?_)
  refine j_istore_n 13 C dX5_findChoices_12 rfl (Nat.le_of_ble_eq_true rfl) [1, 2, 3, 0] (lv' := [(0, .ref (h 0)), (1, .int p0), (2, .int (0 : Int32)), (3, .int r_2)]) rfl ?_
  obtain ⟨n_24, hq⟩ := hq
  refine t_X5_findChoices_L13 C ?_ n_24 _ _ _ _ hq
  · intro x_25 x_26 f_27 v_28 hq
    refine j_iload_n 129 C dX5_findChoices_128 rfl 2 rfl ?_
    exact hR _ _ _ f_27 v_28 dX5_findChoices_129 hq
def Q_X5_choose (p0 : Int32) (p1 : Int32) (f : FF) (v : VV) (post : Int32 → FF → VV → Prop) : Prop := Q_X5_within p0 (0 : Int32) (2 : Int32) (fun r_1 => (((r_1 = 0 → (post (-2 : Int32) f v)) ∧ (¬ r_1 = 0 → (Q_X5_within p1 (0 : Int32) (1 : Int32) (fun r_3 => (((¬ r_3 = 0 → (((¬ (v 2) = 0 → (Q_X5_findKillers  f v (fun f_7 v_8 => (Q_X5_findChoices p0 f_7 v_8 (fun r_9 f_10 v_11 => (((p1 < (10 : Int32) → (((¬ p1 = 0 → (Q_X5_weightOfSet r_9 f_10 v_11 (fun r_14 => (post r_14 f_10 v_11)))) ∧ (p1 = 0 → (post r_9 f_10 v_11))))) ∧ (¬ p1 < (10 : Int32) → ((((v_11 7) ≤ (p1 - (10 : Int32)) → (post (-9 : Int32) f_10 v_11)) ∧ (¬ (v_11 7) ≤ (p1 - (10 : Int32)) → (vp_in (p1 - (10 : Int32)) 7 ∧ (post ((f_10 15) ((p1 - (10 : Int32))).toNatClampNeg) f_10 v_11))))))))))))) ∧ ((v 2) = 0 → (post (-3 : Int32) f v))))) ∧ (r_3 = 0 → (Q_X5_within p1 (10 : Int32) (16 : Int32) (fun r_17 => (((¬ r_17 = 0 → (((¬ (v 2) = 0 → (Q_X5_findKillers  f v (fun f_21 v_22 => (Q_X5_findChoices p0 f_21 v_22 (fun r_23 f_24 v_25 => (((p1 < (10 : Int32) → (((¬ p1 = 0 → (Q_X5_weightOfSet r_23 f_24 v_25 (fun r_28 => (post r_28 f_24 v_25)))) ∧ (p1 = 0 → (post r_23 f_24 v_25))))) ∧ (¬ p1 < (10 : Int32) → ((((v_25 7) ≤ (p1 - (10 : Int32)) → (post (-9 : Int32) f_24 v_25)) ∧ (¬ (v_25 7) ≤ (p1 - (10 : Int32)) → (vp_in (p1 - (10 : Int32)) 7 ∧ (post ((f_24 15) ((p1 - (10 : Int32))).toNatClampNeg) f_24 v_25))))))))))))) ∧ ((v 2) = 0 → (post (-3 : Int32) f v))))) ∧ (r_17 = 0 → (post (-2 : Int32) f v)))))))))))))))
set_option maxRecDepth 100000 in
set_option maxHeartbeats 4000000 in
theorem m_X5_choose {l : Launch} (G : Gx) (h : Nat → Nat) (p0 : Int32) (p1 : Int32) (f : FF) (v : VV) {post : Int32 → FF → VV → Prop} (hq : Q_X5_choose p0 p1 f v post) : MetI l yX5_choose (gC yX5_choose cX5_choose 4 (some .int)) rmX5_choose G [.ref (h 0), .int p0, .int p1] (wE G h) f v post := by
  refine met_i (own := RX5) (by decide) rfl (Nat.le_of_ble_eq_true rfl) (fun κ hκ C hR => ?_)
  unfold Q_X5_choose at hq
  subst hκ
  show J κ 0 0 (wE G h f v) 0 [(0, .ref (h 0)), (1, .int p0), (2, .int p1)] []
  refine j_iload_n 1 C dX5_choose_0 rfl 1 rfl ?_
  refine j_iconst 2 C dX5_choose_1 rfl ic_0 ?_
  refine j_iconst 3 C dX5_choose_2 rfl ic_2 ?_
  refine j_callSi 6 C [] (wE G h f v) (fun _ _ => (wE G h f v)) (As := [.int p0, .int (0 : Int32), .int (2 : Int32)]) (m_X5_within G p0 (0 : Int32) (2 : Int32) hq) oX5_within kX5_67 ⟨rfl, rfl⟩ eX5_within ⟨Nat.le_of_ble_eq_true rfl, Nat.le_of_ble_eq_true rfl⟩ ⟨Nat.zero_le _, Nat.zero_le _⟩ rfl (fun _ _ => rfl) (fun _ _ => rfl) rfl (Nat.le_of_ble_eq_true rfl) dX5_choose_3 rfl (fun r_1 _ _ hq => ?_)
  refine j_if_eq 9 29 C dX5_choose_6 rfl rfl (fun c_2 => ?_) (fun c_2 => ?_)
  · replace hq := hq.1 c_2
    refine j_bipush 31 C dX5_choose_29 rfl bc_m2 ?_
    exact hR _ _ _ f v dX5_choose_31 hq
  · replace hq := hq.2 c_2
    refine j_iload_n 10 C dX5_choose_9 rfl 2 rfl ?_
    refine j_iconst 11 C dX5_choose_10 rfl ic_0 ?_
    refine j_iconst 12 C dX5_choose_11 rfl ic_1 ?_
    refine j_callSi 15 C [] (wE G h f v) (fun _ _ => (wE G h f v)) (As := [.int p1, .int (0 : Int32), .int (1 : Int32)]) (m_X5_within G p1 (0 : Int32) (1 : Int32) hq) oX5_within kX5_67 ⟨rfl, rfl⟩ eX5_within ⟨Nat.le_of_ble_eq_true rfl, Nat.le_of_ble_eq_true rfl⟩ ⟨Nat.zero_le _, Nat.zero_le _⟩ rfl (fun _ _ => rfl) (fun _ _ => rfl) rfl (Nat.le_of_ble_eq_true rfl) dX5_choose_12 rfl (fun r_3 _ _ hq => ?_)
    refine j_if_ne 18 32 C dX5_choose_15 rfl rfl (fun c_4 => ?_) (fun c_4 => ?_)
    · replace hq := hq.1 c_4
      refine j_aload_n 33 C dX5_choose_32 rfl 0 rfl ?_
      refine j_get 36 C uX5 0 rfl rfl 5 (Nat.le_of_ble_eq_true rfl) lX5_71 (v := .int (v 2)) rfl dX5_choose_33 rfl ?_
      refine j_if_ne 39 42 C dX5_choose_36 rfl rfl (fun c_5 => ?_) (fun c_5 => ?_)
      · replace hq := hq.1 c_5
        refine j_aload_n 43 C dX5_choose_42 rfl 0 rfl ?_
        refine j_callVv 46 C [] [] (fun f' v' => (wE G h f' v')) (As := []) (m_X5_findKillers G h f v hq) oX5_findKillers kX5_162 ⟨rfl, rfl⟩ eX5_findKillers ⟨Nat.le_of_ble_eq_true rfl, Nat.le_of_ble_eq_true rfl⟩ ⟨Nat.zero_le _, Nat.zero_le _⟩ (List.append_nil _).symm (fun _ _ => List.append_nil _) (fun _ _ => rfl) 0 rfl rfl rfl (Nat.le_of_ble_eq_true rfl) dX5_choose_43 rfl (fun f_7 v_8 hq => ?_)
        refine j_aload_n 47 C dX5_choose_46 rfl 0 rfl ?_
        refine j_iload_n 48 C dX5_choose_47 rfl 1 rfl ?_
        refine j_callVi 51 C [] [] (fun f' v' => (wE G h f' v')) (As := [.int p0]) (m_X5_findChoices G h p0 f_7 v_8 hq) oX5_findChoices kX5_229 ⟨rfl, rfl⟩ eX5_findChoices ⟨Nat.le_of_ble_eq_true rfl, Nat.le_of_ble_eq_true rfl⟩ ⟨Nat.zero_le _, Nat.zero_le _⟩ (List.append_nil _).symm (fun _ _ => List.append_nil _) (fun _ _ => rfl) 0 rfl rfl rfl (Nat.le_of_ble_eq_true rfl) dX5_choose_48 rfl (fun r_9 f_10 v_11 hq => ?_)
        refine j_istore_n 52 C dX5_choose_51 rfl (Nat.le_of_ble_eq_true rfl) [1, 2, 3, 0] (lv' := [(0, .ref (h 0)), (1, .int p0), (2, .int p1), (3, .int r_9)]) rfl ?_
        refine j_iload_n 53 C dX5_choose_52 rfl 2 rfl ?_
        refine j_bipush 55 C dX5_choose_53 rfl bc_10 ?_
        refine j_icmp_lt 58 84 C dX5_choose_55 rfl rfl (fun c_12 => ?_) (fun c_12 => ?_)
        · replace hq := hq.1 c_12
          refine j_iload_n 85 C dX5_choose_84 rfl 2 rfl ?_
          refine j_if_ne 88 92 C dX5_choose_85 rfl rfl (fun c_13 => ?_) (fun c_13 => ?_)
          · replace hq := hq.1 c_13
            refine j_aload_n 93 C dX5_choose_92 rfl 0 rfl ?_
            refine j_iload_n 94 C dX5_choose_93 rfl 3 rfl ?_
            refine j_callVi_ro 97 C [] [] (As := [.int r_9]) (m_X5_weightOfSet G h r_9 f_10 v_11 hq) oX5_weightOfSet kX5_216 ⟨rfl, rfl⟩ eX5_weightOfSet ⟨Nat.le_of_ble_eq_true rfl, Nat.le_of_ble_eq_true rfl⟩ ⟨Nat.zero_le _, Nat.zero_le _⟩ (List.append_nil _).symm (fun _ _ => rfl) 0 rfl rfl rfl (Nat.le_of_ble_eq_true rfl) dX5_choose_94 rfl (fun r_14 hq => ?_)
            exact hR _ _ _ f_10 v_11 dX5_choose_97 hq
          · replace hq := hq.2 c_13
            refine j_iload_n 89 C dX5_choose_88 rfl 3 rfl ?_
            refine j_goto 97 C dX5_choose_89 rfl ?_
            exact hR _ _ _ f_10 v_11 dX5_choose_97 hq
        · replace hq := hq.2 c_12
          refine j_iload_n 59 C dX5_choose_58 rfl 2 rfl ?_
          refine j_bipush 61 C dX5_choose_59 rfl bc_10 ?_
          refine j_isub 62 C dX5_choose_61 rfl ?_
          refine j_aload_n 63 C dX5_choose_62 rfl 0 rfl ?_
          refine j_get 66 C uX5 0 rfl rfl 23 (Nat.le_of_ble_eq_true rfl) lX5_222 (v := .int (v_11 7)) rfl dX5_choose_63 rfl ?_
          refine j_icmp_ge 69 81 C dX5_choose_66 rfl rfl (fun c_15 => ?_) (fun c_15 => ?_)
          · replace hq := hq.1 c_15
            refine j_bipush 83 C dX5_choose_81 rfl bc_m9 ?_
            exact hR _ _ _ f_10 v_11 dX5_choose_83 hq
          · replace hq := hq.2 c_15
            refine j_aload_n 70 C dX5_choose_69 rfl 0 rfl ?_
            refine j_get 73 C uX5 0 rfl rfl 22 (Nat.le_of_ble_eq_true rfl) lX5_55 (v := .ref (h 16)) rfl dX5_choose_70 rfl ?_
            refine j_iload_n 74 C dX5_choose_73 rfl 2 rfl ?_
            refine j_bipush 76 C dX5_choose_74 rfl bc_10 ?_
            refine j_isub 77 C dX5_choose_76 rfl ?_
            obtain ⟨hi_16, hq⟩ := hq
            refine j_iald 78 C 16 (f := (f_10 15)) rfl hi_16 dX5_choose_77 rfl ?_
            refine j_goto 83 C dX5_choose_78 rfl ?_
            exact hR _ _ _ f_10 v_11 dX5_choose_83 hq
      · replace hq := hq.2 c_5
        refine j_bipush 41 C dX5_choose_39 rfl bc_m3 ?_
        exact hR _ _ _ f v dX5_choose_41 hq
    · replace hq := hq.2 c_4
      refine j_iload_n 19 C dX5_choose_18 rfl 2 rfl ?_
      refine j_bipush 21 C dX5_choose_19 rfl bc_10 ?_
      refine j_bipush 23 C dX5_choose_21 rfl bc_16 ?_
      refine j_callSi 26 C [] (wE G h f v) (fun _ _ => (wE G h f v)) (As := [.int p1, .int (10 : Int32), .int (16 : Int32)]) (m_X5_within G p1 (10 : Int32) (16 : Int32) hq) oX5_within kX5_67 ⟨rfl, rfl⟩ eX5_within ⟨Nat.le_of_ble_eq_true rfl, Nat.le_of_ble_eq_true rfl⟩ ⟨Nat.zero_le _, Nat.zero_le _⟩ rfl (fun _ _ => rfl) (fun _ _ => rfl) rfl (Nat.le_of_ble_eq_true rfl) dX5_choose_23 rfl (fun r_17 _ _ hq => ?_)
      refine j_if_ne 29 32 C dX5_choose_26 rfl rfl (fun c_18 => ?_) (fun c_18 => ?_)
      · replace hq := hq.1 c_18
        refine j_aload_n 33 C dX5_choose_32 rfl 0 rfl ?_
        refine j_get 36 C uX5 0 rfl rfl 5 (Nat.le_of_ble_eq_true rfl) lX5_71 (v := .int (v 2)) rfl dX5_choose_33 rfl ?_
        refine j_if_ne 39 42 C dX5_choose_36 rfl rfl (fun c_19 => ?_) (fun c_19 => ?_)
        · replace hq := hq.1 c_19
          refine j_aload_n 43 C dX5_choose_42 rfl 0 rfl ?_
          refine j_callVv 46 C [] [] (fun f' v' => (wE G h f' v')) (As := []) (m_X5_findKillers G h f v hq) oX5_findKillers kX5_162 ⟨rfl, rfl⟩ eX5_findKillers ⟨Nat.le_of_ble_eq_true rfl, Nat.le_of_ble_eq_true rfl⟩ ⟨Nat.zero_le _, Nat.zero_le _⟩ (List.append_nil _).symm (fun _ _ => List.append_nil _) (fun _ _ => rfl) 0 rfl rfl rfl (Nat.le_of_ble_eq_true rfl) dX5_choose_43 rfl (fun f_21 v_22 hq => ?_)
          refine j_aload_n 47 C dX5_choose_46 rfl 0 rfl ?_
          refine j_iload_n 48 C dX5_choose_47 rfl 1 rfl ?_
          refine j_callVi 51 C [] [] (fun f' v' => (wE G h f' v')) (As := [.int p0]) (m_X5_findChoices G h p0 f_21 v_22 hq) oX5_findChoices kX5_229 ⟨rfl, rfl⟩ eX5_findChoices ⟨Nat.le_of_ble_eq_true rfl, Nat.le_of_ble_eq_true rfl⟩ ⟨Nat.zero_le _, Nat.zero_le _⟩ (List.append_nil _).symm (fun _ _ => List.append_nil _) (fun _ _ => rfl) 0 rfl rfl rfl (Nat.le_of_ble_eq_true rfl) dX5_choose_48 rfl (fun r_23 f_24 v_25 hq => ?_)
          refine j_istore_n 52 C dX5_choose_51 rfl (Nat.le_of_ble_eq_true rfl) [1, 2, 3, 0] (lv' := [(0, .ref (h 0)), (1, .int p0), (2, .int p1), (3, .int r_23)]) rfl ?_
          refine j_iload_n 53 C dX5_choose_52 rfl 2 rfl ?_
          refine j_bipush 55 C dX5_choose_53 rfl bc_10 ?_
          refine j_icmp_lt 58 84 C dX5_choose_55 rfl rfl (fun c_26 => ?_) (fun c_26 => ?_)
          · replace hq := hq.1 c_26
            refine j_iload_n 85 C dX5_choose_84 rfl 2 rfl ?_
            refine j_if_ne 88 92 C dX5_choose_85 rfl rfl (fun c_27 => ?_) (fun c_27 => ?_)
            · replace hq := hq.1 c_27
              refine j_aload_n 93 C dX5_choose_92 rfl 0 rfl ?_
              refine j_iload_n 94 C dX5_choose_93 rfl 3 rfl ?_
              refine j_callVi_ro 97 C [] [] (As := [.int r_23]) (m_X5_weightOfSet G h r_23 f_24 v_25 hq) oX5_weightOfSet kX5_216 ⟨rfl, rfl⟩ eX5_weightOfSet ⟨Nat.le_of_ble_eq_true rfl, Nat.le_of_ble_eq_true rfl⟩ ⟨Nat.zero_le _, Nat.zero_le _⟩ (List.append_nil _).symm (fun _ _ => rfl) 0 rfl rfl rfl (Nat.le_of_ble_eq_true rfl) dX5_choose_94 rfl (fun r_28 hq => ?_)
              exact hR _ _ _ f_24 v_25 dX5_choose_97 hq
            · replace hq := hq.2 c_27
              refine j_iload_n 89 C dX5_choose_88 rfl 3 rfl ?_
              refine j_goto 97 C dX5_choose_89 rfl ?_
              exact hR _ _ _ f_24 v_25 dX5_choose_97 hq
          · replace hq := hq.2 c_26
            refine j_iload_n 59 C dX5_choose_58 rfl 2 rfl ?_
            refine j_bipush 61 C dX5_choose_59 rfl bc_10 ?_
            refine j_isub 62 C dX5_choose_61 rfl ?_
            refine j_aload_n 63 C dX5_choose_62 rfl 0 rfl ?_
            refine j_get 66 C uX5 0 rfl rfl 23 (Nat.le_of_ble_eq_true rfl) lX5_222 (v := .int (v_25 7)) rfl dX5_choose_63 rfl ?_
            refine j_icmp_ge 69 81 C dX5_choose_66 rfl rfl (fun c_29 => ?_) (fun c_29 => ?_)
            · replace hq := hq.1 c_29
              refine j_bipush 83 C dX5_choose_81 rfl bc_m9 ?_
              exact hR _ _ _ f_24 v_25 dX5_choose_83 hq
            · replace hq := hq.2 c_29
              refine j_aload_n 70 C dX5_choose_69 rfl 0 rfl ?_
              refine j_get 73 C uX5 0 rfl rfl 22 (Nat.le_of_ble_eq_true rfl) lX5_55 (v := .ref (h 16)) rfl dX5_choose_70 rfl ?_
              refine j_iload_n 74 C dX5_choose_73 rfl 2 rfl ?_
              refine j_bipush 76 C dX5_choose_74 rfl bc_10 ?_
              refine j_isub 77 C dX5_choose_76 rfl ?_
              obtain ⟨hi_30, hq⟩ := hq
              refine j_iald 78 C 16 (f := (f_24 15)) rfl hi_30 dX5_choose_77 rfl ?_
              refine j_goto 83 C dX5_choose_78 rfl ?_
              exact hR _ _ _ f_24 v_25 dX5_choose_83 hq
        · replace hq := hq.2 c_19
          refine j_bipush 41 C dX5_choose_39 rfl bc_m3 ?_
          exact hR _ _ _ f v dX5_choose_41 hq
      · replace hq := hq.2 c_18
        refine j_bipush 31 C dX5_choose_29 rfl bc_m2 ?_
        exact hR _ _ _ f v dX5_choose_31 hq
def Q_X5_inLeastTerms_L6 (y0 : Int64) (y2 : Int64) (x4 : Int32) (K31 : Int64 → Int64 → Prop) : Nat → Int64 → Int64 → Prop
  | 0, _, _ => False
  | n + 1, y5, y7 => (((lg_cmp y7 (0 : Int64)) = 0 → (K31 y5 y7)) ∧ (¬ (lg_cmp y7 (0 : Int64)) = 0 → (¬ y7 = 0 ∧ (∀ x_3 : Int64, x_3 = (y5 - y5 / y7 * y7) → (Q_X5_inLeastTerms_L6 y0 y2 x4 K31 n y7 x_3)))))
set_option maxRecDepth 100000 in
set_option maxHeartbeats 4000000 in
theorem t_X5_inLeastTerms_L6 {κ : Kx} {G : Gx} (C : Cx κ G RX5 cX5_inLeastTerms rmX5_inLeastTerms 11) {y0 : Int64} {y2 : Int64} {x4 : Int32} {K31 : Int64 → Int64 → Prop} (hK31 : ∀ (y5 : Int64) (y7 : Int64), K31 y5 y7 → J κ 0 0 [] 31 [(0, .long y0), (2, .long y2), (4, .int x4), (5, .long y5), (7, .long y7)] []) : ∀ (n : Nat) (y5 : Int64) (y7 : Int64), Q_X5_inLeastTerms_L6 y0 y2 x4 K31 n y5 y7 → J κ 0 0 [] 6 [(0, .long y0), (2, .long y2), (4, .int x4), (5, .long y5), (7, .long y7)] [] := by
  intro n
  induction n with
  | zero => intro y5 y7 hq; exact False.elim hq
  | succ n ih =>
    intro y5 y7 hq
    rw [Q_X5_inLeastTerms_L6] at hq
    refine j_lload 8 C dX5_inLeastTerms_6 rfl 4 rfl ?_
    refine j_lconst 9 C dX5_inLeastTerms_8 rfl (v := 0) rfl ?_
    refine j_lcmp 10 C dX5_inLeastTerms_9 rfl ?_
    refine j_if_eq 13 31 C dX5_inLeastTerms_10 rfl rfl (fun c_1 => ?_) (fun c_1 => ?_)
    · replace hq := hq.1 c_1
      refine J.l0 [0, 1, 2, 3, 4] rfl ?_
      exact hK31 _ _ hq
    · replace hq := hq.2 c_1
      refine j_lload 15 C dX5_inLeastTerms_13 rfl 3 rfl ?_
      refine j_lload 17 C dX5_inLeastTerms_15 rfl 4 rfl ?_
      obtain ⟨hz_2, hq⟩ := hq
      refine j_lrem 18 C dX5_inLeastTerms_17 rfl hz_2 ?_
      refine J.topl (fun x_3 ex_3 => ?_)
      replace hq := hq x_3 ex_3
      refine j_lstore 20 C dX5_inLeastTerms_18 rfl (Nat.le_of_ble_eq_true rfl) [1, 2, 3, 4, 5, 0] (lv' := [(0, .long y0), (2, .long y2), (4, .int x4), (5, .long y5), (7, .long y7), (9, .long x_3)]) rfl ?_
      refine j_lload 22 C dX5_inLeastTerms_20 rfl 4 rfl ?_
      refine j_lstore 24 C dX5_inLeastTerms_22 rfl (Nat.le_of_ble_eq_true rfl) [1, 2, 3, 0, 4, 5] (lv' := [(0, .long y0), (2, .long y2), (4, .int x4), (5, .long y7), (7, .long y7), (9, .long x_3)]) rfl ?_
      refine j_lload 26 C dX5_inLeastTerms_24 rfl 5 rfl ?_
      refine j_lstore 28 C dX5_inLeastTerms_26 rfl (Nat.le_of_ble_eq_true rfl) [1, 2, 3, 4, 0, 5] (lv' := [(0, .long y0), (2, .long y2), (4, .int x4), (5, .long y7), (7, .long x_3), (9, .long x_3)]) rfl ?_
      refine j_goto 6 C dX5_inLeastTerms_28 rfl ?_
      refine J.l0 [0, 1, 2, 3, 4] rfl ?_
      exact ih _ _ hq
def Q_X5_inLeastTerms (p0 : Int64) (p1 : Int64) (p2 : Int32) (post : Int64 → Prop) : Prop := ∃ n_4 : Nat, Q_X5_inLeastTerms_L6 p0 p1 p2 (fun x_5 x_6 => (((¬ p2 = 0 → (¬ x_5 = 0 ∧ (post (p1 / x_5)))) ∧ (p2 = 0 → (¬ x_5 = 0 ∧ (post (p0 / x_5))))))) n_4 p0 p1
set_option maxRecDepth 100000 in
set_option maxHeartbeats 4000000 in
theorem m_X5_inLeastTerms {l : Launch} (G : Gx) (p0 : Int64) (p1 : Int64) (p2 : Int32) {post : Int64 → Prop} (hq : Q_X5_inLeastTerms p0 p1 p2 post) : MetL l yX5_inLeastTerms (gC yX5_inLeastTerms cX5_inLeastTerms 11 (some .long)) rmX5_inLeastTerms G [.long p0, .long p1, .int p2] w0 f0 v0 (fun r _ _ => post r) := by
  refine met_l (own := RX5) (by decide) rfl (Nat.le_of_ble_eq_true rfl) (fun κ hκ C hR => ?_)
  unfold Q_X5_inLeastTerms at hq
  subst hκ
  show J κ 0 0 [] 0 [(0, .long p0), (2, .long p1), (4, .int p2)] []
  refine j_lload_n 1 C dX5_inLeastTerms_0 rfl 0 rfl ?_
  refine j_lstore 3 C dX5_inLeastTerms_1 rfl (Nat.le_of_ble_eq_true rfl) [1, 2, 3, 0] (lv' := [(0, .long p0), (2, .long p1), (4, .int p2), (5, .long p0)]) rfl ?_
  refine j_lload_n 4 C dX5_inLeastTerms_3 rfl 1 rfl ?_
  refine j_lstore 6 C dX5_inLeastTerms_4 rfl (Nat.le_of_ble_eq_true rfl) [1, 2, 3, 4, 0] (lv' := [(0, .long p0), (2, .long p1), (4, .int p2), (5, .long p0), (7, .long p1)]) rfl ?_
  obtain ⟨n_4, hq⟩ := hq
  refine t_X5_inLeastTerms_L6 C ?_ n_4 _ _ hq
  · intro x_5 x_6 hq
    refine j_iload 33 C dX5_inLeastTerms_31 rfl 2 rfl ?_
    refine j_if_ne 36 43 C dX5_inLeastTerms_33 rfl rfl (fun c_7 => ?_) (fun c_7 => ?_)
    · replace hq := hq.1 c_7
      refine j_lload_n 44 C dX5_inLeastTerms_43 rfl 1 rfl ?_
      refine j_lload 46 C dX5_inLeastTerms_44 rfl 3 rfl ?_
      obtain ⟨hz_8, hq⟩ := hq
      refine j_ldiv 47 C dX5_inLeastTerms_46 rfl hz_8 ?_
      exact hR _ _ _ f0 v0 dX5_inLeastTerms_47 hq
    · replace hq := hq.2 c_7
      refine j_lload_n 37 C dX5_inLeastTerms_36 rfl 0 rfl ?_
      refine j_lload 39 C dX5_inLeastTerms_37 rfl 3 rfl ?_
      obtain ⟨hz_9, hq⟩ := hq
      refine j_ldiv 40 C dX5_inLeastTerms_39 rfl hz_9 ?_
      refine j_goto 47 C dX5_inLeastTerms_40 rfl ?_
      exact hR _ _ _ f0 v0 dX5_inLeastTerms_47 hq
def Q_X5_score (p0 : Int32) (f : FF) (v : VV) (post : Int64 → FF → VV → Prop) : Prop := Q_X5_within p0 (0 : Int32) (1 : Int32) (fun r_1 => (((r_1 = 0 → (post (-9223372036854775808 : Int64) f v)) ∧ (¬ r_1 = 0 → (((¬ (v 2) = 0 → (Q_X5_findKillers  f v (fun f_5 v_6 => (Q_X5_mutants  f_5 v_6 (fun r_7 => (Q_X5_manyEqual  f_5 v_6 (fun r_8 f_9 v_10 => (∀ x_11 : Int32, x_11 = (r_7 - r_8) → (((¬ x_11 = 0 → (Q_X5_killed  f_9 v_10 (fun r_13 => (Q_X5_inLeastTerms ((r_13).toInt64) ((x_11).toInt64) p0 (fun r_14 => (post r_14 f_9 v_10)))))) ∧ (x_11 = 0 → (post ((p0).toInt64) f_9 v_10)))))))))))) ∧ ((v 2) = 0 → (post (-9223372036854775808 : Int64) f v))))))))
set_option maxRecDepth 100000 in
set_option maxHeartbeats 4000000 in
theorem m_X5_score {l : Launch} (G : Gx) (h : Nat → Nat) (p0 : Int32) (f : FF) (v : VV) {post : Int64 → FF → VV → Prop} (hq : Q_X5_score p0 f v post) : MetL l yX5_score (gC yX5_score cX5_score 3 (some .long)) rmX5_score G [.ref (h 0), .int p0] (wE G h) f v post := by
  refine met_l (own := RX5) (by decide) rfl (Nat.le_of_ble_eq_true rfl) (fun κ hκ C hR => ?_)
  unfold Q_X5_score at hq
  subst hκ
  show J κ 0 0 (wE G h f v) 0 [(0, .ref (h 0)), (1, .int p0)] []
  refine j_iload_n 1 C dX5_score_0 rfl 1 rfl ?_
  refine j_iconst 2 C dX5_score_1 rfl ic_0 ?_
  refine j_iconst 3 C dX5_score_2 rfl ic_1 ?_
  refine j_callSi 6 C [] (wE G h f v) (fun _ _ => (wE G h f v)) (As := [.int p0, .int (0 : Int32), .int (1 : Int32)]) (m_X5_within G p0 (0 : Int32) (1 : Int32) hq) oX5_within kX5_67 ⟨rfl, rfl⟩ eX5_within ⟨Nat.le_of_ble_eq_true rfl, Nat.le_of_ble_eq_true rfl⟩ ⟨Nat.zero_le _, Nat.zero_le _⟩ rfl (fun _ _ => rfl) (fun _ _ => rfl) rfl (Nat.le_of_ble_eq_true rfl) dX5_score_3 rfl (fun r_1 _ _ hq => ?_)
  refine j_if_eq 9 16 C dX5_score_6 rfl rfl (fun c_2 => ?_) (fun c_2 => ?_)
  · replace hq := hq.1 c_2
    refine j_ldc2_w 19 C dX5_score_16 rfl kX5_65 ?_
    exact hR _ _ _ f v dX5_score_19 hq
  · replace hq := hq.2 c_2
    refine j_aload_n 10 C dX5_score_9 rfl 0 rfl ?_
    refine j_get 13 C uX5 0 rfl rfl 5 (Nat.le_of_ble_eq_true rfl) lX5_71 (v := .int (v 2)) rfl dX5_score_10 rfl ?_
    refine j_if_ne 16 20 C dX5_score_13 rfl rfl (fun c_3 => ?_) (fun c_3 => ?_)
    · replace hq := hq.1 c_3
      refine j_aload_n 21 C dX5_score_20 rfl 0 rfl ?_
      refine j_callVv 24 C [] [] (fun f' v' => (wE G h f' v')) (As := []) (m_X5_findKillers G h f v hq) oX5_findKillers kX5_162 ⟨rfl, rfl⟩ eX5_findKillers ⟨Nat.le_of_ble_eq_true rfl, Nat.le_of_ble_eq_true rfl⟩ ⟨Nat.zero_le _, Nat.zero_le _⟩ (List.append_nil _).symm (fun _ _ => List.append_nil _) (fun _ _ => rfl) 0 rfl rfl rfl (Nat.le_of_ble_eq_true rfl) dX5_score_21 rfl (fun f_5 v_6 hq => ?_)
      refine j_aload_n 25 C dX5_score_24 rfl 0 rfl ?_
      refine j_callVi_ro 28 C [] [] (As := []) (m_X5_mutants G h f_5 v_6 hq) oX5_mutants kX5_77 ⟨rfl, rfl⟩ eX5_mutants ⟨Nat.le_of_ble_eq_true rfl, Nat.le_of_ble_eq_true rfl⟩ ⟨Nat.zero_le _, Nat.zero_le _⟩ (List.append_nil _).symm (fun _ _ => rfl) 0 rfl rfl rfl (Nat.le_of_ble_eq_true rfl) dX5_score_25 rfl (fun r_7 hq => ?_)
      refine j_aload_n 29 C dX5_score_28 rfl 0 rfl ?_
      refine j_callVi 32 C [] [] (fun f' v' => (wE G h f' v')) (As := []) (m_X5_manyEqual G h f_5 v_6 hq) oX5_manyEqual kX5_207 ⟨rfl, rfl⟩ eX5_manyEqual ⟨Nat.le_of_ble_eq_true rfl, Nat.le_of_ble_eq_true rfl⟩ ⟨Nat.zero_le _, Nat.zero_le _⟩ (List.append_nil _).symm (fun _ _ => List.append_nil _) (fun _ _ => rfl) 0 rfl rfl rfl (Nat.le_of_ble_eq_true rfl) dX5_score_29 rfl (fun r_8 f_9 v_10 hq => ?_)
      refine j_isub 33 C dX5_score_32 rfl ?_
      refine J.topi (fun x_11 ex_11 => ?_)
      replace hq := hq x_11 ex_11
      refine j_istore_n 34 C dX5_score_33 rfl (Nat.le_of_ble_eq_true rfl) [1, 2, 0] (lv' := [(0, .ref (h 0)), (1, .int p0), (2, .int x_11)]) rfl ?_
      refine j_iload_n 35 C dX5_score_34 rfl 2 rfl ?_
      refine j_if_ne 38 43 C dX5_score_35 rfl rfl (fun c_12 => ?_) (fun c_12 => ?_)
      · replace hq := hq.1 c_12
        refine j_aload_n 44 C dX5_score_43 rfl 0 rfl ?_
        refine j_callVi_ro 47 C [] [] (As := []) (m_X5_killed G h f_9 v_10 hq) oX5_killed kX5_204 ⟨rfl, rfl⟩ eX5_killed ⟨Nat.le_of_ble_eq_true rfl, Nat.le_of_ble_eq_true rfl⟩ ⟨Nat.zero_le _, Nat.zero_le _⟩ (List.append_nil _).symm (fun _ _ => rfl) 0 rfl rfl rfl (Nat.le_of_ble_eq_true rfl) dX5_score_44 rfl (fun r_13 hq => ?_)
        refine j_i2l 48 C dX5_score_47 rfl ?_
        refine j_iload_n 49 C dX5_score_48 rfl 2 rfl ?_
        refine j_i2l 50 C dX5_score_49 rfl ?_
        refine j_iload_n 51 C dX5_score_50 rfl 1 rfl ?_
        refine j_callSl 54 C [] (wE G h f_9 v_10) (fun _ _ => (wE G h f_9 v_10)) (As := [.long ((r_13).toInt64), .long ((x_11).toInt64), .int p0]) (m_X5_inLeastTerms G ((r_13).toInt64) ((x_11).toInt64) p0 hq) oX5_inLeastTerms kX5_232 ⟨rfl, rfl⟩ eX5_inLeastTerms ⟨Nat.le_of_ble_eq_true rfl, Nat.le_of_ble_eq_true rfl⟩ ⟨Nat.zero_le _, Nat.zero_le _⟩ rfl (fun _ _ => rfl) (fun _ _ => rfl) rfl (Nat.le_of_ble_eq_true rfl) dX5_score_51 rfl (fun r_14 _ _ hq => ?_)
        exact hR _ _ _ f_9 v_10 dX5_score_54 hq
      · replace hq := hq.2 c_12
        refine j_iload_n 39 C dX5_score_38 rfl 1 rfl ?_
        refine j_i2l 40 C dX5_score_39 rfl ?_
        refine j_goto 54 C dX5_score_40 rfl ?_
        exact hR _ _ _ f_9 v_10 dX5_score_54 hq
    · replace hq := hq.2 c_3
      refine j_ldc2_w 19 C dX5_score_16 rfl kX5_65 ?_
      exact hR _ _ _ f v dX5_score_19 hq
def Q_X5_reading (p0 : Int32) (f : FF) (v : VV) (post : Int32 → FF → VV → Prop) : Prop := ((¬ (v 2) = 0 → (Q_X5_within p0 (0 : Int32) (200 : Int32) (fun r_2 => (((¬ r_2 = 0 → (((¬ (v 8) = (8 : Int32) → (vp_in (v 8) 8 ∧ (∀ f_6 : FF, f_6 = fu f 16 (wr (f 16) (v 8) p0) → (∀ v_7 : VV, v_7 = fu v 8 ((v 8) + (1 : Int32)) → (post ((v_7 8) - (1 : Int32)) f_6 v_7))))) ∧ ((v 8) = (8 : Int32) → (post (-4 : Int32) f v))))) ∧ (r_2 = 0 → (post (-2 : Int32) f v))))))) ∧ ((v 2) = 0 → (post (-3 : Int32) f v)))
set_option maxRecDepth 100000 in
set_option maxHeartbeats 4000000 in
theorem m_X5_reading {l : Launch} (G : Gx) (h : Nat → Nat) (p0 : Int32) (f : FF) (v : VV) {post : Int32 → FF → VV → Prop} (hq : Q_X5_reading p0 f v post) : MetI l yX5_reading (gC yX5_reading cX5_reading 2 (some .int)) rmX5_reading G [.ref (h 0), .int p0] (wE G h) f v post := by
  refine met_i (own := RX5) (by decide) rfl (Nat.le_of_ble_eq_true rfl) (fun κ hκ C hR => ?_)
  unfold Q_X5_reading at hq
  subst hκ
  show J κ 0 0 (wE G h f v) 0 [(0, .ref (h 0)), (1, .int p0)] []
  refine j_aload_n 1 C dX5_reading_0 rfl 0 rfl ?_
  refine j_get 4 C uX5 0 rfl rfl 5 (Nat.le_of_ble_eq_true rfl) lX5_71 (v := .int (v 2)) rfl dX5_reading_1 rfl ?_
  refine j_if_ne 7 10 C dX5_reading_4 rfl rfl (fun c_1 => ?_) (fun c_1 => ?_)
  · replace hq := hq.1 c_1
    refine j_iload_n 11 C dX5_reading_10 rfl 1 rfl ?_
    refine j_iconst 12 C dX5_reading_11 rfl ic_0 ?_
    refine j_sipush 15 C dX5_reading_12 rfl sc_200 ?_
    refine j_callSi 18 C [] (wE G h f v) (fun _ _ => (wE G h f v)) (As := [.int p0, .int (0 : Int32), .int (200 : Int32)]) (m_X5_within G p0 (0 : Int32) (200 : Int32) hq) oX5_within kX5_67 ⟨rfl, rfl⟩ eX5_within ⟨Nat.le_of_ble_eq_true rfl, Nat.le_of_ble_eq_true rfl⟩ ⟨Nat.zero_le _, Nat.zero_le _⟩ rfl (fun _ _ => rfl) (fun _ _ => rfl) rfl (Nat.le_of_ble_eq_true rfl) dX5_reading_15 rfl (fun r_2 _ _ hq => ?_)
    refine j_if_ne 21 24 C dX5_reading_18 rfl rfl (fun c_3 => ?_) (fun c_3 => ?_)
    · replace hq := hq.1 c_3
      refine j_aload_n 25 C dX5_reading_24 rfl 0 rfl ?_
      refine j_get 28 C uX5 0 rfl rfl 24 (Nat.le_of_ble_eq_true rfl) lX5_108 (v := .int (v 8)) rfl dX5_reading_25 rfl ?_
      refine j_bipush 30 C dX5_reading_28 rfl bc_8 ?_
      refine j_icmp_ne 33 36 C dX5_reading_30 rfl rfl (fun c_4 => ?_) (fun c_4 => ?_)
      · replace hq := hq.1 c_4
        refine j_aload_n 37 C dX5_reading_36 rfl 0 rfl ?_
        refine j_get 40 C uX5 0 rfl rfl 25 (Nat.le_of_ble_eq_true rfl) lX5_58 (v := .ref (h 17)) rfl dX5_reading_37 rfl ?_
        refine j_aload_n 41 C dX5_reading_40 rfl 0 rfl ?_
        refine j_get 44 C uX5 0 rfl rfl 24 (Nat.le_of_ble_eq_true rfl) lX5_108 (v := .int (v 8)) rfl dX5_reading_41 rfl ?_
        refine j_iload_n 45 C dX5_reading_44 rfl 1 rfl ?_
        obtain ⟨hi_5, hq⟩ := hq
        obtain ⟨f_6, ef_6⟩ : ∃ y : FF, y = fu f 16 (wr (f 16) (v 8) p0) := ⟨_, rfl⟩
        replace hq := hq f_6 ef_6
        refine j_iast 46 C 17 rfl hi_5 dX5_reading_45 rfl (ws' := (wE G h f_6 v)) (by subst ef_6; rfl) ?_
        refine j_aload_n 47 C dX5_reading_46 rfl 0 rfl ?_
        refine j_dup 48 C dX5_reading_47 rfl rfl ?_
        refine j_get 51 C uX5 0 rfl rfl 24 (Nat.le_of_ble_eq_true rfl) lX5_108 (v := .int (v 8)) rfl dX5_reading_48 rfl ?_
        refine j_iconst 52 C dX5_reading_51 rfl ic_1 ?_
        refine j_iadd 53 C dX5_reading_52 rfl ?_
        obtain ⟨v_7, ev_7⟩ : ∃ y : VV, y = fu v 8 ((v 8) + (1 : Int32)) := ⟨_, rfl⟩
        replace hq := hq v_7 ev_7
        refine j_put 56 C uX5 tyX5 tyX5_ok nmX5 0 rfl rfl 24 (Nat.le_of_ble_eq_true rfl) lX5_108 rfl rfl (Nat.le_of_ble_eq_true rfl) dX5_reading_53 rfl (ws' := (wE G h f_6 v_7)) (by subst ev_7; rfl) ?_
        refine j_aload_n 57 C dX5_reading_56 rfl 0 rfl ?_
        refine j_get 60 C uX5 0 rfl rfl 24 (Nat.le_of_ble_eq_true rfl) lX5_108 (v := .int (v_7 8)) rfl dX5_reading_57 rfl ?_
        refine j_iconst 61 C dX5_reading_60 rfl ic_1 ?_
        refine j_isub 62 C dX5_reading_61 rfl ?_
        exact hR _ _ _ f_6 v_7 dX5_reading_62 hq
      · replace hq := hq.2 c_4
        refine j_bipush 35 C dX5_reading_33 rfl bc_m4 ?_
        exact hR _ _ _ f v dX5_reading_35 hq
    · replace hq := hq.2 c_3
      refine j_bipush 23 C dX5_reading_21 rfl bc_m2 ?_
      exact hR _ _ _ f v dX5_reading_23 hq
  · replace hq := hq.2 c_1
    refine j_bipush 9 C dX5_reading_7 rfl bc_m3 ?_
    exact hR _ _ _ f v dX5_reading_9 hq
def Q_X5_back (p0 : Int32) (f : FF) (v : VV) (post : Int32 → FF → VV → Prop) : Prop := Q_X5_within p0 (0 : Int32) (v 8) (fun r_1 => (((¬ r_1 = 0 → (∀ v_3 : VV, v_3 = fu v 8 ((v 8) - p0) → (post (v_3 8) f v_3))) ∧ (r_1 = 0 → (post (-2 : Int32) f v)))))
set_option maxRecDepth 100000 in
set_option maxHeartbeats 4000000 in
theorem m_X5_back {l : Launch} (G : Gx) (h : Nat → Nat) (p0 : Int32) (f : FF) (v : VV) {post : Int32 → FF → VV → Prop} (hq : Q_X5_back p0 f v post) : MetI l yX5_back (gC yX5_back cX5_back 2 (some .int)) rmX5_back G [.ref (h 0), .int p0] (wE G h) f v post := by
  refine met_i (own := RX5) (by decide) rfl (Nat.le_of_ble_eq_true rfl) (fun κ hκ C hR => ?_)
  unfold Q_X5_back at hq
  subst hκ
  show J κ 0 0 (wE G h f v) 0 [(0, .ref (h 0)), (1, .int p0)] []
  refine j_iload_n 1 C dX5_back_0 rfl 1 rfl ?_
  refine j_iconst 2 C dX5_back_1 rfl ic_0 ?_
  refine j_aload_n 3 C dX5_back_2 rfl 0 rfl ?_
  refine j_get 6 C uX5 0 rfl rfl 24 (Nat.le_of_ble_eq_true rfl) lX5_108 (v := .int (v 8)) rfl dX5_back_3 rfl ?_
  refine j_callSi 9 C [] (wE G h f v) (fun _ _ => (wE G h f v)) (As := [.int p0, .int (0 : Int32), .int (v 8)]) (m_X5_within G p0 (0 : Int32) (v 8) hq) oX5_within kX5_67 ⟨rfl, rfl⟩ eX5_within ⟨Nat.le_of_ble_eq_true rfl, Nat.le_of_ble_eq_true rfl⟩ ⟨Nat.zero_le _, Nat.zero_le _⟩ rfl (fun _ _ => rfl) (fun _ _ => rfl) rfl (Nat.le_of_ble_eq_true rfl) dX5_back_6 rfl (fun r_1 _ _ hq => ?_)
  refine j_if_ne 12 15 C dX5_back_9 rfl rfl (fun c_2 => ?_) (fun c_2 => ?_)
  · replace hq := hq.1 c_2
    refine j_aload_n 16 C dX5_back_15 rfl 0 rfl ?_
    refine j_dup 17 C dX5_back_16 rfl rfl ?_
    refine j_get 20 C uX5 0 rfl rfl 24 (Nat.le_of_ble_eq_true rfl) lX5_108 (v := .int (v 8)) rfl dX5_back_17 rfl ?_
    refine j_iload_n 21 C dX5_back_20 rfl 1 rfl ?_
    refine j_isub 22 C dX5_back_21 rfl ?_
    obtain ⟨v_3, ev_3⟩ : ∃ y : VV, y = fu v 8 ((v 8) - p0) := ⟨_, rfl⟩
    replace hq := hq v_3 ev_3
    refine j_put 25 C uX5 tyX5 tyX5_ok nmX5 0 rfl rfl 24 (Nat.le_of_ble_eq_true rfl) lX5_108 rfl rfl (Nat.le_of_ble_eq_true rfl) dX5_back_22 rfl (ws' := (wE G h f v_3)) (by subst ev_3; rfl) ?_
    refine j_aload_n 26 C dX5_back_25 rfl 0 rfl ?_
    refine j_get 29 C uX5 0 rfl rfl 24 (Nat.le_of_ble_eq_true rfl) lX5_108 (v := .int (v_3 8)) rfl dX5_back_26 rfl ?_
    exact hR _ _ _ f v_3 dX5_back_29 hq
  · replace hq := hq.2 c_2
    refine j_bipush 14 C dX5_back_12 rfl bc_m2 ?_
    exact hR _ _ _ f v dX5_back_14 hq
def Q_X5_areSo_L26 (x1 : Int32) (K60 : Int32 → Int32 → FF → VV → Prop) : Nat → Int32 → Int32 → FF → VV → Prop
  | 0, _, _, _, _ => False
  | n + 1, x2, x3, f, v => (((v 8) ≤ x3 → (K60 x2 x3 f v)) ∧ (¬ (v 8) ≤ x3 → (((x2 = 0 → (∀ x_9 : Int32, x_9 = (x3 + (1 : Int32)) → (Q_X5_areSo_L26 x1 K60 n (0 : Int32) x_9 f v))) ∧ (¬ x2 = 0 → (vp_in x3 8 ∧ (((¬ ((f 16) (x3).toNatClampNeg) = x1 → (∀ x_12 : Int32, x_12 = (x3 + (1 : Int32)) → (Q_X5_areSo_L26 x1 K60 n (0 : Int32) x_12 f v))) ∧ (((f 16) (x3).toNatClampNeg) = x1 → (∀ x_13 : Int32, x_13 = (x3 + (1 : Int32)) → (Q_X5_areSo_L26 x1 K60 n (1 : Int32) x_13 f v)))))))))))
set_option maxRecDepth 100000 in
set_option maxHeartbeats 4000000 in
theorem t_X5_areSo_L26 {κ : Kx} {G : Gx} {h : Nat → Nat} (C : Cx κ G RX5 cX5_areSo rmX5_areSo 4) {x1 : Int32} {K60 : Int32 → Int32 → FF → VV → Prop} (hK60 : ∀ (x2 : Int32) (x3 : Int32) (f : FF) (v : VV), K60 x2 x3 f v → J κ 0 0 (wE G h f v) 60 [(0, .ref (h 0)), (1, .int x1), (2, .int x2), (3, .int x3)] []) : ∀ (n : Nat) (x2 : Int32) (x3 : Int32) (f : FF) (v : VV), Q_X5_areSo_L26 x1 K60 n x2 x3 f v → J κ 0 0 (wE G h f v) 26 [(0, .ref (h 0)), (1, .int x1), (2, .int x2), (3, .int x3)] [] := by
  intro n
  induction n with
  | zero => intro x2 x3 f v hq; exact False.elim hq
  | succ n ih =>
    intro x2 x3 f v hq
    rw [Q_X5_areSo_L26] at hq
    refine j_iload_n 27 C dX5_areSo_26 rfl 3 rfl ?_
    refine j_aload_n 28 C dX5_areSo_27 rfl 0 rfl ?_
    refine j_get 31 C uX5 0 rfl rfl 24 (Nat.le_of_ble_eq_true rfl) lX5_108 (v := .int (v 8)) rfl dX5_areSo_28 rfl ?_
    refine j_icmp_ge 34 60 C dX5_areSo_31 rfl rfl (fun c_7 => ?_) (fun c_7 => ?_)
    · replace hq := hq.1 c_7
      refine J.l0 [0, 1, 2, 3] rfl ?_
      exact hK60 _ _ _ _ hq
    · replace hq := hq.2 c_7
      refine j_iload_n 35 C dX5_areSo_34 rfl 2 rfl ?_
      refine j_if_eq 38 52 C dX5_areSo_35 rfl rfl (fun c_8 => ?_) (fun c_8 => ?_)
      · replace hq := hq.1 c_8
        refine j_iconst 53 C dX5_areSo_52 rfl ic_0 ?_
        refine j_istore_n 54 C dX5_areSo_53 rfl (Nat.le_of_ble_eq_true rfl) [1, 2, 0, 3] (lv' := [(0, .ref (h 0)), (1, .int x1), (2, .int (0 : Int32)), (3, .int x3)]) rfl ?_
        obtain ⟨x_9, ex_9⟩ : ∃ y : Int32, y = (x3 + (1 : Int32)) := ⟨_, rfl⟩
        replace hq := hq x_9 ex_9
        refine j_iinc 57 C dX5_areSo_54 rfl 3 rfl (v := x_9) (by rw [ex_9]; rfl) (Nat.le_of_ble_eq_true rfl) [1, 2, 3, 0] (lv' := [(0, .ref (h 0)), (1, .int x1), (2, .int (0 : Int32)), (3, .int x_9)]) rfl ?_
        refine j_goto 26 C dX5_areSo_57 rfl ?_
        refine J.l0 [0, 1, 2, 3] rfl ?_
        exact ih _ _ _ _ hq
      · replace hq := hq.2 c_8
        refine j_aload_n 39 C dX5_areSo_38 rfl 0 rfl ?_
        refine j_get 42 C uX5 0 rfl rfl 25 (Nat.le_of_ble_eq_true rfl) lX5_58 (v := .ref (h 17)) rfl dX5_areSo_39 rfl ?_
        refine j_iload_n 43 C dX5_areSo_42 rfl 3 rfl ?_
        obtain ⟨hi_10, hq⟩ := hq
        refine j_iald 44 C 17 (f := (f 16)) rfl hi_10 dX5_areSo_43 rfl ?_
        refine j_iload_n 45 C dX5_areSo_44 rfl 1 rfl ?_
        refine j_icmp_ne 48 52 C dX5_areSo_45 rfl rfl (fun c_11 => ?_) (fun c_11 => ?_)
        · replace hq := hq.1 c_11
          refine j_iconst 53 C dX5_areSo_52 rfl ic_0 ?_
          refine j_istore_n 54 C dX5_areSo_53 rfl (Nat.le_of_ble_eq_true rfl) [1, 2, 0, 3] (lv' := [(0, .ref (h 0)), (1, .int x1), (2, .int (0 : Int32)), (3, .int x3)]) rfl ?_
          obtain ⟨x_12, ex_12⟩ : ∃ y : Int32, y = (x3 + (1 : Int32)) := ⟨_, rfl⟩
          replace hq := hq x_12 ex_12
          refine j_iinc 57 C dX5_areSo_54 rfl 3 rfl (v := x_12) (by rw [ex_12]; rfl) (Nat.le_of_ble_eq_true rfl) [1, 2, 3, 0] (lv' := [(0, .ref (h 0)), (1, .int x1), (2, .int (0 : Int32)), (3, .int x_12)]) rfl ?_
          refine j_goto 26 C dX5_areSo_57 rfl ?_
          refine J.l0 [0, 1, 2, 3] rfl ?_
          exact ih _ _ _ _ hq
        · replace hq := hq.2 c_11
          refine j_iconst 49 C dX5_areSo_48 rfl ic_1 ?_
          refine j_goto 53 C dX5_areSo_49 rfl ?_
          refine j_istore_n 54 C dX5_areSo_53 rfl (Nat.le_of_ble_eq_true rfl) [1, 2, 0, 3] (lv' := [(0, .ref (h 0)), (1, .int x1), (2, .int (1 : Int32)), (3, .int x3)]) rfl ?_
          obtain ⟨x_13, ex_13⟩ : ∃ y : Int32, y = (x3 + (1 : Int32)) := ⟨_, rfl⟩
          replace hq := hq x_13 ex_13
          refine j_iinc 57 C dX5_areSo_54 rfl 3 rfl (v := x_13) (by rw [ex_13]; rfl) (Nat.le_of_ble_eq_true rfl) [1, 2, 3, 0] (lv' := [(0, .ref (h 0)), (1, .int x1), (2, .int (1 : Int32)), (3, .int x_13)]) rfl ?_
          refine j_goto 26 C dX5_areSo_57 rfl ?_
          refine J.l0 [0, 1, 2, 3] rfl ?_
          exact ih _ _ _ _ hq
def Q_X5_areSo (f : FF) (v : VV) (post : Int32 → FF → VV → Prop) : Prop := ((¬ (v 8) = 0 → (Q_X5_findKillers  f v (fun f_3 v_4 => (Q_X5_findCover  f_3 v_4 (fun r_5 => (Q_X5_weightOfSet r_5 f_3 v_4 (fun r_6 => (∃ n_14 : Nat, Q_X5_areSo_L26 r_6 (fun x_15 x_16 f_17 v_18 => (((x_15 = 0 ∨ x_15 = 1) ∧ post x_15 f_17 v_18))) n_14 (1 : Int32) (0 : Int32) f_3 v_4)))))))) ∧ ((v 8) = 0 → (post (1 : Int32) f v)))
set_option maxRecDepth 100000 in
set_option maxHeartbeats 4000000 in
theorem m_X5_areSo {l : Launch} (G : Gx) (h : Nat → Nat) (f : FF) (v : VV) {post : Int32 → FF → VV → Prop} (hq : Q_X5_areSo f v post) : MetI l yX5_areSo (gC yX5_areSo cX5_areSo 4 (some .boolean)) rmX5_areSo G [.ref (h 0)] (wE G h) f v post := by
  refine met_z (own := RX5) (by decide) rfl (Nat.le_of_ble_eq_true rfl) (fun κ hκ C hR => ?_)
  unfold Q_X5_areSo at hq
  subst hκ
  show J κ 0 0 (wE G h f v) 0 [(0, .ref (h 0))] []
  refine j_aload_n 1 C dX5_areSo_0 rfl 0 rfl ?_
  refine j_get 4 C uX5 0 rfl rfl 24 (Nat.le_of_ble_eq_true rfl) lX5_108 (v := .int (v 8)) rfl dX5_areSo_1 rfl ?_
  refine j_if_ne 7 9 C dX5_areSo_4 rfl rfl (fun c_1 => ?_) (fun c_1 => ?_)
  · replace hq := hq.1 c_1
    refine j_aload_n 10 C dX5_areSo_9 rfl 0 rfl ?_
    refine j_callVv 13 C [] [] (fun f' v' => (wE G h f' v')) (As := []) (m_X5_findKillers G h f v hq) oX5_findKillers kX5_162 ⟨rfl, rfl⟩ eX5_findKillers ⟨Nat.le_of_ble_eq_true rfl, Nat.le_of_ble_eq_true rfl⟩ ⟨Nat.zero_le _, Nat.zero_le _⟩ (List.append_nil _).symm (fun _ _ => List.append_nil _) (fun _ _ => rfl) 0 rfl rfl rfl (Nat.le_of_ble_eq_true rfl) dX5_areSo_10 rfl (fun f_3 v_4 hq => ?_)
    refine j_aload_n 14 C dX5_areSo_13 rfl 0 rfl ?_
    refine j_aload_n 15 C dX5_areSo_14 rfl 0 rfl ?_
    refine j_callVi_ro 18 C [] [] (As := []) (m_X5_findCover G h f_3 v_4 hq) oX5_findCover kX5_213 ⟨rfl, rfl⟩ eX5_findCover ⟨Nat.le_of_ble_eq_true rfl, Nat.le_of_ble_eq_true rfl⟩ ⟨Nat.zero_le _, Nat.zero_le _⟩ (List.append_nil _).symm (fun _ _ => rfl) 0 rfl rfl rfl (Nat.le_of_ble_eq_true rfl) dX5_areSo_15 rfl (fun r_5 hq => ?_)
    refine j_callVi_ro 21 C [] [] (As := [.int r_5]) (m_X5_weightOfSet G h r_5 f_3 v_4 hq) oX5_weightOfSet kX5_216 ⟨rfl, rfl⟩ eX5_weightOfSet ⟨Nat.le_of_ble_eq_true rfl, Nat.le_of_ble_eq_true rfl⟩ ⟨Nat.zero_le _, Nat.zero_le _⟩ (List.append_nil _).symm (fun _ _ => rfl) 0 rfl rfl rfl (Nat.le_of_ble_eq_true rfl) dX5_areSo_18 rfl (fun r_6 hq => ?_)
    refine j_istore_n 22 C dX5_areSo_21 rfl (Nat.le_of_ble_eq_true rfl) [1, 0] (lv' := [(0, .ref (h 0)), (1, .int r_6)]) rfl ?_
    refine j_iconst 23 C dX5_areSo_22 rfl ic_1 ?_
    refine j_istore_n 24 C dX5_areSo_23 rfl (Nat.le_of_ble_eq_true rfl) [1, 2, 0] (lv' := [(0, .ref (h 0)), (1, .int r_6), (2, .int (1 : Int32))]) rfl ?_
    refine j_iconst 25 C dX5_areSo_24 rfl ic_0 ?_
    refine j_istore_n 26 C dX5_areSo_25 rfl (Nat.le_of_ble_eq_true rfl) [1, 2, 3, 0] (lv' := [(0, .ref (h 0)), (1, .int r_6), (2, .int (1 : Int32)), (3, .int (0 : Int32))]) rfl ?_
    obtain ⟨n_14, hq⟩ := hq
    refine t_X5_areSo_L26 C ?_ n_14 _ _ _ _ hq
    · intro x_15 x_16 f_17 v_18 hq
      refine j_iload_n 61 C dX5_areSo_60 rfl 2 rfl ?_
      exact hR _ _ _ f_17 v_18 dX5_areSo_61 hq.1 hq.2
  · replace hq := hq.2 c_1
    refine j_iconst 8 C dX5_areSo_7 rfl ic_1 ?_
    exact hR _ _ _ f v dX5_areSo_8 (Or.inr rfl) hq
def Q_X5_kinds_L22 (x1 : Int32) (x2 : Int32) (K60 : Int32 → Int32 → FF → VV → Prop) : Nat → Int32 → Int32 → FF → VV → Prop
  | 0, _, _, _, _ => False
  | n + 1, x3, x4, f, v => (((3 : Int32) ≤ x4 → (K60 x3 x4 f v)) ∧ (¬ (3 : Int32) ≤ x4 → (vp_in x1 7 ∧ (∀ f_7 : FF, f_7 = fu f 6 (wr (f 6) x1 x4) → (Q_X5_areSo  f_7 v (fun r_8 f_9 v_10 => (((r_8 = 0 → (∀ x_12 : Int32, x_12 = (x3 ||| (0 : Int32)) → (∀ x_13 : Int32, x_13 = (x4 + (1 : Int32)) → (Q_X5_kinds_L22 x1 x2 K60 n x_12 x_13 f_9 v_10)))) ∧ (¬ r_8 = 0 → (∀ x_14 : Int32, x_14 = (x3 ||| ((1 : Int32) <<< (x4 &&& 31))) → (∀ x_15 : Int32, x_15 = (x4 + (1 : Int32)) → (Q_X5_kinds_L22 x1 x2 K60 n x_14 x_15 f_9 v_10))))))))))))
set_option maxRecDepth 100000 in
set_option maxHeartbeats 4000000 in
theorem t_X5_kinds_L22 {κ : Kx} {G : Gx} {h : Nat → Nat} (C : Cx κ G RX5 cX5_kinds rmX5_kinds 5) {x1 : Int32} {x2 : Int32} {K60 : Int32 → Int32 → FF → VV → Prop} (hK60 : ∀ (x3 : Int32) (x4 : Int32) (f : FF) (v : VV), K60 x3 x4 f v → J κ 0 0 (wE G h f v) 60 [(0, .ref (h 0)), (1, .int x1), (2, .int x2), (3, .int x3), (4, .int x4)] []) : ∀ (n : Nat) (x3 : Int32) (x4 : Int32) (f : FF) (v : VV), Q_X5_kinds_L22 x1 x2 K60 n x3 x4 f v → J κ 0 0 (wE G h f v) 22 [(0, .ref (h 0)), (1, .int x1), (2, .int x2), (3, .int x3), (4, .int x4)] [] := by
  intro n
  induction n with
  | zero => intro x3 x4 f v hq; exact False.elim hq
  | succ n ih =>
    intro x3 x4 f v hq
    rw [Q_X5_kinds_L22] at hq
    refine j_iload 24 C dX5_kinds_22 rfl 4 rfl ?_
    refine j_iconst 25 C dX5_kinds_24 rfl ic_3 ?_
    refine j_icmp_ge 28 60 C dX5_kinds_25 rfl rfl (fun c_5 => ?_) (fun c_5 => ?_)
    · replace hq := hq.1 c_5
      refine J.l0 [0, 1, 2, 3, 4] rfl ?_
      exact hK60 _ _ _ _ hq
    · replace hq := hq.2 c_5
      refine j_aload_n 29 C dX5_kinds_28 rfl 0 rfl ?_
      refine j_get 32 C uX5 0 rfl rfl 10 (Nat.le_of_ble_eq_true rfl) lX5_28 (v := .ref (h 7)) rfl dX5_kinds_29 rfl ?_
      refine j_iload_n 33 C dX5_kinds_32 rfl 1 rfl ?_
      refine j_iload 35 C dX5_kinds_33 rfl 4 rfl ?_
      obtain ⟨hi_6, hq⟩ := hq
      obtain ⟨f_7, ef_7⟩ : ∃ y : FF, y = fu f 6 (wr (f 6) x1 x4) := ⟨_, rfl⟩
      replace hq := hq f_7 ef_7
      refine j_iast 36 C 7 rfl hi_6 dX5_kinds_35 rfl (ws' := (wE G h f_7 v)) (by subst ef_7; rfl) ?_
      refine j_iload_n 37 C dX5_kinds_36 rfl 3 rfl ?_
      refine j_aload_n 38 C dX5_kinds_37 rfl 0 rfl ?_
      refine j_callVi 41 C [] [] (fun f' v' => (wE G h f' v')) (As := []) (m_X5_areSo G h f_7 v hq) oX5_areSo kX5_236 ⟨rfl, rfl⟩ eX5_areSo ⟨Nat.le_of_ble_eq_true rfl, Nat.le_of_ble_eq_true rfl⟩ ⟨Nat.zero_le _, Nat.zero_le _⟩ (List.append_nil _).symm (fun _ _ => List.append_nil _) (fun _ _ => rfl) 0 rfl rfl rfl (Nat.le_of_ble_eq_true rfl) dX5_kinds_38 rfl (fun r_8 f_9 v_10 hq => ?_)
      refine j_if_eq 44 51 C dX5_kinds_41 rfl rfl (fun c_11 => ?_) (fun c_11 => ?_)
      · replace hq := hq.1 c_11
        refine j_iconst 52 C dX5_kinds_51 rfl ic_0 ?_
        refine j_ior 53 C dX5_kinds_52 rfl ?_
        refine J.topi (fun x_12 ex_12 => ?_)
        replace hq := hq x_12 ex_12
        refine j_istore_n 54 C dX5_kinds_53 rfl (Nat.le_of_ble_eq_true rfl) [1, 2, 3, 0, 4] (lv' := [(0, .ref (h 0)), (1, .int x1), (2, .int x2), (3, .int x_12), (4, .int x4)]) rfl ?_
        obtain ⟨x_13, ex_13⟩ : ∃ y : Int32, y = (x4 + (1 : Int32)) := ⟨_, rfl⟩
        replace hq := hq x_13 ex_13
        refine j_iinc 57 C dX5_kinds_54 rfl 4 rfl (v := x_13) (by rw [ex_13]; rfl) (Nat.le_of_ble_eq_true rfl) [1, 2, 3, 4, 0] (lv' := [(0, .ref (h 0)), (1, .int x1), (2, .int x2), (3, .int x_12), (4, .int x_13)]) rfl ?_
        refine j_goto 22 C dX5_kinds_57 rfl ?_
        refine J.l0 [0, 1, 2, 3, 4] rfl ?_
        exact ih _ _ _ _ hq
      · replace hq := hq.2 c_11
        refine j_iconst 45 C dX5_kinds_44 rfl ic_1 ?_
        refine j_iload 47 C dX5_kinds_45 rfl 4 rfl ?_
        refine j_ishl 48 C dX5_kinds_47 rfl ?_
        refine j_goto 52 C dX5_kinds_48 rfl ?_
        refine j_ior 53 C dX5_kinds_52 rfl ?_
        refine J.topi (fun x_14 ex_14 => ?_)
        replace hq := hq x_14 ex_14
        refine j_istore_n 54 C dX5_kinds_53 rfl (Nat.le_of_ble_eq_true rfl) [1, 2, 3, 0, 4] (lv' := [(0, .ref (h 0)), (1, .int x1), (2, .int x2), (3, .int x_14), (4, .int x4)]) rfl ?_
        obtain ⟨x_15, ex_15⟩ : ∃ y : Int32, y = (x4 + (1 : Int32)) := ⟨_, rfl⟩
        replace hq := hq x_15 ex_15
        refine j_iinc 57 C dX5_kinds_54 rfl 4 rfl (v := x_15) (by rw [ex_15]; rfl) (Nat.le_of_ble_eq_true rfl) [1, 2, 3, 4, 0] (lv' := [(0, .ref (h 0)), (1, .int x1), (2, .int x2), (3, .int x_14), (4, .int x_15)]) rfl ?_
        refine j_goto 22 C dX5_kinds_57 rfl ?_
        refine J.l0 [0, 1, 2, 3, 4] rfl ?_
        exact ih _ _ _ _ hq
def Q_X5_kinds (p0 : Int32) (f : FF) (v : VV) (post : Int32 → FF → VV → Prop) : Prop := Q_X5_isTest p0 f v (fun r_1 => (((¬ r_1 = 0 → (vp_in p0 7 ∧ (∀ x_4 : Int32, x_4 = ((f 6) (p0).toNatClampNeg) → (∃ n_16 : Nat, Q_X5_kinds_L22 p0 x_4 (fun x_17 x_18 f_19 v_20 => (vp_in p0 7 ∧ (∀ f_22 : FF, f_22 = fu f_19 6 (wr (f_19 6) p0 x_4) → (post x_17 f_22 v_20)))) n_16 (0 : Int32) (0 : Int32) f v)))) ∧ (r_1 = 0 → (post (-1 : Int32) f v)))))
set_option maxRecDepth 100000 in
set_option maxHeartbeats 4000000 in
theorem m_X5_kinds {l : Launch} (G : Gx) (h : Nat → Nat) (p0 : Int32) (f : FF) (v : VV) {post : Int32 → FF → VV → Prop} (hq : Q_X5_kinds p0 f v post) : MetI l yX5_kinds (gC yX5_kinds cX5_kinds 5 (some .int)) rmX5_kinds G [.ref (h 0), .int p0] (wE G h) f v post := by
  refine met_i (own := RX5) (by decide) rfl (Nat.le_of_ble_eq_true rfl) (fun κ hκ C hR => ?_)
  unfold Q_X5_kinds at hq
  subst hκ
  show J κ 0 0 (wE G h f v) 0 [(0, .ref (h 0)), (1, .int p0)] []
  refine j_aload_n 1 C dX5_kinds_0 rfl 0 rfl ?_
  refine j_iload_n 2 C dX5_kinds_1 rfl 1 rfl ?_
  refine j_callVi_ro 5 C [] [] (As := [.int p0]) (m_X5_isTest G h p0 f v hq) oX5_isTest kX5_156 ⟨rfl, rfl⟩ eX5_isTest ⟨Nat.le_of_ble_eq_true rfl, Nat.le_of_ble_eq_true rfl⟩ ⟨Nat.zero_le _, Nat.zero_le _⟩ (List.append_nil _).symm (fun _ _ => rfl) 0 rfl rfl rfl (Nat.le_of_ble_eq_true rfl) dX5_kinds_2 rfl (fun r_1 hq => ?_)
  refine j_if_ne 8 10 C dX5_kinds_5 rfl rfl (fun c_2 => ?_) (fun c_2 => ?_)
  · replace hq := hq.1 c_2
    refine j_aload_n 11 C dX5_kinds_10 rfl 0 rfl ?_
    refine j_get 14 C uX5 0 rfl rfl 10 (Nat.le_of_ble_eq_true rfl) lX5_28 (v := .ref (h 7)) rfl dX5_kinds_11 rfl ?_
    refine j_iload_n 15 C dX5_kinds_14 rfl 1 rfl ?_
    obtain ⟨hi_3, hq⟩ := hq
    refine j_iald 16 C 7 (f := (f 6)) rfl hi_3 dX5_kinds_15 rfl ?_
    refine J.topi (fun x_4 ex_4 => ?_)
    replace hq := hq x_4 ex_4
    refine j_istore_n 17 C dX5_kinds_16 rfl (Nat.le_of_ble_eq_true rfl) [1, 2, 0] (lv' := [(0, .ref (h 0)), (1, .int p0), (2, .int x_4)]) rfl ?_
    refine j_iconst 18 C dX5_kinds_17 rfl ic_0 ?_
    refine j_istore_n 19 C dX5_kinds_18 rfl (Nat.le_of_ble_eq_true rfl) [1, 2, 3, 0] (lv' := [(0, .ref (h 0)), (1, .int p0), (2, .int x_4), (3, .int (0 : Int32))]) rfl ?_
    refine j_iconst 20 C dX5_kinds_19 rfl ic_0 ?_
    refine j_istore 22 C dX5_kinds_20 rfl (Nat.le_of_ble_eq_true rfl) [1, 2, 3, 4, 0] (lv' := [(0, .ref (h 0)), (1, .int p0), (2, .int x_4), (3, .int (0 : Int32)), (4, .int (0 : Int32))]) rfl ?_
    obtain ⟨n_16, hq⟩ := hq
    refine t_X5_kinds_L22 C ?_ n_16 _ _ _ _ hq
    · intro x_17 x_18 f_19 v_20 hq
      refine j_aload_n 61 C dX5_kinds_60 rfl 0 rfl ?_
      refine j_get 64 C uX5 0 rfl rfl 10 (Nat.le_of_ble_eq_true rfl) lX5_28 (v := .ref (h 7)) rfl dX5_kinds_61 rfl ?_
      refine j_iload_n 65 C dX5_kinds_64 rfl 1 rfl ?_
      refine j_iload_n 66 C dX5_kinds_65 rfl 2 rfl ?_
      obtain ⟨hi_21, hq⟩ := hq
      obtain ⟨f_22, ef_22⟩ : ∃ y : FF, y = fu f_19 6 (wr (f_19 6) p0 x_4) := ⟨_, rfl⟩
      replace hq := hq f_22 ef_22
      refine j_iast 67 C 7 rfl hi_21 dX5_kinds_66 rfl (ws' := (wE G h f_22 v_20)) (by subst ef_22; rfl) ?_
      refine j_iload_n 68 C dX5_kinds_67 rfl 3 rfl ?_
      exact hR _ _ _ f_22 v_20 dX5_kinds_68 hq
  · replace hq := hq.2 c_2
    refine j_iconst 9 C dX5_kinds_8 rfl ic_m1 ?_
    exact hR _ _ _ f v dX5_kinds_9 hq
def Q_X5_ways_L22 (x1 : Int32) (x2 : Int32) (K60 : Int32 → Int32 → FF → VV → Prop) : Nat → Int32 → Int32 → FF → VV → Prop
  | 0, _, _, _, _ => False
  | n + 1, x3, x4, f, v => (((5 : Int32) ≤ x4 → (K60 x3 x4 f v)) ∧ (¬ (5 : Int32) ≤ x4 → (vp_in x1 5 ∧ (∀ f_7 : FF, f_7 = fu f 3 (wr (f 3) x1 x4) → (Q_X5_areSo  f_7 v (fun r_8 f_9 v_10 => (((r_8 = 0 → (∀ x_12 : Int32, x_12 = (x3 ||| (0 : Int32)) → (∀ x_13 : Int32, x_13 = (x4 + (1 : Int32)) → (Q_X5_ways_L22 x1 x2 K60 n x_12 x_13 f_9 v_10)))) ∧ (¬ r_8 = 0 → (∀ x_14 : Int32, x_14 = (x3 ||| ((1 : Int32) <<< (x4 &&& 31))) → (∀ x_15 : Int32, x_15 = (x4 + (1 : Int32)) → (Q_X5_ways_L22 x1 x2 K60 n x_14 x_15 f_9 v_10))))))))))))
set_option maxRecDepth 100000 in
set_option maxHeartbeats 4000000 in
theorem t_X5_ways_L22 {κ : Kx} {G : Gx} {h : Nat → Nat} (C : Cx κ G RX5 cX5_ways rmX5_ways 5) {x1 : Int32} {x2 : Int32} {K60 : Int32 → Int32 → FF → VV → Prop} (hK60 : ∀ (x3 : Int32) (x4 : Int32) (f : FF) (v : VV), K60 x3 x4 f v → J κ 0 0 (wE G h f v) 60 [(0, .ref (h 0)), (1, .int x1), (2, .int x2), (3, .int x3), (4, .int x4)] []) : ∀ (n : Nat) (x3 : Int32) (x4 : Int32) (f : FF) (v : VV), Q_X5_ways_L22 x1 x2 K60 n x3 x4 f v → J κ 0 0 (wE G h f v) 22 [(0, .ref (h 0)), (1, .int x1), (2, .int x2), (3, .int x3), (4, .int x4)] [] := by
  intro n
  induction n with
  | zero => intro x3 x4 f v hq; exact False.elim hq
  | succ n ih =>
    intro x3 x4 f v hq
    rw [Q_X5_ways_L22] at hq
    refine j_iload 24 C dX5_ways_22 rfl 4 rfl ?_
    refine j_iconst 25 C dX5_ways_24 rfl ic_5 ?_
    refine j_icmp_ge 28 60 C dX5_ways_25 rfl rfl (fun c_5 => ?_) (fun c_5 => ?_)
    · replace hq := hq.1 c_5
      refine J.l0 [0, 1, 2, 3, 4] rfl ?_
      exact hK60 _ _ _ _ hq
    · replace hq := hq.2 c_5
      refine j_aload_n 29 C dX5_ways_28 rfl 0 rfl ?_
      refine j_get 32 C uX5 0 rfl rfl 7 (Nat.le_of_ble_eq_true rfl) lX5_19 (v := .ref (h 4)) rfl dX5_ways_29 rfl ?_
      refine j_iload_n 33 C dX5_ways_32 rfl 1 rfl ?_
      refine j_iload 35 C dX5_ways_33 rfl 4 rfl ?_
      obtain ⟨hi_6, hq⟩ := hq
      obtain ⟨f_7, ef_7⟩ : ∃ y : FF, y = fu f 3 (wr (f 3) x1 x4) := ⟨_, rfl⟩
      replace hq := hq f_7 ef_7
      refine j_iast 36 C 4 rfl hi_6 dX5_ways_35 rfl (ws' := (wE G h f_7 v)) (by subst ef_7; rfl) ?_
      refine j_iload_n 37 C dX5_ways_36 rfl 3 rfl ?_
      refine j_aload_n 38 C dX5_ways_37 rfl 0 rfl ?_
      refine j_callVi 41 C [] [] (fun f' v' => (wE G h f' v')) (As := []) (m_X5_areSo G h f_7 v hq) oX5_areSo kX5_236 ⟨rfl, rfl⟩ eX5_areSo ⟨Nat.le_of_ble_eq_true rfl, Nat.le_of_ble_eq_true rfl⟩ ⟨Nat.zero_le _, Nat.zero_le _⟩ (List.append_nil _).symm (fun _ _ => List.append_nil _) (fun _ _ => rfl) 0 rfl rfl rfl (Nat.le_of_ble_eq_true rfl) dX5_ways_38 rfl (fun r_8 f_9 v_10 hq => ?_)
      refine j_if_eq 44 51 C dX5_ways_41 rfl rfl (fun c_11 => ?_) (fun c_11 => ?_)
      · replace hq := hq.1 c_11
        refine j_iconst 52 C dX5_ways_51 rfl ic_0 ?_
        refine j_ior 53 C dX5_ways_52 rfl ?_
        refine J.topi (fun x_12 ex_12 => ?_)
        replace hq := hq x_12 ex_12
        refine j_istore_n 54 C dX5_ways_53 rfl (Nat.le_of_ble_eq_true rfl) [1, 2, 3, 0, 4] (lv' := [(0, .ref (h 0)), (1, .int x1), (2, .int x2), (3, .int x_12), (4, .int x4)]) rfl ?_
        obtain ⟨x_13, ex_13⟩ : ∃ y : Int32, y = (x4 + (1 : Int32)) := ⟨_, rfl⟩
        replace hq := hq x_13 ex_13
        refine j_iinc 57 C dX5_ways_54 rfl 4 rfl (v := x_13) (by rw [ex_13]; rfl) (Nat.le_of_ble_eq_true rfl) [1, 2, 3, 4, 0] (lv' := [(0, .ref (h 0)), (1, .int x1), (2, .int x2), (3, .int x_12), (4, .int x_13)]) rfl ?_
        refine j_goto 22 C dX5_ways_57 rfl ?_
        refine J.l0 [0, 1, 2, 3, 4] rfl ?_
        exact ih _ _ _ _ hq
      · replace hq := hq.2 c_11
        refine j_iconst 45 C dX5_ways_44 rfl ic_1 ?_
        refine j_iload 47 C dX5_ways_45 rfl 4 rfl ?_
        refine j_ishl 48 C dX5_ways_47 rfl ?_
        refine j_goto 52 C dX5_ways_48 rfl ?_
        refine j_ior 53 C dX5_ways_52 rfl ?_
        refine J.topi (fun x_14 ex_14 => ?_)
        replace hq := hq x_14 ex_14
        refine j_istore_n 54 C dX5_ways_53 rfl (Nat.le_of_ble_eq_true rfl) [1, 2, 3, 0, 4] (lv' := [(0, .ref (h 0)), (1, .int x1), (2, .int x2), (3, .int x_14), (4, .int x4)]) rfl ?_
        obtain ⟨x_15, ex_15⟩ : ∃ y : Int32, y = (x4 + (1 : Int32)) := ⟨_, rfl⟩
        replace hq := hq x_15 ex_15
        refine j_iinc 57 C dX5_ways_54 rfl 4 rfl (v := x_15) (by rw [ex_15]; rfl) (Nat.le_of_ble_eq_true rfl) [1, 2, 3, 4, 0] (lv' := [(0, .ref (h 0)), (1, .int x1), (2, .int x2), (3, .int x_14), (4, .int x_15)]) rfl ?_
        refine j_goto 22 C dX5_ways_57 rfl ?_
        refine J.l0 [0, 1, 2, 3, 4] rfl ?_
        exact ih _ _ _ _ hq
def Q_X5_ways (p0 : Int32) (f : FF) (v : VV) (post : Int32 → FF → VV → Prop) : Prop := Q_X5_isStep p0 f v (fun r_1 => (((¬ r_1 = 0 → (vp_in p0 5 ∧ (∀ x_4 : Int32, x_4 = ((f 3) (p0).toNatClampNeg) → (∃ n_16 : Nat, Q_X5_ways_L22 p0 x_4 (fun x_17 x_18 f_19 v_20 => (vp_in p0 5 ∧ (∀ f_22 : FF, f_22 = fu f_19 3 (wr (f_19 3) p0 x_4) → (post x_17 f_22 v_20)))) n_16 (0 : Int32) (0 : Int32) f v)))) ∧ (r_1 = 0 → (post (-1 : Int32) f v)))))
set_option maxRecDepth 100000 in
set_option maxHeartbeats 4000000 in
theorem m_X5_ways {l : Launch} (G : Gx) (h : Nat → Nat) (p0 : Int32) (f : FF) (v : VV) {post : Int32 → FF → VV → Prop} (hq : Q_X5_ways p0 f v post) : MetI l yX5_ways (gC yX5_ways cX5_ways 5 (some .int)) rmX5_ways G [.ref (h 0), .int p0] (wE G h) f v post := by
  refine met_i (own := RX5) (by decide) rfl (Nat.le_of_ble_eq_true rfl) (fun κ hκ C hR => ?_)
  unfold Q_X5_ways at hq
  subst hκ
  show J κ 0 0 (wE G h f v) 0 [(0, .ref (h 0)), (1, .int p0)] []
  refine j_aload_n 1 C dX5_ways_0 rfl 0 rfl ?_
  refine j_iload_n 2 C dX5_ways_1 rfl 1 rfl ?_
  refine j_callVi_ro 5 C [] [] (As := [.int p0]) (m_X5_isStep G h p0 f v hq) oX5_isStep kX5_153 ⟨rfl, rfl⟩ eX5_isStep ⟨Nat.le_of_ble_eq_true rfl, Nat.le_of_ble_eq_true rfl⟩ ⟨Nat.zero_le _, Nat.zero_le _⟩ (List.append_nil _).symm (fun _ _ => rfl) 0 rfl rfl rfl (Nat.le_of_ble_eq_true rfl) dX5_ways_2 rfl (fun r_1 hq => ?_)
  refine j_if_ne 8 10 C dX5_ways_5 rfl rfl (fun c_2 => ?_) (fun c_2 => ?_)
  · replace hq := hq.1 c_2
    refine j_aload_n 11 C dX5_ways_10 rfl 0 rfl ?_
    refine j_get 14 C uX5 0 rfl rfl 7 (Nat.le_of_ble_eq_true rfl) lX5_19 (v := .ref (h 4)) rfl dX5_ways_11 rfl ?_
    refine j_iload_n 15 C dX5_ways_14 rfl 1 rfl ?_
    obtain ⟨hi_3, hq⟩ := hq
    refine j_iald 16 C 4 (f := (f 3)) rfl hi_3 dX5_ways_15 rfl ?_
    refine J.topi (fun x_4 ex_4 => ?_)
    replace hq := hq x_4 ex_4
    refine j_istore_n 17 C dX5_ways_16 rfl (Nat.le_of_ble_eq_true rfl) [1, 2, 0] (lv' := [(0, .ref (h 0)), (1, .int p0), (2, .int x_4)]) rfl ?_
    refine j_iconst 18 C dX5_ways_17 rfl ic_0 ?_
    refine j_istore_n 19 C dX5_ways_18 rfl (Nat.le_of_ble_eq_true rfl) [1, 2, 3, 0] (lv' := [(0, .ref (h 0)), (1, .int p0), (2, .int x_4), (3, .int (0 : Int32))]) rfl ?_
    refine j_iconst 20 C dX5_ways_19 rfl ic_0 ?_
    refine j_istore 22 C dX5_ways_20 rfl (Nat.le_of_ble_eq_true rfl) [1, 2, 3, 4, 0] (lv' := [(0, .ref (h 0)), (1, .int p0), (2, .int x_4), (3, .int (0 : Int32)), (4, .int (0 : Int32))]) rfl ?_
    obtain ⟨n_16, hq⟩ := hq
    refine t_X5_ways_L22 C ?_ n_16 _ _ _ _ hq
    · intro x_17 x_18 f_19 v_20 hq
      refine j_aload_n 61 C dX5_ways_60 rfl 0 rfl ?_
      refine j_get 64 C uX5 0 rfl rfl 7 (Nat.le_of_ble_eq_true rfl) lX5_19 (v := .ref (h 4)) rfl dX5_ways_61 rfl ?_
      refine j_iload_n 65 C dX5_ways_64 rfl 1 rfl ?_
      refine j_iload_n 66 C dX5_ways_65 rfl 2 rfl ?_
      obtain ⟨hi_21, hq⟩ := hq
      obtain ⟨f_22, ef_22⟩ : ∃ y : FF, y = fu f_19 3 (wr (f_19 3) p0 x_4) := ⟨_, rfl⟩
      replace hq := hq f_22 ef_22
      refine j_iast 67 C 4 rfl hi_21 dX5_ways_66 rfl (ws' := (wE G h f_22 v_20)) (by subst ef_22; rfl) ?_
      refine j_iload_n 68 C dX5_ways_67 rfl 3 rfl ?_
      exact hR _ _ _ f_22 v_20 dX5_ways_68 hq
  · replace hq := hq.2 c_2
    refine j_iconst 9 C dX5_ways_8 rfl ic_m1 ?_
    exact hR _ _ _ f v dX5_ways_9 hq
def Q_X5_odds (p0 : Int32) (p1 : Int32) (f : FF) (v : VV) (post : Int64 → FF → VV → Prop) : Prop := Q_X5_isMutant p0 f v (fun r_1 => (((r_1 = 0 → (post (-9223372036854775808 : Int64) f v)) ∧ (¬ r_1 = 0 → (Q_X5_within p1 (0 : Int32) (1 : Int32) (fun r_3 => (((r_3 = 0 → (post (-9223372036854775808 : Int64) f v)) ∧ (¬ r_3 = 0 → (Q_X5_differs p0 f v (fun r_5 f_6 v_7 => (Q_X5_inLeastTerms ((r_5).toInt64) (100 : Int64) p1 (fun r_8 => (post r_8 f_6 v_7))))))))))))))
set_option maxRecDepth 100000 in
set_option maxHeartbeats 4000000 in
theorem m_X5_odds {l : Launch} (G : Gx) (h : Nat → Nat) (p0 : Int32) (p1 : Int32) (f : FF) (v : VV) {post : Int64 → FF → VV → Prop} (hq : Q_X5_odds p0 p1 f v post) : MetL l yX5_odds (gC yX5_odds cX5_odds 3 (some .long)) rmX5_odds G [.ref (h 0), .int p0, .int p1] (wE G h) f v post := by
  refine met_l (own := RX5) (by decide) rfl (Nat.le_of_ble_eq_true rfl) (fun κ hκ C hR => ?_)
  unfold Q_X5_odds at hq
  subst hκ
  show J κ 0 0 (wE G h f v) 0 [(0, .ref (h 0)), (1, .int p0), (2, .int p1)] []
  refine j_aload_n 1 C dX5_odds_0 rfl 0 rfl ?_
  refine j_iload_n 2 C dX5_odds_1 rfl 1 rfl ?_
  refine j_callVi_ro 5 C [] [] (As := [.int p0]) (m_X5_isMutant G h p0 f v hq) oX5_isMutant kX5_171 ⟨rfl, rfl⟩ eX5_isMutant ⟨Nat.le_of_ble_eq_true rfl, Nat.le_of_ble_eq_true rfl⟩ ⟨Nat.zero_le _, Nat.zero_le _⟩ (List.append_nil _).symm (fun _ _ => rfl) 0 rfl rfl rfl (Nat.le_of_ble_eq_true rfl) dX5_odds_2 rfl (fun r_1 hq => ?_)
  refine j_if_eq 8 33 C dX5_odds_5 rfl rfl (fun c_2 => ?_) (fun c_2 => ?_)
  · replace hq := hq.1 c_2
    refine j_ldc2_w 36 C dX5_odds_33 rfl kX5_65 ?_
    exact hR _ _ _ f v dX5_odds_36 hq
  · replace hq := hq.2 c_2
    refine j_iload_n 9 C dX5_odds_8 rfl 2 rfl ?_
    refine j_iconst 10 C dX5_odds_9 rfl ic_0 ?_
    refine j_iconst 11 C dX5_odds_10 rfl ic_1 ?_
    refine j_callSi 14 C [] (wE G h f v) (fun _ _ => (wE G h f v)) (As := [.int p1, .int (0 : Int32), .int (1 : Int32)]) (m_X5_within G p1 (0 : Int32) (1 : Int32) hq) oX5_within kX5_67 ⟨rfl, rfl⟩ eX5_within ⟨Nat.le_of_ble_eq_true rfl, Nat.le_of_ble_eq_true rfl⟩ ⟨Nat.zero_le _, Nat.zero_le _⟩ rfl (fun _ _ => rfl) (fun _ _ => rfl) rfl (Nat.le_of_ble_eq_true rfl) dX5_odds_11 rfl (fun r_3 _ _ hq => ?_)
    refine j_if_eq 17 33 C dX5_odds_14 rfl rfl (fun c_4 => ?_) (fun c_4 => ?_)
    · replace hq := hq.1 c_4
      refine j_ldc2_w 36 C dX5_odds_33 rfl kX5_65 ?_
      exact hR _ _ _ f v dX5_odds_36 hq
    · replace hq := hq.2 c_4
      refine j_aload_n 18 C dX5_odds_17 rfl 0 rfl ?_
      refine j_iload_n 19 C dX5_odds_18 rfl 1 rfl ?_
      refine j_callVi 22 C [] [] (fun f' v' => (wE G h f' v')) (As := [.int p0]) (m_X5_differs G h p0 f v hq) oX5_differs kX5_147 ⟨rfl, rfl⟩ eX5_differs ⟨Nat.le_of_ble_eq_true rfl, Nat.le_of_ble_eq_true rfl⟩ ⟨Nat.zero_le _, Nat.zero_le _⟩ (List.append_nil _).symm (fun _ _ => List.append_nil _) (fun _ _ => rfl) 0 rfl rfl rfl (Nat.le_of_ble_eq_true rfl) dX5_odds_19 rfl (fun r_5 f_6 v_7 hq => ?_)
      refine j_i2l 23 C dX5_odds_22 rfl ?_
      refine j_ldc2_w 26 C dX5_odds_23 rfl kX5_240 ?_
      refine j_iload_n 27 C dX5_odds_26 rfl 2 rfl ?_
      refine j_callSl 30 C [] (wE G h f_6 v_7) (fun _ _ => (wE G h f_6 v_7)) (As := [.long ((r_5).toInt64), .long (100 : Int64), .int p1]) (m_X5_inLeastTerms G ((r_5).toInt64) (100 : Int64) p1 hq) oX5_inLeastTerms kX5_232 ⟨rfl, rfl⟩ eX5_inLeastTerms ⟨Nat.le_of_ble_eq_true rfl, Nat.le_of_ble_eq_true rfl⟩ ⟨Nat.zero_le _, Nat.zero_le _⟩ rfl (fun _ _ => rfl) (fun _ _ => rfl) rfl (Nat.le_of_ble_eq_true rfl) dX5_odds_27 rfl (fun r_8 _ _ hq => ?_)
      refine j_goto 36 C dX5_odds_30 rfl ?_
      exact hR _ _ _ f_6 v_7 dX5_odds_36 hq
def Q_X5_sheet_L57 (x1 : Int32) (x2 : Int32) (x3 : Int32) (K83 : Int32 → FF → VV → Prop) : Nat → Int32 → FF → VV → Prop
  | 0, _, _, _ => False
  | n + 1, x4, f, v => (((60 : Int32) ≤ x4 → (K83 x4 f v)) ∧ (¬ (60 : Int32) ≤ x4 → (vp_in (((60 : Int32) * x1) + x4) 240 ∧ (∀ f_14 : FF, f_14 = fu f 2 (wr (f 2) (((60 : Int32) * x1) + x4) (0 : Int32)) → (∀ x_15 : Int32, x_15 = (x4 + (1 : Int32)) → (Q_X5_sheet_L57 x1 x2 x3 K83 n x_15 f_14 v))))))
set_option maxRecDepth 100000 in
set_option maxHeartbeats 4000000 in
theorem t_X5_sheet_L57 {κ : Kx} {G : Gx} {h : Nat → Nat} (C : Cx κ G RX5 cX5_sheet rmX5_sheet 5) {x1 : Int32} {x2 : Int32} {x3 : Int32} {K83 : Int32 → FF → VV → Prop} (hK83 : ∀ (x4 : Int32) (f : FF) (v : VV), K83 x4 f v → J κ 0 0 (wE G h f v) 83 [(0, .ref (h 0)), (1, .int x1), (2, .int x2), (3, .int x3), (4, .int x4)] []) : ∀ (n : Nat) (x4 : Int32) (f : FF) (v : VV), Q_X5_sheet_L57 x1 x2 x3 K83 n x4 f v → J κ 0 0 (wE G h f v) 57 [(0, .ref (h 0)), (1, .int x1), (2, .int x2), (3, .int x3), (4, .int x4)] [] := by
  intro n
  induction n with
  | zero => intro x4 f v hq; exact False.elim hq
  | succ n ih =>
    intro x4 f v hq
    rw [Q_X5_sheet_L57] at hq
    refine j_iload 59 C dX5_sheet_57 rfl 4 rfl ?_
    refine j_bipush 61 C dX5_sheet_59 rfl bc_60 ?_
    refine j_icmp_ge 64 83 C dX5_sheet_61 rfl rfl (fun c_12 => ?_) (fun c_12 => ?_)
    · replace hq := hq.1 c_12
      refine J.l0 [0, 1, 2, 3, 4] rfl ?_
      exact hK83 _ _ _ hq
    · replace hq := hq.2 c_12
      refine j_aload_n 65 C dX5_sheet_64 rfl 0 rfl ?_
      refine j_get 68 C uX5 0 rfl rfl 4 (Nat.le_of_ble_eq_true rfl) lX5_16 (v := .ref (h 3)) rfl dX5_sheet_65 rfl ?_
      refine j_bipush 70 C dX5_sheet_68 rfl bc_60 ?_
      refine j_iload_n 71 C dX5_sheet_70 rfl 1 rfl ?_
      refine j_imul 72 C dX5_sheet_71 rfl ?_
      refine j_iload 74 C dX5_sheet_72 rfl 4 rfl ?_
      refine j_iadd 75 C dX5_sheet_74 rfl ?_
      refine j_iconst 76 C dX5_sheet_75 rfl ic_0 ?_
      obtain ⟨hi_13, hq⟩ := hq
      obtain ⟨f_14, ef_14⟩ : ∃ y : FF, y = fu f 2 (wr (f 2) (((60 : Int32) * x1) + x4) (0 : Int32)) := ⟨_, rfl⟩
      replace hq := hq f_14 ef_14
      refine j_iast 77 C 3 rfl hi_13 dX5_sheet_76 rfl (ws' := (wE G h f_14 v)) (by subst ef_14; rfl) ?_
      obtain ⟨x_15, ex_15⟩ : ∃ y : Int32, y = (x4 + (1 : Int32)) := ⟨_, rfl⟩
      replace hq := hq x_15 ex_15
      refine j_iinc 80 C dX5_sheet_77 rfl 4 rfl (v := x_15) (by rw [ex_15]; rfl) (Nat.le_of_ble_eq_true rfl) [1, 2, 3, 4, 0] (lv' := [(0, .ref (h 0)), (1, .int x1), (2, .int x2), (3, .int x3), (4, .int x_15)]) rfl ?_
      refine j_goto 57 C dX5_sheet_80 rfl ?_
      refine J.l0 [0, 1, 2, 3, 4] rfl ?_
      exact ih _ _ _ hq
def Q_X5_sheet (p0 : Int32) (p1 : Int32) (p2 : Int32) (f : FF) (v : VV) (post : Int32 → FF → VV → Prop) : Prop := ∀ v_1 : VV, v_1 = fu v 0 (0 : Int32) → (Q_X5_isSheet p0 (fun r_2 => (((¬ r_2 = 0 → (Q_X5_isSort p1 (fun r_4 => (((r_4 = 0 → (post (-2 : Int32) f v_1)) ∧ (¬ r_4 = 0 → (((p2 ≤ (60 : Int32) → (((0 ≤ p2 → (vp_in p0 4 ∧ (∀ f_9 : FF, f_9 = fu f 0 (wr (f 0) p0 p1) → (vp_in p0 4 ∧ (∀ f_11 : FF, f_11 = fu f_9 1 (wr (f_9 1) p0 p2) → (∃ n_16 : Nat, Q_X5_sheet_L57 p0 p1 p2 (fun x_17 f_18 v_19 => (post (1 : Int32) f_18 v_19)) n_16 (0 : Int32) f_11 v_1)))))) ∧ (¬ 0 ≤ p2 → (Q_X5_fails (4 : Int32) f v_1 (fun r_20 f_21 v_22 => (post r_20 f_21 v_22))))))) ∧ (¬ p2 ≤ (60 : Int32) → (post (-2 : Int32) f v_1)))))))))) ∧ (r_2 = 0 → (post (-1 : Int32) f v_1))))))
set_option maxRecDepth 100000 in
set_option maxHeartbeats 4000000 in
theorem m_X5_sheet {l : Launch} (G : Gx) (h : Nat → Nat) (p0 : Int32) (p1 : Int32) (p2 : Int32) (f : FF) (v : VV) {post : Int32 → FF → VV → Prop} (hq : Q_X5_sheet p0 p1 p2 f v post) : MetI l yX5_sheet (gC yX5_sheet cX5_sheet 5 (some .int)) rmX5_sheet G [.ref (h 0), .int p0, .int p1, .int p2] (wE G h) f v post := by
  refine met_i (own := RX5) (by decide) rfl (Nat.le_of_ble_eq_true rfl) (fun κ hκ C hR => ?_)
  unfold Q_X5_sheet at hq
  subst hκ
  show J κ 0 0 (wE G h f v) 0 [(0, .ref (h 0)), (1, .int p0), (2, .int p1), (3, .int p2)] []
  refine j_aload_n 1 C dX5_sheet_0 rfl 0 rfl ?_
  refine j_iconst 2 C dX5_sheet_1 rfl ic_0 ?_
  obtain ⟨v_1, ev_1⟩ : ∃ y : VV, y = fu v 0 (0 : Int32) := ⟨_, rfl⟩
  replace hq := hq v_1 ev_1
  refine j_put 5 C uX5 tyX5 tyX5_ok nmX5 0 rfl rfl 0 (Nat.le_of_ble_eq_true rfl) lX5_61 rfl rfl (Nat.le_of_ble_eq_true rfl) dX5_sheet_2 rfl (ws' := (wE G h f v_1)) (by subst ev_1; rfl) ?_
  refine j_iload_n 6 C dX5_sheet_5 rfl 1 rfl ?_
  refine j_callSi 9 C [] (wE G h f v_1) (fun _ _ => (wE G h f v_1)) (As := [.int p0]) (m_X5_isSheet G p0 hq) oX5_isSheet kX5_84 ⟨rfl, rfl⟩ eX5_isSheet ⟨Nat.le_of_ble_eq_true rfl, Nat.le_of_ble_eq_true rfl⟩ ⟨Nat.zero_le _, Nat.zero_le _⟩ rfl (fun _ _ => rfl) (fun _ _ => rfl) rfl (Nat.le_of_ble_eq_true rfl) dX5_sheet_6 rfl (fun r_2 _ _ hq => ?_)
  refine j_if_ne 12 14 C dX5_sheet_9 rfl rfl (fun c_3 => ?_) (fun c_3 => ?_)
  · replace hq := hq.1 c_3
    refine j_iload_n 15 C dX5_sheet_14 rfl 2 rfl ?_
    refine j_callSi 18 C [] (wE G h f v_1) (fun _ _ => (wE G h f v_1)) (As := [.int p1]) (m_X5_isSort G p1 hq) oX5_isSort kX5_88 ⟨rfl, rfl⟩ eX5_isSort ⟨Nat.le_of_ble_eq_true rfl, Nat.le_of_ble_eq_true rfl⟩ ⟨Nat.zero_le _, Nat.zero_le _⟩ rfl (fun _ _ => rfl) (fun _ _ => rfl) rfl (Nat.le_of_ble_eq_true rfl) dX5_sheet_15 rfl (fun r_4 _ _ hq => ?_)
    refine j_if_eq 21 27 C dX5_sheet_18 rfl rfl (fun c_5 => ?_) (fun c_5 => ?_)
    · replace hq := hq.1 c_5
      refine j_bipush 29 C dX5_sheet_27 rfl bc_m2 ?_
      exact hR _ _ _ f v_1 dX5_sheet_29 hq
    · replace hq := hq.2 c_5
      refine j_iload_n 22 C dX5_sheet_21 rfl 3 rfl ?_
      refine j_bipush 24 C dX5_sheet_22 rfl bc_60 ?_
      refine j_icmp_le 27 30 C dX5_sheet_24 rfl rfl (fun c_6 => ?_) (fun c_6 => ?_)
      · replace hq := hq.1 c_6
        refine j_iload_n 31 C dX5_sheet_30 rfl 3 rfl ?_
        refine j_if_ge 34 40 C dX5_sheet_31 rfl rfl (fun c_7 => ?_) (fun c_7 => ?_)
        · replace hq := hq.1 c_7
          refine j_aload_n 41 C dX5_sheet_40 rfl 0 rfl ?_
          refine j_get 44 C uX5 0 rfl rfl 2 (Nat.le_of_ble_eq_true rfl) lX5_9 (v := .ref (h 1)) rfl dX5_sheet_41 rfl ?_
          refine j_iload_n 45 C dX5_sheet_44 rfl 1 rfl ?_
          refine j_iload_n 46 C dX5_sheet_45 rfl 2 rfl ?_
          obtain ⟨hi_8, hq⟩ := hq
          obtain ⟨f_9, ef_9⟩ : ∃ y : FF, y = fu f 0 (wr (f 0) p0 p1) := ⟨_, rfl⟩
          replace hq := hq f_9 ef_9
          refine j_iast 47 C 1 rfl hi_8 dX5_sheet_46 rfl (ws' := (wE G h f_9 v_1)) (by subst ef_9; rfl) ?_
          refine j_aload_n 48 C dX5_sheet_47 rfl 0 rfl ?_
          refine j_get 51 C uX5 0 rfl rfl 3 (Nat.le_of_ble_eq_true rfl) lX5_13 (v := .ref (h 2)) rfl dX5_sheet_48 rfl ?_
          refine j_iload_n 52 C dX5_sheet_51 rfl 1 rfl ?_
          refine j_iload_n 53 C dX5_sheet_52 rfl 3 rfl ?_
          obtain ⟨hi_10, hq⟩ := hq
          obtain ⟨f_11, ef_11⟩ : ∃ y : FF, y = fu f_9 1 (wr (f_9 1) p0 p2) := ⟨_, rfl⟩
          replace hq := hq f_11 ef_11
          refine j_iast 54 C 2 rfl hi_10 dX5_sheet_53 rfl (ws' := (wE G h f_11 v_1)) (by subst ef_11; rfl) ?_
          refine j_iconst 55 C dX5_sheet_54 rfl ic_0 ?_
          refine j_istore 57 C dX5_sheet_55 rfl (Nat.le_of_ble_eq_true rfl) [1, 2, 3, 4, 0] (lv' := [(0, .ref (h 0)), (1, .int p0), (2, .int p1), (3, .int p2), (4, .int (0 : Int32))]) rfl ?_
          obtain ⟨n_16, hq⟩ := hq
          refine t_X5_sheet_L57 C ?_ n_16 _ _ _ hq
          · intro x_17 f_18 v_19 hq
            refine j_iconst 84 C dX5_sheet_83 rfl ic_1 ?_
            exact hR _ _ _ f_18 v_19 dX5_sheet_84 hq
        · replace hq := hq.2 c_7
          refine j_aload_n 35 C dX5_sheet_34 rfl 0 rfl ?_
          refine j_iconst 36 C dX5_sheet_35 rfl ic_4 ?_
          refine j_callVi 39 C [] [] (fun f' v' => (wE G h f' v')) (As := [.int (4 : Int32)]) (m_X5_fails G h (4 : Int32) f v_1 hq) oX5_fails kX5_95 ⟨rfl, rfl⟩ eX5_fails ⟨Nat.le_of_ble_eq_true rfl, Nat.le_of_ble_eq_true rfl⟩ ⟨Nat.zero_le _, Nat.zero_le _⟩ (List.append_nil _).symm (fun _ _ => List.append_nil _) (fun _ _ => rfl) 0 rfl rfl rfl (Nat.le_of_ble_eq_true rfl) dX5_sheet_36 rfl (fun r_20 f_21 v_22 hq => ?_)
          exact hR _ _ _ f_21 v_22 dX5_sheet_39 hq
      · replace hq := hq.2 c_6
        refine j_bipush 29 C dX5_sheet_27 rfl bc_m2 ?_
        exact hR _ _ _ f v_1 dX5_sheet_29 hq
  · replace hq := hq.2 c_3
    refine j_iconst 13 C dX5_sheet_12 rfl ic_m1 ?_
    exact hR _ _ _ f v_1 dX5_sheet_13 hq
def Q_X5_lose (p0 : Int32) (f : FF) (v : VV) (post : Int32 → FF → VV → Prop) : Prop := Q_X5_isSheet p0 (fun r_1 => (((¬ r_1 = 0 → (vp_in p0 4 ∧ (((¬ ((f 0) (p0).toNatClampNeg) = (-9 : Int32) → (vp_in p0 4 ∧ (∀ f_6 : FF, f_6 = fu f 0 (wr (f 0) p0 (-9 : Int32)) → (post (1 : Int32) f_6 v)))) ∧ (((f 0) (p0).toNatClampNeg) = (-9 : Int32) → (vp_in p0 4 ∧ (∀ f_8 : FF, f_8 = fu f 0 (wr (f 0) p0 (-9 : Int32)) → (post (0 : Int32) f_8 v)))))))) ∧ (r_1 = 0 → (post (-1 : Int32) f v)))))
set_option maxRecDepth 100000 in
set_option maxHeartbeats 4000000 in
theorem m_X5_lose {l : Launch} (G : Gx) (h : Nat → Nat) (p0 : Int32) (f : FF) (v : VV) {post : Int32 → FF → VV → Prop} (hq : Q_X5_lose p0 f v post) : MetI l yX5_lose (gC yX5_lose cX5_lose 3 (some .int)) rmX5_lose G [.ref (h 0), .int p0] (wE G h) f v post := by
  refine met_i (own := RX5) (by decide) rfl (Nat.le_of_ble_eq_true rfl) (fun κ hκ C hR => ?_)
  unfold Q_X5_lose at hq
  subst hκ
  show J κ 0 0 (wE G h f v) 0 [(0, .ref (h 0)), (1, .int p0)] []
  refine j_iload_n 1 C dX5_lose_0 rfl 1 rfl ?_
  refine j_callSi 4 C [] (wE G h f v) (fun _ _ => (wE G h f v)) (As := [.int p0]) (m_X5_isSheet G p0 hq) oX5_isSheet kX5_84 ⟨rfl, rfl⟩ eX5_isSheet ⟨Nat.le_of_ble_eq_true rfl, Nat.le_of_ble_eq_true rfl⟩ ⟨Nat.zero_le _, Nat.zero_le _⟩ rfl (fun _ _ => rfl) (fun _ _ => rfl) rfl (Nat.le_of_ble_eq_true rfl) dX5_lose_1 rfl (fun r_1 _ _ hq => ?_)
  refine j_if_ne 7 9 C dX5_lose_4 rfl rfl (fun c_2 => ?_) (fun c_2 => ?_)
  · replace hq := hq.1 c_2
    refine j_aload_n 10 C dX5_lose_9 rfl 0 rfl ?_
    refine j_get 13 C uX5 0 rfl rfl 2 (Nat.le_of_ble_eq_true rfl) lX5_9 (v := .ref (h 1)) rfl dX5_lose_10 rfl ?_
    refine j_iload_n 14 C dX5_lose_13 rfl 1 rfl ?_
    obtain ⟨hi_3, hq⟩ := hq
    refine j_iald 15 C 1 (f := (f 0)) rfl hi_3 dX5_lose_14 rfl ?_
    refine j_bipush 17 C dX5_lose_15 rfl bc_m9 ?_
    refine j_icmp_ne 20 24 C dX5_lose_17 rfl rfl (fun c_4 => ?_) (fun c_4 => ?_)
    · replace hq := hq.1 c_4
      refine j_iconst 25 C dX5_lose_24 rfl ic_1 ?_
      refine j_istore_n 26 C dX5_lose_25 rfl (Nat.le_of_ble_eq_true rfl) [1, 2, 0] (lv' := [(0, .ref (h 0)), (1, .int p0), (2, .int (1 : Int32))]) rfl ?_
      refine j_aload_n 27 C dX5_lose_26 rfl 0 rfl ?_
      refine j_get 30 C uX5 0 rfl rfl 2 (Nat.le_of_ble_eq_true rfl) lX5_9 (v := .ref (h 1)) rfl dX5_lose_27 rfl ?_
      refine j_iload_n 31 C dX5_lose_30 rfl 1 rfl ?_
      refine j_bipush 33 C dX5_lose_31 rfl bc_m9 ?_
      obtain ⟨hi_5, hq⟩ := hq
      obtain ⟨f_6, ef_6⟩ : ∃ y : FF, y = fu f 0 (wr (f 0) p0 (-9 : Int32)) := ⟨_, rfl⟩
      replace hq := hq f_6 ef_6
      refine j_iast 34 C 1 rfl hi_5 dX5_lose_33 rfl (ws' := (wE G h f_6 v)) (by subst ef_6; rfl) ?_
      refine j_iload_n 35 C dX5_lose_34 rfl 2 rfl ?_
      exact hR _ _ _ f_6 v dX5_lose_35 hq
    · replace hq := hq.2 c_4
      refine j_iconst 21 C dX5_lose_20 rfl ic_0 ?_
      refine j_goto 25 C dX5_lose_21 rfl ?_
      refine j_istore_n 26 C dX5_lose_25 rfl (Nat.le_of_ble_eq_true rfl) [1, 2, 0] (lv' := [(0, .ref (h 0)), (1, .int p0), (2, .int (0 : Int32))]) rfl ?_
      refine j_aload_n 27 C dX5_lose_26 rfl 0 rfl ?_
      refine j_get 30 C uX5 0 rfl rfl 2 (Nat.le_of_ble_eq_true rfl) lX5_9 (v := .ref (h 1)) rfl dX5_lose_27 rfl ?_
      refine j_iload_n 31 C dX5_lose_30 rfl 1 rfl ?_
      refine j_bipush 33 C dX5_lose_31 rfl bc_m9 ?_
      obtain ⟨hi_7, hq⟩ := hq
      obtain ⟨f_8, ef_8⟩ : ∃ y : FF, y = fu f 0 (wr (f 0) p0 (-9 : Int32)) := ⟨_, rfl⟩
      replace hq := hq f_8 ef_8
      refine j_iast 34 C 1 rfl hi_7 dX5_lose_33 rfl (ws' := (wE G h f_8 v)) (by subst ef_8; rfl) ?_
      refine j_iload_n 35 C dX5_lose_34 rfl 2 rfl ?_
      exact hR _ _ _ f_8 v dX5_lose_35 hq
  · replace hq := hq.2 c_2
    refine j_iconst 8 C dX5_lose_7 rfl ic_m1 ?_
    exact hR _ _ _ f v dX5_lose_8 hq
def Q_X5_put (p0 : Int32) (p1 : Int32) (p2 : Int32) (f : FF) (v : VV) (post : Int32 → FF → VV → Prop) : Prop := ∀ v_1 : VV, v_1 = fu v 0 (0 : Int32) → (Q_X5_isSheet p0 (fun r_2 => (((¬ r_2 = 0 → (vp_in p0 4 ∧ (((¬ ((f 0) (p0).toNatClampNeg) = (-9 : Int32) → (vp_in p0 4 ∧ (Q_X5_within p1 (0 : Int32) (((f 1) (p0).toNatClampNeg) - (1 : Int32)) (fun r_7 => (((¬ r_7 = 0 → (vp_in p0 4 ∧ (((¬ ((f 0) (p0).toNatClampNeg) = 0 → (vp_in p0 4 ∧ (((¬ ((f 0) (p0).toNatClampNeg) = (1 : Int32) → (vp_in (((60 : Int32) * p0) + p1) 240 ∧ (∀ f_14 : FF, f_14 = fu f 2 (wr (f 2) (((60 : Int32) * p0) + p1) p2) → (post (1 : Int32) f_14 v_1)))) ∧ (((f 0) (p0).toNatClampNeg) = (1 : Int32) → (vp_in (((60 : Int32) * p0) + p1) 240 ∧ (∀ f_16 : FF, f_16 = fu f 2 (wr (f 2) (((60 : Int32) * p0) + p1) ((p2).toInt16.toInt32)) → (post (1 : Int32) f_16 v_1)))))))) ∧ (((f 0) (p0).toNatClampNeg) = 0 → (vp_in (((60 : Int32) * p0) + p1) 240 ∧ (∀ f_18 : FF, f_18 = fu f 2 (wr (f 2) (((60 : Int32) * p0) + p1) ((p2).toInt8.toInt32)) → (post (1 : Int32) f_18 v_1)))))))) ∧ (r_7 = 0 → (Q_X5_fails (3 : Int32) f v_1 (fun r_19 f_20 v_21 => (post r_19 f_20 v_21)))))))))) ∧ (((f 0) (p0).toNatClampNeg) = (-9 : Int32) → (Q_X5_fails (1 : Int32) f v_1 (fun r_22 f_23 v_24 => (post r_22 f_23 v_24)))))))) ∧ (r_2 = 0 → (post (-1 : Int32) f v_1))))))
set_option maxRecDepth 100000 in
set_option maxHeartbeats 4000000 in
theorem m_X5_put {l : Launch} (G : Gx) (h : Nat → Nat) (p0 : Int32) (p1 : Int32) (p2 : Int32) (f : FF) (v : VV) {post : Int32 → FF → VV → Prop} (hq : Q_X5_put p0 p1 p2 f v post) : MetI l yX5_put (gC yX5_put cX5_put 4 (some .int)) rmX5_put G [.ref (h 0), .int p0, .int p1, .int p2] (wE G h) f v post := by
  refine met_i (own := RX5) (by decide) rfl (Nat.le_of_ble_eq_true rfl) (fun κ hκ C hR => ?_)
  unfold Q_X5_put at hq
  subst hκ
  show J κ 0 0 (wE G h f v) 0 [(0, .ref (h 0)), (1, .int p0), (2, .int p1), (3, .int p2)] []
  refine j_aload_n 1 C dX5_put_0 rfl 0 rfl ?_
  refine j_iconst 2 C dX5_put_1 rfl ic_0 ?_
  obtain ⟨v_1, ev_1⟩ : ∃ y : VV, y = fu v 0 (0 : Int32) := ⟨_, rfl⟩
  replace hq := hq v_1 ev_1
  refine j_put 5 C uX5 tyX5 tyX5_ok nmX5 0 rfl rfl 0 (Nat.le_of_ble_eq_true rfl) lX5_61 rfl rfl (Nat.le_of_ble_eq_true rfl) dX5_put_2 rfl (ws' := (wE G h f v_1)) (by subst ev_1; rfl) ?_
  refine j_iload_n 6 C dX5_put_5 rfl 1 rfl ?_
  refine j_callSi 9 C [] (wE G h f v_1) (fun _ _ => (wE G h f v_1)) (As := [.int p0]) (m_X5_isSheet G p0 hq) oX5_isSheet kX5_84 ⟨rfl, rfl⟩ eX5_isSheet ⟨Nat.le_of_ble_eq_true rfl, Nat.le_of_ble_eq_true rfl⟩ ⟨Nat.zero_le _, Nat.zero_le _⟩ rfl (fun _ _ => rfl) (fun _ _ => rfl) rfl (Nat.le_of_ble_eq_true rfl) dX5_put_6 rfl (fun r_2 _ _ hq => ?_)
  refine j_if_ne 12 14 C dX5_put_9 rfl rfl (fun c_3 => ?_) (fun c_3 => ?_)
  · replace hq := hq.1 c_3
    refine j_aload_n 15 C dX5_put_14 rfl 0 rfl ?_
    refine j_get 18 C uX5 0 rfl rfl 2 (Nat.le_of_ble_eq_true rfl) lX5_9 (v := .ref (h 1)) rfl dX5_put_15 rfl ?_
    refine j_iload_n 19 C dX5_put_18 rfl 1 rfl ?_
    obtain ⟨hi_4, hq⟩ := hq
    refine j_iald 20 C 1 (f := (f 0)) rfl hi_4 dX5_put_19 rfl ?_
    refine j_bipush 22 C dX5_put_20 rfl bc_m9 ?_
    refine j_icmp_ne 25 31 C dX5_put_22 rfl rfl (fun c_5 => ?_) (fun c_5 => ?_)
    · replace hq := hq.1 c_5
      refine j_iload_n 32 C dX5_put_31 rfl 2 rfl ?_
      refine j_iconst 33 C dX5_put_32 rfl ic_0 ?_
      refine j_aload_n 34 C dX5_put_33 rfl 0 rfl ?_
      refine j_get 37 C uX5 0 rfl rfl 3 (Nat.le_of_ble_eq_true rfl) lX5_13 (v := .ref (h 2)) rfl dX5_put_34 rfl ?_
      refine j_iload_n 38 C dX5_put_37 rfl 1 rfl ?_
      obtain ⟨hi_6, hq⟩ := hq
      refine j_iald 39 C 2 (f := (f 1)) rfl hi_6 dX5_put_38 rfl ?_
      refine j_iconst 40 C dX5_put_39 rfl ic_1 ?_
      refine j_isub 41 C dX5_put_40 rfl ?_
      refine j_callSi 44 C [] (wE G h f v_1) (fun _ _ => (wE G h f v_1)) (As := [.int p1, .int (0 : Int32), .int (((f 1) (p0).toNatClampNeg) - (1 : Int32))]) (m_X5_within G p1 (0 : Int32) (((f 1) (p0).toNatClampNeg) - (1 : Int32)) hq) oX5_within kX5_67 ⟨rfl, rfl⟩ eX5_within ⟨Nat.le_of_ble_eq_true rfl, Nat.le_of_ble_eq_true rfl⟩ ⟨Nat.zero_le _, Nat.zero_le _⟩ rfl (fun _ _ => rfl) (fun _ _ => rfl) rfl (Nat.le_of_ble_eq_true rfl) dX5_put_41 rfl (fun r_7 _ _ hq => ?_)
      refine j_if_ne 47 53 C dX5_put_44 rfl rfl (fun c_8 => ?_) (fun c_8 => ?_)
      · replace hq := hq.1 c_8
        refine j_aload_n 54 C dX5_put_53 rfl 0 rfl ?_
        refine j_get 57 C uX5 0 rfl rfl 4 (Nat.le_of_ble_eq_true rfl) lX5_16 (v := .ref (h 3)) rfl dX5_put_54 rfl ?_
        refine j_bipush 59 C dX5_put_57 rfl bc_60 ?_
        refine j_iload_n 60 C dX5_put_59 rfl 1 rfl ?_
        refine j_imul 61 C dX5_put_60 rfl ?_
        refine j_iload_n 62 C dX5_put_61 rfl 2 rfl ?_
        refine j_iadd 63 C dX5_put_62 rfl ?_
        refine j_aload_n 64 C dX5_put_63 rfl 0 rfl ?_
        refine j_get 67 C uX5 0 rfl rfl 2 (Nat.le_of_ble_eq_true rfl) lX5_9 (v := .ref (h 1)) rfl dX5_put_64 rfl ?_
        refine j_iload_n 68 C dX5_put_67 rfl 1 rfl ?_
        obtain ⟨hi_9, hq⟩ := hq
        refine j_iald 69 C 1 (f := (f 0)) rfl hi_9 dX5_put_68 rfl ?_
        refine j_if_ne 72 77 C dX5_put_69 rfl rfl (fun c_10 => ?_) (fun c_10 => ?_)
        · replace hq := hq.1 c_10
          refine j_aload_n 78 C dX5_put_77 rfl 0 rfl ?_
          refine j_get 81 C uX5 0 rfl rfl 2 (Nat.le_of_ble_eq_true rfl) lX5_9 (v := .ref (h 1)) rfl dX5_put_78 rfl ?_
          refine j_iload_n 82 C dX5_put_81 rfl 1 rfl ?_
          obtain ⟨hi_11, hq⟩ := hq
          refine j_iald 83 C 1 (f := (f 0)) rfl hi_11 dX5_put_82 rfl ?_
          refine j_iconst 84 C dX5_put_83 rfl ic_1 ?_
          refine j_icmp_ne 87 92 C dX5_put_84 rfl rfl (fun c_12 => ?_) (fun c_12 => ?_)
          · replace hq := hq.1 c_12
            refine j_iload_n 93 C dX5_put_92 rfl 3 rfl ?_
            obtain ⟨hi_13, hq⟩ := hq
            obtain ⟨f_14, ef_14⟩ : ∃ y : FF, y = fu f 2 (wr (f 2) (((60 : Int32) * p0) + p1) p2) := ⟨_, rfl⟩
            replace hq := hq f_14 ef_14
            refine j_iast 94 C 3 rfl hi_13 dX5_put_93 rfl (ws' := (wE G h f_14 v_1)) (by subst ef_14; rfl) ?_
            refine j_iconst 95 C dX5_put_94 rfl ic_1 ?_
            exact hR _ _ _ f_14 v_1 dX5_put_95 hq
          · replace hq := hq.2 c_12
            refine j_iload_n 88 C dX5_put_87 rfl 3 rfl ?_
            refine j_i2s 89 C dX5_put_88 rfl ?_
            refine j_goto 93 C dX5_put_89 rfl ?_
            obtain ⟨hi_15, hq⟩ := hq
            obtain ⟨f_16, ef_16⟩ : ∃ y : FF, y = fu f 2 (wr (f 2) (((60 : Int32) * p0) + p1) ((p2).toInt16.toInt32)) := ⟨_, rfl⟩
            replace hq := hq f_16 ef_16
            refine j_iast 94 C 3 rfl hi_15 dX5_put_93 rfl (ws' := (wE G h f_16 v_1)) (by subst ef_16; rfl) ?_
            refine j_iconst 95 C dX5_put_94 rfl ic_1 ?_
            exact hR _ _ _ f_16 v_1 dX5_put_95 hq
        · replace hq := hq.2 c_10
          refine j_iload_n 73 C dX5_put_72 rfl 3 rfl ?_
          refine j_i2b 74 C dX5_put_73 rfl ?_
          refine j_goto 93 C dX5_put_74 rfl ?_
          obtain ⟨hi_17, hq⟩ := hq
          obtain ⟨f_18, ef_18⟩ : ∃ y : FF, y = fu f 2 (wr (f 2) (((60 : Int32) * p0) + p1) ((p2).toInt8.toInt32)) := ⟨_, rfl⟩
          replace hq := hq f_18 ef_18
          refine j_iast 94 C 3 rfl hi_17 dX5_put_93 rfl (ws' := (wE G h f_18 v_1)) (by subst ef_18; rfl) ?_
          refine j_iconst 95 C dX5_put_94 rfl ic_1 ?_
          exact hR _ _ _ f_18 v_1 dX5_put_95 hq
      · replace hq := hq.2 c_8
        refine j_aload_n 48 C dX5_put_47 rfl 0 rfl ?_
        refine j_iconst 49 C dX5_put_48 rfl ic_3 ?_
        refine j_callVi 52 C [] [] (fun f' v' => (wE G h f' v')) (As := [.int (3 : Int32)]) (m_X5_fails G h (3 : Int32) f v_1 hq) oX5_fails kX5_95 ⟨rfl, rfl⟩ eX5_fails ⟨Nat.le_of_ble_eq_true rfl, Nat.le_of_ble_eq_true rfl⟩ ⟨Nat.zero_le _, Nat.zero_le _⟩ (List.append_nil _).symm (fun _ _ => List.append_nil _) (fun _ _ => rfl) 0 rfl rfl rfl (Nat.le_of_ble_eq_true rfl) dX5_put_49 rfl (fun r_19 f_20 v_21 hq => ?_)
        exact hR _ _ _ f_20 v_21 dX5_put_52 hq
    · replace hq := hq.2 c_5
      refine j_aload_n 26 C dX5_put_25 rfl 0 rfl ?_
      refine j_iconst 27 C dX5_put_26 rfl ic_1 ?_
      refine j_callVi 30 C [] [] (fun f' v' => (wE G h f' v')) (As := [.int (1 : Int32)]) (m_X5_fails G h (1 : Int32) f v_1 hq) oX5_fails kX5_95 ⟨rfl, rfl⟩ eX5_fails ⟨Nat.le_of_ble_eq_true rfl, Nat.le_of_ble_eq_true rfl⟩ ⟨Nat.zero_le _, Nat.zero_le _⟩ (List.append_nil _).symm (fun _ _ => List.append_nil _) (fun _ _ => rfl) 0 rfl rfl rfl (Nat.le_of_ble_eq_true rfl) dX5_put_27 rfl (fun r_22 f_23 v_24 hq => ?_)
      exact hR _ _ _ f_23 v_24 dX5_put_30 hq
  · replace hq := hq.2 c_3
    refine j_iconst 13 C dX5_put_12 rfl ic_m1 ?_
    exact hR _ _ _ f v_1 dX5_put_13 hq
def Q_X5_cell (p0 : Int32) (p1 : Int32) (p2 : Int32) (f : FF) (v : VV) (post : Int64 → FF → VV → Prop) : Prop := ∀ v_1 : VV, v_1 = fu v 0 (0 : Int32) → (Q_X5_isSheet p0 (fun r_2 => (((r_2 = 0 → (post (-9223372036854775808 : Int64) f v_1)) ∧ (¬ r_2 = 0 → (Q_X5_isSort p2 (fun r_4 => (((¬ r_4 = 0 → (vp_in p0 4 ∧ (((((f 0) (p0).toNatClampNeg) = (-9 : Int32) → (vp_in p0 4 ∧ (((¬ ((f 0) (p0).toNatClampNeg) = (-9 : Int32) → (vp_in p0 4 ∧ (Q_X5_within p1 (0 : Int32) (((f 1) (p0).toNatClampNeg) - (1 : Int32)) (fun r_11 => (((¬ r_11 = 0 → (vp_in (((60 : Int32) * p0) + p1) 240 ∧ (post ((((f 2) ((((60 : Int32) * p0) + p1)).toNatClampNeg)).toInt64) f v_1))) ∧ (r_11 = 0 → (Q_X5_lost (3 : Int32) f v_1 (fun r_14 f_15 v_16 => (post r_14 f_15 v_16)))))))))) ∧ (((f 0) (p0).toNatClampNeg) = (-9 : Int32) → (Q_X5_lost (1 : Int32) f v_1 (fun r_17 f_18 v_19 => (post r_17 f_18 v_19)))))))) ∧ (¬ ((f 0) (p0).toNatClampNeg) = (-9 : Int32) → (vp_in p0 4 ∧ (((((f 0) (p0).toNatClampNeg) = p2 → (vp_in p0 4 ∧ (((¬ ((f 0) (p0).toNatClampNeg) = (-9 : Int32) → (vp_in p0 4 ∧ (Q_X5_within p1 (0 : Int32) (((f 1) (p0).toNatClampNeg) - (1 : Int32)) (fun r_25 => (((¬ r_25 = 0 → (vp_in (((60 : Int32) * p0) + p1) 240 ∧ (post ((((f 2) ((((60 : Int32) * p0) + p1)).toNatClampNeg)).toInt64) f v_1))) ∧ (r_25 = 0 → (Q_X5_lost (3 : Int32) f v_1 (fun r_28 f_29 v_30 => (post r_28 f_29 v_30)))))))))) ∧ (((f 0) (p0).toNatClampNeg) = (-9 : Int32) → (Q_X5_lost (1 : Int32) f v_1 (fun r_31 f_32 v_33 => (post r_31 f_32 v_33)))))))) ∧ (¬ ((f 0) (p0).toNatClampNeg) = p2 → (Q_X5_lost (2 : Int32) f v_1 (fun r_34 f_35 v_36 => (post r_34 f_35 v_36)))))))))))) ∧ (r_4 = 0 → (post (-9223372036854775808 : Int64) f v_1)))))))))))
set_option maxRecDepth 100000 in
set_option maxHeartbeats 4000000 in
theorem m_X5_cell {l : Launch} (G : Gx) (h : Nat → Nat) (p0 : Int32) (p1 : Int32) (p2 : Int32) (f : FF) (v : VV) {post : Int64 → FF → VV → Prop} (hq : Q_X5_cell p0 p1 p2 f v post) : MetL l yX5_cell (gC yX5_cell cX5_cell 4 (some .long)) rmX5_cell G [.ref (h 0), .int p0, .int p1, .int p2] (wE G h) f v post := by
  refine met_l (own := RX5) (by decide) rfl (Nat.le_of_ble_eq_true rfl) (fun κ hκ C hR => ?_)
  unfold Q_X5_cell at hq
  subst hκ
  show J κ 0 0 (wE G h f v) 0 [(0, .ref (h 0)), (1, .int p0), (2, .int p1), (3, .int p2)] []
  refine j_aload_n 1 C dX5_cell_0 rfl 0 rfl ?_
  refine j_iconst 2 C dX5_cell_1 rfl ic_0 ?_
  obtain ⟨v_1, ev_1⟩ : ∃ y : VV, y = fu v 0 (0 : Int32) := ⟨_, rfl⟩
  replace hq := hq v_1 ev_1
  refine j_put 5 C uX5 tyX5 tyX5_ok nmX5 0 rfl rfl 0 (Nat.le_of_ble_eq_true rfl) lX5_61 rfl rfl (Nat.le_of_ble_eq_true rfl) dX5_cell_2 rfl (ws' := (wE G h f v_1)) (by subst ev_1; rfl) ?_
  refine j_iload_n 6 C dX5_cell_5 rfl 1 rfl ?_
  refine j_callSi 9 C [] (wE G h f v_1) (fun _ _ => (wE G h f v_1)) (As := [.int p0]) (m_X5_isSheet G p0 hq) oX5_isSheet kX5_84 ⟨rfl, rfl⟩ eX5_isSheet ⟨Nat.le_of_ble_eq_true rfl, Nat.le_of_ble_eq_true rfl⟩ ⟨Nat.zero_le _, Nat.zero_le _⟩ rfl (fun _ _ => rfl) (fun _ _ => rfl) rfl (Nat.le_of_ble_eq_true rfl) dX5_cell_6 rfl (fun r_2 _ _ hq => ?_)
  refine j_if_eq 12 19 C dX5_cell_9 rfl rfl (fun c_3 => ?_) (fun c_3 => ?_)
  · replace hq := hq.1 c_3
    refine j_ldc2_w 22 C dX5_cell_19 rfl kX5_65 ?_
    exact hR _ _ _ f v_1 dX5_cell_22 hq
  · replace hq := hq.2 c_3
    refine j_iload_n 13 C dX5_cell_12 rfl 3 rfl ?_
    refine j_callSi 16 C [] (wE G h f v_1) (fun _ _ => (wE G h f v_1)) (As := [.int p2]) (m_X5_isSort G p2 hq) oX5_isSort kX5_88 ⟨rfl, rfl⟩ eX5_isSort ⟨Nat.le_of_ble_eq_true rfl, Nat.le_of_ble_eq_true rfl⟩ ⟨Nat.zero_le _, Nat.zero_le _⟩ rfl (fun _ _ => rfl) (fun _ _ => rfl) rfl (Nat.le_of_ble_eq_true rfl) dX5_cell_13 rfl (fun r_4 _ _ hq => ?_)
    refine j_if_ne 19 23 C dX5_cell_16 rfl rfl (fun c_5 => ?_) (fun c_5 => ?_)
    · replace hq := hq.1 c_5
      refine j_aload_n 24 C dX5_cell_23 rfl 0 rfl ?_
      refine j_get 27 C uX5 0 rfl rfl 2 (Nat.le_of_ble_eq_true rfl) lX5_9 (v := .ref (h 1)) rfl dX5_cell_24 rfl ?_
      refine j_iload_n 28 C dX5_cell_27 rfl 1 rfl ?_
      obtain ⟨hi_6, hq⟩ := hq
      refine j_iald 29 C 1 (f := (f 0)) rfl hi_6 dX5_cell_28 rfl ?_
      refine j_bipush 31 C dX5_cell_29 rfl bc_m9 ?_
      refine j_icmp_eq 34 50 C dX5_cell_31 rfl rfl (fun c_7 => ?_) (fun c_7 => ?_)
      · replace hq := hq.1 c_7
        refine j_aload_n 51 C dX5_cell_50 rfl 0 rfl ?_
        refine j_get 54 C uX5 0 rfl rfl 2 (Nat.le_of_ble_eq_true rfl) lX5_9 (v := .ref (h 1)) rfl dX5_cell_51 rfl ?_
        refine j_iload_n 55 C dX5_cell_54 rfl 1 rfl ?_
        obtain ⟨hi_8, hq⟩ := hq
        refine j_iald 56 C 1 (f := (f 0)) rfl hi_8 dX5_cell_55 rfl ?_
        refine j_bipush 58 C dX5_cell_56 rfl bc_m9 ?_
        refine j_icmp_ne 61 67 C dX5_cell_58 rfl rfl (fun c_9 => ?_) (fun c_9 => ?_)
        · replace hq := hq.1 c_9
          refine j_iload_n 68 C dX5_cell_67 rfl 2 rfl ?_
          refine j_iconst 69 C dX5_cell_68 rfl ic_0 ?_
          refine j_aload_n 70 C dX5_cell_69 rfl 0 rfl ?_
          refine j_get 73 C uX5 0 rfl rfl 3 (Nat.le_of_ble_eq_true rfl) lX5_13 (v := .ref (h 2)) rfl dX5_cell_70 rfl ?_
          refine j_iload_n 74 C dX5_cell_73 rfl 1 rfl ?_
          obtain ⟨hi_10, hq⟩ := hq
          refine j_iald 75 C 2 (f := (f 1)) rfl hi_10 dX5_cell_74 rfl ?_
          refine j_iconst 76 C dX5_cell_75 rfl ic_1 ?_
          refine j_isub 77 C dX5_cell_76 rfl ?_
          refine j_callSi 80 C [] (wE G h f v_1) (fun _ _ => (wE G h f v_1)) (As := [.int p1, .int (0 : Int32), .int (((f 1) (p0).toNatClampNeg) - (1 : Int32))]) (m_X5_within G p1 (0 : Int32) (((f 1) (p0).toNatClampNeg) - (1 : Int32)) hq) oX5_within kX5_67 ⟨rfl, rfl⟩ eX5_within ⟨Nat.le_of_ble_eq_true rfl, Nat.le_of_ble_eq_true rfl⟩ ⟨Nat.zero_le _, Nat.zero_le _⟩ rfl (fun _ _ => rfl) (fun _ _ => rfl) rfl (Nat.le_of_ble_eq_true rfl) dX5_cell_77 rfl (fun r_11 _ _ hq => ?_)
          refine j_if_ne 83 89 C dX5_cell_80 rfl rfl (fun c_12 => ?_) (fun c_12 => ?_)
          · replace hq := hq.1 c_12
            refine j_aload_n 90 C dX5_cell_89 rfl 0 rfl ?_
            refine j_get 93 C uX5 0 rfl rfl 4 (Nat.le_of_ble_eq_true rfl) lX5_16 (v := .ref (h 3)) rfl dX5_cell_90 rfl ?_
            refine j_bipush 95 C dX5_cell_93 rfl bc_60 ?_
            refine j_iload_n 96 C dX5_cell_95 rfl 1 rfl ?_
            refine j_imul 97 C dX5_cell_96 rfl ?_
            refine j_iload_n 98 C dX5_cell_97 rfl 2 rfl ?_
            refine j_iadd 99 C dX5_cell_98 rfl ?_
            obtain ⟨hi_13, hq⟩ := hq
            refine j_iald 100 C 3 (f := (f 2)) rfl hi_13 dX5_cell_99 rfl ?_
            refine j_i2l 101 C dX5_cell_100 rfl ?_
            exact hR _ _ _ f v_1 dX5_cell_101 hq
          · replace hq := hq.2 c_12
            refine j_aload_n 84 C dX5_cell_83 rfl 0 rfl ?_
            refine j_iconst 85 C dX5_cell_84 rfl ic_3 ?_
            refine j_callVl 88 C [] [] (fun f' v' => (wE G h f' v')) (As := [.int (3 : Int32)]) (m_X5_lost G h (3 : Int32) f v_1 hq) oX5_lost kX5_242 ⟨rfl, rfl⟩ eX5_lost ⟨Nat.le_of_ble_eq_true rfl, Nat.le_of_ble_eq_true rfl⟩ ⟨Nat.zero_le _, Nat.zero_le _⟩ (List.append_nil _).symm (fun _ _ => List.append_nil _) (fun _ _ => rfl) 0 rfl rfl rfl (Nat.le_of_ble_eq_true rfl) dX5_cell_85 rfl (fun r_14 f_15 v_16 hq => ?_)
            exact hR _ _ _ f_15 v_16 dX5_cell_88 hq
        · replace hq := hq.2 c_9
          refine j_aload_n 62 C dX5_cell_61 rfl 0 rfl ?_
          refine j_iconst 63 C dX5_cell_62 rfl ic_1 ?_
          refine j_callVl 66 C [] [] (fun f' v' => (wE G h f' v')) (As := [.int (1 : Int32)]) (m_X5_lost G h (1 : Int32) f v_1 hq) oX5_lost kX5_242 ⟨rfl, rfl⟩ eX5_lost ⟨Nat.le_of_ble_eq_true rfl, Nat.le_of_ble_eq_true rfl⟩ ⟨Nat.zero_le _, Nat.zero_le _⟩ (List.append_nil _).symm (fun _ _ => List.append_nil _) (fun _ _ => rfl) 0 rfl rfl rfl (Nat.le_of_ble_eq_true rfl) dX5_cell_63 rfl (fun r_17 f_18 v_19 hq => ?_)
          exact hR _ _ _ f_18 v_19 dX5_cell_66 hq
      · replace hq := hq.2 c_7
        refine j_aload_n 35 C dX5_cell_34 rfl 0 rfl ?_
        refine j_get 38 C uX5 0 rfl rfl 2 (Nat.le_of_ble_eq_true rfl) lX5_9 (v := .ref (h 1)) rfl dX5_cell_35 rfl ?_
        refine j_iload_n 39 C dX5_cell_38 rfl 1 rfl ?_
        obtain ⟨hi_20, hq⟩ := hq
        refine j_iald 40 C 1 (f := (f 0)) rfl hi_20 dX5_cell_39 rfl ?_
        refine j_iload_n 41 C dX5_cell_40 rfl 3 rfl ?_
        refine j_icmp_eq 44 50 C dX5_cell_41 rfl rfl (fun c_21 => ?_) (fun c_21 => ?_)
        · replace hq := hq.1 c_21
          refine j_aload_n 51 C dX5_cell_50 rfl 0 rfl ?_
          refine j_get 54 C uX5 0 rfl rfl 2 (Nat.le_of_ble_eq_true rfl) lX5_9 (v := .ref (h 1)) rfl dX5_cell_51 rfl ?_
          refine j_iload_n 55 C dX5_cell_54 rfl 1 rfl ?_
          obtain ⟨hi_22, hq⟩ := hq
          refine j_iald 56 C 1 (f := (f 0)) rfl hi_22 dX5_cell_55 rfl ?_
          refine j_bipush 58 C dX5_cell_56 rfl bc_m9 ?_
          refine j_icmp_ne 61 67 C dX5_cell_58 rfl rfl (fun c_23 => ?_) (fun c_23 => ?_)
          · replace hq := hq.1 c_23
            refine j_iload_n 68 C dX5_cell_67 rfl 2 rfl ?_
            refine j_iconst 69 C dX5_cell_68 rfl ic_0 ?_
            refine j_aload_n 70 C dX5_cell_69 rfl 0 rfl ?_
            refine j_get 73 C uX5 0 rfl rfl 3 (Nat.le_of_ble_eq_true rfl) lX5_13 (v := .ref (h 2)) rfl dX5_cell_70 rfl ?_
            refine j_iload_n 74 C dX5_cell_73 rfl 1 rfl ?_
            obtain ⟨hi_24, hq⟩ := hq
            refine j_iald 75 C 2 (f := (f 1)) rfl hi_24 dX5_cell_74 rfl ?_
            refine j_iconst 76 C dX5_cell_75 rfl ic_1 ?_
            refine j_isub 77 C dX5_cell_76 rfl ?_
            refine j_callSi 80 C [] (wE G h f v_1) (fun _ _ => (wE G h f v_1)) (As := [.int p1, .int (0 : Int32), .int (((f 1) (p0).toNatClampNeg) - (1 : Int32))]) (m_X5_within G p1 (0 : Int32) (((f 1) (p0).toNatClampNeg) - (1 : Int32)) hq) oX5_within kX5_67 ⟨rfl, rfl⟩ eX5_within ⟨Nat.le_of_ble_eq_true rfl, Nat.le_of_ble_eq_true rfl⟩ ⟨Nat.zero_le _, Nat.zero_le _⟩ rfl (fun _ _ => rfl) (fun _ _ => rfl) rfl (Nat.le_of_ble_eq_true rfl) dX5_cell_77 rfl (fun r_25 _ _ hq => ?_)
            refine j_if_ne 83 89 C dX5_cell_80 rfl rfl (fun c_26 => ?_) (fun c_26 => ?_)
            · replace hq := hq.1 c_26
              refine j_aload_n 90 C dX5_cell_89 rfl 0 rfl ?_
              refine j_get 93 C uX5 0 rfl rfl 4 (Nat.le_of_ble_eq_true rfl) lX5_16 (v := .ref (h 3)) rfl dX5_cell_90 rfl ?_
              refine j_bipush 95 C dX5_cell_93 rfl bc_60 ?_
              refine j_iload_n 96 C dX5_cell_95 rfl 1 rfl ?_
              refine j_imul 97 C dX5_cell_96 rfl ?_
              refine j_iload_n 98 C dX5_cell_97 rfl 2 rfl ?_
              refine j_iadd 99 C dX5_cell_98 rfl ?_
              obtain ⟨hi_27, hq⟩ := hq
              refine j_iald 100 C 3 (f := (f 2)) rfl hi_27 dX5_cell_99 rfl ?_
              refine j_i2l 101 C dX5_cell_100 rfl ?_
              exact hR _ _ _ f v_1 dX5_cell_101 hq
            · replace hq := hq.2 c_26
              refine j_aload_n 84 C dX5_cell_83 rfl 0 rfl ?_
              refine j_iconst 85 C dX5_cell_84 rfl ic_3 ?_
              refine j_callVl 88 C [] [] (fun f' v' => (wE G h f' v')) (As := [.int (3 : Int32)]) (m_X5_lost G h (3 : Int32) f v_1 hq) oX5_lost kX5_242 ⟨rfl, rfl⟩ eX5_lost ⟨Nat.le_of_ble_eq_true rfl, Nat.le_of_ble_eq_true rfl⟩ ⟨Nat.zero_le _, Nat.zero_le _⟩ (List.append_nil _).symm (fun _ _ => List.append_nil _) (fun _ _ => rfl) 0 rfl rfl rfl (Nat.le_of_ble_eq_true rfl) dX5_cell_85 rfl (fun r_28 f_29 v_30 hq => ?_)
              exact hR _ _ _ f_29 v_30 dX5_cell_88 hq
          · replace hq := hq.2 c_23
            refine j_aload_n 62 C dX5_cell_61 rfl 0 rfl ?_
            refine j_iconst 63 C dX5_cell_62 rfl ic_1 ?_
            refine j_callVl 66 C [] [] (fun f' v' => (wE G h f' v')) (As := [.int (1 : Int32)]) (m_X5_lost G h (1 : Int32) f v_1 hq) oX5_lost kX5_242 ⟨rfl, rfl⟩ eX5_lost ⟨Nat.le_of_ble_eq_true rfl, Nat.le_of_ble_eq_true rfl⟩ ⟨Nat.zero_le _, Nat.zero_le _⟩ (List.append_nil _).symm (fun _ _ => List.append_nil _) (fun _ _ => rfl) 0 rfl rfl rfl (Nat.le_of_ble_eq_true rfl) dX5_cell_63 rfl (fun r_31 f_32 v_33 hq => ?_)
            exact hR _ _ _ f_32 v_33 dX5_cell_66 hq
        · replace hq := hq.2 c_21
          refine j_aload_n 45 C dX5_cell_44 rfl 0 rfl ?_
          refine j_iconst 46 C dX5_cell_45 rfl ic_2 ?_
          refine j_callVl 49 C [] [] (fun f' v' => (wE G h f' v')) (As := [.int (2 : Int32)]) (m_X5_lost G h (2 : Int32) f v_1 hq) oX5_lost kX5_242 ⟨rfl, rfl⟩ eX5_lost ⟨Nat.le_of_ble_eq_true rfl, Nat.le_of_ble_eq_true rfl⟩ ⟨Nat.zero_le _, Nat.zero_le _⟩ (List.append_nil _).symm (fun _ _ => List.append_nil _) (fun _ _ => rfl) 0 rfl rfl rfl (Nat.le_of_ble_eq_true rfl) dX5_cell_46 rfl (fun r_34 f_35 v_36 hq => ?_)
          exact hR _ _ _ f_35 v_36 dX5_cell_49 hq
    · replace hq := hq.2 c_5
      refine j_ldc2_w 22 C dX5_cell_19 rfl kX5_65 ?_
      exact hR _ _ _ f v_1 dX5_cell_22 hq
def Q_X5_copy_L166 (x1 : Int32) (x2 : Int32) (x3 : Int32) (x4 : Int32) (x5 : Int32) (x6 : Int32) (x7 : Int32) (K227 : Int32 → FF → VV → Prop) : Nat → Int32 → FF → VV → Prop
  | 0, _, _, _ => False
  | n + 1, x8, f, v => ((x5 ≤ x8 → (K227 x8 f v)) ∧ (¬ x5 ≤ x8 → (((x7 = 0 → (vp_in ((((60 : Int32) * x1) + x2) + x8) 240 ∧ (vp_in ((((60 : Int32) * x3) + x4) + x8) 240 ∧ (∀ f_50 : FF, f_50 = fu f 2 (wr (f 2) ((((60 : Int32) * x3) + x4) + x8) ((f 2) (((((60 : Int32) * x1) + x2) + x8)).toNatClampNeg)) → (∀ x_51 : Int32, x_51 = (x8 + (1 : Int32)) → (Q_X5_copy_L166 x1 x2 x3 x4 x5 x6 x7 K227 n x_51 f_50 v)))))) ∧ (¬ x7 = 0 → (∀ x_52 : Int32, x_52 = ((x5 - (1 : Int32)) - x8) → (vp_in ((((60 : Int32) * x1) + x2) + x_52) 240 ∧ (vp_in ((((60 : Int32) * x3) + x4) + x_52) 240 ∧ (∀ f_55 : FF, f_55 = fu f 2 (wr (f 2) ((((60 : Int32) * x3) + x4) + x_52) ((f 2) (((((60 : Int32) * x1) + x2) + x_52)).toNatClampNeg)) → (∀ x_56 : Int32, x_56 = (x8 + (1 : Int32)) → (Q_X5_copy_L166 x1 x2 x3 x4 x5 x6 x7 K227 n x_56 f_55 v)))))))))))
set_option maxRecDepth 100000 in
set_option maxHeartbeats 4000000 in
theorem t_X5_copy_L166 {κ : Kx} {G : Gx} {h : Nat → Nat} (C : Cx κ G RX5 cX5_copy rmX5_copy 10) {x1 : Int32} {x2 : Int32} {x3 : Int32} {x4 : Int32} {x5 : Int32} {x6 : Int32} {x7 : Int32} {K227 : Int32 → FF → VV → Prop} (hK227 : ∀ (x8 : Int32) (f : FF) (v : VV), K227 x8 f v → J κ 0 0 (wE G h f v) 227 [(0, .ref (h 0)), (1, .int x1), (2, .int x2), (3, .int x3), (4, .int x4), (5, .int x5), (6, .int x6), (7, .int x7), (8, .int x8)] []) : ∀ (n : Nat) (x8 : Int32) (f : FF) (v : VV), Q_X5_copy_L166 x1 x2 x3 x4 x5 x6 x7 K227 n x8 f v → J κ 0 0 (wE G h f v) 166 [(0, .ref (h 0)), (1, .int x1), (2, .int x2), (3, .int x3), (4, .int x4), (5, .int x5), (6, .int x6), (7, .int x7), (8, .int x8)] [] := by
  intro n
  induction n with
  | zero => intro x8 f v hq; exact False.elim hq
  | succ n ih =>
    intro x8 f v hq
    rw [Q_X5_copy_L166] at hq
    refine j_iload 168 C dX5_copy_166 rfl 8 rfl ?_
    refine j_iload 170 C dX5_copy_168 rfl 5 rfl ?_
    refine j_icmp_ge 173 227 C dX5_copy_170 rfl rfl (fun c_46 => ?_) (fun c_46 => ?_)
    · replace hq := hq.1 c_46
      refine J.l0 [0, 1, 2, 3, 4, 5, 6, 7, 8] rfl ?_
      exact hK227 _ _ _ hq
    · replace hq := hq.2 c_46
      refine j_iload 175 C dX5_copy_173 rfl 7 rfl ?_
      refine j_if_eq 178 188 C dX5_copy_175 rfl rfl (fun c_47 => ?_) (fun c_47 => ?_)
      · replace hq := hq.1 c_47
        refine j_iload 190 C dX5_copy_188 rfl 8 rfl ?_
        refine j_istore 192 C dX5_copy_190 rfl (Nat.le_of_ble_eq_true rfl) [1, 2, 3, 4, 5, 6, 7, 8, 9, 0] (lv' := [(0, .ref (h 0)), (1, .int x1), (2, .int x2), (3, .int x3), (4, .int x4), (5, .int x5), (6, .int x6), (7, .int x7), (8, .int x8), (9, .int x8)]) rfl ?_
        refine j_aload_n 193 C dX5_copy_192 rfl 0 rfl ?_
        refine j_get 196 C uX5 0 rfl rfl 4 (Nat.le_of_ble_eq_true rfl) lX5_16 (v := .ref (h 3)) rfl dX5_copy_193 rfl ?_
        refine j_bipush 198 C dX5_copy_196 rfl bc_60 ?_
        refine j_iload_n 199 C dX5_copy_198 rfl 3 rfl ?_
        refine j_imul 200 C dX5_copy_199 rfl ?_
        refine j_iload 202 C dX5_copy_200 rfl 4 rfl ?_
        refine j_iadd 203 C dX5_copy_202 rfl ?_
        refine j_iload 205 C dX5_copy_203 rfl 9 rfl ?_
        refine j_iadd 206 C dX5_copy_205 rfl ?_
        refine j_aload_n 207 C dX5_copy_206 rfl 0 rfl ?_
        refine j_get 210 C uX5 0 rfl rfl 4 (Nat.le_of_ble_eq_true rfl) lX5_16 (v := .ref (h 3)) rfl dX5_copy_207 rfl ?_
        refine j_bipush 212 C dX5_copy_210 rfl bc_60 ?_
        refine j_iload_n 213 C dX5_copy_212 rfl 1 rfl ?_
        refine j_imul 214 C dX5_copy_213 rfl ?_
        refine j_iload_n 215 C dX5_copy_214 rfl 2 rfl ?_
        refine j_iadd 216 C dX5_copy_215 rfl ?_
        refine j_iload 218 C dX5_copy_216 rfl 9 rfl ?_
        refine j_iadd 219 C dX5_copy_218 rfl ?_
        obtain ⟨hi_48, hq⟩ := hq
        refine j_iald 220 C 3 (f := (f 2)) rfl hi_48 dX5_copy_219 rfl ?_
        obtain ⟨hi_49, hq⟩ := hq
        obtain ⟨f_50, ef_50⟩ : ∃ y : FF, y = fu f 2 (wr (f 2) ((((60 : Int32) * x3) + x4) + x8) ((f 2) (((((60 : Int32) * x1) + x2) + x8)).toNatClampNeg)) := ⟨_, rfl⟩
        replace hq := hq f_50 ef_50
        refine j_iast 221 C 3 rfl hi_49 dX5_copy_220 rfl (ws' := (wE G h f_50 v)) (by subst ef_50; rfl) ?_
        obtain ⟨x_51, ex_51⟩ : ∃ y : Int32, y = (x8 + (1 : Int32)) := ⟨_, rfl⟩
        replace hq := hq x_51 ex_51
        refine j_iinc 224 C dX5_copy_221 rfl 8 rfl (v := x_51) (by rw [ex_51]; rfl) (Nat.le_of_ble_eq_true rfl) [1, 2, 3, 4, 5, 6, 7, 8, 0, 9] (lv' := [(0, .ref (h 0)), (1, .int x1), (2, .int x2), (3, .int x3), (4, .int x4), (5, .int x5), (6, .int x6), (7, .int x7), (8, .int x_51), (9, .int x8)]) rfl ?_
        refine j_goto 166 C dX5_copy_224 rfl ?_
        refine J.l0 [0, 1, 2, 3, 4, 5, 6, 7, 8] rfl ?_
        exact ih _ _ _ hq
      · replace hq := hq.2 c_47
        refine j_iload 180 C dX5_copy_178 rfl 5 rfl ?_
        refine j_iconst 181 C dX5_copy_180 rfl ic_1 ?_
        refine j_isub 182 C dX5_copy_181 rfl ?_
        refine j_iload 184 C dX5_copy_182 rfl 8 rfl ?_
        refine j_isub 185 C dX5_copy_184 rfl ?_
        refine j_goto 190 C dX5_copy_185 rfl ?_
        refine J.topi (fun x_52 ex_52 => ?_)
        replace hq := hq x_52 ex_52
        refine j_istore 192 C dX5_copy_190 rfl (Nat.le_of_ble_eq_true rfl) [1, 2, 3, 4, 5, 6, 7, 8, 9, 0] (lv' := [(0, .ref (h 0)), (1, .int x1), (2, .int x2), (3, .int x3), (4, .int x4), (5, .int x5), (6, .int x6), (7, .int x7), (8, .int x8), (9, .int x_52)]) rfl ?_
        refine j_aload_n 193 C dX5_copy_192 rfl 0 rfl ?_
        refine j_get 196 C uX5 0 rfl rfl 4 (Nat.le_of_ble_eq_true rfl) lX5_16 (v := .ref (h 3)) rfl dX5_copy_193 rfl ?_
        refine j_bipush 198 C dX5_copy_196 rfl bc_60 ?_
        refine j_iload_n 199 C dX5_copy_198 rfl 3 rfl ?_
        refine j_imul 200 C dX5_copy_199 rfl ?_
        refine j_iload 202 C dX5_copy_200 rfl 4 rfl ?_
        refine j_iadd 203 C dX5_copy_202 rfl ?_
        refine j_iload 205 C dX5_copy_203 rfl 9 rfl ?_
        refine j_iadd 206 C dX5_copy_205 rfl ?_
        refine j_aload_n 207 C dX5_copy_206 rfl 0 rfl ?_
        refine j_get 210 C uX5 0 rfl rfl 4 (Nat.le_of_ble_eq_true rfl) lX5_16 (v := .ref (h 3)) rfl dX5_copy_207 rfl ?_
        refine j_bipush 212 C dX5_copy_210 rfl bc_60 ?_
        refine j_iload_n 213 C dX5_copy_212 rfl 1 rfl ?_
        refine j_imul 214 C dX5_copy_213 rfl ?_
        refine j_iload_n 215 C dX5_copy_214 rfl 2 rfl ?_
        refine j_iadd 216 C dX5_copy_215 rfl ?_
        refine j_iload 218 C dX5_copy_216 rfl 9 rfl ?_
        refine j_iadd 219 C dX5_copy_218 rfl ?_
        obtain ⟨hi_53, hq⟩ := hq
        refine j_iald 220 C 3 (f := (f 2)) rfl hi_53 dX5_copy_219 rfl ?_
        obtain ⟨hi_54, hq⟩ := hq
        obtain ⟨f_55, ef_55⟩ : ∃ y : FF, y = fu f 2 (wr (f 2) ((((60 : Int32) * x3) + x4) + x_52) ((f 2) (((((60 : Int32) * x1) + x2) + x_52)).toNatClampNeg)) := ⟨_, rfl⟩
        replace hq := hq f_55 ef_55
        refine j_iast 221 C 3 rfl hi_54 dX5_copy_220 rfl (ws' := (wE G h f_55 v)) (by subst ef_55; rfl) ?_
        obtain ⟨x_56, ex_56⟩ : ∃ y : Int32, y = (x8 + (1 : Int32)) := ⟨_, rfl⟩
        replace hq := hq x_56 ex_56
        refine j_iinc 224 C dX5_copy_221 rfl 8 rfl (v := x_56) (by rw [ex_56]; rfl) (Nat.le_of_ble_eq_true rfl) [1, 2, 3, 4, 5, 6, 7, 8, 0, 9] (lv' := [(0, .ref (h 0)), (1, .int x1), (2, .int x2), (3, .int x3), (4, .int x4), (5, .int x5), (6, .int x6), (7, .int x7), (8, .int x_56), (9, .int x_52)]) rfl ?_
        refine j_goto 166 C dX5_copy_224 rfl ?_
        refine J.l0 [0, 1, 2, 3, 4, 5, 6, 7, 8] rfl ?_
        exact ih _ _ _ hq
def Q_X5_copy (p0 : Int32) (p1 : Int32) (p2 : Int32) (p3 : Int32) (p4 : Int32) (f : FF) (v : VV) (post : Int32 → FF → VV → Prop) : Prop := ∀ v_1 : VV, v_1 = fu v 0 (0 : Int32) → (Q_X5_isSheet p0 (fun r_2 => (((r_2 = 0 → (post (-1 : Int32) f v_1)) ∧ (¬ r_2 = 0 → (Q_X5_isSheet p2 (fun r_4 => (((¬ r_4 = 0 → (vp_in p0 4 ∧ (((((f 0) (p0).toNatClampNeg) = (-9 : Int32) → (Q_X5_fails (1 : Int32) f v_1 (fun r_8 f_9 v_10 => (post r_8 f_9 v_10)))) ∧ (¬ ((f 0) (p0).toNatClampNeg) = (-9 : Int32) → (vp_in p2 4 ∧ (((¬ ((f 0) (p2).toNatClampNeg) = (-9 : Int32) → (vp_in p0 4 ∧ (vp_in p2 4 ∧ (((((f 0) (p0).toNatClampNeg) = ((f 0) (p2).toNatClampNeg) → (((p1 < 0 → (Q_X5_fails (3 : Int32) f v_1 (fun r_17 f_18 v_19 => (post r_17 f_18 v_19)))) ∧ (¬ p1 < 0 → (((p3 < 0 → (Q_X5_fails (3 : Int32) f v_1 (fun r_21 f_22 v_23 => (post r_21 f_22 v_23)))) ∧ (¬ p3 < 0 → (((p4 < 0 → (Q_X5_fails (3 : Int32) f v_1 (fun r_25 f_26 v_27 => (post r_25 f_26 v_27)))) ∧ (¬ p4 < 0 → (vp_in p0 4 ∧ (((((f 1) (p0).toNatClampNeg) < p1 → (Q_X5_fails (3 : Int32) f v_1 (fun r_30 f_31 v_32 => (post r_30 f_31 v_32)))) ∧ (¬ ((f 1) (p0).toNatClampNeg) < p1 → (vp_in p2 4 ∧ (((((f 1) (p2).toNatClampNeg) < p3 → (Q_X5_fails (3 : Int32) f v_1 (fun r_35 f_36 v_37 => (post r_35 f_36 v_37)))) ∧ (¬ ((f 1) (p2).toNatClampNeg) < p3 → (vp_in p0 4 ∧ ((((((f 1) (p0).toNatClampNeg) - p1) < p4 → (Q_X5_fails (3 : Int32) f v_1 (fun r_40 f_41 v_42 => (post r_40 f_41 v_42)))) ∧ (¬ (((f 1) (p0).toNatClampNeg) - p1) < p4 → (vp_in p2 4 ∧ (((p4 ≤ (((f 1) (p2).toNatClampNeg) - p3) → (((p3 ≤ p1 → (∃ n_57 : Nat, Q_X5_copy_L166 p0 p1 p2 p3 p4 (1 : Int32) (0 : Int32) (fun x_58 f_59 v_60 => (post p4 f_59 v_60)) n_57 (0 : Int32) f v_1)) ∧ (¬ p3 ≤ p1 → (∃ n_61 : Nat, Q_X5_copy_L166 p0 p1 p2 p3 p4 (1 : Int32) (1 : Int32) (fun x_62 f_63 v_64 => (post p4 f_63 v_64)) n_61 (0 : Int32) f v_1))))) ∧ (¬ p4 ≤ (((f 1) (p2).toNatClampNeg) - p3) → (Q_X5_fails (3 : Int32) f v_1 (fun r_65 f_66 v_67 => (post r_65 f_66 v_67))))))))))))))))))))))))))))) ∧ (¬ ((f 0) (p0).toNatClampNeg) = ((f 0) (p2).toNatClampNeg) → (Q_X5_fails (2 : Int32) f v_1 (fun r_68 f_69 v_70 => (post r_68 f_69 v_70))))))))) ∧ (((f 0) (p2).toNatClampNeg) = (-9 : Int32) → (Q_X5_fails (1 : Int32) f v_1 (fun r_71 f_72 v_73 => (post r_71 f_72 v_73)))))))))))) ∧ (r_4 = 0 → (post (-1 : Int32) f v_1)))))))))))
set_option maxRecDepth 100000 in
set_option maxHeartbeats 4000000 in
theorem m_X5_copy {l : Launch} (G : Gx) (h : Nat → Nat) (p0 : Int32) (p1 : Int32) (p2 : Int32) (p3 : Int32) (p4 : Int32) (f : FF) (v : VV) {post : Int32 → FF → VV → Prop} (hq : Q_X5_copy p0 p1 p2 p3 p4 f v post) : MetI l yX5_copy (gC yX5_copy cX5_copy 10 (some .int)) rmX5_copy G [.ref (h 0), .int p0, .int p1, .int p2, .int p3, .int p4] (wE G h) f v post := by
  refine met_i (own := RX5) (by decide) rfl (Nat.le_of_ble_eq_true rfl) (fun κ hκ C hR => ?_)
  unfold Q_X5_copy at hq
  subst hκ
  show J κ 0 0 (wE G h f v) 0 [(0, .ref (h 0)), (1, .int p0), (2, .int p1), (3, .int p2), (4, .int p3), (5, .int p4)] []
  refine j_aload_n 1 C dX5_copy_0 rfl 0 rfl ?_
  refine j_iconst 2 C dX5_copy_1 rfl ic_0 ?_
  obtain ⟨v_1, ev_1⟩ : ∃ y : VV, y = fu v 0 (0 : Int32) := ⟨_, rfl⟩
  replace hq := hq v_1 ev_1
  refine j_put 5 C uX5 tyX5 tyX5_ok nmX5 0 rfl rfl 0 (Nat.le_of_ble_eq_true rfl) lX5_61 rfl rfl (Nat.le_of_ble_eq_true rfl) dX5_copy_2 rfl (ws' := (wE G h f v_1)) (by subst ev_1; rfl) ?_
  refine j_iload_n 6 C dX5_copy_5 rfl 1 rfl ?_
  refine j_callSi 9 C [] (wE G h f v_1) (fun _ _ => (wE G h f v_1)) (As := [.int p0]) (m_X5_isSheet G p0 hq) oX5_isSheet kX5_84 ⟨rfl, rfl⟩ eX5_isSheet ⟨Nat.le_of_ble_eq_true rfl, Nat.le_of_ble_eq_true rfl⟩ ⟨Nat.zero_le _, Nat.zero_le _⟩ rfl (fun _ _ => rfl) (fun _ _ => rfl) rfl (Nat.le_of_ble_eq_true rfl) dX5_copy_6 rfl (fun r_2 _ _ hq => ?_)
  refine j_if_eq 12 19 C dX5_copy_9 rfl rfl (fun c_3 => ?_) (fun c_3 => ?_)
  · replace hq := hq.1 c_3
    refine j_iconst 20 C dX5_copy_19 rfl ic_m1 ?_
    exact hR _ _ _ f v_1 dX5_copy_20 hq
  · replace hq := hq.2 c_3
    refine j_iload_n 13 C dX5_copy_12 rfl 3 rfl ?_
    refine j_callSi 16 C [] (wE G h f v_1) (fun _ _ => (wE G h f v_1)) (As := [.int p2]) (m_X5_isSheet G p2 hq) oX5_isSheet kX5_84 ⟨rfl, rfl⟩ eX5_isSheet ⟨Nat.le_of_ble_eq_true rfl, Nat.le_of_ble_eq_true rfl⟩ ⟨Nat.zero_le _, Nat.zero_le _⟩ rfl (fun _ _ => rfl) (fun _ _ => rfl) rfl (Nat.le_of_ble_eq_true rfl) dX5_copy_13 rfl (fun r_4 _ _ hq => ?_)
    refine j_if_ne 19 21 C dX5_copy_16 rfl rfl (fun c_5 => ?_) (fun c_5 => ?_)
    · replace hq := hq.1 c_5
      refine j_aload_n 22 C dX5_copy_21 rfl 0 rfl ?_
      refine j_get 25 C uX5 0 rfl rfl 2 (Nat.le_of_ble_eq_true rfl) lX5_9 (v := .ref (h 1)) rfl dX5_copy_22 rfl ?_
      refine j_iload_n 26 C dX5_copy_25 rfl 1 rfl ?_
      obtain ⟨hi_6, hq⟩ := hq
      refine j_iald 27 C 1 (f := (f 0)) rfl hi_6 dX5_copy_26 rfl ?_
      refine j_bipush 29 C dX5_copy_27 rfl bc_m9 ?_
      refine j_icmp_eq 32 43 C dX5_copy_29 rfl rfl (fun c_7 => ?_) (fun c_7 => ?_)
      · replace hq := hq.1 c_7
        refine j_aload_n 44 C dX5_copy_43 rfl 0 rfl ?_
        refine j_iconst 45 C dX5_copy_44 rfl ic_1 ?_
        refine j_callVi 48 C [] [] (fun f' v' => (wE G h f' v')) (As := [.int (1 : Int32)]) (m_X5_fails G h (1 : Int32) f v_1 hq) oX5_fails kX5_95 ⟨rfl, rfl⟩ eX5_fails ⟨Nat.le_of_ble_eq_true rfl, Nat.le_of_ble_eq_true rfl⟩ ⟨Nat.zero_le _, Nat.zero_le _⟩ (List.append_nil _).symm (fun _ _ => List.append_nil _) (fun _ _ => rfl) 0 rfl rfl rfl (Nat.le_of_ble_eq_true rfl) dX5_copy_45 rfl (fun r_8 f_9 v_10 hq => ?_)
        exact hR _ _ _ f_9 v_10 dX5_copy_48 hq
      · replace hq := hq.2 c_7
        refine j_aload_n 33 C dX5_copy_32 rfl 0 rfl ?_
        refine j_get 36 C uX5 0 rfl rfl 2 (Nat.le_of_ble_eq_true rfl) lX5_9 (v := .ref (h 1)) rfl dX5_copy_33 rfl ?_
        refine j_iload_n 37 C dX5_copy_36 rfl 3 rfl ?_
        obtain ⟨hi_11, hq⟩ := hq
        refine j_iald 38 C 1 (f := (f 0)) rfl hi_11 dX5_copy_37 rfl ?_
        refine j_bipush 40 C dX5_copy_38 rfl bc_m9 ?_
        refine j_icmp_ne 43 49 C dX5_copy_40 rfl rfl (fun c_12 => ?_) (fun c_12 => ?_)
        · replace hq := hq.1 c_12
          refine j_aload_n 50 C dX5_copy_49 rfl 0 rfl ?_
          refine j_get 53 C uX5 0 rfl rfl 2 (Nat.le_of_ble_eq_true rfl) lX5_9 (v := .ref (h 1)) rfl dX5_copy_50 rfl ?_
          refine j_iload_n 54 C dX5_copy_53 rfl 1 rfl ?_
          obtain ⟨hi_13, hq⟩ := hq
          refine j_iald 55 C 1 (f := (f 0)) rfl hi_13 dX5_copy_54 rfl ?_
          refine j_aload_n 56 C dX5_copy_55 rfl 0 rfl ?_
          refine j_get 59 C uX5 0 rfl rfl 2 (Nat.le_of_ble_eq_true rfl) lX5_9 (v := .ref (h 1)) rfl dX5_copy_56 rfl ?_
          refine j_iload_n 60 C dX5_copy_59 rfl 3 rfl ?_
          obtain ⟨hi_14, hq⟩ := hq
          refine j_iald 61 C 1 (f := (f 0)) rfl hi_14 dX5_copy_60 rfl ?_
          refine j_icmp_eq 64 70 C dX5_copy_61 rfl rfl (fun c_15 => ?_) (fun c_15 => ?_)
          · replace hq := hq.1 c_15
            refine j_iload_n 71 C dX5_copy_70 rfl 2 rfl ?_
            refine j_if_lt 74 109 C dX5_copy_71 rfl rfl (fun c_16 => ?_) (fun c_16 => ?_)
            · replace hq := hq.1 c_16
              refine j_iconst 110 C dX5_copy_109 rfl ic_0 ?_
              refine j_istore 112 C dX5_copy_110 rfl (Nat.le_of_ble_eq_true rfl) [1, 2, 3, 4, 5, 6, 0] (lv' := [(0, .ref (h 0)), (1, .int p0), (2, .int p1), (3, .int p2), (4, .int p3), (5, .int p4), (6, .int (0 : Int32))]) rfl ?_
              refine j_iload 114 C dX5_copy_112 rfl 6 rfl ?_
              refine j_if_eq 117 144 C dX5_copy_114 rfl rfl (fun _ => ?_) (fun h9 => absurd h9 (by decide))
              refine j_aload_n 145 C dX5_copy_144 rfl 0 rfl ?_
              refine j_iconst 146 C dX5_copy_145 rfl ic_3 ?_
              refine j_callVi 149 C [] [] (fun f' v' => (wE G h f' v')) (As := [.int (3 : Int32)]) (m_X5_fails G h (3 : Int32) f v_1 hq) oX5_fails kX5_95 ⟨rfl, rfl⟩ eX5_fails ⟨Nat.le_of_ble_eq_true rfl, Nat.le_of_ble_eq_true rfl⟩ ⟨Nat.zero_le _, Nat.zero_le _⟩ (List.append_nil _).symm (fun _ _ => List.append_nil _) (fun _ _ => rfl) 0 rfl rfl rfl (Nat.le_of_ble_eq_true rfl) dX5_copy_146 rfl (fun r_17 f_18 v_19 hq => ?_)
              exact hR _ _ _ f_18 v_19 dX5_copy_149 hq
            · replace hq := hq.2 c_16
              refine j_iload 76 C dX5_copy_74 rfl 4 rfl ?_
              refine j_if_lt 79 109 C dX5_copy_76 rfl rfl (fun c_20 => ?_) (fun c_20 => ?_)
              · replace hq := hq.1 c_20
                refine j_iconst 110 C dX5_copy_109 rfl ic_0 ?_
                refine j_istore 112 C dX5_copy_110 rfl (Nat.le_of_ble_eq_true rfl) [1, 2, 3, 4, 5, 6, 0] (lv' := [(0, .ref (h 0)), (1, .int p0), (2, .int p1), (3, .int p2), (4, .int p3), (5, .int p4), (6, .int (0 : Int32))]) rfl ?_
                refine j_iload 114 C dX5_copy_112 rfl 6 rfl ?_
                refine j_if_eq 117 144 C dX5_copy_114 rfl rfl (fun _ => ?_) (fun h9 => absurd h9 (by decide))
                refine j_aload_n 145 C dX5_copy_144 rfl 0 rfl ?_
                refine j_iconst 146 C dX5_copy_145 rfl ic_3 ?_
                refine j_callVi 149 C [] [] (fun f' v' => (wE G h f' v')) (As := [.int (3 : Int32)]) (m_X5_fails G h (3 : Int32) f v_1 hq) oX5_fails kX5_95 ⟨rfl, rfl⟩ eX5_fails ⟨Nat.le_of_ble_eq_true rfl, Nat.le_of_ble_eq_true rfl⟩ ⟨Nat.zero_le _, Nat.zero_le _⟩ (List.append_nil _).symm (fun _ _ => List.append_nil _) (fun _ _ => rfl) 0 rfl rfl rfl (Nat.le_of_ble_eq_true rfl) dX5_copy_146 rfl (fun r_21 f_22 v_23 hq => ?_)
                exact hR _ _ _ f_22 v_23 dX5_copy_149 hq
              · replace hq := hq.2 c_20
                refine j_iload 81 C dX5_copy_79 rfl 5 rfl ?_
                refine j_if_lt 84 109 C dX5_copy_81 rfl rfl (fun c_24 => ?_) (fun c_24 => ?_)
                · replace hq := hq.1 c_24
                  refine j_iconst 110 C dX5_copy_109 rfl ic_0 ?_
                  refine j_istore 112 C dX5_copy_110 rfl (Nat.le_of_ble_eq_true rfl) [1, 2, 3, 4, 5, 6, 0] (lv' := [(0, .ref (h 0)), (1, .int p0), (2, .int p1), (3, .int p2), (4, .int p3), (5, .int p4), (6, .int (0 : Int32))]) rfl ?_
                  refine j_iload 114 C dX5_copy_112 rfl 6 rfl ?_
                  refine j_if_eq 117 144 C dX5_copy_114 rfl rfl (fun _ => ?_) (fun h9 => absurd h9 (by decide))
                  refine j_aload_n 145 C dX5_copy_144 rfl 0 rfl ?_
                  refine j_iconst 146 C dX5_copy_145 rfl ic_3 ?_
                  refine j_callVi 149 C [] [] (fun f' v' => (wE G h f' v')) (As := [.int (3 : Int32)]) (m_X5_fails G h (3 : Int32) f v_1 hq) oX5_fails kX5_95 ⟨rfl, rfl⟩ eX5_fails ⟨Nat.le_of_ble_eq_true rfl, Nat.le_of_ble_eq_true rfl⟩ ⟨Nat.zero_le _, Nat.zero_le _⟩ (List.append_nil _).symm (fun _ _ => List.append_nil _) (fun _ _ => rfl) 0 rfl rfl rfl (Nat.le_of_ble_eq_true rfl) dX5_copy_146 rfl (fun r_25 f_26 v_27 hq => ?_)
                  exact hR _ _ _ f_26 v_27 dX5_copy_149 hq
                · replace hq := hq.2 c_24
                  refine j_iload_n 85 C dX5_copy_84 rfl 2 rfl ?_
                  refine j_aload_n 86 C dX5_copy_85 rfl 0 rfl ?_
                  refine j_get 89 C uX5 0 rfl rfl 3 (Nat.le_of_ble_eq_true rfl) lX5_13 (v := .ref (h 2)) rfl dX5_copy_86 rfl ?_
                  refine j_iload_n 90 C dX5_copy_89 rfl 1 rfl ?_
                  obtain ⟨hi_28, hq⟩ := hq
                  refine j_iald 91 C 2 (f := (f 1)) rfl hi_28 dX5_copy_90 rfl ?_
                  refine j_icmp_gt 94 109 C dX5_copy_91 rfl rfl (fun c_29 => ?_) (fun c_29 => ?_)
                  · replace hq := hq.1 c_29
                    refine j_iconst 110 C dX5_copy_109 rfl ic_0 ?_
                    refine j_istore 112 C dX5_copy_110 rfl (Nat.le_of_ble_eq_true rfl) [1, 2, 3, 4, 5, 6, 0] (lv' := [(0, .ref (h 0)), (1, .int p0), (2, .int p1), (3, .int p2), (4, .int p3), (5, .int p4), (6, .int (0 : Int32))]) rfl ?_
                    refine j_iload 114 C dX5_copy_112 rfl 6 rfl ?_
                    refine j_if_eq 117 144 C dX5_copy_114 rfl rfl (fun _ => ?_) (fun h9 => absurd h9 (by decide))
                    refine j_aload_n 145 C dX5_copy_144 rfl 0 rfl ?_
                    refine j_iconst 146 C dX5_copy_145 rfl ic_3 ?_
                    refine j_callVi 149 C [] [] (fun f' v' => (wE G h f' v')) (As := [.int (3 : Int32)]) (m_X5_fails G h (3 : Int32) f v_1 hq) oX5_fails kX5_95 ⟨rfl, rfl⟩ eX5_fails ⟨Nat.le_of_ble_eq_true rfl, Nat.le_of_ble_eq_true rfl⟩ ⟨Nat.zero_le _, Nat.zero_le _⟩ (List.append_nil _).symm (fun _ _ => List.append_nil _) (fun _ _ => rfl) 0 rfl rfl rfl (Nat.le_of_ble_eq_true rfl) dX5_copy_146 rfl (fun r_30 f_31 v_32 hq => ?_)
                    exact hR _ _ _ f_31 v_32 dX5_copy_149 hq
                  · replace hq := hq.2 c_29
                    refine j_iload 96 C dX5_copy_94 rfl 4 rfl ?_
                    refine j_aload_n 97 C dX5_copy_96 rfl 0 rfl ?_
                    refine j_get 100 C uX5 0 rfl rfl 3 (Nat.le_of_ble_eq_true rfl) lX5_13 (v := .ref (h 2)) rfl dX5_copy_97 rfl ?_
                    refine j_iload_n 101 C dX5_copy_100 rfl 3 rfl ?_
                    obtain ⟨hi_33, hq⟩ := hq
                    refine j_iald 102 C 2 (f := (f 1)) rfl hi_33 dX5_copy_101 rfl ?_
                    refine j_icmp_gt 105 109 C dX5_copy_102 rfl rfl (fun c_34 => ?_) (fun c_34 => ?_)
                    · replace hq := hq.1 c_34
                      refine j_iconst 110 C dX5_copy_109 rfl ic_0 ?_
                      refine j_istore 112 C dX5_copy_110 rfl (Nat.le_of_ble_eq_true rfl) [1, 2, 3, 4, 5, 6, 0] (lv' := [(0, .ref (h 0)), (1, .int p0), (2, .int p1), (3, .int p2), (4, .int p3), (5, .int p4), (6, .int (0 : Int32))]) rfl ?_
                      refine j_iload 114 C dX5_copy_112 rfl 6 rfl ?_
                      refine j_if_eq 117 144 C dX5_copy_114 rfl rfl (fun _ => ?_) (fun h9 => absurd h9 (by decide))
                      refine j_aload_n 145 C dX5_copy_144 rfl 0 rfl ?_
                      refine j_iconst 146 C dX5_copy_145 rfl ic_3 ?_
                      refine j_callVi 149 C [] [] (fun f' v' => (wE G h f' v')) (As := [.int (3 : Int32)]) (m_X5_fails G h (3 : Int32) f v_1 hq) oX5_fails kX5_95 ⟨rfl, rfl⟩ eX5_fails ⟨Nat.le_of_ble_eq_true rfl, Nat.le_of_ble_eq_true rfl⟩ ⟨Nat.zero_le _, Nat.zero_le _⟩ (List.append_nil _).symm (fun _ _ => List.append_nil _) (fun _ _ => rfl) 0 rfl rfl rfl (Nat.le_of_ble_eq_true rfl) dX5_copy_146 rfl (fun r_35 f_36 v_37 hq => ?_)
                      exact hR _ _ _ f_36 v_37 dX5_copy_149 hq
                    · replace hq := hq.2 c_34
                      refine j_iconst 106 C dX5_copy_105 rfl ic_1 ?_
                      refine j_goto 110 C dX5_copy_106 rfl ?_
                      refine j_istore 112 C dX5_copy_110 rfl (Nat.le_of_ble_eq_true rfl) [1, 2, 3, 4, 5, 6, 0] (lv' := [(0, .ref (h 0)), (1, .int p0), (2, .int p1), (3, .int p2), (4, .int p3), (5, .int p4), (6, .int (1 : Int32))]) rfl ?_
                      refine j_iload 114 C dX5_copy_112 rfl 6 rfl ?_
                      refine j_if_eq 117 144 C dX5_copy_114 rfl rfl (fun h9 => absurd h9 (by decide)) (fun _ => ?_)
                      refine j_iload 119 C dX5_copy_117 rfl 5 rfl ?_
                      refine j_aload_n 120 C dX5_copy_119 rfl 0 rfl ?_
                      refine j_get 123 C uX5 0 rfl rfl 3 (Nat.le_of_ble_eq_true rfl) lX5_13 (v := .ref (h 2)) rfl dX5_copy_120 rfl ?_
                      refine j_iload_n 124 C dX5_copy_123 rfl 1 rfl ?_
                      obtain ⟨hi_38, hq⟩ := hq
                      refine j_iald 125 C 2 (f := (f 1)) rfl hi_38 dX5_copy_124 rfl ?_
                      refine j_iload_n 126 C dX5_copy_125 rfl 2 rfl ?_
                      refine j_isub 127 C dX5_copy_126 rfl ?_
                      refine j_icmp_gt 130 144 C dX5_copy_127 rfl rfl (fun c_39 => ?_) (fun c_39 => ?_)
                      · replace hq := hq.1 c_39
                        refine j_aload_n 145 C dX5_copy_144 rfl 0 rfl ?_
                        refine j_iconst 146 C dX5_copy_145 rfl ic_3 ?_
                        refine j_callVi 149 C [] [] (fun f' v' => (wE G h f' v')) (As := [.int (3 : Int32)]) (m_X5_fails G h (3 : Int32) f v_1 hq) oX5_fails kX5_95 ⟨rfl, rfl⟩ eX5_fails ⟨Nat.le_of_ble_eq_true rfl, Nat.le_of_ble_eq_true rfl⟩ ⟨Nat.zero_le _, Nat.zero_le _⟩ (List.append_nil _).symm (fun _ _ => List.append_nil _) (fun _ _ => rfl) 0 rfl rfl rfl (Nat.le_of_ble_eq_true rfl) dX5_copy_146 rfl (fun r_40 f_41 v_42 hq => ?_)
                        exact hR _ _ _ f_41 v_42 dX5_copy_149 hq
                      · replace hq := hq.2 c_39
                        refine j_iload 132 C dX5_copy_130 rfl 5 rfl ?_
                        refine j_aload_n 133 C dX5_copy_132 rfl 0 rfl ?_
                        refine j_get 136 C uX5 0 rfl rfl 3 (Nat.le_of_ble_eq_true rfl) lX5_13 (v := .ref (h 2)) rfl dX5_copy_133 rfl ?_
                        refine j_iload_n 137 C dX5_copy_136 rfl 3 rfl ?_
                        obtain ⟨hi_43, hq⟩ := hq
                        refine j_iald 138 C 2 (f := (f 1)) rfl hi_43 dX5_copy_137 rfl ?_
                        refine j_iload 140 C dX5_copy_138 rfl 4 rfl ?_
                        refine j_isub 141 C dX5_copy_140 rfl ?_
                        refine j_icmp_le 144 150 C dX5_copy_141 rfl rfl (fun c_44 => ?_) (fun c_44 => ?_)
                        · replace hq := hq.1 c_44
                          refine j_iload_n 151 C dX5_copy_150 rfl 2 rfl ?_
                          refine j_iload 153 C dX5_copy_151 rfl 4 rfl ?_
                          refine j_icmp_ge 156 160 C dX5_copy_153 rfl rfl (fun c_45 => ?_) (fun c_45 => ?_)
                          · replace hq := hq.1 c_45
                            refine j_iconst 161 C dX5_copy_160 rfl ic_0 ?_
                            refine j_istore 163 C dX5_copy_161 rfl (Nat.le_of_ble_eq_true rfl) [1, 2, 3, 4, 5, 6, 7, 0] (lv' := [(0, .ref (h 0)), (1, .int p0), (2, .int p1), (3, .int p2), (4, .int p3), (5, .int p4), (6, .int (1 : Int32)), (7, .int (0 : Int32))]) rfl ?_
                            refine j_iconst 164 C dX5_copy_163 rfl ic_0 ?_
                            refine j_istore 166 C dX5_copy_164 rfl (Nat.le_of_ble_eq_true rfl) [1, 2, 3, 4, 5, 6, 7, 8, 0] (lv' := [(0, .ref (h 0)), (1, .int p0), (2, .int p1), (3, .int p2), (4, .int p3), (5, .int p4), (6, .int (1 : Int32)), (7, .int (0 : Int32)), (8, .int (0 : Int32))]) rfl ?_
                            obtain ⟨n_57, hq⟩ := hq
                            refine t_X5_copy_L166 C ?_ n_57 _ _ _ hq
                            · intro x_58 f_59 v_60 hq
                              refine j_iload 229 C dX5_copy_227 rfl 5 rfl ?_
                              exact hR _ _ _ f_59 v_60 dX5_copy_229 hq
                          · replace hq := hq.2 c_45
                            refine j_iconst 157 C dX5_copy_156 rfl ic_1 ?_
                            refine j_goto 161 C dX5_copy_157 rfl ?_
                            refine j_istore 163 C dX5_copy_161 rfl (Nat.le_of_ble_eq_true rfl) [1, 2, 3, 4, 5, 6, 7, 0] (lv' := [(0, .ref (h 0)), (1, .int p0), (2, .int p1), (3, .int p2), (4, .int p3), (5, .int p4), (6, .int (1 : Int32)), (7, .int (1 : Int32))]) rfl ?_
                            refine j_iconst 164 C dX5_copy_163 rfl ic_0 ?_
                            refine j_istore 166 C dX5_copy_164 rfl (Nat.le_of_ble_eq_true rfl) [1, 2, 3, 4, 5, 6, 7, 8, 0] (lv' := [(0, .ref (h 0)), (1, .int p0), (2, .int p1), (3, .int p2), (4, .int p3), (5, .int p4), (6, .int (1 : Int32)), (7, .int (1 : Int32)), (8, .int (0 : Int32))]) rfl ?_
                            obtain ⟨n_61, hq⟩ := hq
                            refine t_X5_copy_L166 C ?_ n_61 _ _ _ hq
                            · intro x_62 f_63 v_64 hq
                              refine j_iload 229 C dX5_copy_227 rfl 5 rfl ?_
                              exact hR _ _ _ f_63 v_64 dX5_copy_229 hq
                        · replace hq := hq.2 c_44
                          refine j_aload_n 145 C dX5_copy_144 rfl 0 rfl ?_
                          refine j_iconst 146 C dX5_copy_145 rfl ic_3 ?_
                          refine j_callVi 149 C [] [] (fun f' v' => (wE G h f' v')) (As := [.int (3 : Int32)]) (m_X5_fails G h (3 : Int32) f v_1 hq) oX5_fails kX5_95 ⟨rfl, rfl⟩ eX5_fails ⟨Nat.le_of_ble_eq_true rfl, Nat.le_of_ble_eq_true rfl⟩ ⟨Nat.zero_le _, Nat.zero_le _⟩ (List.append_nil _).symm (fun _ _ => List.append_nil _) (fun _ _ => rfl) 0 rfl rfl rfl (Nat.le_of_ble_eq_true rfl) dX5_copy_146 rfl (fun r_65 f_66 v_67 hq => ?_)
                          exact hR _ _ _ f_66 v_67 dX5_copy_149 hq
          · replace hq := hq.2 c_15
            refine j_aload_n 65 C dX5_copy_64 rfl 0 rfl ?_
            refine j_iconst 66 C dX5_copy_65 rfl ic_2 ?_
            refine j_callVi 69 C [] [] (fun f' v' => (wE G h f' v')) (As := [.int (2 : Int32)]) (m_X5_fails G h (2 : Int32) f v_1 hq) oX5_fails kX5_95 ⟨rfl, rfl⟩ eX5_fails ⟨Nat.le_of_ble_eq_true rfl, Nat.le_of_ble_eq_true rfl⟩ ⟨Nat.zero_le _, Nat.zero_le _⟩ (List.append_nil _).symm (fun _ _ => List.append_nil _) (fun _ _ => rfl) 0 rfl rfl rfl (Nat.le_of_ble_eq_true rfl) dX5_copy_66 rfl (fun r_68 f_69 v_70 hq => ?_)
            exact hR _ _ _ f_69 v_70 dX5_copy_69 hq
        · replace hq := hq.2 c_12
          refine j_aload_n 44 C dX5_copy_43 rfl 0 rfl ?_
          refine j_iconst 45 C dX5_copy_44 rfl ic_1 ?_
          refine j_callVi 48 C [] [] (fun f' v' => (wE G h f' v')) (As := [.int (1 : Int32)]) (m_X5_fails G h (1 : Int32) f v_1 hq) oX5_fails kX5_95 ⟨rfl, rfl⟩ eX5_fails ⟨Nat.le_of_ble_eq_true rfl, Nat.le_of_ble_eq_true rfl⟩ ⟨Nat.zero_le _, Nat.zero_le _⟩ (List.append_nil _).symm (fun _ _ => List.append_nil _) (fun _ _ => rfl) 0 rfl rfl rfl (Nat.le_of_ble_eq_true rfl) dX5_copy_45 rfl (fun r_71 f_72 v_73 hq => ?_)
          exact hR _ _ _ f_72 v_73 dX5_copy_48 hq
    · replace hq := hq.2 c_5
      refine j_iconst 20 C dX5_copy_19 rfl ic_m1 ?_
      exact hR _ _ _ f v_1 dX5_copy_20 hq
def Q_X5_begins (p0 : Int32) (f : FF) (v : VV) (post : FF → VV → Prop) : Prop := ∀ v_1 : VV, v_1 = fu v 1 (((31 : Int32) * (v 1)) + p0) → (post f v_1)
set_option maxRecDepth 100000 in
set_option maxHeartbeats 4000000 in
theorem m_X5_begins {l : Launch} (G : Gx) (h : Nat → Nat) (p0 : Int32) (f : FF) (v : VV) {post : FF → VV → Prop} (hq : Q_X5_begins p0 f v post) : MetV l yX5_begins (gC yX5_begins cX5_begins 2 none) rmX5_begins G [.ref (h 0), .int p0] (wE G h) f v post := by
  refine met_v (own := RX5) (by decide) rfl (Nat.le_of_ble_eq_true rfl) (fun κ hκ C hR => ?_)
  unfold Q_X5_begins at hq
  subst hκ
  show J κ 0 0 (wE G h f v) 0 [(0, .ref (h 0)), (1, .int p0)] []
  refine j_aload_n 1 C dX5_begins_0 rfl 0 rfl ?_
  refine j_bipush 3 C dX5_begins_1 rfl bc_31 ?_
  refine j_aload_n 4 C dX5_begins_3 rfl 0 rfl ?_
  refine j_get 7 C uX5 0 rfl rfl 1 (Nat.le_of_ble_eq_true rfl) lX5_246 (v := .int (v 1)) rfl dX5_begins_4 rfl ?_
  refine j_imul 8 C dX5_begins_7 rfl ?_
  refine j_iload_n 9 C dX5_begins_8 rfl 1 rfl ?_
  refine j_iadd 10 C dX5_begins_9 rfl ?_
  obtain ⟨v_1, ev_1⟩ : ∃ y : VV, y = fu v 1 (((31 : Int32) * (v 1)) + p0) := ⟨_, rfl⟩
  replace hq := hq v_1 ev_1
  refine j_put 13 C uX5 tyX5 tyX5_ok nmX5 0 rfl rfl 1 (Nat.le_of_ble_eq_true rfl) lX5_246 rfl rfl (Nat.le_of_ble_eq_true rfl) dX5_begins_10 rfl (ws' := (wE G h f v_1)) (by subst ev_1; rfl) ?_
  exact hR _ _ _ _ dX5_begins_13 hq
def Q_X5_tell (p0 : Int32) (f : FF) (v : VV) (post : Int32 → FF → VV → Prop) : Prop := Q_X5_isTest p0 f v (fun r_1 => (((¬ r_1 = 0 → (vp_in p0 7 ∧ (∀ x_4 : Int32, x_4 = ((f 7) (p0).toNatClampNeg) → (vp_in p0 7 ∧ (((((f 6) (p0).toNatClampNeg) = (1 : Int32) → (Q_X5_begins (2 : Int32) f v (fun f_8 v_9 => (Q_X5_begins (1 : Int32) f_8 v_9 (fun f_11 v_12 => (post (x_4 + (100 : Int32)) f_11 v_12)))))) ∧ (¬ ((f 6) (p0).toNatClampNeg) = (1 : Int32) → (((((f 6) (p0).toNatClampNeg) = (2 : Int32) → (Q_X5_begins (3 : Int32) f v (fun f_15 v_16 => (Q_X5_begins (2 : Int32) f_15 v_16 (fun f_18 v_19 => (Q_X5_begins (1 : Int32) f_18 v_19 (fun f_21 v_22 => (Q_X5_begins (1 : Int32) f_21 v_22 (fun f_24 v_25 => (post (((2 : Int32) * x_4) + (100 : Int32)) f_24 v_25)))))))))) ∧ (¬ ((f 6) (p0).toNatClampNeg) = (2 : Int32) → (Q_X5_begins (1 : Int32) f v (fun f_27 v_28 => (post x_4 f_27 v_28))))))))))))) ∧ (r_1 = 0 → (post (-1 : Int32) f v)))))
set_option maxRecDepth 100000 in
set_option maxHeartbeats 4000000 in
theorem m_X5_tell {l : Launch} (G : Gx) (h : Nat → Nat) (p0 : Int32) (f : FF) (v : VV) {post : Int32 → FF → VV → Prop} (hq : Q_X5_tell p0 f v post) : MetI l yX5_tell (gC yX5_tell cX5_tell 3 (some .int)) rmX5_tell G [.ref (h 0), .int p0] (wE G h) f v post := by
  refine met_i (own := RX5) (by decide) rfl (Nat.le_of_ble_eq_true rfl) (fun κ hκ C hR => ?_)
  unfold Q_X5_tell at hq
  subst hκ
  show J κ 0 0 (wE G h f v) 0 [(0, .ref (h 0)), (1, .int p0)] []
  refine j_aload_n 1 C dX5_tell_0 rfl 0 rfl ?_
  refine j_iload_n 2 C dX5_tell_1 rfl 1 rfl ?_
  refine j_callVi_ro 5 C [] [] (As := [.int p0]) (m_X5_isTest G h p0 f v hq) oX5_isTest kX5_156 ⟨rfl, rfl⟩ eX5_isTest ⟨Nat.le_of_ble_eq_true rfl, Nat.le_of_ble_eq_true rfl⟩ ⟨Nat.zero_le _, Nat.zero_le _⟩ (List.append_nil _).symm (fun _ _ => rfl) 0 rfl rfl rfl (Nat.le_of_ble_eq_true rfl) dX5_tell_2 rfl (fun r_1 hq => ?_)
  refine j_if_ne 8 10 C dX5_tell_5 rfl rfl (fun c_2 => ?_) (fun c_2 => ?_)
  · replace hq := hq.1 c_2
    refine j_aload_n 11 C dX5_tell_10 rfl 0 rfl ?_
    refine j_get 14 C uX5 0 rfl rfl 11 (Nat.le_of_ble_eq_true rfl) lX5_31 (v := .ref (h 8)) rfl dX5_tell_11 rfl ?_
    refine j_iload_n 15 C dX5_tell_14 rfl 1 rfl ?_
    obtain ⟨hi_3, hq⟩ := hq
    refine j_iald 16 C 8 (f := (f 7)) rfl hi_3 dX5_tell_15 rfl ?_
    refine J.topi (fun x_4 ex_4 => ?_)
    replace hq := hq x_4 ex_4
    refine j_istore_n 17 C dX5_tell_16 rfl (Nat.le_of_ble_eq_true rfl) [1, 2, 0] (lv' := [(0, .ref (h 0)), (1, .int p0), (2, .int x_4)]) rfl ?_
    refine j_aload_n 18 C dX5_tell_17 rfl 0 rfl ?_
    refine j_get 21 C uX5 0 rfl rfl 10 (Nat.le_of_ble_eq_true rfl) lX5_28 (v := .ref (h 7)) rfl dX5_tell_18 rfl ?_
    refine j_iload_n 22 C dX5_tell_21 rfl 1 rfl ?_
    obtain ⟨hi_5, hq⟩ := hq
    refine j_iald 23 C 7 (f := (f 6)) rfl hi_5 dX5_tell_22 rfl ?_
    by_cases c_6 : ((f 6) (p0).toNatClampNeg) = (1 : Int32)
    · replace hq := hq.1 c_6
      refine j_lookup 48 C dX5_tell_23 (by decide) (off := 25) (by rw [c_6] <;> decide) rfl ?_
      refine j_aload_n 49 C dX5_tell_48 rfl 0 rfl ?_
      refine j_iconst 50 C dX5_tell_49 rfl ic_2 ?_
      refine j_callVv 53 C [] [] (fun f' v' => (wE G h f' v')) (As := [.int (2 : Int32)]) (m_X5_begins G h (2 : Int32) f v hq) oX5_begins kX5_249 ⟨rfl, rfl⟩ eX5_begins ⟨Nat.le_of_ble_eq_true rfl, Nat.le_of_ble_eq_true rfl⟩ ⟨Nat.zero_le _, Nat.zero_le _⟩ (List.append_nil _).symm (fun _ _ => List.append_nil _) (fun _ _ => rfl) 0 rfl rfl rfl (Nat.le_of_ble_eq_true rfl) dX5_tell_50 rfl (fun f_8 v_9 hq => ?_)
      refine j_aload_n 54 C dX5_tell_53 rfl 0 rfl ?_
      refine j_iconst 55 C dX5_tell_54 rfl ic_1 ?_
      refine j_callVv 58 C [] [] (fun f' v' => (wE G h f' v')) (As := [.int (1 : Int32)]) (m_X5_begins G h (1 : Int32) f_8 v_9 hq) oX5_begins kX5_249 ⟨rfl, rfl⟩ eX5_begins ⟨Nat.le_of_ble_eq_true rfl, Nat.le_of_ble_eq_true rfl⟩ ⟨Nat.zero_le _, Nat.zero_le _⟩ (List.append_nil _).symm (fun _ _ => List.append_nil _) (fun _ _ => rfl) 0 rfl rfl rfl (Nat.le_of_ble_eq_true rfl) dX5_tell_55 rfl (fun f_11 v_12 hq => ?_)
      refine j_iload_n 59 C dX5_tell_58 rfl 2 rfl ?_
      refine j_bipush 61 C dX5_tell_59 rfl bc_100 ?_
      refine j_iadd 62 C dX5_tell_61 rfl ?_
      exact hR _ _ _ f_11 v_12 dX5_tell_62 hq
    · replace hq := hq.2 c_6
      by_cases c_13 : ((f 6) (p0).toNatClampNeg) = (2 : Int32)
      · replace hq := hq.1 c_13
        refine j_lookup 63 C dX5_tell_23 (by decide) (off := 40) (by rw [c_13] <;> decide) rfl ?_
        refine j_aload_n 64 C dX5_tell_63 rfl 0 rfl ?_
        refine j_iconst 65 C dX5_tell_64 rfl ic_3 ?_
        refine j_callVv 68 C [] [] (fun f' v' => (wE G h f' v')) (As := [.int (3 : Int32)]) (m_X5_begins G h (3 : Int32) f v hq) oX5_begins kX5_249 ⟨rfl, rfl⟩ eX5_begins ⟨Nat.le_of_ble_eq_true rfl, Nat.le_of_ble_eq_true rfl⟩ ⟨Nat.zero_le _, Nat.zero_le _⟩ (List.append_nil _).symm (fun _ _ => List.append_nil _) (fun _ _ => rfl) 0 rfl rfl rfl (Nat.le_of_ble_eq_true rfl) dX5_tell_65 rfl (fun f_15 v_16 hq => ?_)
        refine j_aload_n 69 C dX5_tell_68 rfl 0 rfl ?_
        refine j_iconst 70 C dX5_tell_69 rfl ic_2 ?_
        refine j_callVv 73 C [] [] (fun f' v' => (wE G h f' v')) (As := [.int (2 : Int32)]) (m_X5_begins G h (2 : Int32) f_15 v_16 hq) oX5_begins kX5_249 ⟨rfl, rfl⟩ eX5_begins ⟨Nat.le_of_ble_eq_true rfl, Nat.le_of_ble_eq_true rfl⟩ ⟨Nat.zero_le _, Nat.zero_le _⟩ (List.append_nil _).symm (fun _ _ => List.append_nil _) (fun _ _ => rfl) 0 rfl rfl rfl (Nat.le_of_ble_eq_true rfl) dX5_tell_70 rfl (fun f_18 v_19 hq => ?_)
        refine j_aload_n 74 C dX5_tell_73 rfl 0 rfl ?_
        refine j_iconst 75 C dX5_tell_74 rfl ic_1 ?_
        refine j_callVv 78 C [] [] (fun f' v' => (wE G h f' v')) (As := [.int (1 : Int32)]) (m_X5_begins G h (1 : Int32) f_18 v_19 hq) oX5_begins kX5_249 ⟨rfl, rfl⟩ eX5_begins ⟨Nat.le_of_ble_eq_true rfl, Nat.le_of_ble_eq_true rfl⟩ ⟨Nat.zero_le _, Nat.zero_le _⟩ (List.append_nil _).symm (fun _ _ => List.append_nil _) (fun _ _ => rfl) 0 rfl rfl rfl (Nat.le_of_ble_eq_true rfl) dX5_tell_75 rfl (fun f_21 v_22 hq => ?_)
        refine j_aload_n 79 C dX5_tell_78 rfl 0 rfl ?_
        refine j_iconst 80 C dX5_tell_79 rfl ic_1 ?_
        refine j_callVv 83 C [] [] (fun f' v' => (wE G h f' v')) (As := [.int (1 : Int32)]) (m_X5_begins G h (1 : Int32) f_21 v_22 hq) oX5_begins kX5_249 ⟨rfl, rfl⟩ eX5_begins ⟨Nat.le_of_ble_eq_true rfl, Nat.le_of_ble_eq_true rfl⟩ ⟨Nat.zero_le _, Nat.zero_le _⟩ (List.append_nil _).symm (fun _ _ => List.append_nil _) (fun _ _ => rfl) 0 rfl rfl rfl (Nat.le_of_ble_eq_true rfl) dX5_tell_80 rfl (fun f_24 v_25 hq => ?_)
        refine j_iconst 84 C dX5_tell_83 rfl ic_2 ?_
        refine j_iload_n 85 C dX5_tell_84 rfl 2 rfl ?_
        refine j_imul 86 C dX5_tell_85 rfl ?_
        refine j_bipush 88 C dX5_tell_86 rfl bc_100 ?_
        refine j_iadd 89 C dX5_tell_88 rfl ?_
        exact hR _ _ _ f_24 v_25 dX5_tell_89 hq
      · replace hq := hq.2 c_13
        have zc_6 := ne_toInt (z := 1) (by decide) c_6
        have zc_13 := ne_toInt (z := 2) (by decide) c_13
        refine j_lookup 90 C dX5_tell_23 (by decide) (off := 67) (by simp only [Op.lookupswitch.offset_cons, Op.lookupswitch.offset_nil]; rw [if_neg (fun e9 => zc_6 e9.symm)]; rw [if_neg (fun e9 => zc_13 e9.symm)]) rfl ?_
        refine j_aload_n 91 C dX5_tell_90 rfl 0 rfl ?_
        refine j_iconst 92 C dX5_tell_91 rfl ic_1 ?_
        refine j_callVv 95 C [] [] (fun f' v' => (wE G h f' v')) (As := [.int (1 : Int32)]) (m_X5_begins G h (1 : Int32) f v hq) oX5_begins kX5_249 ⟨rfl, rfl⟩ eX5_begins ⟨Nat.le_of_ble_eq_true rfl, Nat.le_of_ble_eq_true rfl⟩ ⟨Nat.zero_le _, Nat.zero_le _⟩ (List.append_nil _).symm (fun _ _ => List.append_nil _) (fun _ _ => rfl) 0 rfl rfl rfl (Nat.le_of_ble_eq_true rfl) dX5_tell_92 rfl (fun f_27 v_28 hq => ?_)
        refine j_iload_n 96 C dX5_tell_95 rfl 2 rfl ?_
        exact hR _ _ _ f_27 v_28 dX5_tell_96 hq
  · replace hq := hq.2 c_2
    refine j_iconst 9 C dX5_tell_8 rfl ic_m1 ?_
    exact hR _ _ _ f v dX5_tell_9 hq
def Q_X5_log (p0 : Int32) (f : FF) (v : VV) (post : Int32 → FF → VV → Prop) : Prop := Q_X5_isTest p0 f v (fun r_1 => (((¬ r_1 = 0 → (vp_in p0 7 ∧ (((¬ ((f 6) (p0).toNatClampNeg) = (2 : Int32) → (Q_X5_begins (4 : Int32) f v (fun f_6 v_7 => (vp_in p0 7 ∧ (((¬ ((f_6 6) (p0).toNatClampNeg) = (2 : Int32) → (Q_X5_findKillers  f_6 v_7 (fun f_11 v_12 => (Q_X5_killedBy p0 f_11 v_12 (fun r_13 => (Q_X5_size r_13 (fun r_14 => (post r_14 f_11 v_12)))))))) ∧ (((f_6 6) (p0).toNatClampNeg) = (2 : Int32) → (post (60 : Int32) f_6 v_7)))))))) ∧ (((f 6) (p0).toNatClampNeg) = (2 : Int32) → (Q_X5_begins (5 : Int32) f v (fun f_16 v_17 => (vp_in p0 7 ∧ (((¬ ((f_16 6) (p0).toNatClampNeg) = (2 : Int32) → (Q_X5_findKillers  f_16 v_17 (fun f_21 v_22 => (Q_X5_killedBy p0 f_21 v_22 (fun r_23 => (Q_X5_size r_23 (fun r_24 => (post r_24 f_21 v_22)))))))) ∧ (((f_16 6) (p0).toNatClampNeg) = (2 : Int32) → (post (60 : Int32) f_16 v_17)))))))))))) ∧ (r_1 = 0 → (post (-1 : Int32) f v)))))
set_option maxRecDepth 100000 in
set_option maxHeartbeats 4000000 in
theorem m_X5_log {l : Launch} (G : Gx) (h : Nat → Nat) (p0 : Int32) (f : FF) (v : VV) {post : Int32 → FF → VV → Prop} (hq : Q_X5_log p0 f v post) : MetI l yX5_log (gC yX5_log cX5_log 2 (some .int)) rmX5_log G [.ref (h 0), .int p0] (wE G h) f v post := by
  refine met_i (own := RX5) (by decide) rfl (Nat.le_of_ble_eq_true rfl) (fun κ hκ C hR => ?_)
  unfold Q_X5_log at hq
  subst hκ
  show J κ 0 0 (wE G h f v) 0 [(0, .ref (h 0)), (1, .int p0)] []
  refine j_aload_n 1 C dX5_log_0 rfl 0 rfl ?_
  refine j_iload_n 2 C dX5_log_1 rfl 1 rfl ?_
  refine j_callVi_ro 5 C [] [] (As := [.int p0]) (m_X5_isTest G h p0 f v hq) oX5_isTest kX5_156 ⟨rfl, rfl⟩ eX5_isTest ⟨Nat.le_of_ble_eq_true rfl, Nat.le_of_ble_eq_true rfl⟩ ⟨Nat.zero_le _, Nat.zero_le _⟩ (List.append_nil _).symm (fun _ _ => rfl) 0 rfl rfl rfl (Nat.le_of_ble_eq_true rfl) dX5_log_2 rfl (fun r_1 hq => ?_)
  refine j_if_ne 8 10 C dX5_log_5 rfl rfl (fun c_2 => ?_) (fun c_2 => ?_)
  · replace hq := hq.1 c_2
    refine j_aload_n 11 C dX5_log_10 rfl 0 rfl ?_
    refine j_aload_n 12 C dX5_log_11 rfl 0 rfl ?_
    refine j_get 15 C uX5 0 rfl rfl 10 (Nat.le_of_ble_eq_true rfl) lX5_28 (v := .ref (h 7)) rfl dX5_log_12 rfl ?_
    refine j_iload_n 16 C dX5_log_15 rfl 1 rfl ?_
    obtain ⟨hi_3, hq⟩ := hq
    refine j_iald 17 C 7 (f := (f 6)) rfl hi_3 dX5_log_16 rfl ?_
    refine j_iconst 18 C dX5_log_17 rfl ic_2 ?_
    refine j_icmp_ne 21 25 C dX5_log_18 rfl rfl (fun c_4 => ?_) (fun c_4 => ?_)
    · replace hq := hq.1 c_4
      refine j_iconst 26 C dX5_log_25 rfl ic_4 ?_
      refine j_callVv 29 C [] [] (fun f' v' => (wE G h f' v')) (As := [.int (4 : Int32)]) (m_X5_begins G h (4 : Int32) f v hq) oX5_begins kX5_249 ⟨rfl, rfl⟩ eX5_begins ⟨Nat.le_of_ble_eq_true rfl, Nat.le_of_ble_eq_true rfl⟩ ⟨Nat.zero_le _, Nat.zero_le _⟩ (List.append_nil _).symm (fun _ _ => List.append_nil _) (fun _ _ => rfl) 0 rfl rfl rfl (Nat.le_of_ble_eq_true rfl) dX5_log_26 rfl (fun f_6 v_7 hq => ?_)
      refine j_aload_n 30 C dX5_log_29 rfl 0 rfl ?_
      refine j_get 33 C uX5 0 rfl rfl 10 (Nat.le_of_ble_eq_true rfl) lX5_28 (v := .ref (h 7)) rfl dX5_log_30 rfl ?_
      refine j_iload_n 34 C dX5_log_33 rfl 1 rfl ?_
      obtain ⟨hi_8, hq⟩ := hq
      refine j_iald 35 C 7 (f := (f_6 6)) rfl hi_8 dX5_log_34 rfl ?_
      refine j_iconst 36 C dX5_log_35 rfl ic_2 ?_
      refine j_icmp_ne 39 42 C dX5_log_36 rfl rfl (fun c_9 => ?_) (fun c_9 => ?_)
      · replace hq := hq.1 c_9
        refine j_aload_n 43 C dX5_log_42 rfl 0 rfl ?_
        refine j_callVv 46 C [] [] (fun f' v' => (wE G h f' v')) (As := []) (m_X5_findKillers G h f_6 v_7 hq) oX5_findKillers kX5_162 ⟨rfl, rfl⟩ eX5_findKillers ⟨Nat.le_of_ble_eq_true rfl, Nat.le_of_ble_eq_true rfl⟩ ⟨Nat.zero_le _, Nat.zero_le _⟩ (List.append_nil _).symm (fun _ _ => List.append_nil _) (fun _ _ => rfl) 0 rfl rfl rfl (Nat.le_of_ble_eq_true rfl) dX5_log_43 rfl (fun f_11 v_12 hq => ?_)
        refine j_aload_n 47 C dX5_log_46 rfl 0 rfl ?_
        refine j_iload_n 48 C dX5_log_47 rfl 1 rfl ?_
        refine j_callVi_ro 51 C [] [] (As := [.int p0]) (m_X5_killedBy G h p0 f_11 v_12 hq) oX5_killedBy kX5_165 ⟨rfl, rfl⟩ eX5_killedBy ⟨Nat.le_of_ble_eq_true rfl, Nat.le_of_ble_eq_true rfl⟩ ⟨Nat.zero_le _, Nat.zero_le _⟩ (List.append_nil _).symm (fun _ _ => rfl) 0 rfl rfl rfl (Nat.le_of_ble_eq_true rfl) dX5_log_48 rfl (fun r_13 hq => ?_)
        refine j_callSi 54 C [] (wE G h f_11 v_12) (fun _ _ => (wE G h f_11 v_12)) (As := [.int r_13]) (m_X5_size G r_13 hq) oX5_size kX5_183 ⟨rfl, rfl⟩ eX5_size ⟨Nat.le_of_ble_eq_true rfl, Nat.le_of_ble_eq_true rfl⟩ ⟨Nat.zero_le _, Nat.zero_le _⟩ rfl (fun _ _ => rfl) (fun _ _ => rfl) rfl (Nat.le_of_ble_eq_true rfl) dX5_log_51 rfl (fun r_14 _ _ hq => ?_)
        exact hR _ _ _ f_11 v_12 dX5_log_54 hq
      · replace hq := hq.2 c_9
        refine j_bipush 41 C dX5_log_39 rfl bc_60 ?_
        exact hR _ _ _ f_6 v_7 dX5_log_41 hq
    · replace hq := hq.2 c_4
      refine j_iconst 22 C dX5_log_21 rfl ic_5 ?_
      refine j_goto 26 C dX5_log_22 rfl ?_
      refine j_callVv 29 C [] [] (fun f' v' => (wE G h f' v')) (As := [.int (5 : Int32)]) (m_X5_begins G h (5 : Int32) f v hq) oX5_begins kX5_249 ⟨rfl, rfl⟩ eX5_begins ⟨Nat.le_of_ble_eq_true rfl, Nat.le_of_ble_eq_true rfl⟩ ⟨Nat.zero_le _, Nat.zero_le _⟩ (List.append_nil _).symm (fun _ _ => List.append_nil _) (fun _ _ => rfl) 0 rfl rfl rfl (Nat.le_of_ble_eq_true rfl) dX5_log_26 rfl (fun f_16 v_17 hq => ?_)
      refine j_aload_n 30 C dX5_log_29 rfl 0 rfl ?_
      refine j_get 33 C uX5 0 rfl rfl 10 (Nat.le_of_ble_eq_true rfl) lX5_28 (v := .ref (h 7)) rfl dX5_log_30 rfl ?_
      refine j_iload_n 34 C dX5_log_33 rfl 1 rfl ?_
      obtain ⟨hi_18, hq⟩ := hq
      refine j_iald 35 C 7 (f := (f_16 6)) rfl hi_18 dX5_log_34 rfl ?_
      refine j_iconst 36 C dX5_log_35 rfl ic_2 ?_
      refine j_icmp_ne 39 42 C dX5_log_36 rfl rfl (fun c_19 => ?_) (fun c_19 => ?_)
      · replace hq := hq.1 c_19
        refine j_aload_n 43 C dX5_log_42 rfl 0 rfl ?_
        refine j_callVv 46 C [] [] (fun f' v' => (wE G h f' v')) (As := []) (m_X5_findKillers G h f_16 v_17 hq) oX5_findKillers kX5_162 ⟨rfl, rfl⟩ eX5_findKillers ⟨Nat.le_of_ble_eq_true rfl, Nat.le_of_ble_eq_true rfl⟩ ⟨Nat.zero_le _, Nat.zero_le _⟩ (List.append_nil _).symm (fun _ _ => List.append_nil _) (fun _ _ => rfl) 0 rfl rfl rfl (Nat.le_of_ble_eq_true rfl) dX5_log_43 rfl (fun f_21 v_22 hq => ?_)
        refine j_aload_n 47 C dX5_log_46 rfl 0 rfl ?_
        refine j_iload_n 48 C dX5_log_47 rfl 1 rfl ?_
        refine j_callVi_ro 51 C [] [] (As := [.int p0]) (m_X5_killedBy G h p0 f_21 v_22 hq) oX5_killedBy kX5_165 ⟨rfl, rfl⟩ eX5_killedBy ⟨Nat.le_of_ble_eq_true rfl, Nat.le_of_ble_eq_true rfl⟩ ⟨Nat.zero_le _, Nat.zero_le _⟩ (List.append_nil _).symm (fun _ _ => rfl) 0 rfl rfl rfl (Nat.le_of_ble_eq_true rfl) dX5_log_48 rfl (fun r_23 hq => ?_)
        refine j_callSi 54 C [] (wE G h f_21 v_22) (fun _ _ => (wE G h f_21 v_22)) (As := [.int r_23]) (m_X5_size G r_23 hq) oX5_size kX5_183 ⟨rfl, rfl⟩ eX5_size ⟨Nat.le_of_ble_eq_true rfl, Nat.le_of_ble_eq_true rfl⟩ ⟨Nat.zero_le _, Nat.zero_le _⟩ rfl (fun _ _ => rfl) (fun _ _ => rfl) rfl (Nat.le_of_ble_eq_true rfl) dX5_log_51 rfl (fun r_24 _ _ hq => ?_)
        exact hR _ _ _ f_21 v_22 dX5_log_54 hq
      · replace hq := hq.2 c_19
        refine j_bipush 41 C dX5_log_39 rfl bc_60 ?_
        exact hR _ _ _ f_16 v_17 dX5_log_41 hq
  · replace hq := hq.2 c_2
    refine j_iconst 9 C dX5_log_8 rfl ic_m1 ?_
    exact hR _ _ _ f v dX5_log_9 hq
def Q_X5_as (p0 : Int32) (p1 : Int32) (f : FF) (v : VV) (post : Int32 → FF → VV → Prop) : Prop := ∀ v_1 : VV, v_1 = fu v 0 (0 : Int32) → (Q_X5_isTest p0 f v_1 (fun r_2 => (((¬ r_2 = 0 → (Q_X5_within p1 (0 : Int32) (2 : Int32) (fun r_4 => (((¬ r_4 = 0 → (vp_in p0 7 ∧ (((((f 6) (p0).toNatClampNeg) < p1 → (Q_X5_fails (2 : Int32) f v_1 (fun r_8 f_9 v_10 => (post r_8 f_9 v_10)))) ∧ (¬ ((f 6) (p0).toNatClampNeg) < p1 → (post (1 : Int32) f v_1)))))) ∧ (r_4 = 0 → (post (-2 : Int32) f v_1))))))) ∧ (r_2 = 0 → (post (-1 : Int32) f v_1))))))
set_option maxRecDepth 100000 in
set_option maxHeartbeats 4000000 in
theorem m_X5_as {l : Launch} (G : Gx) (h : Nat → Nat) (p0 : Int32) (p1 : Int32) (f : FF) (v : VV) {post : Int32 → FF → VV → Prop} (hq : Q_X5_as p0 p1 f v post) : MetI l yX5_as (gC yX5_as cX5_as 3 (some .int)) rmX5_as G [.ref (h 0), .int p0, .int p1] (wE G h) f v post := by
  refine met_i (own := RX5) (by decide) rfl (Nat.le_of_ble_eq_true rfl) (fun κ hκ C hR => ?_)
  unfold Q_X5_as at hq
  subst hκ
  show J κ 0 0 (wE G h f v) 0 [(0, .ref (h 0)), (1, .int p0), (2, .int p1)] []
  refine j_aload_n 1 C dX5_as_0 rfl 0 rfl ?_
  refine j_iconst 2 C dX5_as_1 rfl ic_0 ?_
  obtain ⟨v_1, ev_1⟩ : ∃ y : VV, y = fu v 0 (0 : Int32) := ⟨_, rfl⟩
  replace hq := hq v_1 ev_1
  refine j_put 5 C uX5 tyX5 tyX5_ok nmX5 0 rfl rfl 0 (Nat.le_of_ble_eq_true rfl) lX5_61 rfl rfl (Nat.le_of_ble_eq_true rfl) dX5_as_2 rfl (ws' := (wE G h f v_1)) (by subst ev_1; rfl) ?_
  refine j_aload_n 6 C dX5_as_5 rfl 0 rfl ?_
  refine j_iload_n 7 C dX5_as_6 rfl 1 rfl ?_
  refine j_callVi_ro 10 C [] [] (As := [.int p0]) (m_X5_isTest G h p0 f v_1 hq) oX5_isTest kX5_156 ⟨rfl, rfl⟩ eX5_isTest ⟨Nat.le_of_ble_eq_true rfl, Nat.le_of_ble_eq_true rfl⟩ ⟨Nat.zero_le _, Nat.zero_le _⟩ (List.append_nil _).symm (fun _ _ => rfl) 0 rfl rfl rfl (Nat.le_of_ble_eq_true rfl) dX5_as_7 rfl (fun r_2 hq => ?_)
  refine j_if_ne 13 15 C dX5_as_10 rfl rfl (fun c_3 => ?_) (fun c_3 => ?_)
  · replace hq := hq.1 c_3
    refine j_iload_n 16 C dX5_as_15 rfl 2 rfl ?_
    refine j_iconst 17 C dX5_as_16 rfl ic_0 ?_
    refine j_iconst 18 C dX5_as_17 rfl ic_2 ?_
    refine j_callSi 21 C [] (wE G h f v_1) (fun _ _ => (wE G h f v_1)) (As := [.int p1, .int (0 : Int32), .int (2 : Int32)]) (m_X5_within G p1 (0 : Int32) (2 : Int32) hq) oX5_within kX5_67 ⟨rfl, rfl⟩ eX5_within ⟨Nat.le_of_ble_eq_true rfl, Nat.le_of_ble_eq_true rfl⟩ ⟨Nat.zero_le _, Nat.zero_le _⟩ rfl (fun _ _ => rfl) (fun _ _ => rfl) rfl (Nat.le_of_ble_eq_true rfl) dX5_as_18 rfl (fun r_4 _ _ hq => ?_)
    refine j_if_ne 24 27 C dX5_as_21 rfl rfl (fun c_5 => ?_) (fun c_5 => ?_)
    · replace hq := hq.1 c_5
      refine j_aload_n 28 C dX5_as_27 rfl 0 rfl ?_
      refine j_get 31 C uX5 0 rfl rfl 10 (Nat.le_of_ble_eq_true rfl) lX5_28 (v := .ref (h 7)) rfl dX5_as_28 rfl ?_
      refine j_iload_n 32 C dX5_as_31 rfl 1 rfl ?_
      obtain ⟨hi_6, hq⟩ := hq
      refine j_iald 33 C 7 (f := (f 6)) rfl hi_6 dX5_as_32 rfl ?_
      refine j_iload_n 34 C dX5_as_33 rfl 2 rfl ?_
      refine j_icmp_lt 37 41 C dX5_as_34 rfl rfl (fun c_7 => ?_) (fun c_7 => ?_)
      · replace hq := hq.1 c_7
        refine j_aload_n 42 C dX5_as_41 rfl 0 rfl ?_
        refine j_iconst 43 C dX5_as_42 rfl ic_2 ?_
        refine j_callVi 46 C [] [] (fun f' v' => (wE G h f' v')) (As := [.int (2 : Int32)]) (m_X5_fails G h (2 : Int32) f v_1 hq) oX5_fails kX5_95 ⟨rfl, rfl⟩ eX5_fails ⟨Nat.le_of_ble_eq_true rfl, Nat.le_of_ble_eq_true rfl⟩ ⟨Nat.zero_le _, Nat.zero_le _⟩ (List.append_nil _).symm (fun _ _ => List.append_nil _) (fun _ _ => rfl) 0 rfl rfl rfl (Nat.le_of_ble_eq_true rfl) dX5_as_43 rfl (fun r_8 f_9 v_10 hq => ?_)
        exact hR _ _ _ f_9 v_10 dX5_as_46 hq
      · replace hq := hq.2 c_7
        refine j_iconst 38 C dX5_as_37 rfl ic_1 ?_
        refine j_goto 46 C dX5_as_38 rfl ?_
        exact hR _ _ _ f v_1 dX5_as_46 hq
    · replace hq := hq.2 c_5
      refine j_bipush 26 C dX5_as_24 rfl bc_m2 ?_
      exact hR _ _ _ f v_1 dX5_as_26 hq
  · replace hq := hq.2 c_3
    refine j_iconst 14 C dX5_as_13 rfl ic_m1 ?_
    exact hR _ _ _ f v_1 dX5_as_14 hq
def Q_X5_trace (f : FF) (v : VV) (post : Int32 → Prop) : Prop := post (v 1)
set_option maxRecDepth 100000 in
set_option maxHeartbeats 4000000 in
theorem m_X5_trace {l : Launch} (G : Gx) (h : Nat → Nat) (f : FF) (v : VV) {post : Int32 → Prop} (hq : Q_X5_trace f v post) : MetI l yX5_trace (gC yX5_trace cX5_trace 1 (some .int)) rmX5_trace G [.ref (h 0)] (wE G h) f v (fun r f' v' => post r ∧ f' = f ∧ v' = v) := by
  refine met_i (own := RX5) (by decide) rfl (Nat.le_of_ble_eq_true rfl) (fun κ hκ C hR => ?_)
  unfold Q_X5_trace at hq
  subst hκ
  show J κ 0 0 (wE G h f v) 0 [(0, .ref (h 0))] []
  refine j_aload_n 1 C dX5_trace_0 rfl 0 rfl ?_
  refine j_get 4 C uX5 0 rfl rfl 1 (Nat.le_of_ble_eq_true rfl) lX5_246 (v := .int (v 1)) rfl dX5_trace_1 rfl ?_
  exact hR _ _ _ f v dX5_trace_4 ⟨hq, rfl, rfl⟩
def Q_X5_fault (f : FF) (v : VV) (post : Int32 → Prop) : Prop := post (v 0)
set_option maxRecDepth 100000 in
set_option maxHeartbeats 4000000 in
theorem m_X5_fault {l : Launch} (G : Gx) (h : Nat → Nat) (f : FF) (v : VV) {post : Int32 → Prop} (hq : Q_X5_fault f v post) : MetI l yX5_fault (gC yX5_fault cX5_fault 1 (some .int)) rmX5_fault G [.ref (h 0)] (wE G h) f v (fun r f' v' => post r ∧ f' = f ∧ v' = v) := by
  refine met_i (own := RX5) (by decide) rfl (Nat.le_of_ble_eq_true rfl) (fun κ hκ C hR => ?_)
  unfold Q_X5_fault at hq
  subst hκ
  show J κ 0 0 (wE G h f v) 0 [(0, .ref (h 0))] []
  refine j_aload_n 1 C dX5_fault_0 rfl 0 rfl ?_
  refine j_get 4 C uX5 0 rfl rfl 0 (Nat.le_of_ble_eq_true rfl) lX5_61 (v := .int (v 0)) rfl dX5_fault_1 rfl ?_
  exact hR _ _ _ f v dX5_fault_4 ⟨hq, rfl, rfl⟩
def Q_X5_many (p0 : Int32) (f : FF) (v : VV) (post : Int32 → FF → VV → Prop) : Prop := ((p0 = (0 : Int32) → (post (v 2) f v)) ∧ (¬ p0 = (0 : Int32) → (((p0 = (1 : Int32) → (post (v 3) f v)) ∧ (¬ p0 = (1 : Int32) → (((p0 = (2 : Int32) → (Q_X5_mutants  f v (fun r_4 => (post r_4 f v)))) ∧ (¬ p0 = (2 : Int32) → (((p0 = (3 : Int32) → (Q_X5_findKillers  f v (fun f_7 v_8 => (Q_X5_killed  f_7 v_8 (fun r_9 => (post r_9 f_7 v_8)))))) ∧ (¬ p0 = (3 : Int32) → (((p0 = (4 : Int32) → (Q_X5_manyEqual  f v (fun r_11 f_12 v_13 => (post r_11 f_12 v_13)))) ∧ (¬ p0 = (4 : Int32) → (((p0 = (5 : Int32) → (post (v 8) f v)) ∧ (¬ p0 = (5 : Int32) → (post (-2 : Int32) f v))))))))))))))))))
set_option maxRecDepth 100000 in
set_option maxHeartbeats 4000000 in
theorem m_X5_many {l : Launch} (G : Gx) (h : Nat → Nat) (p0 : Int32) (f : FF) (v : VV) {post : Int32 → FF → VV → Prop} (hq : Q_X5_many p0 f v post) : MetI l yX5_many (gC yX5_many cX5_many 2 (some .int)) rmX5_many G [.ref (h 0), .int p0] (wE G h) f v post := by
  refine met_i (own := RX5) (by decide) rfl (Nat.le_of_ble_eq_true rfl) (fun κ hκ C hR => ?_)
  unfold Q_X5_many at hq
  subst hκ
  show J κ 0 0 (wE G h f v) 0 [(0, .ref (h 0)), (1, .int p0)] []
  refine j_iload_n 1 C dX5_many_0 rfl 1 rfl ?_
  by_cases c_1 : p0 = (0 : Int32)
  · replace hq := hq.1 c_1
    refine j_tableIn 40 C (0 : Int32) dX5_many_1 c_1 (by decide) (by decide) rfl rfl ?_
    refine j_aload_n 41 C dX5_many_40 rfl 0 rfl ?_
    refine j_get 44 C uX5 0 rfl rfl 5 (Nat.le_of_ble_eq_true rfl) lX5_71 (v := .int (v 2)) rfl dX5_many_41 rfl ?_
    exact hR _ _ _ f v dX5_many_44 hq
  · replace hq := hq.2 c_1
    by_cases c_2 : p0 = (1 : Int32)
    · replace hq := hq.1 c_2
      refine j_tableIn 45 C (1 : Int32) dX5_many_1 c_2 (by decide) (by decide) rfl rfl ?_
      refine j_aload_n 46 C dX5_many_45 rfl 0 rfl ?_
      refine j_get 49 C uX5 0 rfl rfl 6 (Nat.le_of_ble_eq_true rfl) lX5_74 (v := .int (v 3)) rfl dX5_many_46 rfl ?_
      exact hR _ _ _ f v dX5_many_49 hq
    · replace hq := hq.2 c_2
      by_cases c_3 : p0 = (2 : Int32)
      · replace hq := hq.1 c_3
        refine j_tableIn 50 C (2 : Int32) dX5_many_1 c_3 (by decide) (by decide) rfl rfl ?_
        refine j_aload_n 51 C dX5_many_50 rfl 0 rfl ?_
        refine j_callVi_ro 54 C [] [] (As := []) (m_X5_mutants G h f v hq) oX5_mutants kX5_77 ⟨rfl, rfl⟩ eX5_mutants ⟨Nat.le_of_ble_eq_true rfl, Nat.le_of_ble_eq_true rfl⟩ ⟨Nat.zero_le _, Nat.zero_le _⟩ (List.append_nil _).symm (fun _ _ => rfl) 0 rfl rfl rfl (Nat.le_of_ble_eq_true rfl) dX5_many_51 rfl (fun r_4 hq => ?_)
        exact hR _ _ _ f v dX5_many_54 hq
      · replace hq := hq.2 c_3
        by_cases c_5 : p0 = (3 : Int32)
        · replace hq := hq.1 c_5
          refine j_tableIn 55 C (3 : Int32) dX5_many_1 c_5 (by decide) (by decide) rfl rfl ?_
          refine j_aload_n 56 C dX5_many_55 rfl 0 rfl ?_
          refine j_callVv 59 C [] [] (fun f' v' => (wE G h f' v')) (As := []) (m_X5_findKillers G h f v hq) oX5_findKillers kX5_162 ⟨rfl, rfl⟩ eX5_findKillers ⟨Nat.le_of_ble_eq_true rfl, Nat.le_of_ble_eq_true rfl⟩ ⟨Nat.zero_le _, Nat.zero_le _⟩ (List.append_nil _).symm (fun _ _ => List.append_nil _) (fun _ _ => rfl) 0 rfl rfl rfl (Nat.le_of_ble_eq_true rfl) dX5_many_56 rfl (fun f_7 v_8 hq => ?_)
          refine j_aload_n 60 C dX5_many_59 rfl 0 rfl ?_
          refine j_callVi_ro 63 C [] [] (As := []) (m_X5_killed G h f_7 v_8 hq) oX5_killed kX5_204 ⟨rfl, rfl⟩ eX5_killed ⟨Nat.le_of_ble_eq_true rfl, Nat.le_of_ble_eq_true rfl⟩ ⟨Nat.zero_le _, Nat.zero_le _⟩ (List.append_nil _).symm (fun _ _ => rfl) 0 rfl rfl rfl (Nat.le_of_ble_eq_true rfl) dX5_many_60 rfl (fun r_9 hq => ?_)
          exact hR _ _ _ f_7 v_8 dX5_many_63 hq
        · replace hq := hq.2 c_5
          by_cases c_10 : p0 = (4 : Int32)
          · replace hq := hq.1 c_10
            refine j_tableIn 64 C (4 : Int32) dX5_many_1 c_10 (by decide) (by decide) rfl rfl ?_
            refine j_aload_n 65 C dX5_many_64 rfl 0 rfl ?_
            refine j_callVi 68 C [] [] (fun f' v' => (wE G h f' v')) (As := []) (m_X5_manyEqual G h f v hq) oX5_manyEqual kX5_207 ⟨rfl, rfl⟩ eX5_manyEqual ⟨Nat.le_of_ble_eq_true rfl, Nat.le_of_ble_eq_true rfl⟩ ⟨Nat.zero_le _, Nat.zero_le _⟩ (List.append_nil _).symm (fun _ _ => List.append_nil _) (fun _ _ => rfl) 0 rfl rfl rfl (Nat.le_of_ble_eq_true rfl) dX5_many_65 rfl (fun r_11 f_12 v_13 hq => ?_)
            exact hR _ _ _ f_12 v_13 dX5_many_68 hq
          · replace hq := hq.2 c_10
            by_cases c_14 : p0 = (5 : Int32)
            · replace hq := hq.1 c_14
              refine j_tableIn 69 C (5 : Int32) dX5_many_1 c_14 (by decide) (by decide) rfl rfl ?_
              refine j_aload_n 70 C dX5_many_69 rfl 0 rfl ?_
              refine j_get 73 C uX5 0 rfl rfl 24 (Nat.le_of_ble_eq_true rfl) lX5_108 (v := .int (v 8)) rfl dX5_many_70 rfl ?_
              exact hR _ _ _ f v dX5_many_73 hq
            · replace hq := hq.2 c_14
              have zc_1 := ne_toInt (z := 0) (by decide) c_1
              have zc_2 := ne_toInt (z := 1) (by decide) c_2
              have zc_3 := ne_toInt (z := 2) (by decide) c_3
              have zc_5 := ne_toInt (z := 3) (by decide) c_5
              have zc_10 := ne_toInt (z := 4) (by decide) c_10
              have zc_14 := ne_toInt (z := 5) (by decide) c_14
              refine j_tableOut 74 C dX5_many_1 (by omega) rfl ?_
              refine j_bipush 76 C dX5_many_74 rfl bc_m2 ?_
              exact hR _ _ _ f v dX5_many_76 hq
