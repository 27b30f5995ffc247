/-! ===== printed by program (wip/gen/run.py): what a walk needs, and the contract out of it ===== -/
def Q_X4_faulted (p0 : Int32) (f : FF) (v : VV) (post : Int32 → FF → VV → Prop) : Prop := ∀ v_1 : VV, v_1 = fu v 2 p0 → (post ((-10 : Int32) - p0) f v_1)
set_option maxRecDepth 100000 in
set_option maxHeartbeats 4000000 in
theorem m_X4_faulted {l : Launch} (G : Gx) (h : Nat → Nat) (p0 : Int32) (f : FF) (v : VV) {post : Int32 → FF → VV → Prop} (hq : Q_X4_faulted p0 f v post) : MetI l yX4_faulted (gC yX4_faulted cX4_faulted 2 (some .int)) rmX4_faulted G [.ref (h 0), .int p0] (wM G h) f v post := by
  refine met_i (own := RX4) (by decide) rfl (Nat.le_of_ble_eq_true rfl) (fun κ hκ C hR => ?_)
  unfold Q_X4_faulted at hq
  subst hκ
  show J κ 0 0 (wM G h f v) 0 [(0, .ref (h 0)), (1, .int p0)] []
  refine j_aload_n 1 C dX4_faulted_0 rfl 0 rfl ?_
  refine j_iload_n 2 C dX4_faulted_1 rfl 1 rfl ?_
  obtain ⟨v_1, ev_1⟩ : ∃ y : VV, y = fu v 2 p0 := ⟨_, rfl⟩
  replace hq := hq v_1 ev_1
  refine j_put 5 C uX4 tyX4 tyX4_ok nmX4 0 rfl rfl 8 (Nat.le_of_ble_eq_true rfl) lX4_46 rfl rfl (Nat.le_of_ble_eq_true rfl) dX4_faulted_2 rfl (ws' := (wM G h f v_1)) (by subst ev_1; rfl) ?_
  refine j_bipush 7 C dX4_faulted_5 rfl bc_m10 ?_
  refine j_iload_n 8 C dX4_faulted_7 rfl 1 rfl ?_
  refine j_isub 9 C dX4_faulted_8 rfl ?_
  exact hR _ _ _ f v_1 dX4_faulted_9 hq
def Q_X4_program (p0 : Int32) (p1 : Int32) (p2 : Int32) (p3 : Int32) (f : FF) (v : VV) (post : Int32 → FF → VV → Prop) : Prop := ∀ v_1 : VV, v_1 = fu v 2 (0 : Int32) → (Q_X4_isSheet p0 (fun r_2 => (((¬ r_2 = 0 → (Q_X4_isWithin p1 (0 : Int32) (2 : Int32) (fun r_4 => (((¬ r_4 = 0 → (vp_in p0 4 ∧ (Q_X2_faultAs p1 (sb f (1 + (p0).toNatClampNeg)) (sb v_1 (3 + 2 * (p0).toNatClampNeg)) (fun r_7 => (((¬ r_7 = 0 → (((¬ r_7 = 0 → (((r_7 = 0 → (Q_X3_reads p2 p3 (jn f (1 + (p0).toNatClampNeg) 1 23) (jn v_1 (3 + 2 * (p0).toNatClampNeg) 2 15) (fun r_12 f_13 v_14 => (∀ f_15 : FF, f_15 = mg (mg f (1 + (p0).toNatClampNeg) 1 f_13) 23 10 (sb f_13 1) → (∀ v_16 : VV, v_16 = mg (mg v_1 (3 + 2 * (p0).toNatClampNeg) 2 v_14) 15 4 (sb v_14 2) → (((¬ r_12 = 0 → (Q_X1_becomeLike  (jn f_15 5 9 24) (jn v_16 11 2 17) (fun f_20 v_21 => (∀ f_22 : FF, f_22 = mg (mg f_15 5 9 f_20) 24 9 (sb f_20 9) → (∀ v_23 : VV, v_23 = mg (mg v_16 11 2 v_21) 17 2 (sb v_21 2) → (∀ v_24 : VV, v_24 = fu v_23 0 (0 : Int32) → (Q_X1_mutants  (sb f_22 5) (sb v_24 11) (fun r_25 => (post r_25 f_22 v_24))))))))) ∧ (r_12 = 0 → (post ((-100 : Int32) - (v_16 16)) f_15 v_16))))))))) ∧ (¬ r_7 = 0 → (Q_X4_faulted r_7 f v_1 (fun r_26 f_27 v_28 => (post r_26 f_27 v_28))))))) ∧ (r_7 = 0 → (Q_X2_hasCells p2 p3 (sb f (1 + (p0).toNatClampNeg)) (sb v_1 (3 + 2 * (p0).toNatClampNeg)) (fun r_29 => (((¬ r_29 = 0 → (((r_7 = 0 → (Q_X3_reads p2 p3 (jn f (1 + (p0).toNatClampNeg) 1 23) (jn v_1 (3 + 2 * (p0).toNatClampNeg) 2 15) (fun r_33 f_34 v_35 => (∀ f_36 : FF, f_36 = mg (mg f (1 + (p0).toNatClampNeg) 1 f_34) 23 10 (sb f_34 1) → (∀ v_37 : VV, v_37 = mg (mg v_1 (3 + 2 * (p0).toNatClampNeg) 2 v_35) 15 4 (sb v_35 2) → (((¬ r_33 = 0 → (Q_X1_becomeLike  (jn f_36 5 9 24) (jn v_37 11 2 17) (fun f_41 v_42 => (∀ f_43 : FF, f_43 = mg (mg f_36 5 9 f_41) 24 9 (sb f_41 9) → (∀ v_44 : VV, v_44 = mg (mg v_37 11 2 v_42) 17 2 (sb v_42 2) → (∀ v_45 : VV, v_45 = fu v_44 0 (0 : Int32) → (Q_X1_mutants  (sb f_43 5) (sb v_45 11) (fun r_46 => (post r_46 f_43 v_45))))))))) ∧ (r_33 = 0 → (post ((-100 : Int32) - (v_37 16)) f_36 v_37))))))))) ∧ (¬ r_7 = 0 → (Q_X4_faulted r_7 f v_1 (fun r_47 f_48 v_49 => (post r_47 f_48 v_49))))))) ∧ (r_29 = 0 → (Q_X4_faulted (3 : Int32) f v_1 (fun r_50 f_51 v_52 => (post r_50 f_51 v_52)))))))))))) ∧ (r_7 = 0 → (((0 ≤ p3 → (((¬ r_7 = 0 → (((r_7 = 0 → (Q_X3_reads p2 p3 (jn f (1 + (p0).toNatClampNeg) 1 23) (jn v_1 (3 + 2 * (p0).toNatClampNeg) 2 15) (fun r_57 f_58 v_59 => (∀ f_60 : FF, f_60 = mg (mg f (1 + (p0).toNatClampNeg) 1 f_58) 23 10 (sb f_58 1) → (∀ v_61 : VV, v_61 = mg (mg v_1 (3 + 2 * (p0).toNatClampNeg) 2 v_59) 15 4 (sb v_59 2) → (((¬ r_57 = 0 → (Q_X1_becomeLike  (jn f_60 5 9 24) (jn v_61 11 2 17) (fun f_65 v_66 => (∀ f_67 : FF, f_67 = mg (mg f_60 5 9 f_65) 24 9 (sb f_65 9) → (∀ v_68 : VV, v_68 = mg (mg v_61 11 2 v_66) 17 2 (sb v_66 2) → (∀ v_69 : VV, v_69 = fu v_68 0 (0 : Int32) → (Q_X1_mutants  (sb f_67 5) (sb v_69 11) (fun r_70 => (post r_70 f_67 v_69))))))))) ∧ (r_57 = 0 → (post ((-100 : Int32) - (v_61 16)) f_60 v_61))))))))) ∧ (¬ r_7 = 0 → (Q_X4_faulted r_7 f v_1 (fun r_71 f_72 v_73 => (post r_71 f_72 v_73))))))) ∧ (r_7 = 0 → (Q_X2_hasCells p2 p3 (sb f (1 + (p0).toNatClampNeg)) (sb v_1 (3 + 2 * (p0).toNatClampNeg)) (fun r_74 => (((¬ r_74 = 0 → (((r_7 = 0 → (Q_X3_reads p2 p3 (jn f (1 + (p0).toNatClampNeg) 1 23) (jn v_1 (3 + 2 * (p0).toNatClampNeg) 2 15) (fun r_78 f_79 v_80 => (∀ f_81 : FF, f_81 = mg (mg f (1 + (p0).toNatClampNeg) 1 f_79) 23 10 (sb f_79 1) → (∀ v_82 : VV, v_82 = mg (mg v_1 (3 + 2 * (p0).toNatClampNeg) 2 v_80) 15 4 (sb v_80 2) → (((¬ r_78 = 0 → (Q_X1_becomeLike  (jn f_81 5 9 24) (jn v_82 11 2 17) (fun f_86 v_87 => (∀ f_88 : FF, f_88 = mg (mg f_81 5 9 f_86) 24 9 (sb f_86 9) → (∀ v_89 : VV, v_89 = mg (mg v_82 11 2 v_87) 17 2 (sb v_87 2) → (∀ v_90 : VV, v_90 = fu v_89 0 (0 : Int32) → (Q_X1_mutants  (sb f_88 5) (sb v_90 11) (fun r_91 => (post r_91 f_88 v_90))))))))) ∧ (r_78 = 0 → (post ((-100 : Int32) - (v_82 16)) f_81 v_82))))))))) ∧ (¬ r_7 = 0 → (Q_X4_faulted r_7 f v_1 (fun r_92 f_93 v_94 => (post r_92 f_93 v_94))))))) ∧ (r_74 = 0 → (Q_X4_faulted (3 : Int32) f v_1 (fun r_95 f_96 v_97 => (post r_95 f_96 v_97)))))))))))) ∧ (¬ 0 ≤ p3 → (Q_X4_faulted (4 : Int32) f v_1 (fun r_98 f_99 v_100 => (post r_98 f_99 v_100))))))))))))) ∧ (r_4 = 0 → (post (-2 : Int32) f v_1))))))) ∧ (r_2 = 0 → (post (-1 : Int32) f v_1))))))
set_option maxRecDepth 100000 in
set_option maxHeartbeats 4000000 in
theorem m_X4_program {l : Launch} (G : Gx) (h : Nat → Nat) (p0 : Int32) (p1 : Int32) (p2 : Int32) (p3 : Int32) (f : FF) (v : VV) {post : Int32 → FF → VV → Prop} (hq : Q_X4_program p0 p1 p2 p3 f v post) : MetI l yX4_program (gC yX4_program cX4_program 7 (some .int)) rmX4_program G [.ref (h 0), .int p0, .int p1, .int p2, .int p3] (wM G h) f v post := by
  refine met_i (own := RX4) (by decide) rfl (Nat.le_of_ble_eq_true rfl) (fun κ hκ C hR => ?_)
  unfold Q_X4_program at hq
  subst hκ
  show J κ 0 0 (wM G h f v) 0 [(0, .ref (h 0)), (1, .int p0), (2, .int p1), (3, .int p2), (4, .int p3)] []
  refine j_aload_n 1 C dX4_program_0 rfl 0 rfl ?_
  refine j_iconst 2 C dX4_program_1 rfl ic_0 ?_
  obtain ⟨v_1, ev_1⟩ : ∃ y : VV, y = fu v 2 (0 : Int32) := ⟨_, rfl⟩
  replace hq := hq v_1 ev_1
  refine j_put 5 C uX4 tyX4 tyX4_ok nmX4 0 rfl rfl 8 (Nat.le_of_ble_eq_true rfl) lX4_46 rfl rfl (Nat.le_of_ble_eq_true rfl) dX4_program_2 rfl (ws' := (wM G h f v_1)) (by subst ev_1; rfl) ?_
  refine j_iload_n 6 C dX4_program_5 rfl 1 rfl ?_
  refine j_callSi 9 C [] (wM G h f v_1) (fun _ _ => (wM G h f v_1)) (As := [.int p0]) (m_X4_isSheet G p0 hq) oX4_isSheet kX4_50 ⟨rfl, rfl⟩ eX4_isSheet ⟨Nat.le_of_ble_eq_true rfl, Nat.le_of_ble_eq_true rfl⟩ ⟨Nat.zero_le _, Nat.zero_le _⟩ rfl (fun _ _ => rfl) (fun _ _ => rfl) rfl (Nat.le_of_ble_eq_true rfl) dX4_program_6 rfl (fun r_2 _ _ hq => ?_)
  refine j_if_ne 12 14 C dX4_program_9 rfl rfl (fun c_3 => ?_) (fun c_3 => ?_)
  · replace hq := hq.1 c_3
    refine j_iload_n 15 C dX4_program_14 rfl 2 rfl ?_
    refine j_iconst 16 C dX4_program_15 rfl ic_0 ?_
    refine j_iconst 17 C dX4_program_16 rfl ic_2 ?_
    refine j_callSi 20 C [] (wM G h f v_1) (fun _ _ => (wM G h f v_1)) (As := [.int p1, .int (0 : Int32), .int (2 : Int32)]) (m_X4_isWithin G p1 (0 : Int32) (2 : Int32) hq) oX4_isWithin kX4_54 ⟨rfl, rfl⟩ eX4_isWithin ⟨Nat.le_of_ble_eq_true rfl, Nat.le_of_ble_eq_true rfl⟩ ⟨Nat.zero_le _, Nat.zero_le _⟩ rfl (fun _ _ => rfl) (fun _ _ => rfl) rfl (Nat.le_of_ble_eq_true rfl) dX4_program_17 rfl (fun r_4 _ _ hq => ?_)
    refine j_if_ne 23 26 C dX4_program_20 rfl rfl (fun c_5 => ?_) (fun c_5 => ?_)
    · replace hq := hq.1 c_5
      refine j_aload_n 27 C dX4_program_26 rfl 0 rfl ?_
      refine j_get 30 C uX4 0 rfl rfl 0 (Nat.le_of_ble_eq_true rfl) lX4_13 (v := .ref (h 2)) rfl dX4_program_27 rfl ?_
      refine j_iload_n 31 C dX4_program_30 rfl 1 rfl ?_
      obtain ⟨hk_6, hq⟩ := hq
      refine j_aald 32 C 2 rfl hk_6 (z := h (3 + 2 * (p0).toNatClampNeg)) rfl dX4_program_31 rfl ?_
      refine j_astore 34 C dX4_program_32 rfl (Nat.le_of_ble_eq_true rfl) [1, 2, 3, 4, 5, 0] (lv' := [(0, .ref (h 0)), (1, .int p0), (2, .int p1), (3, .int p2), (4, .int p3), (5, .ref (h (3 + 2 * (p0).toNatClampNeg)))]) rfl ?_
      refine j_aload 36 C dX4_program_34 rfl 5 rfl ?_
      refine j_iload_n 37 C dX4_program_36 rfl 2 rfl ?_
      refine j_callVi_ro 40 C (List.take (3 + 2 * (p0).toNatClampNeg) (wM G h f v_1)) (List.drop (3 + 2 * (p0).toNatClampNeg + 2) (wM G h f v_1)) (As := [.int p1]) (m_X2_faultAs G (sb h (3 + 2 * (p0).toNatClampNeg)) p1 (sb f (1 + (p0).toNatClampNeg)) (sb v_1 (3 + 2 * (p0).toNatClampNeg)) hq) oX2_faultAs kX4_58 ⟨rfl, rfl⟩ eX2_faultAs ⟨Nat.le_of_ble_eq_true rfl, Nat.le_of_ble_eq_true rfl⟩ ⟨Nat.zero_le _, Nat.zero_le _⟩ (shS (vp_lt4 hk_6)) (fun _ _ => rfl) 0 rfl rfl rfl (Nat.le_of_ble_eq_true rfl) dX4_program_37 rfl (fun r_7 hq => ?_)
      refine j_istore 42 C dX4_program_40 rfl (Nat.le_of_ble_eq_true rfl) [1, 2, 3, 4, 5, 6, 0] (lv' := [(0, .ref (h 0)), (1, .int p0), (2, .int p1), (3, .int p2), (4, .int p3), (5, .ref (h (3 + 2 * (p0).toNatClampNeg))), (6, .int r_7)]) rfl ?_
      refine j_iload 44 C dX4_program_42 rfl 6 rfl ?_
      refine j_if_ne 47 55 C dX4_program_44 rfl rfl (fun c_8 => ?_) (fun c_8 => ?_)
      · replace hq := hq.1 c_8
        refine j_iload 57 C dX4_program_55 rfl 6 rfl ?_
        refine j_if_ne 60 74 C dX4_program_57 rfl rfl (fun c_9 => ?_) (fun c_9 => ?_)
        · replace hq := hq.1 c_9
          refine j_iload 76 C dX4_program_74 rfl 6 rfl ?_
          refine j_if_eq 79 86 C dX4_program_76 rfl rfl (fun c_10 => ?_) (fun c_10 => ?_)
          · replace hq := hq.1 c_10
            refine j_aload_n 87 C dX4_program_86 rfl 0 rfl ?_
            refine j_get 90 C uX4 0 rfl rfl 3 (Nat.le_of_ble_eq_true rfl) lX4_31 (v := .ref (h 31)) rfl dX4_program_87 rfl ?_
            refine j_aload 92 C dX4_program_90 rfl 5 rfl ?_
            refine j_iload_n 93 C dX4_program_92 rfl 3 rfl ?_
            refine j_iload 95 C dX4_program_93 rfl 4 rfl ?_
            refine J.perm (pmR (vp_lt4 hk_6)) ?_
            refine j_callVi 98 C (List.take (3 + 2 * (p0).toNatClampNeg) (wM G h f v_1)) (mS G h f v_1 (p0).toNatClampNeg ++ mK G h f v_1) (fun f' v' => (List.take (3 + 2 * (p0).toNatClampNeg) (wM G h f v_1)) ++ (wSR G (jn h (3 + 2 * (p0).toNatClampNeg) 2 31) f' v' ++ (mS G h f v_1 (p0).toNatClampNeg ++ mK G h f v_1))) (As := [.ref (h (3 + 2 * (p0).toNatClampNeg)), .int p2, .int p3]) (m_X3_reads G (jn h (3 + 2 * (p0).toNatClampNeg) 2 31) p2 p3 (jn f (1 + (p0).toNatClampNeg) 1 23) (jn v_1 (3 + 2 * (p0).toNatClampNeg) 2 15) hq) oX3_reads kX4_69 ⟨rfl, rfl⟩ eX3_reads ⟨Nat.le_of_ble_eq_true rfl, Nat.le_of_ble_eq_true rfl⟩ ⟨Nat.zero_le _, Nat.zero_le _⟩ rfl (fun _ _ => rfl) (fun _ _ => rfl) 2 rfl rfl rfl (Nat.le_of_ble_eq_true rfl) dX4_program_95 rfl (fun r_12 f_13 v_14 hq => ?_)
            obtain ⟨f_15, ef_15⟩ : ∃ y : FF, y = mg (mg f (1 + (p0).toNatClampNeg) 1 f_13) 23 10 (sb f_13 1) := ⟨_, rfl⟩
            obtain ⟨v_16, ev_16⟩ : ∃ y : VV, y = mg (mg v_1 (3 + 2 * (p0).toNatClampNeg) 2 v_14) 15 4 (sb v_14 2) := ⟨_, rfl⟩
            replace hq := hq f_15 ef_15 v_16 ev_16
            refine J.perm (ws' := (wM G h f_15 v_16)) (by subst ef_15; subst ev_16; exact pmR' (vp_lt4 hk_6) _ _) ?_
            refine j_if_ne 101 112 C dX4_program_98 rfl rfl (fun c_17 => ?_) (fun c_17 => ?_)
            · replace hq := hq.1 c_17
              refine j_aload_n 113 C dX4_program_112 rfl 0 rfl ?_
              refine j_get 116 C uX4 0 rfl rfl 1 (Nat.le_of_ble_eq_true rfl) lX4_21 (v := .ref (h 11)) rfl dX4_program_113 rfl ?_
              refine j_aload_n 117 C dX4_program_116 rfl 0 rfl ?_
              refine j_get 120 C uX4 0 rfl rfl 3 (Nat.le_of_ble_eq_true rfl) lX4_31 (v := .ref (h 31)) rfl dX4_program_117 rfl ?_
              refine j_get 123 C uX3 31 rfl rfl 0 (Nat.le_of_ble_eq_true rfl) lX4_76 (v := .ref (h 33)) rfl dX4_program_120 rfl ?_
              refine J.perm pmB ?_
              refine j_callVv 126 C (mA G h f_15 v_16) ((mT G h f_15 v_16 ++ mR2 G h f_15 v_16) ++ mK G h f_15 v_16) (fun f' v' => (mA G h f_15 v_16) ++ (wPP G (jn h 11 10 33) f' v' ++ ((mT G h f_15 v_16 ++ mR2 G h f_15 v_16) ++ mK G h f_15 v_16))) (As := [.ref (h 33)]) (m_X1_becomeLike G (jn h 11 10 33) (jn f_15 5 9 24) (jn v_16 11 2 17) hq) oX1_becomeLike kX4_79 ⟨rfl, rfl⟩ eX1_becomeLike ⟨Nat.le_of_ble_eq_true rfl, Nat.le_of_ble_eq_true rfl⟩ ⟨Nat.zero_le _, Nat.zero_le _⟩ rfl (fun _ _ => rfl) (fun _ _ => rfl) 0 rfl rfl rfl (Nat.le_of_ble_eq_true rfl) dX4_program_123 rfl (fun f_20 v_21 hq => ?_)
              obtain ⟨f_22, ef_22⟩ : ∃ y : FF, y = mg (mg f_15 5 9 f_20) 24 9 (sb f_20 9) := ⟨_, rfl⟩
              obtain ⟨v_23, ev_23⟩ : ∃ y : VV, y = mg (mg v_16 11 2 v_21) 17 2 (sb v_21 2) := ⟨_, rfl⟩
              replace hq := hq f_22 ef_22 v_23 ev_23
              refine J.perm (ws' := (wM G h f_22 v_23)) (by subst ef_22; subst ev_23; exact pmB' _ _) ?_
              refine j_aload_n 127 C dX4_program_126 rfl 0 rfl ?_
              refine j_iconst 128 C dX4_program_127 rfl ic_0 ?_
              obtain ⟨v_24, ev_24⟩ : ∃ y : VV, y = fu v_23 0 (0 : Int32) := ⟨_, rfl⟩
              replace hq := hq v_24 ev_24
              refine j_put 131 C uX4 tyX4 tyX4_ok nmX4 0 rfl rfl 6 (Nat.le_of_ble_eq_true rfl) lX4_83 rfl rfl (Nat.le_of_ble_eq_true rfl) dX4_program_128 rfl (ws' := (wM G h f_22 v_24)) (by subst ev_24; rfl) ?_
              refine j_aload_n 132 C dX4_program_131 rfl 0 rfl ?_
              refine j_get 135 C uX4 0 rfl rfl 1 (Nat.le_of_ble_eq_true rfl) lX4_21 (v := .ref (h 11)) rfl dX4_program_132 rfl ?_
              refine j_callVi_ro 138 C (List.take 11 (wM G h f_22 v_24)) (List.drop 21 (wM G h f_22 v_24)) (As := []) (m_X1_mutants G (sb h 11) (sb f_22 5) (sb v_24 11) hq) oX1_mutants kX4_86 ⟨rfl, rfl⟩ eX1_mutants ⟨Nat.le_of_ble_eq_true rfl, Nat.le_of_ble_eq_true rfl⟩ ⟨Nat.zero_le _, Nat.zero_le _⟩ rfl (fun _ _ => rfl) 0 rfl rfl rfl (Nat.le_of_ble_eq_true rfl) dX4_program_135 rfl (fun r_25 hq => ?_)
              exact hR _ _ _ f_22 v_24 dX4_program_138 hq
            · replace hq := hq.2 c_17
              refine j_bipush 103 C dX4_program_101 rfl bc_m100 ?_
              refine j_aload_n 104 C dX4_program_103 rfl 0 rfl ?_
              refine j_get 107 C uX4 0 rfl rfl 3 (Nat.le_of_ble_eq_true rfl) lX4_31 (v := .ref (h 31)) rfl dX4_program_104 rfl ?_
              refine j_get 110 C uX3 31 rfl rfl 3 (Nat.le_of_ble_eq_true rfl) lX4_73 (v := .int (v_16 16)) rfl dX4_program_107 rfl ?_
              refine j_isub 111 C dX4_program_110 rfl ?_
              exact hR _ _ _ f_15 v_16 dX4_program_111 hq
          · replace hq := hq.2 c_10
            refine j_aload_n 80 C dX4_program_79 rfl 0 rfl ?_
            refine j_iload 82 C dX4_program_80 rfl 6 rfl ?_
            refine j_callVi 85 C [] [] (fun f' v' => (wM G h f' v')) (As := [.int r_7]) (m_X4_faulted G h r_7 f v_1 hq) oX4_faulted kX4_66 ⟨rfl, rfl⟩ eX4_faulted ⟨Nat.le_of_ble_eq_true rfl, Nat.le_of_ble_eq_true rfl⟩ ⟨Nat.zero_le _, Nat.zero_le _⟩ (List.append_nil _).symm (fun _ _ => List.append_nil _) (fun _ _ => rfl) 0 rfl rfl rfl (Nat.le_of_ble_eq_true rfl) dX4_program_82 rfl (fun r_26 f_27 v_28 hq => ?_)
            exact hR _ _ _ f_27 v_28 dX4_program_85 hq
        · replace hq := hq.2 c_9
          refine j_aload 62 C dX4_program_60 rfl 5 rfl ?_
          refine j_iload_n 63 C dX4_program_62 rfl 3 rfl ?_
          refine j_iload 65 C dX4_program_63 rfl 4 rfl ?_
          refine j_callVi_ro 68 C (List.take (3 + 2 * (p0).toNatClampNeg) (wM G h f v_1)) (List.drop (3 + 2 * (p0).toNatClampNeg + 2) (wM G h f v_1)) (As := [.int p2, .int p3]) (m_X2_hasCells G (sb h (3 + 2 * (p0).toNatClampNeg)) p2 p3 (sb f (1 + (p0).toNatClampNeg)) (sb v_1 (3 + 2 * (p0).toNatClampNeg)) hq) oX2_hasCells kX4_62 ⟨rfl, rfl⟩ eX2_hasCells ⟨Nat.le_of_ble_eq_true rfl, Nat.le_of_ble_eq_true rfl⟩ ⟨Nat.zero_le _, Nat.zero_le _⟩ (shS (vp_lt4 hk_6)) (fun _ _ => rfl) 0 rfl rfl rfl (Nat.le_of_ble_eq_true rfl) dX4_program_65 rfl (fun r_29 hq => ?_)
          refine j_if_ne 71 74 C dX4_program_68 rfl rfl (fun c_30 => ?_) (fun c_30 => ?_)
          · replace hq := hq.1 c_30
            refine j_iload 76 C dX4_program_74 rfl 6 rfl ?_
            refine j_if_eq 79 86 C dX4_program_76 rfl rfl (fun c_31 => ?_) (fun c_31 => ?_)
            · replace hq := hq.1 c_31
              refine j_aload_n 87 C dX4_program_86 rfl 0 rfl ?_
              refine j_get 90 C uX4 0 rfl rfl 3 (Nat.le_of_ble_eq_true rfl) lX4_31 (v := .ref (h 31)) rfl dX4_program_87 rfl ?_
              refine j_aload 92 C dX4_program_90 rfl 5 rfl ?_
              refine j_iload_n 93 C dX4_program_92 rfl 3 rfl ?_
              refine j_iload 95 C dX4_program_93 rfl 4 rfl ?_
              refine J.perm (pmR (vp_lt4 hk_6)) ?_
              refine j_callVi 98 C (List.take (3 + 2 * (p0).toNatClampNeg) (wM G h f v_1)) (mS G h f v_1 (p0).toNatClampNeg ++ mK G h f v_1) (fun f' v' => (List.take (3 + 2 * (p0).toNatClampNeg) (wM G h f v_1)) ++ (wSR G (jn h (3 + 2 * (p0).toNatClampNeg) 2 31) f' v' ++ (mS G h f v_1 (p0).toNatClampNeg ++ mK G h f v_1))) (As := [.ref (h (3 + 2 * (p0).toNatClampNeg)), .int p2, .int p3]) (m_X3_reads G (jn h (3 + 2 * (p0).toNatClampNeg) 2 31) p2 p3 (jn f (1 + (p0).toNatClampNeg) 1 23) (jn v_1 (3 + 2 * (p0).toNatClampNeg) 2 15) hq) oX3_reads kX4_69 ⟨rfl, rfl⟩ eX3_reads ⟨Nat.le_of_ble_eq_true rfl, Nat.le_of_ble_eq_true rfl⟩ ⟨Nat.zero_le _, Nat.zero_le _⟩ rfl (fun _ _ => rfl) (fun _ _ => rfl) 2 rfl rfl rfl (Nat.le_of_ble_eq_true rfl) dX4_program_95 rfl (fun r_33 f_34 v_35 hq => ?_)
              obtain ⟨f_36, ef_36⟩ : ∃ y : FF, y = mg (mg f (1 + (p0).toNatClampNeg) 1 f_34) 23 10 (sb f_34 1) := ⟨_, rfl⟩
              obtain ⟨v_37, ev_37⟩ : ∃ y : VV, y = mg (mg v_1 (3 + 2 * (p0).toNatClampNeg) 2 v_35) 15 4 (sb v_35 2) := ⟨_, rfl⟩
              replace hq := hq f_36 ef_36 v_37 ev_37
              refine J.perm (ws' := (wM G h f_36 v_37)) (by subst ef_36; subst ev_37; exact pmR' (vp_lt4 hk_6) _ _) ?_
              refine j_if_ne 101 112 C dX4_program_98 rfl rfl (fun c_38 => ?_) (fun c_38 => ?_)
              · replace hq := hq.1 c_38
                refine j_aload_n 113 C dX4_program_112 rfl 0 rfl ?_
                refine j_get 116 C uX4 0 rfl rfl 1 (Nat.le_of_ble_eq_true rfl) lX4_21 (v := .ref (h 11)) rfl dX4_program_113 rfl ?_
                refine j_aload_n 117 C dX4_program_116 rfl 0 rfl ?_
                refine j_get 120 C uX4 0 rfl rfl 3 (Nat.le_of_ble_eq_true rfl) lX4_31 (v := .ref (h 31)) rfl dX4_program_117 rfl ?_
                refine j_get 123 C uX3 31 rfl rfl 0 (Nat.le_of_ble_eq_true rfl) lX4_76 (v := .ref (h 33)) rfl dX4_program_120 rfl ?_
                refine J.perm pmB ?_
                refine j_callVv 126 C (mA G h f_36 v_37) ((mT G h f_36 v_37 ++ mR2 G h f_36 v_37) ++ mK G h f_36 v_37) (fun f' v' => (mA G h f_36 v_37) ++ (wPP G (jn h 11 10 33) f' v' ++ ((mT G h f_36 v_37 ++ mR2 G h f_36 v_37) ++ mK G h f_36 v_37))) (As := [.ref (h 33)]) (m_X1_becomeLike G (jn h 11 10 33) (jn f_36 5 9 24) (jn v_37 11 2 17) hq) oX1_becomeLike kX4_79 ⟨rfl, rfl⟩ eX1_becomeLike ⟨Nat.le_of_ble_eq_true rfl, Nat.le_of_ble_eq_true rfl⟩ ⟨Nat.zero_le _, Nat.zero_le _⟩ rfl (fun _ _ => rfl) (fun _ _ => rfl) 0 rfl rfl rfl (Nat.le_of_ble_eq_true rfl) dX4_program_123 rfl (fun f_41 v_42 hq => ?_)
                obtain ⟨f_43, ef_43⟩ : ∃ y : FF, y = mg (mg f_36 5 9 f_41) 24 9 (sb f_41 9) := ⟨_, rfl⟩
                obtain ⟨v_44, ev_44⟩ : ∃ y : VV, y = mg (mg v_37 11 2 v_42) 17 2 (sb v_42 2) := ⟨_, rfl⟩
                replace hq := hq f_43 ef_43 v_44 ev_44
                refine J.perm (ws' := (wM G h f_43 v_44)) (by subst ef_43; subst ev_44; exact pmB' _ _) ?_
                refine j_aload_n 127 C dX4_program_126 rfl 0 rfl ?_
                refine j_iconst 128 C dX4_program_127 rfl ic_0 ?_
                obtain ⟨v_45, ev_45⟩ : ∃ y : VV, y = fu v_44 0 (0 : Int32) := ⟨_, rfl⟩
                replace hq := hq v_45 ev_45
                refine j_put 131 C uX4 tyX4 tyX4_ok nmX4 0 rfl rfl 6 (Nat.le_of_ble_eq_true rfl) lX4_83 rfl rfl (Nat.le_of_ble_eq_true rfl) dX4_program_128 rfl (ws' := (wM G h f_43 v_45)) (by subst ev_45; rfl) ?_
                refine j_aload_n 132 C dX4_program_131 rfl 0 rfl ?_
                refine j_get 135 C uX4 0 rfl rfl 1 (Nat.le_of_ble_eq_true rfl) lX4_21 (v := .ref (h 11)) rfl dX4_program_132 rfl ?_
                refine j_callVi_ro 138 C (List.take 11 (wM G h f_43 v_45)) (List.drop 21 (wM G h f_43 v_45)) (As := []) (m_X1_mutants G (sb h 11) (sb f_43 5) (sb v_45 11) hq) oX1_mutants kX4_86 ⟨rfl, rfl⟩ eX1_mutants ⟨Nat.le_of_ble_eq_true rfl, Nat.le_of_ble_eq_true rfl⟩ ⟨Nat.zero_le _, Nat.zero_le _⟩ rfl (fun _ _ => rfl) 0 rfl rfl rfl (Nat.le_of_ble_eq_true rfl) dX4_program_135 rfl (fun r_46 hq => ?_)
                exact hR _ _ _ f_43 v_45 dX4_program_138 hq
              · replace hq := hq.2 c_38
                refine j_bipush 103 C dX4_program_101 rfl bc_m100 ?_
                refine j_aload_n 104 C dX4_program_103 rfl 0 rfl ?_
                refine j_get 107 C uX4 0 rfl rfl 3 (Nat.le_of_ble_eq_true rfl) lX4_31 (v := .ref (h 31)) rfl dX4_program_104 rfl ?_
                refine j_get 110 C uX3 31 rfl rfl 3 (Nat.le_of_ble_eq_true rfl) lX4_73 (v := .int (v_37 16)) rfl dX4_program_107 rfl ?_
                refine j_isub 111 C dX4_program_110 rfl ?_
                exact hR _ _ _ f_36 v_37 dX4_program_111 hq
            · replace hq := hq.2 c_31
              refine j_aload_n 80 C dX4_program_79 rfl 0 rfl ?_
              refine j_iload 82 C dX4_program_80 rfl 6 rfl ?_
              refine j_callVi 85 C [] [] (fun f' v' => (wM G h f' v')) (As := [.int r_7]) (m_X4_faulted G h r_7 f v_1 hq) oX4_faulted kX4_66 ⟨rfl, rfl⟩ eX4_faulted ⟨Nat.le_of_ble_eq_true rfl, Nat.le_of_ble_eq_true rfl⟩ ⟨Nat.zero_le _, Nat.zero_le _⟩ (List.append_nil _).symm (fun _ _ => List.append_nil _) (fun _ _ => rfl) 0 rfl rfl rfl (Nat.le_of_ble_eq_true rfl) dX4_program_82 rfl (fun r_47 f_48 v_49 hq => ?_)
              exact hR _ _ _ f_48 v_49 dX4_program_85 hq
          · replace hq := hq.2 c_30
            refine j_iconst 72 C dX4_program_71 rfl ic_3 ?_
            refine j_istore 74 C dX4_program_72 rfl (Nat.le_of_ble_eq_true rfl) [1, 2, 3, 4, 5, 6, 0] (lv' := [(0, .ref (h 0)), (1, .int p0), (2, .int p1), (3, .int p2), (4, .int p3), (5, .ref (h (3 + 2 * (p0).toNatClampNeg))), (6, .int (3 : Int32))]) rfl ?_
            refine j_iload 76 C dX4_program_74 rfl 6 rfl ?_
            refine j_if_eq 79 86 C dX4_program_76 rfl rfl (fun h9 => absurd h9 (by decide)) (fun _ => ?_)
            refine j_aload_n 80 C dX4_program_79 rfl 0 rfl ?_
            refine j_iload 82 C dX4_program_80 rfl 6 rfl ?_
            refine j_callVi 85 C [] [] (fun f' v' => (wM G h f' v')) (As := [.int (3 : Int32)]) (m_X4_faulted G h (3 : Int32) f v_1 hq) oX4_faulted kX4_66 ⟨rfl, rfl⟩ eX4_faulted ⟨Nat.le_of_ble_eq_true rfl, Nat.le_of_ble_eq_true rfl⟩ ⟨Nat.zero_le _, Nat.zero_le _⟩ (List.append_nil _).symm (fun _ _ => List.append_nil _) (fun _ _ => rfl) 0 rfl rfl rfl (Nat.le_of_ble_eq_true rfl) dX4_program_82 rfl (fun r_50 f_51 v_52 hq => ?_)
            exact hR _ _ _ f_51 v_52 dX4_program_85 hq
      · replace hq := hq.2 c_8
        refine j_iload 49 C dX4_program_47 rfl 4 rfl ?_
        refine j_if_ge 52 55 C dX4_program_49 rfl rfl (fun c_53 => ?_) (fun c_53 => ?_)
        · replace hq := hq.1 c_53
          refine j_iload 57 C dX4_program_55 rfl 6 rfl ?_
          refine j_if_ne 60 74 C dX4_program_57 rfl rfl (fun c_54 => ?_) (fun c_54 => ?_)
          · replace hq := hq.1 c_54
            refine j_iload 76 C dX4_program_74 rfl 6 rfl ?_
            refine j_if_eq 79 86 C dX4_program_76 rfl rfl (fun c_55 => ?_) (fun c_55 => ?_)
            · replace hq := hq.1 c_55
              refine j_aload_n 87 C dX4_program_86 rfl 0 rfl ?_
              refine j_get 90 C uX4 0 rfl rfl 3 (Nat.le_of_ble_eq_true rfl) lX4_31 (v := .ref (h 31)) rfl dX4_program_87 rfl ?_
              refine j_aload 92 C dX4_program_90 rfl 5 rfl ?_
              refine j_iload_n 93 C dX4_program_92 rfl 3 rfl ?_
              refine j_iload 95 C dX4_program_93 rfl 4 rfl ?_
              refine J.perm (pmR (vp_lt4 hk_6)) ?_
              refine j_callVi 98 C (List.take (3 + 2 * (p0).toNatClampNeg) (wM G h f v_1)) (mS G h f v_1 (p0).toNatClampNeg ++ mK G h f v_1) (fun f' v' => (List.take (3 + 2 * (p0).toNatClampNeg) (wM G h f v_1)) ++ (wSR G (jn h (3 + 2 * (p0).toNatClampNeg) 2 31) f' v' ++ (mS G h f v_1 (p0).toNatClampNeg ++ mK G h f v_1))) (As := [.ref (h (3 + 2 * (p0).toNatClampNeg)), .int p2, .int p3]) (m_X3_reads G (jn h (3 + 2 * (p0).toNatClampNeg) 2 31) p2 p3 (jn f (1 + (p0).toNatClampNeg) 1 23) (jn v_1 (3 + 2 * (p0).toNatClampNeg) 2 15) hq) oX3_reads kX4_69 ⟨rfl, rfl⟩ eX3_reads ⟨Nat.le_of_ble_eq_true rfl, Nat.le_of_ble_eq_true rfl⟩ ⟨Nat.zero_le _, Nat.zero_le _⟩ rfl (fun _ _ => rfl) (fun _ _ => rfl) 2 rfl rfl rfl (Nat.le_of_ble_eq_true rfl) dX4_program_95 rfl (fun r_57 f_58 v_59 hq => ?_)
              obtain ⟨f_60, ef_60⟩ : ∃ y : FF, y = mg (mg f (1 + (p0).toNatClampNeg) 1 f_58) 23 10 (sb f_58 1) := ⟨_, rfl⟩
              obtain ⟨v_61, ev_61⟩ : ∃ y : VV, y = mg (mg v_1 (3 + 2 * (p0).toNatClampNeg) 2 v_59) 15 4 (sb v_59 2) := ⟨_, rfl⟩
              replace hq := hq f_60 ef_60 v_61 ev_61
              refine J.perm (ws' := (wM G h f_60 v_61)) (by subst ef_60; subst ev_61; exact pmR' (vp_lt4 hk_6) _ _) ?_
              refine j_if_ne 101 112 C dX4_program_98 rfl rfl (fun c_62 => ?_) (fun c_62 => ?_)
              · replace hq := hq.1 c_62
                refine j_aload_n 113 C dX4_program_112 rfl 0 rfl ?_
                refine j_get 116 C uX4 0 rfl rfl 1 (Nat.le_of_ble_eq_true rfl) lX4_21 (v := .ref (h 11)) rfl dX4_program_113 rfl ?_
                refine j_aload_n 117 C dX4_program_116 rfl 0 rfl ?_
                refine j_get 120 C uX4 0 rfl rfl 3 (Nat.le_of_ble_eq_true rfl) lX4_31 (v := .ref (h 31)) rfl dX4_program_117 rfl ?_
                refine j_get 123 C uX3 31 rfl rfl 0 (Nat.le_of_ble_eq_true rfl) lX4_76 (v := .ref (h 33)) rfl dX4_program_120 rfl ?_
                refine J.perm pmB ?_
                refine j_callVv 126 C (mA G h f_60 v_61) ((mT G h f_60 v_61 ++ mR2 G h f_60 v_61) ++ mK G h f_60 v_61) (fun f' v' => (mA G h f_60 v_61) ++ (wPP G (jn h 11 10 33) f' v' ++ ((mT G h f_60 v_61 ++ mR2 G h f_60 v_61) ++ mK G h f_60 v_61))) (As := [.ref (h 33)]) (m_X1_becomeLike G (jn h 11 10 33) (jn f_60 5 9 24) (jn v_61 11 2 17) hq) oX1_becomeLike kX4_79 ⟨rfl, rfl⟩ eX1_becomeLike ⟨Nat.le_of_ble_eq_true rfl, Nat.le_of_ble_eq_true rfl⟩ ⟨Nat.zero_le _, Nat.zero_le _⟩ rfl (fun _ _ => rfl) (fun _ _ => rfl) 0 rfl rfl rfl (Nat.le_of_ble_eq_true rfl) dX4_program_123 rfl (fun f_65 v_66 hq => ?_)
                obtain ⟨f_67, ef_67⟩ : ∃ y : FF, y = mg (mg f_60 5 9 f_65) 24 9 (sb f_65 9) := ⟨_, rfl⟩
                obtain ⟨v_68, ev_68⟩ : ∃ y : VV, y = mg (mg v_61 11 2 v_66) 17 2 (sb v_66 2) := ⟨_, rfl⟩
                replace hq := hq f_67 ef_67 v_68 ev_68
                refine J.perm (ws' := (wM G h f_67 v_68)) (by subst ef_67; subst ev_68; exact pmB' _ _) ?_
                refine j_aload_n 127 C dX4_program_126 rfl 0 rfl ?_
                refine j_iconst 128 C dX4_program_127 rfl ic_0 ?_
                obtain ⟨v_69, ev_69⟩ : ∃ y : VV, y = fu v_68 0 (0 : Int32) := ⟨_, rfl⟩
                replace hq := hq v_69 ev_69
                refine j_put 131 C uX4 tyX4 tyX4_ok nmX4 0 rfl rfl 6 (Nat.le_of_ble_eq_true rfl) lX4_83 rfl rfl (Nat.le_of_ble_eq_true rfl) dX4_program_128 rfl (ws' := (wM G h f_67 v_69)) (by subst ev_69; rfl) ?_
                refine j_aload_n 132 C dX4_program_131 rfl 0 rfl ?_
                refine j_get 135 C uX4 0 rfl rfl 1 (Nat.le_of_ble_eq_true rfl) lX4_21 (v := .ref (h 11)) rfl dX4_program_132 rfl ?_
                refine j_callVi_ro 138 C (List.take 11 (wM G h f_67 v_69)) (List.drop 21 (wM G h f_67 v_69)) (As := []) (m_X1_mutants G (sb h 11) (sb f_67 5) (sb v_69 11) hq) oX1_mutants kX4_86 ⟨rfl, rfl⟩ eX1_mutants ⟨Nat.le_of_ble_eq_true rfl, Nat.le_of_ble_eq_true rfl⟩ ⟨Nat.zero_le _, Nat.zero_le _⟩ rfl (fun _ _ => rfl) 0 rfl rfl rfl (Nat.le_of_ble_eq_true rfl) dX4_program_135 rfl (fun r_70 hq => ?_)
                exact hR _ _ _ f_67 v_69 dX4_program_138 hq
              · replace hq := hq.2 c_62
                refine j_bipush 103 C dX4_program_101 rfl bc_m100 ?_
                refine j_aload_n 104 C dX4_program_103 rfl 0 rfl ?_
                refine j_get 107 C uX4 0 rfl rfl 3 (Nat.le_of_ble_eq_true rfl) lX4_31 (v := .ref (h 31)) rfl dX4_program_104 rfl ?_
                refine j_get 110 C uX3 31 rfl rfl 3 (Nat.le_of_ble_eq_true rfl) lX4_73 (v := .int (v_61 16)) rfl dX4_program_107 rfl ?_
                refine j_isub 111 C dX4_program_110 rfl ?_
                exact hR _ _ _ f_60 v_61 dX4_program_111 hq
            · replace hq := hq.2 c_55
              refine j_aload_n 80 C dX4_program_79 rfl 0 rfl ?_
              refine j_iload 82 C dX4_program_80 rfl 6 rfl ?_
              refine j_callVi 85 C [] [] (fun f' v' => (wM G h f' v')) (As := [.int r_7]) (m_X4_faulted G h r_7 f v_1 hq) oX4_faulted kX4_66 ⟨rfl, rfl⟩ eX4_faulted ⟨Nat.le_of_ble_eq_true rfl, Nat.le_of_ble_eq_true rfl⟩ ⟨Nat.zero_le _, Nat.zero_le _⟩ (List.append_nil _).symm (fun _ _ => List.append_nil _) (fun _ _ => rfl) 0 rfl rfl rfl (Nat.le_of_ble_eq_true rfl) dX4_program_82 rfl (fun r_71 f_72 v_73 hq => ?_)
              exact hR _ _ _ f_72 v_73 dX4_program_85 hq
          · replace hq := hq.2 c_54
            refine j_aload 62 C dX4_program_60 rfl 5 rfl ?_
            refine j_iload_n 63 C dX4_program_62 rfl 3 rfl ?_
            refine j_iload 65 C dX4_program_63 rfl 4 rfl ?_
            refine j_callVi_ro 68 C (List.take (3 + 2 * (p0).toNatClampNeg) (wM G h f v_1)) (List.drop (3 + 2 * (p0).toNatClampNeg + 2) (wM G h f v_1)) (As := [.int p2, .int p3]) (m_X2_hasCells G (sb h (3 + 2 * (p0).toNatClampNeg)) p2 p3 (sb f (1 + (p0).toNatClampNeg)) (sb v_1 (3 + 2 * (p0).toNatClampNeg)) hq) oX2_hasCells kX4_62 ⟨rfl, rfl⟩ eX2_hasCells ⟨Nat.le_of_ble_eq_true rfl, Nat.le_of_ble_eq_true rfl⟩ ⟨Nat.zero_le _, Nat.zero_le _⟩ (shS (vp_lt4 hk_6)) (fun _ _ => rfl) 0 rfl rfl rfl (Nat.le_of_ble_eq_true rfl) dX4_program_65 rfl (fun r_74 hq => ?_)
            refine j_if_ne 71 74 C dX4_program_68 rfl rfl (fun c_75 => ?_) (fun c_75 => ?_)
            · replace hq := hq.1 c_75
              refine j_iload 76 C dX4_program_74 rfl 6 rfl ?_
              refine j_if_eq 79 86 C dX4_program_76 rfl rfl (fun c_76 => ?_) (fun c_76 => ?_)
              · replace hq := hq.1 c_76
                refine j_aload_n 87 C dX4_program_86 rfl 0 rfl ?_
                refine j_get 90 C uX4 0 rfl rfl 3 (Nat.le_of_ble_eq_true rfl) lX4_31 (v := .ref (h 31)) rfl dX4_program_87 rfl ?_
                refine j_aload 92 C dX4_program_90 rfl 5 rfl ?_
                refine j_iload_n 93 C dX4_program_92 rfl 3 rfl ?_
                refine j_iload 95 C dX4_program_93 rfl 4 rfl ?_
                refine J.perm (pmR (vp_lt4 hk_6)) ?_
                refine j_callVi 98 C (List.take (3 + 2 * (p0).toNatClampNeg) (wM G h f v_1)) (mS G h f v_1 (p0).toNatClampNeg ++ mK G h f v_1) (fun f' v' => (List.take (3 + 2 * (p0).toNatClampNeg) (wM G h f v_1)) ++ (wSR G (jn h (3 + 2 * (p0).toNatClampNeg) 2 31) f' v' ++ (mS G h f v_1 (p0).toNatClampNeg ++ mK G h f v_1))) (As := [.ref (h (3 + 2 * (p0).toNatClampNeg)), .int p2, .int p3]) (m_X3_reads G (jn h (3 + 2 * (p0).toNatClampNeg) 2 31) p2 p3 (jn f (1 + (p0).toNatClampNeg) 1 23) (jn v_1 (3 + 2 * (p0).toNatClampNeg) 2 15) hq) oX3_reads kX4_69 ⟨rfl, rfl⟩ eX3_reads ⟨Nat.le_of_ble_eq_true rfl, Nat.le_of_ble_eq_true rfl⟩ ⟨Nat.zero_le _, Nat.zero_le _⟩ rfl (fun _ _ => rfl) (fun _ _ => rfl) 2 rfl rfl rfl (Nat.le_of_ble_eq_true rfl) dX4_program_95 rfl (fun r_78 f_79 v_80 hq => ?_)
                obtain ⟨f_81, ef_81⟩ : ∃ y : FF, y = mg (mg f (1 + (p0).toNatClampNeg) 1 f_79) 23 10 (sb f_79 1) := ⟨_, rfl⟩
                obtain ⟨v_82, ev_82⟩ : ∃ y : VV, y = mg (mg v_1 (3 + 2 * (p0).toNatClampNeg) 2 v_80) 15 4 (sb v_80 2) := ⟨_, rfl⟩
                replace hq := hq f_81 ef_81 v_82 ev_82
                refine J.perm (ws' := (wM G h f_81 v_82)) (by subst ef_81; subst ev_82; exact pmR' (vp_lt4 hk_6) _ _) ?_
                refine j_if_ne 101 112 C dX4_program_98 rfl rfl (fun c_83 => ?_) (fun c_83 => ?_)
                · replace hq := hq.1 c_83
                  refine j_aload_n 113 C dX4_program_112 rfl 0 rfl ?_
                  refine j_get 116 C uX4 0 rfl rfl 1 (Nat.le_of_ble_eq_true rfl) lX4_21 (v := .ref (h 11)) rfl dX4_program_113 rfl ?_
                  refine j_aload_n 117 C dX4_program_116 rfl 0 rfl ?_
                  refine j_get 120 C uX4 0 rfl rfl 3 (Nat.le_of_ble_eq_true rfl) lX4_31 (v := .ref (h 31)) rfl dX4_program_117 rfl ?_
                  refine j_get 123 C uX3 31 rfl rfl 0 (Nat.le_of_ble_eq_true rfl) lX4_76 (v := .ref (h 33)) rfl dX4_program_120 rfl ?_
                  refine J.perm pmB ?_
                  refine j_callVv 126 C (mA G h f_81 v_82) ((mT G h f_81 v_82 ++ mR2 G h f_81 v_82) ++ mK G h f_81 v_82) (fun f' v' => (mA G h f_81 v_82) ++ (wPP G (jn h 11 10 33) f' v' ++ ((mT G h f_81 v_82 ++ mR2 G h f_81 v_82) ++ mK G h f_81 v_82))) (As := [.ref (h 33)]) (m_X1_becomeLike G (jn h 11 10 33) (jn f_81 5 9 24) (jn v_82 11 2 17) hq) oX1_becomeLike kX4_79 ⟨rfl, rfl⟩ eX1_becomeLike ⟨Nat.le_of_ble_eq_true rfl, Nat.le_of_ble_eq_true rfl⟩ ⟨Nat.zero_le _, Nat.zero_le _⟩ rfl (fun _ _ => rfl) (fun _ _ => rfl) 0 rfl rfl rfl (Nat.le_of_ble_eq_true rfl) dX4_program_123 rfl (fun f_86 v_87 hq => ?_)
                  obtain ⟨f_88, ef_88⟩ : ∃ y : FF, y = mg (mg f_81 5 9 f_86) 24 9 (sb f_86 9) := ⟨_, rfl⟩
                  obtain ⟨v_89, ev_89⟩ : ∃ y : VV, y = mg (mg v_82 11 2 v_87) 17 2 (sb v_87 2) := ⟨_, rfl⟩
                  replace hq := hq f_88 ef_88 v_89 ev_89
                  refine J.perm (ws' := (wM G h f_88 v_89)) (by subst ef_88; subst ev_89; exact pmB' _ _) ?_
                  refine j_aload_n 127 C dX4_program_126 rfl 0 rfl ?_
                  refine j_iconst 128 C dX4_program_127 rfl ic_0 ?_
                  obtain ⟨v_90, ev_90⟩ : ∃ y : VV, y = fu v_89 0 (0 : Int32) := ⟨_, rfl⟩
                  replace hq := hq v_90 ev_90
                  refine j_put 131 C uX4 tyX4 tyX4_ok nmX4 0 rfl rfl 6 (Nat.le_of_ble_eq_true rfl) lX4_83 rfl rfl (Nat.le_of_ble_eq_true rfl) dX4_program_128 rfl (ws' := (wM G h f_88 v_90)) (by subst ev_90; rfl) ?_
                  refine j_aload_n 132 C dX4_program_131 rfl 0 rfl ?_
                  refine j_get 135 C uX4 0 rfl rfl 1 (Nat.le_of_ble_eq_true rfl) lX4_21 (v := .ref (h 11)) rfl dX4_program_132 rfl ?_
                  refine j_callVi_ro 138 C (List.take 11 (wM G h f_88 v_90)) (List.drop 21 (wM G h f_88 v_90)) (As := []) (m_X1_mutants G (sb h 11) (sb f_88 5) (sb v_90 11) hq) oX1_mutants kX4_86 ⟨rfl, rfl⟩ eX1_mutants ⟨Nat.le_of_ble_eq_true rfl, Nat.le_of_ble_eq_true rfl⟩ ⟨Nat.zero_le _, Nat.zero_le _⟩ rfl (fun _ _ => rfl) 0 rfl rfl rfl (Nat.le_of_ble_eq_true rfl) dX4_program_135 rfl (fun r_91 hq => ?_)
                  exact hR _ _ _ f_88 v_90 dX4_program_138 hq
                · replace hq := hq.2 c_83
                  refine j_bipush 103 C dX4_program_101 rfl bc_m100 ?_
                  refine j_aload_n 104 C dX4_program_103 rfl 0 rfl ?_
                  refine j_get 107 C uX4 0 rfl rfl 3 (Nat.le_of_ble_eq_true rfl) lX4_31 (v := .ref (h 31)) rfl dX4_program_104 rfl ?_
                  refine j_get 110 C uX3 31 rfl rfl 3 (Nat.le_of_ble_eq_true rfl) lX4_73 (v := .int (v_82 16)) rfl dX4_program_107 rfl ?_
                  refine j_isub 111 C dX4_program_110 rfl ?_
                  exact hR _ _ _ f_81 v_82 dX4_program_111 hq
              · replace hq := hq.2 c_76
                refine j_aload_n 80 C dX4_program_79 rfl 0 rfl ?_
                refine j_iload 82 C dX4_program_80 rfl 6 rfl ?_
                refine j_callVi 85 C [] [] (fun f' v' => (wM G h f' v')) (As := [.int r_7]) (m_X4_faulted G h r_7 f v_1 hq) oX4_faulted kX4_66 ⟨rfl, rfl⟩ eX4_faulted ⟨Nat.le_of_ble_eq_true rfl, Nat.le_of_ble_eq_true rfl⟩ ⟨Nat.zero_le _, Nat.zero_le _⟩ (List.append_nil _).symm (fun _ _ => List.append_nil _) (fun _ _ => rfl) 0 rfl rfl rfl (Nat.le_of_ble_eq_true rfl) dX4_program_82 rfl (fun r_92 f_93 v_94 hq => ?_)
                exact hR _ _ _ f_93 v_94 dX4_program_85 hq
            · replace hq := hq.2 c_75
              refine j_iconst 72 C dX4_program_71 rfl ic_3 ?_
              refine j_istore 74 C dX4_program_72 rfl (Nat.le_of_ble_eq_true rfl) [1, 2, 3, 4, 5, 6, 0] (lv' := [(0, .ref (h 0)), (1, .int p0), (2, .int p1), (3, .int p2), (4, .int p3), (5, .ref (h (3 + 2 * (p0).toNatClampNeg))), (6, .int (3 : Int32))]) rfl ?_
              refine j_iload 76 C dX4_program_74 rfl 6 rfl ?_
              refine j_if_eq 79 86 C dX4_program_76 rfl rfl (fun h9 => absurd h9 (by decide)) (fun _ => ?_)
              refine j_aload_n 80 C dX4_program_79 rfl 0 rfl ?_
              refine j_iload 82 C dX4_program_80 rfl 6 rfl ?_
              refine j_callVi 85 C [] [] (fun f' v' => (wM G h f' v')) (As := [.int (3 : Int32)]) (m_X4_faulted G h (3 : Int32) f v_1 hq) oX4_faulted kX4_66 ⟨rfl, rfl⟩ eX4_faulted ⟨Nat.le_of_ble_eq_true rfl, Nat.le_of_ble_eq_true rfl⟩ ⟨Nat.zero_le _, Nat.zero_le _⟩ (List.append_nil _).symm (fun _ _ => List.append_nil _) (fun _ _ => rfl) 0 rfl rfl rfl (Nat.le_of_ble_eq_true rfl) dX4_program_82 rfl (fun r_95 f_96 v_97 hq => ?_)
              exact hR _ _ _ f_96 v_97 dX4_program_85 hq
        · replace hq := hq.2 c_53
          refine j_iconst 53 C dX4_program_52 rfl ic_4 ?_
          refine j_istore 55 C dX4_program_53 rfl (Nat.le_of_ble_eq_true rfl) [1, 2, 3, 4, 5, 6, 0] (lv' := [(0, .ref (h 0)), (1, .int p0), (2, .int p1), (3, .int p2), (4, .int p3), (5, .ref (h (3 + 2 * (p0).toNatClampNeg))), (6, .int (4 : Int32))]) rfl ?_
          refine j_iload 57 C dX4_program_55 rfl 6 rfl ?_
          refine j_if_ne 60 74 C dX4_program_57 rfl rfl (fun _ => ?_) (fun h9 => absurd h9 (by decide))
          refine j_iload 76 C dX4_program_74 rfl 6 rfl ?_
          refine j_if_eq 79 86 C dX4_program_76 rfl rfl (fun h9 => absurd h9 (by decide)) (fun _ => ?_)
          refine j_aload_n 80 C dX4_program_79 rfl 0 rfl ?_
          refine j_iload 82 C dX4_program_80 rfl 6 rfl ?_
          refine j_callVi 85 C [] [] (fun f' v' => (wM G h f' v')) (As := [.int (4 : Int32)]) (m_X4_faulted G h (4 : Int32) f v_1 hq) oX4_faulted kX4_66 ⟨rfl, rfl⟩ eX4_faulted ⟨Nat.le_of_ble_eq_true rfl, Nat.le_of_ble_eq_true rfl⟩ ⟨Nat.zero_le _, Nat.zero_le _⟩ (List.append_nil _).symm (fun _ _ => List.append_nil _) (fun _ _ => rfl) 0 rfl rfl rfl (Nat.le_of_ble_eq_true rfl) dX4_program_82 rfl (fun r_98 f_99 v_100 hq => ?_)
          exact hR _ _ _ f_99 v_100 dX4_program_85 hq
    · replace hq := hq.2 c_5
      refine j_bipush 25 C dX4_program_23 rfl bc_m2 ?_
      exact hR _ _ _ f v_1 dX4_program_25 hq
  · replace hq := hq.2 c_3
    refine j_iconst 13 C dX4_program_12 rfl ic_m1 ?_
    exact hR _ _ _ f v_1 dX4_program_13 hq
def Q_X4_ofStep (p0 : Int32) (p1 : Int32) (f : FF) (v : VV) (post : Int32 → Prop) : Prop := Q_X1_hasStep p0 (sb f 5) (sb v 11) (fun r_1 => (((¬ r_1 = 0 → (((p1 = (0 : Int32) → (vp_in p0 5 ∧ (post ((f 5) (p0).toNatClampNeg)))) ∧ (¬ p1 = (0 : Int32) → (((p1 = (1 : Int32) → (vp_in p0 5 ∧ (post ((f 6) (p0).toNatClampNeg)))) ∧ (¬ p1 = (1 : Int32) → (((p1 = (2 : Int32) → (vp_in p0 5 ∧ (post ((f 7) (p0).toNatClampNeg)))) ∧ (¬ p1 = (2 : Int32) → (post (-2 : Int32)))))))))))) ∧ (r_1 = 0 → (post (-1 : Int32))))))
set_option maxRecDepth 100000 in
set_option maxHeartbeats 4000000 in
theorem m_X4_ofStep {l : Launch} (G : Gx) (h : Nat → Nat) (p0 : Int32) (p1 : Int32) (f : FF) (v : VV) {post : Int32 → Prop} (hq : Q_X4_ofStep p0 p1 f v post) : MetI l yX4_ofStep (gC yX4_ofStep cX4_ofStep 3 (some .int)) rmX4_ofStep G [.ref (h 0), .int p0, .int p1] (wM G h) f v (fun r f' v' => post r ∧ f' = f ∧ v' = v) := by
  refine met_i (own := RX4) (by decide) rfl (Nat.le_of_ble_eq_true rfl) (fun κ hκ C hR => ?_)
  unfold Q_X4_ofStep at hq
  subst hκ
  show J κ 0 0 (wM G h f v) 0 [(0, .ref (h 0)), (1, .int p0), (2, .int p1)] []
  refine j_aload_n 1 C dX4_ofStep_0 rfl 0 rfl ?_
  refine j_get 4 C uX4 0 rfl rfl 1 (Nat.le_of_ble_eq_true rfl) lX4_21 (v := .ref (h 11)) rfl dX4_ofStep_1 rfl ?_
  refine j_iload_n 5 C dX4_ofStep_4 rfl 1 rfl ?_
  refine j_callVi_ro 8 C (List.take 11 (wM G h f v)) (List.drop 21 (wM G h f v)) (As := [.int p0]) (m_X1_hasStep G (sb h 11) p0 (sb f 5) (sb v 11) hq) oX1_hasStep kX4_90 ⟨rfl, rfl⟩ eX1_hasStep ⟨Nat.le_of_ble_eq_true rfl, Nat.le_of_ble_eq_true rfl⟩ ⟨Nat.zero_le _, Nat.zero_le _⟩ rfl (fun _ _ => rfl) 0 rfl rfl rfl (Nat.le_of_ble_eq_true rfl) dX4_ofStep_5 rfl (fun r_1 hq => ?_)
  refine j_if_ne 11 13 C dX4_ofStep_8 rfl rfl (fun c_2 => ?_) (fun c_2 => ?_)
  · replace hq := hq.1 c_2
    refine j_iload_n 14 C dX4_ofStep_13 rfl 2 rfl ?_
    by_cases c_3 : p1 = (0 : Int32)
    · replace hq := hq.1 c_3
      refine j_tableIn 40 C (0 : Int32) dX4_ofStep_14 c_3 (by decide) (by decide) rfl rfl ?_
      refine j_aload_n 41 C dX4_ofStep_40 rfl 0 rfl ?_
      refine j_get 44 C uX4 0 rfl rfl 1 (Nat.le_of_ble_eq_true rfl) lX4_21 (v := .ref (h 11)) rfl dX4_ofStep_41 rfl ?_
      refine j_get 47 C uX1 11 rfl rfl 0 (Nat.le_of_ble_eq_true rfl) lX4_93 (v := .ref (h 12)) rfl dX4_ofStep_44 rfl ?_
      refine j_iload_n 48 C dX4_ofStep_47 rfl 1 rfl ?_
      obtain ⟨hi_4, hq⟩ := hq
      refine j_iald 49 C 12 (f := (f 5)) rfl hi_4 dX4_ofStep_48 rfl ?_
      exact hR _ _ _ f v dX4_ofStep_49 ⟨hq, rfl, rfl⟩
    · replace hq := hq.2 c_3
      by_cases c_5 : p1 = (1 : Int32)
      · replace hq := hq.1 c_5
        refine j_tableIn 50 C (1 : Int32) dX4_ofStep_14 c_5 (by decide) (by decide) rfl rfl ?_
        refine j_aload_n 51 C dX4_ofStep_50 rfl 0 rfl ?_
        refine j_get 54 C uX4 0 rfl rfl 1 (Nat.le_of_ble_eq_true rfl) lX4_21 (v := .ref (h 11)) rfl dX4_ofStep_51 rfl ?_
        refine j_get 57 C uX1 11 rfl rfl 1 (Nat.le_of_ble_eq_true rfl) lX4_96 (v := .ref (h 13)) rfl dX4_ofStep_54 rfl ?_
        refine j_iload_n 58 C dX4_ofStep_57 rfl 1 rfl ?_
        obtain ⟨hi_6, hq⟩ := hq
        refine j_iald 59 C 13 (f := (f 6)) rfl hi_6 dX4_ofStep_58 rfl ?_
        exact hR _ _ _ f v dX4_ofStep_59 ⟨hq, rfl, rfl⟩
      · replace hq := hq.2 c_5
        by_cases c_7 : p1 = (2 : Int32)
        · replace hq := hq.1 c_7
          refine j_tableIn 60 C (2 : Int32) dX4_ofStep_14 c_7 (by decide) (by decide) rfl rfl ?_
          refine j_aload_n 61 C dX4_ofStep_60 rfl 0 rfl ?_
          refine j_get 64 C uX4 0 rfl rfl 1 (Nat.le_of_ble_eq_true rfl) lX4_21 (v := .ref (h 11)) rfl dX4_ofStep_61 rfl ?_
          refine j_get 67 C uX1 11 rfl rfl 2 (Nat.le_of_ble_eq_true rfl) lX4_99 (v := .ref (h 14)) rfl dX4_ofStep_64 rfl ?_
          refine j_iload_n 68 C dX4_ofStep_67 rfl 1 rfl ?_
          obtain ⟨hi_8, hq⟩ := hq
          refine j_iald 69 C 14 (f := (f 7)) rfl hi_8 dX4_ofStep_68 rfl ?_
          exact hR _ _ _ f v dX4_ofStep_69 ⟨hq, rfl, rfl⟩
        · replace hq := hq.2 c_7
          have zc_3 := ne_toInt (z := 0) (by decide) c_3
          have zc_5 := ne_toInt (z := 1) (by decide) c_5
          have zc_7 := ne_toInt (z := 2) (by decide) c_7
          refine j_tableOut 70 C dX4_ofStep_14 (by omega) rfl ?_
          refine j_bipush 72 C dX4_ofStep_70 rfl bc_m2 ?_
          exact hR _ _ _ f v dX4_ofStep_72 ⟨hq, rfl, rfl⟩
  · replace hq := hq.2 c_2
    refine j_iconst 12 C dX4_ofStep_11 rfl ic_m1 ?_
    exact hR _ _ _ f v dX4_ofStep_12 ⟨hq, rfl, rfl⟩
def Q_X4_ofTest (p0 : Int32) (p1 : Int32) (f : FF) (v : VV) (post : Int32 → FF → VV → Prop) : Prop := Q_X1_hasTest p0 (sb f 5) (sb v 11) (fun r_1 => (((¬ r_1 = 0 → (((p1 = (0 : Int32) → (vp_in p0 7 ∧ (post ((f 8) (p0).toNatClampNeg) f v))) ∧ (¬ p1 = (0 : Int32) → (((p1 = (1 : Int32) → (vp_in p0 7 ∧ (post ((f 9) (p0).toNatClampNeg) f v))) ∧ (¬ p1 = (1 : Int32) → (((p1 = (2 : Int32) → (Q_X1_weight p0 (sb f 5) (sb v 11) (fun r_8 => (post r_8 f v)))) ∧ (¬ p1 = (2 : Int32) → (((p1 = (3 : Int32) → (vp_in p0 7 ∧ (post ((f 10) (p0).toNatClampNeg) f v))) ∧ (¬ p1 = (3 : Int32) → (((p1 = (4 : Int32) → (vp_in p0 7 ∧ (post ((f 11) (p0).toNatClampNeg) f v))) ∧ (¬ p1 = (4 : Int32) → (((p1 = (5 : Int32) → (Q_X1_runTest p0 (sb f 5) (sb v 11) (fun r_14 f_15 v_16 => (∀ f_17 : FF, f_17 = mg f 5 9 f_15 → (∀ v_18 : VV, v_18 = mg v 11 2 v_16 → (post r_14 f_17 v_18)))))) ∧ (¬ p1 = (5 : Int32) → (((p1 = (6 : Int32) → (Q_X1_killedByTest p0 (sb f 5) (sb v 11) (fun r_20 f_21 v_22 => (∀ f_23 : FF, f_23 = mg f 5 9 f_21 → (∀ v_24 : VV, v_24 = mg v 11 2 v_22 → (post r_20 f_23 v_24)))))) ∧ (¬ p1 = (6 : Int32) → (post (-2 : Int32) f v))))))))))))))))))))))) ∧ (r_1 = 0 → (post (-1 : Int32) f v)))))
set_option maxRecDepth 100000 in
set_option maxHeartbeats 4000000 in
theorem m_X4_ofTest {l : Launch} (G : Gx) (h : Nat → Nat) (p0 : Int32) (p1 : Int32) (f : FF) (v : VV) {post : Int32 → FF → VV → Prop} (hq : Q_X4_ofTest p0 p1 f v post) : MetI l yX4_ofTest (gC yX4_ofTest cX4_ofTest 3 (some .int)) rmX4_ofTest G [.ref (h 0), .int p0, .int p1] (wM G h) f v post := by
  refine met_i (own := RX4) (by decide) rfl (Nat.le_of_ble_eq_true rfl) (fun κ hκ C hR => ?_)
  unfold Q_X4_ofTest at hq
  subst hκ
  show J κ 0 0 (wM G h f v) 0 [(0, .ref (h 0)), (1, .int p0), (2, .int p1)] []
  refine j_aload_n 1 C dX4_ofTest_0 rfl 0 rfl ?_
  refine j_get 4 C uX4 0 rfl rfl 1 (Nat.le_of_ble_eq_true rfl) lX4_21 (v := .ref (h 11)) rfl dX4_ofTest_1 rfl ?_
  refine j_iload_n 5 C dX4_ofTest_4 rfl 1 rfl ?_
  refine j_callVi_ro 8 C (List.take 11 (wM G h f v)) (List.drop 21 (wM G h f v)) (As := [.int p0]) (m_X1_hasTest G (sb h 11) p0 (sb f 5) (sb v 11) hq) oX1_hasTest kX4_102 ⟨rfl, rfl⟩ eX1_hasTest ⟨Nat.le_of_ble_eq_true rfl, Nat.le_of_ble_eq_true rfl⟩ ⟨Nat.zero_le _, Nat.zero_le _⟩ rfl (fun _ _ => rfl) 0 rfl rfl rfl (Nat.le_of_ble_eq_true rfl) dX4_ofTest_5 rfl (fun r_1 hq => ?_)
  refine j_if_ne 11 13 C dX4_ofTest_8 rfl rfl (fun c_2 => ?_) (fun c_2 => ?_)
  · replace hq := hq.1 c_2
    refine j_iload_n 14 C dX4_ofTest_13 rfl 2 rfl ?_
    by_cases c_3 : p1 = (0 : Int32)
    · replace hq := hq.1 c_3
      refine j_tableIn 56 C (0 : Int32) dX4_ofTest_14 c_3 (by decide) (by decide) rfl rfl ?_
      refine j_aload_n 57 C dX4_ofTest_56 rfl 0 rfl ?_
      refine j_get 60 C uX4 0 rfl rfl 1 (Nat.le_of_ble_eq_true rfl) lX4_21 (v := .ref (h 11)) rfl dX4_ofTest_57 rfl ?_
      refine j_get 63 C uX1 11 rfl rfl 4 (Nat.le_of_ble_eq_true rfl) lX4_105 (v := .ref (h 15)) rfl dX4_ofTest_60 rfl ?_
      refine j_iload_n 64 C dX4_ofTest_63 rfl 1 rfl ?_
      obtain ⟨hi_4, hq⟩ := hq
      refine j_iald 65 C 15 (f := (f 8)) rfl hi_4 dX4_ofTest_64 rfl ?_
      exact hR _ _ _ f v dX4_ofTest_65 hq
    · replace hq := hq.2 c_3
      by_cases c_5 : p1 = (1 : Int32)
      · replace hq := hq.1 c_5
        refine j_tableIn 66 C (1 : Int32) dX4_ofTest_14 c_5 (by decide) (by decide) rfl rfl ?_
        refine j_aload_n 67 C dX4_ofTest_66 rfl 0 rfl ?_
        refine j_get 70 C uX4 0 rfl rfl 1 (Nat.le_of_ble_eq_true rfl) lX4_21 (v := .ref (h 11)) rfl dX4_ofTest_67 rfl ?_
        refine j_get 73 C uX1 11 rfl rfl 5 (Nat.le_of_ble_eq_true rfl) lX4_108 (v := .ref (h 16)) rfl dX4_ofTest_70 rfl ?_
        refine j_iload_n 74 C dX4_ofTest_73 rfl 1 rfl ?_
        obtain ⟨hi_6, hq⟩ := hq
        refine j_iald 75 C 16 (f := (f 9)) rfl hi_6 dX4_ofTest_74 rfl ?_
        exact hR _ _ _ f v dX4_ofTest_75 hq
      · replace hq := hq.2 c_5
        by_cases c_7 : p1 = (2 : Int32)
        · replace hq := hq.1 c_7
          refine j_tableIn 76 C (2 : Int32) dX4_ofTest_14 c_7 (by decide) (by decide) rfl rfl ?_
          refine j_aload_n 77 C dX4_ofTest_76 rfl 0 rfl ?_
          refine j_get 80 C uX4 0 rfl rfl 1 (Nat.le_of_ble_eq_true rfl) lX4_21 (v := .ref (h 11)) rfl dX4_ofTest_77 rfl ?_
          refine j_iload_n 81 C dX4_ofTest_80 rfl 1 rfl ?_
          refine j_callVi_ro 84 C (List.take 11 (wM G h f v)) (List.drop 21 (wM G h f v)) (As := [.int p0]) (m_X1_weight G (sb h 11) p0 (sb f 5) (sb v 11) hq) oX1_weight kX4_111 ⟨rfl, rfl⟩ eX1_weight ⟨Nat.le_of_ble_eq_true rfl, Nat.le_of_ble_eq_true rfl⟩ ⟨Nat.zero_le _, Nat.zero_le _⟩ rfl (fun _ _ => rfl) 0 rfl rfl rfl (Nat.le_of_ble_eq_true rfl) dX4_ofTest_81 rfl (fun r_8 hq => ?_)
          exact hR _ _ _ f v dX4_ofTest_84 hq
        · replace hq := hq.2 c_7
          by_cases c_9 : p1 = (3 : Int32)
          · replace hq := hq.1 c_9
            refine j_tableIn 85 C (3 : Int32) dX4_ofTest_14 c_9 (by decide) (by decide) rfl rfl ?_
            refine j_aload_n 86 C dX4_ofTest_85 rfl 0 rfl ?_
            refine j_get 89 C uX4 0 rfl rfl 1 (Nat.le_of_ble_eq_true rfl) lX4_21 (v := .ref (h 11)) rfl dX4_ofTest_86 rfl ?_
            refine j_get 92 C uX1 11 rfl rfl 6 (Nat.le_of_ble_eq_true rfl) lX4_114 (v := .ref (h 17)) rfl dX4_ofTest_89 rfl ?_
            refine j_iload_n 93 C dX4_ofTest_92 rfl 1 rfl ?_
            obtain ⟨hi_10, hq⟩ := hq
            refine j_iald 94 C 17 (f := (f 10)) rfl hi_10 dX4_ofTest_93 rfl ?_
            exact hR _ _ _ f v dX4_ofTest_94 hq
          · replace hq := hq.2 c_9
            by_cases c_11 : p1 = (4 : Int32)
            · replace hq := hq.1 c_11
              refine j_tableIn 95 C (4 : Int32) dX4_ofTest_14 c_11 (by decide) (by decide) rfl rfl ?_
              refine j_aload_n 96 C dX4_ofTest_95 rfl 0 rfl ?_
              refine j_get 99 C uX4 0 rfl rfl 1 (Nat.le_of_ble_eq_true rfl) lX4_21 (v := .ref (h 11)) rfl dX4_ofTest_96 rfl ?_
              refine j_get 102 C uX1 11 rfl rfl 7 (Nat.le_of_ble_eq_true rfl) lX4_117 (v := .ref (h 18)) rfl dX4_ofTest_99 rfl ?_
              refine j_iload_n 103 C dX4_ofTest_102 rfl 1 rfl ?_
              obtain ⟨hi_12, hq⟩ := hq
              refine j_iald 104 C 18 (f := (f 11)) rfl hi_12 dX4_ofTest_103 rfl ?_
              exact hR _ _ _ f v dX4_ofTest_104 hq
            · replace hq := hq.2 c_11
              by_cases c_13 : p1 = (5 : Int32)
              · replace hq := hq.1 c_13
                refine j_tableIn 105 C (5 : Int32) dX4_ofTest_14 c_13 (by decide) (by decide) rfl rfl ?_
                refine j_aload_n 106 C dX4_ofTest_105 rfl 0 rfl ?_
                refine j_get 109 C uX4 0 rfl rfl 1 (Nat.le_of_ble_eq_true rfl) lX4_21 (v := .ref (h 11)) rfl dX4_ofTest_106 rfl ?_
                refine j_iload_n 110 C dX4_ofTest_109 rfl 1 rfl ?_
                refine j_callVi 113 C (List.take 11 (wM G h f v)) (List.drop 21 (wM G h f v)) (fun f' v' => (wM G h (mg f 5 9 f') (mg v 11 2 v'))) (As := [.int p0]) (m_X1_runTest G (sb h 11) p0 (sb f 5) (sb v 11) hq) oX1_runTest kX4_120 ⟨rfl, rfl⟩ eX1_runTest ⟨Nat.le_of_ble_eq_true rfl, Nat.le_of_ble_eq_true rfl⟩ ⟨Nat.zero_le _, Nat.zero_le _⟩ rfl (fun _ _ => rfl) (fun _ _ => rfl) 0 rfl rfl rfl (Nat.le_of_ble_eq_true rfl) dX4_ofTest_110 rfl (fun r_14 f_15 v_16 hq => ?_)
                obtain ⟨f_17, ef_17⟩ : ∃ y : FF, y = mg f 5 9 f_15 := ⟨_, rfl⟩
                obtain ⟨v_18, ev_18⟩ : ∃ y : VV, y = mg v 11 2 v_16 := ⟨_, rfl⟩
                replace hq := hq f_17 ef_17 v_18 ev_18
                refine J.w0 (ws' := (wM G h f_17 v_18)) (by subst ef_17; subst ev_18; rfl) ?_
                exact hR _ _ _ f_17 v_18 dX4_ofTest_113 hq
              · replace hq := hq.2 c_13
                by_cases c_19 : p1 = (6 : Int32)
                · replace hq := hq.1 c_19
                  refine j_tableIn 114 C (6 : Int32) dX4_ofTest_14 c_19 (by decide) (by decide) rfl rfl ?_
                  refine j_aload_n 115 C dX4_ofTest_114 rfl 0 rfl ?_
                  refine j_get 118 C uX4 0 rfl rfl 1 (Nat.le_of_ble_eq_true rfl) lX4_21 (v := .ref (h 11)) rfl dX4_ofTest_115 rfl ?_
                  refine j_iload_n 119 C dX4_ofTest_118 rfl 1 rfl ?_
                  refine j_callVi 122 C (List.take 11 (wM G h f v)) (List.drop 21 (wM G h f v)) (fun f' v' => (wM G h (mg f 5 9 f') (mg v 11 2 v'))) (As := [.int p0]) (m_X1_killedByTest G (sb h 11) p0 (sb f 5) (sb v 11) hq) oX1_killedByTest kX4_123 ⟨rfl, rfl⟩ eX1_killedByTest ⟨Nat.le_of_ble_eq_true rfl, Nat.le_of_ble_eq_true rfl⟩ ⟨Nat.zero_le _, Nat.zero_le _⟩ rfl (fun _ _ => rfl) (fun _ _ => rfl) 0 rfl rfl rfl (Nat.le_of_ble_eq_true rfl) dX4_ofTest_119 rfl (fun r_20 f_21 v_22 hq => ?_)
                  obtain ⟨f_23, ef_23⟩ : ∃ y : FF, y = mg f 5 9 f_21 := ⟨_, rfl⟩
                  obtain ⟨v_24, ev_24⟩ : ∃ y : VV, y = mg v 11 2 v_22 := ⟨_, rfl⟩
                  replace hq := hq f_23 ef_23 v_24 ev_24
                  refine J.w0 (ws' := (wM G h f_23 v_24)) (by subst ef_23; subst ev_24; rfl) ?_
                  exact hR _ _ _ f_23 v_24 dX4_ofTest_122 hq
                · replace hq := hq.2 c_19
                  have zc_3 := ne_toInt (z := 0) (by decide) c_3
                  have zc_5 := ne_toInt (z := 1) (by decide) c_5
                  have zc_7 := ne_toInt (z := 2) (by decide) c_7
                  have zc_9 := ne_toInt (z := 3) (by decide) c_9
                  have zc_11 := ne_toInt (z := 4) (by decide) c_11
                  have zc_13 := ne_toInt (z := 5) (by decide) c_13
                  have zc_19 := ne_toInt (z := 6) (by decide) c_19
                  refine j_tableOut 123 C dX4_ofTest_14 (by omega) rfl ?_
                  refine j_bipush 125 C dX4_ofTest_123 rfl bc_m2 ?_
                  exact hR _ _ _ f v dX4_ofTest_125 hq
  · replace hq := hq.2 c_2
    refine j_iconst 12 C dX4_ofTest_11 rfl ic_m1 ?_
    exact hR _ _ _ f v dX4_ofTest_12 hq
def Q_X4_output (p0 : Int32) (p1 : Int32) (f : FF) (v : VV) (post : Int32 → FF → VV → Prop) : Prop := Q_X4_isFigure p0 (fun r_1 => (((r_1 = 0 → (post (-2 : Int32) f v)) ∧ (¬ r_1 = 0 → (Q_X4_isFigure p1 (fun r_3 => (((¬ r_3 = 0 → (Q_X1_isEmpty  (sb f 5) (sb v 11) (fun r_5 => (((r_5 = 0 → (Q_X1_run p0 p1 (sb f 5) (sb v 11) (fun r_7 f_8 v_9 => (∀ f_10 : FF, f_10 = mg f 5 9 f_8 → (∀ v_11 : VV, v_11 = mg v 11 2 v_9 → (post r_7 f_10 v_11)))))) ∧ (¬ r_5 = 0 → (post (-3 : Int32) f v))))))) ∧ (r_3 = 0 → (post (-2 : Int32) f v))))))))))
set_option maxRecDepth 100000 in
set_option maxHeartbeats 4000000 in
theorem m_X4_output {l : Launch} (G : Gx) (h : Nat → Nat) (p0 : Int32) (p1 : Int32) (f : FF) (v : VV) {post : Int32 → FF → VV → Prop} (hq : Q_X4_output p0 p1 f v post) : MetI l yX4_output (gC yX4_output cX4_output 3 (some .int)) rmX4_output G [.ref (h 0), .int p0, .int p1] (wM G h) f v post := by
  refine met_i (own := RX4) (by decide) rfl (Nat.le_of_ble_eq_true rfl) (fun κ hκ C hR => ?_)
  unfold Q_X4_output at hq
  subst hκ
  show J κ 0 0 (wM G h f v) 0 [(0, .ref (h 0)), (1, .int p0), (2, .int p1)] []
  refine j_iload_n 1 C dX4_output_0 rfl 1 rfl ?_
  refine j_callSi 4 C [] (wM G h f v) (fun _ _ => (wM G h f v)) (As := [.int p0]) (m_X4_isFigure G p0 hq) oX4_isFigure kX4_126 ⟨rfl, rfl⟩ eX4_isFigure ⟨Nat.le_of_ble_eq_true rfl, Nat.le_of_ble_eq_true rfl⟩ ⟨Nat.zero_le _, Nat.zero_le _⟩ rfl (fun _ _ => rfl) (fun _ _ => rfl) rfl (Nat.le_of_ble_eq_true rfl) dX4_output_1 rfl (fun r_1 _ _ hq => ?_)
  refine j_if_eq 7 14 C dX4_output_4 rfl rfl (fun c_2 => ?_) (fun c_2 => ?_)
  · replace hq := hq.1 c_2
    refine j_bipush 16 C dX4_output_14 rfl bc_m2 ?_
    exact hR _ _ _ f v dX4_output_16 hq
  · replace hq := hq.2 c_2
    refine j_iload_n 8 C dX4_output_7 rfl 2 rfl ?_
    refine j_callSi 11 C [] (wM G h f v) (fun _ _ => (wM G h f v)) (As := [.int p1]) (m_X4_isFigure G p1 hq) oX4_isFigure kX4_126 ⟨rfl, rfl⟩ eX4_isFigure ⟨Nat.le_of_ble_eq_true rfl, Nat.le_of_ble_eq_true rfl⟩ ⟨Nat.zero_le _, Nat.zero_le _⟩ rfl (fun _ _ => rfl) (fun _ _ => rfl) rfl (Nat.le_of_ble_eq_true rfl) dX4_output_8 rfl (fun r_3 _ _ hq => ?_)
    refine j_if_ne 14 17 C dX4_output_11 rfl rfl (fun c_4 => ?_) (fun c_4 => ?_)
    · replace hq := hq.1 c_4
      refine j_aload_n 18 C dX4_output_17 rfl 0 rfl ?_
      refine j_get 21 C uX4 0 rfl rfl 1 (Nat.le_of_ble_eq_true rfl) lX4_21 (v := .ref (h 11)) rfl dX4_output_18 rfl ?_
      refine j_callVi_ro 24 C (List.take 11 (wM G h f v)) (List.drop 21 (wM G h f v)) (As := []) (m_X1_isEmpty G (sb h 11) (sb f 5) (sb v 11) hq) oX1_isEmpty kX4_129 ⟨rfl, rfl⟩ eX1_isEmpty ⟨Nat.le_of_ble_eq_true rfl, Nat.le_of_ble_eq_true rfl⟩ ⟨Nat.zero_le _, Nat.zero_le _⟩ rfl (fun _ _ => rfl) 0 rfl rfl rfl (Nat.le_of_ble_eq_true rfl) dX4_output_21 rfl (fun r_5 hq => ?_)
      refine j_if_eq 27 30 C dX4_output_24 rfl rfl (fun c_6 => ?_) (fun c_6 => ?_)
      · replace hq := hq.1 c_6
        refine j_aload_n 31 C dX4_output_30 rfl 0 rfl ?_
        refine j_get 34 C uX4 0 rfl rfl 1 (Nat.le_of_ble_eq_true rfl) lX4_21 (v := .ref (h 11)) rfl dX4_output_31 rfl ?_
        refine j_iload_n 35 C dX4_output_34 rfl 1 rfl ?_
        refine j_iload_n 36 C dX4_output_35 rfl 2 rfl ?_
        refine j_callVi 39 C (List.take 11 (wM G h f v)) (List.drop 21 (wM G h f v)) (fun f' v' => (wM G h (mg f 5 9 f') (mg v 11 2 v'))) (As := [.int p0, .int p1]) (m_X1_run G (sb h 11) p0 p1 (sb f 5) (sb v 11) hq) oX1_run kX4_133 ⟨rfl, rfl⟩ eX1_run ⟨Nat.le_of_ble_eq_true rfl, Nat.le_of_ble_eq_true rfl⟩ ⟨Nat.zero_le _, Nat.zero_le _⟩ rfl (fun _ _ => rfl) (fun _ _ => rfl) 0 rfl rfl rfl (Nat.le_of_ble_eq_true rfl) dX4_output_36 rfl (fun r_7 f_8 v_9 hq => ?_)
        obtain ⟨f_10, ef_10⟩ : ∃ y : FF, y = mg f 5 9 f_8 := ⟨_, rfl⟩
        obtain ⟨v_11, ev_11⟩ : ∃ y : VV, y = mg v 11 2 v_9 := ⟨_, rfl⟩
        replace hq := hq f_10 ef_10 v_11 ev_11
        refine J.w0 (ws' := (wM G h f_10 v_11)) (by subst ef_10; subst ev_11; rfl) ?_
        exact hR _ _ _ f_10 v_11 dX4_output_39 hq
      · replace hq := hq.2 c_6
        refine j_bipush 29 C dX4_output_27 rfl bc_m3 ?_
        exact hR _ _ _ f v dX4_output_29 hq
    · replace hq := hq.2 c_4
      refine j_bipush 16 C dX4_output_14 rfl bc_m2 ?_
      exact hR _ _ _ f v dX4_output_16 hq
def Q_X4_way (p0 : Int32) (p1 : Int32) (f : FF) (v : VV) (post : Int32 → FF → VV → Prop) : Prop := Q_X1_hasStep p0 (sb f 5) (sb v 11) (fun r_1 => (((¬ r_1 = 0 → (Q_X4_isWithin p1 (0 : Int32) (4 : Int32) (fun r_3 => (((¬ r_3 = 0 → (vp_in p0 5 ∧ (∀ x_6 : Int32, x_6 = ((f 5) (p0).toNatClampNeg) → (vp_in p0 5 ∧ (∀ f_8 : FF, f_8 = fu f 5 (wr (f 5) p0 p1) → (post x_6 f_8 v)))))) ∧ (r_3 = 0 → (post (-2 : Int32) f v))))))) ∧ (r_1 = 0 → (post (-1 : Int32) f v)))))
set_option maxRecDepth 100000 in
set_option maxHeartbeats 4000000 in
theorem m_X4_way {l : Launch} (G : Gx) (h : Nat → Nat) (p0 : Int32) (p1 : Int32) (f : FF) (v : VV) {post : Int32 → FF → VV → Prop} (hq : Q_X4_way p0 p1 f v post) : MetI l yX4_way (gC yX4_way cX4_way 4 (some .int)) rmX4_way G [.ref (h 0), .int p0, .int p1] (wM G h) f v post := by
  refine met_i (own := RX4) (by decide) rfl (Nat.le_of_ble_eq_true rfl) (fun κ hκ C hR => ?_)
  unfold Q_X4_way at hq
  subst hκ
  show J κ 0 0 (wM G h f v) 0 [(0, .ref (h 0)), (1, .int p0), (2, .int p1)] []
  refine j_aload_n 1 C dX4_way_0 rfl 0 rfl ?_
  refine j_get 4 C uX4 0 rfl rfl 1 (Nat.le_of_ble_eq_true rfl) lX4_21 (v := .ref (h 11)) rfl dX4_way_1 rfl ?_
  refine j_iload_n 5 C dX4_way_4 rfl 1 rfl ?_
  refine j_callVi_ro 8 C (List.take 11 (wM G h f v)) (List.drop 21 (wM G h f v)) (As := [.int p0]) (m_X1_hasStep G (sb h 11) p0 (sb f 5) (sb v 11) hq) oX1_hasStep kX4_90 ⟨rfl, rfl⟩ eX1_hasStep ⟨Nat.le_of_ble_eq_true rfl, Nat.le_of_ble_eq_true rfl⟩ ⟨Nat.zero_le _, Nat.zero_le _⟩ rfl (fun _ _ => rfl) 0 rfl rfl rfl (Nat.le_of_ble_eq_true rfl) dX4_way_5 rfl (fun r_1 hq => ?_)
  refine j_if_ne 11 13 C dX4_way_8 rfl rfl (fun c_2 => ?_) (fun c_2 => ?_)
  · replace hq := hq.1 c_2
    refine j_iload_n 14 C dX4_way_13 rfl 2 rfl ?_
    refine j_iconst 15 C dX4_way_14 rfl ic_0 ?_
    refine j_iconst 16 C dX4_way_15 rfl ic_4 ?_
    refine j_callSi 19 C [] (wM G h f v) (fun _ _ => (wM G h f v)) (As := [.int p1, .int (0 : Int32), .int (4 : Int32)]) (m_X4_isWithin G p1 (0 : Int32) (4 : Int32) hq) oX4_isWithin kX4_54 ⟨rfl, rfl⟩ eX4_isWithin ⟨Nat.le_of_ble_eq_true rfl, Nat.le_of_ble_eq_true rfl⟩ ⟨Nat.zero_le _, Nat.zero_le _⟩ rfl (fun _ _ => rfl) (fun _ _ => rfl) rfl (Nat.le_of_ble_eq_true rfl) dX4_way_16 rfl (fun r_3 _ _ hq => ?_)
    refine j_if_ne 22 25 C dX4_way_19 rfl rfl (fun c_4 => ?_) (fun c_4 => ?_)
    · replace hq := hq.1 c_4
      refine j_aload_n 26 C dX4_way_25 rfl 0 rfl ?_
      refine j_get 29 C uX4 0 rfl rfl 1 (Nat.le_of_ble_eq_true rfl) lX4_21 (v := .ref (h 11)) rfl dX4_way_26 rfl ?_
      refine j_get 32 C uX1 11 rfl rfl 0 (Nat.le_of_ble_eq_true rfl) lX4_93 (v := .ref (h 12)) rfl dX4_way_29 rfl ?_
      refine j_iload_n 33 C dX4_way_32 rfl 1 rfl ?_
      obtain ⟨hi_5, hq⟩ := hq
      refine j_iald 34 C 12 (f := (f 5)) rfl hi_5 dX4_way_33 rfl ?_
      refine J.topi (fun x_6 ex_6 => ?_)
      replace hq := hq x_6 ex_6
      refine j_istore_n 35 C dX4_way_34 rfl (Nat.le_of_ble_eq_true rfl) [1, 2, 3, 0] (lv' := [(0, .ref (h 0)), (1, .int p0), (2, .int p1), (3, .int x_6)]) rfl ?_
      refine j_aload_n 36 C dX4_way_35 rfl 0 rfl ?_
      refine j_get 39 C uX4 0 rfl rfl 1 (Nat.le_of_ble_eq_true rfl) lX4_21 (v := .ref (h 11)) rfl dX4_way_36 rfl ?_
      refine j_get 42 C uX1 11 rfl rfl 0 (Nat.le_of_ble_eq_true rfl) lX4_93 (v := .ref (h 12)) rfl dX4_way_39 rfl ?_
      refine j_iload_n 43 C dX4_way_42 rfl 1 rfl ?_
      refine j_iload_n 44 C dX4_way_43 rfl 2 rfl ?_
      obtain ⟨hi_7, hq⟩ := hq
      obtain ⟨f_8, ef_8⟩ : ∃ y : FF, y = fu f 5 (wr (f 5) p0 p1) := ⟨_, rfl⟩
      replace hq := hq f_8 ef_8
      refine j_iast 45 C 12 rfl hi_7 dX4_way_44 rfl (ws' := (wM G h f_8 v)) (by subst ef_8; rfl) ?_
      refine j_iload_n 46 C dX4_way_45 rfl 3 rfl ?_
      exact hR _ _ _ f_8 v dX4_way_46 hq
    · replace hq := hq.2 c_4
      refine j_bipush 24 C dX4_way_22 rfl bc_m2 ?_
      exact hR _ _ _ f v dX4_way_24 hq
  · replace hq := hq.2 c_2
    refine j_iconst 12 C dX4_way_11 rfl ic_m1 ?_
    exact hR _ _ _ f v dX4_way_12 hq
def Q_X4_time (p0 : Int32) (p1 : Int32) (f : FF) (v : VV) (post : Int32 → FF → VV → Prop) : Prop := Q_X1_hasTest p0 (sb f 5) (sb v 11) (fun r_1 => (((¬ r_1 = 0 → (Q_X4_isTime p1 (fun r_3 => (((¬ r_3 = 0 → (vp_in p0 7 ∧ (∀ x_6 : Int32, x_6 = ((f 9) (p0).toNatClampNeg) → (vp_in p0 7 ∧ (∀ f_8 : FF, f_8 = fu f 9 (wr (f 9) p0 p1) → (post x_6 f_8 v)))))) ∧ (r_3 = 0 → (post (-2 : Int32) f v))))))) ∧ (r_1 = 0 → (post (-1 : Int32) f v)))))
set_option maxRecDepth 100000 in
set_option maxHeartbeats 4000000 in
theorem m_X4_time {l : Launch} (G : Gx) (h : Nat → Nat) (p0 : Int32) (p1 : Int32) (f : FF) (v : VV) {post : Int32 → FF → VV → Prop} (hq : Q_X4_time p0 p1 f v post) : MetI l yX4_time (gC yX4_time cX4_time 4 (some .int)) rmX4_time G [.ref (h 0), .int p0, .int p1] (wM G h) f v post := by
  refine met_i (own := RX4) (by decide) rfl (Nat.le_of_ble_eq_true rfl) (fun κ hκ C hR => ?_)
  unfold Q_X4_time at hq
  subst hκ
  show J κ 0 0 (wM G h f v) 0 [(0, .ref (h 0)), (1, .int p0), (2, .int p1)] []
  refine j_aload_n 1 C dX4_time_0 rfl 0 rfl ?_
  refine j_get 4 C uX4 0 rfl rfl 1 (Nat.le_of_ble_eq_true rfl) lX4_21 (v := .ref (h 11)) rfl dX4_time_1 rfl ?_
  refine j_iload_n 5 C dX4_time_4 rfl 1 rfl ?_
  refine j_callVi_ro 8 C (List.take 11 (wM G h f v)) (List.drop 21 (wM G h f v)) (As := [.int p0]) (m_X1_hasTest G (sb h 11) p0 (sb f 5) (sb v 11) hq) oX1_hasTest kX4_102 ⟨rfl, rfl⟩ eX1_hasTest ⟨Nat.le_of_ble_eq_true rfl, Nat.le_of_ble_eq_true rfl⟩ ⟨Nat.zero_le _, Nat.zero_le _⟩ rfl (fun _ _ => rfl) 0 rfl rfl rfl (Nat.le_of_ble_eq_true rfl) dX4_time_5 rfl (fun r_1 hq => ?_)
  refine j_if_ne 11 13 C dX4_time_8 rfl rfl (fun c_2 => ?_) (fun c_2 => ?_)
  · replace hq := hq.1 c_2
    refine j_iload_n 14 C dX4_time_13 rfl 2 rfl ?_
    refine j_callSi 17 C [] (wM G h f v) (fun _ _ => (wM G h f v)) (As := [.int p1]) (m_X4_isTime G p1 hq) oX4_isTime kX4_137 ⟨rfl, rfl⟩ eX4_isTime ⟨Nat.le_of_ble_eq_true rfl, Nat.le_of_ble_eq_true rfl⟩ ⟨Nat.zero_le _, Nat.zero_le _⟩ rfl (fun _ _ => rfl) (fun _ _ => rfl) rfl (Nat.le_of_ble_eq_true rfl) dX4_time_14 rfl (fun r_3 _ _ hq => ?_)
    refine j_if_ne 20 23 C dX4_time_17 rfl rfl (fun c_4 => ?_) (fun c_4 => ?_)
    · replace hq := hq.1 c_4
      refine j_aload_n 24 C dX4_time_23 rfl 0 rfl ?_
      refine j_get 27 C uX4 0 rfl rfl 1 (Nat.le_of_ble_eq_true rfl) lX4_21 (v := .ref (h 11)) rfl dX4_time_24 rfl ?_
      refine j_get 30 C uX1 11 rfl rfl 5 (Nat.le_of_ble_eq_true rfl) lX4_108 (v := .ref (h 16)) rfl dX4_time_27 rfl ?_
      refine j_iload_n 31 C dX4_time_30 rfl 1 rfl ?_
      obtain ⟨hi_5, hq⟩ := hq
      refine j_iald 32 C 16 (f := (f 9)) rfl hi_5 dX4_time_31 rfl ?_
      refine J.topi (fun x_6 ex_6 => ?_)
      replace hq := hq x_6 ex_6
      refine j_istore_n 33 C dX4_time_32 rfl (Nat.le_of_ble_eq_true rfl) [1, 2, 3, 0] (lv' := [(0, .ref (h 0)), (1, .int p0), (2, .int p1), (3, .int x_6)]) rfl ?_
      refine j_aload_n 34 C dX4_time_33 rfl 0 rfl ?_
      refine j_get 37 C uX4 0 rfl rfl 1 (Nat.le_of_ble_eq_true rfl) lX4_21 (v := .ref (h 11)) rfl dX4_time_34 rfl ?_
      refine j_get 40 C uX1 11 rfl rfl 5 (Nat.le_of_ble_eq_true rfl) lX4_108 (v := .ref (h 16)) rfl dX4_time_37 rfl ?_
      refine j_iload_n 41 C dX4_time_40 rfl 1 rfl ?_
      refine j_iload_n 42 C dX4_time_41 rfl 2 rfl ?_
      obtain ⟨hi_7, hq⟩ := hq
      obtain ⟨f_8, ef_8⟩ : ∃ y : FF, y = fu f 9 (wr (f 9) p0 p1) := ⟨_, rfl⟩
      replace hq := hq f_8 ef_8
      refine j_iast 43 C 16 rfl hi_7 dX4_time_42 rfl (ws' := (wM G h f_8 v)) (by subst ef_8; rfl) ?_
      refine j_iload_n 44 C dX4_time_43 rfl 3 rfl ?_
      exact hR _ _ _ f_8 v dX4_time_44 hq
    · replace hq := hq.2 c_4
      refine j_bipush 22 C dX4_time_20 rfl bc_m2 ?_
      exact hR _ _ _ f v dX4_time_22 hq
  · replace hq := hq.2 c_2
    refine j_iconst 12 C dX4_time_11 rfl ic_m1 ?_
    exact hR _ _ _ f v dX4_time_12 hq
def Q_X4_aim (p0 : Int32) (p1 : Int32) (p2 : Int32) (f : FF) (v : VV) (post : Int32 → FF → VV → Prop) : Prop := Q_X1_hasTest p0 (sb f 5) (sb v 11) (fun r_1 => (((¬ r_1 = 0 → (Q_X4_isFigure p1 (fun r_3 => (((r_3 = 0 → (post (-2 : Int32) f v)) ∧ (¬ r_3 = 0 → (Q_X4_isFigure p2 (fun r_5 => (((¬ r_5 = 0 → (vp_in p0 7 ∧ (vp_in p0 7 ∧ (∀ x_9 : Int32, x_9 = (((10 : Int32) * ((f 10) (p0).toNatClampNeg)) + ((f 11) (p0).toNatClampNeg)) → (vp_in p0 7 ∧ (∀ f_11 : FF, f_11 = fu f 10 (wr (f 10) p0 p1) → (vp_in p0 7 ∧ (∀ f_13 : FF, f_13 = fu f_11 11 (wr (f_11 11) p0 p2) → (post x_9 f_13 v))))))))) ∧ (r_5 = 0 → (post (-2 : Int32) f v)))))))))))) ∧ (r_1 = 0 → (post (-1 : Int32) f v)))))
set_option maxRecDepth 100000 in
set_option maxHeartbeats 4000000 in
theorem m_X4_aim {l : Launch} (G : Gx) (h : Nat → Nat) (p0 : Int32) (p1 : Int32) (p2 : Int32) (f : FF) (v : VV) {post : Int32 → FF → VV → Prop} (hq : Q_X4_aim p0 p1 p2 f v post) : MetI l yX4_aim (gC yX4_aim cX4_aim 5 (some .int)) rmX4_aim G [.ref (h 0), .int p0, .int p1, .int p2] (wM G h) f v post := by
  refine met_i (own := RX4) (by decide) rfl (Nat.le_of_ble_eq_true rfl) (fun κ hκ C hR => ?_)
  unfold Q_X4_aim at hq
  subst hκ
  show J κ 0 0 (wM G h f v) 0 [(0, .ref (h 0)), (1, .int p0), (2, .int p1), (3, .int p2)] []
  refine j_aload_n 1 C dX4_aim_0 rfl 0 rfl ?_
  refine j_get 4 C uX4 0 rfl rfl 1 (Nat.le_of_ble_eq_true rfl) lX4_21 (v := .ref (h 11)) rfl dX4_aim_1 rfl ?_
  refine j_iload_n 5 C dX4_aim_4 rfl 1 rfl ?_
  refine j_callVi_ro 8 C (List.take 11 (wM G h f v)) (List.drop 21 (wM G h f v)) (As := [.int p0]) (m_X1_hasTest G (sb h 11) p0 (sb f 5) (sb v 11) hq) oX1_hasTest kX4_102 ⟨rfl, rfl⟩ eX1_hasTest ⟨Nat.le_of_ble_eq_true rfl, Nat.le_of_ble_eq_true rfl⟩ ⟨Nat.zero_le _, Nat.zero_le _⟩ rfl (fun _ _ => rfl) 0 rfl rfl rfl (Nat.le_of_ble_eq_true rfl) dX4_aim_5 rfl (fun r_1 hq => ?_)
  refine j_if_ne 11 13 C dX4_aim_8 rfl rfl (fun c_2 => ?_) (fun c_2 => ?_)
  · replace hq := hq.1 c_2
    refine j_iload_n 14 C dX4_aim_13 rfl 2 rfl ?_
    refine j_callSi 17 C [] (wM G h f v) (fun _ _ => (wM G h f v)) (As := [.int p1]) (m_X4_isFigure G p1 hq) oX4_isFigure kX4_126 ⟨rfl, rfl⟩ eX4_isFigure ⟨Nat.le_of_ble_eq_true rfl, Nat.le_of_ble_eq_true rfl⟩ ⟨Nat.zero_le _, Nat.zero_le _⟩ rfl (fun _ _ => rfl) (fun _ _ => rfl) rfl (Nat.le_of_ble_eq_true rfl) dX4_aim_14 rfl (fun r_3 _ _ hq => ?_)
    refine j_if_eq 20 27 C dX4_aim_17 rfl rfl (fun c_4 => ?_) (fun c_4 => ?_)
    · replace hq := hq.1 c_4
      refine j_bipush 29 C dX4_aim_27 rfl bc_m2 ?_
      exact hR _ _ _ f v dX4_aim_29 hq
    · replace hq := hq.2 c_4
      refine j_iload_n 21 C dX4_aim_20 rfl 3 rfl ?_
      refine j_callSi 24 C [] (wM G h f v) (fun _ _ => (wM G h f v)) (As := [.int p2]) (m_X4_isFigure G p2 hq) oX4_isFigure kX4_126 ⟨rfl, rfl⟩ eX4_isFigure ⟨Nat.le_of_ble_eq_true rfl, Nat.le_of_ble_eq_true rfl⟩ ⟨Nat.zero_le _, Nat.zero_le _⟩ rfl (fun _ _ => rfl) (fun _ _ => rfl) rfl (Nat.le_of_ble_eq_true rfl) dX4_aim_21 rfl (fun r_5 _ _ hq => ?_)
      refine j_if_ne 27 30 C dX4_aim_24 rfl rfl (fun c_6 => ?_) (fun c_6 => ?_)
      · replace hq := hq.1 c_6
        refine j_bipush 32 C dX4_aim_30 rfl bc_10 ?_
        refine j_aload_n 33 C dX4_aim_32 rfl 0 rfl ?_
        refine j_get 36 C uX4 0 rfl rfl 1 (Nat.le_of_ble_eq_true rfl) lX4_21 (v := .ref (h 11)) rfl dX4_aim_33 rfl ?_
        refine j_get 39 C uX1 11 rfl rfl 6 (Nat.le_of_ble_eq_true rfl) lX4_114 (v := .ref (h 17)) rfl dX4_aim_36 rfl ?_
        refine j_iload_n 40 C dX4_aim_39 rfl 1 rfl ?_
        obtain ⟨hi_7, hq⟩ := hq
        refine j_iald 41 C 17 (f := (f 10)) rfl hi_7 dX4_aim_40 rfl ?_
        refine j_imul 42 C dX4_aim_41 rfl ?_
        refine j_aload_n 43 C dX4_aim_42 rfl 0 rfl ?_
        refine j_get 46 C uX4 0 rfl rfl 1 (Nat.le_of_ble_eq_true rfl) lX4_21 (v := .ref (h 11)) rfl dX4_aim_43 rfl ?_
        refine j_get 49 C uX1 11 rfl rfl 7 (Nat.le_of_ble_eq_true rfl) lX4_117 (v := .ref (h 18)) rfl dX4_aim_46 rfl ?_
        refine j_iload_n 50 C dX4_aim_49 rfl 1 rfl ?_
        obtain ⟨hi_8, hq⟩ := hq
        refine j_iald 51 C 18 (f := (f 11)) rfl hi_8 dX4_aim_50 rfl ?_
        refine j_iadd 52 C dX4_aim_51 rfl ?_
        refine J.topi (fun x_9 ex_9 => ?_)
        replace hq := hq x_9 ex_9
        refine j_istore 54 C dX4_aim_52 rfl (Nat.le_of_ble_eq_true rfl) [1, 2, 3, 4, 0] (lv' := [(0, .ref (h 0)), (1, .int p0), (2, .int p1), (3, .int p2), (4, .int x_9)]) rfl ?_
        refine j_aload_n 55 C dX4_aim_54 rfl 0 rfl ?_
        refine j_get 58 C uX4 0 rfl rfl 1 (Nat.le_of_ble_eq_true rfl) lX4_21 (v := .ref (h 11)) rfl dX4_aim_55 rfl ?_
        refine j_get 61 C uX1 11 rfl rfl 6 (Nat.le_of_ble_eq_true rfl) lX4_114 (v := .ref (h 17)) rfl dX4_aim_58 rfl ?_
        refine j_iload_n 62 C dX4_aim_61 rfl 1 rfl ?_
        refine j_iload_n 63 C dX4_aim_62 rfl 2 rfl ?_
        obtain ⟨hi_10, hq⟩ := hq
        obtain ⟨f_11, ef_11⟩ : ∃ y : FF, y = fu f 10 (wr (f 10) p0 p1) := ⟨_, rfl⟩
        replace hq := hq f_11 ef_11
        refine j_iast 64 C 17 rfl hi_10 dX4_aim_63 rfl (ws' := (wM G h f_11 v)) (by subst ef_11; rfl) ?_
        refine j_aload_n 65 C dX4_aim_64 rfl 0 rfl ?_
        refine j_get 68 C uX4 0 rfl rfl 1 (Nat.le_of_ble_eq_true rfl) lX4_21 (v := .ref (h 11)) rfl dX4_aim_65 rfl ?_
        refine j_get 71 C uX1 11 rfl rfl 7 (Nat.le_of_ble_eq_true rfl) lX4_117 (v := .ref (h 18)) rfl dX4_aim_68 rfl ?_
        refine j_iload_n 72 C dX4_aim_71 rfl 1 rfl ?_
        refine j_iload_n 73 C dX4_aim_72 rfl 3 rfl ?_
        obtain ⟨hi_12, hq⟩ := hq
        obtain ⟨f_13, ef_13⟩ : ∃ y : FF, y = fu f_11 11 (wr (f_11 11) p0 p2) := ⟨_, rfl⟩
        replace hq := hq f_13 ef_13
        refine j_iast 74 C 18 rfl hi_12 dX4_aim_73 rfl (ws' := (wM G h f_13 v)) (by subst ef_13; rfl) ?_
        refine j_iload 76 C dX4_aim_74 rfl 4 rfl ?_
        exact hR _ _ _ f_13 v dX4_aim_76 hq
      · replace hq := hq.2 c_6
        refine j_bipush 29 C dX4_aim_27 rfl bc_m2 ?_
        exact hR _ _ _ f v dX4_aim_29 hq
  · replace hq := hq.2 c_2
    refine j_iconst 12 C dX4_aim_11 rfl ic_m1 ?_
    exact hR _ _ _ f v dX4_aim_12 hq
def Q_X4_killsNow (f : FF) (v : VV) (post : FF → VV → Prop) : Prop := Q_X0_find  (jn f 5 9 33) (jn v 11 2 19) (fun f_3 v_4 => (∀ f_5 : FF, f_5 = mg (mg f 5 9 f_3) 33 4 (sb f_3 9) → (∀ v_6 : VV, v_6 = mg (mg v 11 2 v_4) 19 3 (sb v_4 2) → (post f_5 v_6))))
set_option maxRecDepth 100000 in
set_option maxHeartbeats 4000000 in
theorem m_X4_killsNow {l : Launch} (G : Gx) (h : Nat → Nat) (f : FF) (v : VV) {post : FF → VV → Prop} (hq : Q_X4_killsNow f v post) : MetR l yX4_killsNow (gC yX4_killsNow cX4_killsNow 1 (some (.object "MutantRows$Kills"))) rmX4_killsNow G [.ref (h 0)] (wM G h) (h 43) f v post := by
  refine met_r (own := RX4) (by decide) rfl (Nat.le_of_ble_eq_true rfl) (fun κ hκ C hR => ?_)
  unfold Q_X4_killsNow at hq
  subst hκ
  show J κ 0 0 (wM G h f v) 0 [(0, .ref (h 0))] []
  refine j_aload_n 1 C dX4_killsNow_0 rfl 0 rfl ?_
  refine j_get 4 C uX4 0 rfl rfl 4 (Nat.le_of_ble_eq_true rfl) lX4_38 (v := .ref (h 43)) rfl dX4_killsNow_1 rfl ?_
  refine j_aload_n 5 C dX4_killsNow_4 rfl 0 rfl ?_
  refine j_get 8 C uX4 0 rfl rfl 1 (Nat.le_of_ble_eq_true rfl) lX4_21 (v := .ref (h 11)) rfl dX4_killsNow_5 rfl ?_
  refine J.perm pmN ?_
  refine j_callVv 11 C (mA G h f v) (mT G h f v ++ mR G h f v) (fun f' v' => (mA G h f v) ++ (wPK G (jn h 11 10 43) f' v' ++ (mT G h f v ++ mR G h f v))) (As := [.ref (h 11)]) (m_X0_find G (jn h 11 10 43) (jn f 5 9 33) (jn v 11 2 19) hq) oX0_find kX4_281 ⟨rfl, rfl⟩ eX0_find ⟨Nat.le_of_ble_eq_true rfl, Nat.le_of_ble_eq_true rfl⟩ ⟨Nat.zero_le _, Nat.zero_le _⟩ rfl (fun _ _ => rfl) (fun _ _ => rfl) 10 rfl rfl rfl (Nat.le_of_ble_eq_true rfl) dX4_killsNow_8 rfl (fun f_3 v_4 hq => ?_)
  obtain ⟨f_5, ef_5⟩ : ∃ y : FF, y = mg (mg f 5 9 f_3) 33 4 (sb f_3 9) := ⟨_, rfl⟩
  obtain ⟨v_6, ev_6⟩ : ∃ y : VV, y = mg (mg v 11 2 v_4) 19 3 (sb v_4 2) := ⟨_, rfl⟩
  replace hq := hq f_5 ef_5 v_6 ev_6
  refine J.perm (ws' := (wM G h f_5 v_6)) (by subst ef_5; subst ev_6; exact pmN' _ _) ?_
  refine j_aload_n 12 C dX4_killsNow_11 rfl 0 rfl ?_
  refine j_get 15 C uX4 0 rfl rfl 4 (Nat.le_of_ble_eq_true rfl) lX4_38 (v := .ref (h 43)) rfl dX4_killsNow_12 rfl ?_
  exact hR _ _ _ _ dX4_killsNow_15 hq
def Q_X4_ofMutant (p0 : Int32) (p1 : Int32) (f : FF) (v : VV) (post : Int32 → FF → VV → Prop) : Prop := Q_X1_hasMutant p0 (sb f 5) (sb v 11) (fun r_1 => (((¬ r_1 = 0 → (((p1 = (0 : Int32) → (Q_X1_stepOf p0 (sb f 5) (sb v 11) (fun r_4 => (post r_4 f v)))) ∧ (¬ p1 = (0 : Int32) → (((p1 = (1 : Int32) → (Q_X1_otherWay p0 (sb f 5) (sb v 11) (fun r_6 => (post r_6 f v)))) ∧ (¬ p1 = (1 : Int32) → (((p1 = (2 : Int32) → (Q_X4_killsNow  f v (fun f_9 v_10 => (vp_in p0 20 ∧ (post ((f_9 34) (p0).toNatClampNeg) f_9 v_10))))) ∧ (¬ p1 = (2 : Int32) → (((p1 = (3 : Int32) → (Q_X1_differences p0 (sb f 5) (sb v 11) (fun r_13 f_14 v_15 => (∀ f_16 : FF, f_16 = mg f 5 9 f_14 → (∀ v_17 : VV, v_17 = mg v 11 2 v_15 → (((¬ r_13 = 0 → (Q_X4_oneIf (0 : Int32) (fun r_19 => (post r_19 f_16 v_17)))) ∧ (r_13 = 0 → (Q_X4_oneIf (1 : Int32) (fun r_20 => (post r_20 f_16 v_17))))))))))) ∧ (¬ p1 = (3 : Int32) → (((p1 = (4 : Int32) → (Q_X1_differences p0 (sb f 5) (sb v 11) (fun r_22 f_23 v_24 => (∀ f_25 : FF, f_25 = mg f 5 9 f_23 → (∀ v_26 : VV, v_26 = mg v 11 2 v_24 → (post r_22 f_25 v_26)))))) ∧ (¬ p1 = (4 : Int32) → (((p1 = (5 : Int32) → (Q_X4_killsNow  f v (fun f_29 v_30 => (Q_X0_isLeast p0 (sb f_29 33) (sb v_30 19) (fun r_31 => (Q_X4_oneIf r_31 (fun r_32 => (post r_32 f_29 v_30)))))))) ∧ (¬ p1 = (5 : Int32) → (((p1 = (6 : Int32) → (Q_X4_killsNow  f v (fun f_35 v_36 => (Q_X0_countSubsumed p0 (sb f_35 33) (sb v_36 19) (fun r_37 => (post r_37 f_35 v_36)))))) ∧ (¬ p1 = (6 : Int32) → (post (-2 : Int32) f v))))))))))))))))))))))) ∧ (r_1 = 0 → (post (-1 : Int32) f v)))))
set_option maxRecDepth 100000 in
set_option maxHeartbeats 4000000 in
theorem m_X4_ofMutant {l : Launch} (G : Gx) (h : Nat → Nat) (p0 : Int32) (p1 : Int32) (f : FF) (v : VV) {post : Int32 → FF → VV → Prop} (hq : Q_X4_ofMutant p0 p1 f v post) : MetI l yX4_ofMutant (gC yX4_ofMutant cX4_ofMutant 3 (some .int)) rmX4_ofMutant G [.ref (h 0), .int p0, .int p1] (wM G h) f v post := by
  refine met_i (own := RX4) (by decide) rfl (Nat.le_of_ble_eq_true rfl) (fun κ hκ C hR => ?_)
  unfold Q_X4_ofMutant at hq
  subst hκ
  show J κ 0 0 (wM G h f v) 0 [(0, .ref (h 0)), (1, .int p0), (2, .int p1)] []
  refine j_aload_n 1 C dX4_ofMutant_0 rfl 0 rfl ?_
  refine j_get 4 C uX4 0 rfl rfl 1 (Nat.le_of_ble_eq_true rfl) lX4_21 (v := .ref (h 11)) rfl dX4_ofMutant_1 rfl ?_
  refine j_iload_n 5 C dX4_ofMutant_4 rfl 1 rfl ?_
  refine j_callVi_ro 8 C (List.take 11 (wM G h f v)) (List.drop 21 (wM G h f v)) (As := [.int p0]) (m_X1_hasMutant G (sb h 11) p0 (sb f 5) (sb v 11) hq) oX1_hasMutant kX4_140 ⟨rfl, rfl⟩ eX1_hasMutant ⟨Nat.le_of_ble_eq_true rfl, Nat.le_of_ble_eq_true rfl⟩ ⟨Nat.zero_le _, Nat.zero_le _⟩ rfl (fun _ _ => rfl) 0 rfl rfl rfl (Nat.le_of_ble_eq_true rfl) dX4_ofMutant_5 rfl (fun r_1 hq => ?_)
  refine j_if_ne 11 13 C dX4_ofMutant_8 rfl rfl (fun c_2 => ?_) (fun c_2 => ?_)
  · replace hq := hq.1 c_2
    refine j_iload_n 14 C dX4_ofMutant_13 rfl 2 rfl ?_
    by_cases c_3 : p1 = (0 : Int32)
    · replace hq := hq.1 c_3
      refine j_tableIn 56 C (0 : Int32) dX4_ofMutant_14 c_3 (by decide) (by decide) rfl rfl ?_
      refine j_aload_n 57 C dX4_ofMutant_56 rfl 0 rfl ?_
      refine j_get 60 C uX4 0 rfl rfl 1 (Nat.le_of_ble_eq_true rfl) lX4_21 (v := .ref (h 11)) rfl dX4_ofMutant_57 rfl ?_
      refine j_iload_n 61 C dX4_ofMutant_60 rfl 1 rfl ?_
      refine j_callVi_ro 64 C (List.take 11 (wM G h f v)) (List.drop 21 (wM G h f v)) (As := [.int p0]) (m_X1_stepOf G (sb h 11) p0 (sb f 5) (sb v 11) hq) oX1_stepOf kX4_143 ⟨rfl, rfl⟩ eX1_stepOf ⟨Nat.le_of_ble_eq_true rfl, Nat.le_of_ble_eq_true rfl⟩ ⟨Nat.zero_le _, Nat.zero_le _⟩ rfl (fun _ _ => rfl) 0 rfl rfl rfl (Nat.le_of_ble_eq_true rfl) dX4_ofMutant_61 rfl (fun r_4 hq => ?_)
      exact hR _ _ _ f v dX4_ofMutant_64 hq
    · replace hq := hq.2 c_3
      by_cases c_5 : p1 = (1 : Int32)
      · replace hq := hq.1 c_5
        refine j_tableIn 65 C (1 : Int32) dX4_ofMutant_14 c_5 (by decide) (by decide) rfl rfl ?_
        refine j_aload_n 66 C dX4_ofMutant_65 rfl 0 rfl ?_
        refine j_get 69 C uX4 0 rfl rfl 1 (Nat.le_of_ble_eq_true rfl) lX4_21 (v := .ref (h 11)) rfl dX4_ofMutant_66 rfl ?_
        refine j_iload_n 70 C dX4_ofMutant_69 rfl 1 rfl ?_
        refine j_callVi_ro 73 C (List.take 11 (wM G h f v)) (List.drop 21 (wM G h f v)) (As := [.int p0]) (m_X1_otherWay G (sb h 11) p0 (sb f 5) (sb v 11) hq) oX1_otherWay kX4_146 ⟨rfl, rfl⟩ eX1_otherWay ⟨Nat.le_of_ble_eq_true rfl, Nat.le_of_ble_eq_true rfl⟩ ⟨Nat.zero_le _, Nat.zero_le _⟩ rfl (fun _ _ => rfl) 0 rfl rfl rfl (Nat.le_of_ble_eq_true rfl) dX4_ofMutant_70 rfl (fun r_6 hq => ?_)
        exact hR _ _ _ f v dX4_ofMutant_73 hq
      · replace hq := hq.2 c_5
        by_cases c_7 : p1 = (2 : Int32)
        · replace hq := hq.1 c_7
          refine j_tableIn 74 C (2 : Int32) dX4_ofMutant_14 c_7 (by decide) (by decide) rfl rfl ?_
          refine j_aload_n 75 C dX4_ofMutant_74 rfl 0 rfl ?_
          refine j_callVr 78 C [] [] (fun f' v' => (wM G h f' v')) (As := []) (m_X4_killsNow G h f v hq) oX4_killsNow kX4_149 ⟨rfl, rfl⟩ eX4_killsNow ⟨Nat.le_of_ble_eq_true rfl, Nat.le_of_ble_eq_true rfl⟩ ⟨Nat.zero_le _, Nat.zero_le _⟩ (List.append_nil _).symm (fun _ _ => List.append_nil _) (fun _ _ => rfl) 0 rfl rfl rfl (Nat.le_of_ble_eq_true rfl) dX4_ofMutant_75 rfl (fun f_9 v_10 hq => ?_)
          refine j_get 81 C uX0 43 rfl rfl 1 (Nat.le_of_ble_eq_true rfl) lX4_153 (v := .ref (h 45)) rfl dX4_ofMutant_78 rfl ?_
          refine j_iload_n 82 C dX4_ofMutant_81 rfl 1 rfl ?_
          obtain ⟨hi_11, hq⟩ := hq
          refine j_iald 83 C 45 (f := (f_9 34)) rfl hi_11 dX4_ofMutant_82 rfl ?_
          exact hR _ _ _ f_9 v_10 dX4_ofMutant_83 hq
        · replace hq := hq.2 c_7
          by_cases c_12 : p1 = (3 : Int32)
          · replace hq := hq.1 c_12
            refine j_tableIn 84 C (3 : Int32) dX4_ofMutant_14 c_12 (by decide) (by decide) rfl rfl ?_
            refine j_aload_n 85 C dX4_ofMutant_84 rfl 0 rfl ?_
            refine j_get 88 C uX4 0 rfl rfl 1 (Nat.le_of_ble_eq_true rfl) lX4_21 (v := .ref (h 11)) rfl dX4_ofMutant_85 rfl ?_
            refine j_iload_n 89 C dX4_ofMutant_88 rfl 1 rfl ?_
            refine j_callVi 92 C (List.take 11 (wM G h f v)) (List.drop 21 (wM G h f v)) (fun f' v' => (wM G h (mg f 5 9 f') (mg v 11 2 v'))) (As := [.int p0]) (m_X1_differences G (sb h 11) p0 (sb f 5) (sb v 11) hq) oX1_differences kX4_156 ⟨rfl, rfl⟩ eX1_differences ⟨Nat.le_of_ble_eq_true rfl, Nat.le_of_ble_eq_true rfl⟩ ⟨Nat.zero_le _, Nat.zero_le _⟩ rfl (fun _ _ => rfl) (fun _ _ => rfl) 0 rfl rfl rfl (Nat.le_of_ble_eq_true rfl) dX4_ofMutant_89 rfl (fun r_13 f_14 v_15 hq => ?_)
            obtain ⟨f_16, ef_16⟩ : ∃ y : FF, y = mg f 5 9 f_14 := ⟨_, rfl⟩
            obtain ⟨v_17, ev_17⟩ : ∃ y : VV, y = mg v 11 2 v_15 := ⟨_, rfl⟩
            replace hq := hq f_16 ef_16 v_17 ev_17
            refine J.w0 (ws' := (wM G h f_16 v_17)) (by subst ef_16; subst ev_17; rfl) ?_
            refine j_if_ne 95 99 C dX4_ofMutant_92 rfl rfl (fun c_18 => ?_) (fun c_18 => ?_)
            · replace hq := hq.1 c_18
              refine j_iconst 100 C dX4_ofMutant_99 rfl ic_0 ?_
              refine j_callSi 103 C [] (wM G h f_16 v_17) (fun _ _ => (wM G h f_16 v_17)) (As := [.int (0 : Int32)]) (m_X4_oneIf G (0 : Int32) hq) oX4_oneIf kX4_159 ⟨rfl, rfl⟩ eX4_oneIf ⟨Nat.le_of_ble_eq_true rfl, Nat.le_of_ble_eq_true rfl⟩ ⟨Nat.zero_le _, Nat.zero_le _⟩ rfl (fun _ _ => rfl) (fun _ _ => rfl) rfl (Nat.le_of_ble_eq_true rfl) dX4_ofMutant_100 rfl (fun r_19 _ _ hq => ?_)
              exact hR _ _ _ f_16 v_17 dX4_ofMutant_103 hq
            · replace hq := hq.2 c_18
              refine j_iconst 96 C dX4_ofMutant_95 rfl ic_1 ?_
              refine j_goto 100 C dX4_ofMutant_96 rfl ?_
              refine j_callSi 103 C [] (wM G h f_16 v_17) (fun _ _ => (wM G h f_16 v_17)) (As := [.int (1 : Int32)]) (m_X4_oneIf G (1 : Int32) hq) oX4_oneIf kX4_159 ⟨rfl, rfl⟩ eX4_oneIf ⟨Nat.le_of_ble_eq_true rfl, Nat.le_of_ble_eq_true rfl⟩ ⟨Nat.zero_le _, Nat.zero_le _⟩ rfl (fun _ _ => rfl) (fun _ _ => rfl) rfl (Nat.le_of_ble_eq_true rfl) dX4_ofMutant_100 rfl (fun r_20 _ _ hq => ?_)
              exact hR _ _ _ f_16 v_17 dX4_ofMutant_103 hq
          · replace hq := hq.2 c_12
            by_cases c_21 : p1 = (4 : Int32)
            · replace hq := hq.1 c_21
              refine j_tableIn 104 C (4 : Int32) dX4_ofMutant_14 c_21 (by decide) (by decide) rfl rfl ?_
              refine j_aload_n 105 C dX4_ofMutant_104 rfl 0 rfl ?_
              refine j_get 108 C uX4 0 rfl rfl 1 (Nat.le_of_ble_eq_true rfl) lX4_21 (v := .ref (h 11)) rfl dX4_ofMutant_105 rfl ?_
              refine j_iload_n 109 C dX4_ofMutant_108 rfl 1 rfl ?_
              refine j_callVi 112 C (List.take 11 (wM G h f v)) (List.drop 21 (wM G h f v)) (fun f' v' => (wM G h (mg f 5 9 f') (mg v 11 2 v'))) (As := [.int p0]) (m_X1_differences G (sb h 11) p0 (sb f 5) (sb v 11) hq) oX1_differences kX4_156 ⟨rfl, rfl⟩ eX1_differences ⟨Nat.le_of_ble_eq_true rfl, Nat.le_of_ble_eq_true rfl⟩ ⟨Nat.zero_le _, Nat.zero_le _⟩ rfl (fun _ _ => rfl) (fun _ _ => rfl) 0 rfl rfl rfl (Nat.le_of_ble_eq_true rfl) dX4_ofMutant_109 rfl (fun r_22 f_23 v_24 hq => ?_)
              obtain ⟨f_25, ef_25⟩ : ∃ y : FF, y = mg f 5 9 f_23 := ⟨_, rfl⟩
              obtain ⟨v_26, ev_26⟩ : ∃ y : VV, y = mg v 11 2 v_24 := ⟨_, rfl⟩
              replace hq := hq f_25 ef_25 v_26 ev_26
              refine J.w0 (ws' := (wM G h f_25 v_26)) (by subst ef_25; subst ev_26; rfl) ?_
              exact hR _ _ _ f_25 v_26 dX4_ofMutant_112 hq
            · replace hq := hq.2 c_21
              by_cases c_27 : p1 = (5 : Int32)
              · replace hq := hq.1 c_27
                refine j_tableIn 113 C (5 : Int32) dX4_ofMutant_14 c_27 (by decide) (by decide) rfl rfl ?_
                refine j_aload_n 114 C dX4_ofMutant_113 rfl 0 rfl ?_
                refine j_callVr 117 C [] [] (fun f' v' => (wM G h f' v')) (As := []) (m_X4_killsNow G h f v hq) oX4_killsNow kX4_149 ⟨rfl, rfl⟩ eX4_killsNow ⟨Nat.le_of_ble_eq_true rfl, Nat.le_of_ble_eq_true rfl⟩ ⟨Nat.zero_le _, Nat.zero_le _⟩ (List.append_nil _).symm (fun _ _ => List.append_nil _) (fun _ _ => rfl) 0 rfl rfl rfl (Nat.le_of_ble_eq_true rfl) dX4_ofMutant_114 rfl (fun f_29 v_30 hq => ?_)
                refine j_iload_n 118 C dX4_ofMutant_117 rfl 1 rfl ?_
                refine j_callVi_ro 121 C (List.take 43 (wM G h f_29 v_30)) (List.drop 48 (wM G h f_29 v_30)) (As := [.int p0]) (m_X0_isLeast G (sb h 43) p0 (sb f_29 33) (sb v_30 19) hq) oX0_isLeast kX4_163 ⟨rfl, rfl⟩ eX0_isLeast ⟨Nat.le_of_ble_eq_true rfl, Nat.le_of_ble_eq_true rfl⟩ ⟨Nat.zero_le _, Nat.zero_le _⟩ rfl (fun _ _ => rfl) 0 rfl rfl rfl (Nat.le_of_ble_eq_true rfl) dX4_ofMutant_118 rfl (fun r_31 hq => ?_)
                refine j_callSi 124 C [] (wM G h f_29 v_30) (fun _ _ => (wM G h f_29 v_30)) (As := [.int r_31]) (m_X4_oneIf G r_31 hq) oX4_oneIf kX4_159 ⟨rfl, rfl⟩ eX4_oneIf ⟨Nat.le_of_ble_eq_true rfl, Nat.le_of_ble_eq_true rfl⟩ ⟨Nat.zero_le _, Nat.zero_le _⟩ rfl (fun _ _ => rfl) (fun _ _ => rfl) rfl (Nat.le_of_ble_eq_true rfl) dX4_ofMutant_121 rfl (fun r_32 _ _ hq => ?_)
                exact hR _ _ _ f_29 v_30 dX4_ofMutant_124 hq
              · replace hq := hq.2 c_27
                by_cases c_33 : p1 = (6 : Int32)
                · replace hq := hq.1 c_33
                  refine j_tableIn 125 C (6 : Int32) dX4_ofMutant_14 c_33 (by decide) (by decide) rfl rfl ?_
                  refine j_aload_n 126 C dX4_ofMutant_125 rfl 0 rfl ?_
                  refine j_callVr 129 C [] [] (fun f' v' => (wM G h f' v')) (As := []) (m_X4_killsNow G h f v hq) oX4_killsNow kX4_149 ⟨rfl, rfl⟩ eX4_killsNow ⟨Nat.le_of_ble_eq_true rfl, Nat.le_of_ble_eq_true rfl⟩ ⟨Nat.zero_le _, Nat.zero_le _⟩ (List.append_nil _).symm (fun _ _ => List.append_nil _) (fun _ _ => rfl) 0 rfl rfl rfl (Nat.le_of_ble_eq_true rfl) dX4_ofMutant_126 rfl (fun f_35 v_36 hq => ?_)
                  refine j_iload_n 130 C dX4_ofMutant_129 rfl 1 rfl ?_
                  refine j_callVi_ro 133 C (List.take 43 (wM G h f_35 v_36)) (List.drop 48 (wM G h f_35 v_36)) (As := [.int p0]) (m_X0_countSubsumed G (sb h 43) p0 (sb f_35 33) (sb v_36 19) hq) oX0_countSubsumed kX4_166 ⟨rfl, rfl⟩ eX0_countSubsumed ⟨Nat.le_of_ble_eq_true rfl, Nat.le_of_ble_eq_true rfl⟩ ⟨Nat.zero_le _, Nat.zero_le _⟩ rfl (fun _ _ => rfl) 0 rfl rfl rfl (Nat.le_of_ble_eq_true rfl) dX4_ofMutant_130 rfl (fun r_37 hq => ?_)
                  exact hR _ _ _ f_35 v_36 dX4_ofMutant_133 hq
                · replace hq := hq.2 c_33
                  have zc_3 := ne_toInt (z := 0) (by decide) c_3
                  have zc_5 := ne_toInt (z := 1) (by decide) c_5
                  have zc_7 := ne_toInt (z := 2) (by decide) c_7
                  have zc_12 := ne_toInt (z := 3) (by decide) c_12
                  have zc_21 := ne_toInt (z := 4) (by decide) c_21
                  have zc_27 := ne_toInt (z := 5) (by decide) c_27
                  have zc_33 := ne_toInt (z := 6) (by decide) c_33
                  refine j_tableOut 134 C dX4_ofMutant_14 (by omega) rfl ?_
                  refine j_bipush 136 C dX4_ofMutant_134 rfl bc_m2 ?_
                  exact hR _ _ _ f v dX4_ofMutant_136 hq
  · replace hq := hq.2 c_2
    refine j_iconst 12 C dX4_ofMutant_11 rfl ic_m1 ?_
    exact hR _ _ _ f v dX4_ofMutant_12 hq
def Q_X4_state (p0 : Int32) (p1 : Int32) (f : FF) (v : VV) (post : Int32 → FF → VV → Prop) : Prop := Q_X1_hasMutant p0 (sb f 5) (sb v 11) (fun r_1 => (((r_1 = 0 → (post (-1 : Int32) f v)) ∧ (¬ r_1 = 0 → (Q_X1_hasTest p1 (sb f 5) (sb v 11) (fun r_3 => (((¬ r_3 = 0 → (Q_X1_runTest p1 (sb f 5) (sb v 11) (fun r_5 f_6 v_7 => (∀ f_8 : FF, f_8 = mg f 5 9 f_6 → (∀ v_9 : VV, v_9 = mg v 11 2 v_7 → (Q_X1_effect p0 (sb f_8 5) (sb v_9 11) (fun r_10 f_11 v_12 => (∀ f_13 : FF, f_13 = mg f_8 5 9 f_11 → (∀ v_14 : VV, v_14 = mg v_9 11 2 v_12 → (post r_10 f_13 v_14)))))))))) ∧ (r_3 = 0 → (post (-1 : Int32) f v))))))))))
set_option maxRecDepth 100000 in
set_option maxHeartbeats 4000000 in
theorem m_X4_state {l : Launch} (G : Gx) (h : Nat → Nat) (p0 : Int32) (p1 : Int32) (f : FF) (v : VV) {post : Int32 → FF → VV → Prop} (hq : Q_X4_state p0 p1 f v post) : MetI l yX4_state (gC yX4_state cX4_state 3 (some .int)) rmX4_state G [.ref (h 0), .int p0, .int p1] (wM G h) f v post := by
  refine met_i (own := RX4) (by decide) rfl (Nat.le_of_ble_eq_true rfl) (fun κ hκ C hR => ?_)
  unfold Q_X4_state at hq
  subst hκ
  show J κ 0 0 (wM G h f v) 0 [(0, .ref (h 0)), (1, .int p0), (2, .int p1)] []
  refine j_aload_n 1 C dX4_state_0 rfl 0 rfl ?_
  refine j_get 4 C uX4 0 rfl rfl 1 (Nat.le_of_ble_eq_true rfl) lX4_21 (v := .ref (h 11)) rfl dX4_state_1 rfl ?_
  refine j_iload_n 5 C dX4_state_4 rfl 1 rfl ?_
  refine j_callVi_ro 8 C (List.take 11 (wM G h f v)) (List.drop 21 (wM G h f v)) (As := [.int p0]) (m_X1_hasMutant G (sb h 11) p0 (sb f 5) (sb v 11) hq) oX1_hasMutant kX4_140 ⟨rfl, rfl⟩ eX1_hasMutant ⟨Nat.le_of_ble_eq_true rfl, Nat.le_of_ble_eq_true rfl⟩ ⟨Nat.zero_le _, Nat.zero_le _⟩ rfl (fun _ _ => rfl) 0 rfl rfl rfl (Nat.le_of_ble_eq_true rfl) dX4_state_5 rfl (fun r_1 hq => ?_)
  refine j_if_eq 11 22 C dX4_state_8 rfl rfl (fun c_2 => ?_) (fun c_2 => ?_)
  · replace hq := hq.1 c_2
    refine j_iconst 23 C dX4_state_22 rfl ic_m1 ?_
    exact hR _ _ _ f v dX4_state_23 hq
  · replace hq := hq.2 c_2
    refine j_aload_n 12 C dX4_state_11 rfl 0 rfl ?_
    refine j_get 15 C uX4 0 rfl rfl 1 (Nat.le_of_ble_eq_true rfl) lX4_21 (v := .ref (h 11)) rfl dX4_state_12 rfl ?_
    refine j_iload_n 16 C dX4_state_15 rfl 2 rfl ?_
    refine j_callVi_ro 19 C (List.take 11 (wM G h f v)) (List.drop 21 (wM G h f v)) (As := [.int p1]) (m_X1_hasTest G (sb h 11) p1 (sb f 5) (sb v 11) hq) oX1_hasTest kX4_102 ⟨rfl, rfl⟩ eX1_hasTest ⟨Nat.le_of_ble_eq_true rfl, Nat.le_of_ble_eq_true rfl⟩ ⟨Nat.zero_le _, Nat.zero_le _⟩ rfl (fun _ _ => rfl) 0 rfl rfl rfl (Nat.le_of_ble_eq_true rfl) dX4_state_16 rfl (fun r_3 hq => ?_)
    refine j_if_ne 22 24 C dX4_state_19 rfl rfl (fun c_4 => ?_) (fun c_4 => ?_)
    · replace hq := hq.1 c_4
      refine j_aload_n 25 C dX4_state_24 rfl 0 rfl ?_
      refine j_get 28 C uX4 0 rfl rfl 1 (Nat.le_of_ble_eq_true rfl) lX4_21 (v := .ref (h 11)) rfl dX4_state_25 rfl ?_
      refine j_iload_n 29 C dX4_state_28 rfl 2 rfl ?_
      refine j_callVi 32 C (List.take 11 (wM G h f v)) (List.drop 21 (wM G h f v)) (fun f' v' => (wM G h (mg f 5 9 f') (mg v 11 2 v'))) (As := [.int p1]) (m_X1_runTest G (sb h 11) p1 (sb f 5) (sb v 11) hq) oX1_runTest kX4_120 ⟨rfl, rfl⟩ eX1_runTest ⟨Nat.le_of_ble_eq_true rfl, Nat.le_of_ble_eq_true rfl⟩ ⟨Nat.zero_le _, Nat.zero_le _⟩ rfl (fun _ _ => rfl) (fun _ _ => rfl) 0 rfl rfl rfl (Nat.le_of_ble_eq_true rfl) dX4_state_29 rfl (fun r_5 f_6 v_7 hq => ?_)
      obtain ⟨f_8, ef_8⟩ : ∃ y : FF, y = mg f 5 9 f_6 := ⟨_, rfl⟩
      obtain ⟨v_9, ev_9⟩ : ∃ y : VV, y = mg v 11 2 v_7 := ⟨_, rfl⟩
      replace hq := hq f_8 ef_8 v_9 ev_9
      refine J.w0 (ws' := (wM G h f_8 v_9)) (by subst ef_8; subst ev_9; rfl) ?_
      refine j_pop 33 C dX4_state_32 rfl rfl ?_
      refine j_aload_n 34 C dX4_state_33 rfl 0 rfl ?_
      refine j_get 37 C uX4 0 rfl rfl 1 (Nat.le_of_ble_eq_true rfl) lX4_21 (v := .ref (h 11)) rfl dX4_state_34 rfl ?_
      refine j_iload_n 38 C dX4_state_37 rfl 1 rfl ?_
      refine j_callVi 41 C (List.take 11 (wM G h f_8 v_9)) (List.drop 21 (wM G h f_8 v_9)) (fun f' v' => (wM G h (mg f_8 5 9 f') (mg v_9 11 2 v'))) (As := [.int p0]) (m_X1_effect G (sb h 11) p0 (sb f_8 5) (sb v_9 11) hq) oX1_effect kX4_169 ⟨rfl, rfl⟩ eX1_effect ⟨Nat.le_of_ble_eq_true rfl, Nat.le_of_ble_eq_true rfl⟩ ⟨Nat.zero_le _, Nat.zero_le _⟩ rfl (fun _ _ => rfl) (fun _ _ => rfl) 0 rfl rfl rfl (Nat.le_of_ble_eq_true rfl) dX4_state_38 rfl (fun r_10 f_11 v_12 hq => ?_)
      obtain ⟨f_13, ef_13⟩ : ∃ y : FF, y = mg f_8 5 9 f_11 := ⟨_, rfl⟩
      obtain ⟨v_14, ev_14⟩ : ∃ y : VV, y = mg v_9 11 2 v_12 := ⟨_, rfl⟩
      replace hq := hq f_13 ef_13 v_14 ev_14
      refine J.w0 (ws' := (wM G h f_13 v_14)) (by subst ef_13; subst ev_14; rfl) ?_
      exact hR _ _ _ f_13 v_14 dX4_state_41 hq
    · replace hq := hq.2 c_4
      refine j_iconst 23 C dX4_state_22 rfl ic_m1 ?_
      exact hR _ _ _ f v dX4_state_23 hq
def Q_X4_subsumes (p0 : Int32) (p1 : Int32) (f : FF) (v : VV) (post : Int32 → FF → VV → Prop) : Prop := Q_X1_hasMutant p0 (sb f 5) (sb v 11) (fun r_1 => (((r_1 = 0 → (post (-1 : Int32) f v)) ∧ (¬ r_1 = 0 → (Q_X1_hasMutant p1 (sb f 5) (sb v 11) (fun r_3 => (((¬ r_3 = 0 → (Q_X4_killsNow  f v (fun f_6 v_7 => (Q_X0_isSubsumed p1 p0 (sb f_6 33) (sb v_7 19) (fun r_8 => (Q_X4_oneIf r_8 (fun r_9 => (post r_9 f_6 v_7)))))))) ∧ (r_3 = 0 → (post (-1 : Int32) f v))))))))))
set_option maxRecDepth 100000 in
set_option maxHeartbeats 4000000 in
theorem m_X4_subsumes {l : Launch} (G : Gx) (h : Nat → Nat) (p0 : Int32) (p1 : Int32) (f : FF) (v : VV) {post : Int32 → FF → VV → Prop} (hq : Q_X4_subsumes p0 p1 f v post) : MetI l yX4_subsumes (gC yX4_subsumes cX4_subsumes 3 (some .int)) rmX4_subsumes G [.ref (h 0), .int p0, .int p1] (wM G h) f v post := by
  refine met_i (own := RX4) (by decide) rfl (Nat.le_of_ble_eq_true rfl) (fun κ hκ C hR => ?_)
  unfold Q_X4_subsumes at hq
  subst hκ
  show J κ 0 0 (wM G h f v) 0 [(0, .ref (h 0)), (1, .int p0), (2, .int p1)] []
  refine j_aload_n 1 C dX4_subsumes_0 rfl 0 rfl ?_
  refine j_get 4 C uX4 0 rfl rfl 1 (Nat.le_of_ble_eq_true rfl) lX4_21 (v := .ref (h 11)) rfl dX4_subsumes_1 rfl ?_
  refine j_iload_n 5 C dX4_subsumes_4 rfl 1 rfl ?_
  refine j_callVi_ro 8 C (List.take 11 (wM G h f v)) (List.drop 21 (wM G h f v)) (As := [.int p0]) (m_X1_hasMutant G (sb h 11) p0 (sb f 5) (sb v 11) hq) oX1_hasMutant kX4_140 ⟨rfl, rfl⟩ eX1_hasMutant ⟨Nat.le_of_ble_eq_true rfl, Nat.le_of_ble_eq_true rfl⟩ ⟨Nat.zero_le _, Nat.zero_le _⟩ rfl (fun _ _ => rfl) 0 rfl rfl rfl (Nat.le_of_ble_eq_true rfl) dX4_subsumes_5 rfl (fun r_1 hq => ?_)
  refine j_if_eq 11 22 C dX4_subsumes_8 rfl rfl (fun c_2 => ?_) (fun c_2 => ?_)
  · replace hq := hq.1 c_2
    refine j_iconst 23 C dX4_subsumes_22 rfl ic_m1 ?_
    exact hR _ _ _ f v dX4_subsumes_23 hq
  · replace hq := hq.2 c_2
    refine j_aload_n 12 C dX4_subsumes_11 rfl 0 rfl ?_
    refine j_get 15 C uX4 0 rfl rfl 1 (Nat.le_of_ble_eq_true rfl) lX4_21 (v := .ref (h 11)) rfl dX4_subsumes_12 rfl ?_
    refine j_iload_n 16 C dX4_subsumes_15 rfl 2 rfl ?_
    refine j_callVi_ro 19 C (List.take 11 (wM G h f v)) (List.drop 21 (wM G h f v)) (As := [.int p1]) (m_X1_hasMutant G (sb h 11) p1 (sb f 5) (sb v 11) hq) oX1_hasMutant kX4_140 ⟨rfl, rfl⟩ eX1_hasMutant ⟨Nat.le_of_ble_eq_true rfl, Nat.le_of_ble_eq_true rfl⟩ ⟨Nat.zero_le _, Nat.zero_le _⟩ rfl (fun _ _ => rfl) 0 rfl rfl rfl (Nat.le_of_ble_eq_true rfl) dX4_subsumes_16 rfl (fun r_3 hq => ?_)
    refine j_if_ne 22 24 C dX4_subsumes_19 rfl rfl (fun c_4 => ?_) (fun c_4 => ?_)
    · replace hq := hq.1 c_4
      refine j_aload_n 25 C dX4_subsumes_24 rfl 0 rfl ?_
      refine j_callVr 28 C [] [] (fun f' v' => (wM G h f' v')) (As := []) (m_X4_killsNow G h f v hq) oX4_killsNow kX4_149 ⟨rfl, rfl⟩ eX4_killsNow ⟨Nat.le_of_ble_eq_true rfl, Nat.le_of_ble_eq_true rfl⟩ ⟨Nat.zero_le _, Nat.zero_le _⟩ (List.append_nil _).symm (fun _ _ => List.append_nil _) (fun _ _ => rfl) 0 rfl rfl rfl (Nat.le_of_ble_eq_true rfl) dX4_subsumes_25 rfl (fun f_6 v_7 hq => ?_)
      refine j_iload_n 29 C dX4_subsumes_28 rfl 2 rfl ?_
      refine j_iload_n 30 C dX4_subsumes_29 rfl 1 rfl ?_
      refine j_callVi_ro 33 C (List.take 43 (wM G h f_6 v_7)) (List.drop 48 (wM G h f_6 v_7)) (As := [.int p1, .int p0]) (m_X0_isSubsumed G (sb h 43) p1 p0 (sb f_6 33) (sb v_7 19) hq) oX0_isSubsumed kX4_172 ⟨rfl, rfl⟩ eX0_isSubsumed ⟨Nat.le_of_ble_eq_true rfl, Nat.le_of_ble_eq_true rfl⟩ ⟨Nat.zero_le _, Nat.zero_le _⟩ rfl (fun _ _ => rfl) 0 rfl rfl rfl (Nat.le_of_ble_eq_true rfl) dX4_subsumes_30 rfl (fun r_8 hq => ?_)
      refine j_callSi 36 C [] (wM G h f_6 v_7) (fun _ _ => (wM G h f_6 v_7)) (As := [.int r_8]) (m_X4_oneIf G r_8 hq) oX4_oneIf kX4_159 ⟨rfl, rfl⟩ eX4_oneIf ⟨Nat.le_of_ble_eq_true rfl, Nat.le_of_ble_eq_true rfl⟩ ⟨Nat.zero_le _, Nat.zero_le _⟩ rfl (fun _ _ => rfl) (fun _ _ => rfl) rfl (Nat.le_of_ble_eq_true rfl) dX4_subsumes_33 rfl (fun r_9 _ _ hq => ?_)
      exact hR _ _ _ f_6 v_7 dX4_subsumes_36 hq
    · replace hq := hq.2 c_4
      refine j_iconst 23 C dX4_subsumes_22 rfl ic_m1 ?_
      exact hR _ _ _ f v dX4_subsumes_23 hq
def Q_X4_hardest (f : FF) (v : VV) (post : Int32 → FF → VV → Prop) : Prop := Q_X1_isEmpty  (sb f 5) (sb v 11) (fun r_1 => (((r_1 = 0 → (Q_X4_killsNow  f v (fun f_4 v_5 => (Q_X0_hardestMutant  (sb f_4 33) (sb v_5 19) (fun r_6 => (post r_6 f_4 v_5)))))) ∧ (¬ r_1 = 0 → (post (-3 : Int32) f v)))))
set_option maxRecDepth 100000 in
set_option maxHeartbeats 4000000 in
theorem m_X4_hardest {l : Launch} (G : Gx) (h : Nat → Nat) (f : FF) (v : VV) {post : Int32 → FF → VV → Prop} (hq : Q_X4_hardest f v post) : MetI l yX4_hardest (gC yX4_hardest cX4_hardest 1 (some .int)) rmX4_hardest G [.ref (h 0)] (wM G h) f v post := by
  refine met_i (own := RX4) (by decide) rfl (Nat.le_of_ble_eq_true rfl) (fun κ hκ C hR => ?_)
  unfold Q_X4_hardest at hq
  subst hκ
  show J κ 0 0 (wM G h f v) 0 [(0, .ref (h 0))] []
  refine j_aload_n 1 C dX4_hardest_0 rfl 0 rfl ?_
  refine j_get 4 C uX4 0 rfl rfl 1 (Nat.le_of_ble_eq_true rfl) lX4_21 (v := .ref (h 11)) rfl dX4_hardest_1 rfl ?_
  refine j_callVi_ro 7 C (List.take 11 (wM G h f v)) (List.drop 21 (wM G h f v)) (As := []) (m_X1_isEmpty G (sb h 11) (sb f 5) (sb v 11) hq) oX1_isEmpty kX4_129 ⟨rfl, rfl⟩ eX1_isEmpty ⟨Nat.le_of_ble_eq_true rfl, Nat.le_of_ble_eq_true rfl⟩ ⟨Nat.zero_le _, Nat.zero_le _⟩ rfl (fun _ _ => rfl) 0 rfl rfl rfl (Nat.le_of_ble_eq_true rfl) dX4_hardest_4 rfl (fun r_1 hq => ?_)
  refine j_if_eq 10 13 C dX4_hardest_7 rfl rfl (fun c_2 => ?_) (fun c_2 => ?_)
  · replace hq := hq.1 c_2
    refine j_aload_n 14 C dX4_hardest_13 rfl 0 rfl ?_
    refine j_callVr 17 C [] [] (fun f' v' => (wM G h f' v')) (As := []) (m_X4_killsNow G h f v hq) oX4_killsNow kX4_149 ⟨rfl, rfl⟩ eX4_killsNow ⟨Nat.le_of_ble_eq_true rfl, Nat.le_of_ble_eq_true rfl⟩ ⟨Nat.zero_le _, Nat.zero_le _⟩ (List.append_nil _).symm (fun _ _ => List.append_nil _) (fun _ _ => rfl) 0 rfl rfl rfl (Nat.le_of_ble_eq_true rfl) dX4_hardest_14 rfl (fun f_4 v_5 hq => ?_)
    refine j_callVi_ro 20 C (List.take 43 (wM G h f_4 v_5)) (List.drop 48 (wM G h f_4 v_5)) (As := []) (m_X0_hardestMutant G (sb h 43) (sb f_4 33) (sb v_5 19) hq) oX0_hardestMutant kX4_175 ⟨rfl, rfl⟩ eX0_hardestMutant ⟨Nat.le_of_ble_eq_true rfl, Nat.le_of_ble_eq_true rfl⟩ ⟨Nat.zero_le _, Nat.zero_le _⟩ rfl (fun _ _ => rfl) 0 rfl rfl rfl (Nat.le_of_ble_eq_true rfl) dX4_hardest_17 rfl (fun r_6 hq => ?_)
    exact hR _ _ _ f_4 v_5 dX4_hardest_20 hq
  · replace hq := hq.2 c_2
    refine j_bipush 12 C dX4_hardest_10 rfl bc_m3 ?_
    exact hR _ _ _ f v dX4_hardest_12 hq
def Q_X4_tryActs_L14 (kq : Nat) (x2 : Int32) (x3 : Int32) (K54 : Int32 → FF → VV → Prop) (K63 : Int32 → FF → VV → Prop) : Nat → Int32 → FF → VV → Prop
  | 0, _, _, _ => False
  | n + 1, x4, f, v => ((x3 ≤ x4 → (K63 x4 f v)) ∧ (¬ x3 ≤ x4 → (vp_in (x2 + ((2 : Int32) * x4)) 60 ∧ (vp_in ((x2 + ((2 : Int32) * x4)) + (1 : Int32)) 60 ∧ (Q_X1_act ((f (1 + kq)) ((x2 + ((2 : Int32) * x4))).toNatClampNeg) ((f (1 + kq)) (((x2 + ((2 : Int32) * x4)) + (1 : Int32))).toNatClampNeg) (sb f 14) (sb v 13) (fun r_10 f_11 v_12 => (∀ f_13 : FF, f_13 = mg f 14 9 f_11 → (∀ v_14 : VV, v_14 = mg v 13 2 v_12 → (((¬ r_10 = 0 → (∀ x_16 : Int32, x_16 = (x4 + (1 : Int32)) → (Q_X4_tryActs_L14 kq x2 x3 K54 K63 n x_16 f_13 v_14))) ∧ (r_10 = 0 → (K54 x4 f_13 v_14))))))))))))
set_option maxRecDepth 100000 in
set_option maxHeartbeats 4000000 in
theorem t_X4_tryActs_L14 {κ : Kx} {G : Gx} {h : Nat → Nat} (C : Cx κ G RX4 cX4_tryActs rmX4_tryActs 5) {kq : Nat} (hk : kq < 4) {x2 : Int32} {x3 : Int32} {K54 : Int32 → FF → VV → Prop} {K63 : Int32 → FF → VV → Prop} (hK54 : ∀ (x4 : Int32) (f : FF) (v : VV), K54 x4 f v → J κ 0 0 (wM G h f v) 54 [(0, .ref (h 0)), (1, .ref (h (3 + 2 * kq))), (2, .int x2), (3, .int x3), (4, .int x4)] []) (hK63 : ∀ (x4 : Int32) (f : FF) (v : VV), K63 x4 f v → J κ 0 0 (wM G h f v) 63 [(0, .ref (h 0)), (1, .ref (h (3 + 2 * kq))), (2, .int x2), (3, .int x3), (4, .int x4)] []) : ∀ (n : Nat) (x4 : Int32) (f : FF) (v : VV), Q_X4_tryActs_L14 kq x2 x3 K54 K63 n x4 f v → J κ 0 0 (wM G h f v) 14 [(0, .ref (h 0)), (1, .ref (h (3 + 2 * kq))), (2, .int x2), (3, .int x3), (4, .int x4)] [] := by
  intro n
  induction n with
  | zero => intro x4 f v hq; exact False.elim hq
  | succ n ih =>
    intro x4 f v hq
    rw [Q_X4_tryActs_L14] at hq
    refine j_iload 16 C dX4_tryActs_14 rfl 4 rfl ?_
    refine j_iload_n 17 C dX4_tryActs_16 rfl 3 rfl ?_
    refine j_icmp_ge 20 63 C dX4_tryActs_17 rfl rfl (fun c_7 => ?_) (fun c_7 => ?_)
    · replace hq := hq.1 c_7
      refine J.l0 [0, 1, 2, 3, 4] rfl ?_
      exact hK63 _ _ _ hq
    · replace hq := hq.2 c_7
      refine j_aload_n 21 C dX4_tryActs_20 rfl 0 rfl ?_
      refine j_get 24 C uX4 0 rfl rfl 2 (Nat.le_of_ble_eq_true rfl) lX4_25 (v := .ref (h 21)) rfl dX4_tryActs_21 rfl ?_
      refine j_aload_n 25 C dX4_tryActs_24 rfl 1 rfl ?_
      refine j_get 28 C uX2 (3 + 2 * kq) (shO hk) rfl 0 (Nat.le_of_ble_eq_true rfl) lX4_239 (v := .ref (h (3 + 2 * kq + 1))) rfl dX4_tryActs_25 rfl ?_
      refine j_iload_n 29 C dX4_tryActs_28 rfl 2 rfl ?_
      refine j_iconst 30 C dX4_tryActs_29 rfl ic_2 ?_
      refine j_iload 32 C dX4_tryActs_30 rfl 4 rfl ?_
      refine j_imul 33 C dX4_tryActs_32 rfl ?_
      refine j_iadd 34 C dX4_tryActs_33 rfl ?_
      obtain ⟨hi_8, hq⟩ := hq
      refine j_iald 35 C (3 + 2 * kq + 1) (f := (f (1 + kq))) (shA hk) hi_8 dX4_tryActs_34 rfl ?_
      refine j_aload_n 36 C dX4_tryActs_35 rfl 1 rfl ?_
      refine j_get 39 C uX2 (3 + 2 * kq) (shO hk) rfl 0 (Nat.le_of_ble_eq_true rfl) lX4_239 (v := .ref (h (3 + 2 * kq + 1))) rfl dX4_tryActs_36 rfl ?_
      refine j_iload_n 40 C dX4_tryActs_39 rfl 2 rfl ?_
      refine j_iconst 41 C dX4_tryActs_40 rfl ic_2 ?_
      refine j_iload 43 C dX4_tryActs_41 rfl 4 rfl ?_
      refine j_imul 44 C dX4_tryActs_43 rfl ?_
      refine j_iadd 45 C dX4_tryActs_44 rfl ?_
      refine j_iconst 46 C dX4_tryActs_45 rfl ic_1 ?_
      refine j_iadd 47 C dX4_tryActs_46 rfl ?_
      obtain ⟨hi_9, hq⟩ := hq
      refine j_iald 48 C (3 + 2 * kq + 1) (f := (f (1 + kq))) (shA hk) hi_9 dX4_tryActs_47 rfl ?_
      refine j_callVi 51 C (List.take 21 (wM G h f v)) (List.drop 31 (wM G h f v)) (fun f' v' => (wM G h (mg f 14 9 f') (mg v 13 2 v'))) (As := [.int ((f (1 + kq)) ((x2 + ((2 : Int32) * x4))).toNatClampNeg), .int ((f (1 + kq)) (((x2 + ((2 : Int32) * x4)) + (1 : Int32))).toNatClampNeg)]) (m_X1_act G (sb h 21) ((f (1 + kq)) ((x2 + ((2 : Int32) * x4))).toNatClampNeg) ((f (1 + kq)) (((x2 + ((2 : Int32) * x4)) + (1 : Int32))).toNatClampNeg) (sb f 14) (sb v 13) hq) oX1_act kX4_287 ⟨rfl, rfl⟩ eX1_act ⟨Nat.le_of_ble_eq_true rfl, Nat.le_of_ble_eq_true rfl⟩ ⟨Nat.zero_le _, Nat.zero_le _⟩ rfl (fun _ _ => rfl) (fun _ _ => rfl) 0 rfl rfl rfl (Nat.le_of_ble_eq_true rfl) dX4_tryActs_48 rfl (fun r_10 f_11 v_12 hq => ?_)
      obtain ⟨f_13, ef_13⟩ : ∃ y : FF, y = mg f 14 9 f_11 := ⟨_, rfl⟩
      obtain ⟨v_14, ev_14⟩ : ∃ y : VV, y = mg v 13 2 v_12 := ⟨_, rfl⟩
      replace hq := hq f_13 ef_13 v_14 ev_14
      refine J.w0 (ws' := (wM G h f_13 v_14)) (by subst ef_13; subst ev_14; rfl) ?_
      refine j_if_ne 54 57 C dX4_tryActs_51 rfl rfl (fun c_15 => ?_) (fun c_15 => ?_)
      · replace hq := hq.1 c_15
        obtain ⟨x_16, ex_16⟩ : ∃ y : Int32, y = (x4 + (1 : Int32)) := ⟨_, rfl⟩
        replace hq := hq x_16 ex_16
        refine j_iinc 60 C dX4_tryActs_57 rfl 4 rfl (v := x_16) (by rw [ex_16]; rfl) (Nat.le_of_ble_eq_true rfl) [1, 2, 3, 4, 0] (lv' := [(0, .ref (h 0)), (1, .ref (h (3 + 2 * kq))), (2, .int x2), (3, .int x3), (4, .int x_16)]) rfl ?_
        refine j_goto 14 C dX4_tryActs_60 rfl ?_
        refine J.l0 [0, 1, 2, 3, 4] rfl ?_
        exact ih _ _ _ hq
      · replace hq := hq.2 c_15
        refine J.l0 [0, 1, 2, 3, 4] rfl ?_
        exact hK54 _ _ _ hq
def Q_X4_tryActs (kq : Nat) (p1 : Int32) (p2 : Int32) (f : FF) (v : VV) (post : Int32 → FF → VV → Prop) : Prop := Q_X1_becomeLike  (jn f 14 9 5) (jn v 13 2 11) (fun f_3 v_4 => (∀ f_5 : FF, f_5 = mg (mg f 14 9 f_3) 5 9 (sb f_3 9) → (∀ v_6 : VV, v_6 = mg (mg v 13 2 v_4) 11 2 (sb v_4 2) → (∃ n_17 : Nat, Q_X4_tryActs_L14 kq p1 p2 (fun x_18 f_19 v_20 => (post x_18 f_19 v_20)) (fun x_21 f_22 v_23 => (post (-9 : Int32) f_22 v_23)) n_17 (0 : Int32) f_5 v_6))))
set_option maxRecDepth 100000 in
set_option maxHeartbeats 4000000 in
theorem m_X4_tryActs {l : Launch} (G : Gx) (h : Nat → Nat) (kq : Nat) (hk : kq < 4) (p1 : Int32) (p2 : Int32) (f : FF) (v : VV) {post : Int32 → FF → VV → Prop} (hq : Q_X4_tryActs kq p1 p2 f v post) : MetI l yX4_tryActs (gC yX4_tryActs cX4_tryActs 5 (some .int)) rmX4_tryActs G [.ref (h 0), .ref (h (3 + 2 * kq)), .int p1, .int p2] (wM G h) f v post := by
  refine met_i (own := RX4) (by decide) rfl (Nat.le_of_ble_eq_true rfl) (fun κ hκ C hR => ?_)
  unfold Q_X4_tryActs at hq
  subst hκ
  show J κ 0 0 (wM G h f v) 0 [(0, .ref (h 0)), (1, .ref (h (3 + 2 * kq))), (2, .int p1), (3, .int p2)] []
  refine j_aload_n 1 C dX4_tryActs_0 rfl 0 rfl ?_
  refine j_get 4 C uX4 0 rfl rfl 2 (Nat.le_of_ble_eq_true rfl) lX4_25 (v := .ref (h 21)) rfl dX4_tryActs_1 rfl ?_
  refine j_aload_n 5 C dX4_tryActs_4 rfl 0 rfl ?_
  refine j_get 8 C uX4 0 rfl rfl 1 (Nat.le_of_ble_eq_true rfl) lX4_21 (v := .ref (h 11)) rfl dX4_tryActs_5 rfl ?_
  refine J.perm pmC ?_
  refine j_callVv 11 C (mA G h f v) (mR G h f v ++ mK G h f v) (fun f' v' => (mA G h f v) ++ (wPP G (jn h 21 10 11) f' v' ++ (mR G h f v ++ mK G h f v))) (As := [.ref (h 11)]) (m_X1_becomeLike G (jn h 21 10 11) (jn f 14 9 5) (jn v 13 2 11) hq) oX1_becomeLike kX4_79 ⟨rfl, rfl⟩ eX1_becomeLike ⟨Nat.le_of_ble_eq_true rfl, Nat.le_of_ble_eq_true rfl⟩ ⟨Nat.zero_le _, Nat.zero_le _⟩ rfl (fun _ _ => rfl) (fun _ _ => rfl) 0 rfl rfl rfl (Nat.le_of_ble_eq_true rfl) dX4_tryActs_8 rfl (fun f_3 v_4 hq => ?_)
  obtain ⟨f_5, ef_5⟩ : ∃ y : FF, y = mg (mg f 14 9 f_3) 5 9 (sb f_3 9) := ⟨_, rfl⟩
  obtain ⟨v_6, ev_6⟩ : ∃ y : VV, y = mg (mg v 13 2 v_4) 11 2 (sb v_4 2) := ⟨_, rfl⟩
  replace hq := hq f_5 ef_5 v_6 ev_6
  refine J.perm (ws' := (wM G h f_5 v_6)) (by subst ef_5; subst ev_6; exact pmC' _ _) ?_
  refine j_iconst 12 C dX4_tryActs_11 rfl ic_0 ?_
  refine j_istore 14 C dX4_tryActs_12 rfl (Nat.le_of_ble_eq_true rfl) [1, 2, 3, 4, 0] (lv' := [(0, .ref (h 0)), (1, .ref (h (3 + 2 * kq))), (2, .int p1), (3, .int p2), (4, .int (0 : Int32))]) rfl ?_
  obtain ⟨n_17, hq⟩ := hq
  refine t_X4_tryActs_L14 C hk ?_ ?_ n_17 _ _ _ hq
  · intro x_18 f_19 v_20 hq
    refine j_iload 56 C dX4_tryActs_54 rfl 4 rfl ?_
    exact hR _ _ _ f_19 v_20 dX4_tryActs_56 hq
  · intro x_21 f_22 v_23 hq
    refine j_bipush 65 C dX4_tryActs_63 rfl bc_m9 ?_
    exact hR _ _ _ f_22 v_23 dX4_tryActs_65 hq
def Q_X4_ofTrial (p0 : Int32) (f : FF) (v : VV) (post : Int32 → FF → VV → Prop) : Prop := ((p0 < (10 : Int32) → (((¬ p0 = (2 : Int32) → (Q_X0_find  (jn f 14 9 33) (jn v 13 2 19) (fun f_5 v_6 => (∀ f_7 : FF, f_7 = mg (mg f 14 9 f_5) 33 4 (sb f_5 9) → (∀ v_8 : VV, v_8 = mg (mg v 13 2 v_6) 19 3 (sb v_6 2) → (((p0 = (0 : Int32) → (Q_J6_bitCount_0f7a4 (v_8 21) (fun r_10 => (post r_10 f_7 v_8)))) ∧ (¬ p0 = (0 : Int32) → (((p0 = (3 : Int32) → (Q_X0_countLeast  (sb f_7 33) (sb v_8 19) (fun r_12 => (post r_12 f_7 v_8)))) ∧ (¬ p0 = (3 : Int32) → (Q_X0_lightestTests  (sb f_7 33) (sb v_8 19) (fun r_13 => (Q_X0_weightOf r_13 (sb f_7 33) (sb v_8 19) (fun r_14 => (post r_14 f_7 v_8)))))))))))))))) ∧ (p0 = (2 : Int32) → (Q_X1_countEqual  (sb f 14) (sb v 13) (fun r_15 f_16 v_17 => (∀ f_18 : FF, f_18 = mg f 14 9 f_16 → (∀ v_19 : VV, v_19 = mg v 13 2 v_17 → (post r_15 f_18 v_19))))))))) ∧ (¬ p0 < (10 : Int32) → (∀ x_20 : Int32, x_20 = (p0 - (10 : Int32)) → (Q_X1_hasTest x_20 (sb f 14) (sb v 13) (fun r_21 => (((r_21 = 0 → (post (-9 : Int32) f v)) ∧ (¬ r_21 = 0 → (Q_X1_runTest x_20 (sb f 14) (sb v 13) (fun r_23 f_24 v_25 => (∀ f_26 : FF, f_26 = mg f 14 9 f_24 → (∀ v_27 : VV, v_27 = mg v 13 2 v_25 → (post r_23 f_26 v_27)))))))))))))
set_option maxRecDepth 100000 in
set_option maxHeartbeats 4000000 in
theorem m_X4_ofTrial {l : Launch} (G : Gx) (h : Nat → Nat) (p0 : Int32) (f : FF) (v : VV) {post : Int32 → FF → VV → Prop} (hq : Q_X4_ofTrial p0 f v post) : MetI l yX4_ofTrial (gC yX4_ofTrial cX4_ofTrial 3 (some .int)) rmX4_ofTrial G [.ref (h 0), .int p0] (wM G h) f v post := by
  refine met_i (own := RX4) (by decide) rfl (Nat.le_of_ble_eq_true rfl) (fun κ hκ C hR => ?_)
  unfold Q_X4_ofTrial at hq
  subst hκ
  show J κ 0 0 (wM G h f v) 0 [(0, .ref (h 0)), (1, .int p0)] []
  refine j_iload_n 1 C dX4_ofTrial_0 rfl 1 rfl ?_
  refine j_bipush 3 C dX4_ofTrial_1 rfl bc_10 ?_
  refine j_icmp_lt 6 36 C dX4_ofTrial_3 rfl rfl (fun c_1 => ?_) (fun c_1 => ?_)
  · replace hq := hq.1 c_1
    refine j_iload_n 37 C dX4_ofTrial_36 rfl 1 rfl ?_
    refine j_iconst 38 C dX4_ofTrial_37 rfl ic_2 ?_
    refine j_icmp_ne 41 49 C dX4_ofTrial_38 rfl rfl (fun c_2 => ?_) (fun c_2 => ?_)
    · replace hq := hq.1 c_2
      refine j_aload_n 50 C dX4_ofTrial_49 rfl 0 rfl ?_
      refine j_get 53 C uX4 0 rfl rfl 4 (Nat.le_of_ble_eq_true rfl) lX4_38 (v := .ref (h 43)) rfl dX4_ofTrial_50 rfl ?_
      refine j_aload_n 54 C dX4_ofTrial_53 rfl 0 rfl ?_
      refine j_get 57 C uX4 0 rfl rfl 2 (Nat.le_of_ble_eq_true rfl) lX4_25 (v := .ref (h 21)) rfl dX4_ofTrial_54 rfl ?_
      refine J.perm pmT ?_
      refine j_callVv 60 C (mA G h f v ++ mN G h f v) (mR G h f v) (fun f' v' => (mA G h f v ++ mN G h f v) ++ (wPK G (jn h 21 10 43) f' v' ++ (mR G h f v))) (As := [.ref (h 21)]) (m_X0_find G (jn h 21 10 43) (jn f 14 9 33) (jn v 13 2 19) hq) oX0_find kX4_281 ⟨rfl, rfl⟩ eX0_find ⟨Nat.le_of_ble_eq_true rfl, Nat.le_of_ble_eq_true rfl⟩ ⟨Nat.zero_le _, Nat.zero_le _⟩ rfl (fun _ _ => rfl) (fun _ _ => rfl) 10 rfl rfl rfl (Nat.le_of_ble_eq_true rfl) dX4_ofTrial_57 rfl (fun f_5 v_6 hq => ?_)
      obtain ⟨f_7, ef_7⟩ : ∃ y : FF, y = mg (mg f 14 9 f_5) 33 4 (sb f_5 9) := ⟨_, rfl⟩
      obtain ⟨v_8, ev_8⟩ : ∃ y : VV, y = mg (mg v 13 2 v_6) 19 3 (sb v_6 2) := ⟨_, rfl⟩
      replace hq := hq f_7 ef_7 v_8 ev_8
      refine J.perm (ws' := (wM G h f_7 v_8)) (by subst ef_7; subst ev_8; exact pmT' _ _) ?_
      refine j_iload_n 61 C dX4_ofTrial_60 rfl 1 rfl ?_
      by_cases c_9 : p0 = (0 : Int32)
      · replace hq := hq.1 c_9
        refine j_lookup 88 C dX4_ofTrial_61 (by decide) (off := 27) (by rw [c_9] <;> decide) rfl ?_
        refine j_aload_n 89 C dX4_ofTrial_88 rfl 0 rfl ?_
        refine j_get 92 C uX4 0 rfl rfl 4 (Nat.le_of_ble_eq_true rfl) lX4_38 (v := .ref (h 43)) rfl dX4_ofTrial_89 rfl ?_
        refine j_get 95 C uX0 43 rfl rfl 6 (Nat.le_of_ble_eq_true rfl) lX4_213 (v := .int (v_8 21)) rfl dX4_ofTrial_92 rfl ?_
        refine j_callSi 98 C [] (wM G h f_7 v_8) (fun _ _ => (wM G h f_7 v_8)) (As := [.int (v_8 21)]) (m_J6_bitCount_0f7a4 G (v_8 21) hq) oJ6_bitCount_0f7a4 kX4_197 ⟨rfl, rfl⟩ eJ6_bitCount_0f7a4 ⟨Nat.le_of_ble_eq_true rfl, Nat.le_of_ble_eq_true rfl⟩ ⟨Nat.zero_le _, Nat.zero_le _⟩ rfl (fun _ _ => rfl) (fun _ _ => rfl) rfl (Nat.le_of_ble_eq_true rfl) dX4_ofTrial_95 rfl (fun r_10 _ _ hq => ?_)
        exact hR _ _ _ f_7 v_8 dX4_ofTrial_98 hq
      · replace hq := hq.2 c_9
        by_cases c_11 : p0 = (3 : Int32)
        · replace hq := hq.1 c_11
          refine j_lookup 99 C dX4_ofTrial_61 (by decide) (off := 38) (by rw [c_11] <;> decide) rfl ?_
          refine j_aload_n 100 C dX4_ofTrial_99 rfl 0 rfl ?_
          refine j_get 103 C uX4 0 rfl rfl 4 (Nat.le_of_ble_eq_true rfl) lX4_38 (v := .ref (h 43)) rfl dX4_ofTrial_100 rfl ?_
          refine j_callVi_ro 106 C (List.take 43 (wM G h f_7 v_8)) (List.drop 48 (wM G h f_7 v_8)) (As := []) (m_X0_countLeast G (sb h 43) (sb f_7 33) (sb v_8 19) hq) oX0_countLeast kX4_290 ⟨rfl, rfl⟩ eX0_countLeast ⟨Nat.le_of_ble_eq_true rfl, Nat.le_of_ble_eq_true rfl⟩ ⟨Nat.zero_le _, Nat.zero_le _⟩ rfl (fun _ _ => rfl) 0 rfl rfl rfl (Nat.le_of_ble_eq_true rfl) dX4_ofTrial_103 rfl (fun r_12 hq => ?_)
          exact hR _ _ _ f_7 v_8 dX4_ofTrial_106 hq
        · replace hq := hq.2 c_11
          have zc_9 := ne_toInt (z := 0) (by decide) c_9
          have zc_11 := ne_toInt (z := 3) (by decide) c_11
          refine j_lookup 107 C dX4_ofTrial_61 (by decide) (off := 46) (by simp only [Op.lookupswitch.offset_cons, Op.lookupswitch.offset_nil]; rw [if_neg (fun e9 => zc_9 e9.symm)]; rw [if_neg (fun e9 => zc_11 e9.symm)]) rfl ?_
          refine j_aload_n 108 C dX4_ofTrial_107 rfl 0 rfl ?_
          refine j_get 111 C uX4 0 rfl rfl 4 (Nat.le_of_ble_eq_true rfl) lX4_38 (v := .ref (h 43)) rfl dX4_ofTrial_108 rfl ?_
          refine j_aload_n 112 C dX4_ofTrial_111 rfl 0 rfl ?_
          refine j_get 115 C uX4 0 rfl rfl 4 (Nat.le_of_ble_eq_true rfl) lX4_38 (v := .ref (h 43)) rfl dX4_ofTrial_112 rfl ?_
          refine j_callVi_ro 118 C (List.take 43 (wM G h f_7 v_8)) (List.drop 48 (wM G h f_7 v_8)) (As := []) (m_X0_lightestTests G (sb h 43) (sb f_7 33) (sb v_8 19) hq) oX0_lightestTests kX4_191 ⟨rfl, rfl⟩ eX0_lightestTests ⟨Nat.le_of_ble_eq_true rfl, Nat.le_of_ble_eq_true rfl⟩ ⟨Nat.zero_le _, Nat.zero_le _⟩ rfl (fun _ _ => rfl) 0 rfl rfl rfl (Nat.le_of_ble_eq_true rfl) dX4_ofTrial_115 rfl (fun r_13 hq => ?_)
          refine j_callVi_ro 121 C (List.take 43 (wM G h f_7 v_8)) (List.drop 48 (wM G h f_7 v_8)) (As := [.int r_13]) (m_X0_weightOf G (sb h 43) r_13 (sb f_7 33) (sb v_8 19) hq) oX0_weightOf kX4_194 ⟨rfl, rfl⟩ eX0_weightOf ⟨Nat.le_of_ble_eq_true rfl, Nat.le_of_ble_eq_true rfl⟩ ⟨Nat.zero_le _, Nat.zero_le _⟩ rfl (fun _ _ => rfl) 0 rfl rfl rfl (Nat.le_of_ble_eq_true rfl) dX4_ofTrial_118 rfl (fun r_14 hq => ?_)
          exact hR _ _ _ f_7 v_8 dX4_ofTrial_121 hq
    · replace hq := hq.2 c_2
      refine j_aload_n 42 C dX4_ofTrial_41 rfl 0 rfl ?_
      refine j_get 45 C uX4 0 rfl rfl 2 (Nat.le_of_ble_eq_true rfl) lX4_25 (v := .ref (h 21)) rfl dX4_ofTrial_42 rfl ?_
      refine j_callVi 48 C (List.take 21 (wM G h f v)) (List.drop 31 (wM G h f v)) (fun f' v' => (wM G h (mg f 14 9 f') (mg v 13 2 v'))) (As := []) (m_X1_countEqual G (sb h 21) (sb f 14) (sb v 13) hq) oX1_countEqual kX4_278 ⟨rfl, rfl⟩ eX1_countEqual ⟨Nat.le_of_ble_eq_true rfl, Nat.le_of_ble_eq_true rfl⟩ ⟨Nat.zero_le _, Nat.zero_le _⟩ rfl (fun _ _ => rfl) (fun _ _ => rfl) 0 rfl rfl rfl (Nat.le_of_ble_eq_true rfl) dX4_ofTrial_45 rfl (fun r_15 f_16 v_17 hq => ?_)
      obtain ⟨f_18, ef_18⟩ : ∃ y : FF, y = mg f 14 9 f_16 := ⟨_, rfl⟩
      obtain ⟨v_19, ev_19⟩ : ∃ y : VV, y = mg v 13 2 v_17 := ⟨_, rfl⟩
      replace hq := hq f_18 ef_18 v_19 ev_19
      refine J.w0 (ws' := (wM G h f_18 v_19)) (by subst ef_18; subst ev_19; rfl) ?_
      exact hR _ _ _ f_18 v_19 dX4_ofTrial_48 hq
  · replace hq := hq.2 c_1
    refine j_iload_n 7 C dX4_ofTrial_6 rfl 1 rfl ?_
    refine j_bipush 9 C dX4_ofTrial_7 rfl bc_10 ?_
    refine j_isub 10 C dX4_ofTrial_9 rfl ?_
    refine J.topi (fun x_20 ex_20 => ?_)
    replace hq := hq x_20 ex_20
    refine j_istore_n 11 C dX4_ofTrial_10 rfl (Nat.le_of_ble_eq_true rfl) [1, 2, 0] (lv' := [(0, .ref (h 0)), (1, .int p0), (2, .int x_20)]) rfl ?_
    refine j_aload_n 12 C dX4_ofTrial_11 rfl 0 rfl ?_
    refine j_get 15 C uX4 0 rfl rfl 2 (Nat.le_of_ble_eq_true rfl) lX4_25 (v := .ref (h 21)) rfl dX4_ofTrial_12 rfl ?_
    refine j_iload_n 16 C dX4_ofTrial_15 rfl 2 rfl ?_
    refine j_callVi_ro 19 C (List.take 21 (wM G h f v)) (List.drop 31 (wM G h f v)) (As := [.int x_20]) (m_X1_hasTest G (sb h 21) x_20 (sb f 14) (sb v 13) hq) oX1_hasTest kX4_102 ⟨rfl, rfl⟩ eX1_hasTest ⟨Nat.le_of_ble_eq_true rfl, Nat.le_of_ble_eq_true rfl⟩ ⟨Nat.zero_le _, Nat.zero_le _⟩ rfl (fun _ _ => rfl) 0 rfl rfl rfl (Nat.le_of_ble_eq_true rfl) dX4_ofTrial_16 rfl (fun r_21 hq => ?_)
    refine j_if_eq 22 33 C dX4_ofTrial_19 rfl rfl (fun c_22 => ?_) (fun c_22 => ?_)
    · replace hq := hq.1 c_22
      refine j_bipush 35 C dX4_ofTrial_33 rfl bc_m9 ?_
      exact hR _ _ _ f v dX4_ofTrial_35 hq
    · replace hq := hq.2 c_22
      refine j_aload_n 23 C dX4_ofTrial_22 rfl 0 rfl ?_
      refine j_get 26 C uX4 0 rfl rfl 2 (Nat.le_of_ble_eq_true rfl) lX4_25 (v := .ref (h 21)) rfl dX4_ofTrial_23 rfl ?_
      refine j_iload_n 27 C dX4_ofTrial_26 rfl 2 rfl ?_
      refine j_callVi 30 C (List.take 21 (wM G h f v)) (List.drop 31 (wM G h f v)) (fun f' v' => (wM G h (mg f 14 9 f') (mg v 13 2 v'))) (As := [.int x_20]) (m_X1_runTest G (sb h 21) x_20 (sb f 14) (sb v 13) hq) oX1_runTest kX4_120 ⟨rfl, rfl⟩ eX1_runTest ⟨Nat.le_of_ble_eq_true rfl, Nat.le_of_ble_eq_true rfl⟩ ⟨Nat.zero_le _, Nat.zero_le _⟩ rfl (fun _ _ => rfl) (fun _ _ => rfl) 0 rfl rfl rfl (Nat.le_of_ble_eq_true rfl) dX4_ofTrial_27 rfl (fun r_23 f_24 v_25 hq => ?_)
      obtain ⟨f_26, ef_26⟩ : ∃ y : FF, y = mg f 14 9 f_24 := ⟨_, rfl⟩
      obtain ⟨v_27, ev_27⟩ : ∃ y : VV, y = mg v 13 2 v_25 := ⟨_, rfl⟩
      replace hq := hq f_26 ef_26 v_27 ev_27
      refine J.w0 (ws' := (wM G h f_26 v_27)) (by subst ef_26; subst ev_27; rfl) ?_
      refine j_goto 35 C dX4_ofTrial_30 rfl ?_
      exact hR _ _ _ f_26 v_27 dX4_ofTrial_35 hq
def Q_X4_day (p0 : Int32) (p1 : Int32) (p2 : Int32) (p3 : Int32) (p4 : Int32) (f : FF) (v : VV) (post : Int32 → FF → VV → Prop) : Prop := ∀ v_1 : VV, v_1 = fu v 2 (0 : Int32) → (Q_X4_isSheet p0 (fun r_2 => (((¬ r_2 = 0 → (Q_X4_isWithin p1 (0 : Int32) (2 : Int32) (fun r_4 => (((r_4 = 0 → (post (-2 : Int32) f v_1)) ∧ (¬ r_4 = 0 → (Q_X4_isWithin p3 (0 : Int32) (20 : Int32) (fun r_6 => (((r_6 = 0 → (post (-2 : Int32) f v_1)) ∧ (¬ r_6 = 0 → (Q_X4_isOfDay p4 (fun r_8 => (((¬ r_8 = 0 → (vp_in p0 4 ∧ (Q_X2_faultAs p1 (sb f (1 + (p0).toNatClampNeg)) (sb v_1 (3 + 2 * (p0).toNatClampNeg)) (fun r_11 => (((¬ r_11 = 0 → (((r_11 = 0 → (Q_X1_isEmpty  (sb f 5) (sb v_1 11) (fun r_14 => (((r_14 = 0 → (Q_X4_areActs p2 p3 (sb f (1 + (p0).toNatClampNeg)) (sb v_1 (3 + 2 * (p0).toNatClampNeg)) (fun r_17 => (((¬ r_17 = 0 → (Q_X4_tryActs ((p0).toNatClampNeg) p2 p3 f v_1 (fun r_20 f_21 v_22 => (((¬ p4 = (1 : Int32) → (((¬ r_20 = (-9 : Int32) → (post ((-100 : Int32) - r_20) f_21 v_22)) ∧ (r_20 = (-9 : Int32) → (Q_X4_ofTrial p4 f_21 v_22 (fun r_25 f_26 v_27 => (post r_25 f_26 v_27))))))) ∧ (p4 = (1 : Int32) → (post r_20 f_21 v_22))))))) ∧ (r_17 = 0 → (post (-2 : Int32) f v_1))))))) ∧ (¬ r_14 = 0 → (post (-3 : Int32) f v_1))))))) ∧ (¬ r_11 = 0 → (Q_X4_faulted r_11 f v_1 (fun r_28 f_29 v_30 => (post r_28 f_29 v_30))))))) ∧ (r_11 = 0 → (Q_X2_hasCells p2 ((2 : Int32) * p3) (sb f (1 + (p0).toNatClampNeg)) (sb v_1 (3 + 2 * (p0).toNatClampNeg)) (fun r_31 => (((¬ r_31 = 0 → (((r_11 = 0 → (Q_X1_isEmpty  (sb f 5) (sb v_1 11) (fun r_34 => (((r_34 = 0 → (Q_X4_areActs p2 p3 (sb f (1 + (p0).toNatClampNeg)) (sb v_1 (3 + 2 * (p0).toNatClampNeg)) (fun r_37 => (((¬ r_37 = 0 → (Q_X4_tryActs ((p0).toNatClampNeg) p2 p3 f v_1 (fun r_40 f_41 v_42 => (((¬ p4 = (1 : Int32) → (((¬ r_40 = (-9 : Int32) → (post ((-100 : Int32) - r_40) f_41 v_42)) ∧ (r_40 = (-9 : Int32) → (Q_X4_ofTrial p4 f_41 v_42 (fun r_45 f_46 v_47 => (post r_45 f_46 v_47))))))) ∧ (p4 = (1 : Int32) → (post r_40 f_41 v_42))))))) ∧ (r_37 = 0 → (post (-2 : Int32) f v_1))))))) ∧ (¬ r_34 = 0 → (post (-3 : Int32) f v_1))))))) ∧ (¬ r_11 = 0 → (Q_X4_faulted r_11 f v_1 (fun r_48 f_49 v_50 => (post r_48 f_49 v_50))))))) ∧ (r_31 = 0 → (Q_X4_faulted (3 : Int32) f v_1 (fun r_51 f_52 v_53 => (post r_51 f_52 v_53))))))))))))))) ∧ (r_8 = 0 → (post (-2 : Int32) f v_1))))))))))))))))) ∧ (r_2 = 0 → (post (-1 : Int32) f v_1))))))
set_option maxRecDepth 100000 in
set_option maxHeartbeats 4000000 in
theorem m_X4_day {l : Launch} (G : Gx) (h : Nat → Nat) (p0 : Int32) (p1 : Int32) (p2 : Int32) (p3 : Int32) (p4 : Int32) (f : FF) (v : VV) {post : Int32 → FF → VV → Prop} (hq : Q_X4_day p0 p1 p2 p3 p4 f v post) : MetI l yX4_day (gC yX4_day cX4_day 9 (some .int)) rmX4_day G [.ref (h 0), .int p0, .int p1, .int p2, .int p3, .int p4] (wM G h) f v post := by
  refine met_i (own := RX4) (by decide) rfl (Nat.le_of_ble_eq_true rfl) (fun κ hκ C hR => ?_)
  unfold Q_X4_day at hq
  subst hκ
  show J κ 0 0 (wM G h f v) 0 [(0, .ref (h 0)), (1, .int p0), (2, .int p1), (3, .int p2), (4, .int p3), (5, .int p4)] []
  refine j_aload_n 1 C dX4_day_0 rfl 0 rfl ?_
  refine j_iconst 2 C dX4_day_1 rfl ic_0 ?_
  obtain ⟨v_1, ev_1⟩ : ∃ y : VV, y = fu v 2 (0 : Int32) := ⟨_, rfl⟩
  replace hq := hq v_1 ev_1
  refine j_put 5 C uX4 tyX4 tyX4_ok nmX4 0 rfl rfl 8 (Nat.le_of_ble_eq_true rfl) lX4_46 rfl rfl (Nat.le_of_ble_eq_true rfl) dX4_day_2 rfl (ws' := (wM G h f v_1)) (by subst ev_1; rfl) ?_
  refine j_iload_n 6 C dX4_day_5 rfl 1 rfl ?_
  refine j_callSi 9 C [] (wM G h f v_1) (fun _ _ => (wM G h f v_1)) (As := [.int p0]) (m_X4_isSheet G p0 hq) oX4_isSheet kX4_50 ⟨rfl, rfl⟩ eX4_isSheet ⟨Nat.le_of_ble_eq_true rfl, Nat.le_of_ble_eq_true rfl⟩ ⟨Nat.zero_le _, Nat.zero_le _⟩ rfl (fun _ _ => rfl) (fun _ _ => rfl) rfl (Nat.le_of_ble_eq_true rfl) dX4_day_6 rfl (fun r_2 _ _ hq => ?_)
  refine j_if_ne 12 14 C dX4_day_9 rfl rfl (fun c_3 => ?_) (fun c_3 => ?_)
  · replace hq := hq.1 c_3
    refine j_iload_n 15 C dX4_day_14 rfl 2 rfl ?_
    refine j_iconst 16 C dX4_day_15 rfl ic_0 ?_
    refine j_iconst 17 C dX4_day_16 rfl ic_2 ?_
    refine j_callSi 20 C [] (wM G h f v_1) (fun _ _ => (wM G h f v_1)) (As := [.int p1, .int (0 : Int32), .int (2 : Int32)]) (m_X4_isWithin G p1 (0 : Int32) (2 : Int32) hq) oX4_isWithin kX4_54 ⟨rfl, rfl⟩ eX4_isWithin ⟨Nat.le_of_ble_eq_true rfl, Nat.le_of_ble_eq_true rfl⟩ ⟨Nat.zero_le _, Nat.zero_le _⟩ rfl (fun _ _ => rfl) (fun _ _ => rfl) rfl (Nat.le_of_ble_eq_true rfl) dX4_day_17 rfl (fun r_4 _ _ hq => ?_)
    refine j_if_eq 23 42 C dX4_day_20 rfl rfl (fun c_5 => ?_) (fun c_5 => ?_)
    · replace hq := hq.1 c_5
      refine j_bipush 44 C dX4_day_42 rfl bc_m2 ?_
      exact hR _ _ _ f v_1 dX4_day_44 hq
    · replace hq := hq.2 c_5
      refine j_iload 25 C dX4_day_23 rfl 4 rfl ?_
      refine j_iconst 26 C dX4_day_25 rfl ic_0 ?_
      refine j_bipush 28 C dX4_day_26 rfl bc_20 ?_
      refine j_callSi 31 C [] (wM G h f v_1) (fun _ _ => (wM G h f v_1)) (As := [.int p3, .int (0 : Int32), .int (20 : Int32)]) (m_X4_isWithin G p3 (0 : Int32) (20 : Int32) hq) oX4_isWithin kX4_54 ⟨rfl, rfl⟩ eX4_isWithin ⟨Nat.le_of_ble_eq_true rfl, Nat.le_of_ble_eq_true rfl⟩ ⟨Nat.zero_le _, Nat.zero_le _⟩ rfl (fun _ _ => rfl) (fun _ _ => rfl) rfl (Nat.le_of_ble_eq_true rfl) dX4_day_28 rfl (fun r_6 _ _ hq => ?_)
      refine j_if_eq 34 42 C dX4_day_31 rfl rfl (fun c_7 => ?_) (fun c_7 => ?_)
      · replace hq := hq.1 c_7
        refine j_bipush 44 C dX4_day_42 rfl bc_m2 ?_
        exact hR _ _ _ f v_1 dX4_day_44 hq
      · replace hq := hq.2 c_7
        refine j_iload 36 C dX4_day_34 rfl 5 rfl ?_
        refine j_callSi 39 C [] (wM G h f v_1) (fun _ _ => (wM G h f v_1)) (As := [.int p4]) (m_X4_isOfDay G p4 hq) oX4_isOfDay kX4_178 ⟨rfl, rfl⟩ eX4_isOfDay ⟨Nat.le_of_ble_eq_true rfl, Nat.le_of_ble_eq_true rfl⟩ ⟨Nat.zero_le _, Nat.zero_le _⟩ rfl (fun _ _ => rfl) (fun _ _ => rfl) rfl (Nat.le_of_ble_eq_true rfl) dX4_day_36 rfl (fun r_8 _ _ hq => ?_)
        refine j_if_ne 42 45 C dX4_day_39 rfl rfl (fun c_9 => ?_) (fun c_9 => ?_)
        · replace hq := hq.1 c_9
          refine j_aload_n 46 C dX4_day_45 rfl 0 rfl ?_
          refine j_get 49 C uX4 0 rfl rfl 0 (Nat.le_of_ble_eq_true rfl) lX4_13 (v := .ref (h 2)) rfl dX4_day_46 rfl ?_
          refine j_iload_n 50 C dX4_day_49 rfl 1 rfl ?_
          obtain ⟨hk_10, hq⟩ := hq
          refine j_aald 51 C 2 rfl hk_10 (z := h (3 + 2 * (p0).toNatClampNeg)) rfl dX4_day_50 rfl ?_
          refine j_astore 53 C dX4_day_51 rfl (Nat.le_of_ble_eq_true rfl) [1, 2, 3, 4, 5, 6, 0] (lv' := [(0, .ref (h 0)), (1, .int p0), (2, .int p1), (3, .int p2), (4, .int p3), (5, .int p4), (6, .ref (h (3 + 2 * (p0).toNatClampNeg)))]) rfl ?_
          refine j_aload 55 C dX4_day_53 rfl 6 rfl ?_
          refine j_iload_n 56 C dX4_day_55 rfl 2 rfl ?_
          refine j_callVi_ro 59 C (List.take (3 + 2 * (p0).toNatClampNeg) (wM G h f v_1)) (List.drop (3 + 2 * (p0).toNatClampNeg + 2) (wM G h f v_1)) (As := [.int p1]) (m_X2_faultAs G (sb h (3 + 2 * (p0).toNatClampNeg)) p1 (sb f (1 + (p0).toNatClampNeg)) (sb v_1 (3 + 2 * (p0).toNatClampNeg)) hq) oX2_faultAs kX4_58 ⟨rfl, rfl⟩ eX2_faultAs ⟨Nat.le_of_ble_eq_true rfl, Nat.le_of_ble_eq_true rfl⟩ ⟨Nat.zero_le _, Nat.zero_le _⟩ (shS (vp_lt4 hk_10)) (fun _ _ => rfl) 0 rfl rfl rfl (Nat.le_of_ble_eq_true rfl) dX4_day_56 rfl (fun r_11 hq => ?_)
          refine j_istore 61 C dX4_day_59 rfl (Nat.le_of_ble_eq_true rfl) [1, 2, 3, 4, 5, 6, 7, 0] (lv' := [(0, .ref (h 0)), (1, .int p0), (2, .int p1), (3, .int p2), (4, .int p3), (5, .int p4), (6, .ref (h (3 + 2 * (p0).toNatClampNeg))), (7, .int r_11)]) rfl ?_
          refine j_iload 63 C dX4_day_61 rfl 7 rfl ?_
          refine j_if_ne 66 82 C dX4_day_63 rfl rfl (fun c_12 => ?_) (fun c_12 => ?_)
          · replace hq := hq.1 c_12
            refine j_iload 84 C dX4_day_82 rfl 7 rfl ?_
            refine j_if_eq 87 94 C dX4_day_84 rfl rfl (fun c_13 => ?_) (fun c_13 => ?_)
            · replace hq := hq.1 c_13
              refine j_aload_n 95 C dX4_day_94 rfl 0 rfl ?_
              refine j_get 98 C uX4 0 rfl rfl 1 (Nat.le_of_ble_eq_true rfl) lX4_21 (v := .ref (h 11)) rfl dX4_day_95 rfl ?_
              refine j_callVi_ro 101 C (List.take 11 (wM G h f v_1)) (List.drop 21 (wM G h f v_1)) (As := []) (m_X1_isEmpty G (sb h 11) (sb f 5) (sb v_1 11) hq) oX1_isEmpty kX4_129 ⟨rfl, rfl⟩ eX1_isEmpty ⟨Nat.le_of_ble_eq_true rfl, Nat.le_of_ble_eq_true rfl⟩ ⟨Nat.zero_le _, Nat.zero_le _⟩ rfl (fun _ _ => rfl) 0 rfl rfl rfl (Nat.le_of_ble_eq_true rfl) dX4_day_98 rfl (fun r_14 hq => ?_)
              refine j_if_eq 104 107 C dX4_day_101 rfl rfl (fun c_15 => ?_) (fun c_15 => ?_)
              · replace hq := hq.1 c_15
                refine j_aload 109 C dX4_day_107 rfl 6 rfl ?_
                refine j_iload_n 110 C dX4_day_109 rfl 3 rfl ?_
                refine j_iload 112 C dX4_day_110 rfl 4 rfl ?_
                refine j_callSi_ro 115 C (List.take (3 + 2 * (p0).toNatClampNeg) (wM G h f v_1)) (List.drop (3 + 2 * (p0).toNatClampNeg + 2) (wM G h f v_1)) (As := [.ref (h (3 + 2 * (p0).toNatClampNeg)), .int p2, .int p3]) (m_X4_areActs G (sb h (3 + 2 * (p0).toNatClampNeg)) p2 p3 (sb f (1 + (p0).toNatClampNeg)) (sb v_1 (3 + 2 * (p0).toNatClampNeg)) hq) oX4_areActs kX4_181 ⟨rfl, rfl⟩ eX4_areActs ⟨Nat.le_of_ble_eq_true rfl, Nat.le_of_ble_eq_true rfl⟩ ⟨Nat.zero_le _, Nat.zero_le _⟩ (shS (vp_lt4 hk_10)) (fun _ _ => rfl) rfl (Nat.le_of_ble_eq_true rfl) dX4_day_112 rfl (fun r_17 hq => ?_)
                refine j_if_ne 118 121 C dX4_day_115 rfl rfl (fun c_18 => ?_) (fun c_18 => ?_)
                · replace hq := hq.1 c_18
                  refine j_aload_n 122 C dX4_day_121 rfl 0 rfl ?_
                  refine j_aload 124 C dX4_day_122 rfl 6 rfl ?_
                  refine j_iload_n 125 C dX4_day_124 rfl 3 rfl ?_
                  refine j_iload 127 C dX4_day_125 rfl 4 rfl ?_
                  refine j_callVi 130 C [] [] (fun f' v' => (wM G h f' v')) (As := [.ref (h (3 + 2 * (p0).toNatClampNeg)), .int p2, .int p3]) (m_X4_tryActs G h (p0).toNatClampNeg (vp_lt4 hk_10) p2 p3 f v_1 hq) oX4_tryActs kX4_184 ⟨rfl, rfl⟩ eX4_tryActs ⟨Nat.le_of_ble_eq_true rfl, Nat.le_of_ble_eq_true rfl⟩ ⟨Nat.zero_le _, Nat.zero_le _⟩ (List.append_nil _).symm (fun _ _ => List.append_nil _) (fun _ _ => rfl) 0 rfl rfl rfl (Nat.le_of_ble_eq_true rfl) dX4_day_127 rfl (fun r_20 f_21 v_22 hq => ?_)
                  refine j_istore 132 C dX4_day_130 rfl (Nat.le_of_ble_eq_true rfl) [1, 2, 3, 4, 5, 6, 7, 8, 0] (lv' := [(0, .ref (h 0)), (1, .int p0), (2, .int p1), (3, .int p2), (4, .int p3), (5, .int p4), (6, .ref (h (3 + 2 * (p0).toNatClampNeg))), (7, .int r_11), (8, .int r_20)]) rfl ?_
                  refine j_iload 134 C dX4_day_132 rfl 5 rfl ?_
                  refine j_iconst 135 C dX4_day_134 rfl ic_1 ?_
                  refine j_icmp_ne 138 141 C dX4_day_135 rfl rfl (fun c_23 => ?_) (fun c_23 => ?_)
                  · replace hq := hq.1 c_23
                    refine j_iload 143 C dX4_day_141 rfl 8 rfl ?_
                    refine j_bipush 145 C dX4_day_143 rfl bc_m9 ?_
                    refine j_icmp_ne 148 157 C dX4_day_145 rfl rfl (fun c_24 => ?_) (fun c_24 => ?_)
                    · replace hq := hq.1 c_24
                      refine j_bipush 159 C dX4_day_157 rfl bc_m100 ?_
                      refine j_iload 161 C dX4_day_159 rfl 8 rfl ?_
                      refine j_isub 162 C dX4_day_161 rfl ?_
                      exact hR _ _ _ f_21 v_22 dX4_day_162 hq
                    · replace hq := hq.2 c_24
                      refine j_aload_n 149 C dX4_day_148 rfl 0 rfl ?_
                      refine j_iload 151 C dX4_day_149 rfl 5 rfl ?_
                      refine j_callVi 154 C [] [] (fun f' v' => (wM G h f' v')) (As := [.int p4]) (m_X4_ofTrial G h p4 f_21 v_22 hq) oX4_ofTrial kX4_188 ⟨rfl, rfl⟩ eX4_ofTrial ⟨Nat.le_of_ble_eq_true rfl, Nat.le_of_ble_eq_true rfl⟩ ⟨Nat.zero_le _, Nat.zero_le _⟩ (List.append_nil _).symm (fun _ _ => List.append_nil _) (fun _ _ => rfl) 0 rfl rfl rfl (Nat.le_of_ble_eq_true rfl) dX4_day_151 rfl (fun r_25 f_26 v_27 hq => ?_)
                      refine j_goto 162 C dX4_day_154 rfl ?_
                      exact hR _ _ _ f_26 v_27 dX4_day_162 hq
                  · replace hq := hq.2 c_23
                    refine j_iload 140 C dX4_day_138 rfl 8 rfl ?_
                    exact hR _ _ _ f_21 v_22 dX4_day_140 hq
                · replace hq := hq.2 c_18
                  refine j_bipush 120 C dX4_day_118 rfl bc_m2 ?_
                  exact hR _ _ _ f v_1 dX4_day_120 hq
              · replace hq := hq.2 c_15
                refine j_bipush 106 C dX4_day_104 rfl bc_m3 ?_
                exact hR _ _ _ f v_1 dX4_day_106 hq
            · replace hq := hq.2 c_13
              refine j_aload_n 88 C dX4_day_87 rfl 0 rfl ?_
              refine j_iload 90 C dX4_day_88 rfl 7 rfl ?_
              refine j_callVi 93 C [] [] (fun f' v' => (wM G h f' v')) (As := [.int r_11]) (m_X4_faulted G h r_11 f v_1 hq) oX4_faulted kX4_66 ⟨rfl, rfl⟩ eX4_faulted ⟨Nat.le_of_ble_eq_true rfl, Nat.le_of_ble_eq_true rfl⟩ ⟨Nat.zero_le _, Nat.zero_le _⟩ (List.append_nil _).symm (fun _ _ => List.append_nil _) (fun _ _ => rfl) 0 rfl rfl rfl (Nat.le_of_ble_eq_true rfl) dX4_day_90 rfl (fun r_28 f_29 v_30 hq => ?_)
              exact hR _ _ _ f_29 v_30 dX4_day_93 hq
          · replace hq := hq.2 c_12
            refine j_aload 68 C dX4_day_66 rfl 6 rfl ?_
            refine j_iload_n 69 C dX4_day_68 rfl 3 rfl ?_
            refine j_iconst 70 C dX4_day_69 rfl ic_2 ?_
            refine j_iload 72 C dX4_day_70 rfl 4 rfl ?_
            refine j_imul 73 C dX4_day_72 rfl ?_
            refine j_callVi_ro 76 C (List.take (3 + 2 * (p0).toNatClampNeg) (wM G h f v_1)) (List.drop (3 + 2 * (p0).toNatClampNeg + 2) (wM G h f v_1)) (As := [.int p2, .int ((2 : Int32) * p3)]) (m_X2_hasCells G (sb h (3 + 2 * (p0).toNatClampNeg)) p2 ((2 : Int32) * p3) (sb f (1 + (p0).toNatClampNeg)) (sb v_1 (3 + 2 * (p0).toNatClampNeg)) hq) oX2_hasCells kX4_62 ⟨rfl, rfl⟩ eX2_hasCells ⟨Nat.le_of_ble_eq_true rfl, Nat.le_of_ble_eq_true rfl⟩ ⟨Nat.zero_le _, Nat.zero_le _⟩ (shS (vp_lt4 hk_10)) (fun _ _ => rfl) 0 rfl rfl rfl (Nat.le_of_ble_eq_true rfl) dX4_day_73 rfl (fun r_31 hq => ?_)
            refine j_if_ne 79 82 C dX4_day_76 rfl rfl (fun c_32 => ?_) (fun c_32 => ?_)
            · replace hq := hq.1 c_32
              refine j_iload 84 C dX4_day_82 rfl 7 rfl ?_
              refine j_if_eq 87 94 C dX4_day_84 rfl rfl (fun c_33 => ?_) (fun c_33 => ?_)
              · replace hq := hq.1 c_33
                refine j_aload_n 95 C dX4_day_94 rfl 0 rfl ?_
                refine j_get 98 C uX4 0 rfl rfl 1 (Nat.le_of_ble_eq_true rfl) lX4_21 (v := .ref (h 11)) rfl dX4_day_95 rfl ?_
                refine j_callVi_ro 101 C (List.take 11 (wM G h f v_1)) (List.drop 21 (wM G h f v_1)) (As := []) (m_X1_isEmpty G (sb h 11) (sb f 5) (sb v_1 11) hq) oX1_isEmpty kX4_129 ⟨rfl, rfl⟩ eX1_isEmpty ⟨Nat.le_of_ble_eq_true rfl, Nat.le_of_ble_eq_true rfl⟩ ⟨Nat.zero_le _, Nat.zero_le _⟩ rfl (fun _ _ => rfl) 0 rfl rfl rfl (Nat.le_of_ble_eq_true rfl) dX4_day_98 rfl (fun r_34 hq => ?_)
                refine j_if_eq 104 107 C dX4_day_101 rfl rfl (fun c_35 => ?_) (fun c_35 => ?_)
                · replace hq := hq.1 c_35
                  refine j_aload 109 C dX4_day_107 rfl 6 rfl ?_
                  refine j_iload_n 110 C dX4_day_109 rfl 3 rfl ?_
                  refine j_iload 112 C dX4_day_110 rfl 4 rfl ?_
                  refine j_callSi_ro 115 C (List.take (3 + 2 * (p0).toNatClampNeg) (wM G h f v_1)) (List.drop (3 + 2 * (p0).toNatClampNeg + 2) (wM G h f v_1)) (As := [.ref (h (3 + 2 * (p0).toNatClampNeg)), .int p2, .int p3]) (m_X4_areActs G (sb h (3 + 2 * (p0).toNatClampNeg)) p2 p3 (sb f (1 + (p0).toNatClampNeg)) (sb v_1 (3 + 2 * (p0).toNatClampNeg)) hq) oX4_areActs kX4_181 ⟨rfl, rfl⟩ eX4_areActs ⟨Nat.le_of_ble_eq_true rfl, Nat.le_of_ble_eq_true rfl⟩ ⟨Nat.zero_le _, Nat.zero_le _⟩ (shS (vp_lt4 hk_10)) (fun _ _ => rfl) rfl (Nat.le_of_ble_eq_true rfl) dX4_day_112 rfl (fun r_37 hq => ?_)
                  refine j_if_ne 118 121 C dX4_day_115 rfl rfl (fun c_38 => ?_) (fun c_38 => ?_)
                  · replace hq := hq.1 c_38
                    refine j_aload_n 122 C dX4_day_121 rfl 0 rfl ?_
                    refine j_aload 124 C dX4_day_122 rfl 6 rfl ?_
                    refine j_iload_n 125 C dX4_day_124 rfl 3 rfl ?_
                    refine j_iload 127 C dX4_day_125 rfl 4 rfl ?_
                    refine j_callVi 130 C [] [] (fun f' v' => (wM G h f' v')) (As := [.ref (h (3 + 2 * (p0).toNatClampNeg)), .int p2, .int p3]) (m_X4_tryActs G h (p0).toNatClampNeg (vp_lt4 hk_10) p2 p3 f v_1 hq) oX4_tryActs kX4_184 ⟨rfl, rfl⟩ eX4_tryActs ⟨Nat.le_of_ble_eq_true rfl, Nat.le_of_ble_eq_true rfl⟩ ⟨Nat.zero_le _, Nat.zero_le _⟩ (List.append_nil _).symm (fun _ _ => List.append_nil _) (fun _ _ => rfl) 0 rfl rfl rfl (Nat.le_of_ble_eq_true rfl) dX4_day_127 rfl (fun r_40 f_41 v_42 hq => ?_)
                    refine j_istore 132 C dX4_day_130 rfl (Nat.le_of_ble_eq_true rfl) [1, 2, 3, 4, 5, 6, 7, 8, 0] (lv' := [(0, .ref (h 0)), (1, .int p0), (2, .int p1), (3, .int p2), (4, .int p3), (5, .int p4), (6, .ref (h (3 + 2 * (p0).toNatClampNeg))), (7, .int r_11), (8, .int r_40)]) rfl ?_
                    refine j_iload 134 C dX4_day_132 rfl 5 rfl ?_
                    refine j_iconst 135 C dX4_day_134 rfl ic_1 ?_
                    refine j_icmp_ne 138 141 C dX4_day_135 rfl rfl (fun c_43 => ?_) (fun c_43 => ?_)
                    · replace hq := hq.1 c_43
                      refine j_iload 143 C dX4_day_141 rfl 8 rfl ?_
                      refine j_bipush 145 C dX4_day_143 rfl bc_m9 ?_
                      refine j_icmp_ne 148 157 C dX4_day_145 rfl rfl (fun c_44 => ?_) (fun c_44 => ?_)
                      · replace hq := hq.1 c_44
                        refine j_bipush 159 C dX4_day_157 rfl bc_m100 ?_
                        refine j_iload 161 C dX4_day_159 rfl 8 rfl ?_
                        refine j_isub 162 C dX4_day_161 rfl ?_
                        exact hR _ _ _ f_41 v_42 dX4_day_162 hq
                      · replace hq := hq.2 c_44
                        refine j_aload_n 149 C dX4_day_148 rfl 0 rfl ?_
                        refine j_iload 151 C dX4_day_149 rfl 5 rfl ?_
                        refine j_callVi 154 C [] [] (fun f' v' => (wM G h f' v')) (As := [.int p4]) (m_X4_ofTrial G h p4 f_41 v_42 hq) oX4_ofTrial kX4_188 ⟨rfl, rfl⟩ eX4_ofTrial ⟨Nat.le_of_ble_eq_true rfl, Nat.le_of_ble_eq_true rfl⟩ ⟨Nat.zero_le _, Nat.zero_le _⟩ (List.append_nil _).symm (fun _ _ => List.append_nil _) (fun _ _ => rfl) 0 rfl rfl rfl (Nat.le_of_ble_eq_true rfl) dX4_day_151 rfl (fun r_45 f_46 v_47 hq => ?_)
                        refine j_goto 162 C dX4_day_154 rfl ?_
                        exact hR _ _ _ f_46 v_47 dX4_day_162 hq
                    · replace hq := hq.2 c_43
                      refine j_iload 140 C dX4_day_138 rfl 8 rfl ?_
                      exact hR _ _ _ f_41 v_42 dX4_day_140 hq
                  · replace hq := hq.2 c_38
                    refine j_bipush 120 C dX4_day_118 rfl bc_m2 ?_
                    exact hR _ _ _ f v_1 dX4_day_120 hq
                · replace hq := hq.2 c_35
                  refine j_bipush 106 C dX4_day_104 rfl bc_m3 ?_
                  exact hR _ _ _ f v_1 dX4_day_106 hq
              · replace hq := hq.2 c_33
                refine j_aload_n 88 C dX4_day_87 rfl 0 rfl ?_
                refine j_iload 90 C dX4_day_88 rfl 7 rfl ?_
                refine j_callVi 93 C [] [] (fun f' v' => (wM G h f' v')) (As := [.int r_11]) (m_X4_faulted G h r_11 f v_1 hq) oX4_faulted kX4_66 ⟨rfl, rfl⟩ eX4_faulted ⟨Nat.le_of_ble_eq_true rfl, Nat.le_of_ble_eq_true rfl⟩ ⟨Nat.zero_le _, Nat.zero_le _⟩ (List.append_nil _).symm (fun _ _ => List.append_nil _) (fun _ _ => rfl) 0 rfl rfl rfl (Nat.le_of_ble_eq_true rfl) dX4_day_90 rfl (fun r_48 f_49 v_50 hq => ?_)
                exact hR _ _ _ f_49 v_50 dX4_day_93 hq
            · replace hq := hq.2 c_32
              refine j_iconst 80 C dX4_day_79 rfl ic_3 ?_
              refine j_istore 82 C dX4_day_80 rfl (Nat.le_of_ble_eq_true rfl) [1, 2, 3, 4, 5, 6, 7, 0] (lv' := [(0, .ref (h 0)), (1, .int p0), (2, .int p1), (3, .int p2), (4, .int p3), (5, .int p4), (6, .ref (h (3 + 2 * (p0).toNatClampNeg))), (7, .int (3 : Int32))]) rfl ?_
              refine j_iload 84 C dX4_day_82 rfl 7 rfl ?_
              refine j_if_eq 87 94 C dX4_day_84 rfl rfl (fun h9 => absurd h9 (by decide)) (fun _ => ?_)
              refine j_aload_n 88 C dX4_day_87 rfl 0 rfl ?_
              refine j_iload 90 C dX4_day_88 rfl 7 rfl ?_
              refine j_callVi 93 C [] [] (fun f' v' => (wM G h f' v')) (As := [.int (3 : Int32)]) (m_X4_faulted G h (3 : Int32) f v_1 hq) oX4_faulted kX4_66 ⟨rfl, rfl⟩ eX4_faulted ⟨Nat.le_of_ble_eq_true rfl, Nat.le_of_ble_eq_true rfl⟩ ⟨Nat.zero_le _, Nat.zero_le _⟩ (List.append_nil _).symm (fun _ _ => List.append_nil _) (fun _ _ => rfl) 0 rfl rfl rfl (Nat.le_of_ble_eq_true rfl) dX4_day_90 rfl (fun r_51 f_52 v_53 hq => ?_)
              exact hR _ _ _ f_52 v_53 dX4_day_93 hq
        · replace hq := hq.2 c_9
          refine j_bipush 44 C dX4_day_42 rfl bc_m2 ?_
          exact hR _ _ _ f v_1 dX4_day_44 hq
  · replace hq := hq.2 c_3
    refine j_iconst 13 C dX4_day_12 rfl ic_m1 ?_
    exact hR _ _ _ f v_1 dX4_day_13 hq
def Q_X4_cover (p0 : Int32) (f : FF) (v : VV) (post : Int32 → FF → VV → Prop) : Prop := Q_X4_isWithin p0 (0 : Int32) (2 : Int32) (fun r_1 => (((¬ r_1 = 0 → (Q_X1_isEmpty  (sb f 5) (sb v 11) (fun r_3 => (((r_3 = 0 → (Q_X4_killsNow  f v (fun f_6 v_7 => (Q_X0_lightestTests  (sb f_6 33) (sb v_7 19) (fun r_8 => (((p0 = (0 : Int32) → (post r_8 f_6 v_7)) ∧ (¬ p0 = (0 : Int32) → (((p0 = (1 : Int32) → (Q_X0_weightOf r_8 (sb f_6 33) (sb v_7 19) (fun r_11 => (post r_11 f_6 v_7)))) ∧ (¬ p0 = (1 : Int32) → (Q_J6_bitCount_0f7a4 r_8 (fun r_12 => (post r_12 f_6 v_7)))))))))))))) ∧ (¬ r_3 = 0 → (post (-3 : Int32) f v))))))) ∧ (r_1 = 0 → (post (-2 : Int32) f v)))))
set_option maxRecDepth 100000 in
set_option maxHeartbeats 4000000 in
theorem m_X4_cover {l : Launch} (G : Gx) (h : Nat → Nat) (p0 : Int32) (f : FF) (v : VV) {post : Int32 → FF → VV → Prop} (hq : Q_X4_cover p0 f v post) : MetI l yX4_cover (gC yX4_cover cX4_cover 3 (some .int)) rmX4_cover G [.ref (h 0), .int p0] (wM G h) f v post := by
  refine met_i (own := RX4) (by decide) rfl (Nat.le_of_ble_eq_true rfl) (fun κ hκ C hR => ?_)
  unfold Q_X4_cover at hq
  subst hκ
  show J κ 0 0 (wM G h f v) 0 [(0, .ref (h 0)), (1, .int p0)] []
  refine j_iload_n 1 C dX4_cover_0 rfl 1 rfl ?_
  refine j_iconst 2 C dX4_cover_1 rfl ic_0 ?_
  refine j_iconst 3 C dX4_cover_2 rfl ic_2 ?_
  refine j_callSi 6 C [] (wM G h f v) (fun _ _ => (wM G h f v)) (As := [.int p0, .int (0 : Int32), .int (2 : Int32)]) (m_X4_isWithin G p0 (0 : Int32) (2 : Int32) hq) oX4_isWithin kX4_54 ⟨rfl, rfl⟩ eX4_isWithin ⟨Nat.le_of_ble_eq_true rfl, Nat.le_of_ble_eq_true rfl⟩ ⟨Nat.zero_le _, Nat.zero_le _⟩ rfl (fun _ _ => rfl) (fun _ _ => rfl) rfl (Nat.le_of_ble_eq_true rfl) dX4_cover_3 rfl (fun r_1 _ _ hq => ?_)
  refine j_if_ne 9 12 C dX4_cover_6 rfl rfl (fun c_2 => ?_) (fun c_2 => ?_)
  · replace hq := hq.1 c_2
    refine j_aload_n 13 C dX4_cover_12 rfl 0 rfl ?_
    refine j_get 16 C uX4 0 rfl rfl 1 (Nat.le_of_ble_eq_true rfl) lX4_21 (v := .ref (h 11)) rfl dX4_cover_13 rfl ?_
    refine j_callVi_ro 19 C (List.take 11 (wM G h f v)) (List.drop 21 (wM G h f v)) (As := []) (m_X1_isEmpty G (sb h 11) (sb f 5) (sb v 11) hq) oX1_isEmpty kX4_129 ⟨rfl, rfl⟩ eX1_isEmpty ⟨Nat.le_of_ble_eq_true rfl, Nat.le_of_ble_eq_true rfl⟩ ⟨Nat.zero_le _, Nat.zero_le _⟩ rfl (fun _ _ => rfl) 0 rfl rfl rfl (Nat.le_of_ble_eq_true rfl) dX4_cover_16 rfl (fun r_3 hq => ?_)
    refine j_if_eq 22 25 C dX4_cover_19 rfl rfl (fun c_4 => ?_) (fun c_4 => ?_)
    · replace hq := hq.1 c_4
      refine j_aload_n 26 C dX4_cover_25 rfl 0 rfl ?_
      refine j_callVr 29 C [] [] (fun f' v' => (wM G h f' v')) (As := []) (m_X4_killsNow G h f v hq) oX4_killsNow kX4_149 ⟨rfl, rfl⟩ eX4_killsNow ⟨Nat.le_of_ble_eq_true rfl, Nat.le_of_ble_eq_true rfl⟩ ⟨Nat.zero_le _, Nat.zero_le _⟩ (List.append_nil _).symm (fun _ _ => List.append_nil _) (fun _ _ => rfl) 0 rfl rfl rfl (Nat.le_of_ble_eq_true rfl) dX4_cover_26 rfl (fun f_6 v_7 hq => ?_)
      refine j_callVi_ro 32 C (List.take 43 (wM G h f_6 v_7)) (List.drop 48 (wM G h f_6 v_7)) (As := []) (m_X0_lightestTests G (sb h 43) (sb f_6 33) (sb v_7 19) hq) oX0_lightestTests kX4_191 ⟨rfl, rfl⟩ eX0_lightestTests ⟨Nat.le_of_ble_eq_true rfl, Nat.le_of_ble_eq_true rfl⟩ ⟨Nat.zero_le _, Nat.zero_le _⟩ rfl (fun _ _ => rfl) 0 rfl rfl rfl (Nat.le_of_ble_eq_true rfl) dX4_cover_29 rfl (fun r_8 hq => ?_)
      refine j_istore_n 33 C dX4_cover_32 rfl (Nat.le_of_ble_eq_true rfl) [1, 2, 0] (lv' := [(0, .ref (h 0)), (1, .int p0), (2, .int r_8)]) rfl ?_
      refine j_iload_n 34 C dX4_cover_33 rfl 1 rfl ?_
      by_cases c_9 : p0 = (0 : Int32)
      · replace hq := hq.1 c_9
        refine j_lookup 60 C dX4_cover_34 (by decide) (off := 26) (by rw [c_9] <;> decide) rfl ?_
        refine j_iload_n 61 C dX4_cover_60 rfl 2 rfl ?_
        exact hR _ _ _ f_6 v_7 dX4_cover_61 hq
      · replace hq := hq.2 c_9
        by_cases c_10 : p0 = (1 : Int32)
        · replace hq := hq.1 c_10
          refine j_lookup 62 C dX4_cover_34 (by decide) (off := 28) (by rw [c_10] <;> decide) rfl ?_
          refine j_aload_n 63 C dX4_cover_62 rfl 0 rfl ?_
          refine j_get 66 C uX4 0 rfl rfl 4 (Nat.le_of_ble_eq_true rfl) lX4_38 (v := .ref (h 43)) rfl dX4_cover_63 rfl ?_
          refine j_iload_n 67 C dX4_cover_66 rfl 2 rfl ?_
          refine j_callVi_ro 70 C (List.take 43 (wM G h f_6 v_7)) (List.drop 48 (wM G h f_6 v_7)) (As := [.int r_8]) (m_X0_weightOf G (sb h 43) r_8 (sb f_6 33) (sb v_7 19) hq) oX0_weightOf kX4_194 ⟨rfl, rfl⟩ eX0_weightOf ⟨Nat.le_of_ble_eq_true rfl, Nat.le_of_ble_eq_true rfl⟩ ⟨Nat.zero_le _, Nat.zero_le _⟩ rfl (fun _ _ => rfl) 0 rfl rfl rfl (Nat.le_of_ble_eq_true rfl) dX4_cover_67 rfl (fun r_11 hq => ?_)
          exact hR _ _ _ f_6 v_7 dX4_cover_70 hq
        · replace hq := hq.2 c_10
          have zc_9 := ne_toInt (z := 0) (by decide) c_9
          have zc_10 := ne_toInt (z := 1) (by decide) c_10
          refine j_lookup 71 C dX4_cover_34 (by decide) (off := 37) (by simp only [Op.lookupswitch.offset_cons, Op.lookupswitch.offset_nil]; rw [if_neg (fun e9 => zc_9 e9.symm)]; rw [if_neg (fun e9 => zc_10 e9.symm)]) rfl ?_
          refine j_iload_n 72 C dX4_cover_71 rfl 2 rfl ?_
          refine j_callSi 75 C [] (wM G h f_6 v_7) (fun _ _ => (wM G h f_6 v_7)) (As := [.int r_8]) (m_J6_bitCount_0f7a4 G r_8 hq) oJ6_bitCount_0f7a4 kX4_197 ⟨rfl, rfl⟩ eJ6_bitCount_0f7a4 ⟨Nat.le_of_ble_eq_true rfl, Nat.le_of_ble_eq_true rfl⟩ ⟨Nat.zero_le _, Nat.zero_le _⟩ rfl (fun _ _ => rfl) (fun _ _ => rfl) rfl (Nat.le_of_ble_eq_true rfl) dX4_cover_72 rfl (fun r_12 _ _ hq => ?_)
          exact hR _ _ _ f_6 v_7 dX4_cover_75 hq
    · replace hq := hq.2 c_4
      refine j_bipush 24 C dX4_cover_22 rfl bc_m3 ?_
      exact hR _ _ _ f v dX4_cover_24 hq
  · replace hq := hq.2 c_2
    refine j_bipush 11 C dX4_cover_9 rfl bc_m2 ?_
    exact hR _ _ _ f v dX4_cover_11 hq
def Q_X4_choose (p0 : Int32) (p1 : Int32) (f : FF) (v : VV) (post : Int32 → FF → VV → Prop) : Prop := Q_X4_isWithin p1 (10 : Int32) (16 : Int32) (fun r_1 => (Q_X4_isWithin p0 (0 : Int32) (2 : Int32) (fun r_2 => (((r_2 = 0 → (post (-2 : Int32) f v)) ∧ (¬ r_2 = 0 → (((¬ r_1 = 0 → (Q_X1_isEmpty  (sb f 5) (sb v 11) (fun r_5 => (((r_5 = 0 → (Q_X4_killsNow  f v (fun f_8 v_9 => (Q_X0_chooseTests p0 (sb f_8 33) (sb v_9 19) (fun r_10 f_11 v_12 => (∀ f_13 : FF, f_13 = mg f_8 33 4 f_11 → (∀ v_14 : VV, v_14 = mg v_9 19 3 v_12 → (((r_1 = 0 → (Q_X0_chosenSet r_10 (sb f_13 33) (sb v_14 19) (fun r_16 => (((¬ p1 = 0 → (Q_X0_weightOf r_16 (sb f_13 33) (sb v_14 19) (fun r_18 => (post r_18 f_13 v_14)))) ∧ (p1 = 0 → (post r_16 f_13 v_14))))))) ∧ (¬ r_1 = 0 → (((r_10 ≤ (p1 - (10 : Int32)) → (post (-9 : Int32) f_13 v_14)) ∧ (¬ r_10 ≤ (p1 - (10 : Int32)) → (vp_in (p1 - (10 : Int32)) 7 ∧ (post ((f_13 36) ((p1 - (10 : Int32))).toNatClampNeg) f_13 v_14))))))))))))))) ∧ (¬ r_5 = 0 → (post (-3 : Int32) f v))))))) ∧ (r_1 = 0 → (Q_X4_isWithin p1 (0 : Int32) (1 : Int32) (fun r_21 => (((¬ r_21 = 0 → (Q_X1_isEmpty  (sb f 5) (sb v 11) (fun r_23 => (((r_23 = 0 → (Q_X4_killsNow  f v (fun f_26 v_27 => (Q_X0_chooseTests p0 (sb f_26 33) (sb v_27 19) (fun r_28 f_29 v_30 => (∀ f_31 : FF, f_31 = mg f_26 33 4 f_29 → (∀ v_32 : VV, v_32 = mg v_27 19 3 v_30 → (((r_1 = 0 → (Q_X0_chosenSet r_28 (sb f_31 33) (sb v_32 19) (fun r_34 => (((¬ p1 = 0 → (Q_X0_weightOf r_34 (sb f_31 33) (sb v_32 19) (fun r_36 => (post r_36 f_31 v_32)))) ∧ (p1 = 0 → (post r_34 f_31 v_32))))))) ∧ (¬ r_1 = 0 → (((r_28 ≤ (p1 - (10 : Int32)) → (post (-9 : Int32) f_31 v_32)) ∧ (¬ r_28 ≤ (p1 - (10 : Int32)) → (vp_in (p1 - (10 : Int32)) 7 ∧ (post ((f_31 36) ((p1 - (10 : Int32))).toNatClampNeg) f_31 v_32))))))))))))))) ∧ (¬ r_23 = 0 → (post (-3 : Int32) f v))))))) ∧ (r_21 = 0 → (post (-2 : Int32) f v)))))))))))))))
set_option maxRecDepth 100000 in
set_option maxHeartbeats 4000000 in
theorem m_X4_choose {l : Launch} (G : Gx) (h : Nat → Nat) (p0 : Int32) (p1 : Int32) (f : FF) (v : VV) {post : Int32 → FF → VV → Prop} (hq : Q_X4_choose p0 p1 f v post) : MetI l yX4_choose (gC yX4_choose cX4_choose 6 (some .int)) rmX4_choose G [.ref (h 0), .int p0, .int p1] (wM G h) f v post := by
  refine met_i (own := RX4) (by decide) rfl (Nat.le_of_ble_eq_true rfl) (fun κ hκ C hR => ?_)
  unfold Q_X4_choose at hq
  subst hκ
  show J κ 0 0 (wM G h f v) 0 [(0, .ref (h 0)), (1, .int p0), (2, .int p1)] []
  refine j_iload_n 1 C dX4_choose_0 rfl 2 rfl ?_
  refine j_bipush 3 C dX4_choose_1 rfl bc_10 ?_
  refine j_bipush 5 C dX4_choose_3 rfl bc_16 ?_
  refine j_callSi 8 C [] (wM G h f v) (fun _ _ => (wM G h f v)) (As := [.int p1, .int (10 : Int32), .int (16 : Int32)]) (m_X4_isWithin G p1 (10 : Int32) (16 : Int32) hq) oX4_isWithin kX4_54 ⟨rfl, rfl⟩ eX4_isWithin ⟨Nat.le_of_ble_eq_true rfl, Nat.le_of_ble_eq_true rfl⟩ ⟨Nat.zero_le _, Nat.zero_le _⟩ rfl (fun _ _ => rfl) (fun _ _ => rfl) rfl (Nat.le_of_ble_eq_true rfl) dX4_choose_5 rfl (fun r_1 _ _ hq => ?_)
  refine j_istore_n 9 C dX4_choose_8 rfl (Nat.le_of_ble_eq_true rfl) [1, 2, 3, 0] (lv' := [(0, .ref (h 0)), (1, .int p0), (2, .int p1), (3, .int r_1)]) rfl ?_
  refine j_iload_n 10 C dX4_choose_9 rfl 1 rfl ?_
  refine j_iconst 11 C dX4_choose_10 rfl ic_0 ?_
  refine j_iconst 12 C dX4_choose_11 rfl ic_2 ?_
  refine j_callSi 15 C [] (wM G h f v) (fun _ _ => (wM G h f v)) (As := [.int p0, .int (0 : Int32), .int (2 : Int32)]) (m_X4_isWithin G p0 (0 : Int32) (2 : Int32) hq) oX4_isWithin kX4_54 ⟨rfl, rfl⟩ eX4_isWithin ⟨Nat.le_of_ble_eq_true rfl, Nat.le_of_ble_eq_true rfl⟩ ⟨Nat.zero_le _, Nat.zero_le _⟩ rfl (fun _ _ => rfl) (fun _ _ => rfl) rfl (Nat.le_of_ble_eq_true rfl) dX4_choose_12 rfl (fun r_2 _ _ hq => ?_)
  refine j_if_eq 18 31 C dX4_choose_15 rfl rfl (fun c_3 => ?_) (fun c_3 => ?_)
  · replace hq := hq.1 c_3
    refine j_bipush 33 C dX4_choose_31 rfl bc_m2 ?_
    exact hR _ _ _ f v dX4_choose_33 hq
  · replace hq := hq.2 c_3
    refine j_iload_n 19 C dX4_choose_18 rfl 3 rfl ?_
    refine j_if_ne 22 34 C dX4_choose_19 rfl rfl (fun c_4 => ?_) (fun c_4 => ?_)
    · replace hq := hq.1 c_4
      refine j_aload_n 35 C dX4_choose_34 rfl 0 rfl ?_
      refine j_get 38 C uX4 0 rfl rfl 1 (Nat.le_of_ble_eq_true rfl) lX4_21 (v := .ref (h 11)) rfl dX4_choose_35 rfl ?_
      refine j_callVi_ro 41 C (List.take 11 (wM G h f v)) (List.drop 21 (wM G h f v)) (As := []) (m_X1_isEmpty G (sb h 11) (sb f 5) (sb v 11) hq) oX1_isEmpty kX4_129 ⟨rfl, rfl⟩ eX1_isEmpty ⟨Nat.le_of_ble_eq_true rfl, Nat.le_of_ble_eq_true rfl⟩ ⟨Nat.zero_le _, Nat.zero_le _⟩ rfl (fun _ _ => rfl) 0 rfl rfl rfl (Nat.le_of_ble_eq_true rfl) dX4_choose_38 rfl (fun r_5 hq => ?_)
      refine j_if_eq 44 47 C dX4_choose_41 rfl rfl (fun c_6 => ?_) (fun c_6 => ?_)
      · replace hq := hq.1 c_6
        refine j_aload_n 48 C dX4_choose_47 rfl 0 rfl ?_
        refine j_callVr 51 C [] [] (fun f' v' => (wM G h f' v')) (As := []) (m_X4_killsNow G h f v hq) oX4_killsNow kX4_149 ⟨rfl, rfl⟩ eX4_killsNow ⟨Nat.le_of_ble_eq_true rfl, Nat.le_of_ble_eq_true rfl⟩ ⟨Nat.zero_le _, Nat.zero_le _⟩ (List.append_nil _).symm (fun _ _ => List.append_nil _) (fun _ _ => rfl) 0 rfl rfl rfl (Nat.le_of_ble_eq_true rfl) dX4_choose_48 rfl (fun f_8 v_9 hq => ?_)
        refine j_iload_n 52 C dX4_choose_51 rfl 1 rfl ?_
        refine j_callVi 55 C (List.take 43 (wM G h f_8 v_9)) (List.drop 48 (wM G h f_8 v_9)) (fun f' v' => (wM G h (mg f_8 33 4 f') (mg v_9 19 3 v'))) (As := [.int p0]) (m_X0_chooseTests G (sb h 43) p0 (sb f_8 33) (sb v_9 19) hq) oX0_chooseTests kX4_202 ⟨rfl, rfl⟩ eX0_chooseTests ⟨Nat.le_of_ble_eq_true rfl, Nat.le_of_ble_eq_true rfl⟩ ⟨Nat.zero_le _, Nat.zero_le _⟩ rfl (fun _ _ => rfl) (fun _ _ => rfl) 0 rfl rfl rfl (Nat.le_of_ble_eq_true rfl) dX4_choose_52 rfl (fun r_10 f_11 v_12 hq => ?_)
        obtain ⟨f_13, ef_13⟩ : ∃ y : FF, y = mg f_8 33 4 f_11 := ⟨_, rfl⟩
        obtain ⟨v_14, ev_14⟩ : ∃ y : VV, y = mg v_9 19 3 v_12 := ⟨_, rfl⟩
        replace hq := hq f_13 ef_13 v_14 ev_14
        refine J.w0 (ws' := (wM G h f_13 v_14)) (by subst ef_13; subst ev_14; rfl) ?_
        refine j_istore 57 C dX4_choose_55 rfl (Nat.le_of_ble_eq_true rfl) [1, 2, 3, 4, 0] (lv' := [(0, .ref (h 0)), (1, .int p0), (2, .int p1), (3, .int r_1), (4, .int r_10)]) rfl ?_
        refine j_iload_n 58 C dX4_choose_57 rfl 3 rfl ?_
        refine j_if_eq 61 88 C dX4_choose_58 rfl rfl (fun c_15 => ?_) (fun c_15 => ?_)
        · replace hq := hq.1 c_15
          refine j_aload_n 89 C dX4_choose_88 rfl 0 rfl ?_
          refine j_get 92 C uX4 0 rfl rfl 4 (Nat.le_of_ble_eq_true rfl) lX4_38 (v := .ref (h 43)) rfl dX4_choose_89 rfl ?_
          refine j_iload 94 C dX4_choose_92 rfl 4 rfl ?_
          refine j_callVi_ro 97 C (List.take 43 (wM G h f_13 v_14)) (List.drop 48 (wM G h f_13 v_14)) (As := [.int r_10]) (m_X0_chosenSet G (sb h 43) r_10 (sb f_13 33) (sb v_14 19) hq) oX0_chosenSet kX4_208 ⟨rfl, rfl⟩ eX0_chosenSet ⟨Nat.le_of_ble_eq_true rfl, Nat.le_of_ble_eq_true rfl⟩ ⟨Nat.zero_le _, Nat.zero_le _⟩ rfl (fun _ _ => rfl) 0 rfl rfl rfl (Nat.le_of_ble_eq_true rfl) dX4_choose_94 rfl (fun r_16 hq => ?_)
          refine j_istore 99 C dX4_choose_97 rfl (Nat.le_of_ble_eq_true rfl) [1, 2, 3, 4, 5, 0] (lv' := [(0, .ref (h 0)), (1, .int p0), (2, .int p1), (3, .int r_1), (4, .int r_10), (5, .int r_16)]) rfl ?_
          refine j_iload_n 100 C dX4_choose_99 rfl 2 rfl ?_
          refine j_if_ne 103 108 C dX4_choose_100 rfl rfl (fun c_17 => ?_) (fun c_17 => ?_)
          · replace hq := hq.1 c_17
            refine j_aload_n 109 C dX4_choose_108 rfl 0 rfl ?_
            refine j_get 112 C uX4 0 rfl rfl 4 (Nat.le_of_ble_eq_true rfl) lX4_38 (v := .ref (h 43)) rfl dX4_choose_109 rfl ?_
            refine j_iload 114 C dX4_choose_112 rfl 5 rfl ?_
            refine j_callVi_ro 117 C (List.take 43 (wM G h f_13 v_14)) (List.drop 48 (wM G h f_13 v_14)) (As := [.int r_16]) (m_X0_weightOf G (sb h 43) r_16 (sb f_13 33) (sb v_14 19) hq) oX0_weightOf kX4_194 ⟨rfl, rfl⟩ eX0_weightOf ⟨Nat.le_of_ble_eq_true rfl, Nat.le_of_ble_eq_true rfl⟩ ⟨Nat.zero_le _, Nat.zero_le _⟩ rfl (fun _ _ => rfl) 0 rfl rfl rfl (Nat.le_of_ble_eq_true rfl) dX4_choose_114 rfl (fun r_18 hq => ?_)
            exact hR _ _ _ f_13 v_14 dX4_choose_117 hq
          · replace hq := hq.2 c_17
            refine j_iload 105 C dX4_choose_103 rfl 5 rfl ?_
            refine j_goto 117 C dX4_choose_105 rfl ?_
            exact hR _ _ _ f_13 v_14 dX4_choose_117 hq
        · replace hq := hq.2 c_15
          refine j_iload_n 62 C dX4_choose_61 rfl 2 rfl ?_
          refine j_bipush 64 C dX4_choose_62 rfl bc_10 ?_
          refine j_isub 65 C dX4_choose_64 rfl ?_
          refine j_iload 67 C dX4_choose_65 rfl 4 rfl ?_
          refine j_icmp_ge 70 85 C dX4_choose_67 rfl rfl (fun c_19 => ?_) (fun c_19 => ?_)
          · replace hq := hq.1 c_19
            refine j_bipush 87 C dX4_choose_85 rfl bc_m9 ?_
            exact hR _ _ _ f_13 v_14 dX4_choose_87 hq
          · replace hq := hq.2 c_19
            refine j_aload_n 71 C dX4_choose_70 rfl 0 rfl ?_
            refine j_get 74 C uX4 0 rfl rfl 4 (Nat.le_of_ble_eq_true rfl) lX4_38 (v := .ref (h 43)) rfl dX4_choose_71 rfl ?_
            refine j_get 77 C uX0 43 rfl rfl 3 (Nat.le_of_ble_eq_true rfl) lX4_205 (v := .ref (h 47)) rfl dX4_choose_74 rfl ?_
            refine j_iload_n 78 C dX4_choose_77 rfl 2 rfl ?_
            refine j_bipush 80 C dX4_choose_78 rfl bc_10 ?_
            refine j_isub 81 C dX4_choose_80 rfl ?_
            obtain ⟨hi_20, hq⟩ := hq
            refine j_iald 82 C 47 (f := (f_13 36)) rfl hi_20 dX4_choose_81 rfl ?_
            refine j_goto 87 C dX4_choose_82 rfl ?_
            exact hR _ _ _ f_13 v_14 dX4_choose_87 hq
      · replace hq := hq.2 c_6
        refine j_bipush 46 C dX4_choose_44 rfl bc_m3 ?_
        exact hR _ _ _ f v dX4_choose_46 hq
    · replace hq := hq.2 c_4
      refine j_iload_n 23 C dX4_choose_22 rfl 2 rfl ?_
      refine j_iconst 24 C dX4_choose_23 rfl ic_0 ?_
      refine j_iconst 25 C dX4_choose_24 rfl ic_1 ?_
      refine j_callSi 28 C [] (wM G h f v) (fun _ _ => (wM G h f v)) (As := [.int p1, .int (0 : Int32), .int (1 : Int32)]) (m_X4_isWithin G p1 (0 : Int32) (1 : Int32) hq) oX4_isWithin kX4_54 ⟨rfl, rfl⟩ eX4_isWithin ⟨Nat.le_of_ble_eq_true rfl, Nat.le_of_ble_eq_true rfl⟩ ⟨Nat.zero_le _, Nat.zero_le _⟩ rfl (fun _ _ => rfl) (fun _ _ => rfl) rfl (Nat.le_of_ble_eq_true rfl) dX4_choose_25 rfl (fun r_21 _ _ hq => ?_)
      refine j_if_ne 31 34 C dX4_choose_28 rfl rfl (fun c_22 => ?_) (fun c_22 => ?_)
      · replace hq := hq.1 c_22
        refine j_aload_n 35 C dX4_choose_34 rfl 0 rfl ?_
        refine j_get 38 C uX4 0 rfl rfl 1 (Nat.le_of_ble_eq_true rfl) lX4_21 (v := .ref (h 11)) rfl dX4_choose_35 rfl ?_
        refine j_callVi_ro 41 C (List.take 11 (wM G h f v)) (List.drop 21 (wM G h f v)) (As := []) (m_X1_isEmpty G (sb h 11) (sb f 5) (sb v 11) hq) oX1_isEmpty kX4_129 ⟨rfl, rfl⟩ eX1_isEmpty ⟨Nat.le_of_ble_eq_true rfl, Nat.le_of_ble_eq_true rfl⟩ ⟨Nat.zero_le _, Nat.zero_le _⟩ rfl (fun _ _ => rfl) 0 rfl rfl rfl (Nat.le_of_ble_eq_true rfl) dX4_choose_38 rfl (fun r_23 hq => ?_)
        refine j_if_eq 44 47 C dX4_choose_41 rfl rfl (fun c_24 => ?_) (fun c_24 => ?_)
        · replace hq := hq.1 c_24
          refine j_aload_n 48 C dX4_choose_47 rfl 0 rfl ?_
          refine j_callVr 51 C [] [] (fun f' v' => (wM G h f' v')) (As := []) (m_X4_killsNow G h f v hq) oX4_killsNow kX4_149 ⟨rfl, rfl⟩ eX4_killsNow ⟨Nat.le_of_ble_eq_true rfl, Nat.le_of_ble_eq_true rfl⟩ ⟨Nat.zero_le _, Nat.zero_le _⟩ (List.append_nil _).symm (fun _ _ => List.append_nil _) (fun _ _ => rfl) 0 rfl rfl rfl (Nat.le_of_ble_eq_true rfl) dX4_choose_48 rfl (fun f_26 v_27 hq => ?_)
          refine j_iload_n 52 C dX4_choose_51 rfl 1 rfl ?_
          refine j_callVi 55 C (List.take 43 (wM G h f_26 v_27)) (List.drop 48 (wM G h f_26 v_27)) (fun f' v' => (wM G h (mg f_26 33 4 f') (mg v_27 19 3 v'))) (As := [.int p0]) (m_X0_chooseTests G (sb h 43) p0 (sb f_26 33) (sb v_27 19) hq) oX0_chooseTests kX4_202 ⟨rfl, rfl⟩ eX0_chooseTests ⟨Nat.le_of_ble_eq_true rfl, Nat.le_of_ble_eq_true rfl⟩ ⟨Nat.zero_le _, Nat.zero_le _⟩ rfl (fun _ _ => rfl) (fun _ _ => rfl) 0 rfl rfl rfl (Nat.le_of_ble_eq_true rfl) dX4_choose_52 rfl (fun r_28 f_29 v_30 hq => ?_)
          obtain ⟨f_31, ef_31⟩ : ∃ y : FF, y = mg f_26 33 4 f_29 := ⟨_, rfl⟩
          obtain ⟨v_32, ev_32⟩ : ∃ y : VV, y = mg v_27 19 3 v_30 := ⟨_, rfl⟩
          replace hq := hq f_31 ef_31 v_32 ev_32
          refine J.w0 (ws' := (wM G h f_31 v_32)) (by subst ef_31; subst ev_32; rfl) ?_
          refine j_istore 57 C dX4_choose_55 rfl (Nat.le_of_ble_eq_true rfl) [1, 2, 3, 4, 0] (lv' := [(0, .ref (h 0)), (1, .int p0), (2, .int p1), (3, .int r_1), (4, .int r_28)]) rfl ?_
          refine j_iload_n 58 C dX4_choose_57 rfl 3 rfl ?_
          refine j_if_eq 61 88 C dX4_choose_58 rfl rfl (fun c_33 => ?_) (fun c_33 => ?_)
          · replace hq := hq.1 c_33
            refine j_aload_n 89 C dX4_choose_88 rfl 0 rfl ?_
            refine j_get 92 C uX4 0 rfl rfl 4 (Nat.le_of_ble_eq_true rfl) lX4_38 (v := .ref (h 43)) rfl dX4_choose_89 rfl ?_
            refine j_iload 94 C dX4_choose_92 rfl 4 rfl ?_
            refine j_callVi_ro 97 C (List.take 43 (wM G h f_31 v_32)) (List.drop 48 (wM G h f_31 v_32)) (As := [.int r_28]) (m_X0_chosenSet G (sb h 43) r_28 (sb f_31 33) (sb v_32 19) hq) oX0_chosenSet kX4_208 ⟨rfl, rfl⟩ eX0_chosenSet ⟨Nat.le_of_ble_eq_true rfl, Nat.le_of_ble_eq_true rfl⟩ ⟨Nat.zero_le _, Nat.zero_le _⟩ rfl (fun _ _ => rfl) 0 rfl rfl rfl (Nat.le_of_ble_eq_true rfl) dX4_choose_94 rfl (fun r_34 hq => ?_)
            refine j_istore 99 C dX4_choose_97 rfl (Nat.le_of_ble_eq_true rfl) [1, 2, 3, 4, 5, 0] (lv' := [(0, .ref (h 0)), (1, .int p0), (2, .int p1), (3, .int r_1), (4, .int r_28), (5, .int r_34)]) rfl ?_
            refine j_iload_n 100 C dX4_choose_99 rfl 2 rfl ?_
            refine j_if_ne 103 108 C dX4_choose_100 rfl rfl (fun c_35 => ?_) (fun c_35 => ?_)
            · replace hq := hq.1 c_35
              refine j_aload_n 109 C dX4_choose_108 rfl 0 rfl ?_
              refine j_get 112 C uX4 0 rfl rfl 4 (Nat.le_of_ble_eq_true rfl) lX4_38 (v := .ref (h 43)) rfl dX4_choose_109 rfl ?_
              refine j_iload 114 C dX4_choose_112 rfl 5 rfl ?_
              refine j_callVi_ro 117 C (List.take 43 (wM G h f_31 v_32)) (List.drop 48 (wM G h f_31 v_32)) (As := [.int r_34]) (m_X0_weightOf G (sb h 43) r_34 (sb f_31 33) (sb v_32 19) hq) oX0_weightOf kX4_194 ⟨rfl, rfl⟩ eX0_weightOf ⟨Nat.le_of_ble_eq_true rfl, Nat.le_of_ble_eq_true rfl⟩ ⟨Nat.zero_le _, Nat.zero_le _⟩ rfl (fun _ _ => rfl) 0 rfl rfl rfl (Nat.le_of_ble_eq_true rfl) dX4_choose_114 rfl (fun r_36 hq => ?_)
              exact hR _ _ _ f_31 v_32 dX4_choose_117 hq
            · replace hq := hq.2 c_35
              refine j_iload 105 C dX4_choose_103 rfl 5 rfl ?_
              refine j_goto 117 C dX4_choose_105 rfl ?_
              exact hR _ _ _ f_31 v_32 dX4_choose_117 hq
          · replace hq := hq.2 c_33
            refine j_iload_n 62 C dX4_choose_61 rfl 2 rfl ?_
            refine j_bipush 64 C dX4_choose_62 rfl bc_10 ?_
            refine j_isub 65 C dX4_choose_64 rfl ?_
            refine j_iload 67 C dX4_choose_65 rfl 4 rfl ?_
            refine j_icmp_ge 70 85 C dX4_choose_67 rfl rfl (fun c_37 => ?_) (fun c_37 => ?_)
            · replace hq := hq.1 c_37
              refine j_bipush 87 C dX4_choose_85 rfl bc_m9 ?_
              exact hR _ _ _ f_31 v_32 dX4_choose_87 hq
            · replace hq := hq.2 c_37
              refine j_aload_n 71 C dX4_choose_70 rfl 0 rfl ?_
              refine j_get 74 C uX4 0 rfl rfl 4 (Nat.le_of_ble_eq_true rfl) lX4_38 (v := .ref (h 43)) rfl dX4_choose_71 rfl ?_
              refine j_get 77 C uX0 43 rfl rfl 3 (Nat.le_of_ble_eq_true rfl) lX4_205 (v := .ref (h 47)) rfl dX4_choose_74 rfl ?_
              refine j_iload_n 78 C dX4_choose_77 rfl 2 rfl ?_
              refine j_bipush 80 C dX4_choose_78 rfl bc_10 ?_
              refine j_isub 81 C dX4_choose_80 rfl ?_
              obtain ⟨hi_38, hq⟩ := hq
              refine j_iald 82 C 47 (f := (f_31 36)) rfl hi_38 dX4_choose_81 rfl ?_
              refine j_goto 87 C dX4_choose_82 rfl ?_
              exact hR _ _ _ f_31 v_32 dX4_choose_87 hq
        · replace hq := hq.2 c_24
          refine j_bipush 46 C dX4_choose_44 rfl bc_m3 ?_
          exact hR _ _ _ f v dX4_choose_46 hq
      · replace hq := hq.2 c_22
        refine j_bipush 33 C dX4_choose_31 rfl bc_m2 ?_
        exact hR _ _ _ f v dX4_choose_33 hq
def Q_X4_score (p0 : Int32) (f : FF) (v : VV) (post : Int64 → FF → VV → Prop) : Prop := Q_X4_isWithin p0 (0 : Int32) (1 : Int32) (fun r_1 => (((r_1 = 0 → (post (-9223372036854775808 : Int64) f v)) ∧ (¬ r_1 = 0 → (Q_X1_isEmpty  (sb f 5) (sb v 11) (fun r_3 => (((r_3 = 0 → (Q_X4_killsNow  f v (fun f_6 v_7 => (Q_J6_bitCount_0f7a4 (v_7 21) (fun r_8 => (Q_X1_unequalMutants  (sb f_6 5) (sb v_7 11) (fun r_9 f_10 v_11 => (∀ f_12 : FF, f_12 = mg f_6 5 9 f_10 → (∀ v_13 : VV, v_13 = mg v_7 11 2 v_11 → (Q_J6_bitCount_0f7a4 r_9 (fun r_14 => (Q_X4_share r_8 r_14 p0 (fun r_15 => (post r_15 f_12 v_13)))))))))))))) ∧ (¬ r_3 = 0 → (post (-9223372036854775808 : Int64) f v))))))))))
set_option maxRecDepth 100000 in
set_option maxHeartbeats 4000000 in
theorem m_X4_score {l : Launch} (G : Gx) (h : Nat → Nat) (p0 : Int32) (f : FF) (v : VV) {post : Int64 → FF → VV → Prop} (hq : Q_X4_score p0 f v post) : MetL l yX4_score (gC yX4_score cX4_score 3 (some .long)) rmX4_score G [.ref (h 0), .int p0] (wM G h) f v post := by
  refine met_l (own := RX4) (by decide) rfl (Nat.le_of_ble_eq_true rfl) (fun κ hκ C hR => ?_)
  unfold Q_X4_score at hq
  subst hκ
  show J κ 0 0 (wM G h f v) 0 [(0, .ref (h 0)), (1, .int p0)] []
  refine j_iload_n 1 C dX4_score_0 rfl 1 rfl ?_
  refine j_iconst 2 C dX4_score_1 rfl ic_0 ?_
  refine j_iconst 3 C dX4_score_2 rfl ic_1 ?_
  refine j_callSi 6 C [] (wM G h f v) (fun _ _ => (wM G h f v)) (As := [.int p0, .int (0 : Int32), .int (1 : Int32)]) (m_X4_isWithin G p0 (0 : Int32) (1 : Int32) hq) oX4_isWithin kX4_54 ⟨rfl, rfl⟩ eX4_isWithin ⟨Nat.le_of_ble_eq_true rfl, Nat.le_of_ble_eq_true rfl⟩ ⟨Nat.zero_le _, Nat.zero_le _⟩ rfl (fun _ _ => rfl) (fun _ _ => rfl) rfl (Nat.le_of_ble_eq_true rfl) dX4_score_3 rfl (fun r_1 _ _ hq => ?_)
  refine j_if_eq 9 19 C dX4_score_6 rfl rfl (fun c_2 => ?_) (fun c_2 => ?_)
  · replace hq := hq.1 c_2
    refine j_ldc2_w 22 C dX4_score_19 rfl kX4_211 ?_
    exact hR _ _ _ f v dX4_score_22 hq
  · replace hq := hq.2 c_2
    refine j_aload_n 10 C dX4_score_9 rfl 0 rfl ?_
    refine j_get 13 C uX4 0 rfl rfl 1 (Nat.le_of_ble_eq_true rfl) lX4_21 (v := .ref (h 11)) rfl dX4_score_10 rfl ?_
    refine j_callVi_ro 16 C (List.take 11 (wM G h f v)) (List.drop 21 (wM G h f v)) (As := []) (m_X1_isEmpty G (sb h 11) (sb f 5) (sb v 11) hq) oX1_isEmpty kX4_129 ⟨rfl, rfl⟩ eX1_isEmpty ⟨Nat.le_of_ble_eq_true rfl, Nat.le_of_ble_eq_true rfl⟩ ⟨Nat.zero_le _, Nat.zero_le _⟩ rfl (fun _ _ => rfl) 0 rfl rfl rfl (Nat.le_of_ble_eq_true rfl) dX4_score_13 rfl (fun r_3 hq => ?_)
    refine j_if_eq 19 23 C dX4_score_16 rfl rfl (fun c_4 => ?_) (fun c_4 => ?_)
    · replace hq := hq.1 c_4
      refine j_aload_n 24 C dX4_score_23 rfl 0 rfl ?_
      refine j_callVr 27 C [] [] (fun f' v' => (wM G h f' v')) (As := []) (m_X4_killsNow G h f v hq) oX4_killsNow kX4_149 ⟨rfl, rfl⟩ eX4_killsNow ⟨Nat.le_of_ble_eq_true rfl, Nat.le_of_ble_eq_true rfl⟩ ⟨Nat.zero_le _, Nat.zero_le _⟩ (List.append_nil _).symm (fun _ _ => List.append_nil _) (fun _ _ => rfl) 0 rfl rfl rfl (Nat.le_of_ble_eq_true rfl) dX4_score_24 rfl (fun f_6 v_7 hq => ?_)
      refine j_get 30 C uX0 43 rfl rfl 6 (Nat.le_of_ble_eq_true rfl) lX4_213 (v := .int (v_7 21)) rfl dX4_score_27 rfl ?_
      refine j_callSi 33 C [] (wM G h f_6 v_7) (fun _ _ => (wM G h f_6 v_7)) (As := [.int (v_7 21)]) (m_J6_bitCount_0f7a4 G (v_7 21) hq) oJ6_bitCount_0f7a4 kX4_197 ⟨rfl, rfl⟩ eJ6_bitCount_0f7a4 ⟨Nat.le_of_ble_eq_true rfl, Nat.le_of_ble_eq_true rfl⟩ ⟨Nat.zero_le _, Nat.zero_le _⟩ rfl (fun _ _ => rfl) (fun _ _ => rfl) rfl (Nat.le_of_ble_eq_true rfl) dX4_score_30 rfl (fun r_8 _ _ hq => ?_)
      refine j_istore_n 34 C dX4_score_33 rfl (Nat.le_of_ble_eq_true rfl) [1, 2, 0] (lv' := [(0, .ref (h 0)), (1, .int p0), (2, .int r_8)]) rfl ?_
      refine j_iload_n 35 C dX4_score_34 rfl 2 rfl ?_
      refine j_aload_n 36 C dX4_score_35 rfl 0 rfl ?_
      refine j_get 39 C uX4 0 rfl rfl 1 (Nat.le_of_ble_eq_true rfl) lX4_21 (v := .ref (h 11)) rfl dX4_score_36 rfl ?_
      refine j_callVi 42 C (List.take 11 (wM G h f_6 v_7)) (List.drop 21 (wM G h f_6 v_7)) (fun f' v' => (wM G h (mg f_6 5 9 f') (mg v_7 11 2 v'))) (As := []) (m_X1_unequalMutants G (sb h 11) (sb f_6 5) (sb v_7 11) hq) oX1_unequalMutants kX4_216 ⟨rfl, rfl⟩ eX1_unequalMutants ⟨Nat.le_of_ble_eq_true rfl, Nat.le_of_ble_eq_true rfl⟩ ⟨Nat.zero_le _, Nat.zero_le _⟩ rfl (fun _ _ => rfl) (fun _ _ => rfl) 0 rfl rfl rfl (Nat.le_of_ble_eq_true rfl) dX4_score_39 rfl (fun r_9 f_10 v_11 hq => ?_)
      obtain ⟨f_12, ef_12⟩ : ∃ y : FF, y = mg f_6 5 9 f_10 := ⟨_, rfl⟩
      obtain ⟨v_13, ev_13⟩ : ∃ y : VV, y = mg v_7 11 2 v_11 := ⟨_, rfl⟩
      replace hq := hq f_12 ef_12 v_13 ev_13
      refine J.w0 (ws' := (wM G h f_12 v_13)) (by subst ef_12; subst ev_13; rfl) ?_
      refine j_callSi 45 C [] (wM G h f_12 v_13) (fun _ _ => (wM G h f_12 v_13)) (As := [.int r_9]) (m_J6_bitCount_0f7a4 G r_9 hq) oJ6_bitCount_0f7a4 kX4_197 ⟨rfl, rfl⟩ eJ6_bitCount_0f7a4 ⟨Nat.le_of_ble_eq_true rfl, Nat.le_of_ble_eq_true rfl⟩ ⟨Nat.zero_le _, Nat.zero_le _⟩ rfl (fun _ _ => rfl) (fun _ _ => rfl) rfl (Nat.le_of_ble_eq_true rfl) dX4_score_42 rfl (fun r_14 _ _ hq => ?_)
      refine j_iload_n 46 C dX4_score_45 rfl 1 rfl ?_
      refine j_callSl 49 C [] (wM G h f_12 v_13) (fun _ _ => (wM G h f_12 v_13)) (As := [.int r_8, .int r_14, .int p0]) (m_X4_share G r_8 r_14 p0 hq) oX4_share kX4_219 ⟨rfl, rfl⟩ eX4_share ⟨Nat.le_of_ble_eq_true rfl, Nat.le_of_ble_eq_true rfl⟩ ⟨Nat.zero_le _, Nat.zero_le _⟩ rfl (fun _ _ => rfl) (fun _ _ => rfl) rfl (Nat.le_of_ble_eq_true rfl) dX4_score_46 rfl (fun r_15 _ _ hq => ?_)
      exact hR _ _ _ f_12 v_13 dX4_score_49 hq
    · replace hq := hq.2 c_4
      refine j_ldc2_w 22 C dX4_score_19 rfl kX4_211 ?_
      exact hR _ _ _ f v dX4_score_22 hq
def Q_X4_reading (p0 : Int32) (f : FF) (v : VV) (post : Int32 → FF → VV → Prop) : Prop := Q_X1_isEmpty  (sb f 5) (sb v 11) (fun r_1 => (((r_1 = 0 → (Q_X4_isWithin p0 (0 : Int32) (200 : Int32) (fun r_3 => (((¬ r_3 = 0 → ((((v 0) < (8 : Int32) → (vp_in (v 0) 8 ∧ (∀ f_7 : FF, f_7 = fu f 0 (wr (f 0) (v 0) p0) → (∀ v_8 : VV, v_8 = fu v 0 ((v 0) + (1 : Int32)) → (post (v_8 0) f_7 v_8))))) ∧ (¬ (v 0) < (8 : Int32) → (post (-4 : Int32) f v))))) ∧ (r_3 = 0 → (post (-2 : Int32) f v))))))) ∧ (¬ r_1 = 0 → (post (-3 : Int32) f v)))))
set_option maxRecDepth 100000 in
set_option maxHeartbeats 4000000 in
theorem m_X4_reading {l : Launch} (G : Gx) (h : Nat → Nat) (p0 : Int32) (f : FF) (v : VV) {post : Int32 → FF → VV → Prop} (hq : Q_X4_reading p0 f v post) : MetI l yX4_reading (gC yX4_reading cX4_reading 2 (some .int)) rmX4_reading G [.ref (h 0), .int p0] (wM G h) f v post := by
  refine met_i (own := RX4) (by decide) rfl (Nat.le_of_ble_eq_true rfl) (fun κ hκ C hR => ?_)
  unfold Q_X4_reading at hq
  subst hκ
  show J κ 0 0 (wM G h f v) 0 [(0, .ref (h 0)), (1, .int p0)] []
  refine j_aload_n 1 C dX4_reading_0 rfl 0 rfl ?_
  refine j_get 4 C uX4 0 rfl rfl 1 (Nat.le_of_ble_eq_true rfl) lX4_21 (v := .ref (h 11)) rfl dX4_reading_1 rfl ?_
  refine j_callVi_ro 7 C (List.take 11 (wM G h f v)) (List.drop 21 (wM G h f v)) (As := []) (m_X1_isEmpty G (sb h 11) (sb f 5) (sb v 11) hq) oX1_isEmpty kX4_129 ⟨rfl, rfl⟩ eX1_isEmpty ⟨Nat.le_of_ble_eq_true rfl, Nat.le_of_ble_eq_true rfl⟩ ⟨Nat.zero_le _, Nat.zero_le _⟩ rfl (fun _ _ => rfl) 0 rfl rfl rfl (Nat.le_of_ble_eq_true rfl) dX4_reading_4 rfl (fun r_1 hq => ?_)
  refine j_if_eq 10 13 C dX4_reading_7 rfl rfl (fun c_2 => ?_) (fun c_2 => ?_)
  · replace hq := hq.1 c_2
    refine j_iload_n 14 C dX4_reading_13 rfl 1 rfl ?_
    refine j_iconst 15 C dX4_reading_14 rfl ic_0 ?_
    refine j_sipush 18 C dX4_reading_15 rfl sc_200 ?_
    refine j_callSi 21 C [] (wM G h f v) (fun _ _ => (wM G h f v)) (As := [.int p0, .int (0 : Int32), .int (200 : Int32)]) (m_X4_isWithin G p0 (0 : Int32) (200 : Int32) hq) oX4_isWithin kX4_54 ⟨rfl, rfl⟩ eX4_isWithin ⟨Nat.le_of_ble_eq_true rfl, Nat.le_of_ble_eq_true rfl⟩ ⟨Nat.zero_le _, Nat.zero_le _⟩ rfl (fun _ _ => rfl) (fun _ _ => rfl) rfl (Nat.le_of_ble_eq_true rfl) dX4_reading_18 rfl (fun r_3 _ _ hq => ?_)
    refine j_if_ne 24 27 C dX4_reading_21 rfl rfl (fun c_4 => ?_) (fun c_4 => ?_)
    · replace hq := hq.1 c_4
      refine j_aload_n 28 C dX4_reading_27 rfl 0 rfl ?_
      refine j_get 31 C uX4 0 rfl rfl 6 (Nat.le_of_ble_eq_true rfl) lX4_83 (v := .int (v 0)) rfl dX4_reading_28 rfl ?_
      refine j_bipush 33 C dX4_reading_31 rfl bc_8 ?_
      refine j_icmp_lt 36 39 C dX4_reading_33 rfl rfl (fun c_5 => ?_) (fun c_5 => ?_)
      · replace hq := hq.1 c_5
        refine j_aload_n 40 C dX4_reading_39 rfl 0 rfl ?_
        refine j_get 43 C uX4 0 rfl rfl 5 (Nat.le_of_ble_eq_true rfl) lX4_42 (v := .ref (h 1)) rfl dX4_reading_40 rfl ?_
        refine j_aload_n 44 C dX4_reading_43 rfl 0 rfl ?_
        refine j_get 47 C uX4 0 rfl rfl 6 (Nat.le_of_ble_eq_true rfl) lX4_83 (v := .int (v 0)) rfl dX4_reading_44 rfl ?_
        refine j_iload_n 48 C dX4_reading_47 rfl 1 rfl ?_
        obtain ⟨hi_6, hq⟩ := hq
        obtain ⟨f_7, ef_7⟩ : ∃ y : FF, y = fu f 0 (wr (f 0) (v 0) p0) := ⟨_, rfl⟩
        replace hq := hq f_7 ef_7
        refine j_iast 49 C 1 rfl hi_6 dX4_reading_48 rfl (ws' := (wM G h f_7 v)) (by subst ef_7; rfl) ?_
        refine j_aload_n 50 C dX4_reading_49 rfl 0 rfl ?_
        refine j_dup 51 C dX4_reading_50 rfl rfl ?_
        refine j_get 54 C uX4 0 rfl rfl 6 (Nat.le_of_ble_eq_true rfl) lX4_83 (v := .int (v 0)) rfl dX4_reading_51 rfl ?_
        refine j_iconst 55 C dX4_reading_54 rfl ic_1 ?_
        refine j_iadd 56 C dX4_reading_55 rfl ?_
        obtain ⟨v_8, ev_8⟩ : ∃ y : VV, y = fu v 0 ((v 0) + (1 : Int32)) := ⟨_, rfl⟩
        replace hq := hq v_8 ev_8
        refine j_put 59 C uX4 tyX4 tyX4_ok nmX4 0 rfl rfl 6 (Nat.le_of_ble_eq_true rfl) lX4_83 rfl rfl (Nat.le_of_ble_eq_true rfl) dX4_reading_56 rfl (ws' := (wM G h f_7 v_8)) (by subst ev_8; rfl) ?_
        refine j_aload_n 60 C dX4_reading_59 rfl 0 rfl ?_
        refine j_get 63 C uX4 0 rfl rfl 6 (Nat.le_of_ble_eq_true rfl) lX4_83 (v := .int (v_8 0)) rfl dX4_reading_60 rfl ?_
        exact hR _ _ _ f_7 v_8 dX4_reading_63 hq
      · replace hq := hq.2 c_5
        refine j_bipush 38 C dX4_reading_36 rfl bc_m4 ?_
        exact hR _ _ _ f v dX4_reading_38 hq
    · replace hq := hq.2 c_4
      refine j_bipush 26 C dX4_reading_24 rfl bc_m2 ?_
      exact hR _ _ _ f v dX4_reading_26 hq
  · replace hq := hq.2 c_2
    refine j_bipush 12 C dX4_reading_10 rfl bc_m3 ?_
    exact hR _ _ _ f v dX4_reading_12 hq
def Q_X4_back (p0 : Int32) (f : FF) (v : VV) (post : Int32 → FF → VV → Prop) : Prop := Q_X4_isWithin p0 (0 : Int32) (v 0) (fun r_1 => (((¬ r_1 = 0 → (∀ v_3 : VV, v_3 = fu v 0 ((v 0) - p0) → (post (v_3 0) f v_3))) ∧ (r_1 = 0 → (post (-2 : Int32) f v)))))
set_option maxRecDepth 100000 in
set_option maxHeartbeats 4000000 in
theorem m_X4_back {l : Launch} (G : Gx) (h : Nat → Nat) (p0 : Int32) (f : FF) (v : VV) {post : Int32 → FF → VV → Prop} (hq : Q_X4_back p0 f v post) : MetI l yX4_back (gC yX4_back cX4_back 2 (some .int)) rmX4_back G [.ref (h 0), .int p0] (wM G h) f v post := by
  refine met_i (own := RX4) (by decide) rfl (Nat.le_of_ble_eq_true rfl) (fun κ hκ C hR => ?_)
  unfold Q_X4_back at hq
  subst hκ
  show J κ 0 0 (wM G h f v) 0 [(0, .ref (h 0)), (1, .int p0)] []
  refine j_iload_n 1 C dX4_back_0 rfl 1 rfl ?_
  refine j_iconst 2 C dX4_back_1 rfl ic_0 ?_
  refine j_aload_n 3 C dX4_back_2 rfl 0 rfl ?_
  refine j_get 6 C uX4 0 rfl rfl 6 (Nat.le_of_ble_eq_true rfl) lX4_83 (v := .int (v 0)) rfl dX4_back_3 rfl ?_
  refine j_callSi 9 C [] (wM G h f v) (fun _ _ => (wM G h f v)) (As := [.int p0, .int (0 : Int32), .int (v 0)]) (m_X4_isWithin G p0 (0 : Int32) (v 0) hq) oX4_isWithin kX4_54 ⟨rfl, rfl⟩ eX4_isWithin ⟨Nat.le_of_ble_eq_true rfl, Nat.le_of_ble_eq_true rfl⟩ ⟨Nat.zero_le _, Nat.zero_le _⟩ rfl (fun _ _ => rfl) (fun _ _ => rfl) rfl (Nat.le_of_ble_eq_true rfl) dX4_back_6 rfl (fun r_1 _ _ hq => ?_)
  refine j_if_ne 12 15 C dX4_back_9 rfl rfl (fun c_2 => ?_) (fun c_2 => ?_)
  · replace hq := hq.1 c_2
    refine j_aload_n 16 C dX4_back_15 rfl 0 rfl ?_
    refine j_dup 17 C dX4_back_16 rfl rfl ?_
    refine j_get 20 C uX4 0 rfl rfl 6 (Nat.le_of_ble_eq_true rfl) lX4_83 (v := .int (v 0)) rfl dX4_back_17 rfl ?_
    refine j_iload_n 21 C dX4_back_20 rfl 1 rfl ?_
    refine j_isub 22 C dX4_back_21 rfl ?_
    obtain ⟨v_3, ev_3⟩ : ∃ y : VV, y = fu v 0 ((v 0) - p0) := ⟨_, rfl⟩
    replace hq := hq v_3 ev_3
    refine j_put 25 C uX4 tyX4 tyX4_ok nmX4 0 rfl rfl 6 (Nat.le_of_ble_eq_true rfl) lX4_83 rfl rfl (Nat.le_of_ble_eq_true rfl) dX4_back_22 rfl (ws' := (wM G h f v_3)) (by subst ev_3; rfl) ?_
    refine j_aload_n 26 C dX4_back_25 rfl 0 rfl ?_
    refine j_get 29 C uX4 0 rfl rfl 6 (Nat.le_of_ble_eq_true rfl) lX4_83 (v := .int (v_3 0)) rfl dX4_back_26 rfl ?_
    exact hR _ _ _ f v_3 dX4_back_29 hq
  · replace hq := hq.2 c_2
    refine j_bipush 14 C dX4_back_12 rfl bc_m2 ?_
    exact hR _ _ _ f v dX4_back_14 hq
def Q_X4_fitsReadings_L37 (x1 : Int32) (K55 : Int32 → FF → VV → Prop) (K63 : Int32 → FF → VV → Prop) : Nat → Int32 → FF → VV → Prop
  | 0, _, _, _ => False
  | n + 1, x2, f, v => (((v 0) ≤ x2 → (K63 x2 f v)) ∧ (¬ (v 0) ≤ x2 → (vp_in x2 8 ∧ (((((f 0) (x2).toNatClampNeg) = x1 → (∀ x_13 : Int32, x_13 = (x2 + (1 : Int32)) → (Q_X4_fitsReadings_L37 x1 K55 K63 n x_13 f v))) ∧ (¬ ((f 0) (x2).toNatClampNeg) = x1 → (K55 x2 f v)))))))
set_option maxRecDepth 100000 in
set_option maxHeartbeats 4000000 in
theorem t_X4_fitsReadings_L37 {κ : Kx} {G : Gx} {h : Nat → Nat} (C : Cx κ G RX4 cX4_fitsReadings rmX4_fitsReadings 3) {x1 : Int32} {K55 : Int32 → FF → VV → Prop} {K63 : Int32 → FF → VV → Prop} (hK55 : ∀ (x2 : Int32) (f : FF) (v : VV), K55 x2 f v → J κ 0 0 (wM G h f v) 55 [(0, .ref (h 0)), (1, .int x1), (2, .int x2)] []) (hK63 : ∀ (x2 : Int32) (f : FF) (v : VV), K63 x2 f v → J κ 0 0 (wM G h f v) 63 [(0, .ref (h 0)), (1, .int x1), (2, .int x2)] []) : ∀ (n : Nat) (x2 : Int32) (f : FF) (v : VV), Q_X4_fitsReadings_L37 x1 K55 K63 n x2 f v → J κ 0 0 (wM G h f v) 37 [(0, .ref (h 0)), (1, .int x1), (2, .int x2)] [] := by
  intro n
  induction n with
  | zero => intro x2 f v hq; exact False.elim hq
  | succ n ih =>
    intro x2 f v hq
    rw [Q_X4_fitsReadings_L37] at hq
    refine j_iload_n 38 C dX4_fitsReadings_37 rfl 2 rfl ?_
    refine j_aload_n 39 C dX4_fitsReadings_38 rfl 0 rfl ?_
    refine j_get 42 C uX4 0 rfl rfl 6 (Nat.le_of_ble_eq_true rfl) lX4_83 (v := .int (v 0)) rfl dX4_fitsReadings_39 rfl ?_
    refine j_icmp_ge 45 63 C dX4_fitsReadings_42 rfl rfl (fun c_10 => ?_) (fun c_10 => ?_)
    · replace hq := hq.1 c_10
      refine J.l0 [0, 1, 2] rfl ?_
      exact hK63 _ _ _ hq
    · replace hq := hq.2 c_10
      refine j_aload_n 46 C dX4_fitsReadings_45 rfl 0 rfl ?_
      refine j_get 49 C uX4 0 rfl rfl 5 (Nat.le_of_ble_eq_true rfl) lX4_42 (v := .ref (h 1)) rfl dX4_fitsReadings_46 rfl ?_
      refine j_iload_n 50 C dX4_fitsReadings_49 rfl 2 rfl ?_
      obtain ⟨hi_11, hq⟩ := hq
      refine j_iald 51 C 1 (f := (f 0)) rfl hi_11 dX4_fitsReadings_50 rfl ?_
      refine j_iload_n 52 C dX4_fitsReadings_51 rfl 1 rfl ?_
      refine j_icmp_eq 55 57 C dX4_fitsReadings_52 rfl rfl (fun c_12 => ?_) (fun c_12 => ?_)
      · replace hq := hq.1 c_12
        obtain ⟨x_13, ex_13⟩ : ∃ y : Int32, y = (x2 + (1 : Int32)) := ⟨_, rfl⟩
        replace hq := hq x_13 ex_13
        refine j_iinc 60 C dX4_fitsReadings_57 rfl 2 rfl (v := x_13) (by rw [ex_13]; rfl) (Nat.le_of_ble_eq_true rfl) [1, 2, 0] (lv' := [(0, .ref (h 0)), (1, .int x1), (2, .int x_13)]) rfl ?_
        refine j_goto 37 C dX4_fitsReadings_60 rfl ?_
        refine J.l0 [0, 1, 2] rfl ?_
        exact ih _ _ _ hq
      · replace hq := hq.2 c_12
        refine J.l0 [0, 1, 2] rfl ?_
        exact hK55 _ _ _ hq
def Q_X4_fitsReadings (f : FF) (v : VV) (post : Int32 → FF → VV → Prop) : Prop := ((¬ (v 0) = 0 → (Q_X0_find  (jn f 14 9 33) (jn v 13 2 19) (fun f_4 v_5 => (∀ f_6 : FF, f_6 = mg (mg f 14 9 f_4) 33 4 (sb f_4 9) → (∀ v_7 : VV, v_7 = mg (mg v 13 2 v_5) 19 3 (sb v_5 2) → (Q_X0_lightestTests  (sb f_6 33) (sb v_7 19) (fun r_8 => (Q_X0_weightOf r_8 (sb f_6 33) (sb v_7 19) (fun r_9 => (∃ n_14 : Nat, Q_X4_fitsReadings_L37 r_9 (fun x_15 f_16 v_17 => (post (0 : Int32) f_16 v_17)) (fun x_18 f_19 v_20 => (post (1 : Int32) f_19 v_20)) n_14 (0 : Int32) f_6 v_7)))))))))) ∧ ((v 0) = 0 → (post (1 : Int32) f v)))
set_option maxRecDepth 100000 in
set_option maxHeartbeats 4000000 in
theorem m_X4_fitsReadings {l : Launch} (G : Gx) (h : Nat → Nat) (f : FF) (v : VV) {post : Int32 → FF → VV → Prop} (hq : Q_X4_fitsReadings f v post) : MetI l yX4_fitsReadings (gC yX4_fitsReadings cX4_fitsReadings 3 (some .boolean)) rmX4_fitsReadings G [.ref (h 0)] (wM G h) f v post := by
  refine met_z (own := RX4) (by decide) rfl (Nat.le_of_ble_eq_true rfl) (fun κ hκ C hR => ?_)
  unfold Q_X4_fitsReadings at hq
  subst hκ
  show J κ 0 0 (wM G h f v) 0 [(0, .ref (h 0))] []
  refine j_aload_n 1 C dX4_fitsReadings_0 rfl 0 rfl ?_
  refine j_get 4 C uX4 0 rfl rfl 6 (Nat.le_of_ble_eq_true rfl) lX4_83 (v := .int (v 0)) rfl dX4_fitsReadings_1 rfl ?_
  refine j_if_ne 7 9 C dX4_fitsReadings_4 rfl rfl (fun c_1 => ?_) (fun c_1 => ?_)
  · replace hq := hq.1 c_1
    refine j_aload_n 10 C dX4_fitsReadings_9 rfl 0 rfl ?_
    refine j_get 13 C uX4 0 rfl rfl 4 (Nat.le_of_ble_eq_true rfl) lX4_38 (v := .ref (h 43)) rfl dX4_fitsReadings_10 rfl ?_
    refine j_aload_n 14 C dX4_fitsReadings_13 rfl 0 rfl ?_
    refine j_get 17 C uX4 0 rfl rfl 2 (Nat.le_of_ble_eq_true rfl) lX4_25 (v := .ref (h 21)) rfl dX4_fitsReadings_14 rfl ?_
    refine J.perm pmT ?_
    refine j_callVv 20 C (mA G h f v ++ mN G h f v) (mR G h f v) (fun f' v' => (mA G h f v ++ mN G h f v) ++ (wPK G (jn h 21 10 43) f' v' ++ (mR G h f v))) (As := [.ref (h 21)]) (m_X0_find G (jn h 21 10 43) (jn f 14 9 33) (jn v 13 2 19) hq) oX0_find kX4_281 ⟨rfl, rfl⟩ eX0_find ⟨Nat.le_of_ble_eq_true rfl, Nat.le_of_ble_eq_true rfl⟩ ⟨Nat.zero_le _, Nat.zero_le _⟩ rfl (fun _ _ => rfl) (fun _ _ => rfl) 10 rfl rfl rfl (Nat.le_of_ble_eq_true rfl) dX4_fitsReadings_17 rfl (fun f_4 v_5 hq => ?_)
    obtain ⟨f_6, ef_6⟩ : ∃ y : FF, y = mg (mg f 14 9 f_4) 33 4 (sb f_4 9) := ⟨_, rfl⟩
    obtain ⟨v_7, ev_7⟩ : ∃ y : VV, y = mg (mg v 13 2 v_5) 19 3 (sb v_5 2) := ⟨_, rfl⟩
    replace hq := hq f_6 ef_6 v_7 ev_7
    refine J.perm (ws' := (wM G h f_6 v_7)) (by subst ef_6; subst ev_7; exact pmT' _ _) ?_
    refine j_aload_n 21 C dX4_fitsReadings_20 rfl 0 rfl ?_
    refine j_get 24 C uX4 0 rfl rfl 4 (Nat.le_of_ble_eq_true rfl) lX4_38 (v := .ref (h 43)) rfl dX4_fitsReadings_21 rfl ?_
    refine j_aload_n 25 C dX4_fitsReadings_24 rfl 0 rfl ?_
    refine j_get 28 C uX4 0 rfl rfl 4 (Nat.le_of_ble_eq_true rfl) lX4_38 (v := .ref (h 43)) rfl dX4_fitsReadings_25 rfl ?_
    refine j_callVi_ro 31 C (List.take 43 (wM G h f_6 v_7)) (List.drop 48 (wM G h f_6 v_7)) (As := []) (m_X0_lightestTests G (sb h 43) (sb f_6 33) (sb v_7 19) hq) oX0_lightestTests kX4_191 ⟨rfl, rfl⟩ eX0_lightestTests ⟨Nat.le_of_ble_eq_true rfl, Nat.le_of_ble_eq_true rfl⟩ ⟨Nat.zero_le _, Nat.zero_le _⟩ rfl (fun _ _ => rfl) 0 rfl rfl rfl (Nat.le_of_ble_eq_true rfl) dX4_fitsReadings_28 rfl (fun r_8 hq => ?_)
    refine j_callVi_ro 34 C (List.take 43 (wM G h f_6 v_7)) (List.drop 48 (wM G h f_6 v_7)) (As := [.int r_8]) (m_X0_weightOf G (sb h 43) r_8 (sb f_6 33) (sb v_7 19) hq) oX0_weightOf kX4_194 ⟨rfl, rfl⟩ eX0_weightOf ⟨Nat.le_of_ble_eq_true rfl, Nat.le_of_ble_eq_true rfl⟩ ⟨Nat.zero_le _, Nat.zero_le _⟩ rfl (fun _ _ => rfl) 0 rfl rfl rfl (Nat.le_of_ble_eq_true rfl) dX4_fitsReadings_31 rfl (fun r_9 hq => ?_)
    refine j_istore_n 35 C dX4_fitsReadings_34 rfl (Nat.le_of_ble_eq_true rfl) [1, 0] (lv' := [(0, .ref (h 0)), (1, .int r_9)]) rfl ?_
    refine j_iconst 36 C dX4_fitsReadings_35 rfl ic_0 ?_
    refine j_istore_n 37 C dX4_fitsReadings_36 rfl (Nat.le_of_ble_eq_true rfl) [1, 2, 0] (lv' := [(0, .ref (h 0)), (1, .int r_9), (2, .int (0 : Int32))]) rfl ?_
    obtain ⟨n_14, hq⟩ := hq
    refine t_X4_fitsReadings_L37 C ?_ ?_ n_14 _ _ _ hq
    · intro x_15 f_16 v_17 hq
      refine j_iconst 56 C dX4_fitsReadings_55 rfl ic_0 ?_
      exact hR _ _ _ f_16 v_17 dX4_fitsReadings_56 (Or.inl rfl) hq
    · intro x_18 f_19 v_20 hq
      refine j_iconst 64 C dX4_fitsReadings_63 rfl ic_1 ?_
      exact hR _ _ _ f_19 v_20 dX4_fitsReadings_64 (Or.inr rfl) hq
  · replace hq := hq.2 c_1
    refine j_iconst 8 C dX4_fitsReadings_7 rfl ic_1 ?_
    exact hR _ _ _ f v dX4_fitsReadings_8 (Or.inr rfl) hq
def Q_X4_kinds_L28 (x1 : Int32) (K62 : Int32 → Int32 → FF → VV → Prop) : Nat → Int32 → Int32 → FF → VV → Prop
  | 0, _, _, _, _ => False
  | n + 1, x2, x3, f, v => (((3 : Int32) ≤ x3 → (K62 x2 x3 f v)) ∧ (¬ (3 : Int32) ≤ x3 → (vp_in x1 7 ∧ (∀ f_11 : FF, f_11 = fu f 17 (wr (f 17) x1 x3) → (Q_X4_fitsReadings  f_11 v (fun r_12 f_13 v_14 => (((r_12 = 0 → (∀ x_16 : Int32, x_16 = (x3 + (1 : Int32)) → (Q_X4_kinds_L28 x1 K62 n x2 x_16 f_13 v_14))) ∧ (¬ r_12 = 0 → (∀ x_17 : Int32, x_17 = (x2 ||| ((1 : Int32) <<< (x3 &&& 31))) → (∀ x_18 : Int32, x_18 = (x3 + (1 : Int32)) → (Q_X4_kinds_L28 x1 K62 n x_17 x_18 f_13 v_14))))))))))))
set_option maxRecDepth 100000 in
set_option maxHeartbeats 4000000 in
theorem t_X4_kinds_L28 {κ : Kx} {G : Gx} {h : Nat → Nat} (C : Cx κ G RX4 cX4_kinds rmX4_kinds 4) {x1 : Int32} {K62 : Int32 → Int32 → FF → VV → Prop} (hK62 : ∀ (x2 : Int32) (x3 : Int32) (f : FF) (v : VV), K62 x2 x3 f v → J κ 0 0 (wM G h f v) 62 [(0, .ref (h 0)), (1, .int x1), (2, .int x2), (3, .int x3)] []) : ∀ (n : Nat) (x2 : Int32) (x3 : Int32) (f : FF) (v : VV), Q_X4_kinds_L28 x1 K62 n x2 x3 f v → J κ 0 0 (wM G h f v) 28 [(0, .ref (h 0)), (1, .int x1), (2, .int x2), (3, .int x3)] [] := by
  intro n
  induction n with
  | zero => intro x2 x3 f v hq; exact False.elim hq
  | succ n ih =>
    intro x2 x3 f v hq
    rw [Q_X4_kinds_L28] at hq
    refine j_iload_n 29 C dX4_kinds_28 rfl 3 rfl ?_
    refine j_iconst 30 C dX4_kinds_29 rfl ic_3 ?_
    refine j_icmp_ge 33 62 C dX4_kinds_30 rfl rfl (fun c_9 => ?_) (fun c_9 => ?_)
    · replace hq := hq.1 c_9
      refine J.l0 [0, 1, 2, 3] rfl ?_
      exact hK62 _ _ _ _ hq
    · replace hq := hq.2 c_9
      refine j_aload_n 34 C dX4_kinds_33 rfl 0 rfl ?_
      refine j_get 37 C uX4 0 rfl rfl 2 (Nat.le_of_ble_eq_true rfl) lX4_25 (v := .ref (h 21)) rfl dX4_kinds_34 rfl ?_
      refine j_get 40 C uX1 21 rfl rfl 4 (Nat.le_of_ble_eq_true rfl) lX4_105 (v := .ref (h 25)) rfl dX4_kinds_37 rfl ?_
      refine j_iload_n 41 C dX4_kinds_40 rfl 1 rfl ?_
      refine j_iload_n 42 C dX4_kinds_41 rfl 3 rfl ?_
      obtain ⟨hi_10, hq⟩ := hq
      obtain ⟨f_11, ef_11⟩ : ∃ y : FF, y = fu f 17 (wr (f 17) x1 x3) := ⟨_, rfl⟩
      replace hq := hq f_11 ef_11
      refine j_iast 43 C 25 rfl hi_10 dX4_kinds_42 rfl (ws' := (wM G h f_11 v)) (by subst ef_11; rfl) ?_
      refine j_aload_n 44 C dX4_kinds_43 rfl 0 rfl ?_
      refine j_callVi 47 C [] [] (fun f' v' => (wM G h f' v')) (As := []) (m_X4_fitsReadings G h f_11 v hq) oX4_fitsReadings kX4_223 ⟨rfl, rfl⟩ eX4_fitsReadings ⟨Nat.le_of_ble_eq_true rfl, Nat.le_of_ble_eq_true rfl⟩ ⟨Nat.zero_le _, Nat.zero_le _⟩ (List.append_nil _).symm (fun _ _ => List.append_nil _) (fun _ _ => rfl) 0 rfl rfl rfl (Nat.le_of_ble_eq_true rfl) dX4_kinds_44 rfl (fun r_12 f_13 v_14 hq => ?_)
      refine j_if_eq 50 56 C dX4_kinds_47 rfl rfl (fun c_15 => ?_) (fun c_15 => ?_)
      · replace hq := hq.1 c_15
        obtain ⟨x_16, ex_16⟩ : ∃ y : Int32, y = (x3 + (1 : Int32)) := ⟨_, rfl⟩
        replace hq := hq x_16 ex_16
        refine j_iinc 59 C dX4_kinds_56 rfl 3 rfl (v := x_16) (by rw [ex_16]; rfl) (Nat.le_of_ble_eq_true rfl) [1, 2, 3, 0] (lv' := [(0, .ref (h 0)), (1, .int x1), (2, .int x2), (3, .int x_16)]) rfl ?_
        refine j_goto 28 C dX4_kinds_59 rfl ?_
        refine J.l0 [0, 1, 2, 3] rfl ?_
        exact ih _ _ _ _ hq
      · replace hq := hq.2 c_15
        refine j_iload_n 51 C dX4_kinds_50 rfl 2 rfl ?_
        refine j_iconst 52 C dX4_kinds_51 rfl ic_1 ?_
        refine j_iload_n 53 C dX4_kinds_52 rfl 3 rfl ?_
        refine j_ishl 54 C dX4_kinds_53 rfl ?_
        refine j_ior 55 C dX4_kinds_54 rfl ?_
        refine J.topi (fun x_17 ex_17 => ?_)
        replace hq := hq x_17 ex_17
        refine j_istore_n 56 C dX4_kinds_55 rfl (Nat.le_of_ble_eq_true rfl) [1, 2, 0, 3] (lv' := [(0, .ref (h 0)), (1, .int x1), (2, .int x_17), (3, .int x3)]) rfl ?_
        obtain ⟨x_18, ex_18⟩ : ∃ y : Int32, y = (x3 + (1 : Int32)) := ⟨_, rfl⟩
        replace hq := hq x_18 ex_18
        refine j_iinc 59 C dX4_kinds_56 rfl 3 rfl (v := x_18) (by rw [ex_18]; rfl) (Nat.le_of_ble_eq_true rfl) [1, 2, 3, 0] (lv' := [(0, .ref (h 0)), (1, .int x1), (2, .int x_17), (3, .int x_18)]) rfl ?_
        refine j_goto 28 C dX4_kinds_59 rfl ?_
        refine J.l0 [0, 1, 2, 3] rfl ?_
        exact ih _ _ _ _ hq
def Q_X4_kinds (p0 : Int32) (f : FF) (v : VV) (post : Int32 → FF → VV → Prop) : Prop := Q_X1_hasTest p0 (sb f 5) (sb v 11) (fun r_1 => (((¬ r_1 = 0 → (Q_X1_becomeLike  (jn f 14 9 5) (jn v 13 2 11) (fun f_5 v_6 => (∀ f_7 : FF, f_7 = mg (mg f 14 9 f_5) 5 9 (sb f_5 9) → (∀ v_8 : VV, v_8 = mg (mg v 13 2 v_6) 11 2 (sb v_6 2) → (∃ n_19 : Nat, Q_X4_kinds_L28 p0 (fun x_20 x_21 f_22 v_23 => (post x_20 f_22 v_23)) n_19 (0 : Int32) (0 : Int32) f_7 v_8)))))) ∧ (r_1 = 0 → (post (-1 : Int32) f v)))))
set_option maxRecDepth 100000 in
set_option maxHeartbeats 4000000 in
theorem m_X4_kinds {l : Launch} (G : Gx) (h : Nat → Nat) (p0 : Int32) (f : FF) (v : VV) {post : Int32 → FF → VV → Prop} (hq : Q_X4_kinds p0 f v post) : MetI l yX4_kinds (gC yX4_kinds cX4_kinds 4 (some .int)) rmX4_kinds G [.ref (h 0), .int p0] (wM G h) f v post := by
  refine met_i (own := RX4) (by decide) rfl (Nat.le_of_ble_eq_true rfl) (fun κ hκ C hR => ?_)
  unfold Q_X4_kinds at hq
  subst hκ
  show J κ 0 0 (wM G h f v) 0 [(0, .ref (h 0)), (1, .int p0)] []
  refine j_aload_n 1 C dX4_kinds_0 rfl 0 rfl ?_
  refine j_get 4 C uX4 0 rfl rfl 1 (Nat.le_of_ble_eq_true rfl) lX4_21 (v := .ref (h 11)) rfl dX4_kinds_1 rfl ?_
  refine j_iload_n 5 C dX4_kinds_4 rfl 1 rfl ?_
  refine j_callVi_ro 8 C (List.take 11 (wM G h f v)) (List.drop 21 (wM G h f v)) (As := [.int p0]) (m_X1_hasTest G (sb h 11) p0 (sb f 5) (sb v 11) hq) oX1_hasTest kX4_102 ⟨rfl, rfl⟩ eX1_hasTest ⟨Nat.le_of_ble_eq_true rfl, Nat.le_of_ble_eq_true rfl⟩ ⟨Nat.zero_le _, Nat.zero_le _⟩ rfl (fun _ _ => rfl) 0 rfl rfl rfl (Nat.le_of_ble_eq_true rfl) dX4_kinds_5 rfl (fun r_1 hq => ?_)
  refine j_if_ne 11 13 C dX4_kinds_8 rfl rfl (fun c_2 => ?_) (fun c_2 => ?_)
  · replace hq := hq.1 c_2
    refine j_aload_n 14 C dX4_kinds_13 rfl 0 rfl ?_
    refine j_get 17 C uX4 0 rfl rfl 2 (Nat.le_of_ble_eq_true rfl) lX4_25 (v := .ref (h 21)) rfl dX4_kinds_14 rfl ?_
    refine j_aload_n 18 C dX4_kinds_17 rfl 0 rfl ?_
    refine j_get 21 C uX4 0 rfl rfl 1 (Nat.le_of_ble_eq_true rfl) lX4_21 (v := .ref (h 11)) rfl dX4_kinds_18 rfl ?_
    refine J.perm pmC ?_
    refine j_callVv 24 C (mA G h f v) (mR G h f v ++ mK G h f v) (fun f' v' => (mA G h f v) ++ (wPP G (jn h 21 10 11) f' v' ++ (mR G h f v ++ mK G h f v))) (As := [.ref (h 11)]) (m_X1_becomeLike G (jn h 21 10 11) (jn f 14 9 5) (jn v 13 2 11) hq) oX1_becomeLike kX4_79 ⟨rfl, rfl⟩ eX1_becomeLike ⟨Nat.le_of_ble_eq_true rfl, Nat.le_of_ble_eq_true rfl⟩ ⟨Nat.zero_le _, Nat.zero_le _⟩ rfl (fun _ _ => rfl) (fun _ _ => rfl) 0 rfl rfl rfl (Nat.le_of_ble_eq_true rfl) dX4_kinds_21 rfl (fun f_5 v_6 hq => ?_)
    obtain ⟨f_7, ef_7⟩ : ∃ y : FF, y = mg (mg f 14 9 f_5) 5 9 (sb f_5 9) := ⟨_, rfl⟩
    obtain ⟨v_8, ev_8⟩ : ∃ y : VV, y = mg (mg v 13 2 v_6) 11 2 (sb v_6 2) := ⟨_, rfl⟩
    replace hq := hq f_7 ef_7 v_8 ev_8
    refine J.perm (ws' := (wM G h f_7 v_8)) (by subst ef_7; subst ev_8; exact pmC' _ _) ?_
    refine j_iconst 25 C dX4_kinds_24 rfl ic_0 ?_
    refine j_istore_n 26 C dX4_kinds_25 rfl (Nat.le_of_ble_eq_true rfl) [1, 2, 0] (lv' := [(0, .ref (h 0)), (1, .int p0), (2, .int (0 : Int32))]) rfl ?_
    refine j_iconst 27 C dX4_kinds_26 rfl ic_0 ?_
    refine j_istore_n 28 C dX4_kinds_27 rfl (Nat.le_of_ble_eq_true rfl) [1, 2, 3, 0] (lv' := [(0, .ref (h 0)), (1, .int p0), (2, .int (0 : Int32)), (3, .int (0 : Int32))]) rfl ?_
    obtain ⟨n_19, hq⟩ := hq
    refine t_X4_kinds_L28 C ?_ n_19 _ _ _ _ hq
    · intro x_20 x_21 f_22 v_23 hq
      refine j_iload_n 63 C dX4_kinds_62 rfl 2 rfl ?_
      exact hR _ _ _ f_22 v_23 dX4_kinds_63 hq
  · replace hq := hq.2 c_2
    refine j_iconst 12 C dX4_kinds_11 rfl ic_m1 ?_
    exact hR _ _ _ f v dX4_kinds_12 hq
def Q_X4_ways_L28 (x1 : Int32) (K62 : Int32 → Int32 → FF → VV → Prop) : Nat → Int32 → Int32 → FF → VV → Prop
  | 0, _, _, _, _ => False
  | n + 1, x2, x3, f, v => (((5 : Int32) ≤ x3 → (K62 x2 x3 f v)) ∧ (¬ (5 : Int32) ≤ x3 → (vp_in x1 5 ∧ (∀ f_11 : FF, f_11 = fu f 14 (wr (f 14) x1 x3) → (Q_X4_fitsReadings  f_11 v (fun r_12 f_13 v_14 => (((r_12 = 0 → (∀ x_16 : Int32, x_16 = (x3 + (1 : Int32)) → (Q_X4_ways_L28 x1 K62 n x2 x_16 f_13 v_14))) ∧ (¬ r_12 = 0 → (∀ x_17 : Int32, x_17 = (x2 ||| ((1 : Int32) <<< (x3 &&& 31))) → (∀ x_18 : Int32, x_18 = (x3 + (1 : Int32)) → (Q_X4_ways_L28 x1 K62 n x_17 x_18 f_13 v_14))))))))))))
set_option maxRecDepth 100000 in
set_option maxHeartbeats 4000000 in
theorem t_X4_ways_L28 {κ : Kx} {G : Gx} {h : Nat → Nat} (C : Cx κ G RX4 cX4_ways rmX4_ways 4) {x1 : Int32} {K62 : Int32 → Int32 → FF → VV → Prop} (hK62 : ∀ (x2 : Int32) (x3 : Int32) (f : FF) (v : VV), K62 x2 x3 f v → J κ 0 0 (wM G h f v) 62 [(0, .ref (h 0)), (1, .int x1), (2, .int x2), (3, .int x3)] []) : ∀ (n : Nat) (x2 : Int32) (x3 : Int32) (f : FF) (v : VV), Q_X4_ways_L28 x1 K62 n x2 x3 f v → J κ 0 0 (wM G h f v) 28 [(0, .ref (h 0)), (1, .int x1), (2, .int x2), (3, .int x3)] [] := by
  intro n
  induction n with
  | zero => intro x2 x3 f v hq; exact False.elim hq
  | succ n ih =>
    intro x2 x3 f v hq
    rw [Q_X4_ways_L28] at hq
    refine j_iload_n 29 C dX4_ways_28 rfl 3 rfl ?_
    refine j_iconst 30 C dX4_ways_29 rfl ic_5 ?_
    refine j_icmp_ge 33 62 C dX4_ways_30 rfl rfl (fun c_9 => ?_) (fun c_9 => ?_)
    · replace hq := hq.1 c_9
      refine J.l0 [0, 1, 2, 3] rfl ?_
      exact hK62 _ _ _ _ hq
    · replace hq := hq.2 c_9
      refine j_aload_n 34 C dX4_ways_33 rfl 0 rfl ?_
      refine j_get 37 C uX4 0 rfl rfl 2 (Nat.le_of_ble_eq_true rfl) lX4_25 (v := .ref (h 21)) rfl dX4_ways_34 rfl ?_
      refine j_get 40 C uX1 21 rfl rfl 0 (Nat.le_of_ble_eq_true rfl) lX4_93 (v := .ref (h 22)) rfl dX4_ways_37 rfl ?_
      refine j_iload_n 41 C dX4_ways_40 rfl 1 rfl ?_
      refine j_iload_n 42 C dX4_ways_41 rfl 3 rfl ?_
      obtain ⟨hi_10, hq⟩ := hq
      obtain ⟨f_11, ef_11⟩ : ∃ y : FF, y = fu f 14 (wr (f 14) x1 x3) := ⟨_, rfl⟩
      replace hq := hq f_11 ef_11
      refine j_iast 43 C 22 rfl hi_10 dX4_ways_42 rfl (ws' := (wM G h f_11 v)) (by subst ef_11; rfl) ?_
      refine j_aload_n 44 C dX4_ways_43 rfl 0 rfl ?_
      refine j_callVi 47 C [] [] (fun f' v' => (wM G h f' v')) (As := []) (m_X4_fitsReadings G h f_11 v hq) oX4_fitsReadings kX4_223 ⟨rfl, rfl⟩ eX4_fitsReadings ⟨Nat.le_of_ble_eq_true rfl, Nat.le_of_ble_eq_true rfl⟩ ⟨Nat.zero_le _, Nat.zero_le _⟩ (List.append_nil _).symm (fun _ _ => List.append_nil _) (fun _ _ => rfl) 0 rfl rfl rfl (Nat.le_of_ble_eq_true rfl) dX4_ways_44 rfl (fun r_12 f_13 v_14 hq => ?_)
      refine j_if_eq 50 56 C dX4_ways_47 rfl rfl (fun c_15 => ?_) (fun c_15 => ?_)
      · replace hq := hq.1 c_15
        obtain ⟨x_16, ex_16⟩ : ∃ y : Int32, y = (x3 + (1 : Int32)) := ⟨_, rfl⟩
        replace hq := hq x_16 ex_16
        refine j_iinc 59 C dX4_ways_56 rfl 3 rfl (v := x_16) (by rw [ex_16]; rfl) (Nat.le_of_ble_eq_true rfl) [1, 2, 3, 0] (lv' := [(0, .ref (h 0)), (1, .int x1), (2, .int x2), (3, .int x_16)]) rfl ?_
        refine j_goto 28 C dX4_ways_59 rfl ?_
        refine J.l0 [0, 1, 2, 3] rfl ?_
        exact ih _ _ _ _ hq
      · replace hq := hq.2 c_15
        refine j_iload_n 51 C dX4_ways_50 rfl 2 rfl ?_
        refine j_iconst 52 C dX4_ways_51 rfl ic_1 ?_
        refine j_iload_n 53 C dX4_ways_52 rfl 3 rfl ?_
        refine j_ishl 54 C dX4_ways_53 rfl ?_
        refine j_ior 55 C dX4_ways_54 rfl ?_
        refine J.topi (fun x_17 ex_17 => ?_)
        replace hq := hq x_17 ex_17
        refine j_istore_n 56 C dX4_ways_55 rfl (Nat.le_of_ble_eq_true rfl) [1, 2, 0, 3] (lv' := [(0, .ref (h 0)), (1, .int x1), (2, .int x_17), (3, .int x3)]) rfl ?_
        obtain ⟨x_18, ex_18⟩ : ∃ y : Int32, y = (x3 + (1 : Int32)) := ⟨_, rfl⟩
        replace hq := hq x_18 ex_18
        refine j_iinc 59 C dX4_ways_56 rfl 3 rfl (v := x_18) (by rw [ex_18]; rfl) (Nat.le_of_ble_eq_true rfl) [1, 2, 3, 0] (lv' := [(0, .ref (h 0)), (1, .int x1), (2, .int x_17), (3, .int x_18)]) rfl ?_
        refine j_goto 28 C dX4_ways_59 rfl ?_
        refine J.l0 [0, 1, 2, 3] rfl ?_
        exact ih _ _ _ _ hq
def Q_X4_ways (p0 : Int32) (f : FF) (v : VV) (post : Int32 → FF → VV → Prop) : Prop := Q_X1_hasStep p0 (sb f 5) (sb v 11) (fun r_1 => (((¬ r_1 = 0 → (Q_X1_becomeLike  (jn f 14 9 5) (jn v 13 2 11) (fun f_5 v_6 => (∀ f_7 : FF, f_7 = mg (mg f 14 9 f_5) 5 9 (sb f_5 9) → (∀ v_8 : VV, v_8 = mg (mg v 13 2 v_6) 11 2 (sb v_6 2) → (∃ n_19 : Nat, Q_X4_ways_L28 p0 (fun x_20 x_21 f_22 v_23 => (post x_20 f_22 v_23)) n_19 (0 : Int32) (0 : Int32) f_7 v_8)))))) ∧ (r_1 = 0 → (post (-1 : Int32) f v)))))
set_option maxRecDepth 100000 in
set_option maxHeartbeats 4000000 in
theorem m_X4_ways {l : Launch} (G : Gx) (h : Nat → Nat) (p0 : Int32) (f : FF) (v : VV) {post : Int32 → FF → VV → Prop} (hq : Q_X4_ways p0 f v post) : MetI l yX4_ways (gC yX4_ways cX4_ways 4 (some .int)) rmX4_ways G [.ref (h 0), .int p0] (wM G h) f v post := by
  refine met_i (own := RX4) (by decide) rfl (Nat.le_of_ble_eq_true rfl) (fun κ hκ C hR => ?_)
  unfold Q_X4_ways at hq
  subst hκ
  show J κ 0 0 (wM G h f v) 0 [(0, .ref (h 0)), (1, .int p0)] []
  refine j_aload_n 1 C dX4_ways_0 rfl 0 rfl ?_
  refine j_get 4 C uX4 0 rfl rfl 1 (Nat.le_of_ble_eq_true rfl) lX4_21 (v := .ref (h 11)) rfl dX4_ways_1 rfl ?_
  refine j_iload_n 5 C dX4_ways_4 rfl 1 rfl ?_
  refine j_callVi_ro 8 C (List.take 11 (wM G h f v)) (List.drop 21 (wM G h f v)) (As := [.int p0]) (m_X1_hasStep G (sb h 11) p0 (sb f 5) (sb v 11) hq) oX1_hasStep kX4_90 ⟨rfl, rfl⟩ eX1_hasStep ⟨Nat.le_of_ble_eq_true rfl, Nat.le_of_ble_eq_true rfl⟩ ⟨Nat.zero_le _, Nat.zero_le _⟩ rfl (fun _ _ => rfl) 0 rfl rfl rfl (Nat.le_of_ble_eq_true rfl) dX4_ways_5 rfl (fun r_1 hq => ?_)
  refine j_if_ne 11 13 C dX4_ways_8 rfl rfl (fun c_2 => ?_) (fun c_2 => ?_)
  · replace hq := hq.1 c_2
    refine j_aload_n 14 C dX4_ways_13 rfl 0 rfl ?_
    refine j_get 17 C uX4 0 rfl rfl 2 (Nat.le_of_ble_eq_true rfl) lX4_25 (v := .ref (h 21)) rfl dX4_ways_14 rfl ?_
    refine j_aload_n 18 C dX4_ways_17 rfl 0 rfl ?_
    refine j_get 21 C uX4 0 rfl rfl 1 (Nat.le_of_ble_eq_true rfl) lX4_21 (v := .ref (h 11)) rfl dX4_ways_18 rfl ?_
    refine J.perm pmC ?_
    refine j_callVv 24 C (mA G h f v) (mR G h f v ++ mK G h f v) (fun f' v' => (mA G h f v) ++ (wPP G (jn h 21 10 11) f' v' ++ (mR G h f v ++ mK G h f v))) (As := [.ref (h 11)]) (m_X1_becomeLike G (jn h 21 10 11) (jn f 14 9 5) (jn v 13 2 11) hq) oX1_becomeLike kX4_79 ⟨rfl, rfl⟩ eX1_becomeLike ⟨Nat.le_of_ble_eq_true rfl, Nat.le_of_ble_eq_true rfl⟩ ⟨Nat.zero_le _, Nat.zero_le _⟩ rfl (fun _ _ => rfl) (fun _ _ => rfl) 0 rfl rfl rfl (Nat.le_of_ble_eq_true rfl) dX4_ways_21 rfl (fun f_5 v_6 hq => ?_)
    obtain ⟨f_7, ef_7⟩ : ∃ y : FF, y = mg (mg f 14 9 f_5) 5 9 (sb f_5 9) := ⟨_, rfl⟩
    obtain ⟨v_8, ev_8⟩ : ∃ y : VV, y = mg (mg v 13 2 v_6) 11 2 (sb v_6 2) := ⟨_, rfl⟩
    replace hq := hq f_7 ef_7 v_8 ev_8
    refine J.perm (ws' := (wM G h f_7 v_8)) (by subst ef_7; subst ev_8; exact pmC' _ _) ?_
    refine j_iconst 25 C dX4_ways_24 rfl ic_0 ?_
    refine j_istore_n 26 C dX4_ways_25 rfl (Nat.le_of_ble_eq_true rfl) [1, 2, 0] (lv' := [(0, .ref (h 0)), (1, .int p0), (2, .int (0 : Int32))]) rfl ?_
    refine j_iconst 27 C dX4_ways_26 rfl ic_0 ?_
    refine j_istore_n 28 C dX4_ways_27 rfl (Nat.le_of_ble_eq_true rfl) [1, 2, 3, 0] (lv' := [(0, .ref (h 0)), (1, .int p0), (2, .int (0 : Int32)), (3, .int (0 : Int32))]) rfl ?_
    obtain ⟨n_19, hq⟩ := hq
    refine t_X4_ways_L28 C ?_ n_19 _ _ _ _ hq
    · intro x_20 x_21 f_22 v_23 hq
      refine j_iload_n 63 C dX4_ways_62 rfl 2 rfl ?_
      exact hR _ _ _ f_22 v_23 dX4_ways_63 hq
  · replace hq := hq.2 c_2
    refine j_iconst 12 C dX4_ways_11 rfl ic_m1 ?_
    exact hR _ _ _ f v dX4_ways_12 hq
def Q_X4_odds (p0 : Int32) (p1 : Int32) (f : FF) (v : VV) (post : Int64 → FF → VV → Prop) : Prop := Q_X1_hasMutant p0 (sb f 5) (sb v 11) (fun r_1 => (((r_1 = 0 → (post (-9223372036854775808 : Int64) f v)) ∧ (¬ r_1 = 0 → (Q_X4_isWithin p1 (0 : Int32) (1 : Int32) (fun r_3 => (((¬ r_3 = 0 → (Q_X1_differences p0 (sb f 5) (sb v 11) (fun r_5 f_6 v_7 => (∀ f_8 : FF, f_8 = mg f 5 9 f_6 → (∀ v_9 : VV, v_9 = mg v 11 2 v_7 → (Q_X4_share r_5 (100 : Int32) p1 (fun r_10 => (post r_10 f_8 v_9)))))))) ∧ (r_3 = 0 → (post (-9223372036854775808 : Int64) f v))))))))))
set_option maxRecDepth 100000 in
set_option maxHeartbeats 4000000 in
theorem m_X4_odds {l : Launch} (G : Gx) (h : Nat → Nat) (p0 : Int32) (p1 : Int32) (f : FF) (v : VV) {post : Int64 → FF → VV → Prop} (hq : Q_X4_odds p0 p1 f v post) : MetL l yX4_odds (gC yX4_odds cX4_odds 3 (some .long)) rmX4_odds G [.ref (h 0), .int p0, .int p1] (wM G h) f v post := by
  refine met_l (own := RX4) (by decide) rfl (Nat.le_of_ble_eq_true rfl) (fun κ hκ C hR => ?_)
  unfold Q_X4_odds at hq
  subst hκ
  show J κ 0 0 (wM G h f v) 0 [(0, .ref (h 0)), (1, .int p0), (2, .int p1)] []
  refine j_aload_n 1 C dX4_odds_0 rfl 0 rfl ?_
  refine j_get 4 C uX4 0 rfl rfl 1 (Nat.le_of_ble_eq_true rfl) lX4_21 (v := .ref (h 11)) rfl dX4_odds_1 rfl ?_
  refine j_iload_n 5 C dX4_odds_4 rfl 1 rfl ?_
  refine j_callVi_ro 8 C (List.take 11 (wM G h f v)) (List.drop 21 (wM G h f v)) (As := [.int p0]) (m_X1_hasMutant G (sb h 11) p0 (sb f 5) (sb v 11) hq) oX1_hasMutant kX4_140 ⟨rfl, rfl⟩ eX1_hasMutant ⟨Nat.le_of_ble_eq_true rfl, Nat.le_of_ble_eq_true rfl⟩ ⟨Nat.zero_le _, Nat.zero_le _⟩ rfl (fun _ _ => rfl) 0 rfl rfl rfl (Nat.le_of_ble_eq_true rfl) dX4_odds_5 rfl (fun r_1 hq => ?_)
  refine j_if_eq 11 20 C dX4_odds_8 rfl rfl (fun c_2 => ?_) (fun c_2 => ?_)
  · replace hq := hq.1 c_2
    refine j_ldc2_w 23 C dX4_odds_20 rfl kX4_211 ?_
    exact hR _ _ _ f v dX4_odds_23 hq
  · replace hq := hq.2 c_2
    refine j_iload_n 12 C dX4_odds_11 rfl 2 rfl ?_
    refine j_iconst 13 C dX4_odds_12 rfl ic_0 ?_
    refine j_iconst 14 C dX4_odds_13 rfl ic_1 ?_
    refine j_callSi 17 C [] (wM G h f v) (fun _ _ => (wM G h f v)) (As := [.int p1, .int (0 : Int32), .int (1 : Int32)]) (m_X4_isWithin G p1 (0 : Int32) (1 : Int32) hq) oX4_isWithin kX4_54 ⟨rfl, rfl⟩ eX4_isWithin ⟨Nat.le_of_ble_eq_true rfl, Nat.le_of_ble_eq_true rfl⟩ ⟨Nat.zero_le _, Nat.zero_le _⟩ rfl (fun _ _ => rfl) (fun _ _ => rfl) rfl (Nat.le_of_ble_eq_true rfl) dX4_odds_14 rfl (fun r_3 _ _ hq => ?_)
    refine j_if_ne 20 24 C dX4_odds_17 rfl rfl (fun c_4 => ?_) (fun c_4 => ?_)
    · replace hq := hq.1 c_4
      refine j_aload_n 25 C dX4_odds_24 rfl 0 rfl ?_
      refine j_get 28 C uX4 0 rfl rfl 1 (Nat.le_of_ble_eq_true rfl) lX4_21 (v := .ref (h 11)) rfl dX4_odds_25 rfl ?_
      refine j_iload_n 29 C dX4_odds_28 rfl 1 rfl ?_
      refine j_callVi 32 C (List.take 11 (wM G h f v)) (List.drop 21 (wM G h f v)) (fun f' v' => (wM G h (mg f 5 9 f') (mg v 11 2 v'))) (As := [.int p0]) (m_X1_differences G (sb h 11) p0 (sb f 5) (sb v 11) hq) oX1_differences kX4_156 ⟨rfl, rfl⟩ eX1_differences ⟨Nat.le_of_ble_eq_true rfl, Nat.le_of_ble_eq_true rfl⟩ ⟨Nat.zero_le _, Nat.zero_le _⟩ rfl (fun _ _ => rfl) (fun _ _ => rfl) 0 rfl rfl rfl (Nat.le_of_ble_eq_true rfl) dX4_odds_29 rfl (fun r_5 f_6 v_7 hq => ?_)
      obtain ⟨f_8, ef_8⟩ : ∃ y : FF, y = mg f 5 9 f_6 := ⟨_, rfl⟩
      obtain ⟨v_9, ev_9⟩ : ∃ y : VV, y = mg v 11 2 v_7 := ⟨_, rfl⟩
      replace hq := hq f_8 ef_8 v_9 ev_9
      refine J.w0 (ws' := (wM G h f_8 v_9)) (by subst ef_8; subst ev_9; rfl) ?_
      refine j_bipush 34 C dX4_odds_32 rfl bc_100 ?_
      refine j_iload_n 35 C dX4_odds_34 rfl 2 rfl ?_
      refine j_callSl 38 C [] (wM G h f_8 v_9) (fun _ _ => (wM G h f_8 v_9)) (As := [.int r_5, .int (100 : Int32), .int p1]) (m_X4_share G r_5 (100 : Int32) p1 hq) oX4_share kX4_219 ⟨rfl, rfl⟩ eX4_share ⟨Nat.le_of_ble_eq_true rfl, Nat.le_of_ble_eq_true rfl⟩ ⟨Nat.zero_le _, Nat.zero_le _⟩ rfl (fun _ _ => rfl) (fun _ _ => rfl) rfl (Nat.le_of_ble_eq_true rfl) dX4_odds_35 rfl (fun r_10 _ _ hq => ?_)
      exact hR _ _ _ f_8 v_9 dX4_odds_38 hq
    · replace hq := hq.2 c_4
      refine j_ldc2_w 23 C dX4_odds_20 rfl kX4_211 ?_
      exact hR _ _ _ f v dX4_odds_23 hq
def Q_X4_sheet (p0 : Int32) (p1 : Int32) (p2 : Int32) (f : FF) (v : VV) (post : Int32 → FF → VV → Prop) : Prop := ∀ v_1 : VV, v_1 = fu v 2 (0 : Int32) → (Q_X4_isSheet p0 (fun r_2 => (((¬ r_2 = 0 → (Q_X4_isWithin p1 (0 : Int32) (2 : Int32) (fun r_4 => (((r_4 = 0 → (post (-2 : Int32) f v_1)) ∧ (¬ r_4 = 0 → (((p2 ≤ (60 : Int32) → (((0 ≤ p2 → (vp_in p0 4 ∧ (Q_X2_renew p1 p2 (sb f (1 + (p0).toNatClampNeg)) (sb v_1 (3 + 2 * (p0).toNatClampNeg)) (fun f_10 v_11 => (∀ f_12 : FF, f_12 = mg f (1 + (p0).toNatClampNeg) 1 f_10 → (∀ v_13 : VV, v_13 = mg v_1 (3 + 2 * (p0).toNatClampNeg) 2 v_11 → (post (1 : Int32) f_12 v_13))))))) ∧ (¬ 0 ≤ p2 → (Q_X4_faulted (4 : Int32) f v_1 (fun r_14 f_15 v_16 => (post r_14 f_15 v_16))))))) ∧ (¬ p2 ≤ (60 : Int32) → (post (-2 : Int32) f v_1)))))))))) ∧ (r_2 = 0 → (post (-1 : Int32) f v_1))))))
set_option maxRecDepth 100000 in
set_option maxHeartbeats 4000000 in
theorem m_X4_sheet {l : Launch} (G : Gx) (h : Nat → Nat) (p0 : Int32) (p1 : Int32) (p2 : Int32) (f : FF) (v : VV) {post : Int32 → FF → VV → Prop} (hq : Q_X4_sheet p0 p1 p2 f v post) : MetI l yX4_sheet (gC yX4_sheet cX4_sheet 4 (some .int)) rmX4_sheet G [.ref (h 0), .int p0, .int p1, .int p2] (wM G h) f v post := by
  refine met_i (own := RX4) (by decide) rfl (Nat.le_of_ble_eq_true rfl) (fun κ hκ C hR => ?_)
  unfold Q_X4_sheet at hq
  subst hκ
  show J κ 0 0 (wM G h f v) 0 [(0, .ref (h 0)), (1, .int p0), (2, .int p1), (3, .int p2)] []
  refine j_aload_n 1 C dX4_sheet_0 rfl 0 rfl ?_
  refine j_iconst 2 C dX4_sheet_1 rfl ic_0 ?_
  obtain ⟨v_1, ev_1⟩ : ∃ y : VV, y = fu v 2 (0 : Int32) := ⟨_, rfl⟩
  replace hq := hq v_1 ev_1
  refine j_put 5 C uX4 tyX4 tyX4_ok nmX4 0 rfl rfl 8 (Nat.le_of_ble_eq_true rfl) lX4_46 rfl rfl (Nat.le_of_ble_eq_true rfl) dX4_sheet_2 rfl (ws' := (wM G h f v_1)) (by subst ev_1; rfl) ?_
  refine j_iload_n 6 C dX4_sheet_5 rfl 1 rfl ?_
  refine j_callSi 9 C [] (wM G h f v_1) (fun _ _ => (wM G h f v_1)) (As := [.int p0]) (m_X4_isSheet G p0 hq) oX4_isSheet kX4_50 ⟨rfl, rfl⟩ eX4_isSheet ⟨Nat.le_of_ble_eq_true rfl, Nat.le_of_ble_eq_true rfl⟩ ⟨Nat.zero_le _, Nat.zero_le _⟩ rfl (fun _ _ => rfl) (fun _ _ => rfl) rfl (Nat.le_of_ble_eq_true rfl) dX4_sheet_6 rfl (fun r_2 _ _ hq => ?_)
  refine j_if_ne 12 14 C dX4_sheet_9 rfl rfl (fun c_3 => ?_) (fun c_3 => ?_)
  · replace hq := hq.1 c_3
    refine j_iload_n 15 C dX4_sheet_14 rfl 2 rfl ?_
    refine j_iconst 16 C dX4_sheet_15 rfl ic_0 ?_
    refine j_iconst 17 C dX4_sheet_16 rfl ic_2 ?_
    refine j_callSi 20 C [] (wM G h f v_1) (fun _ _ => (wM G h f v_1)) (As := [.int p1, .int (0 : Int32), .int (2 : Int32)]) (m_X4_isWithin G p1 (0 : Int32) (2 : Int32) hq) oX4_isWithin kX4_54 ⟨rfl, rfl⟩ eX4_isWithin ⟨Nat.le_of_ble_eq_true rfl, Nat.le_of_ble_eq_true rfl⟩ ⟨Nat.zero_le _, Nat.zero_le _⟩ rfl (fun _ _ => rfl) (fun _ _ => rfl) rfl (Nat.le_of_ble_eq_true rfl) dX4_sheet_17 rfl (fun r_4 _ _ hq => ?_)
    refine j_if_eq 23 29 C dX4_sheet_20 rfl rfl (fun c_5 => ?_) (fun c_5 => ?_)
    · replace hq := hq.1 c_5
      refine j_bipush 31 C dX4_sheet_29 rfl bc_m2 ?_
      exact hR _ _ _ f v_1 dX4_sheet_31 hq
    · replace hq := hq.2 c_5
      refine j_iload_n 24 C dX4_sheet_23 rfl 3 rfl ?_
      refine j_bipush 26 C dX4_sheet_24 rfl bc_60 ?_
      refine j_icmp_le 29 32 C dX4_sheet_26 rfl rfl (fun c_6 => ?_) (fun c_6 => ?_)
      · replace hq := hq.1 c_6
        refine j_iload_n 33 C dX4_sheet_32 rfl 3 rfl ?_
        refine j_if_ge 36 42 C dX4_sheet_33 rfl rfl (fun c_7 => ?_) (fun c_7 => ?_)
        · replace hq := hq.1 c_7
          refine j_aload_n 43 C dX4_sheet_42 rfl 0 rfl ?_
          refine j_get 46 C uX4 0 rfl rfl 0 (Nat.le_of_ble_eq_true rfl) lX4_13 (v := .ref (h 2)) rfl dX4_sheet_43 rfl ?_
          refine j_iload_n 47 C dX4_sheet_46 rfl 1 rfl ?_
          obtain ⟨hk_8, hq⟩ := hq
          refine j_aald 48 C 2 rfl hk_8 (z := h (3 + 2 * (p0).toNatClampNeg)) rfl dX4_sheet_47 rfl ?_
          refine j_iload_n 49 C dX4_sheet_48 rfl 2 rfl ?_
          refine j_iload_n 50 C dX4_sheet_49 rfl 3 rfl ?_
          refine j_callVv 53 C (List.take (3 + 2 * (p0).toNatClampNeg) (wM G h f v_1)) (List.drop (3 + 2 * (p0).toNatClampNeg + 2) (wM G h f v_1)) (fun f' v' => (wM G h (mg f (1 + (p0).toNatClampNeg) 1 f') (mg v_1 (3 + 2 * (p0).toNatClampNeg) 2 v'))) (As := [.int p1, .int p2]) (m_X2_renew G (sb h (3 + 2 * (p0).toNatClampNeg)) p1 p2 (sb f (1 + (p0).toNatClampNeg)) (sb v_1 (3 + 2 * (p0).toNatClampNeg)) hq) oX2_renew kX4_226 ⟨rfl, rfl⟩ eX2_renew ⟨Nat.le_of_ble_eq_true rfl, Nat.le_of_ble_eq_true rfl⟩ ⟨Nat.zero_le _, Nat.zero_le _⟩ (shS (vp_lt4 hk_8)) (shM (vp_lt4 hk_8)) (fun _ _ => rfl) 0 rfl rfl rfl (Nat.le_of_ble_eq_true rfl) dX4_sheet_50 rfl (fun f_10 v_11 hq => ?_)
          obtain ⟨f_12, ef_12⟩ : ∃ y : FF, y = mg f (1 + (p0).toNatClampNeg) 1 f_10 := ⟨_, rfl⟩
          obtain ⟨v_13, ev_13⟩ : ∃ y : VV, y = mg v_1 (3 + 2 * (p0).toNatClampNeg) 2 v_11 := ⟨_, rfl⟩
          replace hq := hq f_12 ef_12 v_13 ev_13
          refine J.w0 (ws' := (wM G h f_12 v_13)) (by subst ef_12; subst ev_13; rfl) ?_
          refine j_iconst 54 C dX4_sheet_53 rfl ic_1 ?_
          exact hR _ _ _ f_12 v_13 dX4_sheet_54 hq
        · replace hq := hq.2 c_7
          refine j_aload_n 37 C dX4_sheet_36 rfl 0 rfl ?_
          refine j_iconst 38 C dX4_sheet_37 rfl ic_4 ?_
          refine j_callVi 41 C [] [] (fun f' v' => (wM G h f' v')) (As := [.int (4 : Int32)]) (m_X4_faulted G h (4 : Int32) f v_1 hq) oX4_faulted kX4_66 ⟨rfl, rfl⟩ eX4_faulted ⟨Nat.le_of_ble_eq_true rfl, Nat.le_of_ble_eq_true rfl⟩ ⟨Nat.zero_le _, Nat.zero_le _⟩ (List.append_nil _).symm (fun _ _ => List.append_nil _) (fun _ _ => rfl) 0 rfl rfl rfl (Nat.le_of_ble_eq_true rfl) dX4_sheet_38 rfl (fun r_14 f_15 v_16 hq => ?_)
          exact hR _ _ _ f_15 v_16 dX4_sheet_41 hq
      · replace hq := hq.2 c_6
        refine j_bipush 31 C dX4_sheet_29 rfl bc_m2 ?_
        exact hR _ _ _ f v_1 dX4_sheet_31 hq
  · replace hq := hq.2 c_3
    refine j_iconst 13 C dX4_sheet_12 rfl ic_m1 ?_
    exact hR _ _ _ f v_1 dX4_sheet_13 hq
def Q_X4_lose (p0 : Int32) (f : FF) (v : VV) (post : Int32 → FF → VV → Prop) : Prop := Q_X4_isSheet p0 (fun r_1 => (((¬ r_1 = 0 → (vp_in p0 4 ∧ (Q_X2_isNothing  (sb f (1 + (p0).toNatClampNeg)) (sb v (3 + 2 * (p0).toNatClampNeg)) (fun r_4 => (((¬ r_4 = 0 → (Q_X4_oneIf (0 : Int32) (fun r_6 => (vp_in p0 4 ∧ (Q_X2_becomeNothing  (sb f (1 + (p0).toNatClampNeg)) (sb v (3 + 2 * (p0).toNatClampNeg)) (fun f_9 v_10 => (∀ f_11 : FF, f_11 = mg f (1 + (p0).toNatClampNeg) 1 f_9 → (∀ v_12 : VV, v_12 = mg v (3 + 2 * (p0).toNatClampNeg) 2 v_10 → (post r_6 f_11 v_12))))))))) ∧ (r_4 = 0 → (Q_X4_oneIf (1 : Int32) (fun r_13 => (vp_in p0 4 ∧ (Q_X2_becomeNothing  (sb f (1 + (p0).toNatClampNeg)) (sb v (3 + 2 * (p0).toNatClampNeg)) (fun f_16 v_17 => (∀ f_18 : FF, f_18 = mg f (1 + (p0).toNatClampNeg) 1 f_16 → (∀ v_19 : VV, v_19 = mg v (3 + 2 * (p0).toNatClampNeg) 2 v_17 → (post r_13 f_18 v_19))))))))))))))) ∧ (r_1 = 0 → (post (-1 : Int32) f v)))))
set_option maxRecDepth 100000 in
set_option maxHeartbeats 4000000 in
theorem m_X4_lose {l : Launch} (G : Gx) (h : Nat → Nat) (p0 : Int32) (f : FF) (v : VV) {post : Int32 → FF → VV → Prop} (hq : Q_X4_lose p0 f v post) : MetI l yX4_lose (gC yX4_lose cX4_lose 3 (some .int)) rmX4_lose G [.ref (h 0), .int p0] (wM G h) f v post := by
  refine met_i (own := RX4) (by decide) rfl (Nat.le_of_ble_eq_true rfl) (fun κ hκ C hR => ?_)
  unfold Q_X4_lose at hq
  subst hκ
  show J κ 0 0 (wM G h f v) 0 [(0, .ref (h 0)), (1, .int p0)] []
  refine j_iload_n 1 C dX4_lose_0 rfl 1 rfl ?_
  refine j_callSi 4 C [] (wM G h f v) (fun _ _ => (wM G h f v)) (As := [.int p0]) (m_X4_isSheet G p0 hq) oX4_isSheet kX4_50 ⟨rfl, rfl⟩ eX4_isSheet ⟨Nat.le_of_ble_eq_true rfl, Nat.le_of_ble_eq_true rfl⟩ ⟨Nat.zero_le _, Nat.zero_le _⟩ rfl (fun _ _ => rfl) (fun _ _ => rfl) rfl (Nat.le_of_ble_eq_true rfl) dX4_lose_1 rfl (fun r_1 _ _ hq => ?_)
  refine j_if_ne 7 9 C dX4_lose_4 rfl rfl (fun c_2 => ?_) (fun c_2 => ?_)
  · replace hq := hq.1 c_2
    refine j_aload_n 10 C dX4_lose_9 rfl 0 rfl ?_
    refine j_get 13 C uX4 0 rfl rfl 0 (Nat.le_of_ble_eq_true rfl) lX4_13 (v := .ref (h 2)) rfl dX4_lose_10 rfl ?_
    refine j_iload_n 14 C dX4_lose_13 rfl 1 rfl ?_
    obtain ⟨hk_3, hq⟩ := hq
    refine j_aald 15 C 2 rfl hk_3 (z := h (3 + 2 * (p0).toNatClampNeg)) rfl dX4_lose_14 rfl ?_
    refine j_callVi_ro 18 C (List.take (3 + 2 * (p0).toNatClampNeg) (wM G h f v)) (List.drop (3 + 2 * (p0).toNatClampNeg + 2) (wM G h f v)) (As := []) (m_X2_isNothing G (sb h (3 + 2 * (p0).toNatClampNeg)) (sb f (1 + (p0).toNatClampNeg)) (sb v (3 + 2 * (p0).toNatClampNeg)) hq) oX2_isNothing kX4_230 ⟨rfl, rfl⟩ eX2_isNothing ⟨Nat.le_of_ble_eq_true rfl, Nat.le_of_ble_eq_true rfl⟩ ⟨Nat.zero_le _, Nat.zero_le _⟩ (shS (vp_lt4 hk_3)) (fun _ _ => rfl) 0 rfl rfl rfl (Nat.le_of_ble_eq_true rfl) dX4_lose_15 rfl (fun r_4 hq => ?_)
    refine j_if_ne 21 25 C dX4_lose_18 rfl rfl (fun c_5 => ?_) (fun c_5 => ?_)
    · replace hq := hq.1 c_5
      refine j_iconst 26 C dX4_lose_25 rfl ic_0 ?_
      refine j_callSi 29 C [] (wM G h f v) (fun _ _ => (wM G h f v)) (As := [.int (0 : Int32)]) (m_X4_oneIf G (0 : Int32) hq) oX4_oneIf kX4_159 ⟨rfl, rfl⟩ eX4_oneIf ⟨Nat.le_of_ble_eq_true rfl, Nat.le_of_ble_eq_true rfl⟩ ⟨Nat.zero_le _, Nat.zero_le _⟩ rfl (fun _ _ => rfl) (fun _ _ => rfl) rfl (Nat.le_of_ble_eq_true rfl) dX4_lose_26 rfl (fun r_6 _ _ hq => ?_)
      refine j_istore_n 30 C dX4_lose_29 rfl (Nat.le_of_ble_eq_true rfl) [1, 2, 0] (lv' := [(0, .ref (h 0)), (1, .int p0), (2, .int r_6)]) rfl ?_
      refine j_aload_n 31 C dX4_lose_30 rfl 0 rfl ?_
      refine j_get 34 C uX4 0 rfl rfl 0 (Nat.le_of_ble_eq_true rfl) lX4_13 (v := .ref (h 2)) rfl dX4_lose_31 rfl ?_
      refine j_iload_n 35 C dX4_lose_34 rfl 1 rfl ?_
      obtain ⟨hk_7, hq⟩ := hq
      refine j_aald 36 C 2 rfl hk_7 (z := h (3 + 2 * (p0).toNatClampNeg)) rfl dX4_lose_35 rfl ?_
      refine j_callVv 39 C (List.take (3 + 2 * (p0).toNatClampNeg) (wM G h f v)) (List.drop (3 + 2 * (p0).toNatClampNeg + 2) (wM G h f v)) (fun f' v' => (wM G h (mg f (1 + (p0).toNatClampNeg) 1 f') (mg v (3 + 2 * (p0).toNatClampNeg) 2 v'))) (As := []) (m_X2_becomeNothing G (sb h (3 + 2 * (p0).toNatClampNeg)) (sb f (1 + (p0).toNatClampNeg)) (sb v (3 + 2 * (p0).toNatClampNeg)) hq) oX2_becomeNothing kX4_233 ⟨rfl, rfl⟩ eX2_becomeNothing ⟨Nat.le_of_ble_eq_true rfl, Nat.le_of_ble_eq_true rfl⟩ ⟨Nat.zero_le _, Nat.zero_le _⟩ (shS (vp_lt4 hk_7)) (shM (vp_lt4 hk_7)) (fun _ _ => rfl) 0 rfl rfl rfl (Nat.le_of_ble_eq_true rfl) dX4_lose_36 rfl (fun f_9 v_10 hq => ?_)
      obtain ⟨f_11, ef_11⟩ : ∃ y : FF, y = mg f (1 + (p0).toNatClampNeg) 1 f_9 := ⟨_, rfl⟩
      obtain ⟨v_12, ev_12⟩ : ∃ y : VV, y = mg v (3 + 2 * (p0).toNatClampNeg) 2 v_10 := ⟨_, rfl⟩
      replace hq := hq f_11 ef_11 v_12 ev_12
      refine J.w0 (ws' := (wM G h f_11 v_12)) (by subst ef_11; subst ev_12; rfl) ?_
      refine j_iload_n 40 C dX4_lose_39 rfl 2 rfl ?_
      exact hR _ _ _ f_11 v_12 dX4_lose_40 hq
    · replace hq := hq.2 c_5
      refine j_iconst 22 C dX4_lose_21 rfl ic_1 ?_
      refine j_goto 26 C dX4_lose_22 rfl ?_
      refine j_callSi 29 C [] (wM G h f v) (fun _ _ => (wM G h f v)) (As := [.int (1 : Int32)]) (m_X4_oneIf G (1 : Int32) hq) oX4_oneIf kX4_159 ⟨rfl, rfl⟩ eX4_oneIf ⟨Nat.le_of_ble_eq_true rfl, Nat.le_of_ble_eq_true rfl⟩ ⟨Nat.zero_le _, Nat.zero_le _⟩ rfl (fun _ _ => rfl) (fun _ _ => rfl) rfl (Nat.le_of_ble_eq_true rfl) dX4_lose_26 rfl (fun r_13 _ _ hq => ?_)
      refine j_istore_n 30 C dX4_lose_29 rfl (Nat.le_of_ble_eq_true rfl) [1, 2, 0] (lv' := [(0, .ref (h 0)), (1, .int p0), (2, .int r_13)]) rfl ?_
      refine j_aload_n 31 C dX4_lose_30 rfl 0 rfl ?_
      refine j_get 34 C uX4 0 rfl rfl 0 (Nat.le_of_ble_eq_true rfl) lX4_13 (v := .ref (h 2)) rfl dX4_lose_31 rfl ?_
      refine j_iload_n 35 C dX4_lose_34 rfl 1 rfl ?_
      obtain ⟨hk_14, hq⟩ := hq
      refine j_aald 36 C 2 rfl hk_14 (z := h (3 + 2 * (p0).toNatClampNeg)) rfl dX4_lose_35 rfl ?_
      refine j_callVv 39 C (List.take (3 + 2 * (p0).toNatClampNeg) (wM G h f v)) (List.drop (3 + 2 * (p0).toNatClampNeg + 2) (wM G h f v)) (fun f' v' => (wM G h (mg f (1 + (p0).toNatClampNeg) 1 f') (mg v (3 + 2 * (p0).toNatClampNeg) 2 v'))) (As := []) (m_X2_becomeNothing G (sb h (3 + 2 * (p0).toNatClampNeg)) (sb f (1 + (p0).toNatClampNeg)) (sb v (3 + 2 * (p0).toNatClampNeg)) hq) oX2_becomeNothing kX4_233 ⟨rfl, rfl⟩ eX2_becomeNothing ⟨Nat.le_of_ble_eq_true rfl, Nat.le_of_ble_eq_true rfl⟩ ⟨Nat.zero_le _, Nat.zero_le _⟩ (shS (vp_lt4 hk_14)) (shM (vp_lt4 hk_14)) (fun _ _ => rfl) 0 rfl rfl rfl (Nat.le_of_ble_eq_true rfl) dX4_lose_36 rfl (fun f_16 v_17 hq => ?_)
      obtain ⟨f_18, ef_18⟩ : ∃ y : FF, y = mg f (1 + (p0).toNatClampNeg) 1 f_16 := ⟨_, rfl⟩
      obtain ⟨v_19, ev_19⟩ : ∃ y : VV, y = mg v (3 + 2 * (p0).toNatClampNeg) 2 v_17 := ⟨_, rfl⟩
      replace hq := hq f_18 ef_18 v_19 ev_19
      refine J.w0 (ws' := (wM G h f_18 v_19)) (by subst ef_18; subst ev_19; rfl) ?_
      refine j_iload_n 40 C dX4_lose_39 rfl 2 rfl ?_
      exact hR _ _ _ f_18 v_19 dX4_lose_40 hq
  · replace hq := hq.2 c_2
    refine j_iconst 8 C dX4_lose_7 rfl ic_m1 ?_
    exact hR _ _ _ f v dX4_lose_8 hq
def Q_X4_put (p0 : Int32) (p1 : Int32) (p2 : Int32) (f : FF) (v : VV) (post : Int32 → FF → VV → Prop) : Prop := ∀ v_1 : VV, v_1 = fu v 2 (0 : Int32) → (Q_X4_isSheet p0 (fun r_2 => (((¬ r_2 = 0 → (vp_in p0 4 ∧ (Q_X2_isNothing  (sb f (1 + (p0).toNatClampNeg)) (sb v_1 (3 + 2 * (p0).toNatClampNeg)) (fun r_5 => (((r_5 = 0 → (Q_X2_hasCell p1 (sb f (1 + (p0).toNatClampNeg)) (sb v_1 (3 + 2 * (p0).toNatClampNeg)) (fun r_7 => (((¬ r_7 = 0 → (Q_X2_cut p2 (sb f (1 + (p0).toNatClampNeg)) (sb v_1 (3 + 2 * (p0).toNatClampNeg)) (fun r_9 => (vp_in p1 60 ∧ (∀ f_11 : FF, f_11 = fu f (1 + (p0).toNatClampNeg) (wr (f (1 + (p0).toNatClampNeg)) p1 r_9) → (post (1 : Int32) f_11 v_1)))))) ∧ (r_7 = 0 → (Q_X4_faulted (3 : Int32) f v_1 (fun r_12 f_13 v_14 => (post r_12 f_13 v_14))))))))) ∧ (¬ r_5 = 0 → (Q_X4_faulted (1 : Int32) f v_1 (fun r_15 f_16 v_17 => (post r_15 f_16 v_17)))))))))) ∧ (r_2 = 0 → (post (-1 : Int32) f v_1))))))
set_option maxRecDepth 100000 in
set_option maxHeartbeats 4000000 in
theorem m_X4_put {l : Launch} (G : Gx) (h : Nat → Nat) (p0 : Int32) (p1 : Int32) (p2 : Int32) (f : FF) (v : VV) {post : Int32 → FF → VV → Prop} (hq : Q_X4_put p0 p1 p2 f v post) : MetI l yX4_put (gC yX4_put cX4_put 5 (some .int)) rmX4_put G [.ref (h 0), .int p0, .int p1, .int p2] (wM G h) f v post := by
  refine met_i (own := RX4) (by decide) rfl (Nat.le_of_ble_eq_true rfl) (fun κ hκ C hR => ?_)
  unfold Q_X4_put at hq
  subst hκ
  show J κ 0 0 (wM G h f v) 0 [(0, .ref (h 0)), (1, .int p0), (2, .int p1), (3, .int p2)] []
  refine j_aload_n 1 C dX4_put_0 rfl 0 rfl ?_
  refine j_iconst 2 C dX4_put_1 rfl ic_0 ?_
  obtain ⟨v_1, ev_1⟩ : ∃ y : VV, y = fu v 2 (0 : Int32) := ⟨_, rfl⟩
  replace hq := hq v_1 ev_1
  refine j_put 5 C uX4 tyX4 tyX4_ok nmX4 0 rfl rfl 8 (Nat.le_of_ble_eq_true rfl) lX4_46 rfl rfl (Nat.le_of_ble_eq_true rfl) dX4_put_2 rfl (ws' := (wM G h f v_1)) (by subst ev_1; rfl) ?_
  refine j_iload_n 6 C dX4_put_5 rfl 1 rfl ?_
  refine j_callSi 9 C [] (wM G h f v_1) (fun _ _ => (wM G h f v_1)) (As := [.int p0]) (m_X4_isSheet G p0 hq) oX4_isSheet kX4_50 ⟨rfl, rfl⟩ eX4_isSheet ⟨Nat.le_of_ble_eq_true rfl, Nat.le_of_ble_eq_true rfl⟩ ⟨Nat.zero_le _, Nat.zero_le _⟩ rfl (fun _ _ => rfl) (fun _ _ => rfl) rfl (Nat.le_of_ble_eq_true rfl) dX4_put_6 rfl (fun r_2 _ _ hq => ?_)
  refine j_if_ne 12 14 C dX4_put_9 rfl rfl (fun c_3 => ?_) (fun c_3 => ?_)
  · replace hq := hq.1 c_3
    refine j_aload_n 15 C dX4_put_14 rfl 0 rfl ?_
    refine j_get 18 C uX4 0 rfl rfl 0 (Nat.le_of_ble_eq_true rfl) lX4_13 (v := .ref (h 2)) rfl dX4_put_15 rfl ?_
    refine j_iload_n 19 C dX4_put_18 rfl 1 rfl ?_
    obtain ⟨hk_4, hq⟩ := hq
    refine j_aald 20 C 2 rfl hk_4 (z := h (3 + 2 * (p0).toNatClampNeg)) rfl dX4_put_19 rfl ?_
    refine j_astore 22 C dX4_put_20 rfl (Nat.le_of_ble_eq_true rfl) [1, 2, 3, 4, 0] (lv' := [(0, .ref (h 0)), (1, .int p0), (2, .int p1), (3, .int p2), (4, .ref (h (3 + 2 * (p0).toNatClampNeg)))]) rfl ?_
    refine j_aload 24 C dX4_put_22 rfl 4 rfl ?_
    refine j_callVi_ro 27 C (List.take (3 + 2 * (p0).toNatClampNeg) (wM G h f v_1)) (List.drop (3 + 2 * (p0).toNatClampNeg + 2) (wM G h f v_1)) (As := []) (m_X2_isNothing G (sb h (3 + 2 * (p0).toNatClampNeg)) (sb f (1 + (p0).toNatClampNeg)) (sb v_1 (3 + 2 * (p0).toNatClampNeg)) hq) oX2_isNothing kX4_230 ⟨rfl, rfl⟩ eX2_isNothing ⟨Nat.le_of_ble_eq_true rfl, Nat.le_of_ble_eq_true rfl⟩ ⟨Nat.zero_le _, Nat.zero_le _⟩ (shS (vp_lt4 hk_4)) (fun _ _ => rfl) 0 rfl rfl rfl (Nat.le_of_ble_eq_true rfl) dX4_put_24 rfl (fun r_5 hq => ?_)
    refine j_if_eq 30 36 C dX4_put_27 rfl rfl (fun c_6 => ?_) (fun c_6 => ?_)
    · replace hq := hq.1 c_6
      refine j_aload 38 C dX4_put_36 rfl 4 rfl ?_
      refine j_iload_n 39 C dX4_put_38 rfl 2 rfl ?_
      refine j_callVi_ro 42 C (List.take (3 + 2 * (p0).toNatClampNeg) (wM G h f v_1)) (List.drop (3 + 2 * (p0).toNatClampNeg + 2) (wM G h f v_1)) (As := [.int p1]) (m_X2_hasCell G (sb h (3 + 2 * (p0).toNatClampNeg)) p1 (sb f (1 + (p0).toNatClampNeg)) (sb v_1 (3 + 2 * (p0).toNatClampNeg)) hq) oX2_hasCell kX4_236 ⟨rfl, rfl⟩ eX2_hasCell ⟨Nat.le_of_ble_eq_true rfl, Nat.le_of_ble_eq_true rfl⟩ ⟨Nat.zero_le _, Nat.zero_le _⟩ (shS (vp_lt4 hk_4)) (fun _ _ => rfl) 0 rfl rfl rfl (Nat.le_of_ble_eq_true rfl) dX4_put_39 rfl (fun r_7 hq => ?_)
      refine j_if_ne 45 51 C dX4_put_42 rfl rfl (fun c_8 => ?_) (fun c_8 => ?_)
      · replace hq := hq.1 c_8
        refine j_aload 53 C dX4_put_51 rfl 4 rfl ?_
        refine j_get 56 C uX2 (3 + 2 * (p0).toNatClampNeg) (shO (vp_lt4 hk_4)) rfl 0 (Nat.le_of_ble_eq_true rfl) lX4_239 (v := .ref (h (3 + 2 * (p0).toNatClampNeg + 1))) rfl dX4_put_53 rfl ?_
        refine j_iload_n 57 C dX4_put_56 rfl 2 rfl ?_
        refine j_aload 59 C dX4_put_57 rfl 4 rfl ?_
        refine j_iload_n 60 C dX4_put_59 rfl 3 rfl ?_
        refine j_callVi_ro 63 C (List.take (3 + 2 * (p0).toNatClampNeg) (wM G h f v_1)) (List.drop (3 + 2 * (p0).toNatClampNeg + 2) (wM G h f v_1)) (As := [.int p2]) (m_X2_cut G (sb h (3 + 2 * (p0).toNatClampNeg)) p2 (sb f (1 + (p0).toNatClampNeg)) (sb v_1 (3 + 2 * (p0).toNatClampNeg)) hq) oX2_cut kX4_242 ⟨rfl, rfl⟩ eX2_cut ⟨Nat.le_of_ble_eq_true rfl, Nat.le_of_ble_eq_true rfl⟩ ⟨Nat.zero_le _, Nat.zero_le _⟩ (shS (vp_lt4 hk_4)) (fun _ _ => rfl) 0 rfl rfl rfl (Nat.le_of_ble_eq_true rfl) dX4_put_60 rfl (fun r_9 hq => ?_)
        obtain ⟨hi_10, hq⟩ := hq
        obtain ⟨f_11, ef_11⟩ : ∃ y : FF, y = fu f (1 + (p0).toNatClampNeg) (wr (f (1 + (p0).toNatClampNeg)) p1 r_9) := ⟨_, rfl⟩
        replace hq := hq f_11 ef_11
        refine j_iast 64 C (3 + 2 * (p0).toNatClampNeg + 1) (shA (vp_lt4 hk_4)) hi_10 dX4_put_63 rfl (ws' := (wM G h f_11 v_1)) (by subst ef_11; exact shW (vp_lt4 hk_4) _) ?_
        refine j_iconst 65 C dX4_put_64 rfl ic_1 ?_
        exact hR _ _ _ f_11 v_1 dX4_put_65 hq
      · replace hq := hq.2 c_8
        refine j_aload_n 46 C dX4_put_45 rfl 0 rfl ?_
        refine j_iconst 47 C dX4_put_46 rfl ic_3 ?_
        refine j_callVi 50 C [] [] (fun f' v' => (wM G h f' v')) (As := [.int (3 : Int32)]) (m_X4_faulted G h (3 : Int32) f v_1 hq) oX4_faulted kX4_66 ⟨rfl, rfl⟩ eX4_faulted ⟨Nat.le_of_ble_eq_true rfl, Nat.le_of_ble_eq_true rfl⟩ ⟨Nat.zero_le _, Nat.zero_le _⟩ (List.append_nil _).symm (fun _ _ => List.append_nil _) (fun _ _ => rfl) 0 rfl rfl rfl (Nat.le_of_ble_eq_true rfl) dX4_put_47 rfl (fun r_12 f_13 v_14 hq => ?_)
        exact hR _ _ _ f_13 v_14 dX4_put_50 hq
    · replace hq := hq.2 c_6
      refine j_aload_n 31 C dX4_put_30 rfl 0 rfl ?_
      refine j_iconst 32 C dX4_put_31 rfl ic_1 ?_
      refine j_callVi 35 C [] [] (fun f' v' => (wM G h f' v')) (As := [.int (1 : Int32)]) (m_X4_faulted G h (1 : Int32) f v_1 hq) oX4_faulted kX4_66 ⟨rfl, rfl⟩ eX4_faulted ⟨Nat.le_of_ble_eq_true rfl, Nat.le_of_ble_eq_true rfl⟩ ⟨Nat.zero_le _, Nat.zero_le _⟩ (List.append_nil _).symm (fun _ _ => List.append_nil _) (fun _ _ => rfl) 0 rfl rfl rfl (Nat.le_of_ble_eq_true rfl) dX4_put_32 rfl (fun r_15 f_16 v_17 hq => ?_)
      exact hR _ _ _ f_16 v_17 dX4_put_35 hq
  · replace hq := hq.2 c_3
    refine j_iconst 13 C dX4_put_12 rfl ic_m1 ?_
    exact hR _ _ _ f v_1 dX4_put_13 hq
def Q_X4_cell (p0 : Int32) (p1 : Int32) (p2 : Int32) (f : FF) (v : VV) (post : Int64 → FF → VV → Prop) : Prop := ∀ v_1 : VV, v_1 = fu v 2 (0 : Int32) → (Q_X4_isSheet p0 (fun r_2 => (((r_2 = 0 → (post (-9223372036854775808 : Int64) f v_1)) ∧ (¬ r_2 = 0 → (Q_X4_isWithin p2 (0 : Int32) (2 : Int32) (fun r_4 => (((¬ r_4 = 0 → (vp_in p0 4 ∧ (Q_X2_faultAs p2 (sb f (1 + (p0).toNatClampNeg)) (sb v_1 (3 + 2 * (p0).toNatClampNeg)) (fun r_7 => (∀ v_8 : VV, v_8 = fu v_1 2 r_7 → (((¬ (v_8 2) = 0 → (((¬ (v_8 2) = 0 → (post (-9223372036854775808 : Int64) f v_8)) ∧ ((v_8 2) = 0 → (vp_in p1 60 ∧ (post ((((f (1 + (p0).toNatClampNeg)) (p1).toNatClampNeg)).toInt64) f v_8)))))) ∧ ((v_8 2) = 0 → (Q_X2_hasCell p1 (sb f (1 + (p0).toNatClampNeg)) (sb v_8 (3 + 2 * (p0).toNatClampNeg)) (fun r_12 => (((¬ r_12 = 0 → (((¬ (v_8 2) = 0 → (post (-9223372036854775808 : Int64) f v_8)) ∧ ((v_8 2) = 0 → (vp_in p1 60 ∧ (post ((((f (1 + (p0).toNatClampNeg)) (p1).toNatClampNeg)).toInt64) f v_8)))))) ∧ (r_12 = 0 → (∀ v_16 : VV, v_16 = fu v_8 2 (3 : Int32) → (((¬ (v_16 2) = 0 → (post (-9223372036854775808 : Int64) f v_16)) ∧ ((v_16 2) = 0 → (vp_in p1 60 ∧ (post ((((f (1 + (p0).toNatClampNeg)) (p1).toNatClampNeg)).toInt64) f v_16))))))))))))))))))) ∧ (r_4 = 0 → (post (-9223372036854775808 : Int64) f v_1)))))))))))
set_option maxRecDepth 100000 in
set_option maxHeartbeats 4000000 in
theorem m_X4_cell {l : Launch} (G : Gx) (h : Nat → Nat) (p0 : Int32) (p1 : Int32) (p2 : Int32) (f : FF) (v : VV) {post : Int64 → FF → VV → Prop} (hq : Q_X4_cell p0 p1 p2 f v post) : MetL l yX4_cell (gC yX4_cell cX4_cell 5 (some .long)) rmX4_cell G [.ref (h 0), .int p0, .int p1, .int p2] (wM G h) f v post := by
  refine met_l (own := RX4) (by decide) rfl (Nat.le_of_ble_eq_true rfl) (fun κ hκ C hR => ?_)
  unfold Q_X4_cell at hq
  subst hκ
  show J κ 0 0 (wM G h f v) 0 [(0, .ref (h 0)), (1, .int p0), (2, .int p1), (3, .int p2)] []
  refine j_aload_n 1 C dX4_cell_0 rfl 0 rfl ?_
  refine j_iconst 2 C dX4_cell_1 rfl ic_0 ?_
  obtain ⟨v_1, ev_1⟩ : ∃ y : VV, y = fu v 2 (0 : Int32) := ⟨_, rfl⟩
  replace hq := hq v_1 ev_1
  refine j_put 5 C uX4 tyX4 tyX4_ok nmX4 0 rfl rfl 8 (Nat.le_of_ble_eq_true rfl) lX4_46 rfl rfl (Nat.le_of_ble_eq_true rfl) dX4_cell_2 rfl (ws' := (wM G h f v_1)) (by subst ev_1; rfl) ?_
  refine j_iload_n 6 C dX4_cell_5 rfl 1 rfl ?_
  refine j_callSi 9 C [] (wM G h f v_1) (fun _ _ => (wM G h f v_1)) (As := [.int p0]) (m_X4_isSheet G p0 hq) oX4_isSheet kX4_50 ⟨rfl, rfl⟩ eX4_isSheet ⟨Nat.le_of_ble_eq_true rfl, Nat.le_of_ble_eq_true rfl⟩ ⟨Nat.zero_le _, Nat.zero_le _⟩ rfl (fun _ _ => rfl) (fun _ _ => rfl) rfl (Nat.le_of_ble_eq_true rfl) dX4_cell_6 rfl (fun r_2 _ _ hq => ?_)
  refine j_if_eq 12 21 C dX4_cell_9 rfl rfl (fun c_3 => ?_) (fun c_3 => ?_)
  · replace hq := hq.1 c_3
    refine j_ldc2_w 24 C dX4_cell_21 rfl kX4_211 ?_
    exact hR _ _ _ f v_1 dX4_cell_24 hq
  · replace hq := hq.2 c_3
    refine j_iload_n 13 C dX4_cell_12 rfl 3 rfl ?_
    refine j_iconst 14 C dX4_cell_13 rfl ic_0 ?_
    refine j_iconst 15 C dX4_cell_14 rfl ic_2 ?_
    refine j_callSi 18 C [] (wM G h f v_1) (fun _ _ => (wM G h f v_1)) (As := [.int p2, .int (0 : Int32), .int (2 : Int32)]) (m_X4_isWithin G p2 (0 : Int32) (2 : Int32) hq) oX4_isWithin kX4_54 ⟨rfl, rfl⟩ eX4_isWithin ⟨Nat.le_of_ble_eq_true rfl, Nat.le_of_ble_eq_true rfl⟩ ⟨Nat.zero_le _, Nat.zero_le _⟩ rfl (fun _ _ => rfl) (fun _ _ => rfl) rfl (Nat.le_of_ble_eq_true rfl) dX4_cell_15 rfl (fun r_4 _ _ hq => ?_)
    refine j_if_ne 21 25 C dX4_cell_18 rfl rfl (fun c_5 => ?_) (fun c_5 => ?_)
    · replace hq := hq.1 c_5
      refine j_aload_n 26 C dX4_cell_25 rfl 0 rfl ?_
      refine j_get 29 C uX4 0 rfl rfl 0 (Nat.le_of_ble_eq_true rfl) lX4_13 (v := .ref (h 2)) rfl dX4_cell_26 rfl ?_
      refine j_iload_n 30 C dX4_cell_29 rfl 1 rfl ?_
      obtain ⟨hk_6, hq⟩ := hq
      refine j_aald 31 C 2 rfl hk_6 (z := h (3 + 2 * (p0).toNatClampNeg)) rfl dX4_cell_30 rfl ?_
      refine j_astore 33 C dX4_cell_31 rfl (Nat.le_of_ble_eq_true rfl) [1, 2, 3, 4, 0] (lv' := [(0, .ref (h 0)), (1, .int p0), (2, .int p1), (3, .int p2), (4, .ref (h (3 + 2 * (p0).toNatClampNeg)))]) rfl ?_
      refine j_aload_n 34 C dX4_cell_33 rfl 0 rfl ?_
      refine j_aload 36 C dX4_cell_34 rfl 4 rfl ?_
      refine j_iload_n 37 C dX4_cell_36 rfl 3 rfl ?_
      refine j_callVi_ro 40 C (List.take (3 + 2 * (p0).toNatClampNeg) (wM G h f v_1)) (List.drop (3 + 2 * (p0).toNatClampNeg + 2) (wM G h f v_1)) (As := [.int p2]) (m_X2_faultAs G (sb h (3 + 2 * (p0).toNatClampNeg)) p2 (sb f (1 + (p0).toNatClampNeg)) (sb v_1 (3 + 2 * (p0).toNatClampNeg)) hq) oX2_faultAs kX4_58 ⟨rfl, rfl⟩ eX2_faultAs ⟨Nat.le_of_ble_eq_true rfl, Nat.le_of_ble_eq_true rfl⟩ ⟨Nat.zero_le _, Nat.zero_le _⟩ (shS (vp_lt4 hk_6)) (fun _ _ => rfl) 0 rfl rfl rfl (Nat.le_of_ble_eq_true rfl) dX4_cell_37 rfl (fun r_7 hq => ?_)
      obtain ⟨v_8, ev_8⟩ : ∃ y : VV, y = fu v_1 2 r_7 := ⟨_, rfl⟩
      replace hq := hq v_8 ev_8
      refine j_put 43 C uX4 tyX4 tyX4_ok nmX4 0 rfl rfl 8 (Nat.le_of_ble_eq_true rfl) lX4_46 rfl rfl (Nat.le_of_ble_eq_true rfl) dX4_cell_40 rfl (ws' := (wM G h f v_8)) (by subst ev_8; rfl) ?_
      refine j_aload_n 44 C dX4_cell_43 rfl 0 rfl ?_
      refine j_get 47 C uX4 0 rfl rfl 8 (Nat.le_of_ble_eq_true rfl) lX4_46 (v := .int (v_8 2)) rfl dX4_cell_44 rfl ?_
      refine j_if_ne 50 64 C dX4_cell_47 rfl rfl (fun c_9 => ?_) (fun c_9 => ?_)
      · replace hq := hq.1 c_9
        refine j_aload_n 65 C dX4_cell_64 rfl 0 rfl ?_
        refine j_get 68 C uX4 0 rfl rfl 8 (Nat.le_of_ble_eq_true rfl) lX4_46 (v := .int (v_8 2)) rfl dX4_cell_65 rfl ?_
        refine j_if_ne 71 82 C dX4_cell_68 rfl rfl (fun c_10 => ?_) (fun c_10 => ?_)
        · replace hq := hq.1 c_10
          refine j_ldc2_w 85 C dX4_cell_82 rfl kX4_211 ?_
          exact hR _ _ _ f v_8 dX4_cell_85 hq
        · replace hq := hq.2 c_10
          refine j_aload 73 C dX4_cell_71 rfl 4 rfl ?_
          refine j_get 76 C uX2 (3 + 2 * (p0).toNatClampNeg) (shO (vp_lt4 hk_6)) rfl 0 (Nat.le_of_ble_eq_true rfl) lX4_239 (v := .ref (h (3 + 2 * (p0).toNatClampNeg + 1))) rfl dX4_cell_73 rfl ?_
          refine j_iload_n 77 C dX4_cell_76 rfl 2 rfl ?_
          obtain ⟨hi_11, hq⟩ := hq
          refine j_iald 78 C (3 + 2 * (p0).toNatClampNeg + 1) (f := (f (1 + (p0).toNatClampNeg))) (shA (vp_lt4 hk_6)) hi_11 dX4_cell_77 rfl ?_
          refine j_i2l 79 C dX4_cell_78 rfl ?_
          refine j_goto 85 C dX4_cell_79 rfl ?_
          exact hR _ _ _ f v_8 dX4_cell_85 hq
      · replace hq := hq.2 c_9
        refine j_aload 52 C dX4_cell_50 rfl 4 rfl ?_
        refine j_iload_n 53 C dX4_cell_52 rfl 2 rfl ?_
        refine j_callVi_ro 56 C (List.take (3 + 2 * (p0).toNatClampNeg) (wM G h f v_8)) (List.drop (3 + 2 * (p0).toNatClampNeg + 2) (wM G h f v_8)) (As := [.int p1]) (m_X2_hasCell G (sb h (3 + 2 * (p0).toNatClampNeg)) p1 (sb f (1 + (p0).toNatClampNeg)) (sb v_8 (3 + 2 * (p0).toNatClampNeg)) hq) oX2_hasCell kX4_236 ⟨rfl, rfl⟩ eX2_hasCell ⟨Nat.le_of_ble_eq_true rfl, Nat.le_of_ble_eq_true rfl⟩ ⟨Nat.zero_le _, Nat.zero_le _⟩ (shS (vp_lt4 hk_6)) (fun _ _ => rfl) 0 rfl rfl rfl (Nat.le_of_ble_eq_true rfl) dX4_cell_53 rfl (fun r_12 hq => ?_)
        refine j_if_ne 59 64 C dX4_cell_56 rfl rfl (fun c_13 => ?_) (fun c_13 => ?_)
        · replace hq := hq.1 c_13
          refine j_aload_n 65 C dX4_cell_64 rfl 0 rfl ?_
          refine j_get 68 C uX4 0 rfl rfl 8 (Nat.le_of_ble_eq_true rfl) lX4_46 (v := .int (v_8 2)) rfl dX4_cell_65 rfl ?_
          refine j_if_ne 71 82 C dX4_cell_68 rfl rfl (fun c_14 => ?_) (fun c_14 => ?_)
          · replace hq := hq.1 c_14
            refine j_ldc2_w 85 C dX4_cell_82 rfl kX4_211 ?_
            exact hR _ _ _ f v_8 dX4_cell_85 hq
          · replace hq := hq.2 c_14
            refine j_aload 73 C dX4_cell_71 rfl 4 rfl ?_
            refine j_get 76 C uX2 (3 + 2 * (p0).toNatClampNeg) (shO (vp_lt4 hk_6)) rfl 0 (Nat.le_of_ble_eq_true rfl) lX4_239 (v := .ref (h (3 + 2 * (p0).toNatClampNeg + 1))) rfl dX4_cell_73 rfl ?_
            refine j_iload_n 77 C dX4_cell_76 rfl 2 rfl ?_
            obtain ⟨hi_15, hq⟩ := hq
            refine j_iald 78 C (3 + 2 * (p0).toNatClampNeg + 1) (f := (f (1 + (p0).toNatClampNeg))) (shA (vp_lt4 hk_6)) hi_15 dX4_cell_77 rfl ?_
            refine j_i2l 79 C dX4_cell_78 rfl ?_
            refine j_goto 85 C dX4_cell_79 rfl ?_
            exact hR _ _ _ f v_8 dX4_cell_85 hq
        · replace hq := hq.2 c_13
          refine j_aload_n 60 C dX4_cell_59 rfl 0 rfl ?_
          refine j_iconst 61 C dX4_cell_60 rfl ic_3 ?_
          obtain ⟨v_16, ev_16⟩ : ∃ y : VV, y = fu v_8 2 (3 : Int32) := ⟨_, rfl⟩
          replace hq := hq v_16 ev_16
          refine j_put 64 C uX4 tyX4 tyX4_ok nmX4 0 rfl rfl 8 (Nat.le_of_ble_eq_true rfl) lX4_46 rfl rfl (Nat.le_of_ble_eq_true rfl) dX4_cell_61 rfl (ws' := (wM G h f v_16)) (by subst ev_16; rfl) ?_
          refine j_aload_n 65 C dX4_cell_64 rfl 0 rfl ?_
          refine j_get 68 C uX4 0 rfl rfl 8 (Nat.le_of_ble_eq_true rfl) lX4_46 (v := .int (v_16 2)) rfl dX4_cell_65 rfl ?_
          refine j_if_ne 71 82 C dX4_cell_68 rfl rfl (fun c_17 => ?_) (fun c_17 => ?_)
          · replace hq := hq.1 c_17
            refine j_ldc2_w 85 C dX4_cell_82 rfl kX4_211 ?_
            exact hR _ _ _ f v_16 dX4_cell_85 hq
          · replace hq := hq.2 c_17
            refine j_aload 73 C dX4_cell_71 rfl 4 rfl ?_
            refine j_get 76 C uX2 (3 + 2 * (p0).toNatClampNeg) (shO (vp_lt4 hk_6)) rfl 0 (Nat.le_of_ble_eq_true rfl) lX4_239 (v := .ref (h (3 + 2 * (p0).toNatClampNeg + 1))) rfl dX4_cell_73 rfl ?_
            refine j_iload_n 77 C dX4_cell_76 rfl 2 rfl ?_
            obtain ⟨hi_18, hq⟩ := hq
            refine j_iald 78 C (3 + 2 * (p0).toNatClampNeg + 1) (f := (f (1 + (p0).toNatClampNeg))) (shA (vp_lt4 hk_6)) hi_18 dX4_cell_77 rfl ?_
            refine j_i2l 79 C dX4_cell_78 rfl ?_
            refine j_goto 85 C dX4_cell_79 rfl ?_
            exact hR _ _ _ f v_16 dX4_cell_85 hq
    · replace hq := hq.2 c_5
      refine j_ldc2_w 24 C dX4_cell_21 rfl kX4_211 ?_
      exact hR _ _ _ f v_1 dX4_cell_24 hq
def Q_X4_copy (p0 : Int32) (p1 : Int32) (p2 : Int32) (p3 : Int32) (p4 : Int32) (f : FF) (v : VV) (post : Int32 → FF → VV → Prop) : Prop := ∀ v_1 : VV, v_1 = fu v 2 (0 : Int32) → (Q_X4_isSheet p0 (fun r_2 => (((r_2 = 0 → (post (-1 : Int32) f v_1)) ∧ (¬ r_2 = 0 → (Q_X4_isSheet p2 (fun r_4 => (((¬ r_4 = 0 → (vp_in p0 4 ∧ (vp_in p2 4 ∧ (Q_X2_isNothing  (sb f (1 + (p0).toNatClampNeg)) (sb v_1 (3 + 2 * (p0).toNatClampNeg)) (fun r_8 => (((¬ r_8 = 0 → (Q_X4_faulted (1 : Int32) f v_1 (fun r_10 f_11 v_12 => (post r_10 f_11 v_12)))) ∧ (r_8 = 0 → (Q_X2_isNothing  (sb f (1 + (p2).toNatClampNeg)) (sb v_1 (3 + 2 * (p2).toNatClampNeg)) (fun r_13 => (((r_13 = 0 → ((((v_1 (3 + 2 * (p0).toNatClampNeg)) = (v_1 (3 + 2 * (p2).toNatClampNeg)) → (Q_X2_hasCells p1 p4 (sb f (1 + (p0).toNatClampNeg)) (sb v_1 (3 + 2 * (p0).toNatClampNeg)) (fun r_16 => (((r_16 = 0 → (Q_X4_faulted (3 : Int32) f v_1 (fun r_18 f_19 v_20 => (post r_18 f_19 v_20)))) ∧ (¬ r_16 = 0 → (Q_X2_hasCells p3 p4 (sb f (1 + (p2).toNatClampNeg)) (sb v_1 (3 + 2 * (p2).toNatClampNeg)) (fun r_21 => (((¬ r_21 = 0 → (¬ p1 < 0 ∧ ¬ p3 < 0 ∧ ¬ p4 < 0 ∧ (p1).toNatClampNeg + (p4).toNatClampNeg ≤ 60 ∧ (p3).toNatClampNeg + (p4).toNatClampNeg ≤ 60 ∧ (∀ f_28 : FF, f_28 = fu f (1 + (p2).toNatClampNeg) (va_cpy (f (1 + (p0).toNatClampNeg)) (f (1 + (p2).toNatClampNeg)) (p1).toNatClampNeg (p3).toNatClampNeg (p4).toNatClampNeg) → (post p4 f_28 v_1)))) ∧ (r_21 = 0 → (Q_X4_faulted (3 : Int32) f v_1 (fun r_29 f_30 v_31 => (post r_29 f_30 v_31)))))))))))))) ∧ (¬ (v_1 (3 + 2 * (p0).toNatClampNeg)) = (v_1 (3 + 2 * (p2).toNatClampNeg)) → (Q_X4_faulted (2 : Int32) f v_1 (fun r_32 f_33 v_34 => (post r_32 f_33 v_34))))))) ∧ (¬ r_13 = 0 → (Q_X4_faulted (1 : Int32) f v_1 (fun r_35 f_36 v_37 => (post r_35 f_36 v_37)))))))))))))))) ∧ (r_4 = 0 → (post (-1 : Int32) f v_1)))))))))))
set_option maxRecDepth 100000 in
set_option maxHeartbeats 4000000 in
theorem m_X4_copy {l : Launch} (G : Gx) (h : Nat → Nat) (p0 : Int32) (p1 : Int32) (p2 : Int32) (p3 : Int32) (p4 : Int32) (f : FF) (v : VV) {post : Int32 → FF → VV → Prop} (hq : Q_X4_copy p0 p1 p2 p3 p4 f v post) : MetI l yX4_copy (gC yX4_copy cX4_copy 8 (some .int)) rmX4_copy G [.ref (h 0), .int p0, .int p1, .int p2, .int p3, .int p4] (wM G h) f v post := by
  refine met_i (own := RX4) (by decide) rfl (Nat.le_of_ble_eq_true rfl) (fun κ hκ C hR => ?_)
  unfold Q_X4_copy at hq
  subst hκ
  show J κ 0 0 (wM G h f v) 0 [(0, .ref (h 0)), (1, .int p0), (2, .int p1), (3, .int p2), (4, .int p3), (5, .int p4)] []
  refine j_aload_n 1 C dX4_copy_0 rfl 0 rfl ?_
  refine j_iconst 2 C dX4_copy_1 rfl ic_0 ?_
  obtain ⟨v_1, ev_1⟩ : ∃ y : VV, y = fu v 2 (0 : Int32) := ⟨_, rfl⟩
  replace hq := hq v_1 ev_1
  refine j_put 5 C uX4 tyX4 tyX4_ok nmX4 0 rfl rfl 8 (Nat.le_of_ble_eq_true rfl) lX4_46 rfl rfl (Nat.le_of_ble_eq_true rfl) dX4_copy_2 rfl (ws' := (wM G h f v_1)) (by subst ev_1; rfl) ?_
  refine j_iload_n 6 C dX4_copy_5 rfl 1 rfl ?_
  refine j_callSi 9 C [] (wM G h f v_1) (fun _ _ => (wM G h f v_1)) (As := [.int p0]) (m_X4_isSheet G p0 hq) oX4_isSheet kX4_50 ⟨rfl, rfl⟩ eX4_isSheet ⟨Nat.le_of_ble_eq_true rfl, Nat.le_of_ble_eq_true rfl⟩ ⟨Nat.zero_le _, Nat.zero_le _⟩ rfl (fun _ _ => rfl) (fun _ _ => rfl) rfl (Nat.le_of_ble_eq_true rfl) dX4_copy_6 rfl (fun r_2 _ _ hq => ?_)
  refine j_if_eq 12 19 C dX4_copy_9 rfl rfl (fun c_3 => ?_) (fun c_3 => ?_)
  · replace hq := hq.1 c_3
    refine j_iconst 20 C dX4_copy_19 rfl ic_m1 ?_
    exact hR _ _ _ f v_1 dX4_copy_20 hq
  · replace hq := hq.2 c_3
    refine j_iload_n 13 C dX4_copy_12 rfl 3 rfl ?_
    refine j_callSi 16 C [] (wM G h f v_1) (fun _ _ => (wM G h f v_1)) (As := [.int p2]) (m_X4_isSheet G p2 hq) oX4_isSheet kX4_50 ⟨rfl, rfl⟩ eX4_isSheet ⟨Nat.le_of_ble_eq_true rfl, Nat.le_of_ble_eq_true rfl⟩ ⟨Nat.zero_le _, Nat.zero_le _⟩ rfl (fun _ _ => rfl) (fun _ _ => rfl) rfl (Nat.le_of_ble_eq_true rfl) dX4_copy_13 rfl (fun r_4 _ _ hq => ?_)
    refine j_if_ne 19 21 C dX4_copy_16 rfl rfl (fun c_5 => ?_) (fun c_5 => ?_)
    · replace hq := hq.1 c_5
      refine j_aload_n 22 C dX4_copy_21 rfl 0 rfl ?_
      refine j_get 25 C uX4 0 rfl rfl 0 (Nat.le_of_ble_eq_true rfl) lX4_13 (v := .ref (h 2)) rfl dX4_copy_22 rfl ?_
      refine j_iload_n 26 C dX4_copy_25 rfl 1 rfl ?_
      obtain ⟨hk_6, hq⟩ := hq
      refine j_aald 27 C 2 rfl hk_6 (z := h (3 + 2 * (p0).toNatClampNeg)) rfl dX4_copy_26 rfl ?_
      refine j_astore 29 C dX4_copy_27 rfl (Nat.le_of_ble_eq_true rfl) [1, 2, 3, 4, 5, 6, 0] (lv' := [(0, .ref (h 0)), (1, .int p0), (2, .int p1), (3, .int p2), (4, .int p3), (5, .int p4), (6, .ref (h (3 + 2 * (p0).toNatClampNeg)))]) rfl ?_
      refine j_aload_n 30 C dX4_copy_29 rfl 0 rfl ?_
      refine j_get 33 C uX4 0 rfl rfl 0 (Nat.le_of_ble_eq_true rfl) lX4_13 (v := .ref (h 2)) rfl dX4_copy_30 rfl ?_
      refine j_iload_n 34 C dX4_copy_33 rfl 3 rfl ?_
      obtain ⟨hk_7, hq⟩ := hq
      refine j_aald 35 C 2 rfl hk_7 (z := h (3 + 2 * (p2).toNatClampNeg)) rfl dX4_copy_34 rfl ?_
      refine j_astore 37 C dX4_copy_35 rfl (Nat.le_of_ble_eq_true rfl) [1, 2, 3, 4, 5, 6, 7, 0] (lv' := [(0, .ref (h 0)), (1, .int p0), (2, .int p1), (3, .int p2), (4, .int p3), (5, .int p4), (6, .ref (h (3 + 2 * (p0).toNatClampNeg))), (7, .ref (h (3 + 2 * (p2).toNatClampNeg)))]) rfl ?_
      refine j_aload 39 C dX4_copy_37 rfl 6 rfl ?_
      refine j_callVi_ro 42 C (List.take (3 + 2 * (p0).toNatClampNeg) (wM G h f v_1)) (List.drop (3 + 2 * (p0).toNatClampNeg + 2) (wM G h f v_1)) (As := []) (m_X2_isNothing G (sb h (3 + 2 * (p0).toNatClampNeg)) (sb f (1 + (p0).toNatClampNeg)) (sb v_1 (3 + 2 * (p0).toNatClampNeg)) hq) oX2_isNothing kX4_230 ⟨rfl, rfl⟩ eX2_isNothing ⟨Nat.le_of_ble_eq_true rfl, Nat.le_of_ble_eq_true rfl⟩ ⟨Nat.zero_le _, Nat.zero_le _⟩ (shS (vp_lt4 hk_6)) (fun _ _ => rfl) 0 rfl rfl rfl (Nat.le_of_ble_eq_true rfl) dX4_copy_39 rfl (fun r_8 hq => ?_)
      refine j_if_ne 45 53 C dX4_copy_42 rfl rfl (fun c_9 => ?_) (fun c_9 => ?_)
      · replace hq := hq.1 c_9
        refine j_aload_n 54 C dX4_copy_53 rfl 0 rfl ?_
        refine j_iconst 55 C dX4_copy_54 rfl ic_1 ?_
        refine j_callVi 58 C [] [] (fun f' v' => (wM G h f' v')) (As := [.int (1 : Int32)]) (m_X4_faulted G h (1 : Int32) f v_1 hq) oX4_faulted kX4_66 ⟨rfl, rfl⟩ eX4_faulted ⟨Nat.le_of_ble_eq_true rfl, Nat.le_of_ble_eq_true rfl⟩ ⟨Nat.zero_le _, Nat.zero_le _⟩ (List.append_nil _).symm (fun _ _ => List.append_nil _) (fun _ _ => rfl) 0 rfl rfl rfl (Nat.le_of_ble_eq_true rfl) dX4_copy_55 rfl (fun r_10 f_11 v_12 hq => ?_)
        exact hR _ _ _ f_11 v_12 dX4_copy_58 hq
      · replace hq := hq.2 c_9
        refine j_aload 47 C dX4_copy_45 rfl 7 rfl ?_
        refine j_callVi_ro 50 C (List.take (3 + 2 * (p2).toNatClampNeg) (wM G h f v_1)) (List.drop (3 + 2 * (p2).toNatClampNeg + 2) (wM G h f v_1)) (As := []) (m_X2_isNothing G (sb h (3 + 2 * (p2).toNatClampNeg)) (sb f (1 + (p2).toNatClampNeg)) (sb v_1 (3 + 2 * (p2).toNatClampNeg)) hq) oX2_isNothing kX4_230 ⟨rfl, rfl⟩ eX2_isNothing ⟨Nat.le_of_ble_eq_true rfl, Nat.le_of_ble_eq_true rfl⟩ ⟨Nat.zero_le _, Nat.zero_le _⟩ (shS (vp_lt4 hk_7)) (fun _ _ => rfl) 0 rfl rfl rfl (Nat.le_of_ble_eq_true rfl) dX4_copy_47 rfl (fun r_13 hq => ?_)
        refine j_if_eq 53 59 C dX4_copy_50 rfl rfl (fun c_14 => ?_) (fun c_14 => ?_)
        · replace hq := hq.1 c_14
          refine j_aload 61 C dX4_copy_59 rfl 6 rfl ?_
          refine j_get 64 C uX2 (3 + 2 * (p0).toNatClampNeg) (shO (vp_lt4 hk_6)) rfl 1 (Nat.le_of_ble_eq_true rfl) lX4_245 (v := .int (v_1 (3 + 2 * (p0).toNatClampNeg))) rfl dX4_copy_61 rfl ?_
          refine j_aload 66 C dX4_copy_64 rfl 7 rfl ?_
          refine j_get 69 C uX2 (3 + 2 * (p2).toNatClampNeg) (shO (vp_lt4 hk_7)) rfl 1 (Nat.le_of_ble_eq_true rfl) lX4_245 (v := .int (v_1 (3 + 2 * (p2).toNatClampNeg))) rfl dX4_copy_66 rfl ?_
          refine j_icmp_eq 72 78 C dX4_copy_69 rfl rfl (fun c_15 => ?_) (fun c_15 => ?_)
          · replace hq := hq.1 c_15
            refine j_aload 80 C dX4_copy_78 rfl 6 rfl ?_
            refine j_iload_n 81 C dX4_copy_80 rfl 2 rfl ?_
            refine j_iload 83 C dX4_copy_81 rfl 5 rfl ?_
            refine j_callVi_ro 86 C (List.take (3 + 2 * (p0).toNatClampNeg) (wM G h f v_1)) (List.drop (3 + 2 * (p0).toNatClampNeg + 2) (wM G h f v_1)) (As := [.int p1, .int p4]) (m_X2_hasCells G (sb h (3 + 2 * (p0).toNatClampNeg)) p1 p4 (sb f (1 + (p0).toNatClampNeg)) (sb v_1 (3 + 2 * (p0).toNatClampNeg)) hq) oX2_hasCells kX4_62 ⟨rfl, rfl⟩ eX2_hasCells ⟨Nat.le_of_ble_eq_true rfl, Nat.le_of_ble_eq_true rfl⟩ ⟨Nat.zero_le _, Nat.zero_le _⟩ (shS (vp_lt4 hk_6)) (fun _ _ => rfl) 0 rfl rfl rfl (Nat.le_of_ble_eq_true rfl) dX4_copy_83 rfl (fun r_16 hq => ?_)
            refine j_if_eq 89 101 C dX4_copy_86 rfl rfl (fun c_17 => ?_) (fun c_17 => ?_)
            · replace hq := hq.1 c_17
              refine j_aload_n 102 C dX4_copy_101 rfl 0 rfl ?_
              refine j_iconst 103 C dX4_copy_102 rfl ic_3 ?_
              refine j_callVi 106 C [] [] (fun f' v' => (wM G h f' v')) (As := [.int (3 : Int32)]) (m_X4_faulted G h (3 : Int32) f v_1 hq) oX4_faulted kX4_66 ⟨rfl, rfl⟩ eX4_faulted ⟨Nat.le_of_ble_eq_true rfl, Nat.le_of_ble_eq_true rfl⟩ ⟨Nat.zero_le _, Nat.zero_le _⟩ (List.append_nil _).symm (fun _ _ => List.append_nil _) (fun _ _ => rfl) 0 rfl rfl rfl (Nat.le_of_ble_eq_true rfl) dX4_copy_103 rfl (fun r_18 f_19 v_20 hq => ?_)
              exact hR _ _ _ f_19 v_20 dX4_copy_106 hq
            · replace hq := hq.2 c_17
              refine j_aload 91 C dX4_copy_89 rfl 7 rfl ?_
              refine j_iload 93 C dX4_copy_91 rfl 4 rfl ?_
              refine j_iload 95 C dX4_copy_93 rfl 5 rfl ?_
              refine j_callVi_ro 98 C (List.take (3 + 2 * (p2).toNatClampNeg) (wM G h f v_1)) (List.drop (3 + 2 * (p2).toNatClampNeg + 2) (wM G h f v_1)) (As := [.int p3, .int p4]) (m_X2_hasCells G (sb h (3 + 2 * (p2).toNatClampNeg)) p3 p4 (sb f (1 + (p2).toNatClampNeg)) (sb v_1 (3 + 2 * (p2).toNatClampNeg)) hq) oX2_hasCells kX4_62 ⟨rfl, rfl⟩ eX2_hasCells ⟨Nat.le_of_ble_eq_true rfl, Nat.le_of_ble_eq_true rfl⟩ ⟨Nat.zero_le _, Nat.zero_le _⟩ (shS (vp_lt4 hk_7)) (fun _ _ => rfl) 0 rfl rfl rfl (Nat.le_of_ble_eq_true rfl) dX4_copy_95 rfl (fun r_21 hq => ?_)
              refine j_if_ne 101 107 C dX4_copy_98 rfl rfl (fun c_22 => ?_) (fun c_22 => ?_)
              · replace hq := hq.1 c_22
                refine j_aload 109 C dX4_copy_107 rfl 6 rfl ?_
                refine j_get 112 C uX2 (3 + 2 * (p0).toNatClampNeg) (shO (vp_lt4 hk_6)) rfl 0 (Nat.le_of_ble_eq_true rfl) lX4_239 (v := .ref (h (3 + 2 * (p0).toNatClampNeg + 1))) rfl dX4_copy_109 rfl ?_
                refine j_iload_n 113 C dX4_copy_112 rfl 2 rfl ?_
                refine j_aload 115 C dX4_copy_113 rfl 7 rfl ?_
                refine j_get 118 C uX2 (3 + 2 * (p2).toNatClampNeg) (shO (vp_lt4 hk_7)) rfl 0 (Nat.le_of_ble_eq_true rfl) lX4_239 (v := .ref (h (3 + 2 * (p2).toNatClampNeg + 1))) rfl dX4_copy_115 rfl ?_
                refine j_iload 120 C dX4_copy_118 rfl 4 rfl ?_
                refine j_iload 122 C dX4_copy_120 rfl 5 rfl ?_
                obtain ⟨ha_23, ha_24, ha_25, ha_26, ha_27, hq⟩ := hq
                obtain ⟨f_28, ef_28⟩ : ∃ y : FF, y = fu f (1 + (p2).toNatClampNeg) (va_cpy (f (1 + (p0).toNatClampNeg)) (f (1 + (p2).toNatClampNeg)) (p1).toNatClampNeg (p3).toNatClampNeg (p4).toNatClampNeg) := ⟨_, rfl⟩
                replace hq := hq f_28 ef_28
                refine j_copy 125 C kX4_248 (3 + 2 * (p0).toNatClampNeg + 1) (3 + 2 * (p2).toNatClampNeg + 1) (shA (vp_lt4 hk_6)) (shA (vp_lt4 hk_7)) ha_23 ha_24 ha_25 ha_26 ha_27 (Nat.le_of_ble_eq_true rfl) (by decide) dX4_copy_122 rfl (ws' := (wM G h f_28 v_1)) (by subst ef_28; exact shW (vp_lt4 hk_7) _) ?_
                refine j_iload 127 C dX4_copy_125 rfl 5 rfl ?_
                exact hR _ _ _ f_28 v_1 dX4_copy_127 hq
              · replace hq := hq.2 c_22
                refine j_aload_n 102 C dX4_copy_101 rfl 0 rfl ?_
                refine j_iconst 103 C dX4_copy_102 rfl ic_3 ?_
                refine j_callVi 106 C [] [] (fun f' v' => (wM G h f' v')) (As := [.int (3 : Int32)]) (m_X4_faulted G h (3 : Int32) f v_1 hq) oX4_faulted kX4_66 ⟨rfl, rfl⟩ eX4_faulted ⟨Nat.le_of_ble_eq_true rfl, Nat.le_of_ble_eq_true rfl⟩ ⟨Nat.zero_le _, Nat.zero_le _⟩ (List.append_nil _).symm (fun _ _ => List.append_nil _) (fun _ _ => rfl) 0 rfl rfl rfl (Nat.le_of_ble_eq_true rfl) dX4_copy_103 rfl (fun r_29 f_30 v_31 hq => ?_)
                exact hR _ _ _ f_30 v_31 dX4_copy_106 hq
          · replace hq := hq.2 c_15
            refine j_aload_n 73 C dX4_copy_72 rfl 0 rfl ?_
            refine j_iconst 74 C dX4_copy_73 rfl ic_2 ?_
            refine j_callVi 77 C [] [] (fun f' v' => (wM G h f' v')) (As := [.int (2 : Int32)]) (m_X4_faulted G h (2 : Int32) f v_1 hq) oX4_faulted kX4_66 ⟨rfl, rfl⟩ eX4_faulted ⟨Nat.le_of_ble_eq_true rfl, Nat.le_of_ble_eq_true rfl⟩ ⟨Nat.zero_le _, Nat.zero_le _⟩ (List.append_nil _).symm (fun _ _ => List.append_nil _) (fun _ _ => rfl) 0 rfl rfl rfl (Nat.le_of_ble_eq_true rfl) dX4_copy_74 rfl (fun r_32 f_33 v_34 hq => ?_)
            exact hR _ _ _ f_33 v_34 dX4_copy_77 hq
        · replace hq := hq.2 c_14
          refine j_aload_n 54 C dX4_copy_53 rfl 0 rfl ?_
          refine j_iconst 55 C dX4_copy_54 rfl ic_1 ?_
          refine j_callVi 58 C [] [] (fun f' v' => (wM G h f' v')) (As := [.int (1 : Int32)]) (m_X4_faulted G h (1 : Int32) f v_1 hq) oX4_faulted kX4_66 ⟨rfl, rfl⟩ eX4_faulted ⟨Nat.le_of_ble_eq_true rfl, Nat.le_of_ble_eq_true rfl⟩ ⟨Nat.zero_le _, Nat.zero_le _⟩ (List.append_nil _).symm (fun _ _ => List.append_nil _) (fun _ _ => rfl) 0 rfl rfl rfl (Nat.le_of_ble_eq_true rfl) dX4_copy_55 rfl (fun r_35 f_36 v_37 hq => ?_)
          exact hR _ _ _ f_36 v_37 dX4_copy_58 hq
    · replace hq := hq.2 c_5
      refine j_iconst 20 C dX4_copy_19 rfl ic_m1 ?_
      exact hR _ _ _ f v_1 dX4_copy_20 hq
def Q_X4_leave (p0 : Int32) (f : FF) (v : VV) (post : FF → VV → Prop) : Prop := ∀ v_1 : VV, v_1 = fu v 1 (((31 : Int32) * (v 1)) + p0) → (post f v_1)
set_option maxRecDepth 100000 in
set_option maxHeartbeats 4000000 in
theorem m_X4_leave {l : Launch} (G : Gx) (h : Nat → Nat) (p0 : Int32) (f : FF) (v : VV) {post : FF → VV → Prop} (hq : Q_X4_leave p0 f v post) : MetV l yX4_leave (gC yX4_leave cX4_leave 2 none) rmX4_leave G [.ref (h 0), .int p0] (wM G h) f v post := by
  refine met_v (own := RX4) (by decide) rfl (Nat.le_of_ble_eq_true rfl) (fun κ hκ C hR => ?_)
  unfold Q_X4_leave at hq
  subst hκ
  show J κ 0 0 (wM G h f v) 0 [(0, .ref (h 0)), (1, .int p0)] []
  refine j_aload_n 1 C dX4_leave_0 rfl 0 rfl ?_
  refine j_bipush 3 C dX4_leave_1 rfl bc_31 ?_
  refine j_aload_n 4 C dX4_leave_3 rfl 0 rfl ?_
  refine j_get 7 C uX4 0 rfl rfl 7 (Nat.le_of_ble_eq_true rfl) lX4_269 (v := .int (v 1)) rfl dX4_leave_4 rfl ?_
  refine j_imul 8 C dX4_leave_7 rfl ?_
  refine j_iload_n 9 C dX4_leave_8 rfl 1 rfl ?_
  refine j_iadd 10 C dX4_leave_9 rfl ?_
  obtain ⟨v_1, ev_1⟩ : ∃ y : VV, y = fu v 1 (((31 : Int32) * (v 1)) + p0) := ⟨_, rfl⟩
  replace hq := hq v_1 ev_1
  refine j_put 13 C uX4 tyX4 tyX4_ok nmX4 0 rfl rfl 7 (Nat.le_of_ble_eq_true rfl) lX4_269 rfl rfl (Nat.le_of_ble_eq_true rfl) dX4_leave_10 rfl (ws' := (wM G h f v_1)) (by subst ev_1; rfl) ?_
  exact hR _ _ _ _ dX4_leave_13 hq
def Q_X4_tellPlain (p0 : Int32) (f : FF) (v : VV) (post : Int32 → FF → VV → Prop) : Prop := Q_X4_leave (1 : Int32) f v (fun f_2 v_3 => (vp_in p0 7 ∧ (post ((f_2 9) (p0).toNatClampNeg) f_2 v_3)))
set_option maxRecDepth 100000 in
set_option maxHeartbeats 4000000 in
theorem m_X4_tellPlain {l : Launch} (G : Gx) (h : Nat → Nat) (p0 : Int32) (f : FF) (v : VV) {post : Int32 → FF → VV → Prop} (hq : Q_X4_tellPlain p0 f v post) : MetI l yX4_tellPlain (gC yX4_tellPlain cX4_tellPlain 2 (some .int)) rmX4_tellPlain G [.ref (h 0), .int p0] (wM G h) f v post := by
  refine met_i (own := RX4) (by decide) rfl (Nat.le_of_ble_eq_true rfl) (fun κ hκ C hR => ?_)
  unfold Q_X4_tellPlain at hq
  subst hκ
  show J κ 0 0 (wM G h f v) 0 [(0, .ref (h 0)), (1, .int p0)] []
  refine j_aload_n 1 C dX4_tellPlain_0 rfl 0 rfl ?_
  refine j_iconst 2 C dX4_tellPlain_1 rfl ic_1 ?_
  refine j_callVv 5 C [] [] (fun f' v' => (wM G h f' v')) (As := [.int (1 : Int32)]) (m_X4_leave G h (1 : Int32) f v hq) oX4_leave kX4_293 ⟨rfl, rfl⟩ eX4_leave ⟨Nat.le_of_ble_eq_true rfl, Nat.le_of_ble_eq_true rfl⟩ ⟨Nat.zero_le _, Nat.zero_le _⟩ (List.append_nil _).symm (fun _ _ => List.append_nil _) (fun _ _ => rfl) 0 rfl rfl rfl (Nat.le_of_ble_eq_true rfl) dX4_tellPlain_2 rfl (fun f_2 v_3 hq => ?_)
  refine j_aload_n 6 C dX4_tellPlain_5 rfl 0 rfl ?_
  refine j_get 9 C uX4 0 rfl rfl 1 (Nat.le_of_ble_eq_true rfl) lX4_21 (v := .ref (h 11)) rfl dX4_tellPlain_6 rfl ?_
  refine j_get 12 C uX1 11 rfl rfl 5 (Nat.le_of_ble_eq_true rfl) lX4_108 (v := .ref (h 16)) rfl dX4_tellPlain_9 rfl ?_
  refine j_iload_n 13 C dX4_tellPlain_12 rfl 1 rfl ?_
  obtain ⟨hi_4, hq⟩ := hq
  refine j_iald 14 C 16 (f := (f_2 9)) rfl hi_4 dX4_tellPlain_13 rfl ?_
  exact hR _ _ _ f_2 v_3 dX4_tellPlain_14 hq
def Q_X4_tellSlow (p0 : Int32) (f : FF) (v : VV) (post : Int32 → FF → VV → Prop) : Prop := Q_X4_leave (2 : Int32) f v (fun f_2 v_3 => (Q_X4_tellPlain p0 f_2 v_3 (fun r_4 f_5 v_6 => (post (r_4 + (100 : Int32)) f_5 v_6))))
set_option maxRecDepth 100000 in
set_option maxHeartbeats 4000000 in
theorem m_X4_tellSlow {l : Launch} (G : Gx) (h : Nat → Nat) (p0 : Int32) (f : FF) (v : VV) {post : Int32 → FF → VV → Prop} (hq : Q_X4_tellSlow p0 f v post) : MetI l yX4_tellSlow (gC yX4_tellSlow cX4_tellSlow 2 (some .int)) rmX4_tellSlow G [.ref (h 0), .int p0] (wM G h) f v post := by
  refine met_i (own := RX4) (by decide) rfl (Nat.le_of_ble_eq_true rfl) (fun κ hκ C hR => ?_)
  unfold Q_X4_tellSlow at hq
  subst hκ
  show J κ 0 0 (wM G h f v) 0 [(0, .ref (h 0)), (1, .int p0)] []
  refine j_aload_n 1 C dX4_tellSlow_0 rfl 0 rfl ?_
  refine j_iconst 2 C dX4_tellSlow_1 rfl ic_2 ?_
  refine j_callVv 5 C [] [] (fun f' v' => (wM G h f' v')) (As := [.int (2 : Int32)]) (m_X4_leave G h (2 : Int32) f v hq) oX4_leave kX4_293 ⟨rfl, rfl⟩ eX4_leave ⟨Nat.le_of_ble_eq_true rfl, Nat.le_of_ble_eq_true rfl⟩ ⟨Nat.zero_le _, Nat.zero_le _⟩ (List.append_nil _).symm (fun _ _ => List.append_nil _) (fun _ _ => rfl) 0 rfl rfl rfl (Nat.le_of_ble_eq_true rfl) dX4_tellSlow_2 rfl (fun f_2 v_3 hq => ?_)
  refine j_aload_n 6 C dX4_tellSlow_5 rfl 0 rfl ?_
  refine j_iload_n 7 C dX4_tellSlow_6 rfl 1 rfl ?_
  refine j_callVi 10 C [] [] (fun f' v' => (wM G h f' v')) (As := [.int p0]) (m_X4_tellPlain G h p0 f_2 v_3 hq) oX4_tellPlain kX4_254 ⟨rfl, rfl⟩ eX4_tellPlain ⟨Nat.le_of_ble_eq_true rfl, Nat.le_of_ble_eq_true rfl⟩ ⟨Nat.zero_le _, Nat.zero_le _⟩ (List.append_nil _).symm (fun _ _ => List.append_nil _) (fun _ _ => rfl) 0 rfl rfl rfl (Nat.le_of_ble_eq_true rfl) dX4_tellSlow_7 rfl (fun r_4 f_5 v_6 hq => ?_)
  refine j_bipush 12 C dX4_tellSlow_10 rfl bc_100 ?_
  refine j_iadd 13 C dX4_tellSlow_12 rfl ?_
  exact hR _ _ _ f_5 v_6 dX4_tellSlow_13 hq
def Q_X4_tellDouble (p0 : Int32) (f : FF) (v : VV) (post : Int32 → FF → VV → Prop) : Prop := Q_X4_leave (3 : Int32) f v (fun f_2 v_3 => (Q_X4_tellSlow p0 f_2 v_3 (fun r_4 f_5 v_6 => (Q_X4_tellPlain p0 f_5 v_6 (fun r_7 f_8 v_9 => (post (r_4 + r_7) f_8 v_9))))))
set_option maxRecDepth 100000 in
set_option maxHeartbeats 4000000 in
theorem m_X4_tellDouble {l : Launch} (G : Gx) (h : Nat → Nat) (p0 : Int32) (f : FF) (v : VV) {post : Int32 → FF → VV → Prop} (hq : Q_X4_tellDouble p0 f v post) : MetI l yX4_tellDouble (gC yX4_tellDouble cX4_tellDouble 2 (some .int)) rmX4_tellDouble G [.ref (h 0), .int p0] (wM G h) f v post := by
  refine met_i (own := RX4) (by decide) rfl (Nat.le_of_ble_eq_true rfl) (fun κ hκ C hR => ?_)
  unfold Q_X4_tellDouble at hq
  subst hκ
  show J κ 0 0 (wM G h f v) 0 [(0, .ref (h 0)), (1, .int p0)] []
  refine j_aload_n 1 C dX4_tellDouble_0 rfl 0 rfl ?_
  refine j_iconst 2 C dX4_tellDouble_1 rfl ic_3 ?_
  refine j_callVv 5 C [] [] (fun f' v' => (wM G h f' v')) (As := [.int (3 : Int32)]) (m_X4_leave G h (3 : Int32) f v hq) oX4_leave kX4_293 ⟨rfl, rfl⟩ eX4_leave ⟨Nat.le_of_ble_eq_true rfl, Nat.le_of_ble_eq_true rfl⟩ ⟨Nat.zero_le _, Nat.zero_le _⟩ (List.append_nil _).symm (fun _ _ => List.append_nil _) (fun _ _ => rfl) 0 rfl rfl rfl (Nat.le_of_ble_eq_true rfl) dX4_tellDouble_2 rfl (fun f_2 v_3 hq => ?_)
  refine j_aload_n 6 C dX4_tellDouble_5 rfl 0 rfl ?_
  refine j_iload_n 7 C dX4_tellDouble_6 rfl 1 rfl ?_
  refine j_callVi 10 C [] [] (fun f' v' => (wM G h f' v')) (As := [.int p0]) (m_X4_tellSlow G h p0 f_2 v_3 hq) oX4_tellSlow kX4_257 ⟨rfl, rfl⟩ eX4_tellSlow ⟨Nat.le_of_ble_eq_true rfl, Nat.le_of_ble_eq_true rfl⟩ ⟨Nat.zero_le _, Nat.zero_le _⟩ (List.append_nil _).symm (fun _ _ => List.append_nil _) (fun _ _ => rfl) 0 rfl rfl rfl (Nat.le_of_ble_eq_true rfl) dX4_tellDouble_7 rfl (fun r_4 f_5 v_6 hq => ?_)
  refine j_aload_n 11 C dX4_tellDouble_10 rfl 0 rfl ?_
  refine j_iload_n 12 C dX4_tellDouble_11 rfl 1 rfl ?_
  refine j_callVi 15 C [] [] (fun f' v' => (wM G h f' v')) (As := [.int p0]) (m_X4_tellPlain G h p0 f_5 v_6 hq) oX4_tellPlain kX4_254 ⟨rfl, rfl⟩ eX4_tellPlain ⟨Nat.le_of_ble_eq_true rfl, Nat.le_of_ble_eq_true rfl⟩ ⟨Nat.zero_le _, Nat.zero_le _⟩ (List.append_nil _).symm (fun _ _ => List.append_nil _) (fun _ _ => rfl) 0 rfl rfl rfl (Nat.le_of_ble_eq_true rfl) dX4_tellDouble_12 rfl (fun r_7 f_8 v_9 hq => ?_)
  refine j_iadd 16 C dX4_tellDouble_15 rfl ?_
  exact hR _ _ _ f_8 v_9 dX4_tellDouble_16 hq
def Q_X4_tell (p0 : Int32) (f : FF) (v : VV) (post : Int32 → FF → VV → Prop) : Prop := Q_X1_hasTest p0 (sb f 5) (sb v 11) (fun r_1 => (((¬ r_1 = 0 → (vp_in p0 7 ∧ (((((f 8) (p0).toNatClampNeg) = (0 : Int32) → (Q_X4_tellPlain p0 f v (fun r_5 f_6 v_7 => (post r_5 f_6 v_7)))) ∧ (¬ ((f 8) (p0).toNatClampNeg) = (0 : Int32) → (((((f 8) (p0).toNatClampNeg) = (1 : Int32) → (Q_X4_tellSlow p0 f v (fun r_9 f_10 v_11 => (post r_9 f_10 v_11)))) ∧ (¬ ((f 8) (p0).toNatClampNeg) = (1 : Int32) → (Q_X4_tellDouble p0 f v (fun r_12 f_13 v_14 => (post r_12 f_13 v_14))))))))))) ∧ (r_1 = 0 → (post (-1 : Int32) f v)))))
set_option maxRecDepth 100000 in
set_option maxHeartbeats 4000000 in
theorem m_X4_tell {l : Launch} (G : Gx) (h : Nat → Nat) (p0 : Int32) (f : FF) (v : VV) {post : Int32 → FF → VV → Prop} (hq : Q_X4_tell p0 f v post) : MetI l yX4_tell (gC yX4_tell cX4_tell 2 (some .int)) rmX4_tell G [.ref (h 0), .int p0] (wM G h) f v post := by
  refine met_i (own := RX4) (by decide) rfl (Nat.le_of_ble_eq_true rfl) (fun κ hκ C hR => ?_)
  unfold Q_X4_tell at hq
  subst hκ
  show J κ 0 0 (wM G h f v) 0 [(0, .ref (h 0)), (1, .int p0)] []
  refine j_aload_n 1 C dX4_tell_0 rfl 0 rfl ?_
  refine j_get 4 C uX4 0 rfl rfl 1 (Nat.le_of_ble_eq_true rfl) lX4_21 (v := .ref (h 11)) rfl dX4_tell_1 rfl ?_
  refine j_iload_n 5 C dX4_tell_4 rfl 1 rfl ?_
  refine j_callVi_ro 8 C (List.take 11 (wM G h f v)) (List.drop 21 (wM G h f v)) (As := [.int p0]) (m_X1_hasTest G (sb h 11) p0 (sb f 5) (sb v 11) hq) oX1_hasTest kX4_102 ⟨rfl, rfl⟩ eX1_hasTest ⟨Nat.le_of_ble_eq_true rfl, Nat.le_of_ble_eq_true rfl⟩ ⟨Nat.zero_le _, Nat.zero_le _⟩ rfl (fun _ _ => rfl) 0 rfl rfl rfl (Nat.le_of_ble_eq_true rfl) dX4_tell_5 rfl (fun r_1 hq => ?_)
  refine j_if_ne 11 13 C dX4_tell_8 rfl rfl (fun c_2 => ?_) (fun c_2 => ?_)
  · replace hq := hq.1 c_2
    refine j_aload_n 14 C dX4_tell_13 rfl 0 rfl ?_
    refine j_get 17 C uX4 0 rfl rfl 1 (Nat.le_of_ble_eq_true rfl) lX4_21 (v := .ref (h 11)) rfl dX4_tell_14 rfl ?_
    refine j_get 20 C uX1 11 rfl rfl 4 (Nat.le_of_ble_eq_true rfl) lX4_105 (v := .ref (h 15)) rfl dX4_tell_17 rfl ?_
    refine j_iload_n 21 C dX4_tell_20 rfl 1 rfl ?_
    obtain ⟨hi_3, hq⟩ := hq
    refine j_iald 22 C 15 (f := (f 8)) rfl hi_3 dX4_tell_21 rfl ?_
    by_cases c_4 : ((f 8) (p0).toNatClampNeg) = (0 : Int32)
    · replace hq := hq.1 c_4
      refine j_lookup 48 C dX4_tell_22 (by decide) (off := 26) (by rw [c_4] <;> decide) rfl ?_
      refine j_aload_n 49 C dX4_tell_48 rfl 0 rfl ?_
      refine j_iload_n 50 C dX4_tell_49 rfl 1 rfl ?_
      refine j_callVi 53 C [] [] (fun f' v' => (wM G h f' v')) (As := [.int p0]) (m_X4_tellPlain G h p0 f v hq) oX4_tellPlain kX4_254 ⟨rfl, rfl⟩ eX4_tellPlain ⟨Nat.le_of_ble_eq_true rfl, Nat.le_of_ble_eq_true rfl⟩ ⟨Nat.zero_le _, Nat.zero_le _⟩ (List.append_nil _).symm (fun _ _ => List.append_nil _) (fun _ _ => rfl) 0 rfl rfl rfl (Nat.le_of_ble_eq_true rfl) dX4_tell_50 rfl (fun r_5 f_6 v_7 hq => ?_)
      exact hR _ _ _ f_6 v_7 dX4_tell_53 hq
    · replace hq := hq.2 c_4
      by_cases c_8 : ((f 8) (p0).toNatClampNeg) = (1 : Int32)
      · replace hq := hq.1 c_8
        refine j_lookup 54 C dX4_tell_22 (by decide) (off := 32) (by rw [c_8] <;> decide) rfl ?_
        refine j_aload_n 55 C dX4_tell_54 rfl 0 rfl ?_
        refine j_iload_n 56 C dX4_tell_55 rfl 1 rfl ?_
        refine j_callVi 59 C [] [] (fun f' v' => (wM G h f' v')) (As := [.int p0]) (m_X4_tellSlow G h p0 f v hq) oX4_tellSlow kX4_257 ⟨rfl, rfl⟩ eX4_tellSlow ⟨Nat.le_of_ble_eq_true rfl, Nat.le_of_ble_eq_true rfl⟩ ⟨Nat.zero_le _, Nat.zero_le _⟩ (List.append_nil _).symm (fun _ _ => List.append_nil _) (fun _ _ => rfl) 0 rfl rfl rfl (Nat.le_of_ble_eq_true rfl) dX4_tell_56 rfl (fun r_9 f_10 v_11 hq => ?_)
        exact hR _ _ _ f_10 v_11 dX4_tell_59 hq
      · replace hq := hq.2 c_8
        have zc_4 := ne_toInt (z := 0) (by decide) c_4
        have zc_8 := ne_toInt (z := 1) (by decide) c_8
        refine j_lookup 60 C dX4_tell_22 (by decide) (off := 38) (by simp only [Op.lookupswitch.offset_cons, Op.lookupswitch.offset_nil]; rw [if_neg (fun e9 => zc_4 e9.symm)]; rw [if_neg (fun e9 => zc_8 e9.symm)]) rfl ?_
        refine j_aload_n 61 C dX4_tell_60 rfl 0 rfl ?_
        refine j_iload_n 62 C dX4_tell_61 rfl 1 rfl ?_
        refine j_callVi 65 C [] [] (fun f' v' => (wM G h f' v')) (As := [.int p0]) (m_X4_tellDouble G h p0 f v hq) oX4_tellDouble kX4_260 ⟨rfl, rfl⟩ eX4_tellDouble ⟨Nat.le_of_ble_eq_true rfl, Nat.le_of_ble_eq_true rfl⟩ ⟨Nat.zero_le _, Nat.zero_le _⟩ (List.append_nil _).symm (fun _ _ => List.append_nil _) (fun _ _ => rfl) 0 rfl rfl rfl (Nat.le_of_ble_eq_true rfl) dX4_tell_62 rfl (fun r_12 f_13 v_14 hq => ?_)
        exact hR _ _ _ f_13 v_14 dX4_tell_65 hq
  · replace hq := hq.2 c_2
    refine j_iconst 12 C dX4_tell_11 rfl ic_m1 ?_
    exact hR _ _ _ f v dX4_tell_12 hq
def Q_X4_logDouble (f : FF) (v : VV) (post : Int32 → FF → VV → Prop) : Prop := Q_X4_leave (5 : Int32) f v (fun f_2 v_3 => (post (60 : Int32) f_2 v_3))
set_option maxRecDepth 100000 in
set_option maxHeartbeats 4000000 in
theorem m_X4_logDouble {l : Launch} (G : Gx) (h : Nat → Nat) (f : FF) (v : VV) {post : Int32 → FF → VV → Prop} (hq : Q_X4_logDouble f v post) : MetI l yX4_logDouble (gC yX4_logDouble cX4_logDouble 1 (some .int)) rmX4_logDouble G [.ref (h 0)] (wM G h) f v post := by
  refine met_i (own := RX4) (by decide) rfl (Nat.le_of_ble_eq_true rfl) (fun κ hκ C hR => ?_)
  unfold Q_X4_logDouble at hq
  subst hκ
  show J κ 0 0 (wM G h f v) 0 [(0, .ref (h 0))] []
  refine j_aload_n 1 C dX4_logDouble_0 rfl 0 rfl ?_
  refine j_iconst 2 C dX4_logDouble_1 rfl ic_5 ?_
  refine j_callVv 5 C [] [] (fun f' v' => (wM G h f' v')) (As := [.int (5 : Int32)]) (m_X4_leave G h (5 : Int32) f v hq) oX4_leave kX4_293 ⟨rfl, rfl⟩ eX4_leave ⟨Nat.le_of_ble_eq_true rfl, Nat.le_of_ble_eq_true rfl⟩ ⟨Nat.zero_le _, Nat.zero_le _⟩ (List.append_nil _).symm (fun _ _ => List.append_nil _) (fun _ _ => rfl) 0 rfl rfl rfl (Nat.le_of_ble_eq_true rfl) dX4_logDouble_2 rfl (fun f_2 v_3 hq => ?_)
  refine j_bipush 7 C dX4_logDouble_5 rfl bc_60 ?_
  exact hR _ _ _ f_2 v_3 dX4_logDouble_7 hq
def Q_X4_logLent (p0 : Int32) (f : FF) (v : VV) (post : Int32 → FF → VV → Prop) : Prop := Q_X4_leave (4 : Int32) f v (fun f_2 v_3 => (Q_X1_killedByTest p0 (sb f_2 5) (sb v_3 11) (fun r_4 f_5 v_6 => (∀ f_7 : FF, f_7 = mg f_2 5 9 f_5 → (∀ v_8 : VV, v_8 = mg v_3 11 2 v_6 → (Q_J6_bitCount_0f7a4 r_4 (fun r_9 => (post r_9 f_7 v_8))))))))
set_option maxRecDepth 100000 in
set_option maxHeartbeats 4000000 in
theorem m_X4_logLent {l : Launch} (G : Gx) (h : Nat → Nat) (p0 : Int32) (f : FF) (v : VV) {post : Int32 → FF → VV → Prop} (hq : Q_X4_logLent p0 f v post) : MetI l yX4_logLent (gC yX4_logLent cX4_logLent 2 (some .int)) rmX4_logLent G [.ref (h 0), .int p0] (wM G h) f v post := by
  refine met_i (own := RX4) (by decide) rfl (Nat.le_of_ble_eq_true rfl) (fun κ hκ C hR => ?_)
  unfold Q_X4_logLent at hq
  subst hκ
  show J κ 0 0 (wM G h f v) 0 [(0, .ref (h 0)), (1, .int p0)] []
  refine j_aload_n 1 C dX4_logLent_0 rfl 0 rfl ?_
  refine j_iconst 2 C dX4_logLent_1 rfl ic_4 ?_
  refine j_callVv 5 C [] [] (fun f' v' => (wM G h f' v')) (As := [.int (4 : Int32)]) (m_X4_leave G h (4 : Int32) f v hq) oX4_leave kX4_293 ⟨rfl, rfl⟩ eX4_leave ⟨Nat.le_of_ble_eq_true rfl, Nat.le_of_ble_eq_true rfl⟩ ⟨Nat.zero_le _, Nat.zero_le _⟩ (List.append_nil _).symm (fun _ _ => List.append_nil _) (fun _ _ => rfl) 0 rfl rfl rfl (Nat.le_of_ble_eq_true rfl) dX4_logLent_2 rfl (fun f_2 v_3 hq => ?_)
  refine j_aload_n 6 C dX4_logLent_5 rfl 0 rfl ?_
  refine j_get 9 C uX4 0 rfl rfl 1 (Nat.le_of_ble_eq_true rfl) lX4_21 (v := .ref (h 11)) rfl dX4_logLent_6 rfl ?_
  refine j_iload_n 10 C dX4_logLent_9 rfl 1 rfl ?_
  refine j_callVi 13 C (List.take 11 (wM G h f_2 v_3)) (List.drop 21 (wM G h f_2 v_3)) (fun f' v' => (wM G h (mg f_2 5 9 f') (mg v_3 11 2 v'))) (As := [.int p0]) (m_X1_killedByTest G (sb h 11) p0 (sb f_2 5) (sb v_3 11) hq) oX1_killedByTest kX4_123 ⟨rfl, rfl⟩ eX1_killedByTest ⟨Nat.le_of_ble_eq_true rfl, Nat.le_of_ble_eq_true rfl⟩ ⟨Nat.zero_le _, Nat.zero_le _⟩ rfl (fun _ _ => rfl) (fun _ _ => rfl) 0 rfl rfl rfl (Nat.le_of_ble_eq_true rfl) dX4_logLent_10 rfl (fun r_4 f_5 v_6 hq => ?_)
  obtain ⟨f_7, ef_7⟩ : ∃ y : FF, y = mg f_2 5 9 f_5 := ⟨_, rfl⟩
  obtain ⟨v_8, ev_8⟩ : ∃ y : VV, y = mg v_3 11 2 v_6 := ⟨_, rfl⟩
  replace hq := hq f_7 ef_7 v_8 ev_8
  refine J.w0 (ws' := (wM G h f_7 v_8)) (by subst ef_7; subst ev_8; rfl) ?_
  refine j_callSi 16 C [] (wM G h f_7 v_8) (fun _ _ => (wM G h f_7 v_8)) (As := [.int r_4]) (m_J6_bitCount_0f7a4 G r_4 hq) oJ6_bitCount_0f7a4 kX4_197 ⟨rfl, rfl⟩ eJ6_bitCount_0f7a4 ⟨Nat.le_of_ble_eq_true rfl, Nat.le_of_ble_eq_true rfl⟩ ⟨Nat.zero_le _, Nat.zero_le _⟩ rfl (fun _ _ => rfl) (fun _ _ => rfl) rfl (Nat.le_of_ble_eq_true rfl) dX4_logLent_13 rfl (fun r_9 _ _ hq => ?_)
  exact hR _ _ _ f_7 v_8 dX4_logLent_16 hq
def Q_X4_log (p0 : Int32) (f : FF) (v : VV) (post : Int32 → FF → VV → Prop) : Prop := Q_X1_hasTest p0 (sb f 5) (sb v 11) (fun r_1 => (((¬ r_1 = 0 → (vp_in p0 7 ∧ (((¬ ((f 8) (p0).toNatClampNeg) = (2 : Int32) → (Q_X4_logLent p0 f v (fun r_5 f_6 v_7 => (post r_5 f_6 v_7)))) ∧ (((f 8) (p0).toNatClampNeg) = (2 : Int32) → (Q_X4_logDouble  f v (fun r_8 f_9 v_10 => (post r_8 f_9 v_10)))))))) ∧ (r_1 = 0 → (post (-1 : Int32) f v)))))
set_option maxRecDepth 100000 in
set_option maxHeartbeats 4000000 in
theorem m_X4_log {l : Launch} (G : Gx) (h : Nat → Nat) (p0 : Int32) (f : FF) (v : VV) {post : Int32 → FF → VV → Prop} (hq : Q_X4_log p0 f v post) : MetI l yX4_log (gC yX4_log cX4_log 2 (some .int)) rmX4_log G [.ref (h 0), .int p0] (wM G h) f v post := by
  refine met_i (own := RX4) (by decide) rfl (Nat.le_of_ble_eq_true rfl) (fun κ hκ C hR => ?_)
  unfold Q_X4_log at hq
  subst hκ
  show J κ 0 0 (wM G h f v) 0 [(0, .ref (h 0)), (1, .int p0)] []
  refine j_aload_n 1 C dX4_log_0 rfl 0 rfl ?_
  refine j_get 4 C uX4 0 rfl rfl 1 (Nat.le_of_ble_eq_true rfl) lX4_21 (v := .ref (h 11)) rfl dX4_log_1 rfl ?_
  refine j_iload_n 5 C dX4_log_4 rfl 1 rfl ?_
  refine j_callVi_ro 8 C (List.take 11 (wM G h f v)) (List.drop 21 (wM G h f v)) (As := [.int p0]) (m_X1_hasTest G (sb h 11) p0 (sb f 5) (sb v 11) hq) oX1_hasTest kX4_102 ⟨rfl, rfl⟩ eX1_hasTest ⟨Nat.le_of_ble_eq_true rfl, Nat.le_of_ble_eq_true rfl⟩ ⟨Nat.zero_le _, Nat.zero_le _⟩ rfl (fun _ _ => rfl) 0 rfl rfl rfl (Nat.le_of_ble_eq_true rfl) dX4_log_5 rfl (fun r_1 hq => ?_)
  refine j_if_ne 11 13 C dX4_log_8 rfl rfl (fun c_2 => ?_) (fun c_2 => ?_)
  · replace hq := hq.1 c_2
    refine j_aload_n 14 C dX4_log_13 rfl 0 rfl ?_
    refine j_get 17 C uX4 0 rfl rfl 1 (Nat.le_of_ble_eq_true rfl) lX4_21 (v := .ref (h 11)) rfl dX4_log_14 rfl ?_
    refine j_get 20 C uX1 11 rfl rfl 4 (Nat.le_of_ble_eq_true rfl) lX4_105 (v := .ref (h 15)) rfl dX4_log_17 rfl ?_
    refine j_iload_n 21 C dX4_log_20 rfl 1 rfl ?_
    obtain ⟨hi_3, hq⟩ := hq
    refine j_iald 22 C 15 (f := (f 8)) rfl hi_3 dX4_log_21 rfl ?_
    refine j_iconst 23 C dX4_log_22 rfl ic_2 ?_
    refine j_icmp_ne 26 33 C dX4_log_23 rfl rfl (fun c_4 => ?_) (fun c_4 => ?_)
    · replace hq := hq.1 c_4
      refine j_aload_n 34 C dX4_log_33 rfl 0 rfl ?_
      refine j_iload_n 35 C dX4_log_34 rfl 1 rfl ?_
      refine j_callVi 38 C [] [] (fun f' v' => (wM G h f' v')) (As := [.int p0]) (m_X4_logLent G h p0 f v hq) oX4_logLent kX4_266 ⟨rfl, rfl⟩ eX4_logLent ⟨Nat.le_of_ble_eq_true rfl, Nat.le_of_ble_eq_true rfl⟩ ⟨Nat.zero_le _, Nat.zero_le _⟩ (List.append_nil _).symm (fun _ _ => List.append_nil _) (fun _ _ => rfl) 0 rfl rfl rfl (Nat.le_of_ble_eq_true rfl) dX4_log_35 rfl (fun r_5 f_6 v_7 hq => ?_)
      exact hR _ _ _ f_6 v_7 dX4_log_38 hq
    · replace hq := hq.2 c_4
      refine j_aload_n 27 C dX4_log_26 rfl 0 rfl ?_
      refine j_callVi 30 C [] [] (fun f' v' => (wM G h f' v')) (As := []) (m_X4_logDouble G h f v hq) oX4_logDouble kX4_263 ⟨rfl, rfl⟩ eX4_logDouble ⟨Nat.le_of_ble_eq_true rfl, Nat.le_of_ble_eq_true rfl⟩ ⟨Nat.zero_le _, Nat.zero_le _⟩ (List.append_nil _).symm (fun _ _ => List.append_nil _) (fun _ _ => rfl) 0 rfl rfl rfl (Nat.le_of_ble_eq_true rfl) dX4_log_27 rfl (fun r_8 f_9 v_10 hq => ?_)
      refine j_goto 38 C dX4_log_30 rfl ?_
      exact hR _ _ _ f_9 v_10 dX4_log_38 hq
  · replace hq := hq.2 c_2
    refine j_iconst 12 C dX4_log_11 rfl ic_m1 ?_
    exact hR _ _ _ f v dX4_log_12 hq
def Q_X4_as (p0 : Int32) (p1 : Int32) (f : FF) (v : VV) (post : Int32 → FF → VV → Prop) : Prop := ∀ v_1 : VV, v_1 = fu v 2 (0 : Int32) → (Q_X1_hasTest p0 (sb f 5) (sb v_1 11) (fun r_2 => (((¬ r_2 = 0 → (Q_X4_isWithin p1 (0 : Int32) (2 : Int32) (fun r_4 => (((¬ r_4 = 0 → (vp_in p0 7 ∧ (((((f 8) (p0).toNatClampNeg) < p1 → (Q_X4_faulted (2 : Int32) f v_1 (fun r_8 f_9 v_10 => (post r_8 f_9 v_10)))) ∧ (¬ ((f 8) (p0).toNatClampNeg) < p1 → (post (1 : Int32) f v_1)))))) ∧ (r_4 = 0 → (post (-2 : Int32) f v_1))))))) ∧ (r_2 = 0 → (post (-1 : Int32) f v_1))))))
set_option maxRecDepth 100000 in
set_option maxHeartbeats 4000000 in
theorem m_X4_as {l : Launch} (G : Gx) (h : Nat → Nat) (p0 : Int32) (p1 : Int32) (f : FF) (v : VV) {post : Int32 → FF → VV → Prop} (hq : Q_X4_as p0 p1 f v post) : MetI l yX4_as (gC yX4_as cX4_as 3 (some .int)) rmX4_as G [.ref (h 0), .int p0, .int p1] (wM G h) f v post := by
  refine met_i (own := RX4) (by decide) rfl (Nat.le_of_ble_eq_true rfl) (fun κ hκ C hR => ?_)
  unfold Q_X4_as at hq
  subst hκ
  show J κ 0 0 (wM G h f v) 0 [(0, .ref (h 0)), (1, .int p0), (2, .int p1)] []
  refine j_aload_n 1 C dX4_as_0 rfl 0 rfl ?_
  refine j_iconst 2 C dX4_as_1 rfl ic_0 ?_
  obtain ⟨v_1, ev_1⟩ : ∃ y : VV, y = fu v 2 (0 : Int32) := ⟨_, rfl⟩
  replace hq := hq v_1 ev_1
  refine j_put 5 C uX4 tyX4 tyX4_ok nmX4 0 rfl rfl 8 (Nat.le_of_ble_eq_true rfl) lX4_46 rfl rfl (Nat.le_of_ble_eq_true rfl) dX4_as_2 rfl (ws' := (wM G h f v_1)) (by subst ev_1; rfl) ?_
  refine j_aload_n 6 C dX4_as_5 rfl 0 rfl ?_
  refine j_get 9 C uX4 0 rfl rfl 1 (Nat.le_of_ble_eq_true rfl) lX4_21 (v := .ref (h 11)) rfl dX4_as_6 rfl ?_
  refine j_iload_n 10 C dX4_as_9 rfl 1 rfl ?_
  refine j_callVi_ro 13 C (List.take 11 (wM G h f v_1)) (List.drop 21 (wM G h f v_1)) (As := [.int p0]) (m_X1_hasTest G (sb h 11) p0 (sb f 5) (sb v_1 11) hq) oX1_hasTest kX4_102 ⟨rfl, rfl⟩ eX1_hasTest ⟨Nat.le_of_ble_eq_true rfl, Nat.le_of_ble_eq_true rfl⟩ ⟨Nat.zero_le _, Nat.zero_le _⟩ rfl (fun _ _ => rfl) 0 rfl rfl rfl (Nat.le_of_ble_eq_true rfl) dX4_as_10 rfl (fun r_2 hq => ?_)
  refine j_if_ne 16 18 C dX4_as_13 rfl rfl (fun c_3 => ?_) (fun c_3 => ?_)
  · replace hq := hq.1 c_3
    refine j_iload_n 19 C dX4_as_18 rfl 2 rfl ?_
    refine j_iconst 20 C dX4_as_19 rfl ic_0 ?_
    refine j_iconst 21 C dX4_as_20 rfl ic_2 ?_
    refine j_callSi 24 C [] (wM G h f v_1) (fun _ _ => (wM G h f v_1)) (As := [.int p1, .int (0 : Int32), .int (2 : Int32)]) (m_X4_isWithin G p1 (0 : Int32) (2 : Int32) hq) oX4_isWithin kX4_54 ⟨rfl, rfl⟩ eX4_isWithin ⟨Nat.le_of_ble_eq_true rfl, Nat.le_of_ble_eq_true rfl⟩ ⟨Nat.zero_le _, Nat.zero_le _⟩ rfl (fun _ _ => rfl) (fun _ _ => rfl) rfl (Nat.le_of_ble_eq_true rfl) dX4_as_21 rfl (fun r_4 _ _ hq => ?_)
    refine j_if_ne 27 30 C dX4_as_24 rfl rfl (fun c_5 => ?_) (fun c_5 => ?_)
    · replace hq := hq.1 c_5
      refine j_aload_n 31 C dX4_as_30 rfl 0 rfl ?_
      refine j_get 34 C uX4 0 rfl rfl 1 (Nat.le_of_ble_eq_true rfl) lX4_21 (v := .ref (h 11)) rfl dX4_as_31 rfl ?_
      refine j_get 37 C uX1 11 rfl rfl 4 (Nat.le_of_ble_eq_true rfl) lX4_105 (v := .ref (h 15)) rfl dX4_as_34 rfl ?_
      refine j_iload_n 38 C dX4_as_37 rfl 1 rfl ?_
      obtain ⟨hi_6, hq⟩ := hq
      refine j_iald 39 C 15 (f := (f 8)) rfl hi_6 dX4_as_38 rfl ?_
      refine j_iload_n 40 C dX4_as_39 rfl 2 rfl ?_
      refine j_icmp_lt 43 47 C dX4_as_40 rfl rfl (fun c_7 => ?_) (fun c_7 => ?_)
      · replace hq := hq.1 c_7
        refine j_aload_n 48 C dX4_as_47 rfl 0 rfl ?_
        refine j_iconst 49 C dX4_as_48 rfl ic_2 ?_
        refine j_callVi 52 C [] [] (fun f' v' => (wM G h f' v')) (As := [.int (2 : Int32)]) (m_X4_faulted G h (2 : Int32) f v_1 hq) oX4_faulted kX4_66 ⟨rfl, rfl⟩ eX4_faulted ⟨Nat.le_of_ble_eq_true rfl, Nat.le_of_ble_eq_true rfl⟩ ⟨Nat.zero_le _, Nat.zero_le _⟩ (List.append_nil _).symm (fun _ _ => List.append_nil _) (fun _ _ => rfl) 0 rfl rfl rfl (Nat.le_of_ble_eq_true rfl) dX4_as_49 rfl (fun r_8 f_9 v_10 hq => ?_)
        exact hR _ _ _ f_9 v_10 dX4_as_52 hq
      · replace hq := hq.2 c_7
        refine j_iconst 44 C dX4_as_43 rfl ic_1 ?_
        refine j_goto 52 C dX4_as_44 rfl ?_
        exact hR _ _ _ f v_1 dX4_as_52 hq
    · replace hq := hq.2 c_5
      refine j_bipush 29 C dX4_as_27 rfl bc_m2 ?_
      exact hR _ _ _ f v_1 dX4_as_29 hq
  · replace hq := hq.2 c_3
    refine j_iconst 17 C dX4_as_16 rfl ic_m1 ?_
    exact hR _ _ _ f v_1 dX4_as_17 hq
def Q_X4_trace (f : FF) (v : VV) (post : Int32 → Prop) : Prop := post (v 1)
set_option maxRecDepth 100000 in
set_option maxHeartbeats 4000000 in
theorem m_X4_trace {l : Launch} (G : Gx) (h : Nat → Nat) (f : FF) (v : VV) {post : Int32 → Prop} (hq : Q_X4_trace f v post) : MetI l yX4_trace (gC yX4_trace cX4_trace 1 (some .int)) rmX4_trace G [.ref (h 0)] (wM G h) f v (fun r f' v' => post r ∧ f' = f ∧ v' = v) := by
  refine met_i (own := RX4) (by decide) rfl (Nat.le_of_ble_eq_true rfl) (fun κ hκ C hR => ?_)
  unfold Q_X4_trace at hq
  subst hκ
  show J κ 0 0 (wM G h f v) 0 [(0, .ref (h 0))] []
  refine j_aload_n 1 C dX4_trace_0 rfl 0 rfl ?_
  refine j_get 4 C uX4 0 rfl rfl 7 (Nat.le_of_ble_eq_true rfl) lX4_269 (v := .int (v 1)) rfl dX4_trace_1 rfl ?_
  exact hR _ _ _ f v dX4_trace_4 ⟨hq, rfl, rfl⟩
def Q_X4_fault (f : FF) (v : VV) (post : Int32 → Prop) : Prop := post (v 2)
set_option maxRecDepth 100000 in
set_option maxHeartbeats 4000000 in
theorem m_X4_fault {l : Launch} (G : Gx) (h : Nat → Nat) (f : FF) (v : VV) {post : Int32 → Prop} (hq : Q_X4_fault f v post) : MetI l yX4_fault (gC yX4_fault cX4_fault 1 (some .int)) rmX4_fault G [.ref (h 0)] (wM G h) f v (fun r f' v' => post r ∧ f' = f ∧ v' = v) := by
  refine met_i (own := RX4) (by decide) rfl (Nat.le_of_ble_eq_true rfl) (fun κ hκ C hR => ?_)
  unfold Q_X4_fault at hq
  subst hκ
  show J κ 0 0 (wM G h f v) 0 [(0, .ref (h 0))] []
  refine j_aload_n 1 C dX4_fault_0 rfl 0 rfl ?_
  refine j_get 4 C uX4 0 rfl rfl 8 (Nat.le_of_ble_eq_true rfl) lX4_46 (v := .int (v 2)) rfl dX4_fault_1 rfl ?_
  exact hR _ _ _ f v dX4_fault_4 ⟨hq, rfl, rfl⟩
def Q_X4_many (p0 : Int32) (f : FF) (v : VV) (post : Int32 → FF → VV → Prop) : Prop := ((p0 = (0 : Int32) → (post (v 11) f v)) ∧ (¬ p0 = (0 : Int32) → (((p0 = (1 : Int32) → (post (v 12) f v)) ∧ (¬ p0 = (1 : Int32) → (((p0 = (2 : Int32) → (Q_X1_mutants  (sb f 5) (sb v 11) (fun r_4 => (post r_4 f v)))) ∧ (¬ p0 = (2 : Int32) → (((p0 = (3 : Int32) → (Q_X4_killsNow  f v (fun f_7 v_8 => (Q_J6_bitCount_0f7a4 (v_8 21) (fun r_9 => (post r_9 f_7 v_8)))))) ∧ (¬ p0 = (3 : Int32) → (((p0 = (4 : Int32) → (Q_X1_countEqual  (sb f 5) (sb v 11) (fun r_11 f_12 v_13 => (∀ f_14 : FF, f_14 = mg f 5 9 f_12 → (∀ v_15 : VV, v_15 = mg v 11 2 v_13 → (post r_11 f_14 v_15)))))) ∧ (¬ p0 = (4 : Int32) → (((p0 = (5 : Int32) → (post (v 0) f v)) ∧ (¬ p0 = (5 : Int32) → (post (-2 : Int32) f v))))))))))))))))))
set_option maxRecDepth 100000 in
set_option maxHeartbeats 4000000 in
theorem m_X4_many {l : Launch} (G : Gx) (h : Nat → Nat) (p0 : Int32) (f : FF) (v : VV) {post : Int32 → FF → VV → Prop} (hq : Q_X4_many p0 f v post) : MetI l yX4_many (gC yX4_many cX4_many 2 (some .int)) rmX4_many G [.ref (h 0), .int p0] (wM G h) f v post := by
  refine met_i (own := RX4) (by decide) rfl (Nat.le_of_ble_eq_true rfl) (fun κ hκ C hR => ?_)
  unfold Q_X4_many at hq
  subst hκ
  show J κ 0 0 (wM G h f v) 0 [(0, .ref (h 0)), (1, .int p0)] []
  refine j_iload_n 1 C dX4_many_0 rfl 1 rfl ?_
  by_cases c_1 : p0 = (0 : Int32)
  · replace hq := hq.1 c_1
    refine j_tableIn 40 C (0 : Int32) dX4_many_1 c_1 (by decide) (by decide) rfl rfl ?_
    refine j_aload_n 41 C dX4_many_40 rfl 0 rfl ?_
    refine j_get 44 C uX4 0 rfl rfl 1 (Nat.le_of_ble_eq_true rfl) lX4_21 (v := .ref (h 11)) rfl dX4_many_41 rfl ?_
    refine j_get 47 C uX1 11 rfl rfl 3 (Nat.le_of_ble_eq_true rfl) lX4_272 (v := .int (v 11)) rfl dX4_many_44 rfl ?_
    exact hR _ _ _ f v dX4_many_47 hq
  · replace hq := hq.2 c_1
    by_cases c_2 : p0 = (1 : Int32)
    · replace hq := hq.1 c_2
      refine j_tableIn 48 C (1 : Int32) dX4_many_1 c_2 (by decide) (by decide) rfl rfl ?_
      refine j_aload_n 49 C dX4_many_48 rfl 0 rfl ?_
      refine j_get 52 C uX4 0 rfl rfl 1 (Nat.le_of_ble_eq_true rfl) lX4_21 (v := .ref (h 11)) rfl dX4_many_49 rfl ?_
      refine j_get 55 C uX1 11 rfl rfl 8 (Nat.le_of_ble_eq_true rfl) lX4_275 (v := .int (v 12)) rfl dX4_many_52 rfl ?_
      exact hR _ _ _ f v dX4_many_55 hq
    · replace hq := hq.2 c_2
      by_cases c_3 : p0 = (2 : Int32)
      · replace hq := hq.1 c_3
        refine j_tableIn 56 C (2 : Int32) dX4_many_1 c_3 (by decide) (by decide) rfl rfl ?_
        refine j_aload_n 57 C dX4_many_56 rfl 0 rfl ?_
        refine j_get 60 C uX4 0 rfl rfl 1 (Nat.le_of_ble_eq_true rfl) lX4_21 (v := .ref (h 11)) rfl dX4_many_57 rfl ?_
        refine j_callVi_ro 63 C (List.take 11 (wM G h f v)) (List.drop 21 (wM G h f v)) (As := []) (m_X1_mutants G (sb h 11) (sb f 5) (sb v 11) hq) oX1_mutants kX4_86 ⟨rfl, rfl⟩ eX1_mutants ⟨Nat.le_of_ble_eq_true rfl, Nat.le_of_ble_eq_true rfl⟩ ⟨Nat.zero_le _, Nat.zero_le _⟩ rfl (fun _ _ => rfl) 0 rfl rfl rfl (Nat.le_of_ble_eq_true rfl) dX4_many_60 rfl (fun r_4 hq => ?_)
        exact hR _ _ _ f v dX4_many_63 hq
      · replace hq := hq.2 c_3
        by_cases c_5 : p0 = (3 : Int32)
        · replace hq := hq.1 c_5
          refine j_tableIn 64 C (3 : Int32) dX4_many_1 c_5 (by decide) (by decide) rfl rfl ?_
          refine j_aload_n 65 C dX4_many_64 rfl 0 rfl ?_
          refine j_callVr 68 C [] [] (fun f' v' => (wM G h f' v')) (As := []) (m_X4_killsNow G h f v hq) oX4_killsNow kX4_149 ⟨rfl, rfl⟩ eX4_killsNow ⟨Nat.le_of_ble_eq_true rfl, Nat.le_of_ble_eq_true rfl⟩ ⟨Nat.zero_le _, Nat.zero_le _⟩ (List.append_nil _).symm (fun _ _ => List.append_nil _) (fun _ _ => rfl) 0 rfl rfl rfl (Nat.le_of_ble_eq_true rfl) dX4_many_65 rfl (fun f_7 v_8 hq => ?_)
          refine j_get 71 C uX0 43 rfl rfl 6 (Nat.le_of_ble_eq_true rfl) lX4_213 (v := .int (v_8 21)) rfl dX4_many_68 rfl ?_
          refine j_callSi 74 C [] (wM G h f_7 v_8) (fun _ _ => (wM G h f_7 v_8)) (As := [.int (v_8 21)]) (m_J6_bitCount_0f7a4 G (v_8 21) hq) oJ6_bitCount_0f7a4 kX4_197 ⟨rfl, rfl⟩ eJ6_bitCount_0f7a4 ⟨Nat.le_of_ble_eq_true rfl, Nat.le_of_ble_eq_true rfl⟩ ⟨Nat.zero_le _, Nat.zero_le _⟩ rfl (fun _ _ => rfl) (fun _ _ => rfl) rfl (Nat.le_of_ble_eq_true rfl) dX4_many_71 rfl (fun r_9 _ _ hq => ?_)
          exact hR _ _ _ f_7 v_8 dX4_many_74 hq
        · replace hq := hq.2 c_5
          by_cases c_10 : p0 = (4 : Int32)
          · replace hq := hq.1 c_10
            refine j_tableIn 75 C (4 : Int32) dX4_many_1 c_10 (by decide) (by decide) rfl rfl ?_
            refine j_aload_n 76 C dX4_many_75 rfl 0 rfl ?_
            refine j_get 79 C uX4 0 rfl rfl 1 (Nat.le_of_ble_eq_true rfl) lX4_21 (v := .ref (h 11)) rfl dX4_many_76 rfl ?_
            refine j_callVi 82 C (List.take 11 (wM G h f v)) (List.drop 21 (wM G h f v)) (fun f' v' => (wM G h (mg f 5 9 f') (mg v 11 2 v'))) (As := []) (m_X1_countEqual G (sb h 11) (sb f 5) (sb v 11) hq) oX1_countEqual kX4_278 ⟨rfl, rfl⟩ eX1_countEqual ⟨Nat.le_of_ble_eq_true rfl, Nat.le_of_ble_eq_true rfl⟩ ⟨Nat.zero_le _, Nat.zero_le _⟩ rfl (fun _ _ => rfl) (fun _ _ => rfl) 0 rfl rfl rfl (Nat.le_of_ble_eq_true rfl) dX4_many_79 rfl (fun r_11 f_12 v_13 hq => ?_)
            obtain ⟨f_14, ef_14⟩ : ∃ y : FF, y = mg f 5 9 f_12 := ⟨_, rfl⟩
            obtain ⟨v_15, ev_15⟩ : ∃ y : VV, y = mg v 11 2 v_13 := ⟨_, rfl⟩
            replace hq := hq f_14 ef_14 v_15 ev_15
            refine J.w0 (ws' := (wM G h f_14 v_15)) (by subst ef_14; subst ev_15; rfl) ?_
            exact hR _ _ _ f_14 v_15 dX4_many_82 hq
          · replace hq := hq.2 c_10
            by_cases c_16 : p0 = (5 : Int32)
            · replace hq := hq.1 c_16
              refine j_tableIn 83 C (5 : Int32) dX4_many_1 c_16 (by decide) (by decide) rfl rfl ?_
              refine j_aload_n 84 C dX4_many_83 rfl 0 rfl ?_
              refine j_get 87 C uX4 0 rfl rfl 6 (Nat.le_of_ble_eq_true rfl) lX4_83 (v := .int (v 0)) rfl dX4_many_84 rfl ?_
              exact hR _ _ _ f v dX4_many_87 hq
            · replace hq := hq.2 c_16
              have zc_1 := ne_toInt (z := 0) (by decide) c_1
              have zc_2 := ne_toInt (z := 1) (by decide) c_2
              have zc_3 := ne_toInt (z := 2) (by decide) c_3
              have zc_5 := ne_toInt (z := 3) (by decide) c_5
              have zc_10 := ne_toInt (z := 4) (by decide) c_10
              have zc_16 := ne_toInt (z := 5) (by decide) c_16
              refine j_tableOut 88 C dX4_many_1 (by omega) rfl ?_
              refine j_bipush 90 C dX4_many_88 rfl bc_m2 ?_
              exact hR _ _ _ f v dX4_many_90 hq
