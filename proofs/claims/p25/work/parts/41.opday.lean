/-- the reference's DAY, behind its first checks -/
def dB5 (p0 p1 p2 p3 p4 : Int32) (f : FF) (v_1 : VV) (post : Int32 → FF → VV → Prop) : Prop := Q_X5_against p0 p1 p2 ((2 : Int32) * p3) f v_1 (fun r_10 => (((r_10 = 0 → (((¬ (v_1 2) = 0 → (∀ x_13 : Int32, x_13 = (((60 : Int32) * p0) + p2) → (∃ n_20 : Nat, Q_X5_day_L103 p0 p1 p2 p3 p4 r_10 x_13 (fun x_21 f_22 v_23 => (post (-2 : Int32) f_22 v_23)) (fun x_24 f_25 v_26 => (Q_X5_keep  f_25 v_26 (fun f_28 v_29 => (Q_X5_goDay x_13 p3 f_28 v_29 (fun r_30 f_31 v_32 => (Q_X5_tellDay p4 f_31 v_32 (fun r_33 f_34 v_35 => (Q_X5_putBack  f_34 v_35 (fun f_37 v_38 => (((¬ p4 = (1 : Int32) → (((¬ r_30 = (-9 : Int32) → (post ((-100 : Int32) - r_30) f_37 v_38)) ∧ (r_30 = (-9 : Int32) → (post r_33 f_37 v_38))))) ∧ (p4 = (1 : Int32) → (post r_30 f_37 v_38))))))))))))) n_20 (0 : Int32) f v_1))) ∧ ((v_1 2) = 0 → (post (-3 : Int32) f v_1))))) ∧ (¬ r_10 = 0 → (Q_X5_fails r_10 f v_1 (fun r_41 f_42 v_43 => (post r_41 f_42 v_43)))))))
theorem q5_day1 {k : Nat} {p1 p2 p3 p4 : Int32} {g : FF} {u : VV} {post : Int32 → FF → VV → Prop} (hk : k < 4) (a : 0 ≤ p1) (b : p1 ≤ 2) (c : 0 ≤ p3) (d : p3 ≤ 20) (hp : (0 ≤ p4 ∧ p4 ≤ 4) ∨ (10 ≤ p4 ∧ p4 ≤ 16)) (h : dB5 (nI k) p1 p2 p3 p4 g (fu u 0 0) post) : Q_X5_day (nI k) p1 p2 p3 p4 g u post := by
  intro u1 eu1
  rw [← eu1] at h
  refine q5_isSheet1 hk (yes1' (q5_isSort1 a b (yes1 (q5_within1 c d (yes1 (q5_within (fun _ _ => yes1' h) (fun z => no0' ?_)))))))
  rcases hp with hp | hp
  · exact absurd hp z
  · exact q5_within1 hp.1 hp.2 (yes1' h)
theorem op_day (p0 p1 p2 p3 p4 : Int32) (f : FF) (v : VV) (g : FF) (u : VV) (h : Rel0 f v g u) : Q_X4_day p0 p1 p2 p3 p4 f v (fun r f1 v1 => Q_X5_day p0 p1 p2 p3 p4 g u (fun r' g1 u1 => True ∧ Rel0 f1 v1 g1 u1)) := by
  intro v1 ev1
  have h0 := h.fault 0
  rw [← ev1] at h0
  refine q_isSheet (fun k hk ek => yes1' ?_) (fun hk => no0' (fun u1 eu1 => q5_isSheet0 hk (no0' ⟨trivial, by rw [eu1]; exact h0⟩)))
  subst ek
  have vk : vp_in (nI k) 4 := vi_nI (by omega) (by omega)
  refine q_isWithin (fun a b => yes1 ?_) (fun a => no0 (fun u1 eu1 => q5_isSheet1 hk (yes1' (q5_isSort0 a (no0 ⟨trivial, by rw [eu1]; exact h0⟩)))))
  refine q_isWithin (fun c d => yes1 ?_) (fun c => no0 (fun u1 eu1 => q5_isSheet1 hk (yes1' (q5_isSort1 a b (yes1 (q5_within0 c (no0 ⟨trivial, by rw [eu1]; exact h0⟩)))))))
  have main : ((0 ≤ p4 ∧ p4 ≤ 4) ∨ (10 ≤ p4 ∧ p4 ≤ 16)) → (vp_in (nI k) 4 ∧ (Q_X2_faultAs p1 (sb f (1 + k)) (sb v1 (3 + 2 * k)) (fun r_11 => (((¬ r_11 = 0 → (((r_11 = 0 → (Q_X1_isEmpty  (sb f 5) (sb v1 11) (fun r_14 => (((r_14 = 0 → (Q_X4_areActs p2 p3 (sb f (1 + k)) (sb v1 (3 + 2 * k)) (fun r_17 => (((¬ r_17 = 0 → (Q_X4_tryActs k p2 p3 f v1 (fun r_20 f_21 v_22 => (((¬ p4 = (1 : Int32) → (((¬ r_20 = (-9 : Int32) → (Q_X5_day (nI k) p1 p2 p3 p4 g u (fun r' g1 u1 => True ∧ Rel0 f_21 v_22 g1 u1))) ∧ (r_20 = (-9 : Int32) → (Q_X4_ofTrial p4 f_21 v_22 (fun r_25 f_26 v_27 => (Q_X5_day (nI k) p1 p2 p3 p4 g u (fun r' g1 u1 => True ∧ Rel0 f_26 v_27 g1 u1)))))))) ∧ (p4 = (1 : Int32) → (Q_X5_day (nI k) p1 p2 p3 p4 g u (fun r' g1 u1 => True ∧ Rel0 f_21 v_22 g1 u1)))))))) ∧ (r_17 = 0 → (Q_X5_day (nI k) p1 p2 p3 p4 g u (fun r' g1 u1 => True ∧ Rel0 f v1 g1 u1)))))))) ∧ (¬ r_14 = 0 → (Q_X5_day (nI k) p1 p2 p3 p4 g u (fun r' g1 u1 => True ∧ Rel0 f v1 g1 u1)))))))) ∧ (¬ r_11 = 0 → (Q_X4_faulted r_11 f v1 (fun r_28 f_29 v_30 => (Q_X5_day (nI k) p1 p2 p3 p4 g u (fun r' g1 u1 => True ∧ Rel0 f_29 v_30 g1 u1)))))))) ∧ (r_11 = 0 → (Q_X2_hasCells p2 ((2 : Int32) * p3) (sb f (1 + k)) (sb v1 (3 + 2 * k)) (fun r_31 => (((¬ r_31 = 0 → (((r_11 = 0 → (Q_X1_isEmpty  (sb f 5) (sb v1 11) (fun r_34 => (((r_34 = 0 → (Q_X4_areActs p2 p3 (sb f (1 + k)) (sb v1 (3 + 2 * k)) (fun r_37 => (((¬ r_37 = 0 → (Q_X4_tryActs k p2 p3 f v1 (fun r_40 f_41 v_42 => (((¬ p4 = (1 : Int32) → (((¬ r_40 = (-9 : Int32) → (Q_X5_day (nI k) p1 p2 p3 p4 g u (fun r' g1 u1 => True ∧ Rel0 f_41 v_42 g1 u1))) ∧ (r_40 = (-9 : Int32) → (Q_X4_ofTrial p4 f_41 v_42 (fun r_45 f_46 v_47 => (Q_X5_day (nI k) p1 p2 p3 p4 g u (fun r' g1 u1 => True ∧ Rel0 f_46 v_47 g1 u1)))))))) ∧ (p4 = (1 : Int32) → (Q_X5_day (nI k) p1 p2 p3 p4 g u (fun r' g1 u1 => True ∧ Rel0 f_41 v_42 g1 u1)))))))) ∧ (r_37 = 0 → (Q_X5_day (nI k) p1 p2 p3 p4 g u (fun r' g1 u1 => True ∧ Rel0 f v1 g1 u1)))))))) ∧ (¬ r_34 = 0 → (Q_X5_day (nI k) p1 p2 p3 p4 g u (fun r' g1 u1 => True ∧ Rel0 f v1 g1 u1)))))))) ∧ (¬ r_11 = 0 → (Q_X4_faulted r_11 f v1 (fun r_48 f_49 v_50 => (Q_X5_day (nI k) p1 p2 p3 p4 g u (fun r' g1 u1 => True ∧ Rel0 f_49 v_50 g1 u1)))))))) ∧ (r_31 = 0 → (Q_X4_faulted (3 : Int32) f v1 (fun r_51 f_52 v_53 => (Q_X5_day (nI k) p1 p2 p3 p4 g u (fun r' g1 u1 => True ∧ Rel0 f_52 v_53 g1 u1))))))))))))))) := by
    intro hp
    refine ⟨vk, ?_⟩
    obtain ⟨q, eq, _, hq⟩ := rngI (a := 0) (b := 20) (by omega) c d (by omega)
    subst eq
    rw [show (2 : Int32) * nI q = nI (2 * q) from pk_mul 2 q]
    rcases h0.1 k hk with ⟨n1, n2⟩ | ⟨l, m, hl, hm, a3, a4, a5, a6, a7⟩
    · refine q_faultAs (fun e => ⟨fun _ => ⟨fun z => absurd z (by decide), fun _ v2 ev2 => ?_⟩, fun z => absurd z (by decide)⟩) (fun e => absurd n1 e) (fun e => absurd n1 e)
      exact q5_day1 hk a b c d hp (q5_against1 hk n2 ⟨fun z => absurd z (by decide), fun _ u2 eu2 => ⟨trivial, by rw [ev2, eu2]; exact h0.fault 1⟩⟩)
    have c1 : sb v1 (3 + 2 * k) 1 = nI m := by rw [sb_add, show 3 + 2 * k + 1 = 4 + 2 * k by omega]; exact a5
    have e0 : sb v1 (3 + 2 * k) 0 = nI l := a3
    refine q_faultAs (fun e => absurd (a3.symm.trans e) (l_m1 hl)) (fun _ e => ⟨fun _ => ⟨fun z => absurd z (by decide), fun _ v2 ev2 => ?_⟩, fun z => absurd z (by decide)⟩) (fun _ e => ⟨fun z => absurd rfl z, fun _ => ?_⟩)
    · rw [e0] at e
      exact q5_day1 hk a b c d hp (q5_against2 hk hl a4 e ⟨fun z => absurd z (by decide), fun _ u2 eu2 => ⟨trivial, by rw [ev2, eu2]; exact h0.fault 2⟩⟩)
    rw [e0] at e
    have hn0 : (0 : Int32) ≤ 2 * nI q := by rw [show (2 : Int32) * nI q = nI (2 * q) from pk_mul 2 q]; exact (le_nI (a := 0) (by omega) (by omega)).mpr (by omega)
    have e2q : (2 : Int32) * nI q = nI (2 * q) := pk_mul 2 q
    refine q_hasCells hm c1 (fun i n hin ei en => yes1' ⟨fun _ => ?_, fun z => absurd rfl z⟩) (fun hno => no0' (fun v2 ev2 => ?_))
    rotate_left
    · refine q5_day1 hk a b c d hp (q5_against03 hk hl hm a4 a6 e hn0 (fun z => absurd ?_ hno) (fun _ => ⟨fun z => absurd z (by decide), fun _ u2 eu2 => ⟨trivial, by rw [ev2, eu2]; exact h0.fault 3⟩⟩))
      rw [← e2q]; exact z
    subst ei
    have hnq : n = 2 * q := ((nI_eq (by omega) (by omega)).mp en).symm
    subst hnq
    obtain ⟨N, T, P1, P2, P3, P4, P5⟩ := h0.2.1
    have hN := P1.1
    have hT := P1.2.1
    have fin : ∀ (f1 : FF) (v2 : VV), FC f v1 f1 v2 → Q_X5_day (nI k) p1 (nI i) (nI q) p4 g u (fun r' g1 u1 => True ∧ Rel0 f1 v2 g1 u1) := by
      intro f1 v2 hc
      refine q5_day1 hk a b c d hp (q5_against03 hk hl hm a4 a6 e hn0 (fun _ => no0 ⟨fun ne x ex => ?_, fun _ => ⟨trivial, h0.fr hc FE.rf⟩⟩) (fun z => absurd ⟨i, 2 * q, hin, rfl, e2q⟩ z))
      rw [n60] at ex
      subst ex
      have N0 : 0 < N := Nat.pos_of_ne_zero (fun z => ne ((n0 P2.1 P2.2.2.1).mpr z))
      refine ⟨q + 1, q5_dl_loop (by omega) (fun _ _ => ⟨trivial, h0.fr hc FE.rf⟩) (fun hok _ => ?_) q 0 (by omega) (fun _ h => absurd h (by omega))⟩
      refine q5_keep (fun g1 k1 k2 k3 => ?_)
      have P2' : PI N T (sb g1 3) (sb (fu u 0 0) 2) := P2.rows (fun j hj => k1 (3 + j) (by omega)) rfl rfl
      have r2 : g1 2 = g 2 := k1 2 (by decide)
      have after : ∀ (g2 : FF) (i' : Nat) (r30 : Int32), Go5 (cs (g1 2) (60 * k + i)) i' g1 g2 → Q_X5_tellDay p4 g2 (fu u 0 0) (fun r_33 f_34 v_35 => (Q_X5_putBack f_34 v_35 (fun f_37 v_38 => (((¬ p4 = (1 : Int32) → (((¬ r30 = (-9 : Int32) → (True ∧ Rel0 f1 v2 f_37 v_38)) ∧ (r30 = (-9 : Int32) → (True ∧ Rel0 f1 v2 f_37 v_38))))) ∧ (p4 = (1 : Int32) → (True ∧ Rel0 f1 v2 f_37 v_38))))))) := by
        intro g2 i' r30 hG
        have PG : PI N T (sb g2 3) (sb (fu u 0 0) 2) := hG.pi P2'
        have pbk : ∀ g3 : FF, (∀ j, j ≠ 12 → j ≠ 13 → g3 j = g2 j) → Q_X5_putBack g3 (fu u 0 0) (fun f_37 v_38 => (((¬ p4 = (1 : Int32) → (((¬ r30 = (-9 : Int32) → (True ∧ Rel0 f1 v2 f_37 v_38)) ∧ (r30 = (-9 : Int32) → (True ∧ Rel0 f1 v2 f_37 v_38))))) ∧ (p4 = (1 : Int32) → (True ∧ Rel0 f1 v2 f_37 v_38))))) := by
          intro g3 hs
          refine q5_putBack (fun g4 b1 b2 b3 => ?_)
          have r14 : g3 14 = g1 14 := (hs 14 (by decide) (by decide)).trans (hG.2 14 (by omega))
          have z : True ∧ Rel0 f1 v2 g4 (fu u 0 0) := by
            refine ⟨trivial, h0.pb hc (fun j hj j3 j7 j8 j9 => ?_) (fun i hi => by rw [b2 i hi, r14]; exact k2 i hi) (fun i hi => by rw [(b3 i hi).1, (b3 i hi).2.1, (b3 i hi).2.2, r14]; exact k3 i hi) (fun _ _ => rfl)⟩
            rw [b1 j j3 j7 j8 j9, hs j (by omega) (by omega)]
            by_cases hj3 : 3 ≤ j ∧ j < 10
            · have hr : j - 3 = 1 ∨ j - 3 = 2 ∨ j - 3 = 3 := by omega
              have := hG.1 (j - 3) (by omega)
              rw [show 3 + (j - 3) = j by omega] at this
              rw [this]
              have G := goV_rest (c := cs (g1 2) (60 * k + i)) (f := sb g1 3) i'
              rcases hr with e | e | e
              · rw [e, G.1, sb_add, k1 _ (by omega)]; congr 1; omega
              · rw [e, G.2.1, sb_add, k1 _ (by omega)]; congr 1; omega
              · rw [e, G.2.2, sb_add, k1 _ (by omega)]; congr 1; omega
            · rw [hG.2 j (by omega), k1 j (by omega)]
          exact ⟨fun _ => ⟨fun _ => z, fun _ => z⟩, fun _ => z⟩
        exact q5_tellDay PG N0 (fun _ g3 hs => pbk g3 hs) (fun _ _ _ g3 hs => pbk g3 hs) (fun _ _ => pbk g2 (fun _ _ _ => rfl))
      exact q5_goDay P2' (by omega) (by rw [r2]; exact hok) (fun i' g2 _ _ _ hG => after g2 i' _ hG) (fun g2 _ hG => after g2 q _ hG)
    refine q_isEmpty P1 (fun _ => yes1 (fin _ _ FC.rf)) (fun ne => no0 ?_)
    refine q_areActs (by omega) (fun _ => no0' (fin _ _ FC.rf)) (fun hok => yes1' ?_)
    refine q_trial P1 (fun f' v' hf hv hP hA => ⟨q + 1, ?_⟩)
    have fk : f' (1 + k) = f (1 + k) := hf _ (by omega)
    have hok' : ∀ i', i' < q → okP (cs (f' (1 + k)) i (2 * i')) (cs (f' (1 + k)) i (2 * i' + 1)) := by rw [fk]; exact hok
    have fc0 : FC f v1 f' v' := ⟨fun j hj => hf j (by omega), fun i hi => hv i (by omega) (by omega)⟩
    have fcG : ∀ (i' : Nat) (f2 : FF) (v2 : VV), GoC (cs (f' (1 + k)) i) i' f' v' f2 v2 → FC f v1 f2 v2 := fun i' f2 v2 hG => fc0.tr ⟨fun j hj => hG.2.1 j (by omega), fun i _ => hG.2.2 i⟩
    refine q_ta_loop hk hP (by omega) hok' (fun i' f2 v2 hi' _ _ hG => ⟨fun _ => ⟨fun _ => fin _ _ (fcG i' f2 v2 hG), fun z => ?_⟩, fun _ => fin _ _ (fcG i' f2 v2 hG)⟩) (fun x f2 v2 _ hG => ⟨fun _ => ⟨fun z => absurd rfl z, fun _ => ?_⟩, fun _ => fin _ _ (fcG q f2 v2 hG)⟩) q 0 f' v' (by omega) (fun _ h => absurd h (by omega)) ⟨fun _ _ => rfl, fun _ _ => rfl, fun _ => rfl⟩
    · exact absurd z (oI_9' (a := i') (by omega))
    · have PG : PI N T (sb f2 14) (sb v2 13) := hP.rows2 ((hG.1 1 (by decide)).trans (goV_rest q).1) ((hG.1 2 (by decide)).trans (goV_rest q).2.1) (hG.2.2 13) (hG.2.2 14)
      exact q_ofTrial PG (fun r f3 v3 hF => fin _ _ ((fcG q f2 v2 hG).tr (hF.fc (by decide))))
  rw [nI_clamp (by omega)]
  refine q_isWithin (fun a' b' => yes1' (yes1' (main (Or.inl ⟨a', b'⟩)))) (fun n1 => no0' (q_isWithin (fun a' b' => yes1 (yes1' (main (Or.inr ⟨a', b'⟩)))) (fun n2 => no0 (no0' ?_))))
  intro u1 eu1
  exact q5_isSheet1 hk (yes1' (q5_isSort1 a b (yes1 (q5_within1 c d (yes1 (q5_within0 n1 (no0' (q5_within0 n2 (no0' ⟨trivial, by rw [eu1]; exact h0⟩)))))))))
