/-! ===== a DAY: the answers ===== -/
theorem ag_iff {n t : Nat} {p q : FF} : Agree n t p q ↔ ∀ r, r < 7 → ∀ j, j < (if r < 3 then n else t) → p r j = q r j := by
  constructor
  · intro h r hr j hj
    have hr : r = 0 ∨ r = 1 ∨ r = 2 ∨ r = 3 ∨ r = 4 ∨ r = 5 ∨ r = 6 := by omega
    rcases hr with rfl | rfl | rfl | rfl | rfl | rfl | rfl
    · rw [if_pos (by decide)] at hj; exact (h.1 j hj).1
    · rw [if_pos (by decide)] at hj; exact (h.1 j hj).2.1
    · rw [if_pos (by decide)] at hj; exact (h.1 j hj).2.2
    · rw [if_neg (by decide)] at hj; exact (h.2 j hj).1
    · rw [if_neg (by decide)] at hj; exact (h.2 j hj).2.1
    · rw [if_neg (by decide)] at hj; exact (h.2 j hj).2.2.1
    · rw [if_neg (by decide)] at hj; exact (h.2 j hj).2.2.2
  · intro h
    have a : ∀ r, r < 3 → ∀ k, k < n → p r k = q r k := fun r hr k hk => h r (by omega) k (by rw [if_pos hr]; exact hk)
    have b : ∀ r, ¬ r < 3 → r < 7 → ∀ k, k < t → p r k = q r k := fun r hr hr2 k hk => h r hr2 k (by rw [if_neg hr]; exact hk)
    exact ⟨fun k hk => ⟨a 0 (by decide) k hk, a 1 (by decide) k hk, a 2 (by decide) k hk⟩, fun k hk => ⟨b 3 (by decide) (by decide) k hk, b 4 (by decide) (by decide) k hk, b 5 (by decide) (by decide) k hk, b 6 (by decide) (by decide) k hk⟩⟩
theorem ag_tr {n t : Nat} {p q s : FF} (h : Agree n t p q) (h' : Agree n t q s) : Agree n t p s := ag_iff.mpr (fun r hr j hj => (ag_iff.mp h r hr j hj).trans (ag_iff.mp h' r hr j hj))
theorem ag_fu {n t r : Nat} {p q : FF} {X Y : Nat → Int32} (h : Agree n t p q) (hX : ∀ j, j < (if r < 3 then n else t) → X j = Y j) : Agree n t (fu p r X) (fu q r Y) := by
  refine ag_iff.mpr (fun r' hr' j hj => ?_)
  by_cases e : r' = r
  · subst e
    rw [fu_eq, fu_eq]; exact hX j hj
  · rw [fu_ne e, fu_ne e]; exact ag_iff.mp h r' hr' j hj
theorem actV_ag {n t k : Nat} {x : Int32} {p q : FF} (h : Agree n t p q) : Agree n t (actV k x p) (actV k x q) := by
  have h' := ag_iff.mp h
  unfold actV
  split
  · exact ag_fu h (upd_ag (h' 0 (by decide)))
  · split
    · exact ag_fu h (upd_ag (h' 4 (by decide)))
    · exact ag_fu (ag_fu h (upd_ag (h' 5 (by decide)))) (upd_ag (h' 6 (by decide)))
theorem goV_ag {n t : Nat} {c c' : Nat → Int32} {p q : FF} (h : Agree n t p q) : ∀ i, (∀ j, j < 2 * i → c j = c' j) → Agree n t (goV c i p) (goV c' i q)
  | 0, _ => h
  | i + 1, hc => by
    have ih := goV_ag h i (fun j hj => hc j (by omega))
    rw [goV, goV, hc (2 * i + 1) (by omega), hc (2 * i) (by omega)]
    exact actV_ag ih
theorem VD.ag {n t : Nat} {p q : FF} (h : VD t q) (hA : Agree n t p q) : VD t p := fun j hj => by
  rw [(hA.2 j hj).1, (hA.2 j hj).2.1]; exact h j hj
theorem vd_act {t k : Nat} {x : Int32} {p : FF} (h : VD t p) (hx : 10 ≤ k → k < 20 → ∃ τ, τ < 10 ∧ x = nI τ) : VD t (actV k x p) := by
  unfold actV
  split
  · exact h.of (fu_ne (by decide)) (fu_ne (by decide))
  · rename_i c
    split
    · rename_i c2
      intro j hj
      refine ⟨?_, ?_⟩
      · rw [fu_ne (by decide)]; exact (h j hj).1
      · rw [fu_eq]
        by_cases e : j = k - 10
        · rw [e, upd_eq]; exact hx (by omega) c2
        · rw [upd_ne e]; exact (h j hj).2
    · refine h.of ?_ ?_ <;> rw [fu_ne (by decide), fu_ne (by decide)]
theorem vd_go {t : Nat} {c : Nat → Int32} {p : FF} (h : VD t p) : ∀ i, (∀ j, j < i → okP (c (2 * j)) (c (2 * j + 1))) → VD t (goV c i p)
  | 0, _ => h
  | i + 1, hp => by
    have ih := vd_go h i (fun j hj => hp j (by omega))
    rw [goV]
    obtain ⟨k, ek, hk⟩ := hp i (by omega)
    refine vd_act ih (fun a b => ?_)
    have e2 : (c (2 * i + 1)).toNatClampNeg = k := by rw [ek, nI_clamp (by omega)]
    rw [e2] at a b
    rcases hk with ⟨z, _⟩ | ⟨_, z⟩ | ⟨z, _⟩
    · omega
    · obtain ⟨τ, e, _, hτ⟩ := rngI (a := 1) (b := 9) (by omega) z.1 z.2 (by omega)
      exact ⟨τ, by omega, e⟩
    · omega
/-- what is told of a DAY, in the class's words -/
def tdC (p : FF) (n t : Nat) (w : Int32) : Int32 := if w = 0 then nI (fb_ct (fun q => (List.range t).any (fun i => kt' p n i q)) (4 * n)) else if w = 2 then nI (4 * n - fb_ct (anyK p n 100) (4 * n)) else if w = 3 then nI (fb_ct (least (fun q => bs (fun i => kt' p n i q) t) (4 * n)) (4 * n)) else cwC n t p
theorem tdC_td5 {n t : Nat} {p : FF} {g : FF} {w : Int32} (h : Agree n t p (sb g 3)) (hv : VD t p) (hn : n ≤ 5) (ht : t ≤ 7) : tdC p n t w = td5 g n t w := by
  unfold tdC td5
  rw [cwC_cw5 h hv hn ht, show fb_ct (fun q => (List.range t).any (fun i => kt' p n i q)) (4 * n) = fb_ct (fun q => decide (¬ kls g n t q = 0)) (4 * n) from fb_ct_cong (fun q hq => any_kls h ht hq), show fb_ct (least (fun q => bs (fun i => kt' p n i q) t) (4 * n)) (4 * n) = fb_ct (least (kls g n t) (4 * n)) (4 * n) from fb_ct_cong (fun q hq => least_cong (fun q hq => kls_eq h hq) hq), show 4 * n - fb_ct (anyK p n 100) (4 * n) = fb_ct (eqM (sb g 3) n) (4 * n) from by have := ue_ct h; omega]
section DD
variable {n t : Nat} {f : FF} {v : VV} {posf : Int32 → FF → VV → Prop}
theorem q_ofTrial2 {w : Int32} (hP : PI n t (sb f 14) (sb v 13)) (h1 : w < 10 → ∀ f' v', FB 14 f v f' v' → posf (tdC (sb f 14) n t w) f' v') (h2 : ¬ w < 10 → ∀ j, j < t → w - 10 = nI j → ∀ f' v', FB 14 f v f' v' → posf (out (sb f 14 0) (sb f 14 1) (sb f 14 2) (sb f 14 5 j) (sb f 14 6 j) n) f' v') (h3 : ¬ w < 10 → (∀ j, j < t → w - 10 ≠ nI j) → posf (-9) f v) : Q_X4_ofTrial w f v posf := by
  have hn := hP.1
  refine ⟨fun c => ⟨fun c2 => q_findAt (b := 14) (c := 13) (by decide) (by decide) hP (fun f' v' hF hK => ⟨fun c0 => q_bitCount ?_, fun c0 => ⟨fun c3 => q_countLeast hK.1 ?_, fun c3 => q_light hK (q_wS hK ?_)⟩⟩), fun c2 => q_mutants hP (q_unequalMutants hP (fun f' hf' => q_bitCount (fun f14 ef v15 ev => ?_)))⟩, fun c x ex => ?_⟩
  · have := h1 c f' v' hF
    unfold tdC at this
    rw [if_pos c0] at this
    rw [hK.2.2.2.2, pcnt_bs _ (by omega)]; exact this
  · have := h1 c f' v' hF
    unfold tdC at this
    rw [if_neg c0, if_neg c2, if_pos c3] at this
    rw [show fb_ct (least (sb f' 33 1) (4 * n)) (4 * n) = fb_ct (least (fun q => bs (fun i => kt' (sb f 14) n i q) t) (4 * n)) (4 * n) from fb_ct_cong (fun q hq => least_cong hK.2.2.2.1 hq)]; exact this
  · have := h1 c f' v' hF
    unfold tdC at this
    rw [if_neg c0, if_neg c2, if_neg c3] at this
    exact this
  · have := h1 c f14 v15 (back_fb hf' ef ev).1
    have le := fb_ct_le (anyK (sb f 14) n 100) (4 * n)
    unfold tdC at this
    rw [if_neg (by rw [c2]; decide), if_pos c2] at this
    rw [pcnt_bs _ (by omega), nI_sub le]; exact this
  · refine q_hasTest hP (fun j hj ej => yes1 ?_) (fun hne => no0 (h3 c (fun j hj z => hne j hj (ex.trans z))))
    rw [ej]
    exact q_runTest hP hj (fun f' hf' _ f10 ef v11 ev => h2 c j hj (ex.symm.trans ej) _ _ (back_fb (Sm.of7 hf') ef ev).1)
end DD
/-- what a DAY's answer must be -/
def DR (c : Nat → Int32) (q N T : Nat) (p : FF) (w r : Int32) : Prop :=
  (∀ i, i < q → (∀ j, j < i → okT N T (c (2 * j + 1)).toNatClampNeg = true) → okT N T (c (2 * i + 1)).toNatClampNeg = false → r = if w = 1 then nI i else -100 - nI i) ∧
  ((∀ j, j < q → okT N T (c (2 * j + 1)).toNatClampNeg = true) → (w = 1 → r = -9) ∧ (¬ w = 1 → ∃ P : FF, Agree N T P (goV c q p) ∧ (w < 10 → r = tdC P N T w) ∧ (¬ w < 10 → ∀ j, j < T → w - 10 = nI j → r = out (P 0) (P 1) (P 2) (P 5 j) (P 6 j) N) ∧ (¬ w < 10 → (∀ j, j < T → w - 10 ≠ nI j) → r = -9)))
theorem DR.bad {c : Nat → Int32} {q N T : Nat} {p : FF} {w r : Int32} {i : Nat} (hi : i < q) (h1 : ∀ j, j < i → okT N T (c (2 * j + 1)).toNatClampNeg = true) (h2 : okT N T (c (2 * i + 1)).toNatClampNeg = false) (hr : r = if w = 1 then nI i else -100 - nI i) : DR c q N T p w r := by
  refine ⟨fun i' hi' a b => ?_, fun a => ?_⟩
  · have : i' = i := by
      rcases Nat.lt_trichotomy i' i with z | z | z
      · rw [h1 i' z] at b; exact absurd b (by decide)
      · exact z
      · rw [a i z] at h2; exact absurd h2 (by decide)
    rw [this]; exact hr
  · rw [a i hi] at h2; exact absurd h2 (by decide)
theorem no_ten {p : Int32} {j : Nat} (hj : j < 7) (hp : (0 ≤ p ∧ p ≤ 4) ∨ (10 ≤ p ∧ p ≤ 16)) (e : p - 10 = nI j) : ¬ p < 10 := by
  intro c
  rcases hp with hp | hp
  · obtain ⟨w, rfl, _, hw⟩ := rngI (a := 0) (b := 4) (by omega) hp.1 hp.2 (by omega)
    have := (show ∀ w, w < 5 → ∀ j, j < 7 → ¬ nI w - 10 = nI j by decide +kernel) w (by omega) j hj
    exact this e
  · exact absurd (Int32.lt_of_lt_of_le c hp.1) Int32.lt_irrefl
theorem op2_day (p0 p1 p2 p3 p4 : Int32) (f : FF) (v : VV) (g : FF) (u : VV) (h : Rel0 f v g u) : Q_X4_day p0 p1 p2 p3 p4 f v (fun r f1 v1 => Q_X5_day p0 p1 p2 p3 p4 g u (fun r' g1 u1 => r = r' ∧ Rel0 f1 v1 g1 u1)) := by
  intro v1 ev1
  have h0 := h.fault 0
  rw [← ev1] at h0
  refine q_isSheet (fun k hk ek => yes1' ?_) (fun hk => no0' (fun u1 eu1 => q5_isSheet0 hk (no0' ⟨rfl, by rw [eu1]; exact h0⟩)))
  subst ek
  have vk : vp_in (nI k) 4 := vi_nI (by omega) (by omega)
  refine q_isWithin (fun a b => yes1 ?_) (fun a => no0 (fun u1 eu1 => q5_isSheet1 hk (yes1' (q5_isSort0 a (no0 ⟨rfl, by rw [eu1]; exact h0⟩)))))
  refine q_isWithin (fun c d => yes1 ?_) (fun c => no0 (fun u1 eu1 => q5_isSheet1 hk (yes1' (q5_isSort1 a b (yes1 (q5_within0 c (no0 ⟨rfl, by rw [eu1]; exact h0⟩)))))))
  have main : ((0 ≤ p4 ∧ p4 ≤ 4) ∨ (10 ≤ p4 ∧ p4 ≤ 16)) → (vp_in (nI k) 4 ∧ (Q_X2_faultAs p1 (sb f (1 + k)) (sb v1 (3 + 2 * k)) (fun r_11 => (((¬ r_11 = 0 → (((r_11 = 0 → (Q_X1_isEmpty  (sb f 5) (sb v1 11) (fun r_14 => (((r_14 = 0 → (Q_X4_areActs p2 p3 (sb f (1 + k)) (sb v1 (3 + 2 * k)) (fun r_17 => (((¬ r_17 = 0 → (Q_X4_tryActs k p2 p3 f v1 (fun r_20 f_21 v_22 => (((¬ p4 = (1 : Int32) → (((¬ r_20 = (-9 : Int32) → (Q_X5_day (nI k) p1 p2 p3 p4 g u (fun r' g1 u1 => (-100 : Int32) - r_20 = r' ∧ Rel0 f_21 v_22 g1 u1))) ∧ (r_20 = (-9 : Int32) → (Q_X4_ofTrial p4 f_21 v_22 (fun r_25 f_26 v_27 => (Q_X5_day (nI k) p1 p2 p3 p4 g u (fun r' g1 u1 => r_25 = r' ∧ Rel0 f_26 v_27 g1 u1)))))))) ∧ (p4 = (1 : Int32) → (Q_X5_day (nI k) p1 p2 p3 p4 g u (fun r' g1 u1 => r_20 = r' ∧ Rel0 f_21 v_22 g1 u1)))))))) ∧ (r_17 = 0 → (Q_X5_day (nI k) p1 p2 p3 p4 g u (fun r' g1 u1 => -2 = r' ∧ Rel0 f v1 g1 u1)))))))) ∧ (¬ r_14 = 0 → (Q_X5_day (nI k) p1 p2 p3 p4 g u (fun r' g1 u1 => -3 = r' ∧ Rel0 f v1 g1 u1)))))))) ∧ (¬ r_11 = 0 → (Q_X4_faulted r_11 f v1 (fun r_28 f_29 v_30 => (Q_X5_day (nI k) p1 p2 p3 p4 g u (fun r' g1 u1 => r_28 = r' ∧ Rel0 f_29 v_30 g1 u1)))))))) ∧ (r_11 = 0 → (Q_X2_hasCells p2 ((2 : Int32) * p3) (sb f (1 + k)) (sb v1 (3 + 2 * k)) (fun r_31 => (((¬ r_31 = 0 → (((r_11 = 0 → (Q_X1_isEmpty  (sb f 5) (sb v1 11) (fun r_34 => (((r_34 = 0 → (Q_X4_areActs p2 p3 (sb f (1 + k)) (sb v1 (3 + 2 * k)) (fun r_37 => (((¬ r_37 = 0 → (Q_X4_tryActs k p2 p3 f v1 (fun r_40 f_41 v_42 => (((¬ p4 = (1 : Int32) → (((¬ r_40 = (-9 : Int32) → (Q_X5_day (nI k) p1 p2 p3 p4 g u (fun r' g1 u1 => (-100 : Int32) - r_40 = r' ∧ Rel0 f_41 v_42 g1 u1))) ∧ (r_40 = (-9 : Int32) → (Q_X4_ofTrial p4 f_41 v_42 (fun r_45 f_46 v_47 => (Q_X5_day (nI k) p1 p2 p3 p4 g u (fun r' g1 u1 => r_45 = r' ∧ Rel0 f_46 v_47 g1 u1)))))))) ∧ (p4 = (1 : Int32) → (Q_X5_day (nI k) p1 p2 p3 p4 g u (fun r' g1 u1 => r_40 = r' ∧ Rel0 f_41 v_42 g1 u1)))))))) ∧ (r_37 = 0 → (Q_X5_day (nI k) p1 p2 p3 p4 g u (fun r' g1 u1 => -2 = r' ∧ Rel0 f v1 g1 u1)))))))) ∧ (¬ r_34 = 0 → (Q_X5_day (nI k) p1 p2 p3 p4 g u (fun r' g1 u1 => -3 = r' ∧ Rel0 f v1 g1 u1)))))))) ∧ (¬ r_11 = 0 → (Q_X4_faulted r_11 f v1 (fun r_48 f_49 v_50 => (Q_X5_day (nI k) p1 p2 p3 p4 g u (fun r' g1 u1 => r_48 = r' ∧ Rel0 f_49 v_50 g1 u1)))))))) ∧ (r_31 = 0 → (Q_X4_faulted (3 : Int32) f v1 (fun r_51 f_52 v_53 => (Q_X5_day (nI k) p1 p2 p3 p4 g u (fun r' g1 u1 => r_51 = r' ∧ Rel0 f_52 v_53 g1 u1))))))))))))))) := by
    intro hp
    refine ⟨vk, ?_⟩
    obtain ⟨q, eq, _, hq⟩ := rngI (a := 0) (b := 20) (by omega) c d (by omega)
    subst eq
    rw [show (2 : Int32) * nI q = nI (2 * q) from pk_mul 2 q]
    rcases h0.1 k hk with ⟨n1, n2⟩ | ⟨l, m, hl, hm, a3, a4, a5, a6, a7⟩
    · refine q_faultAs (fun e => ⟨fun _ => ⟨fun z => absurd z (by decide), fun _ v2 ev2 => ?_⟩, fun z => absurd z (by decide)⟩) (fun e => absurd n1 e) (fun e => absurd n1 e)
      exact q5_day1 hk a b c d hp (q5_against1 hk n2 ⟨fun z => absurd z (by decide), fun _ u2 eu2 => ⟨rfl, by rw [ev2, eu2]; exact h0.fault 1⟩⟩)
    have c1 : sb v1 (3 + 2 * k) 1 = nI m := by rw [sb_add, show 3 + 2 * k + 1 = 4 + 2 * k by omega]; exact a5
    have e0 : sb v1 (3 + 2 * k) 0 = nI l := a3
    refine q_faultAs (fun e => absurd (a3.symm.trans e) (l_m1 hl)) (fun _ e => ⟨fun _ => ⟨fun z => absurd z (by decide), fun _ v2 ev2 => ?_⟩, fun z => absurd z (by decide)⟩) (fun _ e => ⟨fun z => absurd rfl z, fun _ => ?_⟩)
    · rw [e0] at e
      exact q5_day1 hk a b c d hp (q5_against2 hk hl a4 e ⟨fun z => absurd z (by decide), fun _ u2 eu2 => ⟨rfl, by rw [ev2, eu2]; exact h0.fault 2⟩⟩)
    rw [e0] at e
    have hn0 : (0 : Int32) ≤ 2 * nI q := by rw [show (2 : Int32) * nI q = nI (2 * q) from pk_mul 2 q]; exact (le_nI (a := 0) (by omega) (by omega)).mpr (by omega)
    have e2q : (2 : Int32) * nI q = nI (2 * q) := pk_mul 2 q
    refine q_hasCells hm c1 (fun i n hin ei en => yes1' ⟨fun _ => ?_, fun z => absurd rfl z⟩) (fun hno => no0' (fun v2 ev2 => ?_))
    rotate_left
    · refine q5_day1 hk a b c d hp (q5_against03 hk hl hm a4 a6 e hn0 (fun z => absurd ?_ hno) (fun _ => ⟨fun z => absurd z (by decide), fun _ u2 eu2 => ⟨rfl, by rw [ev2, eu2]; exact h0.fault 3⟩⟩))
      rw [← e2q]; exact z
    subst ei
    have hnq : n = 2 * q := ((nI_eq (by omega) (by omega)).mp en).symm
    subst hnq
    obtain ⟨N, T, P1, P2, P3, P4, P5⟩ := h0.2.1
    have hN := P1.1
    have hT := P1.2.1
    have ecs : ∀ j, j < 2 * q → cs (f (1 + k)) i j = cs (g 2) (60 * k + i) j := fun j hj => by
      have := a7 (i + j) (by omega)
      rw [← Nat.add_assoc] at this
      exact this
    have okE : (∀ j, j < q → okP (cs (f (1 + k)) i (2 * j)) (cs (f (1 + k)) i (2 * j + 1))) ↔ ∀ j, j < q → okP (cs (g 2) (60 * k + i) (2 * j)) (cs (g 2) (60 * k + i) (2 * j + 1)) :=
      ⟨fun z j hj => by rw [← ecs _ (by omega), ← ecs _ (by omega)]; exact z j hj, fun z j hj => by rw [ecs _ (by omega), ecs _ (by omega)]; exact z j hj⟩
    have fin : ∀ (r : Int32) (f1 : FF) (v2 : VV), FC f v1 f1 v2 → (N = 0 → r = -3) → (N ≠ 0 → (¬ ∀ j, j < q → okP (cs (f (1 + k)) i (2 * j)) (cs (f (1 + k)) i (2 * j + 1))) → r = -2) → (N ≠ 0 → (∀ j, j < q → okP (cs (f (1 + k)) i (2 * j)) (cs (f (1 + k)) i (2 * j + 1))) → DR (cs (f (1 + k)) i) q N T (sb f 5) p4 r) → Q_X5_day (nI k) p1 (nI i) (nI q) p4 g u (fun r' g1 u1 => r = r' ∧ Rel0 f1 v2 g1 u1) := by
      intro r f1 v2 hc z1 z2 z3
      refine q5_day1 hk a b c d hp (q5_against03 hk hl hm a4 a6 e hn0 (fun _ => no0 ⟨fun ne x ex => ?_, fun z => ⟨z1 ((n0 P2.1 P2.2.2.1).mp z), h0.fr hc FE.rf⟩⟩) (fun z => absurd ⟨i, 2 * q, hin, rfl, e2q⟩ z))
      rw [n60] at ex
      subst ex
      have N0 : 0 < N := Nat.pos_of_ne_zero (fun z => ne ((n0 P2.1 P2.2.2.1).mpr z))
      refine ⟨q + 1, q5_dl_loop (by omega) (fun hno _ => ⟨z2 (by omega) (fun z => hno (okE.mp z)), h0.fr hc FE.rf⟩) (fun hok _ => ?_) q 0 (by omega) (fun _ h => absurd h (by omega))⟩
      have hokf := okE.mpr hok
      have D := z3 (by omega) hokf
      refine q5_keep (fun g1 k1 k2 k3 => ?_)
      have P2' : PI N T (sb g1 3) (sb (fu u 0 0) 2) := P2.rows (fun j hj => k1 (3 + j) (by omega)) rfl rfl
      have r2 : g1 2 = g 2 := k1 2 (by decide)
      have P4' : Agree N T (sb f 5) (sb g1 3) := P4.of (fun _ _ => rfl) (fun r hr => k1 (3 + r) (by omega))
      have after : ∀ (g2 : FF) (i' : Nat) (r30 : Int32), Go5 (cs (g1 2) (60 * k + i)) i' g1 g2 →
          (∀ r33 : Int32, (p4 < 10 → r33 = td5 g2 N T p4) → (¬ p4 < 10 → ∀ j, j < T → p4 - 10 = nI j → r33 = out (g2 3) (g2 4) (g2 5) (g2 8 j) (g2 9 j) N) → (¬ p4 < 10 → (∀ j, j < T → p4 - 10 ≠ nI j) → r33 = -9) → (¬ p4 = 1 → (¬ r30 = -9 → r = -100 - r30) ∧ (r30 = -9 → r = r33)) ∧ (p4 = 1 → r = r30)) →
          Q_X5_tellDay p4 g2 (fu u 0 0) (fun r_33 f_34 v_35 => (Q_X5_putBack f_34 v_35 (fun f_37 v_38 => (((¬ p4 = (1 : Int32) → (((¬ r30 = (-9 : Int32) → (r = (-100 : Int32) - r30 ∧ Rel0 f1 v2 f_37 v_38)) ∧ (r30 = (-9 : Int32) → (r = r_33 ∧ Rel0 f1 v2 f_37 v_38))))) ∧ (p4 = (1 : Int32) → (r = r30 ∧ Rel0 f1 v2 f_37 v_38))))))) := by
        intro g2 i' r30 hG HR
        have PG : PI N T (sb g2 3) (sb (fu u 0 0) 2) := hG.pi P2'
        have pbk : ∀ (g3 : FF) (r33 : Int32), (∀ j, j ≠ 12 → j ≠ 13 → g3 j = g2 j) → ((¬ p4 = 1 → (¬ r30 = -9 → r = -100 - r30) ∧ (r30 = -9 → r = r33)) ∧ (p4 = 1 → r = r30)) → Q_X5_putBack g3 (fu u 0 0) (fun f_37 v_38 => (((¬ p4 = (1 : Int32) → (((¬ r30 = (-9 : Int32) → (r = (-100 : Int32) - r30 ∧ Rel0 f1 v2 f_37 v_38)) ∧ (r30 = (-9 : Int32) → (r = r33 ∧ Rel0 f1 v2 f_37 v_38))))) ∧ (p4 = (1 : Int32) → (r = r30 ∧ Rel0 f1 v2 f_37 v_38))))) := by
          intro g3 r33 hs HH
          refine q5_putBack (fun g4 b1 b2 b3 => ?_)
          have r14 : g3 14 = g1 14 := (hs 14 (by decide) (by decide)).trans (hG.2 14 (by omega))
          have z : Rel0 f1 v2 g4 (fu u 0 0) := by
            refine h0.pb hc (fun j hj j3 j7 j8 j9 => ?_) (fun i hi => by rw [b2 i hi, r14]; exact k2 i hi) (fun i hi => by rw [(b3 i hi).1, (b3 i hi).2.1, (b3 i hi).2.2, r14]; exact k3 i hi) (fun _ _ => rfl)
            rw [b1 j j3 j7 j8 j9, hs j (by omega) (by omega)]
            by_cases hj3 : 3 ≤ j ∧ j < 10
            · have hr : j - 3 = 1 ∨ j - 3 = 2 ∨ j - 3 = 3 := by omega
              have := hG.1 (j - 3) (by omega)
              rw [show 3 + (j - 3) = j by omega] at this
              rw [this]
              have G := goV_rest (c := cs (g1 2) (60 * k + i)) (f := sb g1 3) i'
              rcases hr with e | e | e
              · rw [e, G.1, sb_add, k1 _ (by omega)]; congr 1; omega
              · rw [e, G.2.1, sb_add, k1 _ (by omega)]; congr 1; omega
              · rw [e, G.2.2, sb_add, k1 _ (by omega)]; congr 1; omega
            · rw [hG.2 j (by omega), k1 j (by omega)]
          exact ⟨fun c1 => ⟨fun c2 => ⟨(HH.1 c1).1 c2, z⟩, fun c2 => ⟨(HH.1 c1).2 c2, z⟩⟩, fun c1 => ⟨HH.2 c1, z⟩⟩
        refine q5_tellDay PG N0 (fun w g3 hs => pbk g3 _ hs (HR _ (fun _ => rfl) (fun z => absurd w z) (fun z => absurd w z))) (fun j hj ej g3 hs => pbk g3 _ hs (HR _ (fun w => absurd w (no_ten (by omega) hp ej)) (fun _ j' hj' ej' => ?_) (fun _ z => absurd ej (z j hj)))) (fun w hne => pbk g2 _ (fun _ _ _ => rfl) (HR _ (fun z => absurd z w) (fun _ j hj ej => absurd ej (hne j hj)) (fun _ _ => rfl)))
        have : j = j' := (nI_eq (by omega) (by omega)).mp (ej.symm.trans ej')
        rw [this]
      refine q5_goDay P2' (by omega) (by rw [r2]; exact hok) (fun i' g2 hi' hall hbad hG => after g2 i' _ hG (fun r33 _ _ _ => ?_)) (fun g2 hall hG => after g2 q _ hG (fun r33 t1 t2 t3 => ?_))
      · rw [r2] at hall hbad
        have R := D.1 i' hi' (fun j hj => by rw [ecs _ (by omega)]; exact hall j hj) (by rw [ecs _ (by omega)]; exact hbad)
        refine ⟨fun c1 => ⟨fun _ => ?_, fun z => absurd z (n_9 i' (by omega))⟩, fun c1 => ?_⟩
        · rw [R, if_neg c1]
        · rw [R, if_pos c1]
      · rw [r2] at hall hG
        have R := D.2 (fun j hj => by rw [ecs _ (by omega)]; exact hall j hj)
        refine ⟨fun c1 => ⟨fun z => absurd rfl z, fun _ => ?_⟩, fun c1 => R.1 c1⟩
        obtain ⟨P, hA, y1, y2, y3⟩ := R.2 c1
        have HA : Agree N T (goV (cs (f (1 + k)) i) q (sb f 5)) (sb g2 3) := (goV_ag P4' q ecs).of (fun _ _ => rfl) (fun r hr => hG.1 r hr)
        have HP : Agree N T P (sb g2 3) := ag_tr hA HA
        have HV : VD T P := (vd_go P5 q hokf).ag hA
        by_cases w : p4 < 10
        · rw [y1 w, t1 w]; exact tdC_td5 HP HV hN hT
        · by_cases hx : ∃ j, j < T ∧ p4 - 10 = nI j
          · obtain ⟨j, hj, ej⟩ := hx
            have e5 : P 5 j = g2 8 j := (HP.2 j hj).2.2.1
            have e6 : P 6 j = g2 9 j := (HP.2 j hj).2.2.2
            rw [y2 w j hj ej, t2 w j hj ej, e5, e6]
            exact ag_out HP _ _
          · have hne : ∀ j, j < T → p4 - 10 ≠ nI j := fun j hj z => hx ⟨j, hj, z⟩
            rw [y3 w hne, t3 w hne]
    refine q_isEmpty P1 (fun e => yes1 (fin _ _ _ FC.rf (fun _ => rfl) (fun z => absurd e z) (fun z => absurd e z))) (fun ne => no0 ?_)
    refine q_areActs (by omega) (fun hno => no0' (fin _ _ _ FC.rf (fun z => absurd z ne) (fun _ _ => rfl) (fun _ z => absurd z hno))) (fun hok => yes1' ?_)
    refine q_trial P1 (fun f' v' hf hv hP hA => ⟨q + 1, ?_⟩)
    have fk : f' (1 + k) = f (1 + k) := hf _ (by omega)
    have hok' : ∀ i', i' < q → okP (cs (f' (1 + k)) i (2 * i')) (cs (f' (1 + k)) i (2 * i' + 1)) := by rw [fk]; exact hok
    have fc0 : FC f v1 f' v' := ⟨fun j hj => hf j (by omega), fun i hi => hv i (by omega) (by omega)⟩
    have fcG : ∀ (i' : Nat) (f2 : FF) (v2 : VV), GoC (cs (f' (1 + k)) i) i' f' v' f2 v2 → FC f v1 f2 v2 := fun i' f2 v2 hG => fc0.tr ⟨fun j hj => hG.2.1 j (by omega), fun i _ => hG.2.2 i⟩
    refine q_ta_loop hk hP (by omega) hok' (fun i' f2 v2 hi' hall hbad hG => ?_) (fun x f2 v2 hall hG => ?_) q 0 f' v' (by omega) (fun _ h => absurd h (by omega)) ⟨fun _ _ => rfl, fun _ _ => rfl, fun _ => rfl⟩
    · have F := fcG i' f2 v2 hG
      rw [fk] at hall hbad
      exact ⟨fun c1 => ⟨fun _ => fin _ _ _ F (fun z => absurd z ne) (fun _ z => absurd hok z) (fun _ _ => DR.bad hi' hall hbad (by rw [if_neg c1])), fun z => absurd z (n_9 i' (by omega))⟩, fun c1 => fin _ _ _ F (fun z => absurd z ne) (fun _ z => absurd hok z) (fun _ _ => DR.bad hi' hall hbad (by rw [if_pos c1]))⟩
    · have F := fcG q f2 v2 hG
      have PG : PI N T (sb f2 14) (sb v2 13) := hP.rows2 ((hG.1 1 (by decide)).trans (goV_rest q).1) ((hG.1 2 (by decide)).trans (goV_rest q).2.1) (hG.2.2 13) (hG.2.2 14)
      rw [fk] at hall hG
      have nb : ∀ i', i' < q → okT N T (cs (f (1 + k)) i (2 * i' + 1)).toNatClampNeg = false → False := fun i' hi' z => by
        rw [hall i' hi'] at z; exact absurd z (by decide)
      have HA : Agree N T (sb f2 14) (goV (cs (f (1 + k)) i) q (sb f 5)) := (goV_ag hA q (fun _ _ => rfl)).of (fun r hr => hG.1 r hr) (fun _ _ => rfl)
      refine ⟨fun c1 => ⟨fun z => absurd rfl z, fun _ => ?_⟩, fun c1 => fin _ _ _ F (fun z => absurd z ne) (fun _ z => absurd hok z) (fun _ _ => ⟨fun i' hi' _ z => (nb i' hi' z).elim, fun _ => ⟨fun _ => rfl, fun z => absurd c1 z⟩⟩)⟩
      refine q_ofTrial2 PG (fun w f3 v3 hF => fin _ _ _ (F.tr (hF.fc (by decide))) (fun z => absurd z ne) (fun _ z => absurd hok z) (fun _ _ => ⟨fun i' hi' _ z => (nb i' hi' z).elim, fun _ => ⟨fun z => absurd z c1, fun _ => ⟨_, HA, fun _ => rfl, fun z => absurd w z, fun z => absurd w z⟩⟩⟩)) (fun w j hj ej f3 v3 hF => fin _ _ _ (F.tr (hF.fc (by decide))) (fun z => absurd z ne) (fun _ z => absurd hok z) (fun _ _ => ⟨fun i' hi' _ z => (nb i' hi' z).elim, fun _ => ⟨fun z => absurd z c1, fun _ => ⟨_, HA, fun z => absurd z w, fun _ j' hj' ej' => ?_, fun _ z => absurd ej (z j hj)⟩⟩⟩)) (fun w hne => fin _ _ _ F (fun z => absurd z ne) (fun _ z => absurd hok z) (fun _ _ => ⟨fun i' hi' _ z => (nb i' hi' z).elim, fun _ => ⟨fun z => absurd z c1, fun _ => ⟨_, HA, fun z => absurd z w, fun _ j hj ej => absurd ej (hne j hj), fun _ _ => rfl⟩⟩⟩))
      have : j = j' := (nI_eq (by omega) (by omega)).mp (ej.symm.trans ej')
      rw [this]
  rw [nI_clamp (by omega)]
  refine q_isWithin (fun a' b' => yes1' (yes1' (main (Or.inl ⟨a', b'⟩)))) (fun n1 => no0' (q_isWithin (fun a' b' => yes1 (yes1' (main (Or.inr ⟨a', b'⟩)))) (fun n2 => no0 (no0' ?_))))
  intro u1 eu1
  exact q5_isSheet1 hk (yes1' (q5_isSort1 a b (yes1 (q5_within1 c d (yes1 (q5_within0 n1 (no0' (q5_within0 n2 (no0' ⟨rfl, by rw [eu1]; exact h0⟩)))))))))
