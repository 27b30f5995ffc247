/-! ===== counts: log, hardest, many, score ===== -/
theorem any_kls {n t : Nat} {p : FF} {g : FF} (h : Agree n t p (sb g 3)) (ht : t ≤ 7) {q : Nat} (hq : q < 4 * n) : (List.range t).any (fun i => kt' p n i q) = decide (¬ kls g n t q = 0) := by
  rw [← kls_eq h hq]
  by_cases hz : bs (fun i => kt' p n i q) t = 0
  · rw [decide_eq_false (not_not_intro hz)]
    rw [bs_zero (by omega)] at hz
    rw [List.any_eq_false]
    intro x hx c
    have e : kt' p n x q = false := hz x (List.mem_range.mp hx)
    rw [e] at c
    exact absurd c (by decide)
  · rw [decide_eq_true hz, List.any_eq_true]
    have : ∃ i, i < t ∧ kt' p n i q = true := by
      apply Classical.byContradiction
      intro c
      refine hz ((bs_zero (by omega)).mpr (fun k hk => ?_))
      cases hb : kt' p n k q with
      | false => rfl
      | true => exact absurd ⟨k, hk, hb⟩ c
    obtain ⟨i, hi, e⟩ := this
    exact ⟨i, List.mem_range.mpr hi, e⟩
theorem kd_ct {n t : Nat} {p : FF} {g : FF} (h : Agree n t p (sb g 3)) (hn : n ≤ 5) (ht : t ≤ 7) : pcnt (bs (fun q => (List.range t).any (fun i => kt' p n i q)) (4 * n)) = nI (fb_ct (fun q => decide (¬ kls g n t q = 0)) (4 * n)) := by
  rw [pcnt_bs _ (by omega)]
  congr 1
  exact fb_ct_cong (fun q hq => any_kls h ht hq)
theorem anyK_cnt (f : FF) (n q : Nat) : ∀ k, anyK f n k q = decide (¬ cntK f n q k = 0)
  | 0 => by simp [anyK, cntK]
  | k + 1 => by
    rw [anyK_s, cntK, anyK_cnt f n q k]
    cases kill (f 0) (f 1) (f 2) n (nI (k / 10)) (nI (k % 10)) q <;> simp
theorem ue_ct {n t : Nat} {p : FF} {g : FF} (h : Agree n t p (sb g 3)) : fb_ct (eqM (sb g 3) n) (4 * n) + fb_ct (anyK p n 100) (4 * n) = 4 * n := by
  have e := fb_ct_not (eqM (sb g 3) n) (4 * n)
  have c : fb_ct (anyK p n 100) (4 * n) = fb_ct (fun k => !eqM (sb g 3) n k) (4 * n) := fb_ct_cong (fun q hq => by
    rw [anyK_cnt, ag_cnt h hq 100]
    unfold eqM
    rw [decide_not])
  rw [c]; exact e
theorem hard_hd5 {t : Nat} {B : Nat → Int32} {P : Nat → Nat → Bool} (ht : t ≤ 7) : ∀ k, (∀ q, q < k → B q = bs (P q) t) → (hd5 B k = none ∧ hard B k = (-9, 8)) ∨ ∃ a, a < k ∧ hd5 B k = some a ∧ hard B k = (nI a, pcnt (B a))
  | 0, _ => Or.inl ⟨rfl, rfl⟩
  | k + 1, h => by
    have cnt : ∀ q, q < k + 1 → pcnt (B q) = nI (fb_ct (P q) t) ∧ sz (B q) = nI (fb_ct (P q) t) := fun q hq => by
      rw [h q hq]; exact ⟨pcnt_bs _ (by omega), sz_bs _ (by omega)⟩
    have le : ∀ q, fb_ct (P q) t ≤ 7 := fun q => Nat.le_trans (fb_ct_le (P q) t) ht
    have lk := le k
    have hk := h k (by omega)
    have ck := (cnt k (by omega)).1
    have sk := (cnt k (by omega)).2
    have ih := hard_hd5 ht k (fun q hq => h q (by omega))
    by_cases hz : B k = 0
    · have z : fb_ct (P k) t = 0 := by rw [hk] at hz; exact fb_ct_zero.mpr ((bs_zero (by omega)).mp hz)
      have e1 : hd5 B (k + 1) = hd5 B k := by rw [hd5, if_pos hz]
      have e2 : hard B (k + 1) = hard B k := by rw [hard, if_pos (Or.inl (by rw [ck, z]; decide))]
      rw [e1, e2]
      rcases ih with h1 | ⟨a, ha, h1⟩
      · exact Or.inl h1
      · exact Or.inr ⟨a, by omega, h1⟩
    · have pos : 0 < fb_ct (P k) t := Nat.pos_of_ne_zero (fun z => hz (by rw [hk]; exact (bs_zero (by omega)).mpr (fb_ct_zero.mp z)))
      have n1 : ¬ nI (fb_ct (P k) t) ≤ 0 := nI_nle pos (by omega)
      rcases ih with ⟨e1, e2⟩ | ⟨a, ha, e1, e2⟩
      · refine Or.inr ⟨k, by omega, by simp [hd5, hz, e1], ?_⟩
        rw [hard, e2, if_neg]
        intro z
        rw [ck] at z
        rcases z with z | z
        · exact n1 z
        · have z : nI 8 ≤ nI (fb_ct (P k) t) := z
          rw [le_nI (by omega) (by omega)] at z
          omega
      · have ca := (cnt a (by omega)).1
        have sa := (cnt a (by omega)).2
        have la := le a
        by_cases c : fb_ct (P a) t ≤ fb_ct (P k) t
        · refine Or.inr ⟨a, by omega, ?_, ?_⟩
          · rw [hd5, if_neg hz, e1]
            show (if sz (B a) ≤ sz (B k) then some a else some k) = some a
            rw [if_pos (by rw [sa, sk]; exact (le_nI (by omega) (by omega)).mpr c)]
          · rw [hard, e2, if_pos (Or.inr ?_)]
            show pcnt (B a) ≤ pcnt (B k)
            rw [ca, ck]; exact (le_nI (by omega) (by omega)).mpr c
        · refine Or.inr ⟨k, by omega, ?_, ?_⟩
          · rw [hd5, if_neg hz, e1]
            show (if sz (B a) ≤ sz (B k) then some a else some k) = some k
            rw [if_neg (by rw [sa, sk]; exact fun z => c ((le_nI (by omega) (by omega)).mp z))]
          · rw [hard, e2, if_neg]
            rintro (z | z)
            · rw [ck] at z; exact n1 z
            · have z : pcnt (B a) ≤ pcnt (B k) := z
              rw [ca, ck] at z
              exact c ((le_nI (by omega) (by omega)).mp z)
theorem op2_hardest (f : FF) (v : VV) (g : FF) (u : VV) (h : Rel0 f v g u) : Q_X4_hardest f v (fun r f1 v1 => Q_X5_hardest g u (fun r' g1 u1 => r = r' ∧ Rel0 f1 v1 g1 u1)) := by
  obtain ⟨n, t, P1, P2, P3, P4, P5⟩ := h.2.1
  have ht := P1.2.1
  refine q_isEmpty P1 (fun e => yes1 ⟨fun c => absurd ((n0 P2.1 P2.2.2.1).mpr e) c, fun _ => ⟨rfl, h⟩⟩) (fun e => no0 (q_killsNow P1 (fun f' v' hc hK => q_hardestMutant hK.1 ?_)))
  refine q5_hardest P2 e (fun g' he => ⟨?_, h.fr hc he⟩)
  have hB : ∀ q, q < 4 * n → sb f' 33 1 q = bs (fun i => kt' (sb f 5) n i q) t := fun q hq => hK.2.2.2.1 q hq
  rw [hd5_cong (B := kls g n t) (B' := sb f' 33 1) (fun q hq => by rw [hB q hq, kls_eq P4 hq])]
  rcases hard_hd5 (P := fun q i => kt' (sb f 5) n i q) ht (4 * n) hB with ⟨e1, e2⟩ | ⟨a, _, e1, e2⟩
  · rw [e1, e2]; rfl
  · rw [e1, e2]; rfl
theorem op2_log (p0 : Int32) (f : FF) (v : VV) (g : FF) (u : VV) (h : Rel0 f v g u) : Q_X4_log p0 f v (fun r f1 v1 => Q_X5_log p0 g u (fun r' g1 u1 => r = r' ∧ Rel0 f1 v1 g1 u1)) := by
  obtain ⟨n, t, P1, P2, P3, P4, P5⟩ := h.2.1
  have hn := P1.1
  have ht := P1.2.1
  refine q_hasTest P1 (fun k hk ek => yes1' ?_) (fun hk => no0' (q5_isTest0 P2 hk (no0' ⟨rfl, h⟩)))
  subst ek
  have vk : vp_in (nI k) 7 := vi_nI (by omega) (by omega)
  have e8 : f 8 k = g 6 k := (P4.2 k hk).1
  refine ⟨vk, ?_⟩
  have st : ∀ (v2 : VV) (u2 : VV) (x : Int32), v2 = fu v 1 (31 * v 1 + x) → u2 = fu u 1 (31 * u 1 + x) → Rel0 f v2 g u2 := by
    intro v2 u2 x e1 e2
    rw [e1, e2, show v 1 = u 1 from h.2.2.2.1]
    exact h.trace _
  rw [nI_clamp (by omega), e8]
  refine ⟨fun c v2 ev2 => ?_, fun c v2 ev2 => ?_⟩
  · have P1' : PI n t (sb f 5) (sb v2 11) := P1.rows (fun _ _ => rfl) (by rw [sb_add, ev2, fu_ne (by decide)]; rfl) (by rw [sb_add, ev2, fu_ne (by decide)]; rfl)
    refine q_killedByTest P1' hk (fun f' hf' f7 ef v8 ev => q_bitCount ?_)
    refine q5_isTest1 P2 hk (yes1' ⟨vk, ?_⟩)
    rw [nI_clamp (by omega)]
    refine ⟨fun _ u2 eu2 => ⟨vk, fun _ => ?_, fun z => absurd z c⟩, fun z => absurd z c⟩
    have P2' : PI n t (sb g 3) (sb u2 2) := P2.rows (fun _ _ => rfl) (by rw [sb_add, eu2, fu_ne (by decide)]; rfl) (by rw [sb_add, eu2, fu_ne (by decide)]; rfl)
    refine q5_findKillers P2' (fun g' hs hB => ?_)
    have P2'' : PI n t (sb g' 3) (sb u2 2) := P2'.rows (fun j hj => hs.pv j (by omega)) rfl rfl
    exact q5_killedBy P2'' (by omega) (q5_size ⟨(pcnt_sz (kt' (sb f 5) n k) (m := 4 * n) (by omega)).trans (congrArg sz (kB_eq P4 hn ht hk hB)), (st v2 u2 4 ev2 eu2).fr ((back_fb hf' ef ev).1.fc (by decide)) hs.fe⟩)
  · refine q5_isTest1 P2 hk (yes1' ⟨vk, ?_⟩)
    rw [nI_clamp (by omega)]
    exact ⟨fun z => absurd c z, fun _ u2 eu2 => ⟨vk, fun z => absurd c z, fun _ => ⟨rfl, st v2 u2 5 ev2 eu2⟩⟩⟩
theorem op2_many (p0 : Int32) (f : FF) (v : VV) (g : FF) (u : VV) (h : Rel0 f v g u) : Q_X4_many p0 f v (fun r f1 v1 => Q_X5_many p0 g u (fun r' g1 u1 => r = r' ∧ Rel0 f1 v1 g1 u1)) := by
  obtain ⟨n, t, P1, P2, P3, P4, P5⟩ := h.2.1
  obtain ⟨c8, r1, r2, r3, r4⟩ := h.2.2.1
  have hn := P1.1
  have ht := P1.2.1
  have en : v 11 = u 2 := P1.2.2.1.trans P2.2.2.1.symm
  have et : v 12 = u 3 := P1.2.2.2.1.trans P2.2.2.2.1.symm
  have e8 : v 0 = u 8 := r2.trans r3.symm
  have fin : ∀ (r : Int32) (f1 : FF) (v1 : VV), FC f v f1 v1 → (p0 = 0 → r = u 2) → (p0 = 1 → r = u 3) → (p0 = 2 → r = nI (4 * n)) → (p0 = 3 → r = nI (fb_ct (fun q => decide (¬ kls g n t q = 0)) (4 * n))) → (p0 = 4 → r = nI (fb_ct (eqM (sb g 3) n) (4 * n))) → (p0 = 5 → r = u 8) → (¬ p0 = 0 → ¬ p0 = 1 → ¬ p0 = 2 → ¬ p0 = 3 → ¬ p0 = 4 → ¬ p0 = 5 → r = -2) → Q_X5_many p0 g u (fun r' g1 u1 => r = r' ∧ Rel0 f1 v1 g1 u1) := by
    intro r f1 v1 hc a0 a1 a2 a3 a4 a5 a6
    have z : Rel0 f1 v1 g u := h.fr hc FE.rf
    refine ⟨fun c => ⟨a0 c, z⟩, fun c0 => ⟨fun c => ⟨a1 c, z⟩, fun c1 => ⟨fun c => q5_mutants P2 ⟨a2 c, z⟩, fun c2 => ⟨fun c => q5_findKillers P2 (fun g' hs hB => q5_killed (P2.rows (fun j hj => hs.pv j (by omega)) rfl rfl) ⟨?_, h.fr hc hs.fe⟩), fun c3 => ⟨fun c => q5_manyEqual P2 (fun g' hs => ⟨a4 c, h.fr hc hs.fe⟩), fun c4 => ⟨fun c => ⟨a5 c, z⟩, fun c5 => ⟨a6 c0 c1 c2 c3 c4 c5, z⟩⟩⟩⟩⟩⟩⟩
    rw [a3 c]
    congr 1
    exact fb_ct_cong (fun q hq => by rw [hB q hq])
  have nx : ∀ {a b : Int32}, p0 = a → ¬ a = b → ¬ p0 = b := fun e ne z => ne (e.symm.trans z)
  refine ⟨fun c => fin _ _ _ FC.rf (fun _ => en) (fun z => absurd z (nx c (by decide))) (fun z => absurd z (nx c (by decide))) (fun z => absurd z (nx c (by decide))) (fun z => absurd z (nx c (by decide))) (fun z => absurd z (nx c (by decide))) (fun z => absurd c z), fun c0 => ⟨fun c => fin _ _ _ FC.rf (fun z => absurd z c0) (fun _ => et) (fun z => absurd z (nx c (by decide))) (fun z => absurd z (nx c (by decide))) (fun z => absurd z (nx c (by decide))) (fun z => absurd z (nx c (by decide))) (fun _ z => absurd c z), fun c1 => ⟨fun c => q_mutants P1 (fin _ _ _ FC.rf (fun z => absurd z c0) (fun z => absurd z c1) (fun _ => rfl) (fun z => absurd z (nx c (by decide))) (fun z => absurd z (nx c (by decide))) (fun z => absurd z (nx c (by decide))) (fun _ _ z => absurd c z)), fun c2 => ⟨fun c => q_killsNow P1 (fun f' v' hc hK => q_bitCount (fin _ _ _ hc (fun z => absurd z c0) (fun z => absurd z c1) (fun z => absurd z c2) (fun _ => ?_) (fun z => absurd z (nx c (by decide))) (fun z => absurd z (nx c (by decide))) (fun _ _ _ z => absurd c z))), fun c3 => ⟨fun c => q_mutants P1 (q_unequalMutants P1 (fun f' hf' => q_bitCount (fun f14 ef v15 ev => fin _ _ _ ((back_fb hf' ef ev).1.fc (by decide)) (fun z => absurd z c0) (fun z => absurd z c1) (fun z => absurd z c2) (fun z => absurd z c3) (fun _ => ?_) (fun z => absurd z (nx c (by decide))) (fun _ _ _ _ z => absurd c z)))), fun c4 => ⟨fun c => fin _ _ _ FC.rf (fun z => absurd z c0) (fun z => absurd z c1) (fun z => absurd z c2) (fun z => absurd z c3) (fun z => absurd z c4) (fun _ => e8) (fun _ _ _ _ _ z => absurd c z), fun c5 => fin _ _ _ FC.rf (fun z => absurd z c0) (fun z => absurd z c1) (fun z => absurd z c2) (fun z => absurd z c3) (fun z => absurd z c4) (fun z => absurd z c5) (fun _ _ _ _ _ _ => rfl)⟩⟩⟩⟩⟩⟩
  · rw [hK.2.2.2.2]; exact kd_ct P4 hn ht
  · have e := ue_ct P4
    rw [pcnt_bs _ (by omega), nI_sub (by omega)]
    congr 1
    omega
theorem op2_score (p0 : Int32) (f : FF) (v : VV) (g : FF) (u : VV) (h : Rel0 f v g u) : Q_X4_score p0 f v (fun r f1 v1 => Q_X5_score p0 g u (fun r' g1 u1 => r = r' ∧ Rel0 f1 v1 g1 u1)) := by
  obtain ⟨n, t, P1, P2, P3, P4, P5⟩ := h.2.1
  have hn := P1.1
  have ht := P1.2.1
  refine q_isWithin (fun a b => yes1 ?_) (fun a => no0 (q5_within0 a (no0 ⟨rfl, h⟩)))
  refine q_isEmpty P1 (fun e => yes1 (q5_within1 a b (yes1 ⟨fun c => absurd ((n0 P2.1 P2.2.2.1).mpr e) c, fun _ => ⟨rfl, h⟩⟩))) (fun e => no0 (q_killsNow P1 (fun f' v' hc hK => q_bitCount ?_)))
  have P1' : PI n t (sb f' 5) (sb v' 11) := P1.rows (fun j hj => hc.1 (5 + j) (by omega)) (hc.2 11 (by decide)) (hc.2 12 (by decide))
  have P4' : Agree n t (sb f' 5) (sb g 3) := P4.of (fun r hr => hc.1 (5 + r) (by omega)) (fun _ _ => rfl)
  refine q_unequalMutants P1' (fun f2 hf2 f12 ef v13 ev => q_bitCount ?_)
  have hc2 : FC f v f12 v13 := hc.tr ((back_fb hf2 ef ev).1.fc (by decide))
  have ue := ue_ct P4'
  have lk := fb_ct_le (fun q => decide (¬ kls g n t q = 0)) (4 * n)
  rw [hK.2.2.2.2, kd_ct P4 hn ht, pcnt_bs _ (by omega)]
  refine q_share (by omega) (by omega) ?_
  refine q5_within1 a b (yes1 ⟨fun _ => q5_findKillers P2 (fun g' hs hB => ?_), fun c => absurd ((n0 P2.1 P2.2.2.1).mp c) e⟩)
  have P2' : PI n t (sb g' 3) (sb u 2) := P2.rows (fun j hj => hs.pv j (by omega)) rfl rfl
  refine q5_mutants P2' (q5_manyEqual P2' (fun g2 hs2 x ex => ?_))
  have ee : fb_ct (eqM (sb g' 3) n) (4 * n) = fb_ct (eqM (sb g 3) n) (4 * n) := fb_ct_cong (fun k hk => by unfold eqM; rw [cntK_rows (fun j hj => hs.pv j hj)])
  rw [ee, nI_sub (by omega)] at ex
  have P2'' : PI n t (sb g2 3) (sb u 2) := P2'.rows (fun j hj => hs2.pv j (by omega)) rfl rfl
  have z : Rel0 f12 v13 g2 u := h.fr hc2 (hs.fe.tr hs2.fe)
  have eb : 4 * n - fb_ct (eqM (sb g 3) n) (4 * n) = fb_ct (anyK (sb f' 5) n 100) (4 * n) := by omega
  rw [eb] at ex
  have ek : fb_ct (fun q => decide (¬ g2 13 q = 0)) (4 * n) = fb_ct (fun q => decide (¬ kls g n t q = 0)) (4 * n) := fb_ct_cong (fun q hq => by rw [hs2 13 (by decide), hB q hq])
  have x0 : x = 0 ↔ fb_ct (anyK (sb f' 5) n 100) (4 * n) = 0 := by rw [ex]; exact nI_eq (b := 0) (by omega) (by omega)
  refine ⟨fun c => q5_killed P2'' ?_, fun c => ⟨?_, z⟩⟩
  · have c0 : ¬ fb_ct (anyK (sb f' 5) n 100) (4 * n) = 0 := fun z => c (x0.mpr z)
    rw [ek, ex, i2l (by omega), i2l (by omega)]
    refine q5_inLeastTerms (by omega) (by omega) (by omega) ⟨?_, z⟩
    unfold shr; rw [if_neg c0]
  · unfold shr; rw [if_pos (x0.mp c)]
