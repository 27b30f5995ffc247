/-! ===== COVER: the class's and the reference's ===== -/
theorem any_iff {p : Nat → Bool} {t : Nat} : (List.range t).any p = true ↔ ∃ i, i < t ∧ p i = true := by
  rw [List.any_eq_true]
  constructor
  · rintro ⟨x, hx, a⟩; exact ⟨x, List.mem_range.mp hx, a⟩
  · rintro ⟨x, hx, a⟩; exact ⟨x, List.mem_range.mpr hx, a⟩
theorem bs_ne {p : Nat → Bool} {t : Nat} (ht : t ≤ 32) : ¬ bs p t = 0 ↔ (List.range t).any p = true := by
  rw [any_iff, bs_zero ht]
  constructor
  · intro h
    apply Classical.byContradiction
    intro c
    refine h (fun k hk => ?_)
    cases hb : p k with
    | false => rfl
    | true => exact absurd ⟨k, hk, hb⟩ c
  · rintro ⟨i, hi, e⟩ h
    rw [h i hi] at e
    exact absurd e (by decide)
theorem and_bs {p : Nat → Bool} {t : Nat} (ht : t ≤ 32) (S : Int32) : bs p t &&& S = bs (fun i => bt S i && p i) t := by
  apply b_ext
  intro i hi
  rw [b_and, bt_bs _ t ht i hi, bt_bs _ t ht i hi]
  cases decide (i < t) <;> cases p i <;> cases bt S i <;> rfl
theorem bs_inj {p q : Nat → Bool} {m : Nat} (hm : m ≤ 32) (h : bs p m = bs q m) : ∀ k, k < m → p k = q k := by
  intro k hk
  have a := bt_bs p m hm k (by omega)
  have b := bt_bs q m hm k (by omega)
  rw [decide_eq_true hk, Bool.true_and] at a b
  rw [← a, ← b, h]
theorem bit0 (S : Int32) {k : Nat} (hk : k < 32) : ((S >>> (nI k &&& 31)) &&& 1) = 0 ↔ bt S k = false := by
  rw [shr1 S hk]
  cases bt S k <;> simp
theorem unK_bs {P : Nat → Nat → Bool} {m : Nat} (hm : m ≤ 32) {B : Nat → Int32} (S : Int32) : ∀ t, t ≤ 32 → (∀ i, i < t → B i = bs (P i) m) → unK B S t = bs (fun q => (List.range t).any (fun i => bt S i && P i q)) m
  | 0, _, _ => ((bs_zero hm).mpr (fun _ _ => rfl)).symm
  | t + 1, ht, h => by
    have ih := unK_bs hm S t (by omega) (fun i hi => h i (by omega))
    rw [unK, ih]
    by_cases c : ((S >>> (nI t &&& 31)) &&& 1) = 0
    · rw [if_pos c]
      rw [bit0 S (by omega)] at c
      refine bs_cong (fun q _ => ?_)
      rw [List.range_succ, List.any_append]
      simp [c]
    · rw [if_neg c, h t (by omega), bs_or hm]
      rw [bit0 S (by omega)] at c
      refine bs_cong (fun q _ => ?_)
      rw [List.range_succ, List.any_append]
      simp at c
      simp [c]
theorem cov_iff {P : Nat → Nat → Bool} {m t : Nat} (hm : m ≤ 20) (ht : t ≤ 7) {B B' : Nat → Int32} {kd : Int32} (hB : ∀ i, i < t → B i = bs (P i) m) (hk : kd = bs (fun q => (List.range t).any (fun i => P i q)) m) (hB' : ∀ q, q < m → B' q = bs (fun i => P i q) t) (S : Int32) : unK B S t = kd ↔ lft B' S m = 0 := by
  rw [unK_bs (by omega) S t (by omega) hB, hk]
  have e : ∀ q, q < m → decide (¬ B' q = 0 ∧ (B' q &&& S) = 0) = ((List.range t).any (fun i => P i q) && !(List.range t).any (fun i => bt S i && P i q)) := by
    intro q hq
    have a := bs_ne (p := fun i => P i q) (t := t) (by omega)
    have b := bs_ne (p := fun i => bt S i && P i q) (t := t) (by omega)
    rw [hB' q hq, and_bs (by omega) S]
    cases hA : (List.range t).any (fun i => P i q) with
    | false =>
      rw [hA] at a
      rw [decide_eq_false (fun z => absurd (a.mp z.1) (by decide))]; rfl
    | true =>
      cases hC : (List.range t).any (fun i => bt S i && P i q) with
      | false =>
        rw [hC] at b
        exact decide_eq_true ⟨a.mpr hA, Classical.byContradiction (fun z => absurd (b.mp z) (by decide))⟩
      | true => exact decide_eq_false (fun z => b.mpr hC z.2)
  have le : ∀ q, (List.range t).any (fun i => bt S i && P i q) = true → (List.range t).any (fun i => P i q) = true := by
    intro q h
    rw [any_iff] at h ⊢
    obtain ⟨i, hi, z⟩ := h
    rw [Bool.and_eq_true] at z
    exact ⟨i, hi, z.2⟩
  unfold lft
  rw [bs_zero (by omega)]
  constructor
  · intro h q hq
    have := bs_inj (by omega) h q hq
    rw [e q hq, this]
    cases (List.range t).any (fun i => P i q) <;> rfl
  · intro h
    refine bs_cong (fun q hq => ?_)
    have := h q hq
    rw [e q hq] at this
    have l := le q
    revert this l
    cases (List.range t).any (fun i => P i q) <;> cases (List.range t).any (fun i => bt S i && P i q) <;> simp
theorem sumW_rng {W : Nat → Int32} (S : Int32) : ∀ t, t ≤ 7 → (∀ i, i < t → ∃ w, w ≤ 18 ∧ W i = nI w) → ∃ s, s ≤ 18 * t ∧ sumW W S t = nI s
  | 0, _, _ => ⟨0, by omega, rfl⟩
  | t + 1, ht, h => by
    obtain ⟨s, hs, e⟩ := sumW_rng S t (by omega) (fun i hi => h i (by omega))
    obtain ⟨w, hw, ew⟩ := h t (by omega)
    rw [sumW, e, bit_mul _ _ (by omega), ew]
    by_cases c : ((S >>> (nI t &&& 31)) &&& 1) = 1
    · rw [if_pos c, nI_add]; exact ⟨s + w, by omega, rfl⟩
    · rw [if_neg c]; exact ⟨s, by omega, by simp⟩
theorem wgt_n : ∀ κ, κ < 3 → ∀ τ, τ < 10 → wgt (nI κ) (nI τ) = nI (if κ = 0 then τ else if κ = 1 then τ + 1 else 2 * τ) := by decide +kernel
theorem VD.w {t : Nat} {p : FF} (h : VD t p) {i : Nat} (hi : i < t) : ∃ w, w ≤ 18 ∧ wgt (p 3 i) (p 4 i) = nI w := by
  obtain ⟨⟨κ, hκ, e1⟩, τ, hτ, e2⟩ := h i hi
  rw [e1, e2, wgt_n κ hκ τ hτ]
  refine ⟨_, ?_, rfl⟩
  split
  · omega
  · split <;> omega
theorem n_9 : ∀ a, a < 128 → ¬ nI a = -9 := by decide +kernel
theorem light_cov {F : FF} {B' W : Nat → Int32} {P : Nat → Nat → Bool} {m t : Nat} {kd : Int32} (hm : m ≤ 20) (ht : t ≤ 7) (h0 : ∀ i, i < t → F 0 i = bs (P i) m) (h2 : ∀ i, i < t → F 2 i = W i) (hW : ∀ i, i < t → ∃ w, w ≤ 18 ∧ W i = nI w) (hk : kd = bs (fun q => (List.range t).any (fun i => P i q)) m) (hB' : ∀ q, q < m → B' q = bs (fun i => P i q) t) :
    ∀ k, k ≤ 2 ^ t → (light F t kd k = (0, 2147483647) ∧ cov B' W m t k = -9 ∧ ∀ j, j < k → ¬ lft B' (nI j) m = 0) ∨ ∃ a, a < k ∧ light F t kd k = (nI a, sumW W (nI a) t) ∧ cov B' W m t k = nI a
  | 0, _ => Or.inl ⟨rfl, rfl, fun j hj => absurd hj (by omega)⟩
  | k + 1, hk1 => by
    have h128 := two_t ht
    have ih := light_cov hm ht h0 h2 hW hk hB' k (by omega)
    have ci := cov_iff hm ht h0 hk hB' (nI k)
    have e1 : light F t kd (k + 1) = if (light F t kd k).2 ≤ sumW W (nI k) t ∨ ¬ unK (F 0) (nI k) t = kd then light F t kd k else (nI k, sumW W (nI k) t) := by rw [light, sumW_cong (nI k) h2]
    have e2 : cov B' W m t (k + 1) = if ¬ lft B' (nI k) m = 0 then cov B' W m t k else if cov B' W m t k = -9 then nI k else if sumW W (cov B' W m t k) t ≤ sumW W (nI k) t then cov B' W m t k else nI k := by rw [cov]
    rw [e1, e2]
    by_cases hl : lft B' (nI k) m = 0
    · have hu := ci.mpr hl
      rw [if_neg (not_not_intro hl)]
      rcases ih with ⟨a1, a2, _⟩ | ⟨a, ha, a1, a2⟩
      · refine Or.inr ⟨k, by omega, ?_, ?_⟩
        · obtain ⟨s, hs, es⟩ := sumW_rng (nI k) t ht hW
          rw [if_neg]
          rw [a1, es]
          rintro (z | z)
          · have z : nI 2147483647 ≤ nI s := z
            rw [le_nI (by omega) (by omega)] at z
            omega
          · exact z hu
        · rw [if_pos a2]
      · rw [a2, if_neg (n_9 a (by omega))]
        by_cases c : sumW W (nI a) t ≤ sumW W (nI k) t
        · exact Or.inr ⟨a, by omega, by rw [if_pos (Or.inl (by rw [a1]; exact c)), a1], by rw [if_pos c]⟩
        · refine Or.inr ⟨k, by omega, ?_, by rw [if_neg c]⟩
          rw [if_neg]
          rw [a1]
          rintro (z | z)
          · exact c z
          · exact z hu
    · have hu : ¬ unK (F 0) (nI k) t = kd := fun z => hl (ci.mp z)
      rw [if_pos hl, if_pos (Or.inr hu)]
      rcases ih with ⟨a1, a2, a3⟩ | ⟨a, ha, a1, a2⟩
      · refine Or.inl ⟨a1, a2, fun j hj => ?_⟩
        rcases Nat.lt_succ_iff_lt_or_eq.mp hj with hj | rfl
        · exact a3 j hj
        · exact hl
      · exact Or.inr ⟨a, by omega, a1, a2⟩
theorem bt_nI (k : Nat) {i : Nat} (hi : i < 32) : bt (nI k) i = k.testBit i := by
  show (BitVec.ofNat 32 k).getLsbD i = _
  rw [BitVec.getLsbD_ofNat, decide_eq_true hi, Bool.true_and]
theorem light_cov1 {F : FF} {B' W : Nat → Int32} {P : Nat → Nat → Bool} {m t : Nat} {kd : Int32} (hm : m ≤ 20) (ht : t ≤ 7) (h0 : ∀ i, i < t → F 0 i = bs (P i) m) (h2 : ∀ i, i < t → F 2 i = W i) (hW : ∀ i, i < t → ∃ w, w ≤ 18 ∧ W i = nI w) (hk : kd = bs (fun q => (List.range t).any (fun i => P i q)) m) (hB' : ∀ q, q < m → B' q = bs (fun i => P i q) t) :
    ∃ a, a < 128 ∧ (light F t kd (2 ^ t)).1 = nI a ∧ cov B' W m t (2 ^ t) = nI a := by
  have h128 := two_t ht
  have hp : 0 < 2 ^ t := Nat.two_pow_pos t
  rcases light_cov hm ht h0 h2 hW hk hB' (2 ^ t) (Nat.le_refl _) with ⟨_, _, a3⟩ | ⟨a, ha, a1, a2⟩
  · refine absurd ?_ (a3 (2 ^ t - 1) (by omega))
    rw [← cov_iff hm ht h0 hk hB' (nI (2 ^ t - 1)), unK_bs (by omega) _ t (by omega) h0, hk]
    refine bs_cong (fun q _ => any_cong (fun i hi => ?_))
    rw [bt_nI _ (by omega), Nat.testBit_two_pow_sub_one, decide_eq_true hi, Bool.true_and]
  · exact ⟨a, by omega, by rw [a1], a2⟩
theorem lS_cov {n t : Nat} {p : FF} {g : FF} (h : Agree n t p (sb g 3)) (hv : VD t p) (hn : n ≤ 5) (ht : t ≤ 7) : ∃ a, a < 128 ∧ lS n t p = nI a ∧ cov (kls g n t) (fun j => wgt (g 6 j) (g 7 j)) (4 * n) t (2 ^ t) = nI a := by
  have hw : ∀ i, i < t → wgt (p 3 i) (p 4 i) = wgt (g 6 i) (g 7 i) := fun i hi => ag_wgt h hi
  refine light_cov1 (F := kF n p) (P := fun i q => kt' p n i q) (by omega) ht (fun i _ => ?_) (fun i hi => ?_) (fun i hi => ?_) rfl (fun q hq => (kls_eq h hq).symm)
  · unfold kF; rw [if_pos rfl]
  · unfold kF; rw [if_neg (by decide)]; exact hw i hi
  · show ∃ w, w ≤ 18 ∧ wgt (g 6 i) (g 7 i) = nI w
    rw [← hw i hi]; exact hv.w hi
theorem cwC_cw5 {n t : Nat} {p : FF} {g : FF} (h : Agree n t p (sb g 3)) (hv : VD t p) (hn : n ≤ 5) (ht : t ≤ 7) : cwC n t p = cw5 g n t := by
  obtain ⟨a, _, e1, e2⟩ := lS_cov h hv hn ht
  unfold cwC cw5
  rw [e1, e2]
  exact sumW_cong _ (fun i hi => ag_wgt h hi)
theorem ps128 : ∀ a, a < 128 → pcnt (nI a) = sz (nI a) := by decide +kernel
theorem op2_cover (p0 : Int32) (f : FF) (v : VV) (g : FF) (u : VV) (h : Rel0 f v g u) : Q_X4_cover p0 f v (fun r f1 v1 => Q_X5_cover p0 g u (fun r' g1 u1 => r = r' ∧ Rel0 f1 v1 g1 u1)) := by
  obtain ⟨n, t, P1, P2, P3, P4, P5⟩ := h.2.1
  have hn := P1.1
  have ht := P1.2.1
  obtain ⟨s, hs0, es, ec⟩ := lS_cov P4 P5 hn ht
  refine q_isWithin (fun a b => yes1' ?_) (fun a => no0' (q5_within0 a (no0' ⟨rfl, h⟩)))
  refine q_isEmpty P1 (fun e => yes1 (q5_within1 a b (yes1' ⟨fun c => absurd ((n0 P2.1 P2.2.2.1).mpr e) c, fun _ => ⟨rfl, h⟩⟩))) (fun e => no0 (q_killsNow P1 (fun f' v' hc hK => q_light hK ?_)))
  rw [es]
  have fin : ∀ r : Int32, (p0 = 0 → r = nI s) → (¬ p0 = 0 → p0 = 1 → r = sumW (fun j => wgt (g 6 j) (g 7 j)) (nI s) t) → (¬ p0 = 0 → ¬ p0 = 1 → r = sz (nI s)) → Q_X5_cover p0 g u (fun r' g1 u1 => r = r' ∧ Rel0 f' v' g1 u1) := by
    intro r r0 r1 r2
    refine q5_within1 a b (yes1' ⟨fun _ => q5_findKillers P2 (fun g' hs hB => ?_), fun c => absurd ((n0 P2.1 P2.2.2.1).mp c) e⟩)
    have P2' : PI n t (sb g' 3) (sb u 2) := P2.rows (fun j hj => hs.pv j (by omega)) rfl rfl
    have z : Rel0 f' v' g' u := h.fr hc hs.fe
    have e6 := hs 6 (by decide) (by decide)
    have e7 := hs 7 (by decide) (by decide)
    refine q5_findCover P2' ?_
    rw [e6, e7, cov_cong hB, ec]
    refine ⟨fun c0 => ⟨fun c1 => q5_size ⟨r2 c0 c1, z⟩, fun c1 => q5_weightOfSet P2' ⟨?_, z⟩⟩, fun c0 => ⟨r0 c0, z⟩⟩
    rw [e6, e7]; exact r1 c0 c1
  refine ⟨fun c0 => fin _ (fun _ => rfl) (fun z => absurd c0 z) (fun z => absurd c0 z), fun c0 => ⟨fun c1 => q_wS hK (fin _ (fun z => absurd z c0) (fun _ _ => sumW_cong _ (fun i hi => ag_wgt P4 hi)) (fun _ z => absurd c1 z)), fun c1 => q_bitCount (fin _ (fun z => absurd z c0) (fun _ z => absurd z c1) (fun _ _ => ps128 s hs0))⟩⟩
theorem allEq_cong {r r' : Nat → Int32} {w : Int32} : ∀ {c : Nat}, (∀ i, i < c → r i = r' i) → allEq r w c = allEq r' w c
  | 0, _ => rfl
  | c + 1, h => by rw [allEq, allEq, allEq_cong (fun i hi => h i (by omega)), h c (by omega)]
theorem so_eq {n t c : Nat} {r : Nat → Int32} {p : FF} {g : FF} (h : Agree n t p (sb g 3)) (hv : VD t p) (hn : n ≤ 5) (ht : t ≤ 7) (hr : ∀ i, i < c → r i = g 16 i) : soC r p n t c = so5 g n t c := by
  unfold soC so5
  rw [cwC_cw5 h hv hn ht, allEq_cong hr]
theorem op2_kinds (p0 : Int32) (f : FF) (v : VV) (g : FF) (u : VV) (h : Rel0 f v g u) : Q_X4_kinds p0 f v (fun r f1 v1 => Q_X5_kinds p0 g u (fun r' g1 u1 => r = r' ∧ Rel0 f1 v1 g1 u1)) := by
  obtain ⟨n, t, P1, P2, P3, P4, P5⟩ := h.2.1
  obtain ⟨c, r1, r2, r3, r4⟩ := h.2.2.1
  have hn := P1.1
  have ht := P1.2.1
  refine q_hasTest P1 (fun k hk ek => yes1' ?_) (fun hk => no0' (q5_kinds P2 r1 r3 (fun j hj ej => absurd ej (hk j hj)) (fun _ => ⟨rfl, h⟩)))
  subst ek
  refine q_trial P1 (fun f' v' hf hv hP hA => ⟨3 + 1, ?_⟩)
  refine q_kinds_loop (by omega) P1 r1 r2 (fun x f2 v2 hT => ?_) 3 0 f' v' (by omega) ⟨fun j hj => hf j (by omega), fun i hi => hv i (by omega) (by omega)⟩ hP.2.2.1 hP.2.2.2.1 ⟨f 8 k, hA.of (fun _ _ => rfl) (fun r hr => by
    by_cases e : r = 3
    · rw [e, fu_eq, upd_id]; rfl
    · rw [fu_ne e])⟩
  refine q5_kinds P2 r1 r3 (fun j hj ej g' hs => ⟨?_, h.fr hT hs.fe⟩) (fun hne => absurd rfl (hne k hk))
  have ej : k = j := (nI_eq (by omega) (by omega)).mp ej
  subst ej
  refine bs_cong (fun i hi => so_eq ⟨fun q hq => ⟨?_, ?_, ?_⟩, fun q hq => ⟨?_, ?_, ?_, ?_⟩⟩ (fun q hq => ⟨?_, ?_⟩) hn ht (fun q hq => ?_))
  · show fu (sb f 5) 3 _ 0 q = fu g 6 _ 3 q
    rw [fu_ne (by decide), fu_ne (by decide)]; exact (P4.1 q hq).1
  · show fu (sb f 5) 3 _ 1 q = fu g 6 _ 4 q
    rw [fu_ne (by decide), fu_ne (by decide)]; exact (P4.1 q hq).2.1
  · show fu (sb f 5) 3 _ 2 q = fu g 6 _ 5 q
    rw [fu_ne (by decide), fu_ne (by decide)]; exact (P4.1 q hq).2.2
  · show fu (sb f 5) 3 _ 3 q = fu g 6 _ 6 q
    rw [fu_eq, fu_eq]; exact upd_ag (fun q hq => (P4.2 q hq).1) q hq
  · show fu (sb f 5) 3 _ 4 q = fu g 6 _ 7 q
    rw [fu_ne (by decide), fu_ne (by decide)]; exact (P4.2 q hq).2.1
  · show fu (sb f 5) 3 _ 5 q = fu g 6 _ 8 q
    rw [fu_ne (by decide), fu_ne (by decide)]; exact (P4.2 q hq).2.2.1
  · show fu (sb f 5) 3 _ 6 q = fu g 6 _ 9 q
    rw [fu_ne (by decide), fu_ne (by decide)]; exact (P4.2 q hq).2.2.2
  · rw [fu_eq]
    by_cases e : q = k
    · rw [e, upd_eq]; exact ⟨i, hi, rfl⟩
    · rw [upd_ne e]; exact (P5 q hq).1
  · rw [fu_ne (by decide)]; exact (P5 q hq).2
  · rw [fu_ne (by decide)]; exact r4 q hq
theorem op2_ways (p0 : Int32) (f : FF) (v : VV) (g : FF) (u : VV) (h : Rel0 f v g u) : Q_X4_ways p0 f v (fun r f1 v1 => Q_X5_ways p0 g u (fun r' g1 u1 => r = r' ∧ Rel0 f1 v1 g1 u1)) := by
  obtain ⟨n, t, P1, P2, P3, P4, P5⟩ := h.2.1
  obtain ⟨c, r1, r2, r3, r4⟩ := h.2.2.1
  have hn := P1.1
  have ht := P1.2.1
  refine q_hasStep P1 (fun k hk ek => yes1' ?_) (fun hk => no0' (q5_ways P2 r1 r3 (fun j hj ej => absurd ej (hk j hj)) (fun _ => ⟨rfl, h⟩)))
  subst ek
  refine q_trial P1 (fun f' v' hf hv hP hA => ⟨5 + 1, ?_⟩)
  refine q_ways_loop (by omega) P1 r1 r2 (fun x f2 v2 hT => ?_) 5 0 f' v' (by omega) ⟨fun j hj => hf j (by omega), fun i hi => hv i (by omega) (by omega)⟩ hP.2.2.1 hP.2.2.2.1 ⟨f 5 k, hA.of (fun _ _ => rfl) (fun r hr => by
    by_cases e : r = 0
    · rw [e, fu_eq, upd_id]; rfl
    · rw [fu_ne e])⟩
  refine q5_ways P2 r1 r3 (fun j hj ej g' hs => ⟨?_, h.fr hT hs.fe⟩) (fun hne => absurd rfl (hne k hk))
  have ej : k = j := (nI_eq (by omega) (by omega)).mp ej
  subst ej
  refine bs_cong (fun i hi => so_eq ⟨fun q hq => ⟨?_, ?_, ?_⟩, fun q hq => ⟨?_, ?_, ?_, ?_⟩⟩ (P5.of (fu_ne (by decide)) (fu_ne (by decide))) hn ht (fun q hq => ?_))
  · show fu (sb f 5) 0 _ 0 q = fu g 3 _ 3 q
    rw [fu_eq, fu_eq]; exact upd_ag (fun q hq => (P4.1 q hq).1) q hq
  · show fu (sb f 5) 0 _ 1 q = fu g 3 _ 4 q
    rw [fu_ne (by decide), fu_ne (by decide)]; exact (P4.1 q hq).2.1
  · show fu (sb f 5) 0 _ 2 q = fu g 3 _ 5 q
    rw [fu_ne (by decide), fu_ne (by decide)]; exact (P4.1 q hq).2.2
  · show fu (sb f 5) 0 _ 3 q = fu g 3 _ 6 q
    rw [fu_ne (by decide), fu_ne (by decide)]; exact (P4.2 q hq).1
  · show fu (sb f 5) 0 _ 4 q = fu g 3 _ 7 q
    rw [fu_ne (by decide), fu_ne (by decide)]; exact (P4.2 q hq).2.1
  · show fu (sb f 5) 0 _ 5 q = fu g 3 _ 8 q
    rw [fu_ne (by decide), fu_ne (by decide)]; exact (P4.2 q hq).2.2.1
  · show fu (sb f 5) 0 _ 6 q = fu g 3 _ 9 q
    rw [fu_ne (by decide), fu_ne (by decide)]; exact (P4.2 q hq).2.2.2
  · rw [fu_ne (by decide)]; exact r4 q hq
