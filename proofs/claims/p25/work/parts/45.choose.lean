/-! ===== CHOOSING: the class's and the reference's ===== -/
theorem ch5_ct {B W C : Nat → Int32} {m t c : Nat} {mn : Int32} (hm : m ≤ 20) (ht : t ≤ 7) (hB : ∀ q, q < m → ∀ i, bt (B q) i = true → i < t) (h : Ch5 B W m t mn C c) : ∀ k, k ≤ c → fb_ct (fun i => bt (setC C k) i) t = k
  | 0, _ => fb_ct_zero.mpr (fun k _ => b_0 k)
  | k + 1, hk => by
    obtain ⟨hl, a, hat, ha, ec⟩ := h k (by omega)
    obtain ⟨a', _, ha', hb⟩ := pick_new (W := W) (mn := mn) hm ht hB hl
    have e : a = a' := by rw [ha] at ha'; exact Option.some.inj ha'
    subst e
    have ih := ch5_ct hm ht hB h k (by omega)
    have e1 : ∀ i, i < t → bt (setC C (k + 1)) i = (fun j => if j = a then true else bt (setC C k) j) i := by
      intro i hi
      show _ = if i = a then true else bt (setC C k) i
      rw [setC, ec, b_or, b_one (by omega) (by omega)]
      by_cases hia : i = a
      · rw [if_pos hia, decide_eq_true hia, Bool.or_true]
      · rw [if_neg hia, decide_eq_false hia, Bool.or_false]
    rw [fb_ct_cong e1]
    have := fb_ct_upd (fun i => bt (setC C k) i) true hat
    simp only [hb, if_true, Bool.false_eq_true, if_false] at this
    omega
theorem ch5_le {B W C : Nat → Int32} {m t c : Nat} {mn : Int32} (hm : m ≤ 20) (ht : t ≤ 7) (hB : ∀ q, q < m → ∀ i, bt (B q) i = true → i < t) (h : Ch5 B W m t mn C c) : c ≤ t := by
  have a := ch5_ct hm ht hB h c (Nat.le_refl _)
  have b := fb_ct_le (fun i => bt (setC C c) i) t
  omega
theorem pcs {B : Nat → Int32} {m i : Nat} {left : Int32} {L : Nat → Bool} (hm : m ≤ 20) (hl : left = bs L m) : pcnt (kB B m i &&& left) = sz (kB B m i &&& left) := by
  unfold kB
  rw [hl, bs_and (by omega)]
  exact pcnt_sz _ hm
theorem btr_5 {F : FF} {B W : Nat → Int32} {m t a b : Nat} {mn left : Int32} {L : Nat → Bool} (hm : m ≤ 20) (hl : left = bs L m) (h0 : ∀ i, i < t → F 0 i = kB B m i) (h2 : ∀ i, i < t → F 2 i = W i) (ha : a < t) (hb : b < t) : btr F mn a b left = btr5 B W m mn a b left := by
  unfold btr btr5
  rw [h0 a ha, h0 b hb, h2 a ha, h2 b hb, pcs hm hl, pcs hm hl]
theorem best_pk5 {F : FF} {B W : Nat → Int32} {m t : Nat} {mn left : Int32} {L : Nat → Bool} (hm : m ≤ 20) (hl : left = bs L m) (h0 : ∀ i, i < t → F 0 i = kB B m i) (h2 : ∀ i, i < t → F 2 i = W i) :
    ∀ k, k ≤ t → (pk5 B W m mn left k = none ∧ best F mn left k = 0 ∧ ∀ i, i < k → kB B m i &&& left = 0) ∨ ∃ a, a < k ∧ pk5 B W m mn left k = some a ∧ best F mn left k = a
  | 0, _ => Or.inl ⟨rfl, rfl, fun i hi => absurd hi (by omega)⟩
  | k + 1, hk => by
    have ih := best_pk5 (mn := mn) hm hl h0 h2 k (by omega)
    by_cases c : kB B m k &&& left = 0
    · have e5 : pk5 B W m mn left (k + 1) = pk5 B W m mn left k := by rw [pk5, if_pos c]
      have eb : best F mn left (k + 1) = best F mn left k := by
        rw [best]
        by_cases hk0 : k = 0
        · subst hk0; rfl
        · rw [if_neg hk0, h0 k (by omega), if_pos c]
      rw [e5, eb]
      rcases ih with ⟨a1, a2, a3⟩ | ⟨a, a1, a2, a3⟩
      · refine Or.inl ⟨a1, a2, fun i hi => ?_⟩
        rcases Nat.lt_succ_iff_lt_or_eq.mp hi with hi | rfl
        · exact a3 i hi
        · exact c
      · exact Or.inr ⟨a, by omega, a2, a3⟩
    · rcases ih with ⟨a1, a2, a3⟩ | ⟨a, a1, a2, a3⟩
      · refine Or.inr ⟨k, by omega, by simp [pk5, c, a1], ?_⟩
        rw [best]
        by_cases hk0 : k = 0
        · rw [if_pos hk0, hk0]
        · rw [if_neg hk0, h0 k (by omega), if_neg c, a2, h0 0 (by omega), if_pos (a3 0 (by omega))]
      · have na := (pk5_lt a2).2
        have e5 : pk5 B W m mn left (k + 1) = if btr5 B W m mn k a left = true then some k else some a := by
          rw [pk5, if_neg c, a2] <;> rfl
        have eb : best F mn left (k + 1) = if btr5 B W m mn k a left = true then k else a := by
          rw [best, if_neg (by omega), h0 k (by omega), if_neg c, a3, h0 a (by omega), if_neg na, btr_5 hm hl h0 h2 (by omega) (by omega)]
        rw [e5, eb]
        by_cases cb : btr5 B W m mn k a left = true
        · rw [if_pos cb, if_pos cb]; exact Or.inr ⟨k, by omega, rfl, rfl⟩
        · rw [if_neg cb, if_neg cb]; exact Or.inr ⟨a, by omega, rfl, rfl⟩
theorem and_or0 {x S : Int32} {a : Nat} (ha : a < 32) : (x &&& (S ||| (1 : Int32) <<< (nI a &&& 31))) = 0 ↔ (x &&& S) = 0 ∧ bt x a = false := by
  constructor
  · intro h
    have hb : ∀ i, i < 32 → (bt x i && (bt S i || decide (i = a))) = false := fun i hi => by
      have := congrArg (fun z => bt z i) h
      simp only [b_and, b_or, b_0] at this
      rw [b_one ha hi] at this
      exact this
    refine ⟨b_ext (fun i hi => ?_), ?_⟩
    · have := hb i hi
      rw [b_and, b_0]
      cases hx : bt x i with
      | false => rfl
      | true =>
        rw [hx] at this
        cases hs : bt S i with
        | false => rfl
        | true => rw [hs] at this; exact absurd this (by simp)
    · have := hb a ha
      rw [decide_eq_true rfl, Bool.or_true, Bool.and_true] at this
      exact this
  · rintro ⟨h1, h2⟩
    apply b_ext
    intro i hi
    have := congrArg (fun z => bt z i) h1
    simp only [b_and, b_0] at this
    rw [b_and, b_or, b_one ha hi, b_0]
    by_cases e : i = a
    · rw [e, h2]; rfl
    · rw [decide_eq_false e, Bool.or_false]; exact this
theorem left_eq {F : FF} {B W C : Nat → Int32} {m t c : Nat} {mn kd : Int32} (hm : m ≤ 20) (ht : t ≤ 7) (h0 : ∀ i, i < t → F 0 i = kB B m i) (h2 : ∀ i, i < t → F 2 i = W i) (hk : kd = lft B 0 m) (h : Ch5 B W m t mn C c) :
    ∀ k, k ≤ c → leftN F mn t kd k = lft B (setC C k) m ∧ ∀ i, i < k → C i = nI (best F mn (leftN F mn t kd i) t)
  | 0, _ => ⟨hk, fun i hi => absurd hi (by omega)⟩
  | k + 1, hk1 => by
    obtain ⟨e, ec⟩ := left_eq hm ht h0 h2 hk h k (by omega)
    obtain ⟨hl, a, hat, ha, eC⟩ := h k (by omega)
    have hb : best F mn (lft B (setC C k) m) t = a := by
      rcases best_pk5 (mn := mn) (L := fun q => decide (¬ B q = 0 ∧ (B q &&& setC C k) = 0)) hm rfl h0 h2 t (Nat.le_refl _) with ⟨a1, _⟩ | ⟨a', _, a2, a3⟩
      · rw [show pk5 B W m mn (bs (fun q => decide (¬ B q = 0 ∧ (B q &&& setC C k) = 0)) m) t = some a from ha] at a1
        exact absurd a1 (by simp)
      · rw [show pk5 B W m mn (bs (fun q => decide (¬ B q = 0 ∧ (B q &&& setC C k) = 0)) m) t = some a from ha] at a2
        have := Option.some.inj a2
        rw [this]; exact a3
    refine ⟨?_, fun i hi => ?_⟩
    · rw [leftN, e, hb, h0 a hat, setC, eC]
      unfold kB lft
      rw [bs_diff (by omega)]
      refine bs_cong (fun q hq => ?_)
      cases hba : bt (B q) a with
      | true =>
        rw [decide_eq_false (p := ¬ B q = 0 ∧ (B q &&& (setC C k ||| (1 : Int32) <<< (nI a &&& 31))) = 0) (fun z => ?_)]
        · rw [Bool.not_true, Bool.and_false]
        · have := ((and_or0 (by omega)).mp z.2).2
          rw [hba] at this
          exact absurd this (by decide)
      | false =>
        rw [Bool.not_false, Bool.and_true]
        by_cases hq2 : ¬ B q = 0 ∧ (B q &&& setC C k) = 0
        · rw [decide_eq_true hq2, decide_eq_true ⟨hq2.1, (and_or0 (by omega)).mpr ⟨hq2.2, hba⟩⟩]
        · rw [decide_eq_false hq2, decide_eq_false (fun z => hq2 ⟨z.1, ((and_or0 (by omega)).mp z.2).1⟩)]
    · rcases Nat.lt_succ_iff_lt_or_eq.mp hi with hi | rfl
      · exact ec i hi
      · rw [e, hb]; exact eC
/-- what the class's choices are -/
def ChC (F : FF) (mn : Int32) (t : Nat) (kd : Int32) (C : Nat → Int32) (c : Nat) : Prop := c ≤ t ∧ (c = t ∨ leftN F mn t kd c = 0) ∧ (∀ i, i < c → leftN F mn t kd i ≠ 0) ∧ ∀ i, i < c → C i = nI (best F mn (leftN F mn t kd i) t)
theorem ch_eq {F : FF} {B W C C' : Nat → Int32} {m t c c' : Nat} {mn kd : Int32} (hm : m ≤ 20) (ht : t ≤ 7) (hB : ∀ q, q < m → ∀ i, bt (B q) i = true → i < t) (h0 : ∀ i, i < t → F 0 i = kB B m i) (h2 : ∀ i, i < t → F 2 i = W i) (hk : kd = lft B 0 m) (h : Ch5 B W m t mn C c) (hz : lft B (setC C c) m = 0) (h' : ChC F mn t kd C' c') : c' = c ∧ ∀ i, i < c → C' i = C i := by
  obtain ⟨a1, a2, a3, a4⟩ := h'
  have hc := ch5_le hm ht hB h
  have L := left_eq hm ht h0 h2 hk h
  have e : c' = c := by
    rcases Nat.lt_trichotomy c' c with q | q | q
    · have nz := (h c' q).1
      rw [← (L c' (by omega)).1] at nz
      rcases a2 with a2 | a2
      · omega
      · exact absurd a2 nz
    · exact q
    · exact absurd ((L c (Nat.le_refl _)).1.trans hz) (a3 c q)
  subst e
  exact ⟨rfl, fun i hi => by rw [a4 i hi, (L c' (Nat.le_refl _)).2 i hi]⟩
theorem op2_choose (p0 p1 : Int32) (f : FF) (v : VV) (g : FF) (u : VV) (h : Rel0 f v g u) : Q_X4_choose p0 p1 f v (fun r f1 v1 => Q_X5_choose p0 p1 g u (fun r' g1 u1 => r = r' ∧ Rel0 f1 v1 g1 u1)) := by
  obtain ⟨n, t, P1, P2, P3, P4, P5⟩ := h.2.1
  have hn := P1.1
  have ht := P1.2.1
  have ru : ∀ p : Int32, (10 ≤ p ∧ p ≤ 16) → ∃ k, k < 7 ∧ p - 10 = nI k := by
    rintro p ⟨a, b⟩
    obtain ⟨k, rfl, h1, h2⟩ := rngI (a := 10) (b := 16) (by omega) a b (by omega)
    exact ⟨k - 10, by omega, by rw [show (10 : Int32) = nI 10 from rfl, nI_sub h1]⟩
  have fin : ∀ (F : FF) (c : Nat) (C : Nat → Int32) (r : Int32) (f1 : FF) (v1 : VV), FC f v f1 v1 → (∀ i, i < t → F 0 i = bs (kt' (sb f 5) n i) (4 * n)) → (∀ i, i < t → F 2 i = wgt (sb f 5 3 i) (sb f 5 4 i)) → ChC F p0 t (bs (fun q => (List.range t).any (fun i => kt' (sb f 5) n i q)) (4 * n)) C c →
      (p1 < 10 → p1 = 0 → r = setC C c) → (p1 < 10 → ¬ p1 = 0 → r = sumW (fun i => wgt (g 6 i) (g 7 i)) (setC C c) t) → (¬ p1 < 10 → nI c ≤ p1 - 10 → r = -9) → (¬ p1 < 10 → ¬ nI c ≤ p1 - 10 → r = C (p1 - 10).toNatClampNeg) →
      (0 ≤ p0 ∧ p0 ≤ 2) → n ≠ 0 → ((10 ≤ p1 ∧ p1 ≤ 16) ∨ (0 ≤ p1 ∧ p1 ≤ 1)) → Q_X5_choose p0 p1 g u (fun r' g1 u1 => r = r' ∧ Rel0 f1 v1 g1 u1) := by
    intro F c C r f1 v1 hc hF0 hF2 hC q1 q2 q3 q4 h0 e hp
    have body : Q_X5_findKillers g u (fun f_7 v_8 => Q_X5_findChoices p0 f_7 v_8 (fun r_9 f_10 v_11 => (p1 < (10 : Int32) → ((¬ p1 = 0 → Q_X5_weightOfSet r_9 f_10 v_11 (fun r_14 => (r = r_14 ∧ Rel0 f1 v1 f_10 v_11))) ∧ (p1 = 0 → (r = r_9 ∧ Rel0 f1 v1 f_10 v_11)))) ∧ (¬ p1 < (10 : Int32) → (((v_11 7) ≤ (p1 - (10 : Int32)) → (r = -9 ∧ Rel0 f1 v1 f_10 v_11)) ∧ (¬ (v_11 7) ≤ (p1 - (10 : Int32)) → (vp_in (p1 - (10 : Int32)) 7 ∧ (r = (f_10 15) (p1 - (10 : Int32)).toNatClampNeg ∧ Rel0 f1 v1 f_10 v_11))))))) := by
      refine q5_findKillers P2 (fun g' hs hB => ?_)
      have P2' : PI n t (sb g' 3) (sb u 2) := P2.rows (fun j hj => hs.pv j (by omega)) rfl rfl
      have hBt : ∀ q, q < 4 * n → ∀ i, bt (g' 13 q) i = true → i < t := fun q hq i hi => by rw [hB q hq] at hi; exact kls_bit ht hi
      refine q5_findChoices P2' rfl hBt (fun c' g2 u2 a1 a2 a3 a4 a5 a6 => ?_)
      have P2'' : PI n t (sb g2 3) (sb u2 2) := P2'.rows (fun j hj => a5 (3 + j) (by omega)) (a6 2 (by decide)) (a6 3 (by decide))
      have z : Rel0 f1 v1 g2 u2 := h.fr hc (hs.fe.tr ⟨fun j hj => a5 j (by omega), fun i hi => a6 i (by omega)⟩)
      have w6 : ∀ i, i < t → wgt (g 6 i) (g 7 i) = wgt (g' 6 i) (g' 7 i) := fun i _ => by rw [hs 6 (by decide) (by decide), hs 7 (by decide) (by decide)]
      have hkd : bs (fun q => (List.range t).any (fun i => kt' (sb f 5) n i q)) (4 * n) = lft (g' 13) 0 (4 * n) := by
        unfold lft
        refine bs_cong (fun q hq => ?_)
        have e0 : (g' 13 q &&& 0) = 0 := by
          apply b_ext; intro i hi; rw [b_and, b_0, Bool.and_false]
        rw [any_kls P4 ht hq, hB q hq]
        rw [hB q hq] at e0
        by_cases c : kls g n t q = 0
        · rw [decide_eq_false (not_not_intro c), decide_eq_false (fun z => z.1 c)]
        · rw [decide_eq_true c, decide_eq_true ⟨c, e0⟩]
      obtain ⟨ecc, eC⟩ := ch_eq (by omega) ht hBt (fun i hi => (hF0 i hi).trans (kB_eq P4 hn ht hi hB)) (fun i hi => ((hF2 i hi).trans (ag_wgt P4 hi)).trans (w6 i hi)) hkd a3 a2 hC
      subst ecc
      have eS : setC C c = setC (g2 15) c := setC_cong eC
      rw [eS] at q1 q2
      refine ⟨fun c1 => ⟨fun c2 => q5_weightOfSet P2'' ⟨?_, z⟩, fun c2 => ⟨q1 c1 c2, z⟩⟩, fun c1 => ⟨fun c2 => ⟨q3 c1 (by rw [← a4]; exact c2), z⟩, fun c2 => ?_⟩⟩
      · rw [q2 c1 c2]
        refine sumW_cong _ (fun i hi => ?_)
        rw [w6 i hi, a5 6 (by decide), a5 7 (by decide)]
      · rcases hp with hp | hp
        · obtain ⟨k, hk, ek⟩ := ru p1 hp
          have q4 := q4 c1 (by rw [← a4]; exact c2)
          rw [a4, ek, le_nI (by omega) (by omega)] at c2
          rw [ek, nI_clamp (by omega)] at q4 ⊢
          exact ⟨vi_nI hk (by omega), by rw [q4, eC k (by omega)], z⟩
        · exact absurd (Int32.lt_of_le_of_lt hp.2 (by decide)) c1
    have nz : ¬ u 2 = 0 := fun c => e ((n0 P2.1 P2.2.2.1).mp c)
    refine q5_within1 h0.1 h0.2 (yes1 (q5_within (fun a b => yes1' ⟨fun _ => body, fun c => absurd c nz⟩) (fun a => no0' ?_)))
    rcases hp with hp | hp
    · exact q5_within1 hp.1 hp.2 (yes1' ⟨fun _ => body, fun c => absurd c nz⟩)
    · exact absurd hp a
  have out2 : (¬ (0 ≤ p0 ∧ p0 ≤ 2)) → Q_X5_choose p0 p1 g u (fun r' g1 u1 => -2 = r' ∧ Rel0 f v g1 u1) := fun hno => q5_within0 hno (no0 ⟨rfl, h⟩)
  have emp : (0 ≤ p0 ∧ p0 ≤ 2) → n = 0 → ((10 ≤ p1 ∧ p1 ≤ 16) ∨ (0 ≤ p1 ∧ p1 ≤ 1)) → Q_X5_choose p0 p1 g u (fun r' g1 u1 => -3 = r' ∧ Rel0 f v g1 u1) := by
    intro h0 e hp
    have nz : u 2 = 0 := (n0 P2.1 P2.2.2.1).mpr e
    refine q5_within1 h0.1 h0.2 (yes1 (q5_within (fun a b => yes1' ⟨fun c => absurd nz c, fun _ => ⟨rfl, h⟩⟩) (fun a => no0' ?_)))
    rcases hp with hp | hp
    · exact q5_within1 hp.1 hp.2 (yes1' ⟨fun c => absurd nz c, fun _ => ⟨rfl, h⟩⟩)
    · exact absurd hp a
  have main : ∀ r1 : Int32, (0 ≤ p0 ∧ p0 ≤ 2) → n ≠ 0 → ((r1 = 1 ∧ (10 ≤ p1 ∧ p1 ≤ 16)) ∨ (r1 = 0 ∧ (0 ≤ p1 ∧ p1 ≤ 1))) → Q_X4_killsNow f v (fun f_8 v_9 => Q_X0_chooseTests p0 (sb f_8 33) (sb v_9 19) (fun r_10 f_11 v_12 => ∀ f_13 : FF, f_13 = mg f_8 33 4 f_11 → ∀ v_14 : VV, v_14 = mg v_9 19 3 v_12 → ((r1 = 0 → Q_X0_chosenSet r_10 (sb f_13 33) (sb v_14 19) (fun r_16 => (¬ p1 = 0 → Q_X0_weightOf r_16 (sb f_13 33) (sb v_14 19) (fun r_18 => Q_X5_choose p0 p1 g u (fun r' g1 u1 => r_18 = r' ∧ Rel0 f_13 v_14 g1 u1))) ∧ (p1 = 0 → Q_X5_choose p0 p1 g u (fun r' g1 u1 => r_16 = r' ∧ Rel0 f_13 v_14 g1 u1)))) ∧ (¬ r1 = 0 → ((r_10 ≤ (p1 - (10 : Int32)) → Q_X5_choose p0 p1 g u (fun r' g1 u1 => -9 = r' ∧ Rel0 f_13 v_14 g1 u1)) ∧ (¬ r_10 ≤ (p1 - (10 : Int32)) → (vp_in (p1 - (10 : Int32)) 7 ∧ Q_X5_choose p0 p1 g u (fun r' g1 u1 => (f_13 36) (p1 - (10 : Int32)).toNatClampNeg = r' ∧ Rel0 f_13 v_14 g1 u1)))))))) := by
    intro r1 h0 e hp
    refine q_killsNow P1 (fun f' v' hc hK => q_chooseTests hK.1 (fun c f11 hct b1 b2 hf3 b3 f13 e13 v14 e14 => ?_))
    rw [mg_sb] at e14
    subst e14
    have hc3 : FC f v f13 v14 := hc.tr ⟨fun j hj => by rw [e13, mg_out (by omega)], fun _ _ => rfl⟩
    have r36 : f13 36 = f11 3 := by rw [e13, show 36 = 33 + 3 from rfl, mg_at (by decide)]
    have r35 : ∀ i, i < t → f13 35 i = wgt (g 6 i) (g 7 i) := fun i hi => by
      rw [e13, show 35 = 33 + 2 from rfl, mg_at (by decide), hf3 2 (by decide)]
      exact (hK.2.2.1 i hi).trans (ag_wgt P4 hi)
    have hch : ChC (sb f' 33) p0 t (bs (fun q => (List.range t).any (fun i => kt' (sb f 5) n i q)) (4 * n)) (f13 36) c := by
      rw [← hK.2.2.2.2, r36]
      exact ⟨hct, b1, b2, b3⟩
    have pp : (10 ≤ p1 ∧ p1 ≤ 16) ∨ (0 ≤ p1 ∧ p1 ≤ 1) := hp.elim (fun z => Or.inl z.2) (fun z => Or.inr z.2)
    have l10 : r1 = 0 → p1 < 10 := fun z => by
      rcases hp with hp | hp
      · rw [hp.1] at z; exact absurd z (by decide)
      · exact Int32.lt_of_le_of_lt hp.2.2 (by decide)
    have g10 : ¬ r1 = 0 → ¬ p1 < 10 := fun z c => by
      rcases hp with hp | hp
      · exact absurd (Int32.lt_of_lt_of_le c hp.2.1) Int32.lt_irrefl
      · exact z hp.1
    refine ⟨fun c1 => q_chosenSet (by omega) ⟨fun c2 => q_weightOf hK.1 (fin _ c (f13 36) _ f13 v14 hc3 hK.2.1 hK.2.2.1 hch (fun _ z => absurd z c2) (fun _ _ => sumW_cong _ r35) (fun z => absurd (l10 c1) z) (fun z => absurd (l10 c1) z) h0 e pp), fun c2 => fin _ c (f13 36) _ f13 v14 hc3 hK.2.1 hK.2.2.1 hch (fun _ _ => rfl) (fun _ z => absurd c2 z) (fun z => absurd (l10 c1) z) (fun z => absurd (l10 c1) z) h0 e pp⟩, fun c1 => ⟨fun c2 => fin _ c (f13 36) _ f13 v14 hc3 hK.2.1 hK.2.2.1 hch (fun z => absurd z (g10 c1)) (fun z => absurd z (g10 c1)) (fun _ _ => rfl) (fun _ z => absurd c2 z) h0 e pp, fun c2 => ⟨?_, fin _ c (f13 36) _ f13 v14 hc3 hK.2.1 hK.2.2.1 hch (fun z => absurd z (g10 c1)) (fun z => absurd z (g10 c1)) (fun _ z => absurd z c2) (fun _ _ => rfl) h0 e pp⟩⟩⟩
    rcases hp with hp | hp
    · obtain ⟨k, hk, ek⟩ := ru p1 hp.2
      rw [ek]; exact vi_nI hk (by omega)
    · exact absurd hp.1 c1
  refine q_isWithin (fun a b => ?_) (fun a => ?_)
  · refine q_isWithin (fun a' b' => yes1 (yes1' ?_)) (fun a' => no0 (out2 a'))
    exact q_isEmpty P1 (fun e => yes1 (emp ⟨a', b'⟩ e (Or.inl ⟨a, b⟩))) (fun e => no0 (main 1 ⟨a', b'⟩ e (Or.inl ⟨rfl, a, b⟩)))
  · refine q_isWithin (fun a' b' => yes1 (no0' ?_)) (fun a' => no0 (out2 a'))
    refine q_isWithin (fun a2 b2 => yes1' ?_) (fun a2 => no0' (q5_within1 a' b' (yes1 (q5_within0 a2 (no0' (q5_within0 a (no0' ⟨rfl, h⟩)))))))
    exact q_isEmpty P1 (fun e => yes1 (emp ⟨a', b'⟩ e (Or.inr ⟨a2, b2⟩))) (fun e => no0 (main 0 ⟨a', b'⟩ e (Or.inr ⟨rfl, a2, b2⟩)))
