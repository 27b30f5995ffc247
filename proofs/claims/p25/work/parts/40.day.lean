/-! ===== a DAY ===== -/
section KP
variable {n t : Nat} {g : FF} {u : VV} {pos : FF → VV → Prop} {posf : Int32 → FF → VV → Prop}
theorem q5_kp1 {K : Int32 → FF → VV → Prop} {g0 : FF} (hK : ∀ x g, (∀ j, j ≠ 14 → g j = g0 j) → (∀ i, i < 5 → g 14 i = g0 3 i) → K x g u) :
    ∀ (d k : Nat) (g : FF), k + d = 5 → (∀ j, j ≠ 14 → g j = g0 j) → (∀ i, i < k → g 14 i = g0 3 i) → Q_X5_keep_L2 K (d + 1) (nI k) g u := by
  intro d
  induction d with
  | zero =>
    intro k g hk h1 h2
    rw [Q_X5_keep_L2, show k = 5 by omega]
    exact ⟨fun _ => hK _ g h1 (fun i hi => h2 i (by omega)), fun c => absurd (Int32.le_refl _) c⟩
  | succ d ih =>
    intro k g hk h1 h2
    rw [Q_X5_keep_L2, nI_clamp (by omega)]
    refine ⟨fun c => absurd ((le_nI (a := 5) (by omega) (by omega)).mp c) (by omega), fun _ => ⟨vi_nI (by omega) (by omega), vi_nI (by omega) (by omega), fun g1 e1 x ex => ?_⟩⟩
    rw [ex, nI_1]
    rw [wrN (by omega)] at e1
    refine ih (k + 1) g1 (by omega) (fun j hj => by rw [e1, fu_ne hj, h1 j hj]) (fun i hi => ?_)
    rw [e1, fu_eq]
    rcases Nat.lt_succ_iff_lt_or_eq.mp hi with hi | rfl
    · rw [upd_ne (by omega)]; exact h2 i hi
    · rw [upd_eq, h1 3 (by decide)]
theorem q5_kp2 {K : Int32 → FF → VV → Prop} {g0 : FF} (hK : ∀ x g, (∀ j, j ≠ 14 → g j = g0 j) → (∀ i, i < 5 → g 14 i = g0 14 i) → (∀ i, i < 7 → g 14 (5 + i) = g0 7 i ∧ g 14 (12 + i) = g0 8 i ∧ g 14 (19 + i) = g0 9 i) → K x g u) :
    ∀ (d k : Nat) (g : FF), k + d = 7 → (∀ j, j ≠ 14 → g j = g0 j) → (∀ i, i < 5 → g 14 i = g0 14 i) → (∀ i, i < k → g 14 (5 + i) = g0 7 i ∧ g 14 (12 + i) = g0 8 i ∧ g 14 (19 + i) = g0 9 i) → Q_X5_keep_L27 K (d + 1) (nI k) g u := by
  intro d
  induction d with
  | zero =>
    intro k g hk h1 h2 h3
    rw [Q_X5_keep_L27, show k = 7 by omega]
    exact ⟨fun _ => hK _ g h1 h2 (fun i hi => h3 i (by omega)), fun c => absurd (Int32.le_refl _) c⟩
  | succ d ih =>
    intro k g hk h1 h2 h3
    rw [Q_X5_keep_L27, nI_clamp (by omega), show (5 : Int32) + nI k = nI (5 + k) from nI_add 5 k, show (12 : Int32) + nI k = nI (12 + k) from nI_add 12 k, show (19 : Int32) + nI k = nI (19 + k) from nI_add 19 k]
    have vk : vp_in (nI k) 7 := vi_nI (by omega) (by omega)
    refine ⟨fun c => absurd ((le_nI (a := 7) (by omega) (by omega)).mp c) (by omega), fun _ => ⟨vk, vi_nI (by omega) (by omega), fun g1 e1 => ⟨vk, vi_nI (by omega) (by omega), fun g2 e2 => ⟨vk, vi_nI (by omega) (by omega), fun g3 e3 x ex => ?_⟩⟩⟩⟩
    rw [ex, nI_1]
    rw [wrN (by omega)] at e1 e2 e3
    have a14 : g3 14 = upd (upd (upd (g 14) (5 + k) (g0 7 k)) (12 + k) (g0 8 k)) (19 + k) (g0 9 k) := by
      rw [e3, fu_eq, e2, fu_eq, fu_ne (by decide), e1, fu_eq, fu_ne (by decide), fu_ne (by decide), h1 7 (by decide), h1 8 (by decide), h1 9 (by decide)]
    refine ih (k + 1) g3 (by omega) (fun j hj => by rw [e3, fu_ne hj, e2, fu_ne hj, e1, fu_ne hj, h1 j hj]) (fun i hi => ?_) (fun i hi => ?_)
    · rw [a14, upd_ne (by omega), upd_ne (by omega), upd_ne (by omega)]; exact h2 i hi
    · rw [a14]
      rcases Nat.lt_succ_iff_lt_or_eq.mp hi with hi | rfl
      · obtain ⟨z1, z2, z3⟩ := h3 i hi
        refine ⟨?_, ?_, ?_⟩
        · rw [upd_ne (by omega), upd_ne (by omega), upd_ne (by omega)]; exact z1
        · rw [upd_ne (by omega), upd_ne (by omega), upd_ne (by omega)]; exact z2
        · rw [upd_ne (by omega), upd_ne (by omega), upd_ne (by omega)]; exact z3
      · refine ⟨?_, ?_, ?_⟩
        · rw [upd_ne (by omega), upd_ne (by omega), upd_eq]
        · rw [upd_ne (by omega), upd_eq]
        · rw [upd_eq]
theorem q5_keep (h : ∀ g', (∀ j, j ≠ 14 → g' j = g j) → (∀ i, i < 5 → g' 14 i = g 3 i) → (∀ i, i < 7 → g' 14 (5 + i) = g 7 i ∧ g' 14 (12 + i) = g 8 i ∧ g' 14 (19 + i) = g 9 i) → pos g' u) : Q_X5_keep g u pos := by
  refine ⟨6, q5_kp1 (g0 := g) (fun x g1 a1 a2 => ⟨8, q5_kp2 (g0 := g1) (fun x g2 b1 b2 b3 => h g2 (fun j hj => (b1 j hj).trans (a1 j hj)) (fun i hi => (b2 i hi).trans (a2 i hi)) (fun i hi => ?_)) 7 0 g1 (by omega) (fun _ _ => rfl) (fun _ _ => rfl) (fun _ h => absurd h (by omega))⟩) 5 0 g (by omega) (fun _ _ => rfl) (fun _ h => absurd h (by omega))⟩
  have := b3 i hi
  rw [a1 7 (by decide), a1 8 (by decide), a1 9 (by decide)] at this
  exact this
theorem q5_pb1 {K : Int32 → FF → VV → Prop} {g0 : FF} (hK : ∀ x g, (∀ j, j ≠ 3 → g j = g0 j) → (∀ i, i < 5 → g 3 i = g0 14 i) → K x g u) :
    ∀ (d k : Nat) (g : FF), k + d = 5 → (∀ j, j ≠ 3 → g j = g0 j) → (∀ i, i < k → g 3 i = g0 14 i) → Q_X5_putBack_L2 K (d + 1) (nI k) g u := by
  intro d
  induction d with
  | zero =>
    intro k g hk h1 h2
    rw [Q_X5_putBack_L2, show k = 5 by omega]
    exact ⟨fun _ => hK _ g h1 (fun i hi => h2 i (by omega)), fun c => absurd (Int32.le_refl _) c⟩
  | succ d ih =>
    intro k g hk h1 h2
    rw [Q_X5_putBack_L2, nI_clamp (by omega)]
    refine ⟨fun c => absurd ((le_nI (a := 5) (by omega) (by omega)).mp c) (by omega), fun _ => ⟨vi_nI (by omega) (by omega), vi_nI (by omega) (by omega), fun g1 e1 x ex => ?_⟩⟩
    rw [ex, nI_1]
    rw [wrN (by omega)] at e1
    refine ih (k + 1) g1 (by omega) (fun j hj => by rw [e1, fu_ne hj, h1 j hj]) (fun i hi => ?_)
    rw [e1, fu_eq]
    rcases Nat.lt_succ_iff_lt_or_eq.mp hi with hi | rfl
    · rw [upd_ne (by omega)]; exact h2 i hi
    · rw [upd_eq, h1 14 (by decide)]
theorem q5_pb2 {K : Int32 → FF → VV → Prop} {g0 : FF} (hK : ∀ x g, (∀ j, j < 7 ∨ 9 < j → g j = g0 j) → (∀ i, i < 7 → g 7 i = g0 14 (5 + i) ∧ g 8 i = g0 14 (12 + i) ∧ g 9 i = g0 14 (19 + i)) → K x g u) :
    ∀ (d k : Nat) (g : FF), k + d = 7 → (∀ j, j < 7 ∨ 9 < j → g j = g0 j) → (∀ i, i < k → g 7 i = g0 14 (5 + i) ∧ g 8 i = g0 14 (12 + i) ∧ g 9 i = g0 14 (19 + i)) → Q_X5_putBack_L27 K (d + 1) (nI k) g u := by
  intro d
  induction d with
  | zero =>
    intro k g hk h1 h3
    rw [Q_X5_putBack_L27, show k = 7 by omega]
    exact ⟨fun _ => hK _ g h1 (fun i hi => h3 i (by omega)), fun c => absurd (Int32.le_refl _) c⟩
  | succ d ih =>
    intro k g hk h1 h3
    rw [Q_X5_putBack_L27, show (5 : Int32) + nI k = nI (5 + k) from nI_add 5 k, show (12 : Int32) + nI k = nI (12 + k) from nI_add 12 k, show (19 : Int32) + nI k = nI (19 + k) from nI_add 19 k, nI_clamp (n := 5 + k) (by omega), nI_clamp (n := 12 + k) (by omega), nI_clamp (n := 19 + k) (by omega)]
    have vk : vp_in (nI k) 7 := vi_nI (by omega) (by omega)
    refine ⟨fun c => absurd ((le_nI (a := 7) (by omega) (by omega)).mp c) (by omega), fun _ => ⟨vi_nI (by omega) (by omega), vk, fun g1 e1 => ⟨vi_nI (by omega) (by omega), vk, fun g2 e2 => ⟨vi_nI (by omega) (by omega), vk, fun g3 e3 x ex => ?_⟩⟩⟩⟩
    rw [ex, nI_1]
    rw [wrN (by omega)] at e1 e2 e3
    have a7 : g3 7 = upd (g 7) k (g0 14 (5 + k)) := by rw [e3, fu_ne (by decide), e2, fu_ne (by decide), e1, fu_eq, h1 14 (by omega)]
    have a8 : g3 8 = upd (g 8) k (g0 14 (12 + k)) := by rw [e3, fu_ne (by decide), e2, fu_eq, e1, fu_ne (by decide), fu_ne (by decide), h1 14 (by omega)]
    have a9 : g3 9 = upd (g 9) k (g0 14 (19 + k)) := by rw [e3, fu_eq, e2, fu_ne (by decide), fu_ne (by decide), e1, fu_ne (by decide), fu_ne (by decide), h1 14 (by omega)]
    refine ih (k + 1) g3 (by omega) (fun j hj => by rw [e3, fu_ne (by omega), e2, fu_ne (by omega), e1, fu_ne (by omega), h1 j hj]) (fun i hi => ?_)
    rw [a7, a8, a9]
    rcases Nat.lt_succ_iff_lt_or_eq.mp hi with hi | rfl
    · rw [upd_ne (by omega), upd_ne (by omega), upd_ne (by omega)]; exact h3 i hi
    · rw [upd_eq, upd_eq, upd_eq]; exact ⟨rfl, rfl, rfl⟩
theorem q5_putBack (h : ∀ g', (∀ j, j ≠ 3 → j ≠ 7 → j ≠ 8 → j ≠ 9 → g' j = g j) → (∀ i, i < 5 → g' 3 i = g 14 i) → (∀ i, i < 7 → g' 7 i = g 14 (5 + i) ∧ g' 8 i = g 14 (12 + i) ∧ g' 9 i = g 14 (19 + i)) → pos g' u) : Q_X5_putBack g u pos := by
  refine ⟨6, q5_pb1 (g0 := g) (fun x g1 a1 a2 => ⟨8, q5_pb2 (g0 := g1) (fun x g2 b1 b3 => h g2 (fun j h3 h7 h8 h9 => (b1 j (by omega)).trans (a1 j h3)) (fun i hi => by rw [b1 3 (by omega)]; exact a2 i hi) (fun i hi => ?_)) 7 0 g1 (by omega) (fun _ _ => rfl) (fun _ h => absurd h (by omega))⟩) 5 0 g (by omega) (fun _ _ => rfl) (fun _ h => absurd h (by omega))⟩
  have := b3 i hi
  rw [a1 14 (by decide)] at this
  exact this
theorem q5_dl_loop {b m : Nat} {x1 x2 x3 x5 x6 : Int32} {K0 K1 : Int32 → FF → VV → Prop} (hb : b + 2 * m ≤ 240) (h0 : (¬ ∀ i, i < m → okP (cs (g 2) b (2 * i)) (cs (g 2) b (2 * i + 1))) → ∀ x, K0 x g u) (h1 : (∀ i, i < m → okP (cs (g 2) b (2 * i)) (cs (g 2) b (2 * i + 1))) → ∀ x, K1 x g u) :
    ∀ (d k : Nat), k + d = m → (∀ i, i < k → okP (cs (g 2) b (2 * i)) (cs (g 2) b (2 * i + 1))) → Q_X5_day_L103 x1 x2 x3 (nI m) x5 x6 (nI b) K0 K1 (d + 1) (nI k) g u := by
  intro d
  induction d with
  | zero =>
    intro k hk ha
    rw [Q_X5_day_L103, show k = m by omega]
    rw [show k = m by omega] at ha
    exact ⟨fun _ => h1 ha _, fun c => absurd (Int32.le_refl _) c⟩
  | succ d ih =>
    intro k hk ha
    rw [Q_X5_day_L103, show (2 : Int32) * nI k = nI (2 * k) from pk_mul 2 k, nI_add, nI_1, nI_clamp (n := b + 2 * k) (by omega), nI_clamp (n := b + 2 * k + 1) (by omega)]
    refine ⟨fun c => absurd ((le_nI (by omega) (by omega)).mp c) (by omega), fun _ => ⟨vi_nI (by omega) (by omega), vi_nI (by omega) (by omega), q5_isPair (fun hp => yes1' (fun x ex => ?_)) (fun hp => no0' (h0 (fun z => hp (z k (by omega))) _))⟩⟩
    rw [ex, nI_1]
    refine ih (k + 1) (by omega) (fun i hi => ?_)
    rcases Nat.lt_succ_iff_lt_or_eq.mp hi with hi | rfl
    · exact ha i hi
    · exact hp
end KP
section DC
variable {n t : Nat} {f : FF} {v : VV} {post : Int32 → Prop} {posf : Int32 → FF → VV → Prop}
theorem q_isAct {x z : Int32} (h1 : okP x z → post 1) (h0 : ¬ okP x z → post 0) : Q_X4_isAct x z post := by
  have H := okP_iff (x := x) (z := z)
  have lt : ∀ {a b c : Int32}, a ≤ z → z ≤ b → b < c → ¬ c ≤ z := fun _ h2 h3 h4 => absurd (Int32.lt_of_lt_of_le h3 (Int32.le_trans h4 h2)) Int32.lt_irrefl
  refine q_isWithin (fun a b => yes1 (q_isWithin (fun a' b' => ⟨Or.inr rfl, h1 (H.mpr (Or.inl ⟨⟨a, b⟩, a', b'⟩))⟩) (fun c => ⟨Or.inl rfl, h0 (fun z => ?_)⟩))) (fun c => no0 (q_isWithin (fun a b => yes1 (q_isWithin (fun a' b' => ⟨Or.inr rfl, Or.inr rfl, h1 (H.mpr (Or.inr (Or.inl ⟨⟨a, b⟩, a', b'⟩)))⟩) (fun c2 => ⟨Or.inl rfl, Or.inl rfl, h0 (fun z => ?_)⟩))) (fun c2 => no0 (q_isWithin (fun a b => yes1 (q_isWithin (fun a' b' => yes1 (h1 (H.mpr (Or.inr (Or.inr ⟨⟨a, b⟩, a', b'⟩))))) (fun c3 => no0 (h0 (fun z => ?_))))) (fun c3 => no0 (h0 (fun z => ?_)))))))
  · rcases H.mp z with z | z | z
    · exact c z.2
    · exact absurd z.1.1 (lt a b (by decide))
    · exact absurd z.1.1 (lt a b (by decide))
  · rcases H.mp z with z | z | z
    · exact c z.1
    · exact c2 z.2
    · exact absurd z.1.1 (lt a b (by decide))
  · rcases H.mp z with z | z | z
    · exact c z.1
    · exact c2 z.1
    · exact c3 z.2
  · rcases H.mp z with z | z | z
    · exact c z.1
    · exact c2 z.1
    · exact c3 z.1
theorem q_aa_loop {b m : Nat} {K0 K1 : Int32 → Prop} (hb : b + 2 * m ≤ 60) (h0 : (¬ ∀ i, i < m → okP (cs (f 0) b (2 * i)) (cs (f 0) b (2 * i + 1))) → ∀ x, K0 x) (h1 : (∀ i, i < m → okP (cs (f 0) b (2 * i)) (cs (f 0) b (2 * i + 1))) → ∀ x, K1 x) :
    ∀ (d k : Nat), k + d = m → (∀ i, i < k → okP (cs (f 0) b (2 * i)) (cs (f 0) b (2 * i + 1))) → Q_X4_areActs_L2 f v (nI b) (nI m) K0 K1 (d + 1) (nI k) := by
  intro d
  induction d with
  | zero =>
    intro k hk ha
    rw [Q_X4_areActs_L2, show k = m by omega]
    rw [show k = m by omega] at ha
    exact ⟨fun _ => h1 ha _, fun c => absurd (Int32.le_refl _) c⟩
  | succ d ih =>
    intro k hk ha
    rw [Q_X4_areActs_L2, show (2 : Int32) * nI k = nI (2 * k) from pk_mul 2 k, nI_add, nI_1, nI_clamp (n := b + 2 * k) (by omega), nI_clamp (n := b + 2 * k + 1) (by omega)]
    refine ⟨fun c => absurd ((le_nI (by omega) (by omega)).mp c) (by omega), fun _ => ⟨vi_nI (by omega) (by omega), vi_nI (by omega) (by omega), q_isAct (fun hp => yes1' (fun x ex => ?_)) (fun hp => no0' (h0 (fun z => hp (z k (by omega))) _))⟩⟩
    rw [ex, nI_1]
    refine ih (k + 1) (by omega) (fun i hi => ?_)
    rcases Nat.lt_succ_iff_lt_or_eq.mp hi with hi | rfl
    · exact ha i hi
    · exact hp
theorem q_areActs {b m : Nat} (hb : b + 2 * m ≤ 60) (h0 : (¬ ∀ i, i < m → okP (cs (f 0) b (2 * i)) (cs (f 0) b (2 * i + 1))) → post 0) (h1 : (∀ i, i < m → okP (cs (f 0) b (2 * i)) (cs (f 0) b (2 * i + 1))) → post 1) : Q_X4_areActs (nI b) (nI m) f v post :=
  ⟨m + 1, q_aa_loop hb (fun z _ => h0 z) (fun z _ => h1 z) m 0 (by omega) (fun _ h => absurd h (by omega))⟩
theorem q_act {k : Nat} {x : Int32} (hP : PI n t f v) (hk : tgt k) (h1 : okT n t k = true → posf 1 (actV k x f) v) (h0 : okT n t k = false → posf 0 f v) : Q_X1_act x (nI k) f v posf := by
  have hn := hP.1
  have ht := hP.2.1
  unfold Q_X1_act
  unfold tgt at hk
  unfold okT at h1 h0
  unfold actV at h1
  refine ⟨fun c => ⟨fun c2 => ?_, fun c2 => ?_⟩, fun c => ?_⟩
  · have c2 : 20 ≤ k := (le_nI (a := 20) (by omega) (by omega)).mp c2
    rw [if_neg (by omega), if_neg (by omega)] at h1 h0
    rw [if_neg (by omega), if_neg (by omega)] at h1
    rw [show (20 : Int32) = nI 20 from rfl, nI_sub c2]
    have vj : k - 20 < t → vp_in (nI (k - 20)) 7 := fun z => vi_nI (by omega) (by omega)
    refine q_hasTest hP (fun j hj ej => yes1' ?_) (fun hne => no0' ⟨Or.inl rfl, h0 (decide_eq_false (fun z => hne _ z rfl))⟩)
    have ej : k - 20 = j := (nI_eq (by omega) (by omega)).mp ej
    refine ⟨vj (by omega), fun f1 e1 => ⟨vj (by omega), fun f2 e2 => ⟨Or.inr rfl, ?_⟩⟩⟩
    rw [wrN (by omega)] at e1 e2
    have h1 := h1 (decide_eq_true (by omega))
    rw [e2, e1, show fu f 5 (upd (f 5) (k - 20) (x / 10)) 6 = f 6 from fu_ne (by decide)]; exact h1
  · have c1 : 10 ≤ k := (le_nI (a := 10) (by omega) (by omega)).mp c
    have c2 : ¬ 20 ≤ k := fun z => c2 ((le_nI (a := 20) (by omega) (by omega)).mpr z)
    rw [if_neg (by omega), if_pos (by omega)] at h1 h0
    rw [if_neg (by omega), if_pos (by omega)] at h1
    rw [show (10 : Int32) = nI 10 from rfl, nI_sub c1]
    refine q_hasTest hP (fun j hj ej => yes1' ?_) (fun hne => no0' ⟨Or.inl rfl, h0 (decide_eq_false (fun z => hne _ z rfl))⟩)
    have ej : k - 10 = j := (nI_eq (by omega) (by omega)).mp ej
    refine ⟨vi_nI (by omega) (by omega), fun f1 e1 => ⟨Or.inr rfl, ?_⟩⟩
    rw [wrN (by omega)] at e1
    rw [e1]; exact h1 (decide_eq_true (by omega))
  · have c : ¬ 10 ≤ k := fun z => c ((le_nI (a := 10) (by omega) (by omega)).mpr z)
    rw [if_pos (by omega)] at h1 h0
    rw [if_pos (by omega)] at h1
    refine q_hasStep hP (fun j hj ej => yes1' ?_) (fun hne => no0' ⟨Or.inl rfl, h0 (decide_eq_false (fun z => hne _ z rfl))⟩)
    have ej : k = j := (nI_eq (by omega) (by omega)).mp ej
    refine ⟨vi_nI (by omega) (by omega), fun f1 e1 => ⟨Or.inr rfl, ?_⟩⟩
    rw [wrN (by omega)] at e1
    rw [e1]; exact h1 (decide_eq_true (by omega))
/-- the class's worlds while a DAY is tried: i pairs are done -/
def GoC (c : Nat → Int32) (i : Nat) (f0 : FF) (v0' : VV) (f : FF) (v : VV) : Prop := (∀ r, r < 7 → f (14 + r) = goV c i (sb f0 14) r) ∧ (∀ j, j < 14 ∨ 23 ≤ j → f j = f0 j) ∧ ∀ i, v i = v0' i
theorem q_ta_loop {kq b m : Nat} {K0 K1 : Int32 → FF → VV → Prop} {f0 : FF} {v0' : VV} (hkq : kq < 4) (hP : PI n t (sb f0 14) (sb v0' 13)) (hb : b + 2 * m ≤ 60) (hp : ∀ i, i < m → okP (cs (f0 (1 + kq)) b (2 * i)) (cs (f0 (1 + kq)) b (2 * i + 1)))
    (h0 : ∀ i f v, i < m → (∀ j, j < i → okT n t (cs (f0 (1 + kq)) b (2 * j + 1)).toNatClampNeg = true) → okT n t (cs (f0 (1 + kq)) b (2 * i + 1)).toNatClampNeg = false → GoC (cs (f0 (1 + kq)) b) i f0 v0' f v → K0 (nI i) f v)
    (h1 : ∀ x f v, (∀ j, j < m → okT n t (cs (f0 (1 + kq)) b (2 * j + 1)).toNatClampNeg = true) → GoC (cs (f0 (1 + kq)) b) m f0 v0' f v → K1 x f v) :
    ∀ (d k : Nat) (f : FF) (v : VV), k + d = m → (∀ j, j < k → okT n t (cs (f0 (1 + kq)) b (2 * j + 1)).toNatClampNeg = true) → GoC (cs (f0 (1 + kq)) b) k f0 v0' f v → Q_X4_tryActs_L14 kq (nI b) (nI m) K0 K1 (d + 1) (nI k) f v := by
  intro d
  induction d with
  | zero =>
    intro k f v hk hok hG
    rw [Q_X4_tryActs_L14, show k = m by omega]
    rw [show k = m by omega] at hok hG
    exact ⟨fun _ => h1 _ f v hok hG, fun c => absurd (Int32.le_refl _) c⟩
  | succ d ih =>
    intro k f v hk hok hG
    rw [Q_X4_tryActs_L14, show (2 : Int32) * nI k = nI (2 * k) from pk_mul 2 k, nI_add, nI_1, nI_clamp (n := b + 2 * k) (by omega), nI_clamp (n := b + 2 * k + 1) (by omega)]
    refine ⟨fun c => absurd ((le_nI (by omega) (by omega)).mp c) (by omega), fun _ => ⟨vi_nI (by omega) (by omega), vi_nI (by omega) (by omega), ?_⟩⟩
    rw [hG.2.1 (1 + kq) (by omega)]
    obtain ⟨k', ek, hk'⟩ := okP_tgt (hp k (by omega))
    have e1 : f0 (1 + kq) (b + 2 * k + 1) = nI k' := ek
    have e2 : (cs (f0 (1 + kq)) b (2 * k + 1)).toNatClampNeg = k' := by rw [ek, nI_clamp (by unfold tgt at hk'; omega)]
    rw [e1]
    have hPc : PI n t (sb f 14) (sb v 13) := hP.rows2 ((hG.1 1 (by decide)).trans (goV_rest k).1) ((hG.1 2 (by decide)).trans (goV_rest k).2.1) (hG.2.2 13) (hG.2.2 14)
    refine q_act hPc hk' (fun ho f13 e13 v14 e14 => yes1' (fun x ex => ?_)) (fun ho f13 e13 v14 e14 => no0' ?_)
    · rw [mg_sb] at e14
      subst e14
      rw [ex, nI_1]
      refine ih (k + 1) f13 v14 (by omega) (fun j hj => ?_) ⟨fun r hr => ?_, fun j hj => ?_, hG.2.2⟩
      · rcases Nat.lt_succ_iff_lt_or_eq.mp hj with hj | rfl
        · exact hok j hj
        · rw [e2]; exact ho
      · rw [e13, mg_at (by omega)]
        show actV _ _ _ r = actV _ _ _ r
        rw [e2]
        exact actV_cong (fun r hr => hG.1 r hr) r hr
      · rw [e13, mg_out (by omega)]; exact hG.2.1 j hj
    · rw [mg_sb] at e13 e14
      subst e13; subst e14
      exact h0 k f13 v14 (by omega) hok (by rw [e2]; exact ho) hG
theorem q_ofTrial {w : Int32} (hP : PI n t (sb f 14) (sb v 13)) (h : ∀ r f' v', FB 14 f v f' v' → posf r f' v') : Q_X4_ofTrial w f v posf := by
  have rf : FB 14 f v f v := ⟨fun _ _ _ _ => rfl, fun _ _ => rfl⟩
  refine ⟨fun _ => ⟨fun _ => q_findAt (b := 14) (c := 13) (by decide) (by decide) hP (fun f' v' hF hK => ⟨fun _ => q_bitCount (h _ _ _ hF), fun _ => ⟨fun _ => q_countLeast hK.1 (h _ _ _ hF), fun _ => q_light hK (q_wS hK (h _ _ _ hF))⟩⟩), fun _ => q_mutants hP (q_unequalMutants hP (fun f' hf' => q_bitCount (fun f14 ef v15 ev => h _ _ _ (back_fb hf' ef ev).1)))⟩, fun _ x ex => ?_⟩
  refine q_hasTest hP (fun j hj ej => yes1 ?_) (fun _ => no0 (h _ _ _ rf))
  rw [ej]
  exact q_runTest hP hj (fun f' hf' _ f10 ef v11 ev => h _ _ _ (back_fb (Sm.of7 hf') ef ev).1)
end DC
theorem Rel0.pb {f f' : FF} {v v' : VV} {g g' : FF} {u u' : VV} (h : Rel0 f v g u) (hc : FC f v f' v') (hg : ∀ j, j < 10 ∨ j = 16 → j ≠ 3 → j ≠ 7 → j ≠ 8 → j ≠ 9 → g' j = g j) (h3 : ∀ i, i < 5 → g' 3 i = g 3 i) (h7 : ∀ i, i < 7 → g' 7 i = g 7 i ∧ g' 8 i = g 8 i ∧ g' 9 i = g 9 i) (hu : ∀ i, i < 4 ∨ i = 8 → u' i = u i) : Rel0 f' v' g' u' := by
  obtain ⟨n, t, p1, p2, p3, p4, p5⟩ := h.2.1
  have hn := p1.1
  have ht := p1.2.1
  have h' := h.fr hc ⟨fun _ _ => rfl, fun i hi => hu i hi⟩
  obtain ⟨hs, _, ⟨c, r1, r2, r3, r4⟩, ht', hf'⟩ := h'
  have q2 : PI n t (sb g' 3) (sb u' 2) := p2.rows2 (hg 4 (by omega) (by decide) (by decide) (by decide) (by decide)) (hg 5 (by omega) (by decide) (by decide) (by decide) (by decide)) (hu 2 (by omega)) (hu 3 (by omega))
  refine ⟨fun k hk => (hs k hk).of rfl rfl rfl (by rw [hg 0 (by omega) (by decide) (by decide) (by decide) (by decide)]) (by rw [hg 1 (by omega) (by decide) (by decide) (by decide) (by decide)]) (fun _ _ => by rw [hg 2 (by omega) (by decide) (by decide) (by decide) (by decide)]), ⟨n, t, p1.rows (fun j hj => hc.1 (5 + j) (by omega)) (hc.2 11 (by omega)) (hc.2 12 (by omega)), q2, p3, ?_, p5.of (hc.1 8 (by omega)) (hc.1 9 (by omega))⟩, ⟨c, r1, r2, r3, fun i hi => by rw [hg 16 (by omega) (by decide) (by decide) (by decide) (by decide)]; exact r4 i hi⟩, ht', hf'⟩
  refine ⟨fun k hk => ⟨?_, ?_, ?_⟩, fun j hj => ⟨?_, ?_, ?_, ?_⟩⟩
  · show f' 5 k = g' 3 k
    rw [hc.1 5 (by decide), h3 k (by omega)]; exact (p4.1 k hk).1
  · show f' 6 k = g' 4 k
    rw [hc.1 6 (by decide), hg 4 (by omega) (by decide) (by decide) (by decide) (by decide)]; exact (p4.1 k hk).2.1
  · show f' 7 k = g' 5 k
    rw [hc.1 7 (by decide), hg 5 (by omega) (by decide) (by decide) (by decide) (by decide)]; exact (p4.1 k hk).2.2
  · show f' 8 j = g' 6 j
    rw [hc.1 8 (by decide), hg 6 (by omega) (by decide) (by decide) (by decide) (by decide)]; exact (p4.2 j hj).1
  · show f' 9 j = g' 7 j
    rw [hc.1 9 (by decide), (h7 j (by omega)).1]; exact (p4.2 j hj).2.1
  · show f' 10 j = g' 8 j
    rw [hc.1 10 (by decide), (h7 j (by omega)).2.1]; exact (p4.2 j hj).2.2.1
  · show f' 11 j = g' 9 j
    rw [hc.1 11 (by decide), (h7 j (by omega)).2.2]; exact (p4.2 j hj).2.2.2
