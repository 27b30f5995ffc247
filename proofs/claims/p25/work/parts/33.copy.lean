/-- x of a copied row of cells -/
def cpyF (r : Nat → Int32) (S D a b : Nat) : Nat → Int32 := fun x => if D + a ≤ x ∧ x < D + b then r (S + (x - D)) else r x
theorem q5_cp_loop {k1 i k2 j n : Nat} {x6 : Int32} {K : Int32 → FF → VV → Prop} {g0 : FF} {u : VV} (hS : 60 * k1 + i + n ≤ 240) (hD : 60 * k2 + j + n ≤ 240) (hSD : 60 * k2 + j ≤ 60 * k1 + i ∨ 60 * k1 + i + n ≤ 60 * k2 + j)
    (hK : ∀ x g, g 2 = cpyF (g0 2) (60 * k1 + i) (60 * k2 + j) 0 n → (∀ r, r ≠ 2 → g r = g0 r) → K x g u) :
    ∀ (d c : Nat) (g : FF), c + d = n → g 2 = cpyF (g0 2) (60 * k1 + i) (60 * k2 + j) 0 c → (∀ r, r ≠ 2 → g r = g0 r) → Q_X5_copy_L166 (nI k1) (nI i) (nI k2) (nI j) (nI n) x6 0 K (d + 1) (nI c) g u := by
  intro d
  induction d with
  | zero =>
    intro c g hc h1 h2
    rw [Q_X5_copy_L166, show c = n by omega]
    rw [show c = n by omega] at h1
    exact ⟨fun _ => hK _ g h1 h2, fun c => absurd (Int32.le_refl _) c⟩
  | succ d ih =>
    intro c g hc h1 h2
    rw [Q_X5_copy_L166, n60, n60, nI_add, nI_add, nI_clamp (n := 60 * k1 + i + c) (by omega)]
    refine ⟨fun z => absurd ((le_nI (by omega) (by omega)).mp z) (by omega), fun _ => ⟨fun _ => ⟨vi_nI (by omega) (by omega), vi_nI (by omega) (by omega), fun g1 e1 x ex => ?_⟩, fun z => absurd rfl z⟩⟩
    rw [ex, nI_1]
    rw [wrN (by omega)] at e1
    refine ih (c + 1) g1 (by omega) ?_ (fun r hr => by rw [e1, fu_ne hr, h2 r hr])
    rw [e1, fu_eq, h1]
    funext y
    unfold cpyF
    by_cases hy : y = 60 * k2 + j + c
    · rw [hy, upd_eq, if_neg (by omega), if_pos (by omega)]
      congr 1; omega
    · rw [upd_ne hy]
      by_cases hy2 : 60 * k2 + j + 0 ≤ y ∧ y < 60 * k2 + j + c
      · rw [if_pos hy2, if_pos (by omega)]
      · rw [if_neg hy2, if_neg (by omega)]
theorem q5_cq_loop {k1 i k2 j n : Nat} {x6 : Int32} {K : Int32 → FF → VV → Prop} {g0 : FF} {u : VV} (hS : 60 * k1 + i + n ≤ 240) (hD : 60 * k2 + j + n ≤ 240) (hSD : 60 * k1 + i ≤ 60 * k2 + j ∨ 60 * k2 + j + n ≤ 60 * k1 + i)
    (hK : ∀ x g, g 2 = cpyF (g0 2) (60 * k1 + i) (60 * k2 + j) 0 n → (∀ r, r ≠ 2 → g r = g0 r) → K x g u) :
    ∀ (d c : Nat) (g : FF), c + d = n → g 2 = cpyF (g0 2) (60 * k1 + i) (60 * k2 + j) (n - c) n → (∀ r, r ≠ 2 → g r = g0 r) → Q_X5_copy_L166 (nI k1) (nI i) (nI k2) (nI j) (nI n) x6 1 K (d + 1) (nI c) g u := by
  intro d
  induction d with
  | zero =>
    intro c g hc h1 h2
    rw [Q_X5_copy_L166, show c = n by omega]
    rw [show c = n by omega, Nat.sub_self] at h1
    exact ⟨fun _ => hK _ g h1 h2, fun c => absurd (Int32.le_refl _) c⟩
  | succ d ih =>
    intro c g hc h1 h2
    rw [Q_X5_copy_L166, n60, n60]
    refine ⟨fun z => absurd ((le_nI (by omega) (by omega)).mp z) (by omega), fun _ => ⟨fun z => absurd z (by decide), fun _ z ez => ?_⟩⟩
    rw [show nI n - 1 = nI (n - 1) from nI_sub (i := 1) (by omega), nI_sub (by omega)] at ez
    subst ez
    rw [nI_add, nI_add, nI_clamp (by omega)]
    refine ⟨vi_nI (by omega) (by omega), vi_nI (by omega) (by omega), fun g1 e1 x ex => ?_⟩
    rw [ex, nI_1]
    rw [wrN (by omega)] at e1
    refine ih (c + 1) g1 (by omega) ?_ (fun r hr => by rw [e1, fu_ne hr, h2 r hr])
    rw [e1, fu_eq, h1]
    funext y
    unfold cpyF
    by_cases hy : y = 60 * k2 + j + (n - 1 - c)
    · rw [hy, upd_eq, if_neg (by omega), if_pos (by omega)]
      congr 1; omega
    · rw [upd_ne hy]
      by_cases hy2 : 60 * k2 + j + (n - c) ≤ y ∧ y < 60 * k2 + j + n
      · rw [if_pos hy2, if_pos (by omega)]
      · rw [if_neg hy2, if_neg (by omega)]
theorem op_copy (p0 p1 p2 p3 p4 : Int32) (f : FF) (v : VV) (g : FF) (u : VV) (h : Rel0 f v g u) : Q_X4_copy p0 p1 p2 p3 p4 f v (fun r f1 v1 => Q_X5_copy p0 p1 p2 p3 p4 g u (fun r' g1 u1 => r = r' ∧ Rel0 f1 v1 g1 u1)) := by
  intro v1 ev1
  have h0 := h.fault 0
  rw [← ev1] at h0
  refine q_isSheet (fun k hk ek => yes1 ?_) (fun hk => no0 (fun u1 eu1 => q5_isSheet0 hk (no0 ⟨rfl, by rw [eu1]; exact h0⟩)))
  subst ek
  refine q_isSheet (fun k2 hk2 ek => yes1' ?_) (fun hk2 => no0' (fun u1 eu1 => q5_isSheet1 hk (yes1 (q5_isSheet0 hk2 (no0' ⟨rfl, by rw [eu1]; exact h0⟩)))))
  subst ek
  have vk : vp_in (nI k) 4 := vi_nI (by omega) (by omega)
  have vk2 : vp_in (nI k2) 4 := vi_nI (by omega) (by omega)
  refine ⟨vk, vk2, ?_⟩
  rw [nI_clamp (n := k) (by omega), nI_clamp (n := k2) (by omega)]
  have ent : ∀ {P : Int32 → FF → VV → Prop} {u1 : VV}, (vp_in (nI k) 4 ∧ ((g 0 k = -9 → Q_X5_fails 1 g u1 P) ∧ (¬ g 0 k = -9 → True))) → True := fun _ => trivial
  rcases h0.1 k hk with ⟨n1, n2⟩ | ⟨l, m, hl, hm, a3, a4, a5, a6, a7⟩
  · refine q_isNothing (fun e => yes1' (fun v2 ev2 => ?_)) (fun e => absurd n1 e)
    intro u1 eu1
    refine q5_isSheet1 hk (yes1 (q5_isSheet1 hk2 (yes1' ⟨vk, ?_⟩)))
    rw [nI_clamp (n := k) (by omega)]
    refine ⟨fun _ u2 eu2 => ⟨rfl, ?_⟩, fun c => absurd n2 c⟩
    rw [ev2, eu2, eu1]; exact h0.fault 1
  refine q_isNothing (fun e => absurd (a3.symm.trans e) (l_m1 hl)) (fun _ => no0' ?_)
  rcases h0.1 k2 hk2 with ⟨n1, n2⟩ | ⟨l', m', hl', hm', b3, b4, b5, b6, b7⟩
  · refine q_isNothing (fun e => yes1 (fun v2 ev2 => ?_)) (fun e => absurd n1 e)
    intro u1 eu1
    refine q5_isSheet1 hk (yes1 (q5_isSheet1 hk2 (yes1' ⟨vk, ?_⟩)))
    rw [nI_clamp (n := k) (by omega), nI_clamp (n := k2) (by omega), a4]
    refine ⟨fun c => absurd c (l_m9 hl), fun _ => ⟨vk2, fun c => absurd n2 c, fun _ u2 eu2 => ⟨rfl, ?_⟩⟩⟩
    rw [ev2, eu2, eu1]; exact h0.fault 1
  refine q_isNothing (fun e => absurd (b3.symm.trans e) (l_m1 hl')) (fun _ => no0 ?_)
  rw [a3, b3]
  have c1 : sb v1 (3 + 2 * k) 1 = nI m := by rw [sb_add, show 3 + 2 * k + 1 = 4 + 2 * k by omega]; exact a5
  have c2 : sb v1 (3 + 2 * k2) 1 = nI m' := by rw [sb_add, show 3 + 2 * k2 + 1 = 4 + 2 * k2 by omega]; exact b5
  have bad : ∀ v2 : VV, nI l = nI l' → v2 = fu v1 2 3 → ¬ ((∃ i n, i + n ≤ m ∧ p1 = nI i ∧ p4 = nI n) ∧ ∃ i n, i + n ≤ m' ∧ p3 = nI i ∧ p4 = nI n) → Q_X5_copy (nI k) p1 (nI k2) p3 p4 g u (fun r' g1 u1 => -10 - 3 = r' ∧ Rel0 f v2 g1 u1) := by
    intro v2 el e2 hno u1 eu1
    have fin : Q_X5_fails 3 g u1 (fun r' g1 u1 => -10 - 3 = r' ∧ Rel0 f v2 g1 u1) := fun u2 eu2 => ⟨rfl, by rw [e2, eu2, eu1]; exact h0.fault 3⟩
    have H1 := cellsI hm (p := p1) (q := p4)
    have H2 := cellsI hm' (p := p3) (q := p4)
    refine q5_isSheet1 hk (yes1 (q5_isSheet1 hk2 (yes1' ⟨vk, ?_⟩)))
    rw [nI_clamp (n := k) (by omega), nI_clamp (n := k2) (by omega), a4, b4, a6, b6]
    refine ⟨fun c => absurd c (l_m9 hl), fun _ => ⟨vk2, fun _ => ⟨vk, vk2, fun _ => ⟨fun _ => fin, fun q1 => ⟨fun _ => fin, fun q2 => ⟨fun _ => fin, fun q3 => ⟨vk, fun _ => fin, fun q4 => ⟨vk2, fun _ => fin, fun q5 => ⟨vk, fun _ => fin, fun q6 => ⟨vk2, fun q7 => ?_, fun _ => fin⟩⟩⟩⟩⟩⟩⟩, fun c => absurd el c⟩, fun c => absurd c (l_m9 hl')⟩⟩
    exact absurd ⟨H1.mp ⟨q1, q4, q3, q6⟩, H2.mp ⟨q2, q5, q3, Int32.not_lt.mpr q7⟩⟩ hno
  refine ⟨fun el => ?_, fun el v2 ev2 => ?_⟩
  · refine q_hasCells hm c1 (fun i n hin e1 e4 => yes1 (q_hasCells hm' c2 (fun j n' hjn e3 e4' => yes1' ?_) (fun hno => no0' (fun v2 ev2 => bad v2 el ev2 (fun z => hno z.2))))) (fun hno => no0 (fun v2 ev2 => bad v2 el ev2 (fun z => hno z.1)))
    subst e1; subst e4; subst e3
    have : n' = n := ((nI_eq (by omega) (by omega)).mp e4').symm
    subst this
    refine ⟨nI_neg (by omega), nI_neg (by omega), nI_neg (by omega), ?_⟩
    rw [nI_clamp (by omega), nI_clamp (by omega), nI_clamp (by omega)]
    refine ⟨by omega, by omega, fun f28 e28 => ?_⟩
    intro u1 eu1
    have H1 := (cellsI hm (p := nI i) (q := nI n')).mpr ⟨i, n', hin, rfl, rfl⟩
    have H2 := (cellsI hm' (p := nI j) (q := nI n')).mpr ⟨j, n', hjn, rfl, rfl⟩
    have fin : ∀ g' : FF, g' 2 = cpyF (g 2) (60 * k + i) (60 * k2 + j) 0 n' → (∀ r, r ≠ 2 → g' r = g r) → Rel0 f28 v1 g' u1 := by
      intro g' e2 er
      refine h0.sheet hk2 (fun r h1 h2 => by rw [e28, fu_ne h2]) (fun _ _ _ _ => rfl) (fun r h1 h2 h3 h4 => er r h4) (fun i h1 h2 => by rw [er 0 (by decide)]) (fun i h1 h2 => by rw [er 1 (by decide)]) (fun k' h1 h2 i' h3 => ?_) (fun r _ => by rw [eu1]) (Or.inr ⟨l', m', hl', hm', b3, by rw [er 0 (by decide)]; exact b4, b5, by rw [er 1 (by decide)]; exact b6, fun x hx => ?_⟩)
      · rw [e2]; unfold cpyF; rw [if_neg (by omega)]
      · rw [e28, fu_eq, e2]
        unfold cpyF
        by_cases hx2 : j ≤ x ∧ x < j + n'
        · rw [pk_cpy_in hx2.1 hx2.2, if_pos (by omega), a7 _ (by omega)]
          congr 1; omega
        · rw [pk_cpy_out (by omega), if_neg (by omega), b7 x hx]
    refine q5_isSheet1 hk (yes1 (q5_isSheet1 hk2 (yes1' ⟨vk, ?_⟩)))
    rw [nI_clamp (n := k) (by omega), nI_clamp (n := k2) (by omega), a4, b4, a6, b6]
    refine ⟨fun c => absurd c (l_m9 hl), fun _ => ⟨vk2, fun _ => ⟨vk, vk2, fun _ => ⟨fun c => absurd c H1.1, fun _ => ⟨fun c => absurd c H2.1, fun _ => ⟨fun c => absurd c H1.2.2.1, fun _ => ⟨vk, fun c => absurd c H1.2.1, fun _ => ⟨vk2, fun c => absurd c H2.2.1, fun _ => ⟨vk, fun c => absurd c H1.2.2.2, fun _ => ⟨vk2, fun _ => ⟨fun c => ⟨n' + 1, ?_⟩, fun c => ⟨n' + 1, ?_⟩⟩, fun c => absurd (Int32.not_lt.mp H2.2.2.2) c⟩⟩⟩⟩⟩⟩⟩, fun c => absurd el c⟩, fun c => absurd c (l_m9 hl')⟩⟩
    · rw [le_nI (by omega) (by omega)] at c
      refine q5_cp_loop (by omega) (by omega) ?_ (fun x g' e2 er => ⟨rfl, fin g' e2 er⟩) n' 0 g (by omega) ?_ (fun _ _ => rfl)
      · by_cases e : k = k2
        · subst e; left; omega
        · omega
      · funext y; unfold cpyF; rw [if_neg (by omega)]
    · rw [le_nI (by omega) (by omega)] at c
      refine q5_cq_loop (by omega) (by omega) ?_ (fun x g' e2 er => ⟨rfl, fin g' e2 er⟩) n' 0 g (by omega) ?_ (fun _ _ => rfl)
      · by_cases e : k = k2
        · subst e; left; omega
        · omega
      · funext y; unfold cpyF; rw [if_neg (by omega)]
  · intro u1 eu1
    refine q5_isSheet1 hk (yes1 (q5_isSheet1 hk2 (yes1' ⟨vk, ?_⟩)))
    rw [nI_clamp (n := k) (by omega), nI_clamp (n := k2) (by omega), a4, b4]
    refine ⟨fun c => absurd c (l_m9 hl), fun _ => ⟨vk2, fun _ => ⟨vk, vk2, fun c => absurd c el, fun _ u2 eu2 => ⟨rfl, ?_⟩⟩, fun c => absurd c (l_m9 hl')⟩⟩
    rw [ev2, eu2, eu1]; exact h0.fault 2
