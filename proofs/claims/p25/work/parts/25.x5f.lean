/-! ===== the reference: choices, least terms, readings ===== -/
section C5
variable {n t : Nat} {g : FF} {u : VV} {posf : Int32 → FF → VV → Prop} {post : Int32 → Prop}
def oI : Option Nat → Int32
  | none => -9
  | some a => nI a
/-- the best of the first k tests for what is left -/
def pk5 (B W : Nat → Int32) (m : Nat) (mn left : Int32) : Nat → Option Nat
  | 0 => none
  | j + 1 => if kB B m j &&& left = 0 then pk5 B W m mn left j else match pk5 B W m mn left j with
    | none => some j
    | some a => if btr5 B W m mn j a left = true then some j else some a
theorem pk5_lt {B W : Nat → Int32} {m : Nat} {mn left : Int32} : ∀ {k a : Nat}, pk5 B W m mn left k = some a → a < k ∧ ¬ kB B m a &&& left = 0
  | 0, a, h => by simp [pk5] at h
  | k + 1, a, h => by
    rw [pk5] at h
    split at h
    · have := pk5_lt h
      exact ⟨by omega, this.2⟩
    · rename_i hb
      split at h
      · cases h; exact ⟨by omega, hb⟩
      · rename_i a' e
        split at h
        · cases h; exact ⟨by omega, hb⟩
        · cases h
          have := pk5_lt e
          exact ⟨by omega, this.2⟩
theorem pk5_some {B W : Nat → Int32} {m : Nat} {mn left : Int32} {j : Nat} (hj : ¬ kB B m j &&& left = 0) : ∀ {k : Nat}, j < k → ∃ a, pk5 B W m mn left k = some a
  | 0, h => absurd h (by omega)
  | k + 1, h => by
    rw [pk5]
    split
    · rename_i hb
      rcases Nat.lt_succ_iff_lt_or_eq.mp h with h | rfl
      · exact pk5_some hj h
      · exact absurd hb hj
    · split
      · exact ⟨_, rfl⟩
      · split <;> exact ⟨_, rfl⟩
theorem oI_9 {a : Nat} (ha : a < 7) : ¬ oI (some a) = -9 := by
  have := (show ∀ a, a < 7 → ¬ nI a = -9 by decide +kernel) a ha
  exact this
theorem q5_pick_loop {x2 mn left : Int32} {K : Int32 → Int32 → FF → VV → Prop} (hP : PI n t (sb g 3) (sb u 2)) (hK : ∀ x5, K (oI (pk5 (g 13) (fun j => wgt (g 6 j) (g 7 j)) (4 * n) mn left t)) x5 g u) :
    ∀ (d k : Nat), k + d = t → Q_X5_findChoices_L24 mn x2 left K (d + 1) (oI (pk5 (g 13) (fun j => wgt (g 6 j) (g 7 j)) (4 * n) mn left k)) (nI k) g u := by
  have ht := hP.2.1
  have e : u 3 = nI t := hP.2.2.2.1
  intro d
  induction d with
  | zero =>
    intro k hk
    rw [Q_X5_findChoices_L24, e, show k = t by omega]
    exact ⟨fun _ => hK _, fun c => absurd (Int32.le_refl _) c⟩
  | succ d ih =>
    intro k hk
    rw [Q_X5_findChoices_L24, e]
    have := ih (k + 1) (by omega)
    rw [pk5] at this
    refine ⟨fun c => absurd ((le_nI (by omega) (by omega)).mp c) (by omega), fun _ => q5_killedBy hP (by omega) ⟨fun c x1 e1 => ?_, fun c => ?_⟩⟩
    · rw [e1, nI_1]; rw [if_pos c] at this; exact this
    · rw [if_neg c] at this
      match hm : pk5 (g 13) (fun j => wgt (g 6 j) (g 7 j)) (4 * n) mn left k with
      | none =>
        rw [hm] at this
        exact ⟨fun _ x1 e1 => by rw [e1, nI_1]; exact this, fun c => absurd rfl c⟩
      | some a =>
        rw [hm] at this
        have ha := (pk5_lt hm).1
        refine ⟨fun c => absurd c (oI_9 (by omega)), fun _ => q5_isBetter hP (by omega) (by omega) (fun hb => ⟨fun c => absurd c (by decide), fun _ x1 e1 => ?_⟩) (fun hb => ⟨fun _ x1 e1 => ?_, fun c => absurd rfl c⟩)⟩
        · rw [e1, nI_1]; simp only [hb] at this; exact this
        · rw [e1, nI_1]; simp only [hb] at this; exact this
/-- c choices are made, and stand in C -/
def Ch5 (B W : Nat → Int32) (m t : Nat) (mn : Int32) (C : Nat → Int32) (c : Nat) : Prop := ∀ i, i < c → ¬ lft B (setC C i) m = 0 ∧ ∃ a, a < t ∧ pk5 B W m mn (lft B (setC C i) m) t = some a ∧ C i = nI a
theorem setC_cong {C D : Nat → Int32} : ∀ {k : Nat}, (∀ i, i < k → C i = D i) → setC C k = setC D k
  | 0, _ => rfl
  | k + 1, h => by rw [setC, setC, setC_cong (fun i hi => h i (by omega)), h k (by omega)]
theorem bt_left {B : Nat → Int32} {S : Int32} {m q : Nat} (hm : m ≤ 32) (hq : q < 32) : bt (lft B S m) q = (decide (q < m) && decide (¬ B q = 0 ∧ (B q &&& S) = 0)) := by unfold lft; rw [bt_bs _ m hm q hq]
theorem not0 {x : Int32} (h : ¬ x = 0) : ∃ i, i < 32 ∧ bt x i = true := by
  apply Classical.byContradiction
  intro c
  apply h
  apply b_ext
  intro i hi
  rw [b_0]
  cases hb : bt x i
  · rfl
  · exact absurd ⟨i, hi, hb⟩ c
theorem is0 {x : Int32} {i : Nat} (h : bt x i = true) : ¬ x = 0 := fun e => by rw [e, b_0] at h; exact absurd h (by decide)
/-- what a choice adds is new -/
theorem pick_new {B W : Nat → Int32} {m t : Nat} {mn S : Int32} (hm : m ≤ 20) (ht : t ≤ 7) (hB : ∀ q, q < m → ∀ i, bt (B q) i = true → i < t) (hl : ¬ lft B S m = 0) : ∃ a, a < t ∧ pk5 B W m mn (lft B S m) t = some a ∧ bt S a = false := by
  obtain ⟨q, hq, e⟩ := not0 hl
  rw [bt_left (by omega) hq, Bool.and_eq_true, decide_eq_true_iff, decide_eq_true_iff] at e
  obtain ⟨hqm, hq0, hqS⟩ := e
  obtain ⟨i, hi, ei⟩ := not0 hq0
  have hit := hB q hqm i ei
  have h1 : ¬ kB B m i &&& lft B S m = 0 := is0 (i := q) (by
    rw [b_and, bt_left (by omega) hq]; unfold kB; rw [bt_bs _ m (by omega) q hq, decide_eq_true hqm, decide_eq_true (show ¬ B q = 0 ∧ (B q &&& S) = 0 from ⟨hq0, hqS⟩), ei]; rfl)
  obtain ⟨a, ha⟩ := pk5_some (W := W) (mn := mn) h1 hit
  obtain ⟨hat, hk⟩ := pk5_lt ha
  refine ⟨a, hat, ha, ?_⟩
  obtain ⟨q2, hq2, e2⟩ := not0 hk
  rw [b_and, bt_left (by omega) hq2, Bool.and_eq_true, Bool.and_eq_true, decide_eq_true_iff, decide_eq_true_iff] at e2
  unfold kB at e2
  rw [bt_bs _ m (by omega) q2 hq2, Bool.and_eq_true, decide_eq_true_iff] at e2
  cases hb : bt S a with
  | false => rfl
  | true => exact absurd e2.2.2.2 (is0 (i := a) (by rw [b_and, e2.1.2, hb]; rfl))
theorem q5_fch_loop {B : Nat → Int32} {mn : Int32} {K : Int32 → Int32 → FF → VV → Prop} {g0 : FF} {u0 : VV} (hP : PI n t (sb g0 3) (sb u0 2)) (h13 : g0 13 = B) (hB : ∀ q, q < 4 * n → ∀ i, bt (B q) i = true → i < t)
    (hK : ∀ c (g : FF) (u : VV), c ≤ 7 → lft B (setC (g 15) c) (4 * n) = 0 → Ch5 B (fun j => wgt (g0 6 j) (g0 7 j)) (4 * n) t mn (g 15) c → u 7 = nI c → (∀ j, j ≠ 15 → g j = g0 j) → (∀ i, i ≠ 7 → u i = u0 i) → K (setC (g 15) c) 0 g u) :
    ∀ (d c : Nat) (g : FF) (u : VV), c + d = t → fb_ct (fun i => bt (setC (g 15) c) i) t = c → Ch5 B (fun j => wgt (g0 6 j) (g0 7 j)) (4 * n) t mn (g 15) c → u 7 = nI c → (∀ j, j ≠ 15 → g j = g0 j) → (∀ i, i ≠ 7 → u i = u0 i) → Q_X5_findChoices_L13 mn K (d + 1) (setC (g 15) c) (lft B (setC (g 15) c) (4 * n)) g u := by
  have hn := hP.1
  have ht := hP.2.1
  have stop : ∀ (d c : Nat) (g : FF) (u : VV), c ≤ 7 → lft B (setC (g 15) c) (4 * n) = 0 → Ch5 B (fun j => wgt (g0 6 j) (g0 7 j)) (4 * n) t mn (g 15) c → u 7 = nI c → (∀ j, j ≠ 15 → g j = g0 j) → (∀ i, i ≠ 7 → u i = u0 i) → Q_X5_findChoices_L13 mn K (d + 1) (setC (g 15) c) (lft B (setC (g 15) c) (4 * n)) g u := by
    intro d c g u hc hl hC h7 hg hu
    rw [Q_X5_findChoices_L13, hl]
    exact ⟨fun _ => hK c g u hc hl hC h7 hg hu, fun z => absurd rfl z⟩
  intro d
  induction d with
  | zero =>
    intro c g u hc hct hC h7 hg hu
    refine stop 0 c g u (by omega) ?_ hC h7 hg hu
    apply Classical.byContradiction
    intro hl
    obtain ⟨a, hat, ha, hb⟩ := pick_new (W := fun j => wgt (g0 6 j) (g0 7 j)) (mn := mn) (by omega) ht hB hl
    have := fb_ct_all.mp (hct.trans (show c = t by omega)) a hat
    rw [hb] at this; exact absurd this (by decide)
  | succ d ih =>
    intro c g u hc hct hC h7 hg hu
    by_cases hl : lft B (setC (g 15) c) (4 * n) = 0
    · exact stop _ c g u (by omega) hl hC h7 hg hu
    · rw [Q_X5_findChoices_L13]
      obtain ⟨a, hat, ha, hb⟩ := pick_new (W := fun j => wgt (g0 6 j) (g0 7 j)) (mn := mn) (by omega) ht hB hl
      have hPg : PI n t (sb g 3) (sb u 2) := hP.rows (fun j hj => hg (3 + j) (by omega)) (hu 2 (by decide)) (hu 3 (by decide))
      have e13 : g 13 = B := (hg 13 (by decide)).trans h13
      refine ⟨fun z => absurd z hl, fun _ => ⟨t + 1, q5_pick_loop hPg ?_ t 0 (by omega)⟩⟩
      intro x5 x19 e19
      rw [e13, hg 6 (by decide), hg 7 (by decide), ha] at e19 ⊢
      rw [h7]
      refine ⟨vi_nI (by omega) (by omega), fun g1 eg1 u1 eu1 => ?_⟩
      have r15 : g1 15 = upd (g 15) c (nI a) := by
        rw [eg1, fu_eq]; show upd _ (nI c).toNatClampNeg _ = _; rw [nI_clamp (by omega)]; rfl
      have rg : ∀ j, j ≠ 15 → g1 j = g0 j := fun j hj => by rw [eg1, fu_ne hj, hg j hj]
      have r7 : u1 7 = nI (c + 1) := by rw [eu1, fu_eq, nI_1]
      have ru : ∀ i, i ≠ 7 → u1 i = u0 i := fun i hi => by rw [eu1, fu_ne hi, hu i hi]
      have hsc : ∀ i, i ≤ c → setC (g1 15) i = setC (g 15) i := fun i hi => setC_cong (fun k hk => by rw [r15, upd_ne (by omega)])
      have eS : x19 = setC (g1 15) (c + 1) := by rw [e19, setC, hsc c (Nat.le_refl _), r15, upd_eq]; rfl
      have hPg1 : PI n t (sb g1 3) (sb u1 2) := hP.rows (fun j hj => rg (3 + j) (by omega)) (ru 2 (by decide)) (ru 3 (by decide))
      refine q5_leftBy hPg1 ?_
      rw [eS, rg 13 (by decide), h13]
      refine ih (c + 1) g1 u1 (by omega) ?_ ?_ r7 rg ru
      · have e1 : ∀ i, i < t → bt (setC (g1 15) (c + 1)) i = (fun k => if k = a then true else bt (setC (g 15) c) k) i := by
          intro i hi
          show _ = if i = a then true else bt (setC (g 15) c) i
          rw [setC, hsc c (Nat.le_refl _), r15, upd_eq, b_or, b_one (by omega) (by omega)]
          by_cases hia : i = a
          · rw [if_pos hia, decide_eq_true hia, Bool.or_true]
          · rw [if_neg hia, decide_eq_false hia, Bool.or_false]
        rw [fb_ct_cong e1]
        have := fb_ct_upd (fun i => bt (setC (g 15) c) i) true hat
        simp only [hb, if_true, Bool.false_eq_true, if_false] at this
        omega
      · intro i hi
        rcases Nat.lt_succ_iff_lt_or_eq.mp hi with hi | rfl
        · have := hC i hi
          rw [hsc i (by omega), r15, upd_ne (by omega)]
          exact this
        · rw [hsc i (Nat.le_refl _), r15, upd_eq]
          exact ⟨hl, a, hat, ha, rfl⟩
theorem q5_findChoices {B : Nat → Int32} {mn : Int32} (hP : PI n t (sb g 3) (sb u 2)) (h13 : g 13 = B) (hB : ∀ q, q < 4 * n → ∀ i, bt (B q) i = true → i < t)
    (hK : ∀ c (g' : FF) (u' : VV), c ≤ 7 → lft B (setC (g' 15) c) (4 * n) = 0 → Ch5 B (fun j => wgt (g 6 j) (g 7 j)) (4 * n) t mn (g' 15) c → u' 7 = nI c → (∀ j, j ≠ 15 → g' j = g j) → (∀ i, i ≠ 7 → u' i = u i) → posf (setC (g' 15) c) g' u') : Q_X5_findChoices mn g u posf := by
  unfold Q_X5_findChoices
  intro v1 ev1
  have ru : ∀ i, i ≠ 7 → v1 i = u i := fun i hi => by rw [ev1, fu_ne hi]
  have hP1 : PI n t (sb g 3) (sb v1 2) := hP.rows (fun _ _ => rfl) (ru 2 (by decide)) (ru 3 (by decide))
  refine q5_leftBy hP1 ⟨t + 1, ?_⟩
  rw [h13]
  refine q5_fch_loop (u0 := v1) hP1 h13 hB (fun c g' u' a1 a2 a3 a4 a5 a6 => hK c g' u' a1 a2 a3 a4 a5 (fun i hi => (a6 i hi).trans (ru i hi))) t 0 g v1 (by omega) ?_ (fun i hi => absurd hi (by omega)) (by rw [ev1, fu_eq]; rfl) (fun _ _ => rfl) (fun _ _ => rfl)
  rw [fb_ct_zero]
  intro k hk
  exact b_0 k
end C5
