/-! ===== sheets: the class and the reference side by side ===== -/
theorem nI_sub {i m : Nat} (h : i ≤ m) : nI m - nI i = nI (m - i) := by
  have : nI m = nI (m - i) + nI i := by rw [nI_add]; congr 1; omega
  rw [this, Int32.add_sub_cancel]
theorem q_isSheet {p : Int32} {post : Int32 → Prop} (h1 : ∀ k, k < 4 → p = nI k → post 1) (h0 : (∀ k, k < 4 → p ≠ nI k) → post 0) : Q_X4_isSheet p post := by
  refine q_isWithin (fun a b => ⟨Or.inr rfl, ?_⟩) (fun a => ⟨Or.inl rfl, h0 (fun k hk e => a ?_)⟩)
  · obtain ⟨k, e, h, h'⟩ := rngI (a := 0) (b := 3) (by omega) a b (by omega)
    exact h1 k (by omega) e
  · rw [e]; exact (nrng (a := 0) (b := 3) (by omega) (by omega) (by omega)).mpr (by omega)
theorem q5_isSheet1 {k : Nat} {post : Int32 → Prop} (hk : k < 4) (h : post 1) : Q_X5_isSheet (nI k) post :=
  q5_within (fun _ _ => ⟨Or.inr rfl, h⟩) (fun a => absurd ((nrng (a := 0) (b := 3) (by omega) (by omega) (by omega)).mpr (by omega)) a)
theorem q5_isSheet0 {p : Int32} {post : Int32 → Prop} (hk : ∀ k, k < 4 → p ≠ nI k) (h : post 0) : Q_X5_isSheet p post := by
  refine q5_within (fun a b => ?_) (fun a => ⟨Or.inl rfl, h⟩)
  obtain ⟨k, e, h, h'⟩ := rngI (a := 0) (b := 3) (by omega) a b (by omega)
  exact absurd e (hk k (by omega))
theorem q5_within1 {x lo hi : Int32} {post : Int32 → Prop} (h1 : lo ≤ x) (h2 : x ≤ hi) (h : post 1) : Q_X5_within x lo hi post := q5_within (fun _ _ => h) (fun c => absurd ⟨h1, h2⟩ c)
theorem q5_within0 {x lo hi : Int32} {post : Int32 → Prop} (h0 : ¬ (lo ≤ x ∧ x ≤ hi)) (h : post 0) : Q_X5_within x lo hi post := q5_within (fun a b => absurd ⟨a, b⟩ h0) (fun _ => h)
theorem q5_isSort1 {x : Int32} {post : Int32 → Prop} (h1 : 0 ≤ x) (h2 : x ≤ 2) (h : post 1) : Q_X5_isSort x post := q5_within1 h1 h2 ⟨Or.inr rfl, h⟩
theorem q5_isSort0 {x : Int32} {post : Int32 → Prop} (h0 : ¬ (0 ≤ x ∧ x ≤ 2)) (h : post 0) : Q_X5_isSort x post := q5_within0 h0 ⟨Or.inl rfl, h⟩
theorem lane3 {x : Int32} (h1 : 0 ≤ x) (h2 : x ≤ 2) : ∃ l, l < 3 ∧ x = nI l := by
  obtain ⟨k, e, h, h'⟩ := rngI (a := 0) (b := 2) (by omega) h1 h2 (by omega)
  exact ⟨k, by omega, e⟩
theorem cellsI {m : Nat} (hm : m ≤ 60) {p q : Int32} : (¬ p < 0 ∧ ¬ nI m < p ∧ ¬ q < 0 ∧ ¬ nI m - p < q) ↔ ∃ i n, i + n ≤ m ∧ p = nI i ∧ q = nI n := by
  constructor
  · rintro ⟨h1, h2, h3, h4⟩
    obtain ⟨i, e, _, hi⟩ := rngI (a := 0) (b := m) (by omega) (Int32.not_lt.mp h1) (Int32.not_lt.mp h2) (by omega)
    subst e
    rw [nI_sub hi] at h4
    obtain ⟨n, e, _, hn⟩ := rngI (a := 0) (b := m - i) (by omega) (Int32.not_lt.mp h3) (Int32.not_lt.mp h4) (by omega)
    exact ⟨i, n, by omega, rfl, e⟩
  · rintro ⟨i, n, h, rfl, rfl⟩
    refine ⟨nI_neg (by omega), ?_, nI_neg (by omega), ?_⟩
    · rw [nI_ltI (by omega) (by omega)]; omega
    · rw [nI_sub (by omega), nI_ltI (by omega) (by omega)]; omega
theorem cellI {m : Nat} (hm : m ≤ 60) {p : Int32} : (0 ≤ p ∧ p ≤ nI m - 1) ↔ ∃ i, i < m ∧ p = nI i := by
  rcases Nat.eq_zero_or_pos m with rfl | h0
  · constructor
    · rintro ⟨a, b⟩
      exact absurd (Int32.le_trans a b) (by decide)
    · rintro ⟨i, hi, _⟩; omega
  · rw [show nI m - 1 = nI (m - 1) from nI_sub (i := 1) h0]
    constructor
    · rintro ⟨a, b⟩
      obtain ⟨i, e, _, hi⟩ := rngI (a := 0) (b := m - 1) (by omega) a b (by omega)
      exact ⟨i, by omega, e⟩
    · rintro ⟨i, hi, rfl⟩
      exact (nrng (a := 0) (by omega) (by omega) (by omega)).mpr (by omega)
section X2
variable {f : FF} {v : VV} {post : Int32 → Prop}
theorem q_isNothing (h1 : v 0 = -1 → post 1) (h0 : ¬ v 0 = -1 → post 0) : Q_X2_isNothing f v post := ⟨h0, h1⟩
theorem q_hasCell {m : Nat} {p : Int32} (hm : m ≤ 60) (e : v 1 = nI m) (h1 : ∀ i, i < m → p = nI i → post 1) (h0 : (¬ ∃ i, i < m ∧ p = nI i) → post 0) : Q_X2_hasCell p f v post := by
  unfold Q_X2_hasCell
  rw [e]
  refine ⟨fun c => h0 ?_, fun c => ⟨fun c2 => h0 ?_, fun c2 => ?_⟩⟩
  · rintro ⟨i, hi, rfl⟩; exact nI_neg (by omega) c
  · rintro ⟨i, hi, rfl⟩; rw [le_nI (by omega) (by omega)] at c2; omega
  · obtain ⟨j, hj, ej⟩ := nI_rng (by omega) c c2
    exact h1 j hj ej
theorem q_hasCells {m : Nat} {p q : Int32} (hm : m ≤ 60) (e : v 1 = nI m) (h1 : ∀ i n, i + n ≤ m → p = nI i → q = nI n → post 1) (h0 : (¬ ∃ i n, i + n ≤ m ∧ p = nI i ∧ q = nI n) → post 0) : Q_X2_hasCells p q f v post := by
  unfold Q_X2_hasCells
  rw [e]
  have H := cellsI hm (p := p) (q := q)
  refine ⟨fun c => h0 (fun z => (H.mpr z).1 c), fun c => ⟨fun c2 => h0 (fun z => (H.mpr z).2.1 c2), fun c2 => ⟨fun c3 => h0 (fun z => (H.mpr z).2.2.1 c3), fun c3 => ⟨fun c4 => h0 (fun z => (H.mpr z).2.2.2 c4), fun c4 => ?_⟩⟩⟩⟩
  obtain ⟨i, n, h, e1, e2⟩ := H.mp ⟨c, c2, c3, c4⟩
  exact h1 i n h e1 e2
theorem q_faultAs {p : Int32} (h1 : v 0 = -1 → post 1) (h2 : ¬ v 0 = -1 → ¬ v 0 = p → post 2) (h0 : ¬ v 0 = -1 → v 0 = p → post 0) : Q_X2_faultAs p f v post :=
  q_isNothing (fun e => ⟨fun c => absurd c (by decide), fun _ => h1 e⟩) (fun e => ⟨fun _ => ⟨h2 e, h0 e⟩, fun c => absurd rfl c⟩)
theorem q_rn_loop {m : Nat} {x1 : Int32} {K : Int32 → FF → VV → Prop} {f0 : FF} (hm : m ≤ 60) (hK : ∀ x f, (∀ i, i < m → f 0 i = 0) → (∀ j, j ≠ 0 → f j = f0 j) → K x f v) :
    ∀ (d k : Nat) (f : FF), k + d = m → (∀ i, i < k → f 0 i = 0) → (∀ j, j ≠ 0 → f j = f0 j) → Q_X2_renew_L12 x1 (nI m) K (d + 1) (nI k) f v := by
  intro d
  induction d with
  | zero =>
    intro k f hk h1 h2
    rw [Q_X2_renew_L12, show k = m by omega]
    exact ⟨fun _ => hK _ f (by rw [show m = k by omega]; exact h1) h2, fun c => absurd (Int32.le_refl _) c⟩
  | succ d ih =>
    intro k f hk h1 h2
    rw [Q_X2_renew_L12]
    refine ⟨fun c => absurd ((le_nI (by omega) (by omega)).mp c) (by omega), fun _ => ⟨vi_nI (by omega) (by omega), fun f1 e1 x ex => ?_⟩⟩
    rw [ex, nI_1]
    rw [wrN (by omega)] at e1
    refine ih (k + 1) f1 (by omega) (fun i hi => ?_) (fun j hj => by rw [e1, fu_ne hj, h2 j hj])
    rw [e1, fu_eq]
    rcases Nat.lt_succ_iff_lt_or_eq.mp hi with hi | rfl
    · rw [upd_ne (by omega), h1 i hi]
    · rw [upd_eq]
theorem q_renew {m : Nat} {p : Int32} {pos : FF → VV → Prop} (hm : m ≤ 60) (h : ∀ f' v', v' 0 = p → v' 1 = nI m → (∀ i, i < m → f' 0 i = 0) → pos f' v') : Q_X2_renew p (nI m) f v pos := by
  intro v1 e1 v2 e2
  refine ⟨m + 1, q_rn_loop (f0 := f) hm (fun _ f' a _ => h f' v2 ?_ ?_ a) m 0 f (by omega) (fun _ h => absurd h (by omega)) (fun _ _ => rfl)⟩
  · rw [e2, fu_ne (by decide), e1, fu_eq]
  · rw [e2, fu_eq]
theorem q_oneIf {p : Int32} (h : post (if p = 0 then 0 else 1)) : Q_X4_oneIf p post := ⟨fun c => by rw [if_pos c] at h; exact h, fun c => by rw [if_neg c] at h; exact h⟩
end X2
/-- a sheet has changed, and all else stays -/
theorem Rel0.sheet {k : Nat} {f f' : FF} {v v' : VV} {g g' : FF} {u u' : VV} (h : Rel0 f v g u) (hk : k < 4) (h1 : ∀ j, j < 12 → j ≠ 1 + k → f' j = f j) (h2 : ∀ i, i < 13 → i ≠ 3 + 2 * k → i ≠ 4 + 2 * k → v' i = v i)
    (h3 : ∀ j, j < 10 ∨ j = 16 → j ≠ 0 → j ≠ 1 → j ≠ 2 → g' j = g j) (h4 : ∀ i, i < 4 → i ≠ k → g' 0 i = g 0 i) (h5 : ∀ i, i < 4 → i ≠ k → g' 1 i = g 1 i) (h6 : ∀ k', k' < 4 → k' ≠ k → ∀ i, i < 60 → g' 2 (60 * k' + i) = g 2 (60 * k' + i)) (h7 : ∀ i, i < 4 ∨ i = 8 → u' i = u i) (h8 : ShR k f' v' g') : Rel0 f' v' g' u' := by
  obtain ⟨hs, ⟨n, t, p1, p2, p3, p4, p5⟩, ⟨c, r1, r2, r3, r4⟩, ht, hf⟩ := h
  refine ⟨fun k' hk' => ?_, ⟨n, t, ?_, ?_, p3, ?_, p5.of (h1 8 (by omega) (by omega)) (h1 9 (by omega) (by omega))⟩, ⟨c, r1, ?_, ?_, ?_⟩, ?_, ?_⟩
  · by_cases e : k' = k
    · rw [e]; exact h8
    · exact (hs k' hk').of (h1 _ (by omega) (by omega)) (h2 _ (by omega) (by omega) (by omega)) (h2 _ (by omega) (by omega) (by omega)) (h4 k' hk' e) (h5 k' hk' e) (h6 k' hk' e)
  · exact p1.rows (fun j hj => h1 (5 + j) (by omega) (by omega)) (h2 11 (by omega) (by omega) (by omega)) (h2 12 (by omega) (by omega) (by omega))
  · exact p2.rows (fun j hj => h3 (3 + j) (by omega) (by omega) (by omega) (by omega)) (h7 2 (by omega)) (h7 3 (by omega))
  · exact p4.of (fun r hr => h1 (5 + r) (by omega) (by omega)) (fun r hr => h3 (3 + r) (by omega) (by omega) (by omega) (by omega))
  · rw [h2 0 (by omega) (by omega) (by omega)]; exact r2
  · rw [h7 8 (by omega)]; exact r3
  · intro i hi; rw [h1 0 (by omega) (by omega), h3 16 (by omega) (by omega) (by omega) (by omega)]; exact r4 i hi
  · rw [h2 1 (by omega) (by omega) (by omega), h7 1 (by omega)]; exact ht
  · rw [h2 2 (by omega) (by omega) (by omega), h7 0 (by omega)]; exact hf
theorem n60 (k i : Nat) : (60 : Int32) * nI k + nI i = nI (60 * k + i) := by rw [show (60 : Int32) * nI k = nI (60 * k) from pk_mul 60 k, nI_add]
theorem q5_sh_loop {k : Nat} {x2 x3 : Int32} {K : Int32 → FF → VV → Prop} {g0 : FF} {u : VV} (hk : k < 4) (hK : ∀ x g, (∀ i, i < 60 → g 2 (60 * k + i) = 0) → (∀ x, x < 60 * k ∨ 60 * k + 60 ≤ x → g 2 x = g0 2 x) → (∀ j, j ≠ 2 → g j = g0 j) → K x g u) :
    ∀ (d c : Nat) (g : FF), c + d = 60 → (∀ i, i < c → g 2 (60 * k + i) = 0) → (∀ x, x < 60 * k ∨ 60 * k + 60 ≤ x → g 2 x = g0 2 x) → (∀ j, j ≠ 2 → g j = g0 j) → Q_X5_sheet_L57 (nI k) x2 x3 K (d + 1) (nI c) g u := by
  intro d
  induction d with
  | zero =>
    intro c g hc h1 h2 h3
    rw [Q_X5_sheet_L57, show c = 60 by omega]
    exact ⟨fun _ => hK _ g (fun i hi => h1 i (by omega)) h2 h3, fun c => absurd (Int32.le_refl _) c⟩
  | succ d ih =>
    intro c g hc h1 h2 h3
    rw [Q_X5_sheet_L57, n60]
    refine ⟨fun z => absurd ((le_nI (a := 60) (by omega) (by omega)).mp z) (by omega), fun _ => ⟨vi_nI (by omega) (by omega), fun g1 e1 x ex => ?_⟩⟩
    rw [ex, nI_1]
    rw [wrN (by omega)] at e1
    refine ih (c + 1) g1 (by omega) (fun i hi => ?_) (fun x hx => ?_) (fun j hj => by rw [e1, fu_ne hj, h3 j hj])
    · rw [e1, fu_eq]
      rcases Nat.lt_succ_iff_lt_or_eq.mp hi with hi | rfl
      · rw [upd_ne (by omega), h1 i hi]
      · rw [upd_eq]
    · rw [e1, fu_eq, upd_ne (by omega), h2 x hx]
theorem op_sheet (p0 p1 p2 : Int32) (f : FF) (v : VV) (g : FF) (u : VV) (h : Rel0 f v g u) : Q_X4_sheet p0 p1 p2 f v (fun r f1 v1 => Q_X5_sheet p0 p1 p2 g u (fun r' g1 u1 => r = r' ∧ Rel0 f1 v1 g1 u1)) := by
  intro v1 ev1
  have h0 := h.fault 0
  rw [← ev1] at h0
  refine q_isSheet (fun k hk ek => yes1' ?_) (fun hk => no0' ?_)
  · subst ek
    refine q_isWithin (fun a b => yes1 ⟨fun c => ⟨fun c2 => ?_, fun c2 => ?_⟩, fun c => ?_⟩) (fun a => no0 ?_)
    · obtain ⟨l, hl, el⟩ := lane3 a b
      obtain ⟨m, em, _, hm⟩ := rngI (a := 0) (b := 60) (by omega) c2 c (by omega)
      subst em
      refine ⟨vi_nI (by omega) (by omega), ?_⟩
      rw [nI_clamp (by omega)]
      refine q_renew hm (fun f10 v11 w0 w1 w2 f12 e12 v13 e13 => ?_)
      intro u1 eu1
      rw [← eu1] at h0
      refine q5_isSheet1 hk (yes1' (q5_isSort1 a b (yes1 ⟨fun _ => ⟨fun _ => ⟨vi_nI (by omega) (by omega), fun g9 e9 => ⟨vi_nI (by omega) (by omega), fun g11 e11 => ⟨61, ?_⟩⟩⟩, fun z => absurd c2 z⟩, fun z => absurd c z⟩)))
      rw [wrN (by omega)] at e9 e11
      refine q5_sh_loop (g0 := g11) hk (fun x g' a1 a2 a3 => ⟨rfl, ?_⟩) 60 0 g11 (by omega) (fun _ h => absurd h (by omega)) (fun _ _ => rfl) (fun _ _ => rfl)
      have b0 : g' 0 = upd (g 0) k p1 := by rw [a3 0 (by decide), e11, fu_ne (by decide), e9, fu_eq]
      have b1 : g' 1 = upd (g 1) k (nI m) := by rw [a3 1 (by decide), e11, fu_eq, e9, fu_ne (by decide)]
      refine h0.sheet hk (fun j h1 h2 => by rw [e12, mg_out (by omega)]) (fun i h1 h2 h3 => by rw [e13, mg_out (by omega)]) (fun j h1 h2 h3 h4 => by rw [a3 j h4, e11, fu_ne h3, e9, fu_ne h2]) (fun i h1 h2 => by rw [b0, upd_ne h2]) (fun i h1 h2 => by rw [b1, upd_ne h2]) (fun k' h1 h2 i h3 => ?_) (fun _ _ => rfl) (Or.inr ⟨l, m, hl, hm, ?_, ?_, ?_, ?_, fun i hi => ?_⟩)
      · rw [a2 _ (by omega), e11, fu_ne (by decide), e9, fu_ne (by decide)]
      · rw [e13, ← el]; exact (mg_at (i := 0) (by decide)).trans w0
      · rw [b0, upd_eq, el]
      · rw [e13, show 4 + 2 * k = 3 + 2 * k + 1 by omega]; exact (mg_at (i := 1) (by decide)).trans w1
      · rw [b1, upd_eq]
      · rw [a1 i (by omega), e12]
        exact (congrFun (mg_at (b := 1 + k) (i := 0) (n := 1) (by decide)) i).trans (w2 i hi)
    · intro v2 ev2 u1 eu1
      rw [← eu1] at h0
      refine q5_isSheet1 hk (yes1' (q5_isSort1 a b (yes1 ⟨fun _ => ⟨fun z => absurd z c2, fun _ u2 eu2 => ⟨rfl, ?_⟩⟩, fun z => absurd c z⟩)))
      rw [ev2, eu2]; exact h0.fault 4
    · intro u1 eu1
      rw [← eu1] at h0
      exact q5_isSheet1 hk (yes1' (q5_isSort1 a b (yes1 ⟨fun z => absurd z c, fun _ => ⟨rfl, h0⟩⟩)))
    · intro u1 eu1
      rw [← eu1] at h0
      exact q5_isSheet1 hk (yes1' (q5_isSort0 a (no0 ⟨rfl, h0⟩)))
  · intro u1 eu1
    rw [← eu1] at h0
    exact q5_isSheet0 hk (no0' ⟨rfl, h0⟩)
theorem op_lose (p0 : Int32) (f : FF) (v : VV) (g : FF) (u : VV) (h : Rel0 f v g u) : Q_X4_lose p0 f v (fun r f1 v1 => Q_X5_lose p0 g u (fun r' g1 u1 => r = r' ∧ Rel0 f1 v1 g1 u1)) := by
  refine q_isSheet (fun k hk ek => yes1' ?_) (fun hk => no0' (q5_isSheet0 hk (no0' ⟨rfl, h⟩)))
  subst ek
  have vk : vp_in (nI k) 4 := vi_nI (by omega) (by omega)
  refine ⟨vk, ?_⟩
  rw [nI_clamp (by omega)]
  have go : ∀ (f11 : FF) (v2 v12 : VV) (g6 : FF), f11 = mg f (1 + k) 1 (sb f (1 + k)) → v2 0 = -1 → v12 = mg v (3 + 2 * k) 2 v2 → g6 = fu g 0 (wr (g 0) (nI k) (-9)) → Rel0 f11 v12 g6 u := by
    intro f11 v2 v12 g6 e11 e2 e12 e6
    rw [mg_sb] at e11
    subst e11
    rw [wrN (by omega)] at e6
    refine h.sheet hk (fun _ _ _ => rfl) (fun i h1 h2 h3 => by rw [e12, mg_out (by omega)]) (fun j h1 h2 h3 h4 => by rw [e6, fu_ne h2]) (fun i h1 h2 => by rw [e6, fu_eq, upd_ne h2]) (fun i h1 h2 => by rw [e6, fu_ne (by decide)]) (fun k' h1 h2 i h3 => by rw [e6, fu_ne (by decide)]) (fun _ _ => rfl) (Or.inl ⟨?_, by rw [e6, fu_eq, upd_eq]⟩)
    rw [e12]; exact (mg_at (i := 0) (by decide)).trans e2
  have hs := h.1 k hk
  refine q_isNothing (fun e => yes1' (q_oneIf ⟨vk, fun v1 e1 v2 e2 f11 e11 v12 e12 => ?_⟩)) (fun e => no0' (q_oneIf ⟨vk, fun v1 e1 v2 e2 f11 e11 v12 e12 => ?_⟩))
  · have e : v (3 + 2 * k) = -1 := e
    have g9 : g 0 k = -9 := by
      rcases hs with hs | ⟨l, m, a1, a2, a3, _⟩
      · exact hs.2
      · rw [a3] at e; exact absurd e ((by decide : ∀ l, l < 3 → ¬ nI l = -1) l a1)
    refine q5_isSheet1 hk (yes1' ⟨vk, ?_⟩)
    rw [nI_clamp (by omega)]
    exact ⟨fun c => absurd g9 c, fun _ => ⟨vk, fun g6 e6 => ⟨rfl, go f11 v2 v12 g6 e11 (by rw [e2, fu_ne (by decide), e1, fu_eq]) e12 e6⟩⟩⟩
  · have e : ¬ v (3 + 2 * k) = -1 := e
    have g9 : ¬ g 0 k = -9 := by
      rcases hs with hs | ⟨l, m, a1, a2, a3, a4, _⟩
      · exact absurd hs.1 e
      · rw [a4]; exact (by decide : ∀ l, l < 3 → ¬ nI l = -9) l a1
    refine q5_isSheet1 hk (yes1' ⟨vk, ?_⟩)
    rw [nI_clamp (by omega)]
    exact ⟨fun _ => ⟨vk, fun g6 e6 => ⟨rfl, go f11 v2 v12 g6 e11 (by rw [e2, fu_ne (by decide), e1, fu_eq]) e12 e6⟩⟩, fun c => absurd c g9⟩
theorem l_m1 {l : Nat} (h : l < 3) : ¬ nI l = -1 := (by decide : ∀ l, l < 3 → ¬ nI l = -1) l h
theorem l_m9 {l : Nat} (h : l < 3) : ¬ nI l = -9 := (by decide : ∀ l, l < 3 → ¬ nI l = -9) l h
/-- a cell has changed on both sides -/
theorem Rel0.cell {k i l m : Nat} {x : Int32} {f f' : FF} {v : VV} {g g' : FF} {u : VV} (h : Rel0 f v g u) (hk : k < 4) (hl : l < 3) (hm : m ≤ 60) (hi : i < m) (a3 : v (3 + 2 * k) = nI l) (a4 : g 0 k = nI l) (a5 : v (4 + 2 * k) = nI m) (a6 : g 1 k = nI m) (a7 : ∀ i, i < m → f (1 + k) i = g 2 (60 * k + i))
    (ef : f' = fu f (1 + k) (upd (f (1 + k)) i x)) (eg : g' = fu g 2 (upd (g 2) (60 * k + i) x)) : Rel0 f' v g' u := by
  refine h.sheet hk (fun j h1 h2 => by rw [ef, fu_ne h2]) (fun _ _ _ _ => rfl) (fun j h1 h2 h3 h4 => by rw [eg, fu_ne h4]) (fun i h1 h2 => by rw [eg, fu_ne (by decide)]) (fun i h1 h2 => by rw [eg, fu_ne (by decide)]) (fun k' h1 h2 i' h3 => by rw [eg, fu_eq, upd_ne (by omega)]) (fun _ _ => rfl) (Or.inr ⟨l, m, hl, hm, a3, ?_, a5, ?_, fun i' hi' => ?_⟩)
  · rw [eg, fu_ne (by decide)]; exact a4
  · rw [eg, fu_ne (by decide)]; exact a6
  · rw [ef, fu_eq, eg, fu_eq]
    by_cases e : i' = i
    · rw [e, upd_eq, upd_eq]
    · rw [upd_ne e, upd_ne (by omega)]; exact a7 i' hi'
theorem op_put (p0 p1 p2 : Int32) (f : FF) (v : VV) (g : FF) (u : VV) (h : Rel0 f v g u) : Q_X4_put p0 p1 p2 f v (fun r f1 v1 => Q_X5_put p0 p1 p2 g u (fun r' g1 u1 => r = r' ∧ Rel0 f1 v1 g1 u1)) := by
  intro v1 ev1
  have h0 := h.fault 0
  rw [← ev1] at h0
  refine q_isSheet (fun k hk ek => yes1' ?_) (fun hk => no0' (fun u1 eu1 => q5_isSheet0 hk (no0' ⟨rfl, by rw [eu1]; exact h0⟩)))
  subst ek
  have vk : vp_in (nI k) 4 := vi_nI (by omega) (by omega)
  refine ⟨vk, ?_⟩
  rw [nI_clamp (by omega)]
  rcases h0.1 k hk with ⟨n1, n2⟩ | ⟨l, m, hl, hm, a3, a4, a5, a6, a7⟩
  · refine q_isNothing (fun e => yes1 (fun v2 ev2 => ?_)) (fun e => absurd n1 e)
    intro u1 eu1
    refine q5_isSheet1 hk (yes1' ⟨vk, ?_⟩)
    rw [nI_clamp (by omega)]
    refine ⟨fun c => absurd n2 c, fun _ u2 eu2 => ⟨rfl, ?_⟩⟩
    rw [ev2, eu2, eu1]; exact h0.fault 1
  · refine q_isNothing (fun e => absurd (a3.symm.trans e) (l_m1 hl)) (fun e => no0 (q_hasCell hm (by rw [sb_add, show 3 + 2 * k + 1 = 4 + 2 * k by omega]; exact a5) (fun i hi ei => yes1' ?_) (fun hi => no0' (fun v2 ev2 => ?_))))
    · subst ei
      have e0 : sb v1 (3 + 2 * k) 0 = nI l := a3
      have key : ∀ x : Int32, (l = 0 → x = p2.toInt8.toInt32) → (l = 1 → x = p2.toInt16.toInt32) → (l = 2 → x = p2) → (vp_in (nI i) 60 ∧ (∀ f_11 : FF, f_11 = fu f (1 + k) (wr (f (1 + k)) (nI i) x) → Q_X5_put (nI k) (nI i) p2 g u (fun r' g1 u1 => 1 = r' ∧ Rel0 f_11 v1 g1 u1))) := by
        intro x x0 x1 x2
        refine ⟨vi_nI (by omega) (by omega), fun f11 e11 => ?_⟩
        intro u1 eu1
        rw [← eu1] at h0
        rw [wrN (by omega)] at e11
        refine q5_isSheet1 hk (yes1' ⟨vk, ?_⟩)
        rw [nI_clamp (by omega), a4, a6, n60]
        obtain ⟨w1, w2⟩ := (cellI hm).mpr ⟨i, hi, rfl⟩
        have vi : vp_in (nI (60 * k + i)) 240 := vi_nI (by omega) (by omega)
        refine ⟨fun _ => ⟨vk, q5_within1 w1 w2 (yes1' ⟨vk, fun c0 => ⟨vk, fun c1 => ⟨vi, fun g' eg => ⟨rfl, ?_⟩⟩, fun c1 => ⟨vi, fun g' eg => ⟨rfl, ?_⟩⟩⟩, fun c0 => ⟨vi, fun g' eg => ⟨rfl, ?_⟩⟩⟩)⟩, fun c => absurd c (l_m9 hl)⟩
        · have : l = 2 := by
            have : l ≠ 0 := fun z => c0 (by rw [z]; rfl)
            have : l ≠ 1 := fun z => c1 (by rw [z]; rfl)
            omega
          rw [wrN (by omega), ← x2 this] at eg
          exact h0.cell hk hl hm hi a3 a4 a5 a6 a7 e11 eg
        · have : l = 1 := (nI_eq (a := l) (b := 1) (by omega) (by omega)).mp c1
          rw [wrN (by omega), ← x1 this] at eg
          exact h0.cell hk hl hm hi a3 a4 a5 a6 a7 e11 eg
        · have : l = 0 := (nI_eq (a := l) (b := 0) (by omega) (by omega)).mp c0
          rw [wrN (by omega), ← x0 this] at eg
          exact h0.cell hk hl hm hi a3 a4 a5 a6 a7 e11 eg
      unfold Q_X2_cut
      rw [e0]
      refine ⟨fun c => ?_, fun c => ⟨fun c1 => ?_, fun c1 => ?_⟩⟩
      · have : l = 0 := (nI_eq (a := l) (b := 0) (by omega) (by omega)).mp c
        exact key _ (fun _ => rfl) (fun z => by omega) (fun z => by omega)
      · have : l = 1 := (nI_eq (a := l) (b := 1) (by omega) (by omega)).mp c1
        exact key _ (fun z => by omega) (fun _ => rfl) (fun z => by omega)
      · exact key _ (fun z => absurd (by rw [z]; rfl) c) (fun z => absurd (by rw [z]; rfl) c1) (fun _ => rfl)
    · intro u1 eu1
      refine q5_isSheet1 hk (yes1' ⟨vk, ?_⟩)
      rw [nI_clamp (by omega), a4, a6]
      refine ⟨fun _ => ⟨vk, q5_within0 (fun z => hi ((cellI hm).mp z)) (no0' (fun u2 eu2 => ⟨rfl, ?_⟩))⟩, fun c => absurd c (l_m9 hl)⟩
      rw [ev2, eu2, eu1]; exact h0.fault 3
theorem op_cell (p0 p1 p2 : Int32) (f : FF) (v : VV) (g : FF) (u : VV) (h : Rel0 f v g u) : Q_X4_cell p0 p1 p2 f v (fun r f1 v1 => Q_X5_cell p0 p1 p2 g u (fun r' g1 u1 => r = r' ∧ Rel0 f1 v1 g1 u1)) := by
  intro v1 ev1
  have h0 := h.fault 0
  rw [← ev1] at h0
  refine q_isSheet (fun k hk ek => yes1 ?_) (fun hk => no0 (fun u1 eu1 => q5_isSheet0 hk (no0 ⟨rfl, by rw [eu1]; exact h0⟩)))
  subst ek
  have vk : vp_in (nI k) 4 := vi_nI (by omega) (by omega)
  refine q_isWithin (fun a b => yes1' ⟨vk, ?_⟩) (fun a => no0' (fun u1 eu1 => q5_isSheet1 hk (yes1 (q5_isSort0 a (no0' ⟨rfl, by rw [eu1]; exact h0⟩)))))
  rw [nI_clamp (by omega)]
  have ff : ∀ x : Int32, fu v1 2 x = fu (fu v1 2 x) 2 x := fun x => by
    funext i
    by_cases e : i = 2
    · rw [e, fu_eq, fu_eq]
    · rw [fu_ne e, fu_ne e, fu_ne e]
  rcases h0.1 k hk with ⟨n1, n2⟩ | ⟨l, m, hl, hm, a3, a4, a5, a6, a7⟩
  · refine q_faultAs (fun e v8 e8 => ?_) (fun e => absurd n1 e) (fun e => absurd n1 e)
    have e2 : v8 2 = 1 := by rw [e8, fu_eq]
    rw [e2]
    refine ⟨fun _ => ⟨fun _ => ?_, fun c => absurd c (by decide)⟩, fun c => absurd c (by decide)⟩
    intro u1 eu1
    refine q5_isSheet1 hk (yes1 (q5_isSort1 a b (yes1' ⟨vk, ?_⟩)))
    rw [nI_clamp (by omega)]
    refine ⟨fun _ => ⟨vk, fun c => absurd n2 c, fun _ u2 eu2 => ⟨rfl, ?_⟩⟩, fun c => absurd n2 c⟩
    rw [e8, eu2, eu1]; exact h0.fault 1
  · have e0 : sb v1 (3 + 2 * k) 0 = nI l := a3
    refine q_faultAs (fun e => absurd (a3.symm.trans e) (l_m1 hl)) (fun _ e v8 e8 => ?_) (fun _ e v8 e8 => ?_)
    · have e2 : v8 2 = 2 := by rw [e8, fu_eq]
      rw [e2]
      refine ⟨fun _ => ⟨fun _ => ?_, fun c => absurd c (by decide)⟩, fun c => absurd c (by decide)⟩
      intro u1 eu1
      refine q5_isSheet1 hk (yes1 (q5_isSort1 a b (yes1' ⟨vk, ?_⟩)))
      rw [nI_clamp (by omega), a4]
      refine ⟨fun c => absurd c (l_m9 hl), fun _ => ⟨vk, fun c => absurd (e0.trans c) e, fun _ u2 eu2 => ⟨rfl, ?_⟩⟩⟩
      rw [e8, eu2, eu1]; exact h0.fault 2
    · have ep : nI l = p2 := e0.symm.trans e
      have e2 : v8 2 = 0 := by rw [e8, fu_eq]
      rw [e2]
      have v88 : v8 = v1 := by rw [e8, ev1]; funext i; by_cases e : i = 2 <;> simp [fu, e]
      refine ⟨fun c => absurd rfl c, fun _ => q_hasCell hm (by rw [v88, sb_add, show 3 + 2 * k + 1 = 4 + 2 * k by omega]; exact a5) (fun i hi ei => yes1' ⟨fun c => absurd rfl c, fun _ => ?_⟩) (fun hi => no0' (fun v16 e16 => ?_))⟩
      · subst ei
        refine ⟨vi_nI (by omega) (by omega), ?_⟩
        rw [nI_clamp (by omega)]
        intro u1 eu1
        refine q5_isSheet1 hk (yes1 (q5_isSort1 a b (yes1' ⟨vk, ?_⟩)))
        rw [nI_clamp (n := k) (by omega), a4, a6, n60, nI_clamp (by omega)]
        obtain ⟨w1, w2⟩ := (cellI hm).mpr ⟨i, hi, rfl⟩
        refine ⟨fun c => absurd c (l_m9 hl), fun _ => ⟨vk, fun _ => ⟨vk, fun _ => ⟨vk, q5_within1 w1 w2 (yes1' ⟨vi_nI (by omega) (by omega), by rw [a7 i hi], ?_⟩)⟩, fun c => absurd c (l_m9 hl)⟩, fun c => absurd ep c⟩⟩
        rw [v88, eu1]; exact h0
      · have e3 : v16 2 = 3 := by rw [e16, fu_eq]
        rw [e3]
        refine ⟨fun _ => ?_, fun c => absurd c (by decide)⟩
        intro u1 eu1
        refine q5_isSheet1 hk (yes1 (q5_isSort1 a b (yes1' ⟨vk, ?_⟩)))
        rw [nI_clamp (n := k) (by omega), a4, a6]
        refine ⟨fun c => absurd c (l_m9 hl), fun _ => ⟨vk, fun _ => ⟨vk, fun _ => ⟨vk, q5_within0 (fun z => hi ((cellI hm).mp z)) (no0' (fun u2 eu2 => ⟨rfl, ?_⟩))⟩, fun c => absurd c (l_m9 hl)⟩, fun c => absurd ep c⟩⟩
        rw [e16, v88, eu2, eu1]; exact h0.fault 3
/-- x of a copied row of cells -/
def cpyF (r : Nat → Int32) (S D a b : Nat) : Nat → Int32 := fun x => if D + a ≤ x ∧ x < D + b then r (S + (x - D)) else r x
theorem q5_cp_loop {k1 i k2 j n : Nat} {x6 : Int32} {K : Int32 → FF → VV → Prop} {g0 : FF} {u : VV} (hS : 60 * k1 + i + n ≤ 240) (hD : 60 * k2 + j + n ≤ 240) (hSD : 60 * k2 + j ≤ 60 * k1 + i ∨ 60 * k1 + i + n ≤ 60 * k2 + j)
    (hK : ∀ x g, g 2 = cpyF (g0 2) (60 * k1 + i) (60 * k2 + j) 0 n → (∀ r, r ≠ 2 → g r = g0 r) → K x g u) :
    ∀ (d c : Nat) (g : FF), c + d = n → g 2 = cpyF (g0 2) (60 * k1 + i) (60 * k2 + j) 0 c → (∀ r, r ≠ 2 → g r = g0 r) → Q_X5_copy_L166 (nI k1) (nI i) (nI k2) (nI j) (nI n) x6 0 K (d + 1) (nI c) g u := by
  intro d
  induction d with
  | zero =>
    intro c g hc h1 h2
    rw [Q_X5_copy_L166, show c = n by omega]
    rw [show c = n by omega] at h1
    exact ⟨fun _ => hK _ g h1 h2, fun c => absurd (Int32.le_refl _) c⟩
  | succ d ih =>
    intro c g hc h1 h2
    rw [Q_X5_copy_L166, n60, n60, nI_add, nI_add, nI_clamp (n := 60 * k1 + i + c) (by omega)]
    refine ⟨fun z => absurd ((le_nI (by omega) (by omega)).mp z) (by omega), fun _ => ⟨fun _ => ⟨vi_nI (by omega) (by omega), vi_nI (by omega) (by omega), fun g1 e1 x ex => ?_⟩, fun z => absurd rfl z⟩⟩
    rw [ex, nI_1]
    rw [wrN (by omega)] at e1
    refine ih (c + 1) g1 (by omega) ?_ (fun r hr => by rw [e1, fu_ne hr, h2 r hr])
    rw [e1, fu_eq, h1]
    funext y
    unfold cpyF
    by_cases hy : y = 60 * k2 + j + c
    · rw [hy, upd_eq, if_neg (by omega), if_pos (by omega)]
      congr 1; omega
    · rw [upd_ne hy]
      by_cases hy2 : 60 * k2 + j + 0 ≤ y ∧ y < 60 * k2 + j + c
      · rw [if_pos hy2, if_pos (by omega)]
      · rw [if_neg hy2, if_neg (by omega)]
theorem q5_cq_loop {k1 i k2 j n : Nat} {x6 : Int32} {K : Int32 → FF → VV → Prop} {g0 : FF} {u : VV} (hS : 60 * k1 + i + n ≤ 240) (hD : 60 * k2 + j + n ≤ 240) (hSD : 60 * k1 + i ≤ 60 * k2 + j ∨ 60 * k2 + j + n ≤ 60 * k1 + i)
    (hK : ∀ x g, g 2 = cpyF (g0 2) (60 * k1 + i) (60 * k2 + j) 0 n → (∀ r, r ≠ 2 → g r = g0 r) → K x g u) :
    ∀ (d c : Nat) (g : FF), c + d = n → g 2 = cpyF (g0 2) (60 * k1 + i) (60 * k2 + j) (n - c) n → (∀ r, r ≠ 2 → g r = g0 r) → Q_X5_copy_L166 (nI k1) (nI i) (nI k2) (nI j) (nI n) x6 1 K (d + 1) (nI c) g u := by
  intro d
  induction d with
  | zero =>
    intro c g hc h1 h2
    rw [Q_X5_copy_L166, show c = n by omega]
    rw [show c = n by omega, Nat.sub_self] at h1
    exact ⟨fun _ => hK _ g h1 h2, fun c => absurd (Int32.le_refl _) c⟩
  | succ d ih =>
    intro c g hc h1 h2
    rw [Q_X5_copy_L166, n60, n60]
    refine ⟨fun z => absurd ((le_nI (by omega) (by omega)).mp z) (by omega), fun _ => ⟨fun z => absurd z (by decide), fun _ z ez => ?_⟩⟩
    rw [show nI n - 1 = nI (n - 1) from nI_sub (i := 1) (by omega), nI_sub (by omega)] at ez
    subst ez
    rw [nI_add, nI_add, nI_clamp (by omega)]
    refine ⟨vi_nI (by omega) (by omega), vi_nI (by omega) (by omega), fun g1 e1 x ex => ?_⟩
    rw [ex, nI_1]
    rw [wrN (by omega)] at e1
    refine ih (c + 1) g1 (by omega) ?_ (fun r hr => by rw [e1, fu_ne hr, h2 r hr])
    rw [e1, fu_eq, h1]
    funext y
    unfold cpyF
    by_cases hy : y = 60 * k2 + j + (n - 1 - c)
    · rw [hy, upd_eq, if_neg (by omega), if_pos (by omega)]
      congr 1; omega
    · rw [upd_ne hy]
      by_cases hy2 : 60 * k2 + j + (n - c) ≤ y ∧ y < 60 * k2 + j + n
      · rw [if_pos hy2, if_pos (by omega)]
      · rw [if_neg hy2, if_neg (by omega)]
theorem op_copy (p0 p1 p2 p3 p4 : Int32) (f : FF) (v : VV) (g : FF) (u : VV) (h : Rel0 f v g u) : Q_X4_copy p0 p1 p2 p3 p4 f v (fun r f1 v1 => Q_X5_copy p0 p1 p2 p3 p4 g u (fun r' g1 u1 => r = r' ∧ Rel0 f1 v1 g1 u1)) := by
  intro v1 ev1
  have h0 := h.fault 0
  rw [← ev1] at h0
  refine q_isSheet (fun k hk ek => yes1 ?_) (fun hk => no0 (fun u1 eu1 => q5_isSheet0 hk (no0 ⟨rfl, by rw [eu1]; exact h0⟩)))
  subst ek
  refine q_isSheet (fun k2 hk2 ek => yes1' ?_) (fun hk2 => no0' (fun u1 eu1 => q5_isSheet1 hk (yes1 (q5_isSheet0 hk2 (no0' ⟨rfl, by rw [eu1]; exact h0⟩)))))
  subst ek
  have vk : vp_in (nI k) 4 := vi_nI (by omega) (by omega)
  have vk2 : vp_in (nI k2) 4 := vi_nI (by omega) (by omega)
  refine ⟨vk, vk2, ?_⟩
  rw [nI_clamp (n := k) (by omega), nI_clamp (n := k2) (by omega)]
  have ent : ∀ {P : Int32 → FF → VV → Prop} {u1 : VV}, (vp_in (nI k) 4 ∧ ((g 0 k = -9 → Q_X5_fails 1 g u1 P) ∧ (¬ g 0 k = -9 → True))) → True := fun _ => trivial
  rcases h0.1 k hk with ⟨n1, n2⟩ | ⟨l, m, hl, hm, a3, a4, a5, a6, a7⟩
  · refine q_isNothing (fun e => yes1' (fun v2 ev2 => ?_)) (fun e => absurd n1 e)
    intro u1 eu1
    refine q5_isSheet1 hk (yes1 (q5_isSheet1 hk2 (yes1' ⟨vk, ?_⟩)))
    rw [nI_clamp (n := k) (by omega)]
    refine ⟨fun _ u2 eu2 => ⟨rfl, ?_⟩, fun c => absurd n2 c⟩
    rw [ev2, eu2, eu1]; exact h0.fault 1
  refine q_isNothing (fun e => absurd (a3.symm.trans e) (l_m1 hl)) (fun _ => no0' ?_)
  rcases h0.1 k2 hk2 with ⟨n1, n2⟩ | ⟨l', m', hl', hm', b3, b4, b5, b6, b7⟩
  · refine q_isNothing (fun e => yes1 (fun v2 ev2 => ?_)) (fun e => absurd n1 e)
    intro u1 eu1
    refine q5_isSheet1 hk (yes1 (q5_isSheet1 hk2 (yes1' ⟨vk, ?_⟩)))
    rw [nI_clamp (n := k) (by omega), nI_clamp (n := k2) (by omega), a4]
    refine ⟨fun c => absurd c (l_m9 hl), fun _ => ⟨vk2, fun c => absurd n2 c, fun _ u2 eu2 => ⟨rfl, ?_⟩⟩⟩
    rw [ev2, eu2, eu1]; exact h0.fault 1
  refine q_isNothing (fun e => absurd (b3.symm.trans e) (l_m1 hl')) (fun _ => no0 ?_)
  rw [a3, b3]
  have c1 : sb v1 (3 + 2 * k) 1 = nI m := by rw [sb_add, show 3 + 2 * k + 1 = 4 + 2 * k by omega]; exact a5
  have c2 : sb v1 (3 + 2 * k2) 1 = nI m' := by rw [sb_add, show 3 + 2 * k2 + 1 = 4 + 2 * k2 by omega]; exact b5
  have bad : ∀ v2 : VV, nI l = nI l' → v2 = fu v1 2 3 → ¬ ((∃ i n, i + n ≤ m ∧ p1 = nI i ∧ p4 = nI n) ∧ ∃ i n, i + n ≤ m' ∧ p3 = nI i ∧ p4 = nI n) → Q_X5_copy (nI k) p1 (nI k2) p3 p4 g u (fun r' g1 u1 => -10 - 3 = r' ∧ Rel0 f v2 g1 u1) := by
    intro v2 el e2 hno u1 eu1
    have fin : Q_X5_fails 3 g u1 (fun r' g1 u1 => -10 - 3 = r' ∧ Rel0 f v2 g1 u1) := fun u2 eu2 => ⟨rfl, by rw [e2, eu2, eu1]; exact h0.fault 3⟩
    have H1 := cellsI hm (p := p1) (q := p4)
    have H2 := cellsI hm' (p := p3) (q := p4)
    refine q5_isSheet1 hk (yes1 (q5_isSheet1 hk2 (yes1' ⟨vk, ?_⟩)))
    rw [nI_clamp (n := k) (by omega), nI_clamp (n := k2) (by omega), a4, b4, a6, b6]
    refine ⟨fun c => absurd c (l_m9 hl), fun _ => ⟨vk2, fun _ => ⟨vk, vk2, fun _ => ⟨fun _ => fin, fun q1 => ⟨fun _ => fin, fun q2 => ⟨fun _ => fin, fun q3 => ⟨vk, fun _ => fin, fun q4 => ⟨vk2, fun _ => fin, fun q5 => ⟨vk, fun _ => fin, fun q6 => ⟨vk2, fun q7 => ?_, fun _ => fin⟩⟩⟩⟩⟩⟩⟩, fun c => absurd el c⟩, fun c => absurd c (l_m9 hl')⟩⟩
    exact absurd ⟨H1.mp ⟨q1, q4, q3, q6⟩, H2.mp ⟨q2, q5, q3, Int32.not_lt.mpr q7⟩⟩ hno
  refine ⟨fun el => ?_, fun el v2 ev2 => ?_⟩
  · refine q_hasCells hm c1 (fun i n hin e1 e4 => yes1 (q_hasCells hm' c2 (fun j n' hjn e3 e4' => yes1' ?_) (fun hno => no0' (fun v2 ev2 => bad v2 el ev2 (fun z => hno z.2))))) (fun hno => no0 (fun v2 ev2 => bad v2 el ev2 (fun z => hno z.1)))
    subst e1; subst e4; subst e3
    have : n' = n := ((nI_eq (by omega) (by omega)).mp e4').symm
    subst this
    refine ⟨nI_neg (by omega), nI_neg (by omega), nI_neg (by omega), ?_⟩
    rw [nI_clamp (by omega), nI_clamp (by omega), nI_clamp (by omega)]
    refine ⟨by omega, by omega, fun f28 e28 => ?_⟩
    intro u1 eu1
    have H1 := (cellsI hm (p := nI i) (q := nI n')).mpr ⟨i, n', hin, rfl, rfl⟩
    have H2 := (cellsI hm' (p := nI j) (q := nI n')).mpr ⟨j, n', hjn, rfl, rfl⟩
    have fin : ∀ g' : FF, g' 2 = cpyF (g 2) (60 * k + i) (60 * k2 + j) 0 n' → (∀ r, r ≠ 2 → g' r = g r) → Rel0 f28 v1 g' u1 := by
      intro g' e2 er
      refine h0.sheet hk2 (fun r h1 h2 => by rw [e28, fu_ne h2]) (fun _ _ _ _ => rfl) (fun r h1 h2 h3 h4 => er r h4) (fun i h1 h2 => by rw [er 0 (by decide)]) (fun i h1 h2 => by rw [er 1 (by decide)]) (fun k' h1 h2 i' h3 => ?_) (fun r _ => by rw [eu1]) (Or.inr ⟨l', m', hl', hm', b3, by rw [er 0 (by decide)]; exact b4, b5, by rw [er 1 (by decide)]; exact b6, fun x hx => ?_⟩)
      · rw [e2]; unfold cpyF; rw [if_neg (by omega)]
      · rw [e28, fu_eq, e2]
        unfold cpyF
        by_cases hx2 : j ≤ x ∧ x < j + n'
        · rw [pk_cpy_in hx2.1 hx2.2, if_pos (by omega), a7 _ (by omega)]
          congr 1; omega
        · rw [pk_cpy_out (by omega), if_neg (by omega), b7 x hx]
    refine q5_isSheet1 hk (yes1 (q5_isSheet1 hk2 (yes1' ⟨vk, ?_⟩)))
    rw [nI_clamp (n := k) (by omega), nI_clamp (n := k2) (by omega), a4, b4, a6, b6]
    refine ⟨fun c => absurd c (l_m9 hl), fun _ => ⟨vk2, fun _ => ⟨vk, vk2, fun _ => ⟨fun c => absurd c H1.1, fun _ => ⟨fun c => absurd c H2.1, fun _ => ⟨fun c => absurd c H1.2.2.1, fun _ => ⟨vk, fun c => absurd c H1.2.1, fun _ => ⟨vk2, fun c => absurd c H2.2.1, fun _ => ⟨vk, fun c => absurd c H1.2.2.2, fun _ => ⟨vk2, fun _ => ⟨fun c => ⟨n' + 1, ?_⟩, fun c => ⟨n' + 1, ?_⟩⟩, fun c => absurd (Int32.not_lt.mp H2.2.2.2) c⟩⟩⟩⟩⟩⟩⟩, fun c => absurd el c⟩, fun c => absurd c (l_m9 hl')⟩⟩
    · rw [le_nI (by omega) (by omega)] at c
      refine q5_cp_loop (by omega) (by omega) ?_ (fun x g' e2 er => ⟨rfl, fin g' e2 er⟩) n' 0 g (by omega) ?_ (fun _ _ => rfl)
      · by_cases e : k = k2
        · subst e; left; omega
        · omega
      · funext y; unfold cpyF; rw [if_neg (by omega)]
    · rw [le_nI (by omega) (by omega)] at c
      refine q5_cq_loop (by omega) (by omega) ?_ (fun x g' e2 er => ⟨rfl, fin g' e2 er⟩) n' 0 g (by omega) ?_ (fun _ _ => rfl)
      · by_cases e : k = k2
        · subst e; left; omega
        · omega
      · funext y; unfold cpyF; rw [if_neg (by omega)]
  · intro u1 eu1
    refine q5_isSheet1 hk (yes1 (q5_isSheet1 hk2 (yes1' ⟨vk, ?_⟩)))
    rw [nI_clamp (n := k) (by omega), nI_clamp (n := k2) (by omega), a4, b4]
    refine ⟨fun c => absurd c (l_m9 hl), fun _ => ⟨vk2, fun _ => ⟨vk, vk2, fun c => absurd c el, fun _ u2 eu2 => ⟨rfl, ?_⟩⟩, fun c => absurd c (l_m9 hl')⟩⟩
    rw [ev2, eu2, eu1]; exact h0.fault 2
/-! ===== programs that agree ===== -/
theorem tab_cong3 {w w' a a' b b' : Nat → Int32} {x y : Int32} : ∀ {m : Nat}, (∀ k, k < m → w k = w' k ∧ a k = a' k ∧ b k = b' k) → tab w a b x y m = tab w' a' b' x y m
  | 0, _ => rfl
  | m + 1, h => by
    rw [tab, tab, tab_cong3 (fun k hk => h k (by omega)), (h m (by omega)).1, (h m (by omega)).2.1, (h m (by omega)).2.2]
section AG
variable {n t : Nat} {p q : FF}
theorem ag_tab (h : Agree n t p q) {m : Nat} (hm : m ≤ n) (x y : Int32) : tab (p 0) (p 1) (p 2) x y m = tab (q 0) (q 1) (q 2) x y m := tab_cong3 (fun k hk => h.1 k (by omega))
theorem ag_out (h : Agree n t p q) (x y : Int32) : out (p 0) (p 1) (p 2) x y n = out (q 0) (q 1) (q 2) x y n := by
  unfold out; rw [ag_tab h (Nat.le_refl _)]
theorem ag_mw (h : Agree n t p q) {m : Nat} (hm : m < 4 * n) (x y : Int32) : out (mw (p 0) m) (p 1) (p 2) x y n = out (mw (q 0) m) (q 1) (q 2) x y n := by
  unfold out
  rw [tab_cong3 (fun k hk => ⟨?_, (h.1 k hk).2.1, (h.1 k hk).2.2⟩)]
  by_cases e : k = m / 4
  · rw [e, mw_at, mw_at, (h.1 (m / 4) (by omega)).1]
  · rw [mw_ne e, mw_ne e, (h.1 k hk).1]
theorem ag_kill (h : Agree n t p q) {m : Nat} (hm : m < 4 * n) (x y : Int32) : kill (p 0) (p 1) (p 2) n x y m = kill (q 0) (q 1) (q 2) n x y m := by
  unfold kill; rw [ag_mw h hm, ag_out h]
theorem ag_kt (h : Agree n t p q) {j m : Nat} (hj : j < t) (hm : m < 4 * n) : kt' p n j m = kt' q n j m := by
  unfold kt'; rw [(h.2 j hj).2.2.1, (h.2 j hj).2.2.2, ag_kill h hm]
theorem ag_cnt (h : Agree n t p q) {m : Nat} (hm : m < 4 * n) : ∀ k, cntK p n m k = cntK q n m k
  | 0 => rfl
  | k + 1 => by rw [cntK, cntK, ag_cnt h hm k, ag_kill h hm]
theorem ag_mval (h : Agree n t p q) {m : Nat} (hm : m < 4 * n) (x y : Int32) : mval (p 0) (p 1) (p 2) n x y m = mval (q 0) (q 1) (q 2) n x y m := by
  unfold mval; rw [ag_tab h (Nat.le_refl _), (h.1 (m / 4) (by omega)).1, (h.1 (m / 4) (by omega)).2.1, (h.1 (m / 4) (by omega)).2.2]
theorem ag_wgt (h : Agree n t p q) {j : Nat} (hj : j < t) : wgt (p 3 j) (p 4 j) = wgt (q 3 j) (q 4 j) := by rw [(h.2 j hj).1, (h.2 j hj).2.1]
end AG
/-- the killers, in the reference's and in the class's words -/
theorem kls_eq {n t : Nat} {p : FF} {g : FF} (h : Agree n t p (sb g 3)) {m : Nat} (hm : m < 4 * n) : bs (fun i => kt' p n i m) t = kls g n t m := by
  unfold kls; exact bs_cong (fun k hk => ag_kt h hk hm)
theorem kB_eq {n t : Nat} {p : FF} {g : FF} (h : Agree n t p (sb g 3)) (hn : n ≤ 5) (ht : t ≤ 7) {j : Nat} (hj : j < t) {B : Nat → Int32} (hB : ∀ q, q < 4 * n → B q = kls g n t q) : bs (kt' p n j) (4 * n) = kB B (4 * n) j := by
  unfold kB
  refine bs_cong (fun q hq => ?_)
  rw [hB q hq]
  unfold kls
  rw [bt_bs _ t (by omega) j (by omega), decide_eq_true hj, Bool.true_and, ag_kt h hj hq]
/-! ===== the ops that only tell, first part ===== -/
section O1
variable {f : FF} {v : VV} {g : FF} {u : VV}
theorem q5_isStep1 {n t k : Nat} {post : Int32 → Prop} (hP : PI n t (sb g 3) (sb u 2)) (hk : k < n) (h : post 1) : Q_X5_isStep (nI k) g u post := q5_isStep hP (fun _ _ _ => h) (fun c => absurd rfl (c k hk))
theorem q5_isStep0 {n t : Nat} {p : Int32} {post : Int32 → Prop} (hP : PI n t (sb g 3) (sb u 2)) (hk : ∀ k, k < n → p ≠ nI k) (h : post 0) : Q_X5_isStep p g u post := q5_isStep hP (fun k a e => absurd e (hk k a)) (fun _ => h)
theorem q5_isTest1 {n t k : Nat} {post : Int32 → Prop} (hP : PI n t (sb g 3) (sb u 2)) (hk : k < t) (h : post 1) : Q_X5_isTest (nI k) g u post := q5_isTest hP (fun _ _ _ => h) (fun c => absurd rfl (c k hk))
theorem q5_isTest0 {n t : Nat} {p : Int32} {post : Int32 → Prop} (hP : PI n t (sb g 3) (sb u 2)) (hk : ∀ k, k < t → p ≠ nI k) (h : post 0) : Q_X5_isTest p g u post := q5_isTest hP (fun k a e => absurd e (hk k a)) (fun _ => h)
theorem q5_isMutant1 {n t k : Nat} {post : Int32 → Prop} (hP : PI n t (sb g 3) (sb u 2)) (hk : k < 4 * n) (h : post 1) : Q_X5_isMutant (nI k) g u post := q5_isMutant hP (fun _ _ _ => h) (fun c => absurd rfl (c k hk))
theorem q5_isMutant0 {n t : Nat} {p : Int32} {post : Int32 → Prop} (hP : PI n t (sb g 3) (sb u 2)) (hk : ∀ k, k < 4 * n → p ≠ nI k) (h : post 0) : Q_X5_isMutant p g u post := q5_isMutant hP (fun k a e => absurd e (hk k a)) (fun _ => h)
theorem op_ofStep (p0 p1 : Int32) (f : FF) (v : VV) (g : FF) (u : VV) (h : Rel0 f v g u) : Q_X4_ofStep p0 p1 f v (fun r => Q_X5_ofStep p0 p1 g u (fun r' => r = r' ∧ Rel0 f v g u)) := by
  obtain ⟨n, t, P1, P2, P3, P4, P5⟩ := h.2.1
  have hn := P1.1
  refine q_hasStep P1 (fun k hk ek => yes1' ?_) (fun hk => no0' (q5_isStep0 P2 hk (no0' ⟨rfl, h⟩)))
  subst ek
  obtain ⟨a1, a2, a3⟩ := P4.1 k hk
  have a1 : f 5 k = g 3 k := a1
  have a2 : f 6 k = g 4 k := a2
  have a3 : f 7 k = g 5 k := a3
  have vk : vp_in (nI k) 5 := vi_nI (by omega) (by omega)
  have G : ∀ r : Int32, (p1 = 0 → r = g 3 k) → (p1 = 1 → r = g 4 k) → (p1 = 2 → r = g 5 k) → (¬ p1 = 0 → ¬ p1 = 1 → ¬ p1 = 2 → r = -2) → Q_X5_ofStep (nI k) p1 g u (fun r' => r = r' ∧ Rel0 f v g u) := by
    intro r r0 r1 r2 r3
    refine q5_isStep1 P2 hk (yes1' ?_)
    rw [nI_clamp (by omega)]
    exact ⟨fun c0 => ⟨fun c1 => ⟨fun c2 => ⟨r3 c0 c1 c2, h⟩, fun c2 => ⟨vk, r2 c2, h⟩⟩, fun c1 => ⟨vk, r1 c1, h⟩⟩, fun c0 => ⟨vk, r0 c0, h⟩⟩
  rw [nI_clamp (by omega), a1, a2, a3]
  exact ⟨fun c => ⟨vk, G _ (fun _ => rfl) (fun z => absurd (c.symm.trans z) (by decide)) (fun z => absurd (c.symm.trans z) (by decide)) (fun z => absurd c z)⟩, fun c0 => ⟨fun c => ⟨vk, G _ (fun z => absurd z c0) (fun _ => rfl) (fun z => absurd (c.symm.trans z) (by decide)) (fun _ z => absurd c z)⟩, fun c1 => ⟨fun c => ⟨vk, G _ (fun z => absurd z c0) (fun z => absurd z c1) (fun _ => rfl) (fun _ _ z => absurd c z)⟩, fun c2 => G _ (fun z => absurd z c0) (fun z => absurd z c1) (fun z => absurd z c2) (fun _ _ _ => rfl)⟩⟩⟩
theorem op_output (p0 p1 : Int32) (f : FF) (v : VV) (g : FF) (u : VV) (h : Rel0 f v g u) : Q_X4_output p0 p1 f v (fun r f1 v1 => Q_X5_output p0 p1 g u (fun r' g1 u1 => r = r' ∧ Rel0 f1 v1 g1 u1)) := by
  obtain ⟨n, t, P1, P2, P3, P4, P5⟩ := h.2.1
  have hn := P1.1
  have e2 : u 2 = nI n := P2.2.2.1
  unfold Q_X4_output
  refine q_isWithin (fun a b => ⟨Or.inr rfl, yes1 ?_⟩) (fun a => ⟨Or.inl rfl, no0 (q5_within0 a (no0 ⟨rfl, h⟩))⟩)
  refine q_isWithin (fun a' b' => ⟨Or.inr rfl, yes1' ?_⟩) (fun a' => ⟨Or.inl rfl, no0' (q5_within1 a b (yes1 (q5_within0 a' (no0' ⟨rfl, h⟩))))⟩)
  refine q_isEmpty P1 (fun e => yes1 (q5_within1 a b (yes1 (q5_within1 a' b' (yes1' ⟨fun c => absurd (by rw [e2, e]; rfl) c, fun _ => ⟨rfl, h⟩⟩))))) (fun e => no0 (q_run P1 (fun f' hf' _ f10 ef v11 ev => ?_)))
  refine q5_within1 a b (yes1 (q5_within1 a' b' (yes1' ⟨fun _ => q5_plainRun P2 (by omega) (fun g' hs _ => ⟨ag_out P4 p0 p1, ?_⟩), fun c => ?_⟩)))
  · exact h.fr ((back_fb (Sm.of7 hf') ef ev).1.fc (by decide)) hs.fe
  · rw [e2] at c; exact absurd ((nI_eq (a := n) (b := 0) (by omega) (by omega)).mp c) e
theorem op_trace (f : FF) (v : VV) (g : FF) (u : VV) (h : Rel0 f v g u) : Q_X4_trace f v (fun r => Q_X5_trace g u (fun r' => r = r' ∧ Rel0 f v g u)) := ⟨h.2.2.2.1, h⟩
theorem op_fault (f : FF) (v : VV) (g : FF) (u : VV) (h : Rel0 f v g u) : Q_X4_fault f v (fun r => Q_X5_fault g u (fun r' => r = r' ∧ Rel0 f v g u)) := ⟨h.2.2.2.2, h⟩
theorem Rel0.trace {f : FF} {v : VV} {g : FF} {u : VV} (h : Rel0 f v g u) (x : Int32) : Rel0 f (fu v 1 x) g (fu u 1 x) := by
  obtain ⟨hs, ⟨n, t, p1, p2, p3, p4⟩, ⟨c, r1, r2, r3, r4⟩, ht, hf⟩ := h
  refine ⟨fun k hk => (hs k hk).of rfl (fu_ne (by omega)) (fu_ne (by omega)) rfl rfl (fun _ _ => rfl), ⟨n, t, p1, p2, p3, p4⟩, ⟨c, r1, r2, r3, r4⟩, ?_, hf⟩
  rw [fu_eq, fu_eq]
theorem Rel0.rows {f f' : FF} {v : VV} {g g' : FF} {u : VV} {n t : Nat} (h : Rel0 f v g u) (h1 : ∀ j, j < 5 → f' j = f j) (h2 : ∀ j, j < 3 ∨ j = 16 → g' j = g j) (P1 : PI n t (sb f' 5) (sb v 11)) (P2 : PI n t (sb g' 3) (sb u 2)) (P3 : n = 0 ↔ t = 0) (P4 : Agree n t (sb f' 5) (sb g' 3)) (P5 : VD t (sb f' 5)) : Rel0 f' v g' u := by
  obtain ⟨hs, _, ⟨c, r1, r2, r3, r4⟩, ht, hf⟩ := h
  refine ⟨fun k hk => (hs k hk).of (h1 _ (by omega)) rfl rfl (by rw [h2 0 (by omega)]) (by rw [h2 1 (by omega)]) (fun _ _ => by rw [h2 2 (by omega)]), ⟨n, t, P1, P2, P3, P4, P5⟩, ⟨c, r1, r2, r3, fun i hi => by rw [h1 0 (by omega), h2 16 (by omega)]; exact r4 i hi⟩, ht, hf⟩
theorem upd_ag {p q : Nat → Int32} {m i : Nat} {x : Int32} (h : ∀ k, k < m → p k = q k) : ∀ k, k < m → upd p i x k = upd q i x k := by
  intro k hk
  by_cases e : k = i
  · rw [e, upd_eq, upd_eq]
  · rw [upd_ne e, upd_ne e, h k hk]
theorem op_way (p0 p1 : Int32) (f : FF) (v : VV) (g : FF) (u : VV) (h : Rel0 f v g u) : Q_X4_way p0 p1 f v (fun r f1 v1 => Q_X5_way p0 p1 g u (fun r' g1 u1 => r = r' ∧ Rel0 f1 v1 g1 u1)) := by
  obtain ⟨n, t, P1, P2, P3, P4, P5⟩ := h.2.1
  have hn := P1.1
  refine q_hasStep P1 (fun k hk ek => yes1' ?_) (fun hk => no0' (q5_isStep0 P2 hk (no0' ⟨rfl, h⟩)))
  subst ek
  have vk : vp_in (nI k) 5 := vi_nI (by omega) (by omega)
  refine q_isWithin (fun a b => yes1' ⟨vk, fun x ex => ⟨vk, fun f8 e8 => ?_⟩⟩) (fun a => no0' (q5_isStep1 P2 hk (yes1' (q5_within0 a (no0' ⟨rfl, h⟩)))))
  refine q5_isStep1 P2 hk (yes1' (q5_within1 a b (yes1' ⟨vk, fun x' ex' => ⟨vk, fun g8 eg8 => ⟨?_, ?_⟩⟩⟩)))
  · rw [ex, ex', nI_clamp (by omega)]; exact (P4.1 k hk).1
  · rw [wrN (by omega)] at e8 eg8
    have a5 : f8 5 = upd (f 5) k p1 := by rw [e8, fu_eq]
    have b3 : g8 3 = upd (g 3) k p1 := by rw [eg8, fu_eq]
    have ao : ∀ j, j ≠ 5 → f8 j = f j := fun j hj => by rw [e8, fu_ne hj]
    have bo : ∀ j, j ≠ 3 → g8 j = g j := fun j hj => by rw [eg8, fu_ne hj]
    refine h.rows (fun j hj => ao j (by omega)) (fun j hj => bo j (by omega)) (P1.rows2 (ao 6 (by decide)) (ao 7 (by decide)) rfl rfl) (P2.rows2 (bo 4 (by decide)) (bo 5 (by decide)) rfl rfl) P3 ⟨fun i hi => ⟨?_, ?_, ?_⟩, fun j hj => ⟨?_, ?_, ?_, ?_⟩⟩ (P5.of (ao 8 (by decide)) (ao 9 (by decide)))
    · show f8 5 i = g8 3 i
      rw [a5, b3]; exact upd_ag (fun k hk => (P4.1 k hk).1) i hi
    · show f8 6 i = g8 4 i
      rw [ao 6 (by decide), bo 4 (by decide)]; exact (P4.1 i hi).2.1
    · show f8 7 i = g8 5 i
      rw [ao 7 (by decide), bo 5 (by decide)]; exact (P4.1 i hi).2.2
    · show f8 8 j = g8 6 j
      rw [ao 8 (by decide), bo 6 (by decide)]; exact (P4.2 j hj).1
    · show f8 9 j = g8 7 j
      rw [ao 9 (by decide), bo 7 (by decide)]; exact (P4.2 j hj).2.1
    · show f8 10 j = g8 8 j
      rw [ao 10 (by decide), bo 8 (by decide)]; exact (P4.2 j hj).2.2.1
    · show f8 11 j = g8 9 j
      rw [ao 11 (by decide), bo 9 (by decide)]; exact (P4.2 j hj).2.2.2
theorem op_time (p0 p1 : Int32) (f : FF) (v : VV) (g : FF) (u : VV) (h : Rel0 f v g u) : Q_X4_time p0 p1 f v (fun r f1 v1 => Q_X5_time p0 p1 g u (fun r' g1 u1 => r = r' ∧ Rel0 f1 v1 g1 u1)) := by
  obtain ⟨n, t, P1, P2, P3, P4, P5⟩ := h.2.1
  have ht := P1.2.1
  refine q_hasTest P1 (fun k hk ek => yes1' ?_) (fun hk => no0' (q5_isTest0 P2 hk (no0' ⟨rfl, h⟩)))
  subst ek
  have vk : vp_in (nI k) 7 := vi_nI (by omega) (by omega)
  refine q_isWithin (fun a b => ⟨Or.inr rfl, yes1' ⟨vk, fun x ex => ⟨vk, fun f8 e8 => ?_⟩⟩⟩) (fun a => ⟨Or.inl rfl, no0' (q5_isTest1 P2 hk (yes1' (q5_within0 a (no0' ⟨rfl, h⟩))))⟩)
  refine q5_isTest1 P2 hk (yes1' (q5_within1 a b (yes1' ⟨vk, fun x' ex' => ⟨vk, fun g8 eg8 => ⟨?_, ?_⟩⟩⟩)))
  · rw [ex, ex', nI_clamp (by omega)]; exact (P4.2 k hk).2.1
  · rw [wrN (by omega)] at e8 eg8
    obtain ⟨τ, eτ, hτ, hτ'⟩ := rngI (a := 1) (b := 9) (by omega) a b (by omega)
    have a9 : f8 9 = upd (f 9) k p1 := by rw [e8, fu_eq]
    have b7 : g8 7 = upd (g 7) k p1 := by rw [eg8, fu_eq]
    have ao : ∀ j, j ≠ 9 → f8 j = f j := fun j hj => by rw [e8, fu_ne hj]
    have bo : ∀ j, j ≠ 7 → g8 j = g j := fun j hj => by rw [eg8, fu_ne hj]
    refine h.rows (fun j hj => ao j (by omega)) (fun j hj => bo j (by omega)) (P1.rows2 (ao 6 (by decide)) (ao 7 (by decide)) rfl rfl) (P2.rows2 (bo 4 (by decide)) (bo 5 (by decide)) rfl rfl) P3 ⟨fun i hi => ⟨?_, ?_, ?_⟩, fun j hj => ⟨?_, ?_, ?_, ?_⟩⟩ (fun j hj => ⟨?_, ?_⟩)
    · show f8 5 i = g8 3 i
      rw [ao 5 (by decide), bo 3 (by decide)]; exact (P4.1 i hi).1
    · show f8 6 i = g8 4 i
      rw [ao 6 (by decide), bo 4 (by decide)]; exact (P4.1 i hi).2.1
    · show f8 7 i = g8 5 i
      rw [ao 7 (by decide), bo 5 (by decide)]; exact (P4.1 i hi).2.2
    · show f8 8 j = g8 6 j
      rw [ao 8 (by decide), bo 6 (by decide)]; exact (P4.2 j hj).1
    · show f8 9 j = g8 7 j
      rw [a9, b7]; exact upd_ag (fun k hk => (P4.2 k hk).2.1) j hj
    · show f8 10 j = g8 8 j
      rw [ao 10 (by decide), bo 8 (by decide)]; exact (P4.2 j hj).2.2.1
    · show f8 11 j = g8 9 j
      rw [ao 11 (by decide), bo 9 (by decide)]; exact (P4.2 j hj).2.2.2
    · show ∃ κ, κ < 3 ∧ f8 8 j = nI κ
      rw [ao 8 (by decide)]; exact (P5 j hj).1
    · show ∃ τ, τ < 10 ∧ f8 9 j = nI τ
      rw [a9]
      by_cases e : j = k
      · rw [e, upd_eq]; exact ⟨τ, by omega, eτ⟩
      · rw [upd_ne e]; exact (P5 j hj).2
theorem op_aim (p0 p1 p2 : Int32) (f : FF) (v : VV) (g : FF) (u : VV) (h : Rel0 f v g u) : Q_X4_aim p0 p1 p2 f v (fun r f1 v1 => Q_X5_aim p0 p1 p2 g u (fun r' g1 u1 => r = r' ∧ Rel0 f1 v1 g1 u1)) := by
  obtain ⟨n, t, P1, P2, P3, P4, P5⟩ := h.2.1
  have ht := P1.2.1
  refine q_hasTest P1 (fun k hk ek => yes1' ?_) (fun hk => no0' (q5_isTest0 P2 hk (no0' ⟨rfl, h⟩)))
  subst ek
  have vk : vp_in (nI k) 7 := vi_nI (by omega) (by omega)
  refine q_isWithin (fun a b => ⟨Or.inr rfl, yes1 ?_⟩) (fun a => ⟨Or.inl rfl, no0 (q5_isTest1 P2 hk (yes1' (q5_within0 a (no0 ⟨rfl, h⟩))))⟩)
  refine q_isWithin (fun a' b' => ⟨Or.inr rfl, yes1' ⟨vk, vk, fun x ex => ⟨vk, fun f7 e7 => ⟨vk, fun f8 e8 => ?_⟩⟩⟩⟩) (fun a' => ⟨Or.inl rfl, no0' (q5_isTest1 P2 hk (yes1' (q5_within1 a b (yes1 (q5_within0 a' (no0' ⟨rfl, h⟩))))))⟩)
  refine q5_isTest1 P2 hk (yes1' (q5_within1 a b (yes1 (q5_within1 a' b' (yes1' ⟨vk, vk, fun x' ex' => ⟨vk, fun g7 eg7 => ⟨vk, fun g8 eg8 => ⟨?_, ?_⟩⟩⟩⟩)))))
  · have h1 : f 10 k = g 8 k := (P4.2 k hk).2.2.1
    have h2 : f 11 k = g 9 k := (P4.2 k hk).2.2.2
    rw [ex, ex', nI_clamp (by omega), h1, h2]
  · rw [wrN (by omega)] at e7 e8 eg7 eg8
    have a10 : f8 10 = upd (f 10) k p1 := by rw [e8, fu_ne (by decide), e7, fu_eq]
    have a11 : f8 11 = upd (f 11) k p2 := by rw [e8, fu_eq, e7, fu_ne (by decide)]
    have b8 : g8 8 = upd (g 8) k p1 := by rw [eg8, fu_ne (by decide), eg7, fu_eq]
    have b9 : g8 9 = upd (g 9) k p2 := by rw [eg8, fu_eq, eg7, fu_ne (by decide)]
    have ao : ∀ j, j ≠ 10 → j ≠ 11 → f8 j = f j := fun j hj hj2 => by rw [e8, fu_ne hj2, e7, fu_ne hj]
    have bo : ∀ j, j ≠ 8 → j ≠ 9 → g8 j = g j := fun j hj hj2 => by rw [eg8, fu_ne hj2, eg7, fu_ne hj]
    refine h.rows (fun j hj => ao j (by omega) (by omega)) (fun j hj => bo j (by omega) (by omega)) (P1.rows2 (ao 6 (by decide) (by decide)) (ao 7 (by decide) (by decide)) rfl rfl) (P2.rows2 (bo 4 (by decide) (by decide)) (bo 5 (by decide) (by decide)) rfl rfl) P3 ⟨fun i hi => ⟨?_, ?_, ?_⟩, fun j hj => ⟨?_, ?_, ?_, ?_⟩⟩ (P5.of (ao 8 (by decide) (by decide)) (ao 9 (by decide) (by decide)))
    · show f8 5 i = g8 3 i
      rw [ao 5 (by decide) (by decide), bo 3 (by decide) (by decide)]; exact (P4.1 i hi).1
    · show f8 6 i = g8 4 i
      rw [ao 6 (by decide) (by decide), bo 4 (by decide) (by decide)]; exact (P4.1 i hi).2.1
    · show f8 7 i = g8 5 i
      rw [ao 7 (by decide) (by decide), bo 5 (by decide) (by decide)]; exact (P4.1 i hi).2.2
    · show f8 8 j = g8 6 j
      rw [ao 8 (by decide) (by decide), bo 6 (by decide) (by decide)]; exact (P4.2 j hj).1
    · show f8 9 j = g8 7 j
      rw [ao 9 (by decide) (by decide), bo 7 (by decide) (by decide)]; exact (P4.2 j hj).2.1
    · show f8 10 j = g8 8 j
      rw [a10, b8]; exact upd_ag (fun k hk => (P4.2 k hk).2.2.1) j hj
    · show f8 11 j = g8 9 j
      rw [a11, b9]; exact upd_ag (fun k hk => (P4.2 k hk).2.2.2) j hj
end O1
/-! ===== shares ===== -/
def cd (a b : Nat) : Nat → Nat
  | 0 => 1
  | k + 1 => if a % (k + 1) = 0 ∧ b % (k + 1) = 0 then k + 1 else cd a b k
theorem cd_pos (a b : Nat) : ∀ k, 0 < cd a b k
  | 0 => Nat.one_pos
  | k + 1 => by
    rw [cd]
    split
    · omega
    · exact cd_pos a b k
theorem cd_le (a b : Nat) : ∀ k, cd a b k ≤ k + 1
  | 0 => Nat.le_refl _
  | k + 1 => by
    rw [cd]
    split
    · omega
    · have := cd_le a b k
      omega
theorem cd_gcd {a b : Nat} (hb : 0 < b) : ∀ k, Nat.gcd b a ≤ k → cd a b k = Nat.gcd b a
  | 0, h => by
    have := Nat.gcd_pos_of_pos_left a hb
    omega
  | k + 1, h => by
    rw [cd]
    split
    · rename_i c
      have h1 : k + 1 ∣ Nat.gcd b a := Nat.dvd_gcd (Nat.dvd_of_mod_eq_zero c.2) (Nat.dvd_of_mod_eq_zero c.1)
      have := Nat.le_of_dvd (Nat.gcd_pos_of_pos_left a hb) h1
      omega
    · rename_i c
      refine cd_gcd hb k ?_
      rcases Nat.lt_or_ge (Nat.gcd b a) (k + 1) with h1 | h1
      · omega
      · have e : Nat.gcd b a = k + 1 := by omega
        exact absurd ⟨Nat.mod_eq_zero_of_dvd (e ▸ Nat.gcd_dvd_right b a), Nat.mod_eq_zero_of_dvd (e ▸ Nat.gcd_dvd_left b a)⟩ c
theorem q_sh_loop {a b : Nat} {p : Int32} {K : Int32 → Int32 → Prop} (ha : a ≤ 1000) (hb : b ≤ 1000) (hK : ∀ x, K (nI (cd a b b)) x) :
    ∀ (d k : Nat), k + d = b → Q_X4_share_L12 (nI a) (nI b) p K (d + 1) (nI (cd a b k)) (nI (k + 1)) := by
  intro d
  induction d with
  | zero =>
    intro k hk
    rw [Q_X4_share_L12, show k = b by omega]
    exact ⟨fun _ => hK _, fun c => absurd ((nI_ltI (by omega) (by omega)).mpr (by omega)) c⟩
  | succ d ih =>
    intro k hk
    rw [Q_X4_share_L12]
    have := ih (k + 1) (by omega)
    rw [cd] at this
    have hn : ¬ nI (k + 1) = 0 := fun e => by
      have := (nI_eq (a := k + 1) (b := 0) (by omega) (by omega)).mp e
      omega
    have z : ∀ x : Nat, x ≤ 1000 → (nI x = 0 ↔ x = 0) := fun x hx => nI_eq (a := x) (b := 0) (by omega) (by omega)
    have ma : a % (k + 1) ≤ 1000 := Nat.le_trans (Nat.mod_le _ _) ha
    have mb : b % (k + 1) ≤ 1000 := Nat.le_trans (Nat.mod_le _ _) hb
    rw [nI_mod (a := a) (by omega) (by omega) (by omega), nI_mod (a := b) (by omega) (by omega) (by omega), z _ ma, z _ mb, nI_1]
    refine ⟨fun c => absurd ((nI_ltI (by omega) (by omega)).mp c) (by omega), fun _ => ⟨hn, fun c x e => ?_, fun c => ⟨hn, fun c2 x e => ?_, fun c2 x e => ?_⟩⟩⟩
    · rw [e]; rw [if_neg (fun z => c z.1)] at this; exact this
    · rw [e]; rw [if_neg (fun z => c2 z.2)] at this; exact this
    · rw [e]; rw [if_pos ⟨c, c2⟩] at this; exact this
def shr (a b : Nat) (p : Int32) : Int64 := if b = 0 then p.toInt64 else if p = 0 then lI (a / Nat.gcd b a) else lI (b / Nat.gcd b a)
theorem q_share {a b : Nat} {p : Int32} {post : Int64 → Prop} (ha : a ≤ 1000) (hb : b ≤ 1000) (h : post (shr a b p)) : Q_X4_share (nI a) (nI b) p post := by
  unfold Q_X4_share
  unfold shr at h
  refine ⟨fun c => ?_, fun c => ?_⟩
  · have hb0 : 0 < b := (nI_ltI (a := 0) (by omega) (by omega)).mp c
    rw [if_neg (by omega)] at h
    have hg : 0 < Nat.gcd b a := Nat.gcd_pos_of_pos_left _ hb0
    have hl : Nat.gcd b a ≤ b := Nat.gcd_le_left _ hb0
    have hn : ¬ nI (cd a b b) = 0 := fun e => by
      have := (nI_eq (a := cd a b b) (b := 0) (by have := cd_le a b b; omega) (by omega)).mp e
      have := cd_pos a b b
      omega
    have ea : (nI a / nI (cd a b b)).toInt64 = lI (a / Nat.gcd b a) := by
      rw [cd_gcd hb0 b hl, nI_div (by omega) hg (by omega), i2l (Nat.lt_of_le_of_lt (Nat.div_le_self _ _) (by omega))]
    have eb : (nI b / nI (cd a b b)).toInt64 = lI (b / Nat.gcd b a) := by
      rw [cd_gcd hb0 b hl, nI_div (by omega) hg (by omega), i2l (Nat.lt_of_le_of_lt (Nat.div_le_self _ _) (by omega))]
    have h1 : cd a b 1 = 1 := by rw [cd, if_pos ⟨Nat.mod_one _, Nat.mod_one _⟩]
    have := q_sh_loop (p := p) (K := fun x_11 x_12 => (((¬ p = 0 → (¬ x_11 = 0 ∧ (post (((nI b / x_11)).toInt64)))) ∧ (p = 0 → (¬ x_11 = 0 ∧ (post (((nI a / x_11)).toInt64))))))) ha hb (fun _ => ⟨fun c => ⟨hn, by rw [eb]; rw [if_neg c] at h; exact h⟩, fun c => ⟨hn, by rw [ea]; rw [if_pos c] at h; exact h⟩⟩) (b - 1) 1 (by omega)
    rw [h1] at this
    exact ⟨b - 1 + 1, this⟩
  · have hb0 : b = 0 := by
      have : ¬ 0 < b := fun z => c ((nI_ltI (a := 0) (by omega) (by omega)).mpr z)
      omega
    rw [if_pos hb0] at h; exact h
/-! ===== the ops that only tell, second part ===== -/
theorem Rel0.read {f : FF} {v : VV} {g : FF} {u : VV} {f' : FF} {v' : VV} {g' : FF} {u' : VV} {c : Nat} (h : Rel0 f v g u) (hf : ∀ j, j ≠ 0 → f' j = f j) (hv : ∀ i, i ≠ 0 → v' i = v i) (hg : ∀ j, j ≠ 16 → g' j = g j) (hu : ∀ i, i ≠ 8 → u' i = u i) (hc : c ≤ 8) (e1 : v' 0 = nI c) (e2 : u' 8 = nI c) (e3 : ∀ i, i < c → f' 0 i = g' 16 i) : Rel0 f' v' g' u' := by
  obtain ⟨hs, ⟨n, t, p1, p2, p3, p4, p5⟩, _, ht, hf'⟩ := h
  refine ⟨fun k hk => (hs k hk).of (hf _ (by omega)) (hv _ (by omega)) (hv _ (by omega)) (by rw [hg 0 (by decide)]) (by rw [hg 1 (by decide)]) (fun _ _ => by rw [hg 2 (by decide)]), ⟨n, t, p1.rows (fun j hj => hf (5 + j) (by omega)) (hv 11 (by decide)) (hv 12 (by decide)), p2.rows (fun j hj => hg (3 + j) (by omega)) (hu 2 (by decide)) (hu 3 (by decide)), p3, p4.of (fun j hj => hf (5 + j) (by omega)) (fun j hj => hg (3 + j) (by omega)), p5.of (hf 8 (by decide)) (hf 9 (by decide))⟩, ⟨c, hc, e1, e2, e3⟩, by rw [hv 1 (by decide), hu 1 (by decide)]; exact ht, by rw [hv 2 (by decide), hu 0 (by decide)]; exact hf'⟩
theorem op_back (p0 : Int32) (f : FF) (v : VV) (g : FF) (u : VV) (h : Rel0 f v g u) : Q_X4_back p0 f v (fun r f1 v1 => Q_X5_back p0 g u (fun r' g1 u1 => r = r' ∧ Rel0 f1 v1 g1 u1)) := by
  obtain ⟨c, r1, r2, r3, r4⟩ := h.2.2.1
  unfold Q_X4_back
  rw [r2]
  refine q_isWithin (fun a b => yes1' (fun v3 e3 => ?_)) (fun a => no0' ?_)
  · unfold Q_X5_back
    rw [r3]
    obtain ⟨k, rfl, _, hk⟩ := rngI (a := 0) (b := c) (by omega) a b (by omega)
    rw [nI_sub hk] at e3
    refine q5_within1 a b (yes1' (fun u3 eu3 => ?_))
    rw [nI_sub hk] at eu3
    refine ⟨by rw [e3, eu3, fu_eq, fu_eq], h.read (c := c - k) (fun _ _ => rfl) (fun i hi => by rw [e3, fu_ne hi]) (fun _ _ => rfl) (fun i hi => by rw [eu3, fu_ne hi]) (by omega) (by rw [e3, fu_eq]) (by rw [eu3, fu_eq]) (fun i hi => r4 i (by omega))⟩
  · unfold Q_X5_back
    rw [r3]
    exact q5_within0 a (no0' ⟨rfl, h⟩)
theorem op_reading (p0 : Int32) (f : FF) (v : VV) (g : FF) (u : VV) (h : Rel0 f v g u) : Q_X4_reading p0 f v (fun r f1 v1 => Q_X5_reading p0 g u (fun r' g1 u1 => True ∧ Rel0 f1 v1 g1 u1)) := by
  obtain ⟨c, r1, r2, r3, r4⟩ := h.2.2.1
  obtain ⟨n, t, P1, P2, P3, P4, P5⟩ := h.2.1
  have hn := P1.1
  have e2 : u 2 = nI n := P2.2.2.1
  refine q_isEmpty P1 (fun e => yes1 ⟨fun c => absurd (by rw [e2, e]; rfl) c, fun _ => ⟨trivial, h⟩⟩) (fun e => no0 ?_)
  have ne : ¬ u 2 = 0 := fun c => by rw [e2] at c; exact absurd ((nI_eq (a := n) (b := 0) (by omega) (by omega)).mp c) e
  rw [r2]
  refine q_isWithin (fun a b => yes1' ⟨fun c1 => ?_, fun c1 => ?_⟩) (fun a => no0' ⟨fun _ => q5_within0 a (no0' ⟨trivial, h⟩), fun z => absurd z ne⟩)
  · have hc : c < 8 := (nI_ltI (b := 8) (by omega) (by omega)).mp c1
    refine ⟨vi_nI hc (by omega), fun f7 e7 v8 e8 => ⟨fun _ => q5_within1 a b (yes1' ?_), fun z => absurd z ne⟩⟩
    rw [r3]
    refine ⟨fun _ => ⟨vi_nI hc (by omega), fun g6 e6 u7 eu7 => ⟨trivial, ?_⟩⟩, fun z => absurd ((nI_eq (b := 8) (by omega) (by omega)).mp z) (by omega)⟩
    rw [wrN (by omega)] at e7 e6
    refine h.read (c := c + 1) (fun j hj => by rw [e7, fu_ne hj]) (fun i hi => by rw [e8, fu_ne hi]) (fun j hj => by rw [e6, fu_ne hj]) (fun i hi => by rw [eu7, fu_ne hi]) (by omega) (by rw [e8, fu_eq, nI_1]) (by rw [eu7, fu_eq, nI_1]) (fun i hi => ?_)
    rw [e7, e6, fu_eq, fu_eq]
    rcases Nat.lt_succ_iff_lt_or_eq.mp hi with hi | rfl
    · rw [upd_ne (by omega), upd_ne (by omega)]; exact r4 i hi
    · rw [upd_eq, upd_eq]
  · have hc : c = 8 := by
      have : ¬ c < 8 := fun z => c1 ((nI_ltI (b := 8) (by omega) (by omega)).mpr z)
      omega
    refine ⟨fun _ => q5_within1 a b (yes1' ?_), fun z => absurd z ne⟩
    rw [r3]
    exact ⟨fun z => absurd (by rw [hc]; rfl) z, fun _ => ⟨trivial, h⟩⟩
theorem op_as (p0 p1 : Int32) (f : FF) (v : VV) (g : FF) (u : VV) (h : Rel0 f v g u) : Q_X4_as p0 p1 f v (fun r f1 v1 => Q_X5_as p0 p1 g u (fun r' g1 u1 => r = r' ∧ Rel0 f1 v1 g1 u1)) := by
  intro v1 ev1
  have h0 := h.fault 0
  rw [← ev1] at h0
  obtain ⟨n, t, P1, P2, P3, P4, P5⟩ := h0.2.1
  have ht := P1.2.1
  refine q_hasTest P1 (fun k hk ek => yes1' ?_) (fun hk => no0' (fun u1 eu1 => q5_isTest0 (n := n) (t := t) (by rw [eu1]; exact P2) hk (no0' ⟨rfl, by rw [eu1]; exact h0⟩)))
  subst ek
  have vk : vp_in (nI k) 7 := vi_nI (by omega) (by omega)
  have e8 : f 8 k = g 6 k := (P4.2 k hk).1
  refine q_isWithin (fun a b => yes1' ⟨vk, ?_⟩) (fun a => no0' (fun u1 eu1 => q5_isTest1 (n := n) (t := t) (by rw [eu1]; exact P2) hk (yes1' (q5_within0 a (no0' ⟨rfl, by rw [eu1]; exact h0⟩)))))
  rw [nI_clamp (by omega), e8]
  refine ⟨fun c v2 ev2 u1 eu1 => q5_isTest1 (n := n) (t := t) (by rw [eu1]; exact P2) hk (yes1' (q5_within1 a b (yes1' ⟨vk, ?_⟩))), fun c u1 eu1 => q5_isTest1 (n := n) (t := t) (by rw [eu1]; exact P2) hk (yes1' (q5_within1 a b (yes1' ⟨vk, ?_⟩)))⟩
  · rw [nI_clamp (by omega)]
    exact ⟨fun _ u2 eu2 => ⟨rfl, by rw [ev2, eu2, eu1]; exact h0.fault 2⟩, fun z => absurd c z⟩
  · rw [nI_clamp (by omega)]
    exact ⟨fun z => absurd z c, fun _ => ⟨rfl, by rw [eu1]; exact h0⟩⟩
theorem op_tell (p0 : Int32) (f : FF) (v : VV) (g : FF) (u : VV) (h : Rel0 f v g u) : Q_X4_tell p0 f v (fun r f1 v1 => Q_X5_tell p0 g u (fun r' g1 u1 => r = r' ∧ Rel0 f1 v1 g1 u1)) := by
  obtain ⟨n, t, P1, P2, P3, P4, P5⟩ := h.2.1
  have ht := P1.2.1
  refine q_hasTest P1 (fun k hk ek => yes1' ?_) (fun hk => no0' (q5_isTest0 P2 hk (no0' ⟨rfl, h⟩)))
  subst ek
  have vk : vp_in (nI k) 7 := vi_nI (by omega) (by omega)
  have e8 : f 8 k = g 6 k := (P4.2 k hk).1
  have e9 : f 9 k = g 7 k := (P4.2 k hk).2.1
  obtain ⟨κ, hκ, eκ⟩ := (P5 k hk).1
  have eκ : f 8 k = nI κ := eκ
  refine ⟨vk, ?_⟩
  have ct : v 1 = u 1 := h.2.2.2.1
  have c2 : ∀ x : Int32, ¬ nI κ = 0 → ¬ nI κ = 1 → nI κ = 2 := fun _ a b => by
    have : κ ≠ 0 := fun z => a (by rw [z]; rfl)
    have : κ ≠ 1 := fun z => b (by rw [z]; rfl)
    rw [show κ = 2 by omega]; rfl
  have st : ∀ (v1 v2 : VV) (u1 u2 : VV) (x : Int32), Rel0 f v1 g u1 → v2 = fu v1 1 (31 * v1 1 + x) → u2 = fu u1 1 (31 * u1 1 + x) → Rel0 f v2 g u2 := by
    intro v1 v2 u1 u2 x hr e1 e2
    rw [e1, e2, show v1 1 = u1 1 from hr.2.2.2.1]
    exact hr.trace _
  rw [nI_clamp (by omega), eκ]
  refine ⟨fun c => ?_, fun c => ⟨fun c1 => ?_, fun c1 => ?_⟩⟩
  · intro v1 ev1
    refine ⟨vk, ?_⟩
    rw [nI_clamp (by omega)]
    refine q5_isTest1 P2 hk (yes1' ⟨vk, fun x ex => ⟨vk, ?_⟩⟩)
    rw [nI_clamp (by omega)] at ex ⊢
    rw [← e8, eκ, c]
    exact ⟨fun z => absurd z (by decide), fun _ => ⟨fun z => absurd z (by decide), fun _ u1 eu1 => ⟨by rw [ex]; exact e9, st _ _ _ _ _ h ev1 eu1⟩⟩⟩
  · intro v1 ev1 v2 ev2
    refine ⟨vk, ?_⟩
    rw [nI_clamp (by omega)]
    refine q5_isTest1 P2 hk (yes1' ⟨vk, fun x ex => ⟨vk, ?_⟩⟩)
    rw [nI_clamp (by omega)] at ex ⊢
    rw [← e8, eκ, c1]
    exact ⟨fun _ u1 eu1 u2 eu2 => ⟨by rw [ex, ← e9], st _ _ _ _ _ (st _ _ _ _ _ h ev1 eu1) ev2 eu2⟩, fun z => absurd rfl z⟩
  · have c3 := c2 0 c c1
    intro v1 ev1 v2 ev2 v3 ev3
    refine ⟨vk, ?_⟩
    rw [nI_clamp (by omega)]
    intro v4 ev4
    refine ⟨vk, ?_⟩
    refine q5_isTest1 P2 hk (yes1' ⟨vk, fun x ex => ⟨vk, ?_⟩⟩)
    rw [nI_clamp (by omega)] at ex ⊢
    rw [← e8, eκ, c3]
    refine ⟨fun z => absurd z (by decide), fun _ => ⟨fun _ u1 eu1 u2 eu2 u3 eu3 u4 eu4 => ⟨?_, st _ _ _ _ _ (st _ _ _ _ _ (st _ _ _ _ _ (st _ _ _ _ _ h ev1 eu1) ev2 eu2) ev3 eu3) ev4 eu4⟩, fun z => absurd rfl z⟩⟩
    rw [ex, e9, show (2 : Int32) * g 7 k = g 7 k + g 7 k from by rw [show (2 : Int32) = 1 + 1 from rfl, Int32.add_mul, Int32.one_mul]]
    rw [Int32.add_assoc, Int32.add_comm 100, ← Int32.add_assoc]
section O3
variable {n t : Nat} {g : FF} {u : VV} {posf : Int32 → FF → VV → Prop}
/-- what is told of a test -/
def ot5 (g : FF) (n t j : Nat) (w : Int32) : Int32 := if w = 0 then g 6 j else if w = 1 then g 7 j else if w = 2 then wgt (g 6 j) (g 7 j) else if w = 3 then g 8 j else if w = 4 then g 9 j else if w = 5 then out (g 3) (g 4) (g 5) (g 8 j) (g 9 j) n else if w = 6 then kB (kls g n t) (4 * n) j else -2
theorem kB_cong {B B' : Nat → Int32} {m j : Nat} (h : ∀ q, q < m → B q = B' q) : kB B m j = kB B' m j := bs_cong (fun q hq => by rw [h q hq])
theorem q5_ofTest {j : Nat} {w : Int32} (hP : PI n t (sb g 3) (sb u 2)) (hn : 0 < n) (hj : j < t) (h : ∀ g', FE g u g' u → posf (ot5 g n t j w) g' u) : Q_X5_ofTest (nI j) w g u posf := by
  have ht := hP.2.1
  have vj : vp_in (nI j) 7 := vi_nI (by omega) (by omega)
  unfold ot5 at h
  refine q5_isTest1 hP hj (yes1' ?_)
  rw [nI_clamp (by omega)]
  refine ⟨fun c => ⟨vj, ?_⟩, fun c0 => ⟨fun c => ⟨vj, ?_⟩, fun c1 => ⟨fun c => q5_weightOf (by omega) ?_, fun c2 => ⟨fun c => ⟨vj, ?_⟩, fun c3 => ⟨fun c => ⟨vj, ?_⟩, fun c4 => ⟨fun c => ⟨vj, vj, q5_plainRun hP hn (fun g' hs _ => ?_)⟩, fun c5 => ⟨fun c => q5_findKillers hP (fun g' hs hB => ?_), fun c6 => ?_⟩⟩⟩⟩⟩⟩⟩
  · rw [if_pos c] at h; exact h g FE.rf
  · rw [if_neg c0, if_pos c] at h; exact h g FE.rf
  · rw [if_neg c0, if_neg c1, if_pos c] at h; exact h g FE.rf
  · rw [if_neg c0, if_neg c1, if_neg c2, if_pos c] at h; exact h g FE.rf
  · rw [if_neg c0, if_neg c1, if_neg c2, if_neg c3, if_pos c] at h; exact h g FE.rf
  · rw [if_neg c0, if_neg c1, if_neg c2, if_neg c3, if_neg c4, if_pos c] at h; exact h g' hs.fe
  · rw [if_neg c0, if_neg c1, if_neg c2, if_neg c3, if_neg c4, if_neg c5, if_pos c] at h
    have hP' : PI n t (sb g' 3) (sb u 2) := hP.rows (fun j hj => hs.pv j (by omega)) rfl rfl
    refine q5_killedBy hP' (by omega) ?_
    rw [kB_cong hB]; exact h g' hs.fe
  · rw [if_neg c0, if_neg c1, if_neg c2, if_neg c3, if_neg c4, if_neg c5, if_neg c6] at h; exact h g FE.rf
/-- what is told of a mutant -/
def om5 (g : FF) (n t q : Nat) (w : Int32) : Int32 := if w = 0 then nI (q / 4) else if w = 1 then ow (g 3 (q / 4)) (q % 4) else if w = 2 then kls g n t q else if w = 3 then (if nI (cntK (sb g 3) n q 100) = 0 then 1 else 0) else if w = 4 then nI (cntK (sb g 3) n q 100) else if w = 5 then b2 (least (kls g n t) (4 * n) q) else if w = 6 then nI (fb_ct (fun k => sub (kls g n t) k q) (4 * n)) else -2
theorem sub_cong {B B' : Nat → Int32} {m : Nat} (h : ∀ q, q < m → B q = B' q) {q k : Nat} (hq : q < m) (hk : k < m) : sub B q k = sub B' q k := by unfold sub; rw [h q hq, h k hk]
theorem q5_ofMutant {q : Nat} {w : Int32} (hP : PI n t (sb g 3) (sb u 2)) (hq : q < 4 * n) (h : ∀ g', FE g u g' u → posf (om5 g n t q w) g' u) : Q_X5_ofMutant (nI q) w g u posf := by
  have hn := hP.1
  have vq : vp_in (nI q) 20 := vi_nI (by omega) (by omega)
  unfold om5 at h
  refine q5_isMutant1 hP hq (yes1' (q5_findKillers hP (fun g' hs hB => ?_)))
  have hP' : PI n t (sb g' 3) (sb u 2) := hP.rows (fun j hj => hs.pv j (by omega)) rfl rfl
  have e3 : g' 3 = g 3 := hs 3 (by decide) (by decide)
  rw [nI_clamp (by omega)]
  refine ⟨fun c => q5_stepOf (by omega) ?_, fun c0 => ⟨fun c => q5_otherWay hP' hq ?_, fun c1 => ⟨fun c => ⟨vq, ?_⟩, fun c2 => ⟨fun c => q5_differs hP' hq (fun g2 hs2 => ?_), fun c3 => ⟨fun c => q5_differs hP' hq (fun g2 hs2 => ?_), fun c4 => ⟨fun c => q5_isLeast hP' hq ?_, fun c5 => ⟨fun c => q5_subsumed hP' hq ?_, fun c6 => ?_⟩⟩⟩⟩⟩⟩⟩
  · rw [if_pos c] at h; exact h g' hs.fe
  · rw [if_neg c0, if_pos c] at h; rw [e3]; exact h g' hs.fe
  · rw [if_neg c0, if_neg c1, if_pos c] at h; rw [hB q hq]; exact h g' hs.fe
  · rw [if_neg c0, if_neg c1, if_neg c2, if_pos c] at h
    rw [cntK_rows (fun j hj => hs.pv j hj)]
    refine ⟨fun z => ?_, fun z => ?_⟩
    · rw [if_neg z] at h; exact h g2 (hs.fe.tr hs2.fe)
    · rw [if_pos z] at h; exact h g2 (hs.fe.tr hs2.fe)
  · rw [if_neg c0, if_neg c1, if_neg c2, if_neg c3, if_pos c] at h
    rw [cntK_rows (fun j hj => hs.pv j hj)]
    exact h g2 (hs.fe.tr hs2.fe)
  · rw [if_neg c0, if_neg c1, if_neg c2, if_neg c3, if_neg c4, if_pos c] at h
    rw [least_cong hB hq]
    have := h g' hs.fe
    cases hb : least (kls g n t) (4 * n) q with
    | false => rw [hb] at this; exact no0 this
    | true => rw [hb] at this; exact yes1 this
  · rw [if_neg c0, if_neg c1, if_neg c2, if_neg c3, if_neg c4, if_neg c5, if_pos c] at h
    rw [show fb_ct (fun k => sub (g' 13) k q) (4 * n) = fb_ct (fun k => sub (kls g n t) k q) (4 * n) from fb_ct_cong (fun k hk => sub_cong hB hk hq)]
    exact h g' hs.fe
  · rw [if_neg c0, if_neg c1, if_neg c2, if_neg c3, if_neg c4, if_neg c5, if_neg c6] at h; exact h g' hs.fe
end O3
theorem Kf.b34 {n t : Nat} {p : FF} {f' : FF} {v' : VV} {g : FF} (h : Kf n t p f' v') (ha : Agree n t p (sb g 3)) : ∀ q, q < 4 * n → f' 34 q = kls g n t q := fun q hq => (h.2.2.2.1 q hq).trans (kls_eq ha hq)
theorem op_ofTest (p0 p1 : Int32) (f : FF) (v : VV) (g : FF) (u : VV) (h : Rel0 f v g u) : Q_X4_ofTest p0 p1 f v (fun r f1 v1 => Q_X5_ofTest p0 p1 g u (fun r' g1 u1 => r = r' ∧ Rel0 f1 v1 g1 u1)) := by
  obtain ⟨n, t, P1, P2, P3, P4, P5⟩ := h.2.1
  have hn := P1.1
  have ht := P1.2.1
  refine q_hasTest P1 (fun k hk ek => yes1' ?_) (fun hk => no0' (q5_isTest0 P2 hk (no0' ⟨rfl, h⟩)))
  subst ek
  have hn0 : 0 < n := Nat.pos_of_ne_zero (fun z => by have := P3.mp z; omega)
  have vk : vp_in (nI k) 7 := vi_nI (by omega) (by omega)
  obtain ⟨a1, a2, a3, a4⟩ := P4.2 k hk
  have a1 : f 8 k = g 6 k := a1
  have a2 : f 9 k = g 7 k := a2
  have a3 : f 10 k = g 8 k := a3
  have a4 : f 11 k = g 9 k := a4
  have fin : ∀ (r : Int32) (f1 : FF) (v1 : VV), FC f v f1 v1 → r = ot5 g n t k p1 → Q_X5_ofTest (nI k) p1 g u (fun r' g1 u1 => r = r' ∧ Rel0 f1 v1 g1 u1) := fun r f1 v1 hc er => q5_ofTest P2 hn0 hk (fun g' he => ⟨er, h.fr hc he⟩)
  unfold ot5 at fin
  rw [nI_clamp (by omega)]
  refine ⟨fun c => ⟨vk, fin _ _ _ FC.rf ?_⟩, fun c0 => ⟨fun c => ⟨vk, fin _ _ _ FC.rf ?_⟩, fun c1 => ⟨fun c => q_weight P1 hk (fin _ _ _ FC.rf ?_), fun c2 => ⟨fun c => ⟨vk, fin _ _ _ FC.rf ?_⟩, fun c3 => ⟨fun c => ⟨vk, fin _ _ _ FC.rf ?_⟩, fun c4 => ⟨fun c => q_runTest P1 hk (fun f' hf' _ f10 ef v11 ev => fin _ _ _ ((back_fb (Sm.of7 hf') ef ev).1.fc (by decide)) ?_), fun c5 => ⟨fun c => q_killedByTest P1 hk (fun f' hf' f10 ef v11 ev => fin _ _ _ ((back_fb hf' ef ev).1.fc (by decide)) ?_), fun c6 => fin _ _ _ FC.rf ?_⟩⟩⟩⟩⟩⟩⟩
  · rw [if_pos c]; exact a1
  · rw [if_neg c0, if_pos c]; exact a2
  · rw [if_neg c0, if_neg c1, if_pos c]; exact ag_wgt P4 hk
  · rw [if_neg c0, if_neg c1, if_neg c2, if_pos c]; exact a3
  · rw [if_neg c0, if_neg c1, if_neg c2, if_neg c3, if_pos c]; exact a4
  · rw [if_neg c0, if_neg c1, if_neg c2, if_neg c3, if_neg c4, if_pos c, ← a3, ← a4]; exact ag_out P4 _ _
  · rw [if_neg c0, if_neg c1, if_neg c2, if_neg c3, if_neg c4, if_neg c5, if_pos c]; exact kB_eq P4 hn ht hk (fun _ _ => rfl)
  · rw [if_neg c0, if_neg c1, if_neg c2, if_neg c3, if_neg c4, if_neg c5, if_neg c6]
theorem op_ofMutant (p0 p1 : Int32) (f : FF) (v : VV) (g : FF) (u : VV) (h : Rel0 f v g u) : Q_X4_ofMutant p0 p1 f v (fun r f1 v1 => Q_X5_ofMutant p0 p1 g u (fun r' g1 u1 => r = r' ∧ Rel0 f1 v1 g1 u1)) := by
  obtain ⟨n, t, P1, P2, P3, P4, P5⟩ := h.2.1
  have hn := P1.1
  have ht := P1.2.1
  refine q_hasMutant P1 (fun q hq eq => yes1' ?_) (fun hk => no0' (q5_isMutant0 P2 hk (no0' ⟨rfl, h⟩)))
  subst eq
  have vq : vp_in (nI q) 20 := vi_nI (by omega) (by omega)
  have fin : ∀ (r : Int32) (f1 : FF) (v1 : VV), FC f v f1 v1 → r = om5 g n t q p1 → Q_X5_ofMutant (nI q) p1 g u (fun r' g1 u1 => r = r' ∧ Rel0 f1 v1 g1 u1) := fun r f1 v1 hc er => q5_ofMutant P2 hq (fun g' he => ⟨er, h.fr hc he⟩)
  unfold om5 at fin
  have ec : cntK (sb f 5) n q 100 = cntK (sb g 3) n q 100 := ag_cnt P4 hq 100
  rw [nI_clamp (by omega)]
  refine ⟨fun c => q_stepOf (by omega) (fin _ _ _ FC.rf ?_), fun c0 => ⟨fun c => q_otherWay P1 hq (fin _ _ _ FC.rf ?_), fun c1 => ⟨fun c => q_killsNow P1 (fun f' v' hc hK => ⟨vq, fin _ _ _ hc ?_⟩), fun c2 => ⟨fun c => q_differences P1 hq (fun f' hf' f10 ef v11 ev => ⟨fun z => q_oneIf (fin _ _ _ ((back_fb hf' ef ev).1.fc (by decide)) ?_), fun z => q_oneIf (fin _ _ _ ((back_fb hf' ef ev).1.fc (by decide)) ?_)⟩), fun c3 => ⟨fun c => q_differences P1 hq (fun f' hf' f10 ef v11 ev => fin _ _ _ ((back_fb hf' ef ev).1.fc (by decide)) ?_), fun c4 => ⟨fun c => q_killsNow P1 (fun f' v' hc hK => q_isLeast hK.1 hq (fun hl => q_oneIf (fin _ _ _ hc ?_)) (fun hl => q_oneIf (fin _ _ _ hc ?_))), fun c5 => ⟨fun c => q_killsNow P1 (fun f' v' hc hK => q_countSubsumed hK.1 hq (fin _ _ _ hc ?_)), fun c6 => fin _ _ _ FC.rf ?_⟩⟩⟩⟩⟩⟩⟩
  · rw [if_pos c]
  · rw [if_neg c0, if_pos c]; show ow (f 5 (q / 4)) _ = _; rw [show f 5 (q / 4) = g 3 (q / 4) from (P4.1 (q / 4) (by omega)).1]
  · rw [if_neg c0, if_neg c1, if_pos c]; exact hK.b34 P4 q hq
  · rw [if_neg c0, if_neg c1, if_neg c2, if_pos c]; rw [ec] at z; rw [if_neg z]; rfl
  · rw [if_neg c0, if_neg c1, if_neg c2, if_pos c]; rw [ec] at z; rw [if_pos z]; rfl
  · rw [if_neg c0, if_neg c1, if_neg c2, if_neg c3, if_pos c, ec]
  · rw [if_neg c0, if_neg c1, if_neg c2, if_neg c3, if_neg c4, if_pos c]
    have hl : least (f' 34) (4 * n) q = true := hl
    rw [least_cong (hK.b34 P4) hq] at hl
    rw [hl]; rfl
  · rw [if_neg c0, if_neg c1, if_neg c2, if_neg c3, if_neg c4, if_pos c]
    have hl : least (f' 34) (4 * n) q = false := hl
    rw [least_cong (hK.b34 P4) hq] at hl
    rw [hl]; rfl
  · rw [if_neg c0, if_neg c1, if_neg c2, if_neg c3, if_neg c4, if_neg c5, if_pos c]
    show nI (fb_ct (fun k => sub (f' 34) k q) (4 * n)) = _
    rw [show fb_ct (fun k => sub (f' 34) k q) (4 * n) = fb_ct (fun k => sub (kls g n t) k q) (4 * n) from fb_ct_cong (fun k hk => sub_cong (hK.b34 P4) hk hq)]
  · rw [if_neg c0, if_neg c1, if_neg c2, if_neg c3, if_neg c4, if_neg c5, if_neg c6]
theorem op_state (p0 p1 : Int32) (f : FF) (v : VV) (g : FF) (u : VV) (h : Rel0 f v g u) : Q_X4_state p0 p1 f v (fun r f1 v1 => Q_X5_state p0 p1 g u (fun r' g1 u1 => r = r' ∧ Rel0 f1 v1 g1 u1)) := by
  obtain ⟨n, t, P1, P2, P3, P4, P5⟩ := h.2.1
  have hn := P1.1
  have ht := P1.2.1
  refine q_hasMutant P1 (fun q hq eq => yes1 ?_) (fun hk => no0 (q5_isMutant0 P2 hk (no0 ⟨rfl, h⟩)))
  subst eq
  refine q_hasTest P1 (fun k hk ek => yes1' ?_) (fun hk => no0' (q5_isMutant1 P2 hq (yes1 (q5_isTest0 P2 hk (no0' ⟨rfl, h⟩)))))
  subst ek
  refine q_runTest P1 hk (fun f' hf' hF f8 ef v9 ev => ?_)
  obtain ⟨hb, hr⟩ := back_fb (Sm.of7 hf') ef ev
  have rr : ∀ j, j < 7 → sb f8 5 j = sb f 5 j := fun j hj => (hr j (by omega)).trans (hf' j (by omega))
  have P1' : PI n t (sb f8 5) (sb v9 11) := P1.rows (fun j hj => rr j (by omega)) (hb.2 11 (by decide)) (hb.2 12 (by decide))
  have hF' : FG n (sb f 5 5 k) (sb f 5 6 k) (sb f8 5) := by
    intro j hj
    rw [rr 0 (by decide), rr 1 (by decide), rr 2 (by decide)]
    have := hF j hj
    rw [hf' 0 (by decide), hf' 1 (by decide), hf' 2 (by decide)] at this
    rw [← this]
    exact congrFun (hr 7 (by decide)) j
  refine q_effect P1' hF' hq (fun f'' hf'' f13 ef2 v14 ev2 => ?_)
  have hc : FC f v f13 v14 := (hb.fc (by decide)).tr ((back_fb (Sm.of8 hf'') ef2 ev2).1.fc (by decide))
  rw [rr 0 (by decide), rr 1 (by decide), rr 2 (by decide)]
  have x5 : sb f 5 5 k = g 8 k := (P4.2 k hk).2.2.1
  have x6 : sb f 5 6 k = g 9 k := (P4.2 k hk).2.2.2
  rw [x5, x6]
  have em : mval (sb f 5 0) (sb f 5 1) (sb f 5 2) n (g 8 k) (g 9 k) q = mval (g 3) (g 4) (g 5) n (g 8 k) (g 9 k) q := ag_mval P4 hq _ _
  have et : tab (sb f 5 0) (sb f 5 1) (sb f 5 2) (g 8 k) (g 9 k) n = tab (g 3) (g 4) (g 5) (g 8 k) (g 9 k) n := ag_tab P4 (Nat.le_refl _) _ _
  have ek : kill (sb f 5 0) (sb f 5 1) (sb f 5 2) n (g 8 k) (g 9 k) q = kt' (sb g 3) n k q := ag_kill P4 hq _ _
  have ef : eff (sb f 5 0) (sb f 5 1) (sb f 5 2) n (g 8 k) (g 9 k) q = eff (g 3) (g 4) (g 5) n (g 8 k) (g 9 k) q := by
    unfold eff; rw [em, et, ek]; rfl
  rw [ef]
  have e2 := eff_2 (x := g 8 k) (y := g 9 k) (w := g 3) (a := g 4) (b := g 5) hn hq P2.2.2.2.2
  refine q5_isMutant1 P2 hq (yes1 (q5_isTest1 P2 hk (yes1' (q5_kills P2 hk hq (fun hkl g' hs => yes1 ⟨e2.mpr hkl, h.fr hc hs.fe⟩) (fun hkl g' hs => no0 ?_)))))
  have P2' : PI n t (sb g' 3) (sb u 2) := P2.rows (fun j hj => hs.pv j (by omega)) rfl rfl
  have nk : ¬ kill (g 3) (g 4) (g 5) n (g 8 k) (g 9 k) q = true := by
    have hkl : kill (g 3) (g 4) (g 5) n (g 8 k) (g 9 k) q = false := hkl
    rw [hkl]; decide
  have r3 := hs 3 (by decide)
  have r4 := hs 4 (by decide)
  have r5 := hs 5 (by decide)
  have r8 := hs 8 (by decide)
  have r9 := hs 9 (by decide)
  refine q5_infects P2' hk hq (fun hm g2 hs2 => yes1 ⟨?_, h.fr hc (hs.fe.tr hs2.fe)⟩) (fun hm g2 hs2 => no0 ⟨?_, h.fr hc (hs.fe.tr hs2.fe)⟩)
  · rw [r3, r4, r5, r8, r9] at hm
    unfold eff; rw [if_neg hm, if_neg nk]
  · rw [r3, r4, r5, r8, r9] at hm
    unfold eff; rw [if_pos hm]
theorem op_subsumes (p0 p1 : Int32) (f : FF) (v : VV) (g : FF) (u : VV) (h : Rel0 f v g u) : Q_X4_subsumes p0 p1 f v (fun r f1 v1 => Q_X5_subsumes p0 p1 g u (fun r' g1 u1 => r = r' ∧ Rel0 f1 v1 g1 u1)) := by
  obtain ⟨n, t, P1, P2, P3, P4, P5⟩ := h.2.1
  have hn := P1.1
  refine q_hasMutant P1 (fun q hq eq => yes1 ?_) (fun hk => no0 (q5_isMutant0 P2 hk (no0 ⟨rfl, h⟩)))
  subst eq
  refine q_hasMutant P1 (fun r hr er => yes1' ?_) (fun hk => no0' (q5_isMutant1 P2 hq (yes1 (q5_isMutant0 P2 hk (no0' ⟨rfl, h⟩)))))
  subst er
  refine q_killsNow P1 (fun f' v' hc hK => ?_)
  have e : sub (f' 34) r q = sub (kls g n t) r q := sub_cong (hK.b34 P4) hr hq
  have fin : ∀ b : Bool, sub (kls g n t) r q = b → Q_X5_subsumes (nI q) (nI r) g u (fun r' g1 u1 => b2 b = r' ∧ Rel0 f' v' g1 u1) := by
    intro b eb
    refine q5_isMutant1 P2 hq (yes1 (q5_isMutant1 P2 hr (yes1' (q5_findKillers P2 (fun g' hs hB => q5_doesSubsume (by omega) (by omega) (fun hb => yes1 ⟨?_, h.fr hc hs.fe⟩) (fun hb => no0 ⟨?_, h.fr hc hs.fe⟩))))))
    · rw [sub_cong hB hr hq, eb] at hb; rw [hb]; rfl
    · rw [sub_cong hB hr hq, eb] at hb; rw [hb]; rfl
  refine q_isSubsumed hK.1 hr hq (fun hs => q_oneIf (fin true ?_)) (fun hs => q_oneIf (fin false ?_))
  · rw [← e]; exact hs
  · rw [← e]; exact hs
theorem op_odds (p0 p1 : Int32) (f : FF) (v : VV) (g : FF) (u : VV) (h : Rel0 f v g u) : Q_X4_odds p0 p1 f v (fun r f1 v1 => Q_X5_odds p0 p1 g u (fun r' g1 u1 => r = r' ∧ Rel0 f1 v1 g1 u1)) := by
  obtain ⟨n, t, P1, P2, P3, P4, P5⟩ := h.2.1
  have hn := P1.1
  refine q_hasMutant P1 (fun q hq eq => yes1 ?_) (fun hk => no0 (q5_isMutant0 P2 hk (no0 ⟨rfl, h⟩)))
  subst eq
  refine q_isWithin (fun a b => yes1' ?_) (fun a => no0' (q5_isMutant1 P2 hq (yes1 (q5_within0 a (no0 ⟨rfl, h⟩)))))
  refine q_differences P1 hq (fun f' hf' f8 ef v9 ev => ?_)
  have hcn : cntK (sb f 5) n q 100 ≤ 100 := cntK_le _ _ _ _
  refine q_share (b := 100) (by omega) (by omega) ?_
  refine q5_isMutant1 P2 hq (yes1 (q5_within1 a b (yes1 (q5_differs P2 hq (fun g' hs => ?_)))))
  rw [← ag_cnt P4 hq 100, i2l (by omega)]
  refine q5_inLeastTerms (b := 100) (by omega) (by omega) (by omega) ⟨?_, h.fr ((back_fb hf' ef ev).1.fc (by decide)) hs.fe⟩
  unfold shr; rw [if_neg (by decide)]
/-! ===== the class's cover, by what a program says ===== -/
theorem sumW_cong {W W' : Nat → Int32} (S : Int32) : ∀ {k : Nat}, (∀ i, i < k → W i = W' i) → sumW W S k = sumW W' S k
  | 0, _ => rfl
  | k + 1, h => by rw [sumW, sumW, sumW_cong S (fun i hi => h i (by omega)), h k (by omega)]
theorem unK_cong {B B' : Nat → Int32} (S : Int32) : ∀ {k : Nat}, (∀ i, i < k → B i = B' i) → unK B S k = unK B' S k
  | 0, _ => rfl
  | k + 1, h => by rw [unK, unK, unK_cong S (fun i hi => h i (by omega)), h k (by omega)]
theorem light_cong {F F' : FF} {t : Nat} {kd : Int32} (h0 : ∀ i, i < t → F 0 i = F' 0 i) (h2 : ∀ i, i < t → F 2 i = F' 2 i) : ∀ k, light F t kd k = light F' t kd k
  | 0 => rfl
  | k + 1 => by rw [light, light, light_cong h0 h2 k, sumW_cong _ h2, unK_cong _ h0]
/-- Kills' rows, by what a program says -/
def kF (n : Nat) (p : FF) : FF := fun r i => if r = 0 then bs (kt' p n i) (4 * n) else wgt (p 3 i) (p 4 i)
def kDd (n t : Nat) (p : FF) : Int32 := bs (fun q => (List.range t).any (fun i => kt' p n i q)) (4 * n)
def lS (n t : Nat) (p : FF) : Int32 := (light (kF n p) t (kDd n t p) (2 ^ t)).1
def cwC (n t : Nat) (p : FF) : Int32 := sumW (fun i => wgt (p 3 i) (p 4 i)) (lS n t p) t
theorem any_cong {p q : Nat → Bool} {m : Nat} (h : ∀ k, k < m → p k = q k) : (List.range m).any p = (List.range m).any q := by
  rw [Bool.eq_iff_iff, List.any_eq_true, List.any_eq_true]
  constructor
  · rintro ⟨x, hx, a⟩; exact ⟨x, hx, by rw [← h x (List.mem_range.mp hx)]; exact a⟩
  · rintro ⟨x, hx, a⟩; exact ⟨x, hx, by rw [h x (List.mem_range.mp hx)]; exact a⟩
theorem kDd_ag {n t : Nat} {p q : FF} (h : Agree n t p q) : kDd n t p = kDd n t q := bs_cong (fun m hm => any_cong (fun i hi => ag_kt h hi hm))
theorem lS_ag {n t : Nat} {p q : FF} (h : Agree n t p q) : lS n t p = lS n t q := by
  unfold lS
  rw [kDd_ag h, light_cong (F := kF n p) (F' := kF n q) (fun i hi => bs_cong (fun m hm => ag_kt h hi hm)) (fun i hi => ag_wgt h hi)]
theorem cwC_ag {n t : Nat} {p q : FF} (h : Agree n t p q) : cwC n t p = cwC n t q := by
  unfold cwC
  rw [lS_ag h, sumW_cong _ (fun i hi => ag_wgt h hi)]
section O4
variable {n t : Nat} {f : FF} {v : VV} {post : Int32 → Prop} {posf : Int32 → FF → VV → Prop}
theorem Kf.lgt {p : FF} (h : Kf n t p f v) : (light (sb f 33) t (v 21) (2 ^ t)).1 = lS n t p := by
  unfold lS
  rw [h.2.2.2.2, light_cong (F := sb f 33) (F' := kF n p) h.2.1 h.2.2.1]; rfl
theorem Kf.sW {p : FF} (h : Kf n t p f v) (S : Int32) : sumW (sb f 33 2) S t = sumW (fun i => wgt (p 3 i) (p 4 i)) S t := sumW_cong S h.2.2.1
theorem q_light {p : FF} (h : Kf n t p f v) (hp : post (lS n t p)) : Q_X0_lightestTests (sb f 33) (sb v 19) post := by
  refine q_lightestTests h.1 ?_
  rw [show sb v 19 2 = v 21 from rfl, h.lgt]; exact hp
theorem q_wS {p : FF} {S : Int32} (h : Kf n t p f v) (hp : post (sumW (fun i => wgt (p 3 i) (p 4 i)) S t)) : Q_X0_weightOf S (sb f 33) (sb v 19) post := q_weightOf h.1 (by rw [h.sW]; exact hp)
theorem PI.ag {p q : FF} {a b : VV} (h : PI n t q b) (e0 : a 0 = nI n) (e1 : a 1 = nI t) (hA : Agree n t p q) : PI n t p a := ⟨h.1, h.2.1, e0, e1, fun k hk => by rw [(hA.1 k hk).2.1, (hA.1 k hk).2.2]; exact h.2.2.2.2 k hk⟩
theorem q_trial {pos : FF → VV → Prop} (hP : PI n t (sb f 5) (sb v 11)) (h : ∀ f' v', (∀ j, j < 14 ∨ 23 ≤ j → f' j = f j) → (∀ i, i ≠ 13 → i ≠ 14 → v' i = v i) → PI n t (sb f' 14) (sb v' 13) → Agree n t (sb f' 14) (sb f 5) → pos f' v') :
    Q_X1_becomeLike (jn f 14 9 5) (jn v 13 2 11) (fun f_3 v_4 => (∀ f_5 : FF, f_5 = mg (mg f 14 9 f_3) 5 9 (sb f_3 9) → (∀ v_6 : VV, v_6 = mg (mg v 13 2 v_4) 11 2 (sb v_4 2) → pos f_5 v_6))) := by
  refine q_becomeLike hP.1 hP.2.1 hP.2.2.1 hP.2.2.2.1 (fun f3 v4 hL hr e0 e1 hv f5 ef v6 ev => ?_)
  have r5 : ∀ i, i < 9 → f5 (5 + i) = f (5 + i) := fun i hi => by
    rw [ef, mg_at hi]
    show f3 (9 + i) = _
    rw [hr (9 + i) (by omega), jn_ge (by omega)]
    congr 1; omega
  have r14 : ∀ i, i < 9 → f5 (14 + i) = f3 i := fun i hi => by rw [ef, mg_out (by omega), mg_at hi]
  have hA : Agree n t (sb f5 14) (sb f 5) := by
    have e := fun i hi => (r14 i hi)
    refine ⟨fun k hk => ⟨?_, ?_, ?_⟩, fun j hj => ⟨?_, ?_, ?_, ?_⟩⟩
    · rw [sb_add, r14 0 (by decide)]; exact (hL.1 k hk).1
    · rw [sb_add, r14 1 (by decide)]; exact (hL.1 k hk).2.1
    · rw [sb_add, r14 2 (by decide)]; exact (hL.1 k hk).2.2
    · rw [sb_add, r14 3 (by decide)]; exact (hL.2 j hj).1
    · rw [sb_add, r14 4 (by decide)]; exact (hL.2 j hj).2.1
    · rw [sb_add, r14 5 (by decide)]; exact (hL.2 j hj).2.2.1
    · rw [sb_add, r14 6 (by decide)]; exact (hL.2 j hj).2.2.2
  have w13 : v6 13 = nI n := by rw [ev, mg_out (by omega)]; exact (mg_at (b := 13) (i := 0) (by decide)).trans e0
  have w14 : v6 14 = nI t := by rw [ev, mg_out (by omega)]; exact (mg_at (b := 13) (i := 1) (by decide)).trans e1
  refine h f5 v6 (fun j hj => ?_) (fun i h1 h2 => ?_) (hP.ag w13 w14 hA) hA
  · by_cases hj5 : 5 ≤ j ∧ j < 14
    · have := r5 (j - 5) (by omega)
      rw [show 5 + (j - 5) = j by omega] at this; exact this
    · rw [ef, mg_out (by omega), mg_out (by omega)]
  · rw [ev]
    by_cases hi : 11 ≤ i ∧ i < 11 + 2
    · rw [mg_in hi.1 hi.2]
      show v4 (2 + (i - 11)) = v i
      rw [hv _ (by omega), jn_ge (by omega)]
      congr 1; omega
    · rw [mg_out hi, mg_out (by omega)]
def soC (r : Nat → Int32) (p : FF) (n t c : Nat) : Bool := decide (c = 0) || allEq r (cwC n t p) c
theorem allEq_iff {r : Nat → Int32} {w : Int32} : ∀ {c : Nat}, allEq r w c = true ↔ ∀ i, i < c → r i = w
  | 0 => ⟨fun _ _ h => absurd h (by omega), fun _ => rfl⟩
  | c + 1 => by
    rw [allEq, Bool.and_eq_true, decide_eq_true_iff, allEq_iff]
    constructor
    · rintro ⟨a, b⟩ i hi
      rcases Nat.lt_succ_iff_lt_or_eq.mp hi with hi | rfl
      · exact a i hi
      · exact b
    · intro a; exact ⟨fun i hi => a i (by omega), a c (by omega)⟩
theorem q_ft_loop {w : Int32} {c : Nat} {K0 K1 : Int32 → FF → VV → Prop} (hc : c ≤ 8) (e : v 0 = nI c) (h1 : allEq (f 0) w c = true → ∀ x, K1 x f v) (h0 : allEq (f 0) w c = false → ∀ x, K0 x f v) :
    ∀ (d k : Nat), k + d = c → (∀ i, i < k → f 0 i = w) → Q_X4_fitsReadings_L37 w K0 K1 (d + 1) (nI k) f v := by
  intro d
  induction d with
  | zero =>
    intro k hk ha
    rw [Q_X4_fitsReadings_L37, e, show k = c by omega]
    rw [show k = c by omega] at ha
    exact ⟨fun _ => h1 (allEq_iff.mpr ha) _, fun z => absurd (Int32.le_refl _) z⟩
  | succ d ih =>
    intro k hk ha
    rw [Q_X4_fitsReadings_L37, e, nI_clamp (by omega)]
    refine ⟨fun z => absurd ((le_nI (by omega) (by omega)).mp z) (by omega), fun _ => ⟨vi_nI (by omega) (by omega), fun c1 x ex => ?_, fun c1 => h0 ?_ _⟩⟩
    · rw [ex, nI_1]
      refine ih (k + 1) (by omega) (fun i hi => ?_)
      rcases Nat.lt_succ_iff_lt_or_eq.mp hi with hi | rfl
      · exact ha i hi
      · exact c1
    · cases hb : allEq (f 0) w c with
      | false => rfl
      | true => exact absurd (allEq_iff.mp hb k (by omega)) c1
theorem q_fits {c : Nat} (hP : PI n t (sb f 14) (sb v 13)) (hc : c ≤ 8) (e : v 0 = nI c) (h : ∀ f' v', FB 14 f v f' v' → posf (b2 (soC (f 0) (sb f 14) n t c)) f' v') : Q_X4_fitsReadings f v posf := by
  unfold Q_X4_fitsReadings
  unfold soC at h
  refine ⟨fun c0 => q_findAt (b := 14) (c := 13) (by decide) (by decide) hP (fun f' v' hF hK => q_light hK (q_wS hK ⟨c + 1, ?_⟩)), fun c0 => ?_⟩
  · have hc0 : c ≠ 0 := fun z => c0 (by rw [e, z]; rfl)
    have e' : v' 0 = nI c := (hF.2 0 (by decide)).trans e
    have r0 : f' 0 = f 0 := hF.1 0 (by decide) (by decide) (by decide)
    have := h f' v' hF
    rw [decide_eq_false hc0, Bool.false_or] at this
    refine q_ft_loop hc e' (fun ha _ => ?_) (fun ha _ => ?_) c 0 (by omega) (fun _ h => absurd h (by omega))
    · rw [r0] at ha; unfold cwC at this; rw [ha] at this; exact this
    · rw [r0] at ha; unfold cwC at this; rw [ha] at this; exact this
  · rw [e] at c0
    have hc0 : c = 0 := (nI_eq (a := c) (b := 0) (by omega) (by omega)).mp c0
    have := h f v ⟨fun _ _ _ _ => rfl, fun _ _ => rfl⟩
    rw [decide_eq_true hc0, Bool.true_or] at this
    exact this
/-- the class's worlds while something is tried -/
def TR (f0 : FF) (v0' : VV) (f : FF) (v : VV) : Prop := (∀ j, j < 12 → f j = f0 j) ∧ ∀ i, i < 13 → v i = v0' i
theorem soC_ag {r : Nat → Int32} {p q : FF} {c : Nat} (h : Agree n t p q) : soC r p n t c = soC r q n t c := by unfold soC; rw [cwC_ag h]
end O4
theorem ag_kinds {n t j : Nat} {p q q' : FF} {x : Int32} (h : Agree n t p (fu q 3 (upd (q 3) j x))) (y : Int32) (hr : ∀ i, i < 7 → i ≠ 3 → q' i = p i) (e : q' 3 = upd (p 3) j y) : Agree n t q' (fu q 3 (upd (q 3) j y)) := by
  have z : ∀ i : Nat, i ≠ 3 → ∀ y : Int32, fu q 3 (upd (q 3) j y) i = q i := fun i hi y => fu_ne hi
  have w : ∀ y : Int32, fu q 3 (upd (q 3) j y) 3 = upd (q 3) j y := fun y => fu_eq _ _ _
  have u2 : ∀ {m k : Nat}, (∀ k, k < m → p 3 k = upd (q 3) j x k) → k < m → upd (p 3) j y k = upd (q 3) j y k := fun h1 hk => by
    have := upd_ag (i := j) (x := y) h1 _ hk
    rw [upd_upd] at this; exact this
  unfold Agree Like at h ⊢
  simp only [w, z 0, z 1, z 2, z 3, z 4, z 5, z 6, ne_eq, Nat.reduceEqDiff, not_false_eq_true, hr 0, hr 1, hr 2, hr 3, hr 4, hr 5, hr 6, e, Nat.reduceLT] at h ⊢
  exact ⟨h.1, fun k hk => ⟨u2 (fun k hk => (h.2 k hk).1) hk, (h.2 k hk).2⟩⟩
theorem q_kinds_loop {n t j c : Nat} {K : Int32 → Int32 → FF → VV → Prop} {f0 : FF} {v0' : VV} (hj : j < 7) (hP : PI n t (sb f0 5) (sb v0' 11)) (hc : c ≤ 8) (e : v0' 0 = nI c)
    (hK : ∀ x f v, TR f0 v0' f v → K (bs (fun k => soC (f0 0) (fu (sb f0 5) 3 (upd (f0 8) j (nI k))) n t c) 3) x f v) :
    ∀ (d k : Nat) (f : FF) (v : VV), k + d = 3 → TR f0 v0' f v → v 13 = nI n → v 14 = nI t → (∃ x, Agree n t (sb f 14) (fu (sb f0 5) 3 (upd (f0 8) j x))) → Q_X4_kinds_L28 (nI j) K (d + 1) (bs (fun k => soC (f0 0) (fu (sb f0 5) 3 (upd (f0 8) j (nI k))) n t c) k) (nI k) f v := by
  intro d
  induction d with
  | zero =>
    intro k f v hk hT _ _ _
    rw [Q_X4_kinds_L28, show k = 3 by omega]
    exact ⟨fun _ => hK _ f v hT, fun c => absurd (Int32.le_refl _) c⟩
  | succ d ih =>
    intro k f v hk hT e13 e14 hA
    rw [Q_X4_kinds_L28]
    refine ⟨fun c => absurd ((le_nI (a := 3) (by omega) (by omega)).mp c) (by omega), fun _ => ⟨vi_nI (by omega) (by omega), fun f1 ef1 => ?_⟩⟩
    rw [wrN (by omega)] at ef1
    obtain ⟨x, hx⟩ := hA
    have hA1 : Agree n t (sb f1 14) (fu (sb f0 5) 3 (upd (f0 8) j (nI k))) := ag_kinds hx (nI k) (fun i hi hi2 => by rw [sb_add, ef1, fu_ne (by omega)]; rfl) (by rw [sb_add, ef1, fu_eq]; rfl)
    have hPq : PI n t (fu (sb f0 5) 3 (upd (f0 8) j (nI k))) (sb v0' 11) := hP.rows2 (fu_ne (by decide)) (fu_ne (by decide)) rfl rfl
    have hP1 : PI n t (sb f1 14) (sb v 13) := hPq.ag e13 e14 hA1
    have hT1 : TR f0 v0' f1 v := ⟨fun i hi => by rw [ef1, fu_ne (by omega)]; exact hT.1 i hi, hT.2⟩
    refine q_fits hP1 hc ((hT.2 0 (by decide)).trans e) (fun f2 v2 hF => ?_)
    rw [soC_ag hA1, hT1.1 0 (by decide)]
    have hA2 : ∃ x, Agree n t (sb f2 14) (fu (sb f0 5) 3 (upd (f0 8) j x)) := ⟨nI k, hA1.of (fun r hr => hF.1 (14 + r) (by omega) (by omega) (by omega)) (fun _ _ => rfl)⟩
    have := ih (k + 1) f2 v2 (by omega) ⟨fun i hi => (hF.1 i (by omega) (by omega) (by omega)).trans (hT1.1 i hi), fun i hi => (hF.2 i (by omega)).trans (hT1.2 i hi)⟩ ((hF.2 13 (by decide)).trans e13) ((hF.2 14 (by decide)).trans e14) hA2
    rw [bs] at this
    cases hb : soC (f0 0) (fu (sb f0 5) 3 (upd (f0 8) j (nI k))) n t c with
    | false => exact ⟨fun _ x1 e1 => by rw [e1, nI_1]; rw [hb, if_neg (by decide), or0] at this; exact this, fun c => absurd rfl c⟩
    | true => exact ⟨fun c => absurd c (by decide), fun _ x1 e1 x2 e2 => by rw [e1, e2, nI_1]; rw [hb, if_pos rfl] at this; exact this⟩
theorem op_kinds (p0 : Int32) (f : FF) (v : VV) (g : FF) (u : VV) (h : Rel0 f v g u) : Q_X4_kinds p0 f v (fun r f1 v1 => Q_X5_kinds p0 g u (fun r' g1 u1 => True ∧ Rel0 f1 v1 g1 u1)) := by
  obtain ⟨n, t, P1, P2, P3, P4, P5⟩ := h.2.1
  obtain ⟨c, r1, r2, r3, r4⟩ := h.2.2.1
  have hn := P1.1
  have ht := P1.2.1
  refine q_hasTest P1 (fun k hk ek => yes1' ?_) (fun hk => no0' (q5_kinds P2 r1 r3 (fun j hj ej => absurd ej (hk j hj)) (fun _ => ⟨trivial, h⟩)))
  subst ek
  refine q_trial P1 (fun f' v' hf hv hP hA => ⟨3 + 1, ?_⟩)
  refine q_kinds_loop (by omega) P1 r1 r2 (fun x f2 v2 hT => ?_) 3 0 f' v' (by omega) ⟨fun j hj => hf j (by omega), fun i hi => hv i (by omega) (by omega)⟩ hP.2.2.1 hP.2.2.2.1 ⟨f 8 k, hA.of (fun _ _ => rfl) (fun r hr => by
    by_cases e : r = 3
    · rw [e, fu_eq, upd_id]; rfl
    · rw [fu_ne e])⟩
  exact q5_kinds P2 r1 r3 (fun j hj ej g' hs => ⟨trivial, h.fr hT hs.fe⟩) (fun hne => absurd rfl (hne k hk))
theorem ag_ways {n t j : Nat} {p q q' : FF} {x : Int32} (h : Agree n t p (fu q 0 (upd (q 0) j x))) (y : Int32) (hr : ∀ i, i < 7 → i ≠ 0 → q' i = p i) (e : q' 0 = upd (p 0) j y) : Agree n t q' (fu q 0 (upd (q 0) j y)) := by
  have z : ∀ i : Nat, i ≠ 0 → ∀ y : Int32, fu q 0 (upd (q 0) j y) i = q i := fun i hi y => fu_ne hi
  have w : ∀ y : Int32, fu q 0 (upd (q 0) j y) 0 = upd (q 0) j y := fun y => fu_eq _ _ _
  have u2 : ∀ {m k : Nat}, (∀ k, k < m → p 0 k = upd (q 0) j x k) → k < m → upd (p 0) j y k = upd (q 0) j y k := fun h1 hk => by
    have := upd_ag (i := j) (x := y) h1 _ hk
    rw [upd_upd] at this; exact this
  unfold Agree Like at h ⊢
  simp only [w, z 0, z 1, z 2, z 3, z 4, z 5, z 6, ne_eq, Nat.reduceEqDiff, not_false_eq_true, hr 0, hr 1, hr 2, hr 3, hr 4, hr 5, hr 6, e, Nat.reduceLT] at h ⊢
  exact ⟨fun k hk => ⟨u2 (fun k hk => (h.1 k hk).1) hk, (h.1 k hk).2⟩, h.2⟩
theorem q_ways_loop {n t j c : Nat} {K : Int32 → Int32 → FF → VV → Prop} {f0 : FF} {v0' : VV} (hj : j < 5) (hP : PI n t (sb f0 5) (sb v0' 11)) (hc : c ≤ 8) (e : v0' 0 = nI c)
    (hK : ∀ x f v, TR f0 v0' f v → K (bs (fun k => soC (f0 0) (fu (sb f0 5) 0 (upd (f0 5) j (nI k))) n t c) 5) x f v) :
    ∀ (d k : Nat) (f : FF) (v : VV), k + d = 5 → TR f0 v0' f v → v 13 = nI n → v 14 = nI t → (∃ x, Agree n t (sb f 14) (fu (sb f0 5) 0 (upd (f0 5) j x))) → Q_X4_ways_L28 (nI j) K (d + 1) (bs (fun k => soC (f0 0) (fu (sb f0 5) 0 (upd (f0 5) j (nI k))) n t c) k) (nI k) f v := by
  intro d
  induction d with
  | zero =>
    intro k f v hk hT _ _ _
    rw [Q_X4_ways_L28, show k = 5 by omega]
    exact ⟨fun _ => hK _ f v hT, fun c => absurd (Int32.le_refl _) c⟩
  | succ d ih =>
    intro k f v hk hT e13 e14 hA
    rw [Q_X4_ways_L28]
    refine ⟨fun c => absurd ((le_nI (a := 5) (by omega) (by omega)).mp c) (by omega), fun _ => ⟨vi_nI (by omega) (by omega), fun f1 ef1 => ?_⟩⟩
    rw [wrN (by omega)] at ef1
    obtain ⟨x, hx⟩ := hA
    have hA1 : Agree n t (sb f1 14) (fu (sb f0 5) 0 (upd (f0 5) j (nI k))) := ag_ways hx (nI k) (fun i hi hi2 => by rw [sb_add, ef1, fu_ne (by omega)]; rfl) (by rw [sb_add, ef1, fu_eq]; rfl)
    have hPq : PI n t (fu (sb f0 5) 0 (upd (f0 5) j (nI k))) (sb v0' 11) := hP.rows2 (fu_ne (by decide)) (fu_ne (by decide)) rfl rfl
    have hP1 : PI n t (sb f1 14) (sb v 13) := hPq.ag e13 e14 hA1
    have hT1 : TR f0 v0' f1 v := ⟨fun i hi => by rw [ef1, fu_ne (by omega)]; exact hT.1 i hi, hT.2⟩
    refine q_fits hP1 hc ((hT.2 0 (by decide)).trans e) (fun f2 v2 hF => ?_)
    rw [soC_ag hA1, hT1.1 0 (by decide)]
    have hA2 : ∃ x, Agree n t (sb f2 14) (fu (sb f0 5) 0 (upd (f0 5) j x)) := ⟨nI k, hA1.of (fun r hr => hF.1 (14 + r) (by omega) (by omega) (by omega)) (fun _ _ => rfl)⟩
    have := ih (k + 1) f2 v2 (by omega) ⟨fun i hi => (hF.1 i (by omega) (by omega) (by omega)).trans (hT1.1 i hi), fun i hi => (hF.2 i (by omega)).trans (hT1.2 i hi)⟩ ((hF.2 13 (by decide)).trans e13) ((hF.2 14 (by decide)).trans e14) hA2
    rw [bs] at this
    cases hb : soC (f0 0) (fu (sb f0 5) 0 (upd (f0 5) j (nI k))) n t c with
    | false => exact ⟨fun _ x1 e1 => by rw [e1, nI_1]; rw [hb, if_neg (by decide), or0] at this; exact this, fun c => absurd rfl c⟩
    | true => exact ⟨fun c => absurd c (by decide), fun _ x1 e1 x2 e2 => by rw [e1, e2, nI_1]; rw [hb, if_pos rfl] at this; exact this⟩
theorem op_ways (p0 : Int32) (f : FF) (v : VV) (g : FF) (u : VV) (h : Rel0 f v g u) : Q_X4_ways p0 f v (fun r f1 v1 => Q_X5_ways p0 g u (fun r' g1 u1 => True ∧ Rel0 f1 v1 g1 u1)) := by
  obtain ⟨n, t, P1, P2, P3, P4, P5⟩ := h.2.1
  obtain ⟨c, r1, r2, r3, r4⟩ := h.2.2.1
  have hn := P1.1
  have ht := P1.2.1
  refine q_hasStep P1 (fun k hk ek => yes1' ?_) (fun hk => no0' (q5_ways P2 r1 r3 (fun j hj ej => absurd ej (hk j hj)) (fun _ => ⟨trivial, h⟩)))
  subst ek
  refine q_trial P1 (fun f' v' hf hv hP hA => ⟨5 + 1, ?_⟩)
  refine q_ways_loop (by omega) P1 r1 r2 (fun x f2 v2 hT => ?_) 5 0 f' v' (by omega) ⟨fun j hj => hf j (by omega), fun i hi => hv i (by omega) (by omega)⟩ hP.2.2.1 hP.2.2.2.1 ⟨f 5 k, hA.of (fun _ _ => rfl) (fun r hr => by
    by_cases e : r = 0
    · rw [e, fu_eq, upd_id]; rfl
    · rw [fu_ne e])⟩
  exact q5_ways P2 r1 r3 (fun j hj ej g' hs => ⟨trivial, h.fr hT hs.fe⟩) (fun hne => absurd rfl (hne k hk))
theorem b63 : ∀ i, i < 32 → bt 63 i = decide (i < 6) := by decide +kernel
theorem six : ∀ b0 b1 b2 b3 b4 b5 : Bool, ∃ k : Nat, k < 64 ∧ ((((((0 : Int32) ||| (if b0 = true then (1 : Int32) <<< (nI 0 &&& 31) else 0)) ||| (if b1 = true then (1 : Int32) <<< (nI 1 &&& 31) else 0)) ||| (if b2 = true then (1 : Int32) <<< (nI 2 &&& 31) else 0)) ||| (if b3 = true then (1 : Int32) <<< (nI 3 &&& 31) else 0)) ||| (if b4 = true then (1 : Int32) <<< (nI 4 &&& 31) else 0)) ||| (if b5 = true then (1 : Int32) <<< (nI 5 &&& 31) else 0) = nI k := by decide +kernel
theorem and63 (y : Int32) : ∃ k, k < 64 ∧ y &&& 63 = nI k := by
  have e : y &&& 63 = bs (fun i => bt y i) 6 := by
    apply b_ext
    intro i hi
    rw [b_and, b63 i hi, bt_bs _ 6 (by omega) i hi, Bool.and_comm]
  rw [e]
  exact six (bt y 0) (bt y 1) (bt y 2) (bt y 3) (bt y 4) (bt y 5)
theorem pcnt_rng (x : Int32) : ∃ k, k < 64 ∧ pcnt x = nI k := and63 _
section O5
variable {n t : Nat} {g : FF} {u : VV} {posf : Int32 → FF → VV → Prop}
/-- the reference's HARDEST of the first k -/
def hd5 (B : Nat → Int32) : Nat → Option Nat
  | 0 => none
  | k + 1 => if B k = 0 then hd5 B k else match hd5 B k with
    | none => some k
    | some a => if sz (B a) ≤ sz (B k) then some a else some k
theorem hd5_lt {B : Nat → Int32} : ∀ {k a : Nat}, hd5 B k = some a → a < k
  | 0, a, h => by simp [hd5] at h
  | k + 1, a, h => by
    rw [hd5] at h
    split at h
    · have := hd5_lt h; omega
    · split at h
      · cases h; omega
      · rename_i a' e
        have := hd5_lt e
        split at h
        · cases h; omega
        · cases h; omega
theorem oI_9' {a : Nat} (ha : a < 20) : ¬ oI (some a) = -9 := by
  have := (show ∀ a, a < 20 → ¬ nI a = -9 by decide +kernel) a ha
  exact this
theorem q5_hd_loop {K : Int32 → Int32 → FF → VV → Prop} (hP : PI n t (sb g 3) (sb u 2)) (hK : ∀ x, K (oI (hd5 (g 13) (4 * n))) x g u) :
    ∀ (d k : Nat), k + d = 4 * n → Q_X5_hardest_L19 K (d + 1) (oI (hd5 (g 13) k)) (nI k) g u := by
  have hn := hP.1
  intro d
  induction d with
  | zero =>
    intro k hk
    rw [Q_X5_hardest_L19]
    refine q5_mutants hP ?_
    rw [show k = 4 * n by omega]
    exact ⟨fun _ => hK _, fun c => absurd (Int32.le_refl _) c⟩
  | succ d ih =>
    intro k hk
    rw [Q_X5_hardest_L19]
    have := ih (k + 1) (by omega)
    rw [hd5] at this
    have vk : vp_in (nI k) 20 := vi_nI (by omega) (by omega)
    refine q5_mutants hP ⟨fun c => absurd ((le_nI (by omega) (by omega)).mp c) (by omega), fun _ => ⟨vk, ?_⟩⟩
    rw [nI_clamp (by omega)]
    refine ⟨fun c x e => ?_, fun c => ?_⟩
    · rw [e, nI_1]; rw [if_pos c] at this; exact this
    · rw [if_neg c] at this
      match hm : hd5 (g 13) k with
      | none =>
        rw [hm] at this
        exact ⟨fun _ x e => by rw [e, nI_1]; exact this, fun c => absurd rfl c⟩
      | some a =>
        rw [hm] at this
        have ha := hd5_lt hm
        refine ⟨fun c => absurd c (oI_9' (by omega)), fun _ => ⟨vk, q5_size ⟨vi_nI (by omega) (by omega), ?_⟩⟩⟩
        show Q_X5_size (g 13 (nI a).toNatClampNeg) _
        rw [nI_clamp (by omega)]
        refine q5_size ⟨fun c3 x e => ?_, fun c3 x e => ?_⟩
        · rw [e, nI_1]; simp only [c3, if_true] at this; exact this
        · rw [e, nI_1]; simp only [c3, if_false] at this; exact this
theorem hd5_cong {B B' : Nat → Int32} : ∀ {k : Nat}, (∀ q, q < k → B q = B' q) → hd5 B k = hd5 B' k
  | 0, _ => rfl
  | k + 1, h => by
    rw [hd5, hd5, hd5_cong (fun q hq => h q (by omega)), h k (by omega)]
    split
    · rfl
    · split
      · rfl
      · rename_i a e
        rw [h a (by have := hd5_lt e; omega)]
theorem n0 {n : Nat} {x : Int32} (hn : n ≤ 5) (e : x = nI n) : x = 0 ↔ n = 0 := by rw [e]; exact nI_eq (a := n) (b := 0) (by omega) (by omega)
theorem q5_hardest (hP : PI n t (sb g 3) (sb u 2)) (hn : n ≠ 0) (h : ∀ g', FE g u g' u → posf (oI (hd5 (kls g n t) (4 * n))) g' u) : Q_X5_hardest g u posf := by
  refine ⟨fun _ => q5_findKillers hP (fun g' hs hB => ⟨4 * n + 1, ?_⟩), fun c => absurd ((n0 hP.1 hP.2.2.1).mp c) hn⟩
  have hP' : PI n t (sb g' 3) (sb u 2) := hP.rows (fun j hj => hs.pv j (by omega)) rfl rfl
  refine q5_hd_loop hP' (fun _ => ?_) (4 * n) 0 (by omega)
  rw [hd5_cong hB]; exact h g' hs.fe
theorem kls_bit {q i : Nat} (ht : t ≤ 7) (h : bt (kls g n t q) i = true) : i < t := by
  rcases Nat.lt_or_ge i 32 with hi | hi
  · unfold kls at h
    rw [bt_bs _ t (by omega) i hi, Bool.and_eq_true, decide_eq_true_iff] at h
    exact h.1
  · rw [b_big hi] at h; exact absurd h (by decide)
end O5
theorem op_hardest (f : FF) (v : VV) (g : FF) (u : VV) (h : Rel0 f v g u) : Q_X4_hardest f v (fun r f1 v1 => Q_X5_hardest g u (fun r' g1 u1 => True ∧ Rel0 f1 v1 g1 u1)) := by
  obtain ⟨n, t, P1, P2, P3, P4, P5⟩ := h.2.1
  refine q_isEmpty P1 (fun e => yes1 ⟨fun c => absurd ((n0 P2.1 P2.2.2.1).mpr e) c, fun _ => ⟨trivial, h⟩⟩) (fun e => no0 (q_killsNow P1 (fun f' v' hc hK => q_hardestMutant hK.1 ?_)))
  exact q5_hardest P2 e (fun g' he => ⟨trivial, h.fr hc he⟩)
theorem op_log (p0 : Int32) (f : FF) (v : VV) (g : FF) (u : VV) (h : Rel0 f v g u) : Q_X4_log p0 f v (fun r f1 v1 => Q_X5_log p0 g u (fun r' g1 u1 => True ∧ Rel0 f1 v1 g1 u1)) := by
  obtain ⟨n, t, P1, P2, P3, P4, P5⟩ := h.2.1
  have ht := P1.2.1
  refine q_hasTest P1 (fun k hk ek => yes1' ?_) (fun hk => no0' (q5_isTest0 P2 hk (no0' ⟨trivial, h⟩)))
  subst ek
  have vk : vp_in (nI k) 7 := vi_nI (by omega) (by omega)
  have e8 : f 8 k = g 6 k := (P4.2 k hk).1
  refine ⟨vk, ?_⟩
  have st : ∀ (v2 : VV) (u2 : VV) (x : Int32), v2 = fu v 1 (31 * v 1 + x) → u2 = fu u 1 (31 * u 1 + x) → Rel0 f v2 g u2 := by
    intro v2 u2 x e1 e2
    rw [e1, e2, show v 1 = u 1 from h.2.2.2.1]
    exact h.trace _
  rw [nI_clamp (by omega), e8]
  refine ⟨fun c v2 ev2 => ?_, fun c v2 ev2 => ?_⟩
  · have P1' : PI n t (sb f 5) (sb v2 11) := P1.rows (fun _ _ => rfl) (by rw [sb_add, ev2, fu_ne (by decide)]; rfl) (by rw [sb_add, ev2, fu_ne (by decide)]; rfl)
    refine q_killedByTest P1' hk (fun f' hf' f7 ef v8 ev => q_bitCount ?_)
    refine q5_isTest1 P2 hk (yes1' ⟨vk, ?_⟩)
    rw [nI_clamp (by omega)]
    refine ⟨fun _ u2 eu2 => ⟨vk, fun _ => ?_, fun z => absurd z c⟩, fun z => absurd z c⟩
    have P2' : PI n t (sb g 3) (sb u2 2) := P2.rows (fun _ _ => rfl) (by rw [sb_add, eu2, fu_ne (by decide)]; rfl) (by rw [sb_add, eu2, fu_ne (by decide)]; rfl)
    refine q5_findKillers P2' (fun g' hs hB => ?_)
    have P2'' : PI n t (sb g' 3) (sb u2 2) := P2'.rows (fun j hj => hs.pv j (by omega)) rfl rfl
    exact q5_killedBy P2'' (by omega) (q5_size ⟨trivial, (st v2 u2 4 ev2 eu2).fr ((back_fb hf' ef ev).1.fc (by decide)) hs.fe⟩)
  · refine q5_isTest1 P2 hk (yes1' ⟨vk, ?_⟩)
    rw [nI_clamp (by omega)]
    exact ⟨fun z => absurd c z, fun _ u2 eu2 => ⟨vk, fun z => absurd c z, fun _ => ⟨trivial, st v2 u2 5 ev2 eu2⟩⟩⟩
theorem op_many (p0 : Int32) (f : FF) (v : VV) (g : FF) (u : VV) (h : Rel0 f v g u) : Q_X4_many p0 f v (fun r f1 v1 => Q_X5_many p0 g u (fun r' g1 u1 => True ∧ Rel0 f1 v1 g1 u1)) := by
  obtain ⟨n, t, P1, P2, P3, P4, P5⟩ := h.2.1
  have fin : ∀ (f1 : FF) (v1 : VV), FC f v f1 v1 → Q_X5_many p0 g u (fun r' g1 u1 => True ∧ Rel0 f1 v1 g1 u1) := by
    intro f1 v1 hc
    have z : True ∧ Rel0 f1 v1 g u := ⟨trivial, h.fr hc FE.rf⟩
    refine ⟨fun _ => z, fun _ => ⟨fun _ => z, fun _ => ⟨fun _ => q5_mutants P2 z, fun _ => ⟨fun _ => q5_findKillers P2 (fun g' hs hB => q5_killed (P2.rows (fun j hj => hs.pv j (by omega)) rfl rfl) ⟨trivial, h.fr hc hs.fe⟩), fun _ => ⟨fun _ => q5_manyEqual P2 (fun g' hs => ⟨trivial, h.fr hc hs.fe⟩), fun _ => ⟨fun _ => z, fun _ => z⟩⟩⟩⟩⟩⟩
  refine ⟨fun _ => fin _ _ FC.rf, fun _ => ⟨fun _ => fin _ _ FC.rf, fun _ => ⟨fun _ => q_mutants P1 (fin _ _ FC.rf), fun _ => ⟨fun _ => q_killsNow P1 (fun f' v' hc hK => q_bitCount (fin _ _ hc)), fun _ => ⟨fun _ => q_mutants P1 (q_unequalMutants P1 (fun f' hf' => q_bitCount (fun f14 ef v15 ev => fin _ _ ((back_fb hf' ef ev).1.fc (by decide))))), fun _ => ⟨fun _ => fin _ _ FC.rf, fun _ => fin _ _ FC.rf⟩⟩⟩⟩⟩⟩
theorem op_cover (p0 : Int32) (f : FF) (v : VV) (g : FF) (u : VV) (h : Rel0 f v g u) : Q_X4_cover p0 f v (fun r f1 v1 => Q_X5_cover p0 g u (fun r' g1 u1 => True ∧ Rel0 f1 v1 g1 u1)) := by
  obtain ⟨n, t, P1, P2, P3, P4, P5⟩ := h.2.1
  refine q_isWithin (fun a b => yes1' ?_) (fun a => no0' (q5_within0 a (no0' ⟨trivial, h⟩)))
  refine q_isEmpty P1 (fun e => yes1 (q5_within1 a b (yes1' ⟨fun c => absurd ((n0 P2.1 P2.2.2.1).mpr e) c, fun _ => ⟨trivial, h⟩⟩))) (fun e => no0 (q_killsNow P1 (fun f' v' hc hK => q_light hK ?_)))
  have fin : Q_X5_cover p0 g u (fun r' g1 u1 => True ∧ Rel0 f' v' g1 u1) := by
    refine q5_within1 a b (yes1' ⟨fun _ => q5_findKillers P2 (fun g' hs hB => ?_), fun c => absurd ((n0 P2.1 P2.2.2.1).mp c) e⟩)
    have P2' : PI n t (sb g' 3) (sb u 2) := P2.rows (fun j hj => hs.pv j (by omega)) rfl rfl
    have z : True ∧ Rel0 f' v' g' u := ⟨trivial, h.fr hc hs.fe⟩
    exact q5_findCover P2' ⟨fun _ => ⟨fun _ => q5_size z, fun _ => q5_weightOfSet P2' z⟩, fun _ => z⟩
  exact ⟨fun _ => fin, fun _ => ⟨fun _ => q_wS hK fin, fun _ => q_bitCount fin⟩⟩
theorem op_score (p0 : Int32) (f : FF) (v : VV) (g : FF) (u : VV) (h : Rel0 f v g u) : Q_X4_score p0 f v (fun r f1 v1 => Q_X5_score p0 g u (fun r' g1 u1 => True ∧ Rel0 f1 v1 g1 u1)) := by
  obtain ⟨n, t, P1, P2, P3, P4, P5⟩ := h.2.1
  have hn := P1.1
  refine q_isWithin (fun a b => yes1 ?_) (fun a => no0 (q5_within0 a (no0 ⟨trivial, h⟩)))
  refine q_isEmpty P1 (fun e => yes1 (q5_within1 a b (yes1 ⟨fun c => absurd ((n0 P2.1 P2.2.2.1).mpr e) c, fun _ => ⟨trivial, h⟩⟩))) (fun e => no0 (q_killsNow P1 (fun f' v' hc hK => q_bitCount ?_)))
  have P1' : PI n t (sb f' 5) (sb v' 11) := P1.rows (fun j hj => hc.1 (5 + j) (by omega)) (hc.2 11 (by decide)) (hc.2 12 (by decide))
  refine q_unequalMutants P1' (fun f2 hf2 f12 ef v13 ev => q_bitCount ?_)
  have hc2 : FC f v f12 v13 := hc.tr ((back_fb hf2 ef ev).1.fc (by decide))
  obtain ⟨ka, hka, ea⟩ := pcnt_rng (v' 21)
  obtain ⟨kb, hkb, eb⟩ := pcnt_rng (bs (anyK (sb f' 5) n 100) (4 * n))
  rw [ea, eb]
  refine q_share (by omega) (by omega) ?_
  refine q5_within1 a b (yes1 ⟨fun _ => q5_findKillers P2 (fun g' hs hB => ?_), fun c => absurd ((n0 P2.1 P2.2.2.1).mp c) e⟩)
  have P2' : PI n t (sb g' 3) (sb u 2) := P2.rows (fun j hj => hs.pv j (by omega)) rfl rfl
  refine q5_mutants P2' (q5_manyEqual P2' (fun g2 hs2 x ex => ?_))
  have hct := fb_ct_le (eqM (sb g' 3) n) (4 * n)
  rw [nI_sub hct] at ex
  have P2'' : PI n t (sb g2 3) (sb u 2) := P2'.rows (fun j hj => hs2.pv j (by omega)) rfl rfl
  have z : True ∧ Rel0 f12 v13 g2 u := ⟨trivial, h.fr hc2 (hs.fe.tr hs2.fe)⟩
  refine ⟨fun c => q5_killed P2'' ?_, fun _ => z⟩
  have hk := fb_ct_le (fun q => decide (¬ g2 13 q = 0)) (4 * n)
  rw [ex, i2l (by omega), i2l (by omega)]
  refine q5_inLeastTerms (by omega) (by omega) ?_ z
  apply Nat.pos_of_ne_zero
  intro z0
  exact c (by rw [ex, z0]; rfl)
theorem op_choose (p0 p1 : Int32) (f : FF) (v : VV) (g : FF) (u : VV) (h : Rel0 f v g u) : Q_X4_choose p0 p1 f v (fun r f1 v1 => Q_X5_choose p0 p1 g u (fun r' g1 u1 => True ∧ Rel0 f1 v1 g1 u1)) := by
  obtain ⟨n, t, P1, P2, P3, P4, P5⟩ := h.2.1
  have hn := P1.1
  have ht := P1.2.1
  have ru : ∀ p : Int32, (10 ≤ p ∧ p ≤ 16) → ∃ k, k < 7 ∧ p - 10 = nI k := by
    rintro p ⟨a, b⟩
    obtain ⟨k, rfl, h1, h2⟩ := rngI (a := 10) (b := 16) (by omega) a b (by omega)
    exact ⟨k - 10, by omega, by rw [show (10 : Int32) = nI 10 from rfl, nI_sub h1]⟩
  have fin : ∀ (f1 : FF) (v1 : VV), FC f v f1 v1 → (0 ≤ p0 ∧ p0 ≤ 2) → n ≠ 0 → ((10 ≤ p1 ∧ p1 ≤ 16) ∨ (0 ≤ p1 ∧ p1 ≤ 1)) → Q_X5_choose p0 p1 g u (fun r' g1 u1 => True ∧ Rel0 f1 v1 g1 u1) := by
    intro f1 v1 hc h0 e hp
    have body : Q_X5_findKillers g u (fun f_7 v_8 => Q_X5_findChoices p0 f_7 v_8 (fun r_9 f_10 v_11 => (p1 < (10 : Int32) → ((¬ p1 = 0 → Q_X5_weightOfSet r_9 f_10 v_11 (fun r_14 => (True ∧ Rel0 f1 v1 f_10 v_11))) ∧ (p1 = 0 → (True ∧ Rel0 f1 v1 f_10 v_11)))) ∧ (¬ p1 < (10 : Int32) → (((v_11 7) ≤ (p1 - (10 : Int32)) → (True ∧ Rel0 f1 v1 f_10 v_11)) ∧ (¬ (v_11 7) ≤ (p1 - (10 : Int32)) → (vp_in (p1 - (10 : Int32)) 7 ∧ (True ∧ Rel0 f1 v1 f_10 v_11))))))) := by
      refine q5_findKillers P2 (fun g' hs hB => ?_)
      have P2' : PI n t (sb g' 3) (sb u 2) := P2.rows (fun j hj => hs.pv j (by omega)) rfl rfl
      refine q5_findChoices P2' rfl (fun q hq i hi => by rw [hB q hq] at hi; exact kls_bit ht hi) (fun c g2 u2 a1 a2 a3 a4 a5 a6 => ?_)
      have P2'' : PI n t (sb g2 3) (sb u2 2) := P2'.rows (fun j hj => a5 (3 + j) (by omega)) (a6 2 (by decide)) (a6 3 (by decide))
      have z : True ∧ Rel0 f1 v1 g2 u2 := ⟨trivial, h.fr hc (hs.fe.tr ⟨fun j hj => a5 j (by omega), fun i hi => a6 i (by omega)⟩)⟩
      refine ⟨fun _ => ⟨fun _ => q5_weightOfSet P2'' z, fun _ => z⟩, fun c1 => ⟨fun _ => z, fun _ => ⟨?_, z⟩⟩⟩
      rcases hp with hp | hp
      · obtain ⟨k, hk, ek⟩ := ru p1 hp
        rw [ek]; exact vi_nI hk (by omega)
      · exact absurd (Int32.lt_of_le_of_lt hp.2 (by decide)) c1
    have nz : ¬ u 2 = 0 := fun c => e ((n0 P2.1 P2.2.2.1).mp c)
    refine q5_within1 h0.1 h0.2 (yes1 (q5_within (fun a b => yes1' ⟨fun _ => body, fun c => absurd c nz⟩) (fun a => no0' ?_)))
    rcases hp with hp | hp
    · exact q5_within1 hp.1 hp.2 (yes1' ⟨fun _ => body, fun c => absurd c nz⟩)
    · exact absurd hp a
  have out2 : (¬ (0 ≤ p0 ∧ p0 ≤ 2)) → Q_X5_choose p0 p1 g u (fun r' g1 u1 => True ∧ Rel0 f v g1 u1) := fun hno => q5_within0 hno (no0 ⟨trivial, h⟩)
  have emp : (0 ≤ p0 ∧ p0 ≤ 2) → n = 0 → ((10 ≤ p1 ∧ p1 ≤ 16) ∨ (0 ≤ p1 ∧ p1 ≤ 1)) → Q_X5_choose p0 p1 g u (fun r' g1 u1 => True ∧ Rel0 f v g1 u1) := by
    intro h0 e hp
    have nz : u 2 = 0 := (n0 P2.1 P2.2.2.1).mpr e
    refine q5_within1 h0.1 h0.2 (yes1 (q5_within (fun a b => yes1' ⟨fun c => absurd nz c, fun _ => ⟨trivial, h⟩⟩) (fun a => no0' ?_)))
    rcases hp with hp | hp
    · exact q5_within1 hp.1 hp.2 (yes1' ⟨fun c => absurd nz c, fun _ => ⟨trivial, h⟩⟩)
    · exact absurd hp a
  have main : ∀ r1 : Int32, (0 ≤ p0 ∧ p0 ≤ 2) → n ≠ 0 → ((r1 = 1 ∧ (10 ≤ p1 ∧ p1 ≤ 16)) ∨ (r1 = 0 ∧ (0 ≤ p1 ∧ p1 ≤ 1))) → Q_X4_killsNow f v (fun f_8 v_9 => Q_X0_chooseTests p0 (sb f_8 33) (sb v_9 19) (fun r_10 f_11 v_12 => ∀ f_13 : FF, f_13 = mg f_8 33 4 f_11 → ∀ v_14 : VV, v_14 = mg v_9 19 3 v_12 → ((r1 = 0 → Q_X0_chosenSet r_10 (sb f_13 33) (sb v_14 19) (fun r_16 => (¬ p1 = 0 → Q_X0_weightOf r_16 (sb f_13 33) (sb v_14 19) (fun r_18 => Q_X5_choose p0 p1 g u (fun r' g1 u1 => True ∧ Rel0 f_13 v_14 g1 u1))) ∧ (p1 = 0 → Q_X5_choose p0 p1 g u (fun r' g1 u1 => True ∧ Rel0 f_13 v_14 g1 u1)))) ∧ (¬ r1 = 0 → ((r_10 ≤ (p1 - (10 : Int32)) → Q_X5_choose p0 p1 g u (fun r' g1 u1 => True ∧ Rel0 f_13 v_14 g1 u1)) ∧ (¬ r_10 ≤ (p1 - (10 : Int32)) → (vp_in (p1 - (10 : Int32)) 7 ∧ Q_X5_choose p0 p1 g u (fun r' g1 u1 => True ∧ Rel0 f_13 v_14 g1 u1)))))))) := by
    intro r1 h0 e hp
    refine q_killsNow P1 (fun f' v' hc hK => q_chooseTests hK.1 (fun c f11 hct _ _ hf3 _ f13 e13 v14 e14 => ?_))
    rw [mg_sb] at e14
    subst e14
    have hc3 : FC f v f13 v14 := hc.tr ⟨fun j hj => by rw [e13, mg_out (by omega)], fun _ _ => rfl⟩
    have hfin := fin f13 v14 hc3 h0 e (hp.elim (fun z => Or.inl z.2) (fun z => Or.inr z.2))
    refine ⟨fun _ => q_chosenSet (by omega) ⟨fun _ => q_weightOf hK.1 hfin, fun _ => hfin⟩, fun c1 => ⟨fun _ => hfin, fun _ => ⟨?_, hfin⟩⟩⟩
    rcases hp with hp | hp
    · obtain ⟨k, hk, ek⟩ := ru p1 hp.2
      rw [ek]; exact vi_nI hk (by omega)
    · exact absurd hp.1 c1
  refine q_isWithin (fun a b => ?_) (fun a => ?_)
  · refine q_isWithin (fun a' b' => yes1 (yes1' ?_)) (fun a' => no0 (out2 a'))
    exact q_isEmpty P1 (fun e => yes1 (emp ⟨a', b'⟩ e (Or.inl ⟨a, b⟩))) (fun e => no0 (main 1 ⟨a', b'⟩ e (Or.inl ⟨rfl, a, b⟩)))
  · refine q_isWithin (fun a' b' => yes1 (no0' ?_)) (fun a' => no0 (out2 a'))
    refine q_isWithin (fun a2 b2 => yes1' ?_) (fun a2 => no0' (q5_within1 a' b' (yes1 (q5_within0 a2 (no0' (q5_within0 a (no0' ⟨trivial, h⟩)))))))
    exact q_isEmpty P1 (fun e => yes1 (emp ⟨a', b'⟩ e (Or.inr ⟨a2, b2⟩))) (fun e => no0 (main 0 ⟨a', b'⟩ e (Or.inr ⟨rfl, a2, b2⟩)))
/-! ===== TEXTS are read in one way ===== -/
section UQ
variable {c : Nat → Int32} {L : Nat}
theorem sf_59 {p k : Nat} (h : sf c L p k = 4) : pkv c L p = 59 := by
  unfold sf at h
  by_cases e : pkv c L p = 59
  · exact e
  · rw [if_pos e] at h; exact absurd h (by decide)
theorem tf_44 {p : Nat} (h : tf c L p = 5) : pkv c L p = 44 := by
  unfold tf at h
  by_cases e : pkv c L p = 44
  · exact e
  · rw [if_pos e] at h; exact absurd h (by decide)
theorem SOK_le {n n' : Nat} (h : SOK c L n) (h' : SOK c L n') : n' ≤ n := by
  rcases Nat.lt_or_ge n n' with hl | hl
  · rcases h.2.2.2 with e | e
    · have := h'.2.1; omega
    · exact absurd (sf_59 (h'.2.2.1 n hl)) e
  · exact hl
theorem SOK_u {n n' : Nat} (h : SOK c L n) (h' : SOK c L n') : n = n' := Nat.le_antisymm (SOK_le h' h) (SOK_le h h')
theorem TOK_le {q n n' : Nat} (h : TOK c L q n) (h' : TOK c L q n') : n' ≤ n := by
  rcases Nat.lt_or_ge n n' with hl | hl
  · rcases h.2.2.2 with e | e
    · have := h'.2.1; omega
    · exact absurd (tf_44 (h'.2.2.1 n hl)) e
  · exact hl
theorem TOK_u {q n n' : Nat} (h : TOK c L q n) (h' : TOK c L q n') : n = n' := Nat.le_antisymm (TOK_le h' h) (TOK_le h h')
theorem SOK_SBAD {n k s : Nat} (h : SOK c L n) (h' : SBAD c L k s) : False := by
  obtain ⟨b1, b2, b3, b4, b5⟩ := h'
  rcases Nat.lt_or_ge k n with hl | hl
  · have := h.2.2.1 k hl; omega
  · have e59 : ¬ pkv c L (1 + 4 * n) = 59 := by
      rcases h.2.2.2 with e | e
      · omega
      · exact e
    rcases Nat.eq_or_lt_of_le hl with e | hl
    · subst e
      rcases b3 with e | e
      · have := h.1; omega
      · exact e59 e
    · exact e59 (sf_59 (b2 n hl))
theorem TOK_TBAD {q n k s : Nat} (h : TOK c L q n) (h' : TBAD c L q k s) : False := by
  obtain ⟨b1, b2, b3, b4, b5⟩ := h'
  rcases Nat.lt_or_ge k n with hl | hl
  · have := h.2.2.1 k hl; omega
  · have e59 : ¬ pkv c L (q + 5 * n) = 44 := by
      rcases h.2.2.2 with e | e
      · omega
      · exact e
    rcases Nat.eq_or_lt_of_le hl with e | hl
    · subst e
      rcases b3 with e | e
      · have := h.1; omega
      · exact e59 e
    · exact e59 (tf_44 (b2 n hl))
theorem SBAD_u {k s k' s' : Nat} (h : SBAD c L k s) (h' : SBAD c L k' s') : k = k' ∧ s = s' := by
  obtain ⟨a1, a2, a3, a4, a5⟩ := h
  obtain ⟨b1, b2, b3, b4, b5⟩ := h'
  have e : k = k' := by
    rcases Nat.lt_trichotomy k k' with hl | e | hl
    · have := b2 k hl; omega
    · exact e
    · have := a2 k' hl; omega
  subst e
  exact ⟨rfl, a4.symm.trans b4⟩
theorem TBAD_u {q k s k' s' : Nat} (h : TBAD c L q k s) (h' : TBAD c L q k' s') : k = k' ∧ s = s' := by
  obtain ⟨a1, a2, a3, a4, a5⟩ := h
  obtain ⟨b1, b2, b3, b4, b5⟩ := h'
  have e : k = k' := by
    rcases Nat.lt_trichotomy k k' with hl | e | hl
    · have := b2 k hl; omega
    · exact e
    · have := a2 k' hl; omega
  subst e
  exact ⟨rfl, a4.symm.trans b4⟩
theorem POK_u {n t n' t' : Nat} (h : POK c L n t) (h' : POK c L n' t') : n = n' ∧ t = t' := by
  have e := SOK_u h.2.1 h'.2.1
  subst e
  exact ⟨rfl, TOK_u h.2.2.1 h'.2.2.1⟩
theorem POK_PBAD {n t pl : Nat} (h : POK c L n t) (h' : PBAD c L pl) : False := by
  obtain ⟨a1, a2, a3, a4⟩ := h
  rcases h' with ⟨b, _⟩ | ⟨_, k, s, b, _⟩ | ⟨_, n', b, j, s, b2, _⟩ | ⟨_, n', t', b, b2, b3, b4⟩
  · exact b a1
  · exact SOK_SBAD a2 b
  · have e := SOK_u a2 b
    subst e
    exact TOK_TBAD a3 b2
  · have e := SOK_u a2 b
    subst e
    have e := TOK_u a3 b2
    subst e
    omega
theorem PBAD_u {pl pl' : Nat} (h : PBAD c L pl) (h' : PBAD c L pl') : pl = pl' := by
  rcases h with ⟨a, a1⟩ | ⟨a, k, s, a1, a2⟩ | ⟨a, n, a1, j, s, a2, a3⟩ | ⟨a, n, t, a1, a2, a3, a4⟩
  · rcases h' with ⟨_, b⟩ | ⟨b, _⟩ | ⟨b, _⟩ | ⟨b, _⟩
    · omega
    · exact absurd b a
    · exact absurd b a
    · exact absurd b a
  · rcases h' with ⟨b, _⟩ | ⟨_, k', s', b1, b2⟩ | ⟨_, n', b1, _⟩ | ⟨_, n', t', b1, _⟩
    · exact absurd a b
    · obtain ⟨rfl, rfl⟩ := SBAD_u a1 b1
      omega
    · exact (SOK_SBAD b1 a1).elim
    · exact (SOK_SBAD b1 a1).elim
  · rcases h' with ⟨b, _⟩ | ⟨_, k', s', b1, b2⟩ | ⟨_, n', b1, j', s', b2, b3⟩ | ⟨_, n', t', b1, b2, _⟩
    · exact absurd a b
    · exact (SOK_SBAD a1 b1).elim
    · have e := SOK_u a1 b1
      subst e
      obtain ⟨rfl, rfl⟩ := TBAD_u a2 b2
      omega
    · have e := SOK_u a1 b1
      subst e
      exact (TOK_TBAD b2 a2).elim
  · rcases h' with ⟨b, _⟩ | ⟨_, k', s', b1, b2⟩ | ⟨_, n', b1, j', s', b2, b3⟩ | ⟨_, n', t', b1, b2, b3, b4⟩
    · exact absurd a b
    · exact (SOK_SBAD a1 b1).elim
    · have e := SOK_u a1 b1
      subst e
      exact (TOK_TBAD a2 b2).elim
    · have e := SOK_u a1 b1
      subst e
      have e := TOK_u a2 b2
      subst e
      omega
theorem sf4 {p k : Nat} (h : sf c L p k = 4) : ¬ srcV (pkv c L (p + 2)) k = -1 ∧ ¬ srcV (pkv c L (p + 3)) k = -1 := by
  unfold sf at h
  split at h
  · exact absurd h (by decide)
  · split at h
    · exact absurd h (by decide)
    · split at h
      · exact absurd h (by decide)
      · split at h
        · exact absurd h (by decide)
        · rename_i a b; exact ⟨a, b⟩
theorem tf5 {p : Nat} (h : tf c L p = 5) : ¬ kIdx (pkv c L (p + 1)) = -1 ∧ ¬ digV 1 9 (pkv c L (p + 2)) = -1 := by
  unfold tf at h
  split at h
  · exact absurd h (by decide)
  · split at h
    · exact absurd h (by decide)
    · split at h
      · exact absurd h (by decide)
      · rename_i a b; exact ⟨a, b⟩
theorem kIdx_ok {z : Int32} (h : ¬ kIdx z = -1) : ∃ κ, κ < 3 ∧ kIdx z = nI κ := by
  unfold kIdx at h ⊢
  split
  · exact ⟨0, by decide, rfl⟩
  · split
    · exact ⟨1, by decide, rfl⟩
    · split
      · exact ⟨2, by decide, rfl⟩
      · rename_i a b d
        rw [if_neg a, if_neg b, if_neg d] at h; exact absurd rfl h
theorem digV_ok {z : Int32} (h : ¬ digV 1 9 z = -1) : ∃ τ, τ < 10 ∧ digV 1 9 z = nI τ := by
  rw [digV_n1 (by decide)] at h
  have h := Classical.not_not.mp h
  obtain ⟨k, e, _, h2⟩ := rngI (a := 1) (b := 9) (by omega) h.1 h.2 (by omega)
  exact ⟨k, by omega, by unfold digV; rw [if_pos h]; exact e⟩
/-- what a text tells is a program -/
theorem POK_pi {n t : Nat} {p : FF} {a : VV} (h : POK c L n t) (hS : SRow c L n (p 0) (p 1) (p 2)) (e0 : a 0 = nI n) (e1 : a 1 = nI t) : PI n t p a :=
  ⟨h.2.1.2.1, h.2.2.1.2.1, e0, e1, fun k hk => by
    have := sf4 (h.2.1.2.2.1 k hk)
    have hk5 := h.2.1.2.1
    rw [(hS k hk).2.1, (hS k hk).2.2]
    exact ⟨srcV_ok (by omega) this.1, srcV_ok (by omega) this.2⟩⟩
theorem POK_vd {n t : Nat} {p : FF} (h : POK c L n t) (hT : TRow c L (1 + 4 * n) t (p 3) (p 4) (p 5) (p 6)) : VD t p := fun j hj => by
  have := tf5 (h.2.2.1.2.2.1 j hj)
  rw [(hT j hj).1, (hT j hj).2.1]
  exact ⟨kIdx_ok this.1, digV_ok this.2⟩
end UQ
theorem POK.cong {c d : Nat → Int32} {L n t : Nat} (h : ∀ p, pkv c L p = pkv d L p) (q : POK c L n t) : POK d L n t := ⟨(h 0).symm.trans q.1, q.2.1.cong h, q.2.2.1.cong h, q.2.2.2⟩
theorem PBAD.cong {c d : Nat → Int32} {L pl : Nat} (h : ∀ p, pkv c L p = pkv d L p) (q : PBAD c L pl) : PBAD d L pl := by
  have h0 : pkv d L 0 = pkv c L 0 := (h 0).symm
  rcases q with ⟨a, a1⟩ | ⟨a, k, s, a1, a2⟩ | ⟨a, n, a1, j, s, a2, a3⟩ | ⟨a, n, t, a1, a2, a3, a4⟩
  · exact Or.inl ⟨by rw [h0]; exact a, a1⟩
  · exact Or.inr (Or.inl ⟨by rw [h0]; exact a, k, s, a1.cong h, a2⟩)
  · exact Or.inr (Or.inr (Or.inl ⟨by rw [h0]; exact a, n, a1.cong h, j, s, a2.cong h, a3⟩))
  · exact Or.inr (Or.inr (Or.inr ⟨by rw [h0]; exact a, n, t, a1.cong h, a2.cong h, a3, a4⟩))
section AN
variable {g : FF} {u : VV} {post : Int32 → Prop} {k l m : Nat} {p1 p2 p3 : Int32}
theorem q5_against1 (hk : k < 4) (e : g 0 k = -9) (h : post 1) : Q_X5_against (nI k) p1 p2 p3 g u post := by
  have vk : vp_in (nI k) 4 := vi_nI (by omega) (by omega)
  unfold Q_X5_against
  rw [nI_clamp (by omega), e]
  exact ⟨vk, fun _ => ⟨vk, fun c => absurd rfl c, fun _ => h⟩, fun c => absurd rfl c⟩
theorem q5_against2 (hk : k < 4) (hl : l < 3) (e : g 0 k = nI l) (ne : ¬ nI l = p1) (h : post 2) : Q_X5_against (nI k) p1 p2 p3 g u post := by
  have vk : vp_in (nI k) 4 := vi_nI (by omega) (by omega)
  unfold Q_X5_against
  rw [nI_clamp (by omega), e]
  exact ⟨vk, fun c => absurd c (l_m9 hl), fun _ => ⟨vk, fun c => absurd c ne, fun _ => h⟩⟩
theorem q5_against4 (hk : k < 4) (hl : l < 3) (e : g 0 k = nI l) (ee : nI l = p1) (hn : ¬ 0 ≤ p3) (h : post 4) : Q_X5_against (nI k) p1 p2 p3 g u post := by
  have vk : vp_in (nI k) 4 := vi_nI (by omega) (by omega)
  unfold Q_X5_against
  rw [nI_clamp (by omega), e]
  exact ⟨vk, fun c => absurd c (l_m9 hl), fun _ => ⟨vk, fun _ => ⟨vk, fun _ => ⟨fun c => absurd c hn, fun _ => h⟩, fun c => absurd c (l_m9 hl)⟩, fun c => absurd ee c⟩⟩
theorem q5_against03 (hk : k < 4) (hl : l < 3) (hm : m ≤ 60) (e : g 0 k = nI l) (e1 : g 1 k = nI m) (ee : nI l = p1) (hn : 0 ≤ p3) (h0 : (∃ i n, i + n ≤ m ∧ p2 = nI i ∧ p3 = nI n) → post 0) (h3 : (¬ ∃ i n, i + n ≤ m ∧ p2 = nI i ∧ p3 = nI n) → post 3) : Q_X5_against (nI k) p1 p2 p3 g u post := by
  have vk : vp_in (nI k) 4 := vi_nI (by omega) (by omega)
  have H := cellsI hm (p := p2) (q := p3)
  unfold Q_X5_against
  rw [nI_clamp (by omega), e, e1]
  refine ⟨vk, fun c => absurd c (l_m9 hl), fun _ => ⟨vk, fun _ => ⟨vk, fun _ => ⟨fun _ => ⟨fun c => h3 (fun z => (H.mpr z).1 c), fun c => ⟨vk, fun c2 => h3 (fun z => (H.mpr z).2.1 c2), fun c2 => ⟨vk, fun c3 => h0 (H.mp ⟨c, c2, Int32.not_lt.mpr hn, Int32.not_lt.mpr c3⟩), fun c3 => h3 (fun z => c3 (Int32.not_lt.mp (H.mpr z).2.2.2))⟩⟩⟩, fun c => absurd hn c⟩, fun c => absurd c (l_m9 hl)⟩, fun c => absurd ee c⟩⟩
end AN
theorem op_program (p0 p1 p2 p3 : Int32) (f : FF) (v : VV) (g : FF) (u : VV) (h : Rel0 f v g u) : Q_X4_program p0 p1 p2 p3 f v (fun r f1 v1 => Q_X5_program p0 p1 p2 p3 g u (fun r' g1 u1 => r = r' ∧ Rel0 f1 v1 g1 u1)) := by
  intro v1 ev1
  have h0 := h.fault 0
  rw [← ev1] at h0
  refine q_isSheet (fun k hk ek => yes1' ?_) (fun hk => no0' (fun u1 eu1 => q5_isSheet0 hk (no0' ⟨rfl, by rw [eu1]; exact h0⟩)))
  subst ek
  have vk : vp_in (nI k) 4 := vi_nI (by omega) (by omega)
  refine q_isWithin (fun a b => yes1' ⟨vk, ?_⟩) (fun a => no0' (fun u1 eu1 => q5_isSheet1 hk (yes1' (q5_isSort0 a (no0' ⟨rfl, by rw [eu1]; exact h0⟩)))))
  rw [nI_clamp (by omega)]
  rcases h0.1 k hk with ⟨n1, n2⟩ | ⟨l, m, hl, hm, a3, a4, a5, a6, a7⟩
  · refine q_faultAs (fun e => ⟨fun _ => ⟨fun _ => ⟨fun c => absurd c (by decide), fun _ v2 ev2 => ?_⟩, fun c => absurd c (by decide)⟩, fun c => absurd c (by decide)⟩) (fun e => absurd n1 e) (fun e => absurd n1 e)
    intro u1 eu1
    exact q5_isSheet1 hk (yes1' (q5_isSort1 a b (yes1' (q5_against1 hk n2 ⟨fun c => absurd c (by decide), fun _ u2 eu2 => ⟨rfl, by rw [ev2, eu2, eu1]; exact h0.fault 1⟩⟩))))
  have c1 : sb v1 (3 + 2 * k) 1 = nI m := by rw [sb_add, show 3 + 2 * k + 1 = 4 + 2 * k by omega]; exact a5
  have e0 : sb v1 (3 + 2 * k) 0 = nI l := a3
  refine q_faultAs (fun e => absurd (a3.symm.trans e) (l_m1 hl)) (fun _ e => ⟨fun _ => ⟨fun _ => ⟨fun c => absurd c (by decide), fun _ v2 ev2 => ?_⟩, fun c => absurd c (by decide)⟩, fun c => absurd c (by decide)⟩) (fun _ e => ⟨fun c => absurd rfl c, fun _ => ⟨fun hn => ⟨fun c => absurd rfl c, fun _ => ?_⟩, fun hn v2 ev2 => ?_⟩⟩)
  · intro u1 eu1
    rw [e0] at e
    exact q5_isSheet1 hk (yes1' (q5_isSort1 a b (yes1' (q5_against2 hk hl a4 e ⟨fun c => absurd c (by decide), fun _ u2 eu2 => ⟨rfl, by rw [ev2, eu2, eu1]; exact h0.fault 2⟩⟩))))
  rotate_left
  · intro u1 eu1
    rw [e0] at e
    exact q5_isSheet1 hk (yes1' (q5_isSort1 a b (yes1' (q5_against4 hk hl a4 e hn ⟨fun c => absurd c (by decide), fun _ u2 eu2 => ⟨rfl, by rw [ev2, eu2, eu1]; exact h0.fault 4⟩⟩))))
  rw [e0] at e
  refine q_hasCells hm c1 (fun i n hin ei en => yes1' (no0 ?_)) (fun hno => no0' (fun v2 ev2 u1 eu1 => q5_isSheet1 hk (yes1' (q5_isSort1 a b (yes1' (q5_against03 hk hl hm a4 a6 e hn (fun z => absurd z hno) (fun _ => ⟨fun c => absurd c (by decide), fun _ u2 eu2 => ⟨rfl, by rw [ev2, eu2, eu1]; exact h0.fault 3⟩⟩)))))))
  subst ei; subst en
  -- where both read
  have F0 : jn f (1 + k) 1 23 0 = f (1 + k) := jn_lt (by decide)
  have hpk : ∀ p, pkv (fun j => jn f (1 + k) 1 23 0 (i + j)) n p = pkv (cs (g 2) (60 * k + i)) n p := fun p => pkv_cong (fun j hj => by
    rw [F0, a7 (i + j) (by omega)]
    show g 2 _ = g 2 (60 * k + i + j)
    rw [Nat.add_assoc]) p
  have ref : ∀ (P : Int32 → FF → VV → Prop) (u1 : VV), u1 = fu u 0 0 →
      (∀ n' t g' u', POK (cs (g 2) (60 * k + i)) n n' t → SRow (cs (g 2) (60 * k + i)) n n' (g' 3) (g' 4) (g' 5) → TRow (cs (g 2) (60 * k + i)) n (1 + 4 * n') t (g' 6) (g' 7) (g' 8) (g' 9) → u' 2 = nI n' → u' 3 = nI t → u' 8 = 0 → u' 0 = 0 → u' 1 = u 1 → (∀ j, j < 3 ∨ j = 16 → g' j = g j) → P (nI (4 * n')) g' u') →
      (∀ pl g' u', PBAD (cs (g 2) (60 * k + i)) n pl → FE g u1 g' u' → P (-100 - nI pl) g' u') → Q_X5_program (nI k) p1 (nI i) (nI n) g u P := by
    intro P u1 eu1 hok hbad u1' eu1'
    have e11 : u1' = u1 := by rw [eu1, eu1']
    subst e11
    refine q5_isSheet1 hk (yes1' (q5_isSort1 a b (yes1' (q5_against03 hk hl hm a4 a6 e hn (fun _ => no0 ?_) (fun z => absurd ⟨i, n, hin, rfl, rfl⟩ z)))))
    intro x8 ex8 u9 eu9
    rw [n60] at ex8
    subst ex8
    rw [nI_add]
    have f9 : ∀ j, j ≠ 4 → u9 j = u1' j := fun j hj => by rw [eu9, fu_ne hj]
    refine q5_readAll (b := 60 * k + i) (L := n) rfl (by omega) (by rw [eu9, fu_eq]) (fun n' t g1 u2 hp hS hT h5 h6 hu hg => yes1' ?_) (fun pl g1 u2 hp hpl h4 hu hg => no0' ?_)
    · intro u14 e14 u15 e15
      have w2 : u15 2 = nI n' := by rw [e15, fu_ne (by decide), e14, fu_eq, h5]
      have w3 : u15 3 = nI t := by rw [e15, fu_eq, e14, fu_ne (by decide), h6]
      refine ⟨n' + 1, q5_pl1 (g0 := g1) hp.2.1.2.1 w2 (fun x g2 A1 A2 => ⟨t + 1, q5_pl2 (g0 := g2) hp.2.2.1.2.1 w3 (fun x g3 B1 B2 u49 e49 => ?_) t 0 g2 (by omega) (fun _ h => absurd h (by omega)) (fun _ _ => rfl)⟩) n' 0 g1 (by omega) (fun _ h => absurd h (by omega)) (fun _ _ => rfl)⟩
      have m2 : u49 2 = nI n' := by rw [e49, fu_ne (by decide)]; exact w2
      unfold Q_X5_mutants
      rw [m2, show (4 : Int32) * nI n' = nI (4 * n') from pk_mul 4 n']
      refine hok n' t g3 u49 hp (fun q hq => ?_) (fun q hq => ?_) m2 (by rw [e49, fu_ne (by decide)]; exact w3) (by rw [e49, fu_eq]) ?_ ?_ (fun j hj => ?_)
      · rw [B2 3 (by omega), B2 4 (by omega), B2 5 (by omega), (A1 q hq).1, (A1 q hq).2.1, (A1 q hq).2.2]; exact hS q hq
      · rw [(B1 q hq).1, (B1 q hq).2.1, (B1 q hq).2.2.1, (B1 q hq).2.2.2, A2 11 (by omega)]; exact hT q hq
      · rw [e49, fu_ne (by decide), e15, fu_ne (by decide), e14, fu_ne (by decide), hu 0 (by decide) (by decide) (by decide), f9 0 (by decide), eu1', fu_eq]
      · rw [e49, fu_ne (by decide), e15, fu_ne (by decide), e14, fu_ne (by decide), hu 1 (by decide) (by decide) (by decide), f9 1 (by decide), eu1', fu_ne (by decide)]
      · rw [B2 j (by omega), A2 j (by omega), hg j (by omega) (by omega)]
    · rw [h4, nI_sub (by omega), show 60 * k + i + pl - (60 * k + i) = pl by omega]
      exact hbad pl g1 u2 hp ⟨fun j hj => hg j (by omega) (by omega), fun j hj => (hu j (by omega) (by omega) (by omega)).trans (f9 j (by omega))⟩
  refine q_reads (by omega) (fun n' t f' v' hp z0 hS hT y0 y1 y4 y5 f15 e15 v16 e16 => ?_) (fun pl f' v' hp z0 y0 y1 y3 f15 e15 v16 e16 => ?_)
  · have r15 : ∀ j, j < 23 → f15 j = f j := fun j hj => by
      rw [e15, mg_out (by omega)]
      by_cases hj1 : 1 + k ≤ j ∧ j < 1 + k + 1
      · rw [mg_in hj1.1 hj1.2, show j - (1 + k) = 0 by omega, z0, F0, show j = 1 + k by omega]
      · rw [mg_out hj1]
    have r24 : ∀ j, j < 9 → f15 (24 + j) = f' (2 + j) := fun j hj => by
      rw [e15, show 24 + j = 23 + (1 + j) by omega, mg_at (by omega), sb_add]; congr 1; omega
    have w16 : ∀ j, j < 15 → v16 j = v1 j := fun j hj => by
      rw [e16, mg_out (by omega)]
      by_cases hj1 : 3 + 2 * k ≤ j ∧ j < 3 + 2 * k + 2
      · rw [mg_in hj1.1 hj1.2]
        have : j - (3 + 2 * k) = 0 ∨ j - (3 + 2 * k) = 1 := by omega
        rcases this with e | e
        · rw [e, y0, jn_lt (by decide)]; congr 1; omega
        · rw [e, y1, jn_lt (by decide)]; congr 1; omega
      · rw [mg_out hj1]
    have w17 : v16 17 = nI n' := by rw [e16]; exact (mg_at (b := 15) (i := 2) (by decide)).trans y4
    have w18 : v16 18 = nI t := by rw [e16]; exact (mg_at (b := 15) (i := 3) (by decide)).trans y5
    refine yes1' (q_becomeLike hp.2.1.2.1 hp.2.2.1.2.1 w17 w18 (fun f20 v21 hL hr x0 x1 hv f22 e22 v23 e23 v24 e24 => ?_))
    have L9 : ∀ j, j < 9 → jn f15 5 9 24 (9 + j) = f' (2 + j) := fun j hj => by rw [jn_ge (by omega), show 24 + (9 + j - 9) = 24 + j by omega, r24 j hj]
    have r22 : ∀ j, j < 9 → f22 (5 + j) = f20 j := fun j hj => by rw [e22, mg_out (by omega), mg_at hj]
    have s22 : ∀ j, j < 5 → f22 j = f j := fun j hj => by rw [e22, mg_out (by omega), mg_out (by omega), r15 j (by omega)]
    have t24 : ∀ j, j < 11 → j ≠ 0 → v24 j = v1 j := fun j hj hj0 => by rw [e24, fu_ne hj0, e23, mg_out (by omega), mg_out (by omega), w16 j (by omega)]
    have t11 : v24 11 = nI n' := by rw [e24, fu_ne (by decide), e23, mg_out (by omega)]; exact (mg_at (b := 11) (i := 0) (by decide)).trans x0
    have t12 : v24 12 = nI t := by rw [e24, fu_ne (by decide), e23, mg_out (by omega)]; exact (mg_at (b := 11) (i := 1) (by decide)).trans x1
    have cc := POK.cong hpk hp
    have hS' : SRow (cs (g 2) (60 * k + i)) n n' (f22 5) (f22 6) (f22 7) := fun q hq => by
      have A := (hS.cong hpk) q hq
      have B := hL.1 q hq
      rw [show f22 5 = f20 0 from r22 0 (by decide), show f22 6 = f20 1 from r22 1 (by decide), show f22 7 = f20 2 from r22 2 (by decide), B.1, B.2.1, B.2.2, L9 0 (by decide), L9 1 (by decide), L9 2 (by decide)]
      exact A
    have hT' : TRow (cs (g 2) (60 * k + i)) n (1 + 4 * n') t (f22 8) (f22 9) (f22 10) (f22 11) := fun q hq => by
      have A := (hT.cong hpk) q hq
      have B := hL.2 q hq
      rw [show f22 8 = f20 3 from r22 3 (by decide), show f22 9 = f20 4 from r22 4 (by decide), show f22 10 = f20 5 from r22 5 (by decide), show f22 11 = f20 6 from r22 6 (by decide), B.1, B.2.1, B.2.2.1, B.2.2.2, L9 3 (by decide), L9 4 (by decide), L9 5 (by decide), L9 6 (by decide)]
      exact A
    have PC : PI n' t (sb f22 5) (sb v24 11) := POK_pi cc hS' t11 t12
    refine q_mutants PC ?_
    refine ref _ _ rfl (fun n2 t2 g' u' hp2 hS2 hT2 q2 q3 q8 q0 q1 hg => ?_) (fun pl g' u' hp2 _ => (POK_PBAD cc hp2).elim)
    obtain ⟨en, et⟩ := POK_u cc hp2
    subst en; subst et
    refine ⟨rfl, fun k' hk' => (h0.1 k' hk').of (s22 _ (by omega)) (t24 _ (by omega) (by omega)) (t24 _ (by omega) (by omega)) (by rw [hg 0 (by omega)]) (by rw [hg 1 (by omega)]) (fun _ _ => by rw [hg 2 (by omega)]), ⟨n', t, PC, POK_pi cc hS2 q2 q3, ?_, ⟨fun q hq => ?_, fun q hq => ?_⟩, POK_vd cc hT'⟩, ⟨0, by decide, by rw [e24, fu_eq]; rfl, q8, fun _ h => absurd h (by omega)⟩, ?_, ?_⟩
    · have := cc.2.1.1
      have := cc.2.2.1.1
      omega
    · exact ⟨(hS' q hq).1.trans (hS2 q hq).1.symm, (hS' q hq).2.1.trans (hS2 q hq).2.1.symm, (hS' q hq).2.2.trans (hS2 q hq).2.2.symm⟩
    · exact ⟨(hT' q hq).1.trans (hT2 q hq).1.symm, (hT' q hq).2.1.trans (hT2 q hq).2.1.symm, (hT' q hq).2.2.1.trans (hT2 q hq).2.2.1.symm, (hT' q hq).2.2.2.trans (hT2 q hq).2.2.2.symm⟩
    · rw [t24 1 (by decide) (by decide), q1]; exact h0.2.2.2.1
    · rw [t24 2 (by decide) (by decide), q0, ev1, fu_eq]
  · have w16 : v16 16 = nI pl := by rw [e16]; exact (mg_at (b := 15) (i := 1) (by decide)).trans y3
    have hc : FC f v1 f15 v16 := by
      refine ⟨fun j hj => ?_, fun j hj => ?_⟩
      · rw [e15, mg_out (by omega)]
        by_cases hj1 : 1 + k ≤ j ∧ j < 1 + k + 1
        · rw [mg_in hj1.1 hj1.2, show j - (1 + k) = 0 by omega, z0, F0, show j = 1 + k by omega]
        · rw [mg_out hj1]
      · rw [e16, mg_out (by omega)]
        by_cases hj1 : 3 + 2 * k ≤ j ∧ j < 3 + 2 * k + 2
        · rw [mg_in hj1.1 hj1.2]
          have : j - (3 + 2 * k) = 0 ∨ j - (3 + 2 * k) = 1 := by omega
          rcases this with e | e
          · rw [e, y0, jn_lt (by decide)]; congr 1; omega
          · rw [e, y1, jn_lt (by decide)]; congr 1; omega
        · rw [mg_out hj1]
    have cc := PBAD.cong hpk hp
    refine no0' ?_
    rw [w16]
    refine ref _ _ rfl (fun n2 t2 g' u' hp2 _ _ _ _ _ _ _ _ => (POK_PBAD hp2 cc).elim) (fun pl2 g' u' hp2 he => ⟨by rw [PBAD_u cc hp2], h0.fr hc he⟩)
/-! ===== a DAY ===== -/
section KP
variable {n t : Nat} {g : FF} {u : VV} {pos : FF → VV → Prop} {posf : Int32 → FF → VV → Prop}
theorem q5_kp1 {K : Int32 → FF → VV → Prop} {g0 : FF} (hK : ∀ x g, (∀ j, j ≠ 14 → g j = g0 j) → (∀ i, i < 5 → g 14 i = g0 3 i) → K x g u) :
    ∀ (d k : Nat) (g : FF), k + d = 5 → (∀ j, j ≠ 14 → g j = g0 j) → (∀ i, i < k → g 14 i = g0 3 i) → Q_X5_keep_L2 K (d + 1) (nI k) g u := by
  intro d
  induction d with
  | zero =>
    intro k g hk h1 h2
    rw [Q_X5_keep_L2, show k = 5 by omega]
    exact ⟨fun _ => hK _ g h1 (fun i hi => h2 i (by omega)), fun c => absurd (Int32.le_refl _) c⟩
  | succ d ih =>
    intro k g hk h1 h2
    rw [Q_X5_keep_L2, nI_clamp (by omega)]
    refine ⟨fun c => absurd ((le_nI (a := 5) (by omega) (by omega)).mp c) (by omega), fun _ => ⟨vi_nI (by omega) (by omega), vi_nI (by omega) (by omega), fun g1 e1 x ex => ?_⟩⟩
    rw [ex, nI_1]
    rw [wrN (by omega)] at e1
    refine ih (k + 1) g1 (by omega) (fun j hj => by rw [e1, fu_ne hj, h1 j hj]) (fun i hi => ?_)
    rw [e1, fu_eq]
    rcases Nat.lt_succ_iff_lt_or_eq.mp hi with hi | rfl
    · rw [upd_ne (by omega)]; exact h2 i hi
    · rw [upd_eq, h1 3 (by decide)]
theorem q5_kp2 {K : Int32 → FF → VV → Prop} {g0 : FF} (hK : ∀ x g, (∀ j, j ≠ 14 → g j = g0 j) → (∀ i, i < 5 → g 14 i = g0 14 i) → (∀ i, i < 7 → g 14 (5 + i) = g0 7 i ∧ g 14 (12 + i) = g0 8 i ∧ g 14 (19 + i) = g0 9 i) → K x g u) :
    ∀ (d k : Nat) (g : FF), k + d = 7 → (∀ j, j ≠ 14 → g j = g0 j) → (∀ i, i < 5 → g 14 i = g0 14 i) → (∀ i, i < k → g 14 (5 + i) = g0 7 i ∧ g 14 (12 + i) = g0 8 i ∧ g 14 (19 + i) = g0 9 i) → Q_X5_keep_L27 K (d + 1) (nI k) g u := by
  intro d
  induction d with
  | zero =>
    intro k g hk h1 h2 h3
    rw [Q_X5_keep_L27, show k = 7 by omega]
    exact ⟨fun _ => hK _ g h1 h2 (fun i hi => h3 i (by omega)), fun c => absurd (Int32.le_refl _) c⟩
  | succ d ih =>
    intro k g hk h1 h2 h3
    rw [Q_X5_keep_L27, nI_clamp (by omega), show (5 : Int32) + nI k = nI (5 + k) from nI_add 5 k, show (12 : Int32) + nI k = nI (12 + k) from nI_add 12 k, show (19 : Int32) + nI k = nI (19 + k) from nI_add 19 k]
    have vk : vp_in (nI k) 7 := vi_nI (by omega) (by omega)
    refine ⟨fun c => absurd ((le_nI (a := 7) (by omega) (by omega)).mp c) (by omega), fun _ => ⟨vk, vi_nI (by omega) (by omega), fun g1 e1 => ⟨vk, vi_nI (by omega) (by omega), fun g2 e2 => ⟨vk, vi_nI (by omega) (by omega), fun g3 e3 x ex => ?_⟩⟩⟩⟩
    rw [ex, nI_1]
    rw [wrN (by omega)] at e1 e2 e3
    have a14 : g3 14 = upd (upd (upd (g 14) (5 + k) (g0 7 k)) (12 + k) (g0 8 k)) (19 + k) (g0 9 k) := by
      rw [e3, fu_eq, e2, fu_eq, fu_ne (by decide), e1, fu_eq, fu_ne (by decide), fu_ne (by decide), h1 7 (by decide), h1 8 (by decide), h1 9 (by decide)]
    refine ih (k + 1) g3 (by omega) (fun j hj => by rw [e3, fu_ne hj, e2, fu_ne hj, e1, fu_ne hj, h1 j hj]) (fun i hi => ?_) (fun i hi => ?_)
    · rw [a14, upd_ne (by omega), upd_ne (by omega), upd_ne (by omega)]; exact h2 i hi
    · rw [a14]
      rcases Nat.lt_succ_iff_lt_or_eq.mp hi with hi | rfl
      · obtain ⟨z1, z2, z3⟩ := h3 i hi
        refine ⟨?_, ?_, ?_⟩
        · rw [upd_ne (by omega), upd_ne (by omega), upd_ne (by omega)]; exact z1
        · rw [upd_ne (by omega), upd_ne (by omega), upd_ne (by omega)]; exact z2
        · rw [upd_ne (by omega), upd_ne (by omega), upd_ne (by omega)]; exact z3
      · refine ⟨?_, ?_, ?_⟩
        · rw [upd_ne (by omega), upd_ne (by omega), upd_eq]
        · rw [upd_ne (by omega), upd_eq]
        · rw [upd_eq]
theorem q5_keep (h : ∀ g', (∀ j, j ≠ 14 → g' j = g j) → (∀ i, i < 5 → g' 14 i = g 3 i) → (∀ i, i < 7 → g' 14 (5 + i) = g 7 i ∧ g' 14 (12 + i) = g 8 i ∧ g' 14 (19 + i) = g 9 i) → pos g' u) : Q_X5_keep g u pos := by
  refine ⟨6, q5_kp1 (g0 := g) (fun x g1 a1 a2 => ⟨8, q5_kp2 (g0 := g1) (fun x g2 b1 b2 b3 => h g2 (fun j hj => (b1 j hj).trans (a1 j hj)) (fun i hi => (b2 i hi).trans (a2 i hi)) (fun i hi => ?_)) 7 0 g1 (by omega) (fun _ _ => rfl) (fun _ _ => rfl) (fun _ h => absurd h (by omega))⟩) 5 0 g (by omega) (fun _ _ => rfl) (fun _ h => absurd h (by omega))⟩
  have := b3 i hi
  rw [a1 7 (by decide), a1 8 (by decide), a1 9 (by decide)] at this
  exact this
theorem q5_pb1 {K : Int32 → FF → VV → Prop} {g0 : FF} (hK : ∀ x g, (∀ j, j ≠ 3 → g j = g0 j) → (∀ i, i < 5 → g 3 i = g0 14 i) → K x g u) :
    ∀ (d k : Nat) (g : FF), k + d = 5 → (∀ j, j ≠ 3 → g j = g0 j) → (∀ i, i < k → g 3 i = g0 14 i) → Q_X5_putBack_L2 K (d + 1) (nI k) g u := by
  intro d
  induction d with
  | zero =>
    intro k g hk h1 h2
    rw [Q_X5_putBack_L2, show k = 5 by omega]
    exact ⟨fun _ => hK _ g h1 (fun i hi => h2 i (by omega)), fun c => absurd (Int32.le_refl _) c⟩
  | succ d ih =>
    intro k g hk h1 h2
    rw [Q_X5_putBack_L2, nI_clamp (by omega)]
    refine ⟨fun c => absurd ((le_nI (a := 5) (by omega) (by omega)).mp c) (by omega), fun _ => ⟨vi_nI (by omega) (by omega), vi_nI (by omega) (by omega), fun g1 e1 x ex => ?_⟩⟩
    rw [ex, nI_1]
    rw [wrN (by omega)] at e1
    refine ih (k + 1) g1 (by omega) (fun j hj => by rw [e1, fu_ne hj, h1 j hj]) (fun i hi => ?_)
    rw [e1, fu_eq]
    rcases Nat.lt_succ_iff_lt_or_eq.mp hi with hi | rfl
    · rw [upd_ne (by omega)]; exact h2 i hi
    · rw [upd_eq, h1 14 (by decide)]
theorem q5_pb2 {K : Int32 → FF → VV → Prop} {g0 : FF} (hK : ∀ x g, (∀ j, j < 7 ∨ 9 < j → g j = g0 j) → (∀ i, i < 7 → g 7 i = g0 14 (5 + i) ∧ g 8 i = g0 14 (12 + i) ∧ g 9 i = g0 14 (19 + i)) → K x g u) :
    ∀ (d k : Nat) (g : FF), k + d = 7 → (∀ j, j < 7 ∨ 9 < j → g j = g0 j) → (∀ i, i < k → g 7 i = g0 14 (5 + i) ∧ g 8 i = g0 14 (12 + i) ∧ g 9 i = g0 14 (19 + i)) → Q_X5_putBack_L27 K (d + 1) (nI k) g u := by
  intro d
  induction d with
  | zero =>
    intro k g hk h1 h3
    rw [Q_X5_putBack_L27, show k = 7 by omega]
    exact ⟨fun _ => hK _ g h1 (fun i hi => h3 i (by omega)), fun c => absurd (Int32.le_refl _) c⟩
  | succ d ih =>
    intro k g hk h1 h3
    rw [Q_X5_putBack_L27, show (5 : Int32) + nI k = nI (5 + k) from nI_add 5 k, show (12 : Int32) + nI k = nI (12 + k) from nI_add 12 k, show (19 : Int32) + nI k = nI (19 + k) from nI_add 19 k, nI_clamp (n := 5 + k) (by omega), nI_clamp (n := 12 + k) (by omega), nI_clamp (n := 19 + k) (by omega)]
    have vk : vp_in (nI k) 7 := vi_nI (by omega) (by omega)
    refine ⟨fun c => absurd ((le_nI (a := 7) (by omega) (by omega)).mp c) (by omega), fun _ => ⟨vi_nI (by omega) (by omega), vk, fun g1 e1 => ⟨vi_nI (by omega) (by omega), vk, fun g2 e2 => ⟨vi_nI (by omega) (by omega), vk, fun g3 e3 x ex => ?_⟩⟩⟩⟩
    rw [ex, nI_1]
    rw [wrN (by omega)] at e1 e2 e3
    have a7 : g3 7 = upd (g 7) k (g0 14 (5 + k)) := by rw [e3, fu_ne (by decide), e2, fu_ne (by decide), e1, fu_eq, h1 14 (by omega)]
    have a8 : g3 8 = upd (g 8) k (g0 14 (12 + k)) := by rw [e3, fu_ne (by decide), e2, fu_eq, e1, fu_ne (by decide), fu_ne (by decide), h1 14 (by omega)]
    have a9 : g3 9 = upd (g 9) k (g0 14 (19 + k)) := by rw [e3, fu_eq, e2, fu_ne (by decide), fu_ne (by decide), e1, fu_ne (by decide), fu_ne (by decide), h1 14 (by omega)]
    refine ih (k + 1) g3 (by omega) (fun j hj => by rw [e3, fu_ne (by omega), e2, fu_ne (by omega), e1, fu_ne (by omega), h1 j hj]) (fun i hi => ?_)
    rw [a7, a8, a9]
    rcases Nat.lt_succ_iff_lt_or_eq.mp hi with hi | rfl
    · rw [upd_ne (by omega), upd_ne (by omega), upd_ne (by omega)]; exact h3 i hi
    · rw [upd_eq, upd_eq, upd_eq]; exact ⟨rfl, rfl, rfl⟩
theorem q5_putBack (h : ∀ g', (∀ j, j ≠ 3 → j ≠ 7 → j ≠ 8 → j ≠ 9 → g' j = g j) → (∀ i, i < 5 → g' 3 i = g 14 i) → (∀ i, i < 7 → g' 7 i = g 14 (5 + i) ∧ g' 8 i = g 14 (12 + i) ∧ g' 9 i = g 14 (19 + i)) → pos g' u) : Q_X5_putBack g u pos := by
  refine ⟨6, q5_pb1 (g0 := g) (fun x g1 a1 a2 => ⟨8, q5_pb2 (g0 := g1) (fun x g2 b1 b3 => h g2 (fun j h3 h7 h8 h9 => (b1 j (by omega)).trans (a1 j h3)) (fun i hi => by rw [b1 3 (by omega)]; exact a2 i hi) (fun i hi => ?_)) 7 0 g1 (by omega) (fun _ _ => rfl) (fun _ h => absurd h (by omega))⟩) 5 0 g (by omega) (fun _ _ => rfl) (fun _ h => absurd h (by omega))⟩
  have := b3 i hi
  rw [a1 14 (by decide)] at this
  exact this
theorem q5_dl_loop {b m : Nat} {x1 x2 x3 x5 x6 : Int32} {K0 K1 : Int32 → FF → VV → Prop} (hb : b + 2 * m ≤ 240) (h0 : (¬ ∀ i, i < m → okP (cs (g 2) b (2 * i)) (cs (g 2) b (2 * i + 1))) → ∀ x, K0 x g u) (h1 : (∀ i, i < m → okP (cs (g 2) b (2 * i)) (cs (g 2) b (2 * i + 1))) → ∀ x, K1 x g u) :
    ∀ (d k : Nat), k + d = m → (∀ i, i < k → okP (cs (g 2) b (2 * i)) (cs (g 2) b (2 * i + 1))) → Q_X5_day_L103 x1 x2 x3 (nI m) x5 x6 (nI b) K0 K1 (d + 1) (nI k) g u := by
  intro d
  induction d with
  | zero =>
    intro k hk ha
    rw [Q_X5_day_L103, show k = m by omega]
    rw [show k = m by omega] at ha
    exact ⟨fun _ => h1 ha _, fun c => absurd (Int32.le_refl _) c⟩
  | succ d ih =>
    intro k hk ha
    rw [Q_X5_day_L103, show (2 : Int32) * nI k = nI (2 * k) from pk_mul 2 k, nI_add, nI_1, nI_clamp (n := b + 2 * k) (by omega), nI_clamp (n := b + 2 * k + 1) (by omega)]
    refine ⟨fun c => absurd ((le_nI (by omega) (by omega)).mp c) (by omega), fun _ => ⟨vi_nI (by omega) (by omega), vi_nI (by omega) (by omega), q5_isPair (fun hp => yes1' (fun x ex => ?_)) (fun hp => no0' (h0 (fun z => hp (z k (by omega))) _))⟩⟩
    rw [ex, nI_1]
    refine ih (k + 1) (by omega) (fun i hi => ?_)
    rcases Nat.lt_succ_iff_lt_or_eq.mp hi with hi | rfl
    · exact ha i hi
    · exact hp
end KP
section DC
variable {n t : Nat} {f : FF} {v : VV} {post : Int32 → Prop} {posf : Int32 → FF → VV → Prop}
theorem q_isAct {x z : Int32} (h1 : okP x z → post 1) (h0 : ¬ okP x z → post 0) : Q_X4_isAct x z post := by
  have H := okP_iff (x := x) (z := z)
  have lt : ∀ {a b c : Int32}, a ≤ z → z ≤ b → b < c → ¬ c ≤ z := fun _ h2 h3 h4 => absurd (Int32.lt_of_lt_of_le h3 (Int32.le_trans h4 h2)) Int32.lt_irrefl
  refine q_isWithin (fun a b => yes1 (q_isWithin (fun a' b' => ⟨Or.inr rfl, h1 (H.mpr (Or.inl ⟨⟨a, b⟩, a', b'⟩))⟩) (fun c => ⟨Or.inl rfl, h0 (fun z => ?_)⟩))) (fun c => no0 (q_isWithin (fun a b => yes1 (q_isWithin (fun a' b' => ⟨Or.inr rfl, Or.inr rfl, h1 (H.mpr (Or.inr (Or.inl ⟨⟨a, b⟩, a', b'⟩)))⟩) (fun c2 => ⟨Or.inl rfl, Or.inl rfl, h0 (fun z => ?_)⟩))) (fun c2 => no0 (q_isWithin (fun a b => yes1 (q_isWithin (fun a' b' => yes1 (h1 (H.mpr (Or.inr (Or.inr ⟨⟨a, b⟩, a', b'⟩))))) (fun c3 => no0 (h0 (fun z => ?_))))) (fun c3 => no0 (h0 (fun z => ?_)))))))
  · rcases H.mp z with z | z | z
    · exact c z.2
    · exact absurd z.1.1 (lt a b (by decide))
    · exact absurd z.1.1 (lt a b (by decide))
  · rcases H.mp z with z | z | z
    · exact c z.1
    · exact c2 z.2
    · exact absurd z.1.1 (lt a b (by decide))
  · rcases H.mp z with z | z | z
    · exact c z.1
    · exact c2 z.1
    · exact c3 z.2
  · rcases H.mp z with z | z | z
    · exact c z.1
    · exact c2 z.1
    · exact c3 z.1
theorem q_aa_loop {b m : Nat} {K0 K1 : Int32 → Prop} (hb : b + 2 * m ≤ 60) (h0 : (¬ ∀ i, i < m → okP (cs (f 0) b (2 * i)) (cs (f 0) b (2 * i + 1))) → ∀ x, K0 x) (h1 : (∀ i, i < m → okP (cs (f 0) b (2 * i)) (cs (f 0) b (2 * i + 1))) → ∀ x, K1 x) :
    ∀ (d k : Nat), k + d = m → (∀ i, i < k → okP (cs (f 0) b (2 * i)) (cs (f 0) b (2 * i + 1))) → Q_X4_areActs_L2 f v (nI b) (nI m) K0 K1 (d + 1) (nI k) := by
  intro d
  induction d with
  | zero =>
    intro k hk ha
    rw [Q_X4_areActs_L2, show k = m by omega]
    rw [show k = m by omega] at ha
    exact ⟨fun _ => h1 ha _, fun c => absurd (Int32.le_refl _) c⟩
  | succ d ih =>
    intro k hk ha
    rw [Q_X4_areActs_L2, show (2 : Int32) * nI k = nI (2 * k) from pk_mul 2 k, nI_add, nI_1, nI_clamp (n := b + 2 * k) (by omega), nI_clamp (n := b + 2 * k + 1) (by omega)]
    refine ⟨fun c => absurd ((le_nI (by omega) (by omega)).mp c) (by omega), fun _ => ⟨vi_nI (by omega) (by omega), vi_nI (by omega) (by omega), q_isAct (fun hp => yes1' (fun x ex => ?_)) (fun hp => no0' (h0 (fun z => hp (z k (by omega))) _))⟩⟩
    rw [ex, nI_1]
    refine ih (k + 1) (by omega) (fun i hi => ?_)
    rcases Nat.lt_succ_iff_lt_or_eq.mp hi with hi | rfl
    · exact ha i hi
    · exact hp
theorem q_areActs {b m : Nat} (hb : b + 2 * m ≤ 60) (h0 : (¬ ∀ i, i < m → okP (cs (f 0) b (2 * i)) (cs (f 0) b (2 * i + 1))) → post 0) (h1 : (∀ i, i < m → okP (cs (f 0) b (2 * i)) (cs (f 0) b (2 * i + 1))) → post 1) : Q_X4_areActs (nI b) (nI m) f v post :=
  ⟨m + 1, q_aa_loop hb (fun z _ => h0 z) (fun z _ => h1 z) m 0 (by omega) (fun _ h => absurd h (by omega))⟩
theorem q_act {k : Nat} {x : Int32} (hP : PI n t f v) (hk : tgt k) (h1 : okT n t k = true → posf 1 (actV k x f) v) (h0 : okT n t k = false → posf 0 f v) : Q_X1_act x (nI k) f v posf := by
  have hn := hP.1
  have ht := hP.2.1
  unfold Q_X1_act
  unfold tgt at hk
  unfold okT at h1 h0
  unfold actV at h1
  refine ⟨fun c => ⟨fun c2 => ?_, fun c2 => ?_⟩, fun c => ?_⟩
  · have c2 : 20 ≤ k := (le_nI (a := 20) (by omega) (by omega)).mp c2
    rw [if_neg (by omega), if_neg (by omega)] at h1 h0
    rw [if_neg (by omega), if_neg (by omega)] at h1
    rw [show (20 : Int32) = nI 20 from rfl, nI_sub c2]
    have vj : k - 20 < t → vp_in (nI (k - 20)) 7 := fun z => vi_nI (by omega) (by omega)
    refine q_hasTest hP (fun j hj ej => yes1' ?_) (fun hne => no0' ⟨Or.inl rfl, h0 (decide_eq_false (fun z => hne _ z rfl))⟩)
    have ej : k - 20 = j := (nI_eq (by omega) (by omega)).mp ej
    refine ⟨vj (by omega), fun f1 e1 => ⟨vj (by omega), fun f2 e2 => ⟨Or.inr rfl, ?_⟩⟩⟩
    rw [wrN (by omega)] at e1 e2
    have h1 := h1 (decide_eq_true (by omega))
    rw [e2, e1, show fu f 5 (upd (f 5) (k - 20) (x / 10)) 6 = f 6 from fu_ne (by decide)]; exact h1
  · have c1 : 10 ≤ k := (le_nI (a := 10) (by omega) (by omega)).mp c
    have c2 : ¬ 20 ≤ k := fun z => c2 ((le_nI (a := 20) (by omega) (by omega)).mpr z)
    rw [if_neg (by omega), if_pos (by omega)] at h1 h0
    rw [if_neg (by omega), if_pos (by omega)] at h1
    rw [show (10 : Int32) = nI 10 from rfl, nI_sub c1]
    refine q_hasTest hP (fun j hj ej => yes1' ?_) (fun hne => no0' ⟨Or.inl rfl, h0 (decide_eq_false (fun z => hne _ z rfl))⟩)
    have ej : k - 10 = j := (nI_eq (by omega) (by omega)).mp ej
    refine ⟨vi_nI (by omega) (by omega), fun f1 e1 => ⟨Or.inr rfl, ?_⟩⟩
    rw [wrN (by omega)] at e1
    rw [e1]; exact h1 (decide_eq_true (by omega))
  · have c : ¬ 10 ≤ k := fun z => c ((le_nI (a := 10) (by omega) (by omega)).mpr z)
    rw [if_pos (by omega)] at h1 h0
    rw [if_pos (by omega)] at h1
    refine q_hasStep hP (fun j hj ej => yes1' ?_) (fun hne => no0' ⟨Or.inl rfl, h0 (decide_eq_false (fun z => hne _ z rfl))⟩)
    have ej : k = j := (nI_eq (by omega) (by omega)).mp ej
    refine ⟨vi_nI (by omega) (by omega), fun f1 e1 => ⟨Or.inr rfl, ?_⟩⟩
    rw [wrN (by omega)] at e1
    rw [e1]; exact h1 (decide_eq_true (by omega))
/-- the class's worlds while a DAY is tried: i pairs are done -/
def GoC (c : Nat → Int32) (i : Nat) (f0 : FF) (v0' : VV) (f : FF) (v : VV) : Prop := (∀ r, r < 7 → f (14 + r) = goV c i (sb f0 14) r) ∧ (∀ j, j < 14 ∨ 23 ≤ j → f j = f0 j) ∧ ∀ i, v i = v0' i
theorem q_ta_loop {kq b m : Nat} {K0 K1 : Int32 → FF → VV → Prop} {f0 : FF} {v0' : VV} (hkq : kq < 4) (hP : PI n t (sb f0 14) (sb v0' 13)) (hb : b + 2 * m ≤ 60) (hp : ∀ i, i < m → okP (cs (f0 (1 + kq)) b (2 * i)) (cs (f0 (1 + kq)) b (2 * i + 1)))
    (h0 : ∀ i f v, i < m → (∀ j, j < i → okT n t (cs (f0 (1 + kq)) b (2 * j + 1)).toNatClampNeg = true) → okT n t (cs (f0 (1 + kq)) b (2 * i + 1)).toNatClampNeg = false → GoC (cs (f0 (1 + kq)) b) i f0 v0' f v → K0 (nI i) f v)
    (h1 : ∀ x f v, (∀ j, j < m → okT n t (cs (f0 (1 + kq)) b (2 * j + 1)).toNatClampNeg = true) → GoC (cs (f0 (1 + kq)) b) m f0 v0' f v → K1 x f v) :
    ∀ (d k : Nat) (f : FF) (v : VV), k + d = m → (∀ j, j < k → okT n t (cs (f0 (1 + kq)) b (2 * j + 1)).toNatClampNeg = true) → GoC (cs (f0 (1 + kq)) b) k f0 v0' f v → Q_X4_tryActs_L14 kq (nI b) (nI m) K0 K1 (d + 1) (nI k) f v := by
  intro d
  induction d with
  | zero =>
    intro k f v hk hok hG
    rw [Q_X4_tryActs_L14, show k = m by omega]
    rw [show k = m by omega] at hok hG
    exact ⟨fun _ => h1 _ f v hok hG, fun c => absurd (Int32.le_refl _) c⟩
  | succ d ih =>
    intro k f v hk hok hG
    rw [Q_X4_tryActs_L14, show (2 : Int32) * nI k = nI (2 * k) from pk_mul 2 k, nI_add, nI_1, nI_clamp (n := b + 2 * k) (by omega), nI_clamp (n := b + 2 * k + 1) (by omega)]
    refine ⟨fun c => absurd ((le_nI (by omega) (by omega)).mp c) (by omega), fun _ => ⟨vi_nI (by omega) (by omega), vi_nI (by omega) (by omega), ?_⟩⟩
    rw [hG.2.1 (1 + kq) (by omega)]
    obtain ⟨k', ek, hk'⟩ := okP_tgt (hp k (by omega))
    have e1 : f0 (1 + kq) (b + 2 * k + 1) = nI k' := ek
    have e2 : (cs (f0 (1 + kq)) b (2 * k + 1)).toNatClampNeg = k' := by rw [ek, nI_clamp (by unfold tgt at hk'; omega)]
    rw [e1]
    have hPc : PI n t (sb f 14) (sb v 13) := hP.rows2 ((hG.1 1 (by decide)).trans (goV_rest k).1) ((hG.1 2 (by decide)).trans (goV_rest k).2.1) (hG.2.2 13) (hG.2.2 14)
    refine q_act hPc hk' (fun ho f13 e13 v14 e14 => yes1' (fun x ex => ?_)) (fun ho f13 e13 v14 e14 => no0' ?_)
    · rw [mg_sb] at e14
      subst e14
      rw [ex, nI_1]
      refine ih (k + 1) f13 v14 (by omega) (fun j hj => ?_) ⟨fun r hr => ?_, fun j hj => ?_, hG.2.2⟩
      · rcases Nat.lt_succ_iff_lt_or_eq.mp hj with hj | rfl
        · exact hok j hj
        · rw [e2]; exact ho
      · rw [e13, mg_at (by omega)]
        show actV _ _ _ r = actV _ _ _ r
        rw [e2]
        exact actV_cong (fun r hr => hG.1 r hr) r hr
      · rw [e13, mg_out (by omega)]; exact hG.2.1 j hj
    · rw [mg_sb] at e13 e14
      subst e13; subst e14
      exact h0 k f13 v14 (by omega) hok (by rw [e2]; exact ho) hG
theorem q_ofTrial {w : Int32} (hP : PI n t (sb f 14) (sb v 13)) (h : ∀ r f' v', FB 14 f v f' v' → posf r f' v') : Q_X4_ofTrial w f v posf := by
  have rf : FB 14 f v f v := ⟨fun _ _ _ _ => rfl, fun _ _ => rfl⟩
  refine ⟨fun _ => ⟨fun _ => q_findAt (b := 14) (c := 13) (by decide) (by decide) hP (fun f' v' hF hK => ⟨fun _ => q_bitCount (h _ _ _ hF), fun _ => ⟨fun _ => q_countLeast hK.1 (h _ _ _ hF), fun _ => q_light hK (q_wS hK (h _ _ _ hF))⟩⟩), fun _ => q_mutants hP (q_unequalMutants hP (fun f' hf' => q_bitCount (fun f14 ef v15 ev => h _ _ _ (back_fb hf' ef ev).1)))⟩, fun _ x ex => ?_⟩
  refine q_hasTest hP (fun j hj ej => yes1 ?_) (fun _ => no0 (h _ _ _ rf))
  rw [ej]
  exact q_runTest hP hj (fun f' hf' _ f10 ef v11 ev => h _ _ _ (back_fb (Sm.of7 hf') ef ev).1)
end DC
theorem Rel0.pb {f f' : FF} {v v' : VV} {g g' : FF} {u u' : VV} (h : Rel0 f v g u) (hc : FC f v f' v') (hg : ∀ j, j < 10 ∨ j = 16 → j ≠ 3 → j ≠ 7 → j ≠ 8 → j ≠ 9 → g' j = g j) (h3 : ∀ i, i < 5 → g' 3 i = g 3 i) (h7 : ∀ i, i < 7 → g' 7 i = g 7 i ∧ g' 8 i = g 8 i ∧ g' 9 i = g 9 i) (hu : ∀ i, i < 4 ∨ i = 8 → u' i = u i) : Rel0 f' v' g' u' := by
  obtain ⟨n, t, p1, p2, p3, p4, p5⟩ := h.2.1
  have hn := p1.1
  have ht := p1.2.1
  have h' := h.fr hc ⟨fun _ _ => rfl, fun i hi => hu i hi⟩
  obtain ⟨hs, _, ⟨c, r1, r2, r3, r4⟩, ht', hf'⟩ := h'
  have q2 : PI n t (sb g' 3) (sb u' 2) := p2.rows2 (hg 4 (by omega) (by decide) (by decide) (by decide) (by decide)) (hg 5 (by omega) (by decide) (by decide) (by decide) (by decide)) (hu 2 (by omega)) (hu 3 (by omega))
  refine ⟨fun k hk => (hs k hk).of rfl rfl rfl (by rw [hg 0 (by omega) (by decide) (by decide) (by decide) (by decide)]) (by rw [hg 1 (by omega) (by decide) (by decide) (by decide) (by decide)]) (fun _ _ => by rw [hg 2 (by omega) (by decide) (by decide) (by decide) (by decide)]), ⟨n, t, p1.rows (fun j hj => hc.1 (5 + j) (by omega)) (hc.2 11 (by omega)) (hc.2 12 (by omega)), q2, p3, ?_, p5.of (hc.1 8 (by omega)) (hc.1 9 (by omega))⟩, ⟨c, r1, r2, r3, fun i hi => by rw [hg 16 (by omega) (by decide) (by decide) (by decide) (by decide)]; exact r4 i hi⟩, ht', hf'⟩
  refine ⟨fun k hk => ⟨?_, ?_, ?_⟩, fun j hj => ⟨?_, ?_, ?_, ?_⟩⟩
  · show f' 5 k = g' 3 k
    rw [hc.1 5 (by decide), h3 k (by omega)]; exact (p4.1 k hk).1
  · show f' 6 k = g' 4 k
    rw [hc.1 6 (by decide), hg 4 (by omega) (by decide) (by decide) (by decide) (by decide)]; exact (p4.1 k hk).2.1
  · show f' 7 k = g' 5 k
    rw [hc.1 7 (by decide), hg 5 (by omega) (by decide) (by decide) (by decide) (by decide)]; exact (p4.1 k hk).2.2
  · show f' 8 j = g' 6 j
    rw [hc.1 8 (by decide), hg 6 (by omega) (by decide) (by decide) (by decide) (by decide)]; exact (p4.2 j hj).1
  · show f' 9 j = g' 7 j
    rw [hc.1 9 (by decide), (h7 j (by omega)).1]; exact (p4.2 j hj).2.1
  · show f' 10 j = g' 8 j
    rw [hc.1 10 (by decide), (h7 j (by omega)).2.1]; exact (p4.2 j hj).2.2.1
  · show f' 11 j = g' 9 j
    rw [hc.1 11 (by decide), (h7 j (by omega)).2.2]; exact (p4.2 j hj).2.2.2
/-- the reference's DAY, behind its first checks -/
def dB5 (p0 p1 p2 p3 p4 : Int32) (f : FF) (v_1 : VV) (post : Int32 → FF → VV → Prop) : Prop := Q_X5_against p0 p1 p2 ((2 : Int32) * p3) f v_1 (fun r_10 => (((r_10 = 0 → (((¬ (v_1 2) = 0 → (∀ x_13 : Int32, x_13 = (((60 : Int32) * p0) + p2) → (∃ n_20 : Nat, Q_X5_day_L103 p0 p1 p2 p3 p4 r_10 x_13 (fun x_21 f_22 v_23 => (post (-2 : Int32) f_22 v_23)) (fun x_24 f_25 v_26 => (Q_X5_keep  f_25 v_26 (fun f_28 v_29 => (Q_X5_goDay x_13 p3 f_28 v_29 (fun r_30 f_31 v_32 => (Q_X5_tellDay p4 f_31 v_32 (fun r_33 f_34 v_35 => (Q_X5_putBack  f_34 v_35 (fun f_37 v_38 => (((¬ p4 = (1 : Int32) → (((¬ r_30 = (-9 : Int32) → (post ((-100 : Int32) - r_30) f_37 v_38)) ∧ (r_30 = (-9 : Int32) → (post r_33 f_37 v_38))))) ∧ (p4 = (1 : Int32) → (post r_30 f_37 v_38))))))))))))) n_20 (0 : Int32) f v_1))) ∧ ((v_1 2) = 0 → (post (-3 : Int32) f v_1))))) ∧ (¬ r_10 = 0 → (Q_X5_fails r_10 f v_1 (fun r_41 f_42 v_43 => (post r_41 f_42 v_43)))))))
theorem q5_day1 {k : Nat} {p1 p2 p3 p4 : Int32} {g : FF} {u : VV} {post : Int32 → FF → VV → Prop} (hk : k < 4) (a : 0 ≤ p1) (b : p1 ≤ 2) (c : 0 ≤ p3) (d : p3 ≤ 20) (hp : (0 ≤ p4 ∧ p4 ≤ 4) ∨ (10 ≤ p4 ∧ p4 ≤ 16)) (h : dB5 (nI k) p1 p2 p3 p4 g (fu u 0 0) post) : Q_X5_day (nI k) p1 p2 p3 p4 g u post := by
  intro u1 eu1
  rw [← eu1] at h
  refine q5_isSheet1 hk (yes1' (q5_isSort1 a b (yes1 (q5_within1 c d (yes1 (q5_within (fun _ _ => yes1' h) (fun z => no0' ?_)))))))
  rcases hp with hp | hp
  · exact absurd hp z
  · exact q5_within1 hp.1 hp.2 (yes1' h)
theorem op_day (p0 p1 p2 p3 p4 : Int32) (f : FF) (v : VV) (g : FF) (u : VV) (h : Rel0 f v g u) : Q_X4_day p0 p1 p2 p3 p4 f v (fun r f1 v1 => Q_X5_day p0 p1 p2 p3 p4 g u (fun r' g1 u1 => True ∧ Rel0 f1 v1 g1 u1)) := by
  intro v1 ev1
  have h0 := h.fault 0
  rw [← ev1] at h0
  refine q_isSheet (fun k hk ek => yes1' ?_) (fun hk => no0' (fun u1 eu1 => q5_isSheet0 hk (no0' ⟨trivial, by rw [eu1]; exact h0⟩)))
  subst ek
  have vk : vp_in (nI k) 4 := vi_nI (by omega) (by omega)
  refine q_isWithin (fun a b => yes1 ?_) (fun a => no0 (fun u1 eu1 => q5_isSheet1 hk (yes1' (q5_isSort0 a (no0 ⟨trivial, by rw [eu1]; exact h0⟩)))))
  refine q_isWithin (fun c d => yes1 ?_) (fun c => no0 (fun u1 eu1 => q5_isSheet1 hk (yes1' (q5_isSort1 a b (yes1 (q5_within0 c (no0 ⟨trivial, by rw [eu1]; exact h0⟩)))))))
  have main : ((0 ≤ p4 ∧ p4 ≤ 4) ∨ (10 ≤ p4 ∧ p4 ≤ 16)) → (vp_in (nI k) 4 ∧ (Q_X2_faultAs p1 (sb f (1 + k)) (sb v1 (3 + 2 * k)) (fun r_11 => (((¬ r_11 = 0 → (((r_11 = 0 → (Q_X1_isEmpty  (sb f 5) (sb v1 11) (fun r_14 => (((r_14 = 0 → (Q_X4_areActs p2 p3 (sb f (1 + k)) (sb v1 (3 + 2 * k)) (fun r_17 => (((¬ r_17 = 0 → (Q_X4_tryActs k p2 p3 f v1 (fun r_20 f_21 v_22 => (((¬ p4 = (1 : Int32) → (((¬ r_20 = (-9 : Int32) → (Q_X5_day (nI k) p1 p2 p3 p4 g u (fun r' g1 u1 => True ∧ Rel0 f_21 v_22 g1 u1))) ∧ (r_20 = (-9 : Int32) → (Q_X4_ofTrial p4 f_21 v_22 (fun r_25 f_26 v_27 => (Q_X5_day (nI k) p1 p2 p3 p4 g u (fun r' g1 u1 => True ∧ Rel0 f_26 v_27 g1 u1)))))))) ∧ (p4 = (1 : Int32) → (Q_X5_day (nI k) p1 p2 p3 p4 g u (fun r' g1 u1 => True ∧ Rel0 f_21 v_22 g1 u1)))))))) ∧ (r_17 = 0 → (Q_X5_day (nI k) p1 p2 p3 p4 g u (fun r' g1 u1 => True ∧ Rel0 f v1 g1 u1)))))))) ∧ (¬ r_14 = 0 → (Q_X5_day (nI k) p1 p2 p3 p4 g u (fun r' g1 u1 => True ∧ Rel0 f v1 g1 u1)))))))) ∧ (¬ r_11 = 0 → (Q_X4_faulted r_11 f v1 (fun r_28 f_29 v_30 => (Q_X5_day (nI k) p1 p2 p3 p4 g u (fun r' g1 u1 => True ∧ Rel0 f_29 v_30 g1 u1)))))))) ∧ (r_11 = 0 → (Q_X2_hasCells p2 ((2 : Int32) * p3) (sb f (1 + k)) (sb v1 (3 + 2 * k)) (fun r_31 => (((¬ r_31 = 0 → (((r_11 = 0 → (Q_X1_isEmpty  (sb f 5) (sb v1 11) (fun r_34 => (((r_34 = 0 → (Q_X4_areActs p2 p3 (sb f (1 + k)) (sb v1 (3 + 2 * k)) (fun r_37 => (((¬ r_37 = 0 → (Q_X4_tryActs k p2 p3 f v1 (fun r_40 f_41 v_42 => (((¬ p4 = (1 : Int32) → (((¬ r_40 = (-9 : Int32) → (Q_X5_day (nI k) p1 p2 p3 p4 g u (fun r' g1 u1 => True ∧ Rel0 f_41 v_42 g1 u1))) ∧ (r_40 = (-9 : Int32) → (Q_X4_ofTrial p4 f_41 v_42 (fun r_45 f_46 v_47 => (Q_X5_day (nI k) p1 p2 p3 p4 g u (fun r' g1 u1 => True ∧ Rel0 f_46 v_47 g1 u1)))))))) ∧ (p4 = (1 : Int32) → (Q_X5_day (nI k) p1 p2 p3 p4 g u (fun r' g1 u1 => True ∧ Rel0 f_41 v_42 g1 u1)))))))) ∧ (r_37 = 0 → (Q_X5_day (nI k) p1 p2 p3 p4 g u (fun r' g1 u1 => True ∧ Rel0 f v1 g1 u1)))))))) ∧ (¬ r_34 = 0 → (Q_X5_day (nI k) p1 p2 p3 p4 g u (fun r' g1 u1 => True ∧ Rel0 f v1 g1 u1)))))))) ∧ (¬ r_11 = 0 → (Q_X4_faulted r_11 f v1 (fun r_48 f_49 v_50 => (Q_X5_day (nI k) p1 p2 p3 p4 g u (fun r' g1 u1 => True ∧ Rel0 f_49 v_50 g1 u1)))))))) ∧ (r_31 = 0 → (Q_X4_faulted (3 : Int32) f v1 (fun r_51 f_52 v_53 => (Q_X5_day (nI k) p1 p2 p3 p4 g u (fun r' g1 u1 => True ∧ Rel0 f_52 v_53 g1 u1))))))))))))))) := by
    intro hp
    refine ⟨vk, ?_⟩
    obtain ⟨q, eq, _, hq⟩ := rngI (a := 0) (b := 20) (by omega) c d (by omega)
    subst eq
    rw [show (2 : Int32) * nI q = nI (2 * q) from pk_mul 2 q]
    rcases h0.1 k hk with ⟨n1, n2⟩ | ⟨l, m, hl, hm, a3, a4, a5, a6, a7⟩
    · refine q_faultAs (fun e => ⟨fun _ => ⟨fun z => absurd z (by decide), fun _ v2 ev2 => ?_⟩, fun z => absurd z (by decide)⟩) (fun e => absurd n1 e) (fun e => absurd n1 e)
      exact q5_day1 hk a b c d hp (q5_against1 hk n2 ⟨fun z => absurd z (by decide), fun _ u2 eu2 => ⟨trivial, by rw [ev2, eu2]; exact h0.fault 1⟩⟩)
    have c1 : sb v1 (3 + 2 * k) 1 = nI m := by rw [sb_add, show 3 + 2 * k + 1 = 4 + 2 * k by omega]; exact a5
    have e0 : sb v1 (3 + 2 * k) 0 = nI l := a3
    refine q_faultAs (fun e => absurd (a3.symm.trans e) (l_m1 hl)) (fun _ e => ⟨fun _ => ⟨fun z => absurd z (by decide), fun _ v2 ev2 => ?_⟩, fun z => absurd z (by decide)⟩) (fun _ e => ⟨fun z => absurd rfl z, fun _ => ?_⟩)
    · rw [e0] at e
      exact q5_day1 hk a b c d hp (q5_against2 hk hl a4 e ⟨fun z => absurd z (by decide), fun _ u2 eu2 => ⟨trivial, by rw [ev2, eu2]; exact h0.fault 2⟩⟩)
    rw [e0] at e
    have hn0 : (0 : Int32) ≤ 2 * nI q := by rw [show (2 : Int32) * nI q = nI (2 * q) from pk_mul 2 q]; exact (le_nI (a := 0) (by omega) (by omega)).mpr (by omega)
    have e2q : (2 : Int32) * nI q = nI (2 * q) := pk_mul 2 q
    refine q_hasCells hm c1 (fun i n hin ei en => yes1' ⟨fun _ => ?_, fun z => absurd rfl z⟩) (fun hno => no0' (fun v2 ev2 => ?_))
    rotate_left
    · refine q5_day1 hk a b c d hp (q5_against03 hk hl hm a4 a6 e hn0 (fun z => absurd ?_ hno) (fun _ => ⟨fun z => absurd z (by decide), fun _ u2 eu2 => ⟨trivial, by rw [ev2, eu2]; exact h0.fault 3⟩⟩))
      rw [← e2q]; exact z
    subst ei
    have hnq : n = 2 * q := ((nI_eq (by omega) (by omega)).mp en).symm
    subst hnq
    obtain ⟨N, T, P1, P2, P3, P4, P5⟩ := h0.2.1
    have hN := P1.1
    have hT := P1.2.1
    have fin : ∀ (f1 : FF) (v2 : VV), FC f v1 f1 v2 → Q_X5_day (nI k) p1 (nI i) (nI q) p4 g u (fun r' g1 u1 => True ∧ Rel0 f1 v2 g1 u1) := by
      intro f1 v2 hc
      refine q5_day1 hk a b c d hp (q5_against03 hk hl hm a4 a6 e hn0 (fun _ => no0 ⟨fun ne x ex => ?_, fun _ => ⟨trivial, h0.fr hc FE.rf⟩⟩) (fun z => absurd ⟨i, 2 * q, hin, rfl, e2q⟩ z))
      rw [n60] at ex
      subst ex
      have N0 : 0 < N := Nat.pos_of_ne_zero (fun z => ne ((n0 P2.1 P2.2.2.1).mpr z))
      refine ⟨q + 1, q5_dl_loop (by omega) (fun _ _ => ⟨trivial, h0.fr hc FE.rf⟩) (fun hok _ => ?_) q 0 (by omega) (fun _ h => absurd h (by omega))⟩
      refine q5_keep (fun g1 k1 k2 k3 => ?_)
      have P2' : PI N T (sb g1 3) (sb (fu u 0 0) 2) := P2.rows (fun j hj => k1 (3 + j) (by omega)) rfl rfl
      have r2 : g1 2 = g 2 := k1 2 (by decide)
      have after : ∀ (g2 : FF) (i' : Nat) (r30 : Int32), Go5 (cs (g1 2) (60 * k + i)) i' g1 g2 → Q_X5_tellDay p4 g2 (fu u 0 0) (fun r_33 f_34 v_35 => (Q_X5_putBack f_34 v_35 (fun f_37 v_38 => (((¬ p4 = (1 : Int32) → (((¬ r30 = (-9 : Int32) → (True ∧ Rel0 f1 v2 f_37 v_38)) ∧ (r30 = (-9 : Int32) → (True ∧ Rel0 f1 v2 f_37 v_38))))) ∧ (p4 = (1 : Int32) → (True ∧ Rel0 f1 v2 f_37 v_38))))))) := by
        intro g2 i' r30 hG
        have PG : PI N T (sb g2 3) (sb (fu u 0 0) 2) := hG.pi P2'
        have pbk : ∀ g3 : FF, (∀ j, j ≠ 12 → j ≠ 13 → g3 j = g2 j) → Q_X5_putBack g3 (fu u 0 0) (fun f_37 v_38 => (((¬ p4 = (1 : Int32) → (((¬ r30 = (-9 : Int32) → (True ∧ Rel0 f1 v2 f_37 v_38)) ∧ (r30 = (-9 : Int32) → (True ∧ Rel0 f1 v2 f_37 v_38))))) ∧ (p4 = (1 : Int32) → (True ∧ Rel0 f1 v2 f_37 v_38))))) := by
          intro g3 hs
          refine q5_putBack (fun g4 b1 b2 b3 => ?_)
          have r14 : g3 14 = g1 14 := (hs 14 (by decide) (by decide)).trans (hG.2 14 (by omega))
          have z : True ∧ Rel0 f1 v2 g4 (fu u 0 0) := by
            refine ⟨trivial, h0.pb hc (fun j hj j3 j7 j8 j9 => ?_) (fun i hi => by rw [b2 i hi, r14]; exact k2 i hi) (fun i hi => by rw [(b3 i hi).1, (b3 i hi).2.1, (b3 i hi).2.2, r14]; exact k3 i hi) (fun _ _ => rfl)⟩
            rw [b1 j j3 j7 j8 j9, hs j (by omega) (by omega)]
            by_cases hj3 : 3 ≤ j ∧ j < 10
            · have hr : j - 3 = 1 ∨ j - 3 = 2 ∨ j - 3 = 3 := by omega
              have := hG.1 (j - 3) (by omega)
              rw [show 3 + (j - 3) = j by omega] at this
              rw [this]
              have G := goV_rest (c := cs (g1 2) (60 * k + i)) (f := sb g1 3) i'
              rcases hr with e | e | e
              · rw [e, G.1, sb_add, k1 _ (by omega)]; congr 1; omega
              · rw [e, G.2.1, sb_add, k1 _ (by omega)]; congr 1; omega
              · rw [e, G.2.2, sb_add, k1 _ (by omega)]; congr 1; omega
            · rw [hG.2 j (by omega), k1 j (by omega)]
          exact ⟨fun _ => ⟨fun _ => z, fun _ => z⟩, fun _ => z⟩
        exact q5_tellDay PG N0 (fun _ g3 hs => pbk g3 hs) (fun _ _ _ g3 hs => pbk g3 hs) (fun _ _ => pbk g2 (fun _ _ _ => rfl))
      exact q5_goDay P2' (by omega) (by rw [r2]; exact hok) (fun i' g2 _ _ _ hG => after g2 i' _ hG) (fun g2 _ hG => after g2 q _ hG)
    refine q_isEmpty P1 (fun _ => yes1 (fin _ _ FC.rf)) (fun ne => no0 ?_)
    refine q_areActs (by omega) (fun _ => no0' (fin _ _ FC.rf)) (fun hok => yes1' ?_)
    refine q_trial P1 (fun f' v' hf hv hP hA => ⟨q + 1, ?_⟩)
    have fk : f' (1 + k) = f (1 + k) := hf _ (by omega)
    have hok' : ∀ i', i' < q → okP (cs (f' (1 + k)) i (2 * i')) (cs (f' (1 + k)) i (2 * i' + 1)) := by rw [fk]; exact hok
    have fc0 : FC f v1 f' v' := ⟨fun j hj => hf j (by omega), fun i hi => hv i (by omega) (by omega)⟩
    have fcG : ∀ (i' : Nat) (f2 : FF) (v2 : VV), GoC (cs (f' (1 + k)) i) i' f' v' f2 v2 → FC f v1 f2 v2 := fun i' f2 v2 hG => fc0.tr ⟨fun j hj => hG.2.1 j (by omega), fun i _ => hG.2.2 i⟩
    refine q_ta_loop hk hP (by omega) hok' (fun i' f2 v2 hi' _ _ hG => ⟨fun _ => ⟨fun _ => fin _ _ (fcG i' f2 v2 hG), fun z => ?_⟩, fun _ => fin _ _ (fcG i' f2 v2 hG)⟩) (fun x f2 v2 _ hG => ⟨fun _ => ⟨fun z => absurd rfl z, fun _ => ?_⟩, fun _ => fin _ _ (fcG q f2 v2 hG)⟩) q 0 f' v' (by omega) (fun _ h => absurd h (by omega)) ⟨fun _ _ => rfl, fun _ _ => rfl, fun _ => rfl⟩
    · exact absurd z (oI_9' (a := i') (by omega))
    · have PG : PI N T (sb f2 14) (sb v2 13) := hP.rows2 ((hG.1 1 (by decide)).trans (goV_rest q).1) ((hG.1 2 (by decide)).trans (goV_rest q).2.1) (hG.2.2 13) (hG.2.2 14)
      exact q_ofTrial PG (fun r f3 v3 hF => fin _ _ ((fcG q f2 v2 hG).tr (hF.fc (by decide))))
  rw [nI_clamp (by omega)]
  refine q_isWithin (fun a' b' => yes1' (yes1' (main (Or.inl ⟨a', b'⟩)))) (fun n1 => no0' (q_isWithin (fun a' b' => yes1 (yes1' (main (Or.inr ⟨a', b'⟩)))) (fun n2 => no0 (no0' ?_))))
  intro u1 eu1
  exact q5_isSheet1 hk (yes1' (q5_isSort1 a b (yes1 (q5_within1 c d (yes1 (q5_within0 n1 (no0' (q5_within0 n2 (no0' ⟨trivial, by rw [eu1]; exact h0⟩)))))))))
