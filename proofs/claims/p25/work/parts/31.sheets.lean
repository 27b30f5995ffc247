/-! ===== sheets: the class and the reference side by side ===== -/
theorem nI_sub {i m : Nat} (h : i ≤ m) : nI m - nI i = nI (m - i) := by
  have : nI m = nI (m - i) + nI i := by rw [nI_add]; congr 1; omega
  rw [this, Int32.add_sub_cancel]
theorem q_isSheet {p : Int32} {post : Int32 → Prop} (h1 : ∀ k, k < 4 → p = nI k → post 1) (h0 : (∀ k, k < 4 → p ≠ nI k) → post 0) : Q_X4_isSheet p post := by
  refine q_isWithin (fun a b => ⟨Or.inr rfl, ?_⟩) (fun a => ⟨Or.inl rfl, h0 (fun k hk e => a ?_)⟩)
  · obtain ⟨k, e, h, h'⟩ := rngI (a := 0) (b := 3) (by omega) a b (by omega)
    exact h1 k (by omega) e
  · rw [e]; exact (nrng (a := 0) (b := 3) (by omega) (by omega) (by omega)).mpr (by omega)
theorem q5_isSheet1 {k : Nat} {post : Int32 → Prop} (hk : k < 4) (h : post 1) : Q_X5_isSheet (nI k) post :=
  q5_within (fun _ _ => ⟨Or.inr rfl, h⟩) (fun a => absurd ((nrng (a := 0) (b := 3) (by omega) (by omega) (by omega)).mpr (by omega)) a)
theorem q5_isSheet0 {p : Int32} {post : Int32 → Prop} (hk : ∀ k, k < 4 → p ≠ nI k) (h : post 0) : Q_X5_isSheet p post := by
  refine q5_within (fun a b => ?_) (fun a => ⟨Or.inl rfl, h⟩)
  obtain ⟨k, e, h, h'⟩ := rngI (a := 0) (b := 3) (by omega) a b (by omega)
  exact absurd e (hk k (by omega))
theorem q5_within1 {x lo hi : Int32} {post : Int32 → Prop} (h1 : lo ≤ x) (h2 : x ≤ hi) (h : post 1) : Q_X5_within x lo hi post := q5_within (fun _ _ => h) (fun c => absurd ⟨h1, h2⟩ c)
theorem q5_within0 {x lo hi : Int32} {post : Int32 → Prop} (h0 : ¬ (lo ≤ x ∧ x ≤ hi)) (h : post 0) : Q_X5_within x lo hi post := q5_within (fun a b => absurd ⟨a, b⟩ h0) (fun _ => h)
theorem q5_isSort1 {x : Int32} {post : Int32 → Prop} (h1 : 0 ≤ x) (h2 : x ≤ 2) (h : post 1) : Q_X5_isSort x post := q5_within1 h1 h2 ⟨Or.inr rfl, h⟩
theorem q5_isSort0 {x : Int32} {post : Int32 → Prop} (h0 : ¬ (0 ≤ x ∧ x ≤ 2)) (h : post 0) : Q_X5_isSort x post := q5_within0 h0 ⟨Or.inl rfl, h⟩
theorem lane3 {x : Int32} (h1 : 0 ≤ x) (h2 : x ≤ 2) : ∃ l, l < 3 ∧ x = nI l := by
  obtain ⟨k, e, h, h'⟩ := rngI (a := 0) (b := 2) (by omega) h1 h2 (by omega)
  exact ⟨k, by omega, e⟩
theorem cellsI {m : Nat} (hm : m ≤ 60) {p q : Int32} : (¬ p < 0 ∧ ¬ nI m < p ∧ ¬ q < 0 ∧ ¬ nI m - p < q) ↔ ∃ i n, i + n ≤ m ∧ p = nI i ∧ q = nI n := by
  constructor
  · rintro ⟨h1, h2, h3, h4⟩
    obtain ⟨i, e, _, hi⟩ := rngI (a := 0) (b := m) (by omega) (Int32.not_lt.mp h1) (Int32.not_lt.mp h2) (by omega)
    subst e
    rw [nI_sub hi] at h4
    obtain ⟨n, e, _, hn⟩ := rngI (a := 0) (b := m - i) (by omega) (Int32.not_lt.mp h3) (Int32.not_lt.mp h4) (by omega)
    exact ⟨i, n, by omega, rfl, e⟩
  · rintro ⟨i, n, h, rfl, rfl⟩
    refine ⟨nI_neg (by omega), ?_, nI_neg (by omega), ?_⟩
    · rw [nI_ltI (by omega) (by omega)]; omega
    · rw [nI_sub (by omega), nI_ltI (by omega) (by omega)]; omega
theorem cellI {m : Nat} (hm : m ≤ 60) {p : Int32} : (0 ≤ p ∧ p ≤ nI m - 1) ↔ ∃ i, i < m ∧ p = nI i := by
  rcases Nat.eq_zero_or_pos m with rfl | h0
  · constructor
    · rintro ⟨a, b⟩
      exact absurd (Int32.le_trans a b) (by decide)
    · rintro ⟨i, hi, _⟩; omega
  · rw [show nI m - 1 = nI (m - 1) from nI_sub (i := 1) h0]
    constructor
    · rintro ⟨a, b⟩
      obtain ⟨i, e, _, hi⟩ := rngI (a := 0) (b := m - 1) (by omega) a b (by omega)
      exact ⟨i, by omega, e⟩
    · rintro ⟨i, hi, rfl⟩
      exact (nrng (a := 0) (by omega) (by omega) (by omega)).mpr (by omega)
section X2
variable {f : FF} {v : VV} {post : Int32 → Prop}
theorem q_isNothing (h1 : v 0 = -1 → post 1) (h0 : ¬ v 0 = -1 → post 0) : Q_X2_isNothing f v post := ⟨h0, h1⟩
theorem q_hasCell {m : Nat} {p : Int32} (hm : m ≤ 60) (e : v 1 = nI m) (h1 : ∀ i, i < m → p = nI i → post 1) (h0 : (¬ ∃ i, i < m ∧ p = nI i) → post 0) : Q_X2_hasCell p f v post := by
  unfold Q_X2_hasCell
  rw [e]
  refine ⟨fun c => h0 ?_, fun c => ⟨fun c2 => h0 ?_, fun c2 => ?_⟩⟩
  · rintro ⟨i, hi, rfl⟩; exact nI_neg (by omega) c
  · rintro ⟨i, hi, rfl⟩; rw [le_nI (by omega) (by omega)] at c2; omega
  · obtain ⟨j, hj, ej⟩ := nI_rng (by omega) c c2
    exact h1 j hj ej
theorem q_hasCells {m : Nat} {p q : Int32} (hm : m ≤ 60) (e : v 1 = nI m) (h1 : ∀ i n, i + n ≤ m → p = nI i → q = nI n → post 1) (h0 : (¬ ∃ i n, i + n ≤ m ∧ p = nI i ∧ q = nI n) → post 0) : Q_X2_hasCells p q f v post := by
  unfold Q_X2_hasCells
  rw [e]
  have H := cellsI hm (p := p) (q := q)
  refine ⟨fun c => h0 (fun z => (H.mpr z).1 c), fun c => ⟨fun c2 => h0 (fun z => (H.mpr z).2.1 c2), fun c2 => ⟨fun c3 => h0 (fun z => (H.mpr z).2.2.1 c3), fun c3 => ⟨fun c4 => h0 (fun z => (H.mpr z).2.2.2 c4), fun c4 => ?_⟩⟩⟩⟩
  obtain ⟨i, n, h, e1, e2⟩ := H.mp ⟨c, c2, c3, c4⟩
  exact h1 i n h e1 e2
theorem q_faultAs {p : Int32} (h1 : v 0 = -1 → post 1) (h2 : ¬ v 0 = -1 → ¬ v 0 = p → post 2) (h0 : ¬ v 0 = -1 → v 0 = p → post 0) : Q_X2_faultAs p f v post :=
  q_isNothing (fun e => ⟨fun c => absurd c (by decide), fun _ => h1 e⟩) (fun e => ⟨fun _ => ⟨h2 e, h0 e⟩, fun c => absurd rfl c⟩)
theorem q_rn_loop {m : Nat} {x1 : Int32} {K : Int32 → FF → VV → Prop} {f0 : FF} (hm : m ≤ 60) (hK : ∀ x f, (∀ i, i < m → f 0 i = 0) → (∀ j, j ≠ 0 → f j = f0 j) → K x f v) :
    ∀ (d k : Nat) (f : FF), k + d = m → (∀ i, i < k → f 0 i = 0) → (∀ j, j ≠ 0 → f j = f0 j) → Q_X2_renew_L12 x1 (nI m) K (d + 1) (nI k) f v := by
  intro d
  induction d with
  | zero =>
    intro k f hk h1 h2
    rw [Q_X2_renew_L12, show k = m by omega]
    exact ⟨fun _ => hK _ f (by rw [show m = k by omega]; exact h1) h2, fun c => absurd (Int32.le_refl _) c⟩
  | succ d ih =>
    intro k f hk h1 h2
    rw [Q_X2_renew_L12]
    refine ⟨fun c => absurd ((le_nI (by omega) (by omega)).mp c) (by omega), fun _ => ⟨vi_nI (by omega) (by omega), fun f1 e1 x ex => ?_⟩⟩
    rw [ex, nI_1]
    rw [wrN (by omega)] at e1
    refine ih (k + 1) f1 (by omega) (fun i hi => ?_) (fun j hj => by rw [e1, fu_ne hj, h2 j hj])
    rw [e1, fu_eq]
    rcases Nat.lt_succ_iff_lt_or_eq.mp hi with hi | rfl
    · rw [upd_ne (by omega), h1 i hi]
    · rw [upd_eq]
theorem q_renew {m : Nat} {p : Int32} {pos : FF → VV → Prop} (hm : m ≤ 60) (h : ∀ f' v', v' 0 = p → v' 1 = nI m → (∀ i, i < m → f' 0 i = 0) → pos f' v') : Q_X2_renew p (nI m) f v pos := by
  intro v1 e1 v2 e2
  refine ⟨m + 1, q_rn_loop (f0 := f) hm (fun _ f' a _ => h f' v2 ?_ ?_ a) m 0 f (by omega) (fun _ h => absurd h (by omega)) (fun _ _ => rfl)⟩
  · rw [e2, fu_ne (by decide), e1, fu_eq]
  · rw [e2, fu_eq]
theorem q_oneIf {p : Int32} (h : post (if p = 0 then 0 else 1)) : Q_X4_oneIf p post := ⟨fun c => by rw [if_pos c] at h; exact h, fun c => by rw [if_neg c] at h; exact h⟩
end X2
/-- a sheet has changed, and all else stays -/
theorem Rel0.sheet {k : Nat} {f f' : FF} {v v' : VV} {g g' : FF} {u u' : VV} (h : Rel0 f v g u) (hk : k < 4) (h1 : ∀ j, j < 12 → j ≠ 1 + k → f' j = f j) (h2 : ∀ i, i < 13 → i ≠ 3 + 2 * k → i ≠ 4 + 2 * k → v' i = v i)
    (h3 : ∀ j, j < 10 ∨ j = 16 → j ≠ 0 → j ≠ 1 → j ≠ 2 → g' j = g j) (h4 : ∀ i, i < 4 → i ≠ k → g' 0 i = g 0 i) (h5 : ∀ i, i < 4 → i ≠ k → g' 1 i = g 1 i) (h6 : ∀ k', k' < 4 → k' ≠ k → ∀ i, i < 60 → g' 2 (60 * k' + i) = g 2 (60 * k' + i)) (h7 : ∀ i, i < 4 ∨ i = 8 → u' i = u i) (h8 : ShR k f' v' g') : Rel0 f' v' g' u' := by
  obtain ⟨hs, ⟨n, t, p1, p2, p3, p4, p5⟩, ⟨c, r1, r2, r3, r4⟩, ht, hf⟩ := h
  refine ⟨fun k' hk' => ?_, ⟨n, t, ?_, ?_, p3, ?_, p5.of (h1 8 (by omega) (by omega)) (h1 9 (by omega) (by omega))⟩, ⟨c, r1, ?_, ?_, ?_⟩, ?_, ?_⟩
  · by_cases e : k' = k
    · rw [e]; exact h8
    · exact (hs k' hk').of (h1 _ (by omega) (by omega)) (h2 _ (by omega) (by omega) (by omega)) (h2 _ (by omega) (by omega) (by omega)) (h4 k' hk' e) (h5 k' hk' e) (h6 k' hk' e)
  · exact p1.rows (fun j hj => h1 (5 + j) (by omega) (by omega)) (h2 11 (by omega) (by omega) (by omega)) (h2 12 (by omega) (by omega) (by omega))
  · exact p2.rows (fun j hj => h3 (3 + j) (by omega) (by omega) (by omega) (by omega)) (h7 2 (by omega)) (h7 3 (by omega))
  · exact p4.of (fun r hr => h1 (5 + r) (by omega) (by omega)) (fun r hr => h3 (3 + r) (by omega) (by omega) (by omega) (by omega))
  · rw [h2 0 (by omega) (by omega) (by omega)]; exact r2
  · rw [h7 8 (by omega)]; exact r3
  · intro i hi; rw [h1 0 (by omega) (by omega), h3 16 (by omega) (by omega) (by omega) (by omega)]; exact r4 i hi
  · rw [h2 1 (by omega) (by omega) (by omega), h7 1 (by omega)]; exact ht
  · rw [h2 2 (by omega) (by omega) (by omega), h7 0 (by omega)]; exact hf
theorem n60 (k i : Nat) : (60 : Int32) * nI k + nI i = nI (60 * k + i) := by rw [show (60 : Int32) * nI k = nI (60 * k) from pk_mul 60 k, nI_add]
theorem q5_sh_loop {k : Nat} {x2 x3 : Int32} {K : Int32 → FF → VV → Prop} {g0 : FF} {u : VV} (hk : k < 4) (hK : ∀ x g, (∀ i, i < 60 → g 2 (60 * k + i) = 0) → (∀ x, x < 60 * k ∨ 60 * k + 60 ≤ x → g 2 x = g0 2 x) → (∀ j, j ≠ 2 → g j = g0 j) → K x g u) :
    ∀ (d c : Nat) (g : FF), c + d = 60 → (∀ i, i < c → g 2 (60 * k + i) = 0) → (∀ x, x < 60 * k ∨ 60 * k + 60 ≤ x → g 2 x = g0 2 x) → (∀ j, j ≠ 2 → g j = g0 j) → Q_X5_sheet_L57 (nI k) x2 x3 K (d + 1) (nI c) g u := by
  intro d
  induction d with
  | zero =>
    intro c g hc h1 h2 h3
    rw [Q_X5_sheet_L57, show c = 60 by omega]
    exact ⟨fun _ => hK _ g (fun i hi => h1 i (by omega)) h2 h3, fun c => absurd (Int32.le_refl _) c⟩
  | succ d ih =>
    intro c g hc h1 h2 h3
    rw [Q_X5_sheet_L57, n60]
    refine ⟨fun z => absurd ((le_nI (a := 60) (by omega) (by omega)).mp z) (by omega), fun _ => ⟨vi_nI (by omega) (by omega), fun g1 e1 x ex => ?_⟩⟩
    rw [ex, nI_1]
    rw [wrN (by omega)] at e1
    refine ih (c + 1) g1 (by omega) (fun i hi => ?_) (fun x hx => ?_) (fun j hj => by rw [e1, fu_ne hj, h3 j hj])
    · rw [e1, fu_eq]
      rcases Nat.lt_succ_iff_lt_or_eq.mp hi with hi | rfl
      · rw [upd_ne (by omega), h1 i hi]
      · rw [upd_eq]
    · rw [e1, fu_eq, upd_ne (by omega), h2 x hx]
theorem op_sheet (p0 p1 p2 : Int32) (f : FF) (v : VV) (g : FF) (u : VV) (h : Rel0 f v g u) : Q_X4_sheet p0 p1 p2 f v (fun r f1 v1 => Q_X5_sheet p0 p1 p2 g u (fun r' g1 u1 => r = r' ∧ Rel0 f1 v1 g1 u1)) := by
  intro v1 ev1
  have h0 := h.fault 0
  rw [← ev1] at h0
  refine q_isSheet (fun k hk ek => yes1' ?_) (fun hk => no0' ?_)
  · subst ek
    refine q_isWithin (fun a b => yes1 ⟨fun c => ⟨fun c2 => ?_, fun c2 => ?_⟩, fun c => ?_⟩) (fun a => no0 ?_)
    · obtain ⟨l, hl, el⟩ := lane3 a b
      obtain ⟨m, em, _, hm⟩ := rngI (a := 0) (b := 60) (by omega) c2 c (by omega)
      subst em
      refine ⟨vi_nI (by omega) (by omega), ?_⟩
      rw [nI_clamp (by omega)]
      refine q_renew hm (fun f10 v11 w0 w1 w2 f12 e12 v13 e13 => ?_)
      intro u1 eu1
      rw [← eu1] at h0
      refine q5_isSheet1 hk (yes1' (q5_isSort1 a b (yes1 ⟨fun _ => ⟨fun _ => ⟨vi_nI (by omega) (by omega), fun g9 e9 => ⟨vi_nI (by omega) (by omega), fun g11 e11 => ⟨61, ?_⟩⟩⟩, fun z => absurd c2 z⟩, fun z => absurd c z⟩)))
      rw [wrN (by omega)] at e9 e11
      refine q5_sh_loop (g0 := g11) hk (fun x g' a1 a2 a3 => ⟨rfl, ?_⟩) 60 0 g11 (by omega) (fun _ h => absurd h (by omega)) (fun _ _ => rfl) (fun _ _ => rfl)
      have b0 : g' 0 = upd (g 0) k p1 := by rw [a3 0 (by decide), e11, fu_ne (by decide), e9, fu_eq]
      have b1 : g' 1 = upd (g 1) k (nI m) := by rw [a3 1 (by decide), e11, fu_eq, e9, fu_ne (by decide)]
      refine h0.sheet hk (fun j h1 h2 => by rw [e12, mg_out (by omega)]) (fun i h1 h2 h3 => by rw [e13, mg_out (by omega)]) (fun j h1 h2 h3 h4 => by rw [a3 j h4, e11, fu_ne h3, e9, fu_ne h2]) (fun i h1 h2 => by rw [b0, upd_ne h2]) (fun i h1 h2 => by rw [b1, upd_ne h2]) (fun k' h1 h2 i h3 => ?_) (fun _ _ => rfl) (Or.inr ⟨l, m, hl, hm, ?_, ?_, ?_, ?_, fun i hi => ?_⟩)
      · rw [a2 _ (by omega), e11, fu_ne (by decide), e9, fu_ne (by decide)]
      · rw [e13, ← el]; exact (mg_at (i := 0) (by decide)).trans w0
      · rw [b0, upd_eq, el]
      · rw [e13, show 4 + 2 * k = 3 + 2 * k + 1 by omega]; exact (mg_at (i := 1) (by decide)).trans w1
      · rw [b1, upd_eq]
      · rw [a1 i (by omega), e12]
        exact (congrFun (mg_at (b := 1 + k) (i := 0) (n := 1) (by decide)) i).trans (w2 i hi)
    · intro v2 ev2 u1 eu1
      rw [← eu1] at h0
      refine q5_isSheet1 hk (yes1' (q5_isSort1 a b (yes1 ⟨fun _ => ⟨fun z => absurd z c2, fun _ u2 eu2 => ⟨rfl, ?_⟩⟩, fun z => absurd c z⟩)))
      rw [ev2, eu2]; exact h0.fault 4
    · intro u1 eu1
      rw [← eu1] at h0
      exact q5_isSheet1 hk (yes1' (q5_isSort1 a b (yes1 ⟨fun z => absurd z c, fun _ => ⟨rfl, h0⟩⟩)))
    · intro u1 eu1
      rw [← eu1] at h0
      exact q5_isSheet1 hk (yes1' (q5_isSort0 a (no0 ⟨rfl, h0⟩)))
  · intro u1 eu1
    rw [← eu1] at h0
    exact q5_isSheet0 hk (no0' ⟨rfl, h0⟩)
theorem op_lose (p0 : Int32) (f : FF) (v : VV) (g : FF) (u : VV) (h : Rel0 f v g u) : Q_X4_lose p0 f v (fun r f1 v1 => Q_X5_lose p0 g u (fun r' g1 u1 => r = r' ∧ Rel0 f1 v1 g1 u1)) := by
  refine q_isSheet (fun k hk ek => yes1' ?_) (fun hk => no0' (q5_isSheet0 hk (no0' ⟨rfl, h⟩)))
  subst ek
  have vk : vp_in (nI k) 4 := vi_nI (by omega) (by omega)
  refine ⟨vk, ?_⟩
  rw [nI_clamp (by omega)]
  have go : ∀ (f11 : FF) (v2 v12 : VV) (g6 : FF), f11 = mg f (1 + k) 1 (sb f (1 + k)) → v2 0 = -1 → v12 = mg v (3 + 2 * k) 2 v2 → g6 = fu g 0 (wr (g 0) (nI k) (-9)) → Rel0 f11 v12 g6 u := by
    intro f11 v2 v12 g6 e11 e2 e12 e6
    rw [mg_sb] at e11
    subst e11
    rw [wrN (by omega)] at e6
    refine h.sheet hk (fun _ _ _ => rfl) (fun i h1 h2 h3 => by rw [e12, mg_out (by omega)]) (fun j h1 h2 h3 h4 => by rw [e6, fu_ne h2]) (fun i h1 h2 => by rw [e6, fu_eq, upd_ne h2]) (fun i h1 h2 => by rw [e6, fu_ne (by decide)]) (fun k' h1 h2 i h3 => by rw [e6, fu_ne (by decide)]) (fun _ _ => rfl) (Or.inl ⟨?_, by rw [e6, fu_eq, upd_eq]⟩)
    rw [e12]; exact (mg_at (i := 0) (by decide)).trans e2
  have hs := h.1 k hk
  refine q_isNothing (fun e => yes1' (q_oneIf ⟨vk, fun v1 e1 v2 e2 f11 e11 v12 e12 => ?_⟩)) (fun e => no0' (q_oneIf ⟨vk, fun v1 e1 v2 e2 f11 e11 v12 e12 => ?_⟩))
  · have e : v (3 + 2 * k) = -1 := e
    have g9 : g 0 k = -9 := by
      rcases hs with hs | ⟨l, m, a1, a2, a3, _⟩
      · exact hs.2
      · rw [a3] at e; exact absurd e ((by decide : ∀ l, l < 3 → ¬ nI l = -1) l a1)
    refine q5_isSheet1 hk (yes1' ⟨vk, ?_⟩)
    rw [nI_clamp (by omega)]
    exact ⟨fun c => absurd g9 c, fun _ => ⟨vk, fun g6 e6 => ⟨rfl, go f11 v2 v12 g6 e11 (by rw [e2, fu_ne (by decide), e1, fu_eq]) e12 e6⟩⟩⟩
  · have e : ¬ v (3 + 2 * k) = -1 := e
    have g9 : ¬ g 0 k = -9 := by
      rcases hs with hs | ⟨l, m, a1, a2, a3, a4, _⟩
      · exact absurd hs.1 e
      · rw [a4]; exact (by decide : ∀ l, l < 3 → ¬ nI l = -9) l a1
    refine q5_isSheet1 hk (yes1' ⟨vk, ?_⟩)
    rw [nI_clamp (by omega)]
    exact ⟨fun _ => ⟨vk, fun g6 e6 => ⟨rfl, go f11 v2 v12 g6 e11 (by rw [e2, fu_ne (by decide), e1, fu_eq]) e12 e6⟩⟩, fun c => absurd c g9⟩
