theorem sb0 {α : Type} (f : Nat → α) : sb f 0 = f := funext (fun j => congrArg f (Nat.zero_add j))
theorem mg_sb {α : Type} (f : Nat → α) (b n : Nat) : mg f b n (sb f b) = f := by
  funext j
  unfold mg sb
  split
  · rename_i h
    congr 1
    omega
  · rfl
/-- what find leaves: f0 the rows at its start -/
def Found (n t : Nat) (f0 f : FF) (v : VV) : Prop :=
  (∀ i, i < 7 → f i = f0 i) ∧ f 12 = f0 12 ∧ (∀ i, i < t → f 9 i = bs (kt' f0 n i) (4 * n)) ∧ (∀ i, i < t → f 11 i = wgt (f0 3 i) (f0 4 i)) ∧ (∀ q, q < 4 * n → f 10 q = bs (fun i => kt' f0 n i q) t) ∧ v 0 = nI n ∧ v 1 = nI t ∧ v 2 = nI t ∧ v 3 = nI (4 * n) ∧ v 4 = bs (fun q => (List.range t).any (fun i => kt' f0 n i q)) (4 * n)
section FN
variable {n t : Nat} {f0 : FF} {v0' : VV}
theorem q_fz_loop {K : Int32 → FF → VV → Prop} {v : VV} (hm : 4 * n ≤ 20) (e3 : v 3 = nI (4 * n))
    (hE : ∀ x2 f, (∀ i, i ≠ 10 → f i = f0 i) → (∀ q, q < 4 * n → f 10 q = 0) → K x2 f v) :
    ∀ (d k : Nat) (f : FF), k + d = 4 * n → (∀ i, i ≠ 10 → f i = f0 i) → (∀ q, q < k → f 10 q = 0) → Q_X0_find_L23 K (d + 1) (nI k) f v := by
  intro d
  induction d with
  | zero =>
    intro k f hk h1 h2
    rw [Q_X0_find_L23, e3]
    exact ⟨fun _ => hE _ f h1 (fun q hq => h2 q (by omega)), fun c => absurd (by rw [show k = 4 * n by omega]; exact Int32.le_refl _) c⟩
  | succ d ih =>
    intro k f hk h1 h2
    rw [Q_X0_find_L23, e3]
    refine ⟨fun c => absurd ((le_nI (by omega) (by omega)).mp c) (by omega), fun _ => ⟨vi_nI (by omega) (by omega), fun f1 ef1 x1 ex1 => ?_⟩⟩
    rw [ex1, nI_1]
    refine ih (k + 1) f1 (by omega) (fun i hi => by rw [ef1, fu_ne hi]; exact h1 i hi) (fun q hq => ?_)
    rw [ef1, fu_eq]
    show upd (f 10) (nI k).toNatClampNeg 0 q = 0
    rw [nI_clamp (by omega)]
    by_cases hqk : q = k
    · rw [hqk, upd_eq]
    · rw [upd_ne hqk]; exact h2 q (by omega)
theorem bit_shl (x : Int32) {k j : Nat} (hk : k < 32) (hj : j < 32) : ((x >>> (nI k &&& 31)) &&& 1) <<< (nI j &&& 31) = if bt x k = true then (1 : Int32) <<< (nI j &&& 31) else 0 := by
  rw [shr1 x hk]
  split
  · rfl
  · exact (by decide +kernel : ∀ j, j < 32 → (0 : Int32) <<< (nI j &&& 31) = 0) j hj
theorem q_fi_loop {j : Nat} {g : Nat → Nat → Bool} {K : Int32 → FF → VV → Prop} {v : VV} {f1 : FF} (hm : 4 * n ≤ 20) (hj : j < 7) (e3 : v 3 = nI (4 * n)) (h9 : f1 9 j = bs (g j) (4 * n)) (h10 : ∀ q, q < 4 * n → f1 10 q = bs (fun i => g i q) j)
    (hE : ∀ x3 f, (∀ i, i ≠ 10 → f i = f1 i) → (∀ q, q < 4 * n → f 10 q = bs (fun i => g i q) (j + 1)) → K x3 f v) :
    ∀ (d k : Nat) (f : FF), k + d = 4 * n → (∀ i, i ≠ 10 → f i = f1 i) → (∀ q, q < k → f 10 q = bs (fun i => g i q) (j + 1)) → (∀ q, k ≤ q → q < 4 * n → f 10 q = bs (fun i => g i q) j) → Q_X0_find_L93 (nI j) K (d + 1) (nI k) f v := by
  intro d
  induction d with
  | zero =>
    intro k f hk h1 h2 h3
    rw [Q_X0_find_L93, e3]
    exact ⟨fun _ => hE _ f h1 (fun q hq => h2 q (by omega)), fun c => absurd (by rw [show k = 4 * n by omega]; exact Int32.le_refl _) c⟩
  | succ d ih =>
    intro k f hk h1 h2 h3
    rw [Q_X0_find_L93, e3]
    refine ⟨fun c => absurd ((le_nI (by omega) (by omega)).mp c) (by omega), fun _ => ⟨vi_nI (by omega) (by omega), vi_nI (by omega) (by omega), vi_nI (by omega) (by omega), fun f2 ef2 x1 ex1 => ?_⟩⟩
    rw [ex1, nI_1]
    rw [nI_clamp (by omega), nI_clamp (by omega), h1 9 (by decide), h9, bit_shl _ (by omega) (by omega), bt_bs _ _ (by omega) k (by omega), decide_eq_true (show k < 4 * n by omega), Bool.true_and, h3 k (by omega) (by omega)] at ef2
    refine ih (k + 1) f2 (by omega) (fun i hi => by rw [ef2, fu_ne hi]; exact h1 i hi) (fun q hq => ?_) (fun q hq hq2 => ?_)
    · rw [ef2, fu_eq]
      show upd (f 10) (nI k).toNatClampNeg _ q = _
      rw [nI_clamp (by omega)]
      by_cases hqk : q = k
      · rw [hqk, upd_eq]; rfl
      · rw [upd_ne hqk]; exact h2 q (by omega)
    · rw [ef2, fu_eq]
      show upd (f 10) (nI k).toNatClampNeg _ q = _
      rw [nI_clamp (by omega), upd_ne (by omega)]
      exact h3 q (by omega) hq2
/-- the state of find's outer loop, behind j tests -/
def Fo (n t : Nat) (f0 : FF) (j : Nat) (f : FF) (v : VV) : Prop :=
  (∀ i, i < 7 → f i = f0 i) ∧ f 12 = f0 12 ∧ (∀ i, i < j → f 9 i = bs (kt' f0 n i) (4 * n)) ∧ (∀ i, i < j → f 11 i = wgt (f0 3 i) (f0 4 i)) ∧ (∀ q, q < 4 * n → f 10 q = bs (fun i => kt' f0 n i q) j) ∧ v 0 = nI n ∧ v 1 = nI t ∧ v 2 = nI t ∧ v 3 = nI (4 * n) ∧ v 4 = bs (fun q => (List.range j).any (fun i => kt' f0 n i q)) (4 * n)
theorem q_fo_loop {K : Int32 → FF → VV → Prop} {v00 : VV} (hP : PI n t f0 v00) (hE : ∀ x2 f v, Fo n t f0 t f v → K x2 f v) :
    ∀ (d j : Nat) (f : FF) (v : VV), j + d = t → Fo n t f0 j f v → Q_X0_find_L46 K (d + 1) (nI j) f v := by
  have hn := hP.1
  have ht := hP.2.1
  have hok := hP.2.2.2.2
  intro d
  induction d with
  | zero =>
    intro j f v hj hF
    rw [Q_X0_find_L46, hF.2.2.2.2.2.2.2.1]
    have : j = t := by omega
    subst this
    exact ⟨fun _ => hE _ f v hF, fun c => absurd (Int32.le_refl _) c⟩
  | succ d ih =>
    intro j f v hj hF
    obtain ⟨a1, a2, a3, a4, a5, b0, b1, b2, b3, b4⟩ := hF
    rw [Q_X0_find_L46, b2, sb0, sb0]
    have hPf : PI n t f v := ⟨hn, ht, b0, b1, fun k hk => by rw [a1 1 (by decide), a1 2 (by decide)]; exact hok k hk⟩
    refine ⟨fun c => absurd ((le_nI (by omega) (by omega)).mp c) (by omega), fun _ => q_weight hPf (by omega) ⟨vi_nI (by omega) (by omega), fun f1 ef1 => ?_⟩⟩
    rw [sb0]
    have g1 : ∀ i, i ≠ 11 → f1 i = f i := fun i hi => by rw [ef1, fu_ne hi]
    have hP1 : PI n t f1 v := ⟨hn, ht, b0, b1, fun k hk => by rw [g1 1 (by decide), g1 2 (by decide)]; exact hPf.2.2.2.2 k hk⟩
    refine q_killedByTest hP1 (by omega) (fun f2 h2 f3 ef3 v3 ev3 => ?_)
    have ev : v3 = v := by
      rw [ev3]
      have := mg_sb v 0 2
      rw [sb0] at this
      exact this
    subst ev
    have ekt : ∀ (q : Nat), kt' f1 n j q = kt' f0 n j q := fun q => by
      unfold kt'
      rw [g1 0 (by decide), g1 1 (by decide), g1 2 (by decide), g1 5 (by decide), g1 6 (by decide), a1 0 (by decide), a1 1 (by decide), a1 2 (by decide), a1 5 (by decide), a1 6 (by decide)]
    have g3 : ∀ i, i < 7 → f3 i = f0 i := fun i hi => by
      rw [ef3, mg_in (by omega) (by omega), Nat.sub_zero, h2 i (by omega) (by omega), g1 i (by omega)]
      exact a1 i hi
    have g4 : ∀ i, 9 ≤ i → i ≠ 11 → f3 i = f i := fun i hi hi2 => by rw [ef3, mg_out (by omega), g1 i hi2]
    have g5 : f3 11 = f1 11 := by rw [ef3, mg_out (by omega)]
    refine ⟨vi_nI (by omega) (by omega), fun f4 ef4 => ⟨vi_nI (by omega) (by omega), fun v4 ev4 => ?_⟩⟩
    have c4 : (nI j).toNatClampNeg = j := nI_clamp (by omega)
    have e49 : f4 9 j = bs (kt' f0 n j) (4 * n) := by
      rw [ef4, fu_eq]
      show upd (f3 9) (nI j).toNatClampNeg _ j = _
      rw [c4, upd_eq]
      exact bs_cong (fun q _ => ekt q)
    have e4 : ∀ i, i ≠ 9 → f4 i = f3 i := fun i hi => by rw [ef4, fu_ne hi]
    have w4 : ∀ i, i ≠ 4 → v4 i = v3 i := fun i hi => by rw [ev4, fu_ne hi]
    rw [c4, e49] at ev4
    refine ⟨4 * n + 1, q_fi_loop (n := n) (j := j) (g := kt' f0 n) (f1 := f4) (by omega) (by omega) (by rw [w4 3 (by decide)]; exact b3) e49 (fun q hq => by rw [e4 10 (by decide), g4 10 (by decide) (by decide)]; exact a5 q hq) (fun x3 f5 h5 h6 x4 ex4 => ?_) (4 * n) 0 f4 (by omega) (fun _ _ => rfl) (fun q hq => by omega) (fun q _ hq => by rw [e4 10 (by decide), g4 10 (by decide) (by decide)]; exact a5 q hq)⟩
    rw [ex4, nI_1]
    refine ih (j + 1) f5 v4 (by omega) ⟨fun i hi => ?_, ?_, fun i hi => ?_, fun i hi => ?_, h6, ?_, ?_, ?_, ?_, ?_⟩
    · rw [h5 i (by omega), e4 i (by omega)]; exact g3 i hi
    · rw [h5 12 (by decide), e4 12 (by decide), g4 12 (by decide) (by decide)]; exact a2
    · rw [h5 9 (by decide)]
      by_cases hij : i = j
      · rw [hij]; exact e49
      · rw [ef4, fu_eq]
        show upd (f3 9) (nI j).toNatClampNeg _ i = _
        rw [c4, upd_ne hij, g4 9 (by decide) (by decide)]
        exact a3 i (by omega)
    · rw [h5 11 (by decide), e4 11 (by decide), g5, ef1, fu_eq]
      show upd (f 11) (nI j).toNatClampNeg _ i = _
      rw [c4]
      by_cases hij : i = j
      · rw [hij, upd_eq, a1 3 (by decide), a1 4 (by decide)]
      · rw [upd_ne hij]; exact a4 i (by omega)
    · rw [w4 0 (by decide)]; exact b0
    · rw [w4 1 (by decide)]; exact b1
    · rw [w4 2 (by decide)]; exact b2
    · rw [w4 3 (by decide)]; exact b3
    · rw [ev4, fu_eq, b4, bs_or (by omega)]
      refine bs_cong (fun q _ => ?_)
      rw [List.range_succ, List.any_append]
      simp
theorem q_find {f : FF} {v : VV} {post : FF → VV → Prop} (hP : PI n t f v) (h : ∀ f' v', Found n t f f' v' → post f' v') : Q_X0_find f v post := by
  have hn := hP.1
  have ht := hP.2.1
  unfold Q_X0_find
  intro v1 ev1
  rw [sb0, sb0]
  have w1 : ∀ i, i ≠ 2 → v1 i = v i := fun i hi => by rw [ev1, fu_ne hi]
  have hP1 : PI n t f v1 := ⟨hn, ht, by rw [w1 0 (by decide)]; exact hP.2.2.1, by rw [w1 1 (by decide)]; exact hP.2.2.2.1, hP.2.2.2.2⟩
  refine q_mutants hP1 (fun v3 ev3 v4 ev4 => ⟨4 * n + 1, ?_⟩)
  have x4 : v4 4 = 0 := by rw [ev4, fu_eq]
  have x3 : v4 3 = nI (4 * n) := by rw [ev4, fu_ne (by decide), ev3, fu_eq]
  have x2 : v4 2 = nI t := by rw [ev4, fu_ne (by decide), ev3, fu_ne (by decide), ev1, fu_eq]; exact hP.2.2.2.1
  have x1 : v4 1 = nI t := by rw [ev4, fu_ne (by decide), ev3, fu_ne (by decide), w1 1 (by decide)]; exact hP.2.2.2.1
  have x0 : v4 0 = nI n := by rw [ev4, fu_ne (by decide), ev3, fu_ne (by decide), w1 0 (by decide)]; exact hP.2.2.1
  refine q_fz_loop (n := n) (f0 := f) (by omega) x3 (fun y2 f5 h5 h6 => ⟨t + 1, q_fo_loop hP (fun _ f' v' hF => h f' v' hF) t 0 f5 v4 (by omega) ⟨fun i hi => h5 i (by omega), h5 12 (by decide), fun i hi => by omega, fun i hi => by omega, fun q hq => h6 q hq, x0, x1, x2, x3, ?_⟩⟩) (4 * n) 0 f (by omega) (fun _ _ => rfl) (fun q hq => by omega)
  rw [x4]
  exact ((bs_zero (by omega)).mpr (fun _ _ => rfl)).symm
end FN
section KZ
variable {t m : Nat} {f : FF} {v : VV} {post : Int32 → Prop} {posf : Int32 → FF → VV → Prop}
/-- what is left behind c choices -/
def leftN (f : FF) (mn : Int32) (t : Nat) (kd : Int32) : Nat → Int32
  | 0 => kd
  | c + 1 => leftN f mn t kd c &&& (f 0 (best f mn (leftN f mn t kd c) t) ^^^ (-1))
theorem best_cong {f f' : FF} (h0 : f' 0 = f 0) (h2 : f' 2 = f 2) (mn left : Int32) : ∀ k, best f' mn left k = best f mn left k
  | 0 => rfl
  | k + 1 => by
    have ih := best_cong h0 h2 mn left k
    rw [best, best, h0, ih]
    unfold btr
    rw [h0, h2]
theorem q_ch_loop {mn kd : Int32} {K : Int32 → Int32 → FF → VV → Prop} (hK : KI t m v) (f0 : FF)
    (hE : ∀ c f, c ≤ t → (c = t ∨ leftN f0 mn t kd c = 0) → (∀ i, i < c → leftN f0 mn t kd i ≠ 0) → (∀ i, i ≠ 3 → f i = f0 i) → (∀ i, i < c → f 3 i = nI (best f0 mn (leftN f0 mn t kd i) t)) → K (leftN f0 mn t kd c) (nI c) f v) :
    ∀ (d c : Nat) (f : FF), c + d = t → (∀ i, i < c → leftN f0 mn t kd i ≠ 0) → (∀ i, i ≠ 3 → f i = f0 i) → (∀ i, i < c → f 3 i = nI (best f0 mn (leftN f0 mn t kd i) t)) → Q_X0_chooseTests_L7 mn K (d + 1) (leftN f0 mn t kd c) (nI c) f v := by
  have ht := hK.1
  have e1 := hK.2.2.1
  intro d
  induction d with
  | zero =>
    intro c f hc h1 h2 h3
    rw [Q_X0_chooseTests_L7, e1]
    exact ⟨fun z => hE c f (by omega) (Or.inr z) h1 h2 h3, fun _ => ⟨fun _ => hE c f (by omega) (Or.inl (by omega)) h1 h2 h3, fun z => absurd (by rw [show c = t by omega]; exact Int32.le_refl _) z⟩⟩
  | succ d ih =>
    intro c f hc h1 h2 h3
    rw [Q_X0_chooseTests_L7, e1]
    refine ⟨fun z => hE c f (by omega) (Or.inr z) h1 h2 h3, fun z => ⟨fun y => absurd ((le_nI (by omega) (by omega)).mp y) (by omega), fun _ => q_bestTest hK (by omega) ?_⟩⟩
    rw [best_cong (h2 0 (by decide)) (h2 2 (by decide))]
    have hb := best_lt f0 mn (leftN f0 mn t kd c) t (by omega)
    refine ⟨vi_nI (by omega) (by omega), fun f1 ef1 => ⟨vi_nI (by omega) (by omega), ?_⟩⟩
    have c4 : (nI c).toNatClampNeg = c := nI_clamp (by omega)
    have e3 : f1 3 c = nI (best f0 mn (leftN f0 mn t kd c) t) := by
      rw [ef1, fu_eq]
      show upd (f 3) (nI c).toNatClampNeg _ c = _
      rw [c4, upd_eq]
    have g1 : ∀ i, i ≠ 3 → f1 i = f0 i := fun i hi => by rw [ef1, fu_ne hi]; exact h2 i hi
    rw [c4, e3]
    refine ⟨vi_nI (by omega) (by omega), fun x1 ex1 x2 ex2 => ?_⟩
    rw [ex1, ex2, nI_1, nI_clamp (by omega), g1 0 (by decide)]
    refine ih (c + 1) f1 (by omega) (fun i hi => ?_) g1 (fun i hi => ?_)
    · rcases (show i < c ∨ i = c by omega) with h | h
      · exact h1 i h
      · rw [h]; exact z
    · by_cases hic : i = c
      · rw [hic]; exact e3
      · rw [ef1, fu_eq]
        show upd (f 3) (nI c).toNatClampNeg _ i = _
        rw [c4, upd_ne hic]
        exact h3 i (by omega)
theorem q_chooseTests {mn : Int32} (hK : KI t m v) (h : ∀ c f', c ≤ t → (c = t ∨ leftN f mn t (v 2) c = 0) → (∀ i, i < c → leftN f mn t (v 2) i ≠ 0) → (∀ i, i ≠ 3 → f' i = f i) → (∀ i, i < c → f' 3 i = nI (best f mn (leftN f mn t (v 2) i) t)) → posf (nI c) f' v) : Q_X0_chooseTests mn f v posf := by
  unfold Q_X0_chooseTests
  intro x1 e1
  rw [e1]
  exact ⟨t + 1, q_ch_loop (kd := v 2) hK f (fun c f' a b c1 d e => h c f' a b c1 d e) t 0 f (by omega) (fun i hi => by omega) (fun _ _ => rfl) (fun i hi => by omega)⟩
/-- the set of the first k choices -/
def setC (C : Nat → Int32) : Nat → Int32
  | 0 => 0
  | k + 1 => setC C k ||| (1 : Int32) <<< (C k &&& 31)
theorem q_cset_loop {c : Nat} {K : Int32 → Int32 → Prop} (hc : c ≤ 7) (hE : ∀ x3, K (setC (f 3) c) x3) :
    ∀ (d k : Nat), k + d = c → Q_X0_chosenSet_L4 f v (nI c) K (d + 1) (setC (f 3) k) (nI k) := by
  intro d
  induction d with
  | zero =>
    intro k hk
    rw [Q_X0_chosenSet_L4, show k = c by omega]
    exact ⟨fun _ => hE _, fun z => absurd (Int32.le_refl _) z⟩
  | succ d ih =>
    intro k hk
    rw [Q_X0_chosenSet_L4]
    have := ih (k + 1) (by omega)
    rw [setC] at this
    refine ⟨fun z => absurd ((le_nI (by omega) (by omega)).mp z) (by omega), fun _ => ⟨vi_nI (by omega) (by omega), fun x1 ex1 x2 ex2 => ?_⟩⟩
    rw [ex1, ex2, nI_1, nI_clamp (by omega)]
    exact this
theorem q_chosenSet {c : Nat} (hc : c ≤ 7) (h : post (setC (f 3) c)) : Q_X0_chosenSet (nI c) f v post := ⟨c + 1, q_cset_loop hc (fun _ => h) c 0 (by omega)⟩
end KZ
