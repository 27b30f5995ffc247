section PY
variable {n t : Nat} {f : FF} {v : VV} {post : Int32 → Prop} {posf : Int32 → FF → VV → Prop}
theorem FG.sm {x y : Int32} {f f' : FF} (h : FG n x y f) (hs : ∀ j, j ≠ 8 → f' j = f j) : FG n x y f' := by
  intro j hj
  rw [hs 7 (by decide), hs 0 (by decide), hs 1 (by decide), hs 2 (by decide)]
  exact h j hj
theorem q_ka_loop {m : Nat} {x y set : Int32} {K : Int32 → Int32 → FF → VV → Prop} {f0 : FF} (hP : PI n t f0 v) (hF : FG n x y f0) (hm : m = 4 * n)
    (hK : ∀ (x3 : Int32) (f : FF), (∀ j, j ≠ 8 → f j = f0 j) → K (bs (fun q => bt set q && kill (f0 0) (f0 1) (f0 2) n x y q) m) x3 f v) :
    ∀ (d k : Nat) (f : FF), k + d = m → (∀ j, j ≠ 8 → f j = f0 j) → Q_X1_killedAmong_L4 set K (d + 1) (bs (fun q => bt set q && kill (f0 0) (f0 1) (f0 2) n x y q) k) (nI k) f v := by
  have hn := hP.1
  have hok := hP.2.2.2.2
  intro d
  induction d with
  | zero =>
    intro k f hk hf
    rw [Q_X1_killedAmong_L4]
    have hPf : PI n t f v := hP.sm (fun j _ h => hf j h)
    refine q_mutants hPf ⟨fun c => ?_, fun c => absurd (by rw [show k = 4 * n by omega]; exact Int32.le_refl _) c⟩
    rw [show k = m by omega]
    exact hK _ f hf
  | succ d ih =>
    intro k f hk hf
    rw [Q_X1_killedAmong_L4]
    have hPf : PI n t f v := hP.sm (fun j _ h => hf j h)
    have hFf : FG n x y f := hF.sm hf
    refine q_mutants hPf ⟨fun c => ?_, fun c => ?_⟩
    · rw [le_nI (by omega) (by omega)] at c
      omega
    · rw [shr1 set (by omega)]
      have e0 : f 0 = f0 0 := hf 0 (by decide)
      have e1 : f 1 = f0 1 := hf 1 (by decide)
      have e2 : f 2 = f0 2 := hf 2 (by decide)
      refine ⟨fun c2 x' ex => ?_, fun c2 => q_effect hPf hFf (by omega) (fun f' hf' => ?_)⟩
      · rw [ex, nI_1]
        have hb : bt set k = false := by
          by_cases hb : bt set k = true
          · rw [if_pos hb] at c2; exact absurd c2 (by decide)
          · simpa using hb
        have := ih (k + 1) f (by omega) hf
        rw [bs, hb, Bool.false_and, if_neg (by decide)] at this
        rw [show (bs (fun q => bt set q && kill (f0 0) (f0 1) (f0 2) n x y q) k ||| (0 : Int32)) = bs (fun q => bt set q && kill (f0 0) (f0 1) (f0 2) n x y q) k from by apply b_ext; intro i hi; rw [b_or, b_0, Bool.or_false]] at this
        exact this
      · have hb : bt set k = true := by
          by_cases hb : bt set k = true
          · exact hb
          · rw [if_neg hb] at c2; exact absurd rfl c2
        have hf2 : ∀ j, j ≠ 8 → f' j = f0 j := fun j hj => (hf' j hj).trans (hf j hj)
        rw [e0, e1, e2]
        have hk2 := eff_2 (w := f0 0) (a := f0 1) (b := f0 2) (x := x) (y := y) (q := k) (n := n) hn (by omega) hok
        have := ih (k + 1) f' (by omega) hf2
        rw [bs, hb, Bool.true_and] at this
        refine ⟨fun c3 x' ex => ?_, fun c3 x1 ex1 x2 ex2 => ?_⟩
        · rw [ex, nI_1]
          rw [if_neg (fun z => c3 (hk2.mpr z))] at this
          rw [show (bs (fun q => bt set q && kill (f0 0) (f0 1) (f0 2) n x y q) k ||| (0 : Int32)) = bs (fun q => bt set q && kill (f0 0) (f0 1) (f0 2) n x y q) k from by apply b_ext; intro i hi; rw [b_or, b_0, Bool.or_false]] at this
          exact this
        · rw [ex1, ex2, nI_1]
          rw [if_pos (hk2.mp c3)] at this
          exact this
theorem q_killedAmong {x y set : Int32} (hP : PI n t f v) (hF : FG n x y f) (h : ∀ f' : FF, (∀ j, j ≠ 8 → f' j = f j) → posf (bs (fun q => bt set q && kill (f 0) (f 1) (f 2) n x y q) (4 * n)) f' v) : Q_X1_killedAmong set f v posf := by
  unfold Q_X1_killedAmong
  exact ⟨4 * n + 1, q_ka_loop hP hF rfl (fun _ f' hf => h f' hf) (4 * n) 0 f (by omega) (fun _ _ => rfl)⟩
theorem q_runTest {j : Nat} (hP : PI n t f v) (hj : j < t) (h : ∀ f' : FF, (∀ i, i ≠ 7 → f' i = f i) → FG n (f 5 j) (f 6 j) f' → posf (out (f 0) (f 1) (f 2) (f 5 j) (f 6 j) n) f' v) : Q_X1_runTest (nI j) f v posf := by
  have ht := hP.2.1
  unfold Q_X1_runTest
  rw [nI_clamp (by omega)]
  exact ⟨vi_nI (by omega) (by omega), vi_nI (by omega) (by omega), q_run hP h⟩
/-- which mutants a test kills -/
def kt' (f : FF) (n j : Nat) : Nat → Bool := kill (f 0) (f 1) (f 2) n (f 5 j) (f 6 j)
theorem sm78 {f f1 f2 : FF} (h1 : ∀ i, i ≠ 7 → f1 i = f i) (h2 : ∀ i, i ≠ 8 → f2 i = f1 i) : Sm f f2 := fun j a b => (h2 j b).trans (h1 j a)
theorem q_killedByTest {j : Nat} (hP : PI n t f v) (hj : j < t) (h : ∀ f' : FF, Sm f f' → posf (bs (kt' f n j) (4 * n)) f' v) : Q_X1_killedByTest (nI j) f v posf := by
  have hn := hP.1
  unfold Q_X1_killedByTest
  refine q_runTest hP hj (fun f1 h1 hF => ?_)
  have hP1 : PI n t f1 v := hP.sm (fun j a _ => h1 j a)
  refine q_allMutants hP1 (q_killedAmong hP1 hF (fun f2 h2 => ?_))
  have := h f2 (sm78 h1 h2)
  rw [h1 0 (by decide), h1 1 (by decide), h1 2 (by decide)]
  unfold kt' at this
  rw [bs_cong (q := kill (f 0) (f 1) (f 2) n (f 5 j) (f 6 j))]
  · exact this
  · intro k hk
    rw [bs_all (4 * n) (by omega), bt_bs _ _ (by omega) k (by omega), decide_eq_true hk]
    rfl
/-- told apart by one of the first k inputs -/
def anyK (f : FF) (n k q : Nat) : Bool := (List.range k).any (fun xy => kill (f 0) (f 1) (f 2) n (nI (xy / 10)) (nI (xy % 10)) q)
theorem anyK_s (f : FF) (n k q : Nat) : anyK f n (k + 1) q = (anyK f n k q || kill (f 0) (f 1) (f 2) n (nI (k / 10)) (nI (k % 10)) q) := by
  unfold anyK
  rw [List.range_succ, List.any_append]
  simp
theorem anyK_mono {f : FF} {n k m q : Nat} (h : k ≤ m) (hk : anyK f n k q = true) : anyK f n m q = true := by
  obtain ⟨d, rfl⟩ := Nat.exists_eq_add_of_le h
  clear h
  induction d with
  | zero => exact hk
  | succ d ih => rw [← Nat.add_assoc, anyK_s, ih]; rfl
theorem anyK_sm {f f' : FF} (h : Sm f f') (n k q : Nat) : anyK f' n k q = anyK f n k q := by
  unfold anyK
  rw [h 0 (by decide) (by decide), h 1 (by decide) (by decide), h 2 (by decide) (by decide)]
theorem q_um_loop {K : Int32 → Int32 → FF → VV → Prop} {f0 : FF} (hP : PI n t f0 v)
    (hK : ∀ (x1 x2 : Int32) (f : FF), Sm f0 f → x1 = bs (fun q => !anyK f0 n 100 q) (4 * n) → K x1 x2 f v) :
    ∀ (d k : Nat) (f : FF), k + d = 100 → Sm f0 f → Q_X1_unequalMutants_L7 K (d + 1) (bs (fun q => !anyK f0 n k q) (4 * n)) (nI k) f v := by
  have hn := hP.1
  have fin : ∀ (k : Nat) (x2 : Int32) (f : FF), k ≤ 100 → Sm f0 f → bs (fun q => !anyK f0 n k q) (4 * n) = 0 → K (bs (fun q => !anyK f0 n k q) (4 * n)) x2 f v := by
    intro k x2 f hk hf hz
    refine hK _ _ f hf ?_
    rw [bs_zero (by omega)] at hz
    refine bs_cong (fun q hq => ?_)
    have h1 : anyK f0 n k q = true := by have := hz q hq; simpa using this
    rw [h1, anyK_mono hk h1]
  intro d
  induction d with
  | zero =>
    intro k f hk hf
    rw [Q_X1_unequalMutants_L7]
    have hk : k = 100 := by omega
    subst hk
    exact ⟨fun _ => hK _ _ f hf rfl, fun c => absurd (by decide) c⟩
  | succ d ih =>
    intro k f hk hf
    rw [Q_X1_unequalMutants_L7]
    refine ⟨fun c => ?_, fun _ => ⟨fun c => fin k _ f (by omega) hf c, fun _ => ?_⟩⟩
    · rw [i100, le_nI (by omega) (by omega)] at c; omega
    · have hPf := hP.sm hf
      rw [i10, nI_mod (by omega) (by omega) (by omega), nI_div (by omega) (by omega) (by omega)]
      refine q_run hPf (fun f1 h1 hF => ?_)
      have hP1 : PI n t f1 v := hPf.sm (fun j a _ => h1 j a)
      refine q_killedAmong hP1 hF (fun f2 h2 x1 e1 x2 e2 => ?_)
      have hf2 : Sm f0 f2 := hf.tr (sm78 h1 h2)
      rw [e2, nI_1]
      have := ih (k + 1) f2 (by omega) hf2
      have ee : x1 = bs (fun q => !anyK f0 n (k + 1) q) (4 * n) := by
        rw [e1, bs_diff (by omega)]
        refine bs_cong (fun q hq => ?_)
        rw [bt_bs _ _ (by omega) q (by omega), decide_eq_true hq, anyK_s, h1 0 (by decide), h1 1 (by decide), h1 2 (by decide), hf 0 (by decide) (by decide), hf 1 (by decide) (by decide), hf 2 (by decide) (by decide)]
        cases anyK f0 n k q <;> cases kill (f0 0) (f0 1) (f0 2) n (nI (k / 10)) (nI (k % 10)) q <;> rfl
      rw [ee]
      exact this
theorem q_unequalMutants (hP : PI n t f v) (h : ∀ f' : FF, Sm f f' → posf (bs (anyK f n 100) (4 * n)) f' v) : Q_X1_unequalMutants f v posf := by
  have hn := hP.1
  unfold Q_X1_unequalMutants
  refine q_allMutants hP ⟨101, ?_⟩
  rw [bs_all (4 * n) (by omega)]
  have := q_um_loop (K := (fun x_13 x_14 f_15 v_16 => (Q_X1_allMutants f_15 v_16 (fun r_17 => (posf (r_17 &&& (x_13 ^^^ (-1 : Int32))) f_15 v_16))))) hP (fun x1 x2 f' hf e => ?_) 100 0 f (by omega) Sm.rf
  · exact this
  · refine q_allMutants (hP.sm hf) ?_
    rw [bs_all (4 * n) (by omega), e, bs_diff (by omega)]
    have := h f' hf
    rw [bs_cong (q := anyK f n 100)]
    · exact this
    · intro q _
      cases anyK f n 100 q <;> rfl
/-- for how many of the first k inputs a mutant is told from the program -/
def cntK (f : FF) (n q : Nat) : Nat → Nat
  | 0 => 0
  | k + 1 => cntK f n q k + (if kill (f 0) (f 1) (f 2) n (nI (k / 10)) (nI (k % 10)) q = true then 1 else 0)
theorem cntK_le (f : FF) (n q : Nat) : ∀ k, cntK f n q k ≤ k
  | 0 => Nat.le_refl 0
  | k + 1 => by
    have := cntK_le f n q k
    rw [cntK]
    split <;> omega
theorem q_df_loop {q : Nat} {K : Int32 → Int32 → FF → VV → Prop} {f0 : FF} (hP : PI n t f0 v) (hq : q < 4 * n)
    (hK : ∀ (x3 : Int32) (f : FF), Sm f0 f → K (nI (cntK f0 n q 100)) x3 f v) :
    ∀ (d k : Nat) (f : FF), k + d = 100 → Sm f0 f → Q_X1_differences_L4 (nI q) K (d + 1) (nI (cntK f0 n q k)) (nI k) f v := by
  have hn := hP.1
  have hok := hP.2.2.2.2
  intro d
  induction d with
  | zero =>
    intro k f hk hf
    rw [Q_X1_differences_L4]
    have hk : k = 100 := by omega
    subst hk
    exact ⟨fun _ => hK _ f hf, fun c => absurd (by decide) c⟩
  | succ d ih =>
    intro k f hk hf
    rw [Q_X1_differences_L4]
    refine ⟨fun c => ?_, fun _ => ?_⟩
    · rw [i100, le_nI (by omega) (by omega)] at c; omega
    · have hPf := hP.sm hf
      rw [i10, nI_mod (by omega) (by omega) (by omega), nI_div (by omega) (by omega) (by omega)]
      refine q_run hPf (fun f1 h1 hF => ?_)
      have hP1 : PI n t f1 v := hPf.sm (fun j a _ => h1 j a)
      refine q_effect hP1 hF hq (fun f2 h2 => ?_)
      have hf2 : Sm f0 f2 := hf.tr (sm78 h1 h2)
      have := ih (k + 1) f2 (by omega) hf2
      rw [cntK] at this
      rw [h1 0 (by decide), h1 1 (by decide), h1 2 (by decide), hf 0 (by decide) (by decide), hf 1 (by decide) (by decide), hf 2 (by decide) (by decide)]
      have hk2 := eff_2 (w := f0 0) (a := f0 1) (b := f0 2) (x := nI (k / 10)) (y := nI (k % 10)) (q := q) (n := n) hn hq hok
      refine ⟨fun c x' ex => ?_, fun c x1 e1 x2 e2 => ?_⟩
      · rw [ex, nI_1]
        rw [if_neg (fun z => c (hk2.mpr z))] at this
        exact this
      · rw [e1, e2, nI_1, nI_1]
        rw [if_pos (hk2.mp c)] at this
        exact this
theorem q_differences {q : Nat} (hP : PI n t f v) (hq : q < 4 * n) (h : ∀ f' : FF, Sm f f' → posf (nI (cntK f n q 100)) f' v) : Q_X1_differences (nI q) f v posf := by
  unfold Q_X1_differences
  exact ⟨101, q_df_loop hP hq (fun _ f' hf => h f' hf) 100 0 f (by omega) Sm.rf⟩
end PY
