/-! ===== plain words for what the methods do ===== -/
theorem vi_nI {j n : Nat} (h : j < n) (hn : n < 2 ^ 31) : vp_in (nI j) n := vp_in_nI h hn
theorem cl_nI {j : Nat} (h : j < 2 ^ 31) : (nI j).toNatClampNeg = j := nI_clamp h
theorem fu_eq {α : Type} (f : Nat → α) (k : Nat) (g : α) : fu f k g k = g := if_pos rfl
theorem fu_ne {α : Type} {f : Nat → α} {k j : Nat} {g : α} (h : j ≠ k) : fu f k g j = f j := if_neg h
theorem upd_eq (f : Nat → Int32) (k : Nat) (x : Int32) : upd f k x k = x := pk_us
theorem upd_ne {f : Nat → Int32} {k j : Nat} {x : Int32} (h : j ≠ k) : upd f k x j = f j := pk_un h
theorem mg_in {α : Type} {f g : Nat → α} {b n j : Nat} (h1 : b ≤ j) (h2 : j < b + n) : mg f b n g j = g (j - b) := if_pos ⟨h1, h2⟩
theorem mg_out {α : Type} {f g : Nat → α} {b n j : Nat} (h : ¬ (b ≤ j ∧ j < b + n)) : mg f b n g j = f j := if_neg h
theorem le_nI {a b : Nat} (ha : a < 2 ^ 31) (hb : b < 2 ^ 31) : nI a ≤ nI b ↔ a ≤ b := nI_leI ha hb
/-- one step -/
def mk (w a b : Int32) : Int32 := if w = 0 then (a + b) - (a + b) / 10 * 10 else if w = 1 then (if b ≤ a then a - b else (a - b) + 10) else if w = 2 then (a * b) - (a * b) / 10 * 10 else if w = 3 then (if a ≤ b then b else a) else (if b ≤ a then b else a)
/-- what the first k steps make, by their places; the inputs at 5 and 6 -/
def tab (w a b : Nat → Int32) (x y : Int32) : Nat → Nat → Int32
  | 0 => fun j => if j = 5 then x else if j = 6 then y else 0
  | k + 1 => fun j => if j = k then mk (w k) (tab w a b x y k (a k).toNatClampNeg) (tab w a b x y k (b k).toNatClampNeg) else tab w a b x y k j
def okSrc (z : Int32) (k : Nat) : Prop := ∃ j : Nat, z = nI j ∧ (j < k ∨ j = 5 ∨ j = 6)
def here (n j : Nat) : Prop := j < n ∨ j = 5 ∨ j = 6
theorem okSrc.in7 {z : Int32} {k : Nat} (h : okSrc z k) (hk : k ≤ 5) : vp_in z 7 := by
  obtain ⟨j, rfl, hj⟩ := h
  exact vp_in_nI (by omega) (by omega)
theorem okSrc.here {z : Int32} {k : Nat} (h : okSrc z k) (hk : k ≤ 5) : here k z.toNatClampNeg := by
  obtain ⟨j, rfl, hj⟩ := h
  rw [nI_clamp (by omega)]
  exact hj
theorem tab_in {w a b : Nat → Int32} {x y : Int32} : ∀ {k m : Nat}, k ≤ m → m ≤ 5 → ∀ j, here k j → tab w a b x y m j = tab w a b x y k j := by
  intro k m hkm hm j hj
  obtain ⟨d, rfl⟩ := Nat.exists_eq_add_of_le hkm
  clear hkm
  induction d with
  | zero => rfl
  | succ d ih =>
    show (if j = k + d then _ else tab w a b x y (k + d) j) = _
    unfold here at hj
    rw [if_neg (by omega)]
    exact ih (by omega)
theorem tab_cong {w w' a b : Nat → Int32} {x y : Int32} : ∀ {m : Nat}, (∀ k, k < m → w k = w' k) → tab w a b x y m = tab w' a b x y m := by
  intro m
  induction m with
  | zero => intro _; rfl
  | succ m ih =>
    intro h
    funext j
    show (if j = m then mk (w m) _ _ else tab w a b x y m j) = (if j = m then mk (w' m) _ _ else tab w' a b x y m j)
    rw [ih (fun k hk => h k (by omega)), h m (by omega)]
/-- the program's (a mutant's) output -/
def out (w a b : Nat → Int32) (x y : Int32) (n : Nat) : Int32 := if n = 0 then 0 else tab w a b x y n (n - 1)
/-- the other way -/
def ow (w : Int32) (p : Nat) : Int32 := if w ≤ nI p then nI p + 1 else nI p
/-- the ways of mutant q -/
def mw (w : Nat → Int32) (q : Nat) : Nat → Int32 := fu w (q / 4) (ow (w (q / 4)) (q % 4))
/-- a mutant is told from the program at x, y -/
def kill (w a b : Nat → Int32) (n : Nat) (x y : Int32) (q : Nat) : Bool := decide (¬ out (mw w q) a b x y n = out w a b x y n)
/-- a program as a walk knows it -/
def PI (n t : Nat) (f : FF) (v : VV) : Prop := n ≤ 5 ∧ t ≤ 7 ∧ v 0 = nI n ∧ v 1 = nI t ∧ ∀ k, k < n → okSrc (f 1 k) k ∧ okSrc (f 2 k) k
/-- the figures are those of x, y -/
def FG (n : Nat) (x y : Int32) (f : FF) : Prop := ∀ j, here n j → f 7 j = tab (f 0) (f 1) (f 2) x y n j
/-- all rows but two stay -/
def Sm (f f' : FF) : Prop := ∀ j, j ≠ 7 → j ≠ 8 → f' j = f j
theorem Sm.rf {f : FF} : Sm f f := fun _ _ _ => rfl
theorem Sm.tr {f g h : FF} (h1 : Sm f g) (h2 : Sm g h) : Sm f h := fun j a b => (h2 j a b).trans (h1 j a b)
theorem PI.sm {n t : Nat} {f f' : FF} {v : VV} (h : PI n t f v) (hs : Sm f f') : PI n t f' v := by
  obtain ⟨h1, h2, h3, h4, h5⟩ := h
  refine ⟨h1, h2, h3, h4, fun k hk => ?_⟩
  rw [hs 1 (by decide) (by decide), hs 2 (by decide) (by decide)]
  exact h5 k hk
theorem q_make {w a b : Int32} {post : Int32 → Prop} (h : post (mk w a b)) : Q_X1_make w a b post := by
  unfold Q_X1_make
  unfold mk at h
  refine ⟨fun c => ?_, fun c => ⟨fun c1 => ⟨fun c2 => ?_, fun c2 => ?_⟩, fun c1 => ⟨fun c2 => ?_, fun c2 => ⟨fun c3 => ⟨fun c4 => ?_, fun c4 => ?_⟩, fun c3 => ⟨fun c4 => ?_, fun c4 => ?_⟩⟩⟩⟩⟩ <;> simp_all
theorem q_run_loop {n t : Nat} {x y : Int32} {K : Int32 → Int32 → FF → VV → Prop} {v : VV} {f0 : FF} (hP : PI n t f0 v)
    (hK : ∀ (x4 : Int32) (f : FF), (∀ j, j ≠ 7 → f j = f0 j) → (∀ j, here n j → f 7 j = tab (f0 0) (f0 1) (f0 2) x y n j) → K (out (f0 0) (f0 1) (f0 2) x y n) x4 f v) :
    ∀ (d k : Nat) (x3 : Int32) (f : FF), k + d = n → (∀ j, j ≠ 7 → f j = f0 j) → (∀ j, here k j → f 7 j = tab (f0 0) (f0 1) (f0 2) x y k j) → x3 = (if k = 0 then 0 else tab (f0 0) (f0 1) (f0 2) x y k (k - 1)) → Q_X1_run_L20 x y K (d + 1) x3 (nI k) f v := by
  obtain ⟨hn, ht, e0, e1, hok⟩ := hP
  intro d
  induction d with
  | zero =>
    intro k x3 f hk hf h7 h3
    rw [Q_X1_run_L20]
    have hk : k = n := by omega
    subst hk
    refine ⟨fun c => ?_, fun c => absurd (by rw [e0]; exact Int32.le_refl _) c⟩
    rw [h3]
    exact hK _ f hf h7
  | succ d ih =>
    intro k x3 f hk hf h7 h3
    rw [Q_X1_run_L20]
    have hkn : k < n := by omega
    have c4 : (nI k).toNatClampNeg = k := nI_clamp (by omega)
    refine ⟨fun c => ?_, fun c => ?_⟩
    · rw [e0, le_nI (by omega) (by omega)] at c
      omega
    · rw [c4, hf 1 (by decide), hf 2 (by decide), hf 0 (by decide)]
      obtain ⟨o1, o2⟩ := hok k hkn
      refine ⟨vi_nI (by omega) (by omega), vi_nI (by omega) (by omega), o1.in7 (by omega), vi_nI (by omega) (by omega), o2.in7 (by omega), q_make ?_⟩
      refine ⟨vi_nI (by omega) (by omega), fun f' ef x' ex => ?_⟩
      rw [ex, nI_1]
      rw [h7 _ (o1.here (by omega)), h7 _ (o2.here (by omega))] at ef ⊢
      refine ih (k + 1) _ f' (by omega) ?_ ?_ ?_
      · intro j hj
        rw [ef, fu_ne hj]
        exact hf j hj
      · intro j hj
        rw [ef, fu_eq]
        show upd (f 7) (nI k).toNatClampNeg _ j = (if j = k then _ else _)
        rw [c4]
        by_cases hjk : j = k
        · rw [if_pos hjk, hjk, upd_eq]
        · rw [if_neg hjk, upd_ne hjk]
          exact h7 j (by unfold here at hj ⊢; omega)
      · rw [if_neg (by omega)]
        show _ = (if k + 1 - 1 = k then _ else _)
        rw [if_pos (by omega)]
theorem q_run {n t : Nat} {x y : Int32} {f : FF} {v : VV} {post : Int32 → FF → VV → Prop} (hP : PI n t f v) (h : ∀ f' : FF, (∀ j, j ≠ 7 → f' j = f j) → FG n x y f' → post (out (f 0) (f 1) (f 2) x y n) f' v) : Q_X1_run x y f v post := by
  unfold Q_X1_run
  intro f2 e2 f4 e4
  refine ⟨n + 1, ?_⟩
  have hn := hP.1
  refine q_run_loop hP (fun x4 f' hf h7 => h f' hf ?_) n 0 0 f4 (by omega) ?_ ?_ rfl
  · intro j hj
    rw [hf 0 (by decide), hf 1 (by decide), hf 2 (by decide)]
    exact h7 j hj
  · intro j hj
    rw [e4, fu_ne hj, e2, fu_ne hj]
  · intro j hj
    rw [e4, fu_eq, e2, fu_eq]
    show upd (upd (f 7) 5 x) 6 y j = (if j = 5 then x else if j = 6 then y else 0)
    unfold here at hj
    rcases (show j = 5 ∨ j = 6 by omega) with rfl | rfl
    · rw [upd_ne (by decide), upd_eq]; rfl
    · rw [upd_eq]; rfl
