/-! ===== what the class and the reference have in common ===== -/
abbrev Agree (n t : Nat) (p q : FF) : Prop := Like n t p (q 0) (q 1) (q 2) (q 3) (q 4) (q 5) (q 6)
def ShR (k : Nat) (f : FF) (v : VV) (g : FF) : Prop := (v (3 + 2 * k) = -1 ∧ g 0 k = -9) ∨ ∃ l m : Nat, l < 3 ∧ m ≤ 60 ∧ v (3 + 2 * k) = nI l ∧ g 0 k = nI l ∧ v (4 + 2 * k) = nI m ∧ g 1 k = nI m ∧ ∀ i, i < m → f (1 + k) i = g 2 (60 * k + i)
/-- the tests' kinds and times are as told -/
def VD (t : Nat) (p : FF) : Prop := ∀ j, j < t → (∃ κ, κ < 3 ∧ p 3 j = nI κ) ∧ ∃ τ, τ < 10 ∧ p 4 j = nI τ
theorem VD.of {t : Nat} {p p' : FF} (h : VD t p) (h3 : p' 3 = p 3) (h4 : p' 4 = p 4) : VD t p' := fun j hj => by rw [h3, h4]; exact h j hj
def PrR (f : FF) (v : VV) (g : FF) (u : VV) : Prop := ∃ n t, PI n t (sb f 5) (sb v 11) ∧ PI n t (sb g 3) (sb u 2) ∧ (n = 0 ↔ t = 0) ∧ Agree n t (sb f 5) (sb g 3) ∧ VD t (sb f 5)
def RdR (f : FF) (v : VV) (g : FF) (u : VV) : Prop := ∃ c, c ≤ 8 ∧ v 0 = nI c ∧ u 8 = nI c ∧ ∀ i, i < c → f 0 i = g 16 i
def Rel0 (f : FF) (v : VV) (g : FF) (u : VV) : Prop := (∀ k, k < 4 → ShR k f v g) ∧ PrR f v g u ∧ RdR f v g u ∧ v 1 = u 1 ∧ v 2 = u 0
/-- nothing that lasts has changed -/
def FC (f : FF) (v : VV) (f' : FF) (v' : VV) : Prop := (∀ j, j < 12 → f' j = f j) ∧ ∀ i, i < 13 → v' i = v i
def FE (g : FF) (u : VV) (g' : FF) (u' : VV) : Prop := (∀ j, j < 10 ∨ j = 16 → g' j = g j) ∧ ∀ i, i < 4 ∨ i = 8 → u' i = u i
theorem FC.rf {f : FF} {v : VV} : FC f v f v := ⟨fun _ _ => rfl, fun _ _ => rfl⟩
theorem FE.rf {f : FF} {v : VV} : FE f v f v := ⟨fun _ _ => rfl, fun _ _ => rfl⟩
theorem FC.tr {f f' f'' : FF} {v v' v'' : VV} (h : FC f v f' v') (h' : FC f' v' f'' v'') : FC f v f'' v'' := ⟨fun j hj => (h'.1 j hj).trans (h.1 j hj), fun j hj => (h'.2 j hj).trans (h.2 j hj)⟩
theorem FE.tr {f f' f'' : FF} {v v' v'' : VV} (h : FE f v f' v') (h' : FE f' v' f'' v'') : FE f v f'' v'' := ⟨fun j hj => (h'.1 j hj).trans (h.1 j hj), fun j hj => (h'.2 j hj).trans (h.2 j hj)⟩
theorem S123.fe {g g' : FF} {u : VV} (h : S123 g g') : FE g u g' u := ⟨fun j hj => h j (by omega) (by omega), fun _ _ => rfl⟩
theorem S12.fe {g g' : FF} {u : VV} (h : S12 g g') : FE g u g' u := ⟨fun j hj => h j (by omega), fun _ _ => rfl⟩
theorem Agree.of {n t : Nat} {p q p' q' : FF} (h : Agree n t p q) (hp : ∀ r, r < 7 → p' r = p r) (hq : ∀ r, r < 7 → q' r = q r) : Agree n t p' q' := by
  unfold Agree Like at h ⊢
  rw [hp 0 (by decide), hp 1 (by decide), hp 2 (by decide), hp 3 (by decide), hp 4 (by decide), hp 5 (by decide), hp 6 (by decide), hq 0 (by decide), hq 1 (by decide), hq 2 (by decide), hq 3 (by decide), hq 4 (by decide), hq 5 (by decide), hq 6 (by decide)]
  exact h
theorem ShR.of {k : Nat} {f f' : FF} {v v' : VV} {g g' : FF} (h : ShR k f v g) (h1 : f' (1 + k) = f (1 + k)) (h2 : v' (3 + 2 * k) = v (3 + 2 * k)) (h3 : v' (4 + 2 * k) = v (4 + 2 * k)) (h4 : g' 0 k = g 0 k) (h5 : g' 1 k = g 1 k) (h6 : ∀ i, i < 60 → g' 2 (60 * k + i) = g 2 (60 * k + i)) : ShR k f' v' g' := by
  unfold ShR at h ⊢
  rw [h1, h2, h3, h4, h5]
  rcases h with h | ⟨l, m, a1, a2, a3, a4, a5, a6, a7⟩
  · exact Or.inl h
  · exact Or.inr ⟨l, m, a1, a2, a3, a4, a5, a6, fun i hi => by rw [h6 i (by omega)]; exact a7 i hi⟩
theorem Rel0.fr {f f' : FF} {v v' : VV} {g g' : FF} {u u' : VV} (h : Rel0 f v g u) (hc : FC f v f' v') (he : FE g u g' u') : Rel0 f' v' g' u' := by
  obtain ⟨hs, ⟨n, t, p1, p2, p3, p4, p5⟩, ⟨c, r1, r2, r3, r4⟩, ht, hf⟩ := h
  refine ⟨fun k hk => (hs k hk).of (hc.1 _ (by omega)) (hc.2 _ (by omega)) (hc.2 _ (by omega)) (by rw [he.1 0 (by omega)]) (by rw [he.1 1 (by omega)]) (fun i _ => by rw [he.1 2 (by omega)]), ⟨n, t, ?_, ?_, p3, ?_, p5.of (hc.1 8 (by omega)) (hc.1 9 (by omega))⟩, ⟨c, r1, ?_, ?_, ?_⟩, ?_, ?_⟩
  · exact p1.rows (fun j hj => hc.1 (5 + j) (by omega)) (hc.2 11 (by omega)) (hc.2 12 (by omega))
  · exact p2.rows (fun j hj => he.1 (3 + j) (by omega)) (he.2 2 (by omega)) (he.2 3 (by omega))
  · exact p4.of (fun r hr => hc.1 (5 + r) (by omega)) (fun r hr => he.1 (3 + r) (by omega))
  · rw [hc.2 0 (by omega)]; exact r2
  · rw [he.2 8 (by omega)]; exact r3
  · intro i hi; rw [hc.1 0 (by omega), he.1 16 (by omega)]; exact r4 i hi
  · rw [hc.2 1 (by omega), he.2 1 (by omega)]; exact ht
  · rw [hc.2 2 (by omega), he.2 0 (by omega)]; exact hf
theorem Rel0.fault {f : FF} {v : VV} {g : FF} {u : VV} (h : Rel0 f v g u) (x : Int32) : Rel0 f (fu v 2 x) g (fu u 0 x) := by
  obtain ⟨hs, ⟨n, t, p1, p2, p3, p4, p5⟩, ⟨c, r1, r2, r3, r4⟩, ht, hf⟩ := h
  refine ⟨fun k hk => (hs k hk).of rfl (fu_ne (by omega)) (fu_ne (by omega)) rfl rfl (fun _ _ => rfl), ⟨n, t, p1, p2, p3, p4, p5⟩, ⟨c, r1, r2, r3, r4⟩, ht, ?_⟩
  rw [fu_eq, fu_eq]
/-! what the class's own worlds hold -/
theorem jn_lt {α : Type} {f : Nat → α} {a n b j : Nat} (h : j < n) : jn f a n b j = f (a + j) := if_pos h
theorem jn_ge {α : Type} {f : Nat → α} {a n b j : Nat} (h : ¬ j < n) : jn f a n b j = f (b + (j - n)) := if_neg h
theorem PI.jn {n t : Nat} {f : FF} {v : VV} {a b c d : Nat} (h : PI n t (sb f a) (sb v c)) : PI n t (jn f a 9 b) (jn v c 2 d) := h
section M4
variable {n t : Nat} {f : FF} {v : VV} {post : Int32 → Prop} {posf : Int32 → FF → VV → Prop}
/-- what Kills holds of a program p -/
def Kf (n t : Nat) (p : FF) (f : FF) (v : VV) : Prop := KI t (4 * n) (sb v 19) ∧ (∀ i, i < t → f 33 i = bs (kt' p n i) (4 * n)) ∧ (∀ i, i < t → f 35 i = wgt (p 3 i) (p 4 i)) ∧ (∀ q, q < 4 * n → f 34 q = bs (fun i => kt' p n i q) t) ∧ v 21 = bs (fun q => (List.range t).any (fun i => kt' p n i q)) (4 * n)
/-- the worlds but for the scratch rows of the program at b -/
def FB (b : Nat) (f : FF) (v : VV) (f' : FF) (v' : VV) : Prop := (∀ j, j < 33 → j ≠ b + 7 → j ≠ b + 8 → f' j = f j) ∧ ∀ i, i < 19 → v' i = v i
theorem FB.fc {b : Nat} {f f' : FF} {v v' : VV} (h : FB b f v f' v') (hb : 5 ≤ b) : FC f v f' v' := ⟨fun j hj => h.1 j (by omega) (by omega) (by omega), fun i hi => h.2 i (by omega)⟩
theorem q_findAt {b c : Nat} {pos : FF → VV → Prop} (hb : b + 9 ≤ 33) (hc : c + 2 ≤ 19) (hP : PI n t (sb f b) (sb v c)) (h : ∀ f' v', FB b f v f' v' → Kf n t (sb f b) f' v' → pos f' v') :
    Q_X0_find (jn f b 9 33) (jn v c 2 19) (fun f_3 v_4 => (∀ f_5 : FF, f_5 = mg (mg f b 9 f_3) 33 4 (sb f_3 9) → (∀ v_6 : VV, v_6 = mg (mg v c 2 v_4) 19 3 (sb v_4 2) → (pos f_5 v_6)))) := by
  refine q_find hP.jn (fun f3 v4 hF f5 e5 v6 e6 => ?_)
  obtain ⟨a1, a2, a3, a4, a5, a6, a7, a8, a9, a10⟩ := hF
  have hn := hP.1
  have ht := hP.2.1
  have r : ∀ i, i < 4 → f5 (33 + i) = f3 (9 + i) := fun i hi => by rw [e5, mg_at hi]; rfl
  have w : ∀ i, i < 3 → v6 (19 + i) = v4 (2 + i) := fun i hi => by rw [e6, mg_at hi]; rfl
  refine h f5 v6 ⟨fun j h1 h2 h3 => ?_, fun i hi => ?_⟩ ⟨⟨ht, by omega, (w 0 (by decide)).trans a8, (w 1 (by decide)).trans a9⟩, fun i hi => by rw [r 0 (by decide)]; exact a3 i hi, fun i hi => by rw [r 2 (by decide)]; exact a4 i hi, fun q hq => by rw [r 1 (by decide)]; exact a5 q hq, (w 2 (by decide)).trans a10⟩
  · rw [e5, mg_out (by omega)]
    by_cases hj : b ≤ j ∧ j < b + 9
    · rw [mg_in hj.1 hj.2, a1 (j - b) (by omega), jn_lt (by omega)]
      congr 1; omega
    · rw [mg_out hj]
  · rw [e6, mg_out (by omega)]
    by_cases hj : c ≤ i ∧ i < c + 2
    · rw [mg_in hj.1 hj.2]
      have : i - c = 0 ∨ i - c = 1 := by omega
      rcases this with e | e
      · rw [e, a6, show i = c + 0 by omega]; exact hP.2.2.1.symm
      · rw [e, a7, show i = c + 1 by omega]; exact hP.2.2.2.1.symm
    · rw [mg_out hj]
theorem q_killsNow {pos : FF → VV → Prop} (hP : PI n t (sb f 5) (sb v 11)) (h : ∀ f' v', FC f v f' v' → Kf n t (sb f 5) f' v' → pos f' v') : Q_X4_killsNow f v pos :=
  q_findAt (b := 5) (c := 11) (by decide) (by decide) hP (fun f' v' hF => h f' v' (hF.fc (by decide)))
/-- back from a program's world at b into the class's -/
theorem back_fb {b c : Nat} {p : FF} {f' : FF} {v' : VV} (hs : Sm (sb f b) p) (ef : f' = mg f b 9 p) (ev : v' = mg v c 2 (sb v c)) : FB b f v f' v' ∧ ∀ j, j < 9 → f' (b + j) = p j := by
  rw [mg_sb] at ev
  subst ev
  refine ⟨⟨fun j h1 h2 h3 => ?_, fun _ _ => rfl⟩, fun j hj => by rw [ef, mg_at hj]⟩
  rw [ef]
  by_cases hj : b ≤ j ∧ j < b + 9
  · rw [mg_in hj.1 hj.2, hs (j - b) (by omega) (by omega)]
    show f (b + (j - b)) = f j
    congr 1; omega
  · rw [mg_out hj]
theorem Sm.of7 {f f' : FF} (h : ∀ j, j ≠ 7 → f' j = f j) : Sm f f' := fun j a _ => h j a
theorem Sm.of8 {f f' : FF} (h : ∀ j, j ≠ 8 → f' j = f j) : Sm f f' := fun j _ b => h j b
theorem sb_add {α : Type} (f : Nat → α) (a j : Nat) : sb f a j = f (a + j) := rfl
end M4
