theorem l_m1 {l : Nat} (h : l < 3) : ¬ nI l = -1 := (by decide : ∀ l, l < 3 → ¬ nI l = -1) l h
theorem l_m9 {l : Nat} (h : l < 3) : ¬ nI l = -9 := (by decide : ∀ l, l < 3 → ¬ nI l = -9) l h
/-- a cell has changed on both sides -/
theorem Rel0.cell {k i l m : Nat} {x : Int32} {f f' : FF} {v : VV} {g g' : FF} {u : VV} (h : Rel0 f v g u) (hk : k < 4) (hl : l < 3) (hm : m ≤ 60) (hi : i < m) (a3 : v (3 + 2 * k) = nI l) (a4 : g 0 k = nI l) (a5 : v (4 + 2 * k) = nI m) (a6 : g 1 k = nI m) (a7 : ∀ i, i < m → f (1 + k) i = g 2 (60 * k + i))
    (ef : f' = fu f (1 + k) (upd (f (1 + k)) i x)) (eg : g' = fu g 2 (upd (g 2) (60 * k + i) x)) : Rel0 f' v g' u := by
  refine h.sheet hk (fun j h1 h2 => by rw [ef, fu_ne h2]) (fun _ _ _ _ => rfl) (fun j h1 h2 h3 h4 => by rw [eg, fu_ne h4]) (fun i h1 h2 => by rw [eg, fu_ne (by decide)]) (fun i h1 h2 => by rw [eg, fu_ne (by decide)]) (fun k' h1 h2 i' h3 => by rw [eg, fu_eq, upd_ne (by omega)]) (fun _ _ => rfl) (Or.inr ⟨l, m, hl, hm, a3, ?_, a5, ?_, fun i' hi' => ?_⟩)
  · rw [eg, fu_ne (by decide)]; exact a4
  · rw [eg, fu_ne (by decide)]; exact a6
  · rw [ef, fu_eq, eg, fu_eq]
    by_cases e : i' = i
    · rw [e, upd_eq, upd_eq]
    · rw [upd_ne e, upd_ne (by omega)]; exact a7 i' hi'
theorem op_put (p0 p1 p2 : Int32) (f : FF) (v : VV) (g : FF) (u : VV) (h : Rel0 f v g u) : Q_X4_put p0 p1 p2 f v (fun r f1 v1 => Q_X5_put p0 p1 p2 g u (fun r' g1 u1 => r = r' ∧ Rel0 f1 v1 g1 u1)) := by
  intro v1 ev1
  have h0 := h.fault 0
  rw [← ev1] at h0
  refine q_isSheet (fun k hk ek => yes1' ?_) (fun hk => no0' (fun u1 eu1 => q5_isSheet0 hk (no0' ⟨rfl, by rw [eu1]; exact h0⟩)))
  subst ek
  have vk : vp_in (nI k) 4 := vi_nI (by omega) (by omega)
  refine ⟨vk, ?_⟩
  rw [nI_clamp (by omega)]
  rcases h0.1 k hk with ⟨n1, n2⟩ | ⟨l, m, hl, hm, a3, a4, a5, a6, a7⟩
  · refine q_isNothing (fun e => yes1 (fun v2 ev2 => ?_)) (fun e => absurd n1 e)
    intro u1 eu1
    refine q5_isSheet1 hk (yes1' ⟨vk, ?_⟩)
    rw [nI_clamp (by omega)]
    refine ⟨fun c => absurd n2 c, fun _ u2 eu2 => ⟨rfl, ?_⟩⟩
    rw [ev2, eu2, eu1]; exact h0.fault 1
  · refine q_isNothing (fun e => absurd (a3.symm.trans e) (l_m1 hl)) (fun e => no0 (q_hasCell hm (by rw [sb_add, show 3 + 2 * k + 1 = 4 + 2 * k by omega]; exact a5) (fun i hi ei => yes1' ?_) (fun hi => no0' (fun v2 ev2 => ?_))))
    · subst ei
      have e0 : sb v1 (3 + 2 * k) 0 = nI l := a3
      have key : ∀ x : Int32, (l = 0 → x = p2.toInt8.toInt32) → (l = 1 → x = p2.toInt16.toInt32) → (l = 2 → x = p2) → (vp_in (nI i) 60 ∧ (∀ f_11 : FF, f_11 = fu f (1 + k) (wr (f (1 + k)) (nI i) x) → Q_X5_put (nI k) (nI i) p2 g u (fun r' g1 u1 => 1 = r' ∧ Rel0 f_11 v1 g1 u1))) := by
        intro x x0 x1 x2
        refine ⟨vi_nI (by omega) (by omega), fun f11 e11 => ?_⟩
        intro u1 eu1
        rw [← eu1] at h0
        rw [wrN (by omega)] at e11
        refine q5_isSheet1 hk (yes1' ⟨vk, ?_⟩)
        rw [nI_clamp (by omega), a4, a6, n60]
        obtain ⟨w1, w2⟩ := (cellI hm).mpr ⟨i, hi, rfl⟩
        have vi : vp_in (nI (60 * k + i)) 240 := vi_nI (by omega) (by omega)
        refine ⟨fun _ => ⟨vk, q5_within1 w1 w2 (yes1' ⟨vk, fun c0 => ⟨vk, fun c1 => ⟨vi, fun g' eg => ⟨rfl, ?_⟩⟩, fun c1 => ⟨vi, fun g' eg => ⟨rfl, ?_⟩⟩⟩, fun c0 => ⟨vi, fun g' eg => ⟨rfl, ?_⟩⟩⟩)⟩, fun c => absurd c (l_m9 hl)⟩
        · have : l = 2 := by
            have : l ≠ 0 := fun z => c0 (by rw [z]; rfl)
            have : l ≠ 1 := fun z => c1 (by rw [z]; rfl)
            omega
          rw [wrN (by omega), ← x2 this] at eg
          exact h0.cell hk hl hm hi a3 a4 a5 a6 a7 e11 eg
        · have : l = 1 := (nI_eq (a := l) (b := 1) (by omega) (by omega)).mp c1
          rw [wrN (by omega), ← x1 this] at eg
          exact h0.cell hk hl hm hi a3 a4 a5 a6 a7 e11 eg
        · have : l = 0 := (nI_eq (a := l) (b := 0) (by omega) (by omega)).mp c0
          rw [wrN (by omega), ← x0 this] at eg
          exact h0.cell hk hl hm hi a3 a4 a5 a6 a7 e11 eg
      unfold Q_X2_cut
      rw [e0]
      refine ⟨fun c => ?_, fun c => ⟨fun c1 => ?_, fun c1 => ?_⟩⟩
      · have : l = 0 := (nI_eq (a := l) (b := 0) (by omega) (by omega)).mp c
        exact key _ (fun _ => rfl) (fun z => by omega) (fun z => by omega)
      · have : l = 1 := (nI_eq (a := l) (b := 1) (by omega) (by omega)).mp c1
        exact key _ (fun z => by omega) (fun _ => rfl) (fun z => by omega)
      · exact key _ (fun z => absurd (by rw [z]; rfl) c) (fun z => absurd (by rw [z]; rfl) c1) (fun _ => rfl)
    · intro u1 eu1
      refine q5_isSheet1 hk (yes1' ⟨vk, ?_⟩)
      rw [nI_clamp (by omega), a4, a6]
      refine ⟨fun _ => ⟨vk, q5_within0 (fun z => hi ((cellI hm).mp z)) (no0' (fun u2 eu2 => ⟨rfl, ?_⟩))⟩, fun c => absurd c (l_m9 hl)⟩
      rw [ev2, eu2, eu1]; exact h0.fault 3
theorem op_cell (p0 p1 p2 : Int32) (f : FF) (v : VV) (g : FF) (u : VV) (h : Rel0 f v g u) : Q_X4_cell p0 p1 p2 f v (fun r f1 v1 => Q_X5_cell p0 p1 p2 g u (fun r' g1 u1 => r = r' ∧ Rel0 f1 v1 g1 u1)) := by
  intro v1 ev1
  have h0 := h.fault 0
  rw [← ev1] at h0
  refine q_isSheet (fun k hk ek => yes1 ?_) (fun hk => no0 (fun u1 eu1 => q5_isSheet0 hk (no0 ⟨rfl, by rw [eu1]; exact h0⟩)))
  subst ek
  have vk : vp_in (nI k) 4 := vi_nI (by omega) (by omega)
  refine q_isWithin (fun a b => yes1' ⟨vk, ?_⟩) (fun a => no0' (fun u1 eu1 => q5_isSheet1 hk (yes1 (q5_isSort0 a (no0' ⟨rfl, by rw [eu1]; exact h0⟩)))))
  rw [nI_clamp (by omega)]
  have ff : ∀ x : Int32, fu v1 2 x = fu (fu v1 2 x) 2 x := fun x => by
    funext i
    by_cases e : i = 2
    · rw [e, fu_eq, fu_eq]
    · rw [fu_ne e, fu_ne e, fu_ne e]
  rcases h0.1 k hk with ⟨n1, n2⟩ | ⟨l, m, hl, hm, a3, a4, a5, a6, a7⟩
  · refine q_faultAs (fun e v8 e8 => ?_) (fun e => absurd n1 e) (fun e => absurd n1 e)
    have e2 : v8 2 = 1 := by rw [e8, fu_eq]
    rw [e2]
    refine ⟨fun _ => ⟨fun _ => ?_, fun c => absurd c (by decide)⟩, fun c => absurd c (by decide)⟩
    intro u1 eu1
    refine q5_isSheet1 hk (yes1 (q5_isSort1 a b (yes1' ⟨vk, ?_⟩)))
    rw [nI_clamp (by omega)]
    refine ⟨fun _ => ⟨vk, fun c => absurd n2 c, fun _ u2 eu2 => ⟨rfl, ?_⟩⟩, fun c => absurd n2 c⟩
    rw [e8, eu2, eu1]; exact h0.fault 1
  · have e0 : sb v1 (3 + 2 * k) 0 = nI l := a3
    refine q_faultAs (fun e => absurd (a3.symm.trans e) (l_m1 hl)) (fun _ e v8 e8 => ?_) (fun _ e v8 e8 => ?_)
    · have e2 : v8 2 = 2 := by rw [e8, fu_eq]
      rw [e2]
      refine ⟨fun _ => ⟨fun _ => ?_, fun c => absurd c (by decide)⟩, fun c => absurd c (by decide)⟩
      intro u1 eu1
      refine q5_isSheet1 hk (yes1 (q5_isSort1 a b (yes1' ⟨vk, ?_⟩)))
      rw [nI_clamp (by omega), a4]
      refine ⟨fun c => absurd c (l_m9 hl), fun _ => ⟨vk, fun c => absurd (e0.trans c) e, fun _ u2 eu2 => ⟨rfl, ?_⟩⟩⟩
      rw [e8, eu2, eu1]; exact h0.fault 2
    · have ep : nI l = p2 := e0.symm.trans e
      have e2 : v8 2 = 0 := by rw [e8, fu_eq]
      rw [e2]
      have v88 : v8 = v1 := by rw [e8, ev1]; funext i; by_cases e : i = 2 <;> simp [fu, e]
      refine ⟨fun c => absurd rfl c, fun _ => q_hasCell hm (by rw [v88, sb_add, show 3 + 2 * k + 1 = 4 + 2 * k by omega]; exact a5) (fun i hi ei => yes1' ⟨fun c => absurd rfl c, fun _ => ?_⟩) (fun hi => no0' (fun v16 e16 => ?_))⟩
      · subst ei
        refine ⟨vi_nI (by omega) (by omega), ?_⟩
        rw [nI_clamp (by omega)]
        intro u1 eu1
        refine q5_isSheet1 hk (yes1 (q5_isSort1 a b (yes1' ⟨vk, ?_⟩)))
        rw [nI_clamp (n := k) (by omega), a4, a6, n60, nI_clamp (by omega)]
        obtain ⟨w1, w2⟩ := (cellI hm).mpr ⟨i, hi, rfl⟩
        refine ⟨fun c => absurd c (l_m9 hl), fun _ => ⟨vk, fun _ => ⟨vk, fun _ => ⟨vk, q5_within1 w1 w2 (yes1' ⟨vi_nI (by omega) (by omega), by rw [a7 i hi], ?_⟩)⟩, fun c => absurd c (l_m9 hl)⟩, fun c => absurd ep c⟩⟩
        rw [v88, eu1]; exact h0
      · have e3 : v16 2 = 3 := by rw [e16, fu_eq]
        rw [e3]
        refine ⟨fun _ => ?_, fun c => absurd c (by decide)⟩
        intro u1 eu1
        refine q5_isSheet1 hk (yes1 (q5_isSort1 a b (yes1' ⟨vk, ?_⟩)))
        rw [nI_clamp (n := k) (by omega), a4, a6]
        refine ⟨fun c => absurd c (l_m9 hl), fun _ => ⟨vk, fun _ => ⟨vk, fun _ => ⟨vk, q5_within0 (fun z => hi ((cellI hm).mp z)) (no0' (fun u2 eu2 => ⟨rfl, ?_⟩))⟩, fun c => absurd c (l_m9 hl)⟩, fun c => absurd ep c⟩⟩
        rw [e16, v88, eu2, eu1]; exact h0.fault 3
