/-! ===== TEXTS are read in one way ===== -/
section UQ
variable {c : Nat → Int32} {L : Nat}
theorem sf_59 {p k : Nat} (h : sf c L p k = 4) : pkv c L p = 59 := by
  unfold sf at h
  by_cases e : pkv c L p = 59
  · exact e
  · rw [if_pos e] at h; exact absurd h (by decide)
theorem tf_44 {p : Nat} (h : tf c L p = 5) : pkv c L p = 44 := by
  unfold tf at h
  by_cases e : pkv c L p = 44
  · exact e
  · rw [if_pos e] at h; exact absurd h (by decide)
theorem SOK_le {n n' : Nat} (h : SOK c L n) (h' : SOK c L n') : n' ≤ n := by
  rcases Nat.lt_or_ge n n' with hl | hl
  · rcases h.2.2.2 with e | e
    · have := h'.2.1; omega
    · exact absurd (sf_59 (h'.2.2.1 n hl)) e
  · exact hl
theorem SOK_u {n n' : Nat} (h : SOK c L n) (h' : SOK c L n') : n = n' := Nat.le_antisymm (SOK_le h' h) (SOK_le h h')
theorem TOK_le {q n n' : Nat} (h : TOK c L q n) (h' : TOK c L q n') : n' ≤ n := by
  rcases Nat.lt_or_ge n n' with hl | hl
  · rcases h.2.2.2 with e | e
    · have := h'.2.1; omega
    · exact absurd (tf_44 (h'.2.2.1 n hl)) e
  · exact hl
theorem TOK_u {q n n' : Nat} (h : TOK c L q n) (h' : TOK c L q n') : n = n' := Nat.le_antisymm (TOK_le h' h) (TOK_le h h')
theorem SOK_SBAD {n k s : Nat} (h : SOK c L n) (h' : SBAD c L k s) : False := by
  obtain ⟨b1, b2, b3, b4, b5⟩ := h'
  rcases Nat.lt_or_ge k n with hl | hl
  · have := h.2.2.1 k hl; omega
  · have e59 : ¬ pkv c L (1 + 4 * n) = 59 := by
      rcases h.2.2.2 with e | e
      · omega
      · exact e
    rcases Nat.eq_or_lt_of_le hl with e | hl
    · subst e
      rcases b3 with e | e
      · have := h.1; omega
      · exact e59 e
    · exact e59 (sf_59 (b2 n hl))
theorem TOK_TBAD {q n k s : Nat} (h : TOK c L q n) (h' : TBAD c L q k s) : False := by
  obtain ⟨b1, b2, b3, b4, b5⟩ := h'
  rcases Nat.lt_or_ge k n with hl | hl
  · have := h.2.2.1 k hl; omega
  · have e59 : ¬ pkv c L (q + 5 * n) = 44 := by
      rcases h.2.2.2 with e | e
      · omega
      · exact e
    rcases Nat.eq_or_lt_of_le hl with e | hl
    · subst e
      rcases b3 with e | e
      · have := h.1; omega
      · exact e59 e
    · exact e59 (tf_44 (b2 n hl))
theorem SBAD_u {k s k' s' : Nat} (h : SBAD c L k s) (h' : SBAD c L k' s') : k = k' ∧ s = s' := by
  obtain ⟨a1, a2, a3, a4, a5⟩ := h
  obtain ⟨b1, b2, b3, b4, b5⟩ := h'
  have e : k = k' := by
    rcases Nat.lt_trichotomy k k' with hl | e | hl
    · have := b2 k hl; omega
    · exact e
    · have := a2 k' hl; omega
  subst e
  exact ⟨rfl, a4.symm.trans b4⟩
theorem TBAD_u {q k s k' s' : Nat} (h : TBAD c L q k s) (h' : TBAD c L q k' s') : k = k' ∧ s = s' := by
  obtain ⟨a1, a2, a3, a4, a5⟩ := h
  obtain ⟨b1, b2, b3, b4, b5⟩ := h'
  have e : k = k' := by
    rcases Nat.lt_trichotomy k k' with hl | e | hl
    · have := b2 k hl; omega
    · exact e
    · have := a2 k' hl; omega
  subst e
  exact ⟨rfl, a4.symm.trans b4⟩
theorem POK_u {n t n' t' : Nat} (h : POK c L n t) (h' : POK c L n' t') : n = n' ∧ t = t' := by
  have e := SOK_u h.2.1 h'.2.1
  subst e
  exact ⟨rfl, TOK_u h.2.2.1 h'.2.2.1⟩
theorem POK_PBAD {n t pl : Nat} (h : POK c L n t) (h' : PBAD c L pl) : False := by
  obtain ⟨a1, a2, a3, a4⟩ := h
  rcases h' with ⟨b, _⟩ | ⟨_, k, s, b, _⟩ | ⟨_, n', b, j, s, b2, _⟩ | ⟨_, n', t', b, b2, b3, b4⟩
  · exact b a1
  · exact SOK_SBAD a2 b
  · have e := SOK_u a2 b
    subst e
    exact TOK_TBAD a3 b2
  · have e := SOK_u a2 b
    subst e
    have e := TOK_u a3 b2
    subst e
    omega
theorem PBAD_u {pl pl' : Nat} (h : PBAD c L pl) (h' : PBAD c L pl') : pl = pl' := by
  rcases h with ⟨a, a1⟩ | ⟨a, k, s, a1, a2⟩ | ⟨a, n, a1, j, s, a2, a3⟩ | ⟨a, n, t, a1, a2, a3, a4⟩
  · rcases h' with ⟨_, b⟩ | ⟨b, _⟩ | ⟨b, _⟩ | ⟨b, _⟩
    · omega
    · exact absurd b a
    · exact absurd b a
    · exact absurd b a
  · rcases h' with ⟨b, _⟩ | ⟨_, k', s', b1, b2⟩ | ⟨_, n', b1, _⟩ | ⟨_, n', t', b1, _⟩
    · exact absurd a b
    · obtain ⟨rfl, rfl⟩ := SBAD_u a1 b1
      omega
    · exact (SOK_SBAD b1 a1).elim
    · exact (SOK_SBAD b1 a1).elim
  · rcases h' with ⟨b, _⟩ | ⟨_, k', s', b1, b2⟩ | ⟨_, n', b1, j', s', b2, b3⟩ | ⟨_, n', t', b1, b2, _⟩
    · exact absurd a b
    · exact (SOK_SBAD a1 b1).elim
    · have e := SOK_u a1 b1
      subst e
      obtain ⟨rfl, rfl⟩ := TBAD_u a2 b2
      omega
    · have e := SOK_u a1 b1
      subst e
      exact (TOK_TBAD b2 a2).elim
  · rcases h' with ⟨b, _⟩ | ⟨_, k', s', b1, b2⟩ | ⟨_, n', b1, j', s', b2, b3⟩ | ⟨_, n', t', b1, b2, b3, b4⟩
    · exact absurd a b
    · exact (SOK_SBAD a1 b1).elim
    · have e := SOK_u a1 b1
      subst e
      exact (TOK_TBAD a2 b2).elim
    · have e := SOK_u a1 b1
      subst e
      have e := TOK_u a2 b2
      subst e
      omega
theorem sf4 {p k : Nat} (h : sf c L p k = 4) : ¬ srcV (pkv c L (p + 2)) k = -1 ∧ ¬ srcV (pkv c L (p + 3)) k = -1 := by
  unfold sf at h
  split at h
  · exact absurd h (by decide)
  · split at h
    · exact absurd h (by decide)
    · split at h
      · exact absurd h (by decide)
      · split at h
        · exact absurd h (by decide)
        · rename_i a b; exact ⟨a, b⟩
theorem tf5 {p : Nat} (h : tf c L p = 5) : ¬ kIdx (pkv c L (p + 1)) = -1 ∧ ¬ digV 1 9 (pkv c L (p + 2)) = -1 := by
  unfold tf at h
  split at h
  · exact absurd h (by decide)
  · split at h
    · exact absurd h (by decide)
    · split at h
      · exact absurd h (by decide)
      · rename_i a b; exact ⟨a, b⟩
theorem kIdx_ok {z : Int32} (h : ¬ kIdx z = -1) : ∃ κ, κ < 3 ∧ kIdx z = nI κ := by
  unfold kIdx at h ⊢
  split
  · exact ⟨0, by decide, rfl⟩
  · split
    · exact ⟨1, by decide, rfl⟩
    · split
      · exact ⟨2, by decide, rfl⟩
      · rename_i a b d
        rw [if_neg a, if_neg b, if_neg d] at h; exact absurd rfl h
theorem digV_ok {z : Int32} (h : ¬ digV 1 9 z = -1) : ∃ τ, τ < 10 ∧ digV 1 9 z = nI τ := by
  rw [digV_n1 (by decide)] at h
  have h := Classical.not_not.mp h
  obtain ⟨k, e, _, h2⟩ := rngI (a := 1) (b := 9) (by omega) h.1 h.2 (by omega)
  exact ⟨k, by omega, by unfold digV; rw [if_pos h]; exact e⟩
/-- what a text tells is a program -/
theorem POK_pi {n t : Nat} {p : FF} {a : VV} (h : POK c L n t) (hS : SRow c L n (p 0) (p 1) (p 2)) (e0 : a 0 = nI n) (e1 : a 1 = nI t) : PI n t p a :=
  ⟨h.2.1.2.1, h.2.2.1.2.1, e0, e1, fun k hk => by
    have := sf4 (h.2.1.2.2.1 k hk)
    have hk5 := h.2.1.2.1
    rw [(hS k hk).2.1, (hS k hk).2.2]
    exact ⟨srcV_ok (by omega) this.1, srcV_ok (by omega) this.2⟩⟩
theorem POK_vd {n t : Nat} {p : FF} (h : POK c L n t) (hT : TRow c L (1 + 4 * n) t (p 3) (p 4) (p 5) (p 6)) : VD t p := fun j hj => by
  have := tf5 (h.2.2.1.2.2.1 j hj)
  rw [(hT j hj).1, (hT j hj).2.1]
  exact ⟨kIdx_ok this.1, digV_ok this.2⟩
end UQ
theorem POK.cong {c d : Nat → Int32} {L n t : Nat} (h : ∀ p, pkv c L p = pkv d L p) (q : POK c L n t) : POK d L n t := ⟨(h 0).symm.trans q.1, q.2.1.cong h, q.2.2.1.cong h, q.2.2.2⟩
theorem PBAD.cong {c d : Nat → Int32} {L pl : Nat} (h : ∀ p, pkv c L p = pkv d L p) (q : PBAD c L pl) : PBAD d L pl := by
  have h0 : pkv d L 0 = pkv c L 0 := (h 0).symm
  rcases q with ⟨a, a1⟩ | ⟨a, k, s, a1, a2⟩ | ⟨a, n, a1, j, s, a2, a3⟩ | ⟨a, n, t, a1, a2, a3, a4⟩
  · exact Or.inl ⟨by rw [h0]; exact a, a1⟩
  · exact Or.inr (Or.inl ⟨by rw [h0]; exact a, k, s, a1.cong h, a2⟩)
  · exact Or.inr (Or.inr (Or.inl ⟨by rw [h0]; exact a, n, a1.cong h, j, s, a2.cong h, a3⟩))
  · exact Or.inr (Or.inr (Or.inr ⟨by rw [h0]; exact a, n, t, a1.cong h, a2.cong h, a3, a4⟩))
section AN
variable {g : FF} {u : VV} {post : Int32 → Prop} {k l m : Nat} {p1 p2 p3 : Int32}
theorem q5_against1 (hk : k < 4) (e : g 0 k = -9) (h : post 1) : Q_X5_against (nI k) p1 p2 p3 g u post := by
  have vk : vp_in (nI k) 4 := vi_nI (by omega) (by omega)
  unfold Q_X5_against
  rw [nI_clamp (by omega), e]
  exact ⟨vk, fun _ => ⟨vk, fun c => absurd rfl c, fun _ => h⟩, fun c => absurd rfl c⟩
theorem q5_against2 (hk : k < 4) (hl : l < 3) (e : g 0 k = nI l) (ne : ¬ nI l = p1) (h : post 2) : Q_X5_against (nI k) p1 p2 p3 g u post := by
  have vk : vp_in (nI k) 4 := vi_nI (by omega) (by omega)
  unfold Q_X5_against
  rw [nI_clamp (by omega), e]
  exact ⟨vk, fun c => absurd c (l_m9 hl), fun _ => ⟨vk, fun c => absurd c ne, fun _ => h⟩⟩
theorem q5_against4 (hk : k < 4) (hl : l < 3) (e : g 0 k = nI l) (ee : nI l = p1) (hn : ¬ 0 ≤ p3) (h : post 4) : Q_X5_against (nI k) p1 p2 p3 g u post := by
  have vk : vp_in (nI k) 4 := vi_nI (by omega) (by omega)
  unfold Q_X5_against
  rw [nI_clamp (by omega), e]
  exact ⟨vk, fun c => absurd c (l_m9 hl), fun _ => ⟨vk, fun _ => ⟨vk, fun _ => ⟨fun c => absurd c hn, fun _ => h⟩, fun c => absurd c (l_m9 hl)⟩, fun c => absurd ee c⟩⟩
theorem q5_against03 (hk : k < 4) (hl : l < 3) (hm : m ≤ 60) (e : g 0 k = nI l) (e1 : g 1 k = nI m) (ee : nI l = p1) (hn : 0 ≤ p3) (h0 : (∃ i n, i + n ≤ m ∧ p2 = nI i ∧ p3 = nI n) → post 0) (h3 : (¬ ∃ i n, i + n ≤ m ∧ p2 = nI i ∧ p3 = nI n) → post 3) : Q_X5_against (nI k) p1 p2 p3 g u post := by
  have vk : vp_in (nI k) 4 := vi_nI (by omega) (by omega)
  have H := cellsI hm (p := p2) (q := p3)
  unfold Q_X5_against
  rw [nI_clamp (by omega), e, e1]
  refine ⟨vk, fun c => absurd c (l_m9 hl), fun _ => ⟨vk, fun _ => ⟨vk, fun _ => ⟨fun _ => ⟨fun c => h3 (fun z => (H.mpr z).1 c), fun c => ⟨vk, fun c2 => h3 (fun z => (H.mpr z).2.1 c2), fun c2 => ⟨vk, fun c3 => h0 (H.mp ⟨c, c2, Int32.not_lt.mpr hn, Int32.not_lt.mpr c3⟩), fun c3 => h3 (fun z => c3 (Int32.not_lt.mp (H.mpr z).2.2.2))⟩⟩⟩, fun c => absurd hn c⟩, fun c => absurd c (l_m9 hl)⟩, fun c => absurd ee c⟩⟩
end AN
theorem op_program (p0 p1 p2 p3 : Int32) (f : FF) (v : VV) (g : FF) (u : VV) (h : Rel0 f v g u) : Q_X4_program p0 p1 p2 p3 f v (fun r f1 v1 => Q_X5_program p0 p1 p2 p3 g u (fun r' g1 u1 => r = r' ∧ Rel0 f1 v1 g1 u1)) := by
  intro v1 ev1
  have h0 := h.fault 0
  rw [← ev1] at h0
  refine q_isSheet (fun k hk ek => yes1' ?_) (fun hk => no0' (fun u1 eu1 => q5_isSheet0 hk (no0' ⟨rfl, by rw [eu1]; exact h0⟩)))
  subst ek
  have vk : vp_in (nI k) 4 := vi_nI (by omega) (by omega)
  refine q_isWithin (fun a b => yes1' ⟨vk, ?_⟩) (fun a => no0' (fun u1 eu1 => q5_isSheet1 hk (yes1' (q5_isSort0 a (no0' ⟨rfl, by rw [eu1]; exact h0⟩)))))
  rw [nI_clamp (by omega)]
  rcases h0.1 k hk with ⟨n1, n2⟩ | ⟨l, m, hl, hm, a3, a4, a5, a6, a7⟩
  · refine q_faultAs (fun e => ⟨fun _ => ⟨fun _ => ⟨fun c => absurd c (by decide), fun _ v2 ev2 => ?_⟩, fun c => absurd c (by decide)⟩, fun c => absurd c (by decide)⟩) (fun e => absurd n1 e) (fun e => absurd n1 e)
    intro u1 eu1
    exact q5_isSheet1 hk (yes1' (q5_isSort1 a b (yes1' (q5_against1 hk n2 ⟨fun c => absurd c (by decide), fun _ u2 eu2 => ⟨rfl, by rw [ev2, eu2, eu1]; exact h0.fault 1⟩⟩))))
  have c1 : sb v1 (3 + 2 * k) 1 = nI m := by rw [sb_add, show 3 + 2 * k + 1 = 4 + 2 * k by omega]; exact a5
  have e0 : sb v1 (3 + 2 * k) 0 = nI l := a3
  refine q_faultAs (fun e => absurd (a3.symm.trans e) (l_m1 hl)) (fun _ e => ⟨fun _ => ⟨fun _ => ⟨fun c => absurd c (by decide), fun _ v2 ev2 => ?_⟩, fun c => absurd c (by decide)⟩, fun c => absurd c (by decide)⟩) (fun _ e => ⟨fun c => absurd rfl c, fun _ => ⟨fun hn => ⟨fun c => absurd rfl c, fun _ => ?_⟩, fun hn v2 ev2 => ?_⟩⟩)
  · intro u1 eu1
    rw [e0] at e
    exact q5_isSheet1 hk (yes1' (q5_isSort1 a b (yes1' (q5_against2 hk hl a4 e ⟨fun c => absurd c (by decide), fun _ u2 eu2 => ⟨rfl, by rw [ev2, eu2, eu1]; exact h0.fault 2⟩⟩))))
  rotate_left
  · intro u1 eu1
    rw [e0] at e
    exact q5_isSheet1 hk (yes1' (q5_isSort1 a b (yes1' (q5_against4 hk hl a4 e hn ⟨fun c => absurd c (by decide), fun _ u2 eu2 => ⟨rfl, by rw [ev2, eu2, eu1]; exact h0.fault 4⟩⟩))))
  rw [e0] at e
  refine q_hasCells hm c1 (fun i n hin ei en => yes1' (no0 ?_)) (fun hno => no0' (fun v2 ev2 u1 eu1 => q5_isSheet1 hk (yes1' (q5_isSort1 a b (yes1' (q5_against03 hk hl hm a4 a6 e hn (fun z => absurd z hno) (fun _ => ⟨fun c => absurd c (by decide), fun _ u2 eu2 => ⟨rfl, by rw [ev2, eu2, eu1]; exact h0.fault 3⟩⟩)))))))
  subst ei; subst en
  -- where both read
  have F0 : jn f (1 + k) 1 23 0 = f (1 + k) := jn_lt (by decide)
  have hpk : ∀ p, pkv (fun j => jn f (1 + k) 1 23 0 (i + j)) n p = pkv (cs (g 2) (60 * k + i)) n p := fun p => pkv_cong (fun j hj => by
    rw [F0, a7 (i + j) (by omega)]
    show g 2 _ = g 2 (60 * k + i + j)
    rw [Nat.add_assoc]) p
  have ref : ∀ (P : Int32 → FF → VV → Prop) (u1 : VV), u1 = fu u 0 0 →
      (∀ n' t g' u', POK (cs (g 2) (60 * k + i)) n n' t → SRow (cs (g 2) (60 * k + i)) n n' (g' 3) (g' 4) (g' 5) → TRow (cs (g 2) (60 * k + i)) n (1 + 4 * n') t (g' 6) (g' 7) (g' 8) (g' 9) → u' 2 = nI n' → u' 3 = nI t → u' 8 = 0 → u' 0 = 0 → u' 1 = u 1 → (∀ j, j < 3 ∨ j = 16 → g' j = g j) → P (nI (4 * n')) g' u') →
      (∀ pl g' u', PBAD (cs (g 2) (60 * k + i)) n pl → FE g u1 g' u' → P (-100 - nI pl) g' u') → Q_X5_program (nI k) p1 (nI i) (nI n) g u P := by
    intro P u1 eu1 hok hbad u1' eu1'
    have e11 : u1' = u1 := by rw [eu1, eu1']
    subst e11
    refine q5_isSheet1 hk (yes1' (q5_isSort1 a b (yes1' (q5_against03 hk hl hm a4 a6 e hn (fun _ => no0 ?_) (fun z => absurd ⟨i, n, hin, rfl, rfl⟩ z)))))
    intro x8 ex8 u9 eu9
    rw [n60] at ex8
    subst ex8
    rw [nI_add]
    have f9 : ∀ j, j ≠ 4 → u9 j = u1' j := fun j hj => by rw [eu9, fu_ne hj]
    refine q5_readAll (b := 60 * k + i) (L := n) rfl (by omega) (by rw [eu9, fu_eq]) (fun n' t g1 u2 hp hS hT h5 h6 hu hg => yes1' ?_) (fun pl g1 u2 hp hpl h4 hu hg => no0' ?_)
    · intro u14 e14 u15 e15
      have w2 : u15 2 = nI n' := by rw [e15, fu_ne (by decide), e14, fu_eq, h5]
      have w3 : u15 3 = nI t := by rw [e15, fu_eq, e14, fu_ne (by decide), h6]
      refine ⟨n' + 1, q5_pl1 (g0 := g1) hp.2.1.2.1 w2 (fun x g2 A1 A2 => ⟨t + 1, q5_pl2 (g0 := g2) hp.2.2.1.2.1 w3 (fun x g3 B1 B2 u49 e49 => ?_) t 0 g2 (by omega) (fun _ h => absurd h (by omega)) (fun _ _ => rfl)⟩) n' 0 g1 (by omega) (fun _ h => absurd h (by omega)) (fun _ _ => rfl)⟩
      have m2 : u49 2 = nI n' := by rw [e49, fu_ne (by decide)]; exact w2
      unfold Q_X5_mutants
      rw [m2, show (4 : Int32) * nI n' = nI (4 * n') from pk_mul 4 n']
      refine hok n' t g3 u49 hp (fun q hq => ?_) (fun q hq => ?_) m2 (by rw [e49, fu_ne (by decide)]; exact w3) (by rw [e49, fu_eq]) ?_ ?_ (fun j hj => ?_)
      · rw [B2 3 (by omega), B2 4 (by omega), B2 5 (by omega), (A1 q hq).1, (A1 q hq).2.1, (A1 q hq).2.2]; exact hS q hq
      · rw [(B1 q hq).1, (B1 q hq).2.1, (B1 q hq).2.2.1, (B1 q hq).2.2.2, A2 11 (by omega)]; exact hT q hq
      · rw [e49, fu_ne (by decide), e15, fu_ne (by decide), e14, fu_ne (by decide), hu 0 (by decide) (by decide) (by decide), f9 0 (by decide), eu1', fu_eq]
      · rw [e49, fu_ne (by decide), e15, fu_ne (by decide), e14, fu_ne (by decide), hu 1 (by decide) (by decide) (by decide), f9 1 (by decide), eu1', fu_ne (by decide)]
      · rw [B2 j (by omega), A2 j (by omega), hg j (by omega) (by omega)]
    · rw [h4, nI_sub (by omega), show 60 * k + i + pl - (60 * k + i) = pl by omega]
      exact hbad pl g1 u2 hp ⟨fun j hj => hg j (by omega) (by omega), fun j hj => (hu j (by omega) (by omega) (by omega)).trans (f9 j (by omega))⟩
  refine q_reads (by omega) (fun n' t f' v' hp z0 hS hT y0 y1 y4 y5 f15 e15 v16 e16 => ?_) (fun pl f' v' hp z0 y0 y1 y3 f15 e15 v16 e16 => ?_)
  · have r15 : ∀ j, j < 23 → f15 j = f j := fun j hj => by
      rw [e15, mg_out (by omega)]
      by_cases hj1 : 1 + k ≤ j ∧ j < 1 + k + 1
      · rw [mg_in hj1.1 hj1.2, show j - (1 + k) = 0 by omega, z0, F0, show j = 1 + k by omega]
      · rw [mg_out hj1]
    have r24 : ∀ j, j < 9 → f15 (24 + j) = f' (2 + j) := fun j hj => by
      rw [e15, show 24 + j = 23 + (1 + j) by omega, mg_at (by omega), sb_add]; congr 1; omega
    have w16 : ∀ j, j < 15 → v16 j = v1 j := fun j hj => by
      rw [e16, mg_out (by omega)]
      by_cases hj1 : 3 + 2 * k ≤ j ∧ j < 3 + 2 * k + 2
      · rw [mg_in hj1.1 hj1.2]
        have : j - (3 + 2 * k) = 0 ∨ j - (3 + 2 * k) = 1 := by omega
        rcases this with e | e
        · rw [e, y0, jn_lt (by decide)]; congr 1; omega
        · rw [e, y1, jn_lt (by decide)]; congr 1; omega
      · rw [mg_out hj1]
    have w17 : v16 17 = nI n' := by rw [e16]; exact (mg_at (b := 15) (i := 2) (by decide)).trans y4
    have w18 : v16 18 = nI t := by rw [e16]; exact (mg_at (b := 15) (i := 3) (by decide)).trans y5
    refine yes1' (q_becomeLike hp.2.1.2.1 hp.2.2.1.2.1 w17 w18 (fun f20 v21 hL hr x0 x1 hv f22 e22 v23 e23 v24 e24 => ?_))
    have L9 : ∀ j, j < 9 → jn f15 5 9 24 (9 + j) = f' (2 + j) := fun j hj => by rw [jn_ge (by omega), show 24 + (9 + j - 9) = 24 + j by omega, r24 j hj]
    have r22 : ∀ j, j < 9 → f22 (5 + j) = f20 j := fun j hj => by rw [e22, mg_out (by omega), mg_at hj]
    have s22 : ∀ j, j < 5 → f22 j = f j := fun j hj => by rw [e22, mg_out (by omega), mg_out (by omega), r15 j (by omega)]
    have t24 : ∀ j, j < 11 → j ≠ 0 → v24 j = v1 j := fun j hj hj0 => by rw [e24, fu_ne hj0, e23, mg_out (by omega), mg_out (by omega), w16 j (by omega)]
    have t11 : v24 11 = nI n' := by rw [e24, fu_ne (by decide), e23, mg_out (by omega)]; exact (mg_at (b := 11) (i := 0) (by decide)).trans x0
    have t12 : v24 12 = nI t := by rw [e24, fu_ne (by decide), e23, mg_out (by omega)]; exact (mg_at (b := 11) (i := 1) (by decide)).trans x1
    have cc := POK.cong hpk hp
    have hS' : SRow (cs (g 2) (60 * k + i)) n n' (f22 5) (f22 6) (f22 7) := fun q hq => by
      have A := (hS.cong hpk) q hq
      have B := hL.1 q hq
      rw [show f22 5 = f20 0 from r22 0 (by decide), show f22 6 = f20 1 from r22 1 (by decide), show f22 7 = f20 2 from r22 2 (by decide), B.1, B.2.1, B.2.2, L9 0 (by decide), L9 1 (by decide), L9 2 (by decide)]
      exact A
    have hT' : TRow (cs (g 2) (60 * k + i)) n (1 + 4 * n') t (f22 8) (f22 9) (f22 10) (f22 11) := fun q hq => by
      have A := (hT.cong hpk) q hq
      have B := hL.2 q hq
      rw [show f22 8 = f20 3 from r22 3 (by decide), show f22 9 = f20 4 from r22 4 (by decide), show f22 10 = f20 5 from r22 5 (by decide), show f22 11 = f20 6 from r22 6 (by decide), B.1, B.2.1, B.2.2.1, B.2.2.2, L9 3 (by decide), L9 4 (by decide), L9 5 (by decide), L9 6 (by decide)]
      exact A
    have PC : PI n' t (sb f22 5) (sb v24 11) := POK_pi cc hS' t11 t12
    refine q_mutants PC ?_
    refine ref _ _ rfl (fun n2 t2 g' u' hp2 hS2 hT2 q2 q3 q8 q0 q1 hg => ?_) (fun pl g' u' hp2 _ => (POK_PBAD cc hp2).elim)
    obtain ⟨en, et⟩ := POK_u cc hp2
    subst en; subst et
    refine ⟨rfl, fun k' hk' => (h0.1 k' hk').of (s22 _ (by omega)) (t24 _ (by omega) (by omega)) (t24 _ (by omega) (by omega)) (by rw [hg 0 (by omega)]) (by rw [hg 1 (by omega)]) (fun _ _ => by rw [hg 2 (by omega)]), ⟨n', t, PC, POK_pi cc hS2 q2 q3, ?_, ⟨fun q hq => ?_, fun q hq => ?_⟩, POK_vd cc hT'⟩, ⟨0, by decide, by rw [e24, fu_eq]; rfl, q8, fun _ h => absurd h (by omega)⟩, ?_, ?_⟩
    · have := cc.2.1.1
      have := cc.2.2.1.1
      omega
    · exact ⟨(hS' q hq).1.trans (hS2 q hq).1.symm, (hS' q hq).2.1.trans (hS2 q hq).2.1.symm, (hS' q hq).2.2.trans (hS2 q hq).2.2.symm⟩
    · exact ⟨(hT' q hq).1.trans (hT2 q hq).1.symm, (hT' q hq).2.1.trans (hT2 q hq).2.1.symm, (hT' q hq).2.2.1.trans (hT2 q hq).2.2.1.symm, (hT' q hq).2.2.2.trans (hT2 q hq).2.2.2.symm⟩
    · rw [t24 1 (by decide) (by decide), q1]; exact h0.2.2.2.1
    · rw [t24 2 (by decide) (by decide), q0, ev1, fu_eq]
  · have w16 : v16 16 = nI pl := by rw [e16]; exact (mg_at (b := 15) (i := 1) (by decide)).trans y3
    have hc : FC f v1 f15 v16 := by
      refine ⟨fun j hj => ?_, fun j hj => ?_⟩
      · rw [e15, mg_out (by omega)]
        by_cases hj1 : 1 + k ≤ j ∧ j < 1 + k + 1
        · rw [mg_in hj1.1 hj1.2, show j - (1 + k) = 0 by omega, z0, F0, show j = 1 + k by omega]
        · rw [mg_out hj1]
      · rw [e16, mg_out (by omega)]
        by_cases hj1 : 3 + 2 * k ≤ j ∧ j < 3 + 2 * k + 2
        · rw [mg_in hj1.1 hj1.2]
          have : j - (3 + 2 * k) = 0 ∨ j - (3 + 2 * k) = 1 := by omega
          rcases this with e | e
          · rw [e, y0, jn_lt (by decide)]; congr 1; omega
          · rw [e, y1, jn_lt (by decide)]; congr 1; omega
        · rw [mg_out hj1]
    have cc := PBAD.cong hpk hp
    refine no0' ?_
    rw [w16]
    refine ref _ _ rfl (fun n2 t2 g' u' hp2 _ _ _ _ _ _ _ _ => (POK_PBAD hp2 cc).elim) (fun pl2 g' u' hp2 he => ⟨by rw [PBAD_u cc hp2], h0.fr hc he⟩)
