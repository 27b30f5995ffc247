def SOK (c : Nat → Int32) (L n : Nat) : Prop := 1 ≤ n ∧ n ≤ 5 ∧ (∀ k, k < n → sf c L (1 + 4 * k) k = 4) ∧ (n = 5 ∨ ¬ pkv c L (1 + 4 * n) = 59)
def SBAD (c : Nat → Int32) (L k s : Nat) : Prop := k < 5 ∧ (∀ j, j < k → sf c L (1 + 4 * j) j = 4) ∧ (k = 0 ∨ pkv c L (1 + 4 * k) = 59) ∧ sf c L (1 + 4 * k) k = s ∧ s < 4
def TOK (c : Nat → Int32) (L q t : Nat) : Prop := 1 ≤ t ∧ t ≤ 7 ∧ (∀ j, j < t → tf c L (q + 5 * j) = 5) ∧ (t = 7 ∨ ¬ pkv c L (q + 5 * t) = 44)
def TBAD (c : Nat → Int32) (L q j s : Nat) : Prop := j < 7 ∧ (∀ i, i < j → tf c L (q + 5 * i) = 5) ∧ (j = 0 ∨ pkv c L (q + 5 * j) = 44) ∧ tf c L (q + 5 * j) = s ∧ s < 5
/-- the rows of the steps that were read -/
def SRow (c : Nat → Int32) (L n : Nat) (w a b : Nat → Int32) : Prop := ∀ k, k < n → w k = wIdx (pkv c L (1 + 4 * k + 1)) ∧ a k = srcV (pkv c L (1 + 4 * k + 2)) k ∧ b k = srcV (pkv c L (1 + 4 * k + 3)) k
def TRow (c : Nat → Int32) (L q t : Nat) (kd tm x y : Nat → Int32) : Prop := ∀ j, j < t → kd j = kIdx (pkv c L (q + 5 * j + 1)) ∧ tm j = digV 1 9 (pkv c L (q + 5 * j + 2)) ∧ x j = digV 0 9 (pkv c L (q + 5 * j + 3)) ∧ y j = digV 0 9 (pkv c L (q + 5 * j + 4))
section TY
variable {L : Nat} {f : FF} {v : VV} {posf : Int32 → FF → VV → Prop}
/-- the reader behind k steps -/
def SS (c : Nat → Int32) (L k : Nat) (f0 f : FF) (v0 v : VV) : Prop := RI L (1 + 4 * k) v ∧ v 2 = nI k ∧ (∀ i, i ≠ 1 → i ≠ 2 → v i = v0 i) ∧ (∀ i, i ≠ 1 → i ≠ 2 → i ≠ 3 → f i = f0 i) ∧ SRow c L k (f 1) (f 2) (f 3) ∧ f 0 = c ∧ (∀ j, j < k → sf c L (1 + 4 * j) j = 4)
theorem q_rs_step {c : Nat → Int32} {k : Nat} {f0 : FF} {v0 : VV} (hk : k < 5) (h : SS c L k f0 f v0 v) (h1 : ∀ f' v', SS c L (k + 1) f0 f' v0 v' → posf 1 f' v') (h0 : ∀ s v', sf c L (1 + 4 * k) k = s → s < 4 → RI L (1 + 4 * k + s) v' → (∀ i, i ≠ 1 → i ≠ 2 → v' i = v0 i) → posf 0 f v') : Q_X3_readStep f v posf := by
  obtain ⟨r, k2, vs, fs, sr, e0, oks⟩ := h
  subst e0
  refine q_readStep r k2 hk (fun e hl f' v' hs p1 p2 ps => h1 f' v' ?_) (fun s e hs hl v' hv => h0 s v' e hs (r.mv hv hl) (fun i i1 i2 => by rw [hv.2 i i1]; exact vs i i1 i2))
  obtain ⟨s1, s2, s3, s4⟩ := hs
  have e0 : f' 0 = f 0 := s4 0 (by decide) (by decide) (by decide)
  refine ⟨⟨r.1, by omega, by rw [ps 0 (by decide) (by decide)]; exact r.2.2.1, by rw [p1]; congr 1⟩, p2, fun i i1 i2 => by rw [ps i i1 i2]; exact vs i i1 i2, fun i i1 i2 i3 => by rw [s4 i i1 i2 i3]; exact fs i i1 i2 i3, fun j hj => ?_, e0, fun j hj => ?_⟩
  · rw [s1, s2, s3]
    by_cases hjk : j = k
    · subst hjk
      rw [upd_eq, upd_eq, upd_eq]
      exact ⟨rfl, rfl, rfl⟩
    · rw [upd_ne hjk, upd_ne hjk, upd_ne hjk]
      exact sr j (by omega)
  · rcases (show j < k ∨ j = k by omega) with z | z
    · exact oks j z
    · rw [z]; exact e
theorem q_rss_loop {c : Nat → Int32} {K : Int32 → Int32 → FF → VV → Prop} {f0 : FF} {v0 : VV}
    (h1 : ∀ n x2 f v, SOK c L n → SS c L n f0 f v0 v → K 1 x2 f v)
    (h0 : ∀ k s x2 f v, SBAD c L k s → RI L (1 + 4 * k + s) v → (∀ i, i ≠ 1 → i ≠ 2 → v i = v0 i) → (∀ i, i ≠ 1 → i ≠ 2 → i ≠ 3 → f i = f0 i) → K 0 x2 f v) :
    ∀ (d k : Nat) (f : FF) (v : VV), k + d = 5 → 1 ≤ k → SS c L k f0 f v0 v → Q_X3_readSteps_L7 K (d + 2) 1 (nI k) f v := by
  intro d
  induction d with
  | zero =>
    intro k f v hk hk1 hs
    have : k = 5 := by omega
    subst this
    rw [Q_X3_readSteps_L7]
    exact ⟨fun _ => h1 5 _ f v ⟨by omega, by omega, hs.2.2.2.2.2.2, Or.inl rfl⟩ hs, fun z => absurd (by decide) z⟩
  | succ d ih =>
    intro k f v hk hk1 hs
    rw [Q_X3_readSteps_L7]
    refine ⟨fun z => absurd ((le_nI (a := 5) (by omega) (by omega)).mp z) (by omega), fun _ => ⟨fun z => absurd z (by decide), fun _ => q_peek hs.1 ?_⟩⟩
    rw [hs.2.2.2.2.2.1]
    refine ⟨fun z => h1 k _ f v ⟨hk1, by omega, hs.2.2.2.2.2.2, Or.inr z⟩ hs, fun z => q_rs_step (by omega) hs (fun f' v' hs' x ex => ?_) (fun s v' e hs4 r vs x ex => ?_)⟩
    · rw [ex, nI_1]
      exact ih (k + 1) f' v' (by omega) (by omega) hs'
    · rw [ex, nI_1]
      have bad : SBAD c L k s := ⟨by omega, hs.2.2.2.2.2.2, Or.inr z, e, hs4⟩
      rw [Q_X3_readSteps_L7]
      exact ⟨fun _ => h0 k s _ f v' bad r vs hs.2.2.2.1, fun _ => ⟨fun _ => h0 k s _ f v' bad r vs hs.2.2.2.1, fun y => absurd rfl y⟩⟩
theorem q_readSteps {c : Nat → Int32} (h : RI L 1 v) (h2 : v 2 = nI 0) (hc : f 0 = c)
    (h1 : ∀ n f' v', SOK c L n → SS c L n f f' v v' → posf 1 f' v')
    (h0 : ∀ k s f' v', SBAD c L k s → RI L (1 + 4 * k + s) v' → (∀ i, i ≠ 1 → i ≠ 2 → v' i = v i) → (∀ i, i ≠ 1 → i ≠ 2 → i ≠ 3 → f' i = f i) → posf 0 f' v') : Q_X3_readSteps f v posf := by
  unfold Q_X3_readSteps
  have S0 : SS c L 0 f f v v := ⟨h, h2, fun _ _ _ => rfl, fun _ _ _ _ => rfl, fun k hk => by omega, hc, fun j hj => by omega⟩
  refine q_rs_step (by omega) S0 (fun f' v' hs => ⟨6, q_rss_loop (fun n x2 f v ok ss => ⟨Or.inr rfl, h1 n f v ok ss⟩) (fun k s x2 f v bad r vs fs => ⟨Or.inl rfl, h0 k s f v bad r vs fs⟩) 4 1 f' v' (by omega) (by omega) hs⟩) (fun s v' e hs r vs => ⟨1, ?_⟩)
  have bad : SBAD c L 0 s := ⟨by omega, fun j hj => by omega, Or.inl rfl, e, hs⟩
  rw [Q_X3_readSteps_L7]
  exact ⟨fun z => absurd z (by decide), fun _ => ⟨fun _ => ⟨Or.inl rfl, h0 0 s f v' bad r vs (fun _ _ _ _ => rfl)⟩, fun y => absurd rfl y⟩⟩
/-- the reader behind j tests -/
def ST (c : Nat → Int32) (L q j : Nat) (f0 f : FF) (v0 v : VV) : Prop := RI L (q + 5 * j) v ∧ v 3 = nI j ∧ (∀ i, i ≠ 1 → i ≠ 3 → v i = v0 i) ∧ (∀ i, i ≠ 4 → i ≠ 5 → i ≠ 6 → i ≠ 7 → f i = f0 i) ∧ TRow c L q j (f 4) (f 5) (f 6) (f 7) ∧ f 0 = c ∧ (∀ i, i < j → tf c L (q + 5 * i) = 5)
theorem q_rt_step {c : Nat → Int32} {q j : Nat} {f0 : FF} {v0 : VV} (hj : j < 7) (h : ST c L q j f0 f v0 v) (h1 : ∀ f' v', ST c L q (j + 1) f0 f' v0 v' → posf 1 f' v') (h0 : ∀ s v', tf c L (q + 5 * j) = s → s < 5 → RI L (q + 5 * j + s) v' → (∀ i, i ≠ 1 → i ≠ 3 → v' i = v0 i) → posf 0 f v') : Q_X3_readTest f v posf := by
  obtain ⟨r, k2, vs, fs, sr, e0, oks⟩ := h
  subst e0
  refine q_readTest r k2 hj (fun e hl f' v' hs p1 p2 ps => h1 f' v' ?_) (fun s e hs hl v' hv => h0 s v' e hs (r.mv hv hl) (fun i i1 i2 => by rw [hv.2 i i1]; exact vs i i1 i2))
  obtain ⟨s1, s2, s3, s4, s5⟩ := hs
  have e0 : f' 0 = f 0 := s5 0 (by decide) (by decide) (by decide) (by decide)
  refine ⟨⟨r.1, by omega, by rw [ps 0 (by decide) (by decide)]; exact r.2.2.1, by rw [p1]; congr 1⟩, p2, fun i i1 i2 => by rw [ps i i1 i2]; exact vs i i1 i2, fun i i1 i2 i3 i4 => by rw [s5 i i1 i2 i3 i4]; exact fs i i1 i2 i3 i4, fun i hi => ?_, e0, fun i hi => ?_⟩
  · rw [s1, s2, s3, s4]
    by_cases hij : i = j
    · subst hij
      rw [upd_eq, upd_eq, upd_eq, upd_eq]
      exact ⟨rfl, rfl, rfl, rfl⟩
    · rw [upd_ne hij, upd_ne hij, upd_ne hij, upd_ne hij]
      exact sr i (by omega)
  · rcases (show i < j ∨ i = j by omega) with z | z
    · exact oks i z
    · rw [z]; exact e
theorem q_rts_loop {c : Nat → Int32} {q : Nat} {K : Int32 → Int32 → FF → VV → Prop} {f0 : FF} {v0 : VV}
    (h1 : ∀ t x2 f v, TOK c L q t → ST c L q t f0 f v0 v → K 1 x2 f v)
    (h0 : ∀ j s x2 f v, TBAD c L q j s → RI L (q + 5 * j + s) v → (∀ i, i ≠ 1 → i ≠ 3 → v i = v0 i) → (∀ i, i ≠ 4 → i ≠ 5 → i ≠ 6 → i ≠ 7 → f i = f0 i) → K 0 x2 f v) :
    ∀ (d j : Nat) (f : FF) (v : VV), j + d = 7 → 1 ≤ j → ST c L q j f0 f v0 v → Q_X3_readTests_L7 K (d + 2) 1 (nI j) f v := by
  intro d
  induction d with
  | zero =>
    intro j f v hj hj1 hs
    have : j = 7 := by omega
    subst this
    rw [Q_X3_readTests_L7]
    exact ⟨fun _ => h1 7 _ f v ⟨by omega, by omega, hs.2.2.2.2.2.2, Or.inl rfl⟩ hs, fun z => absurd (by decide) z⟩
  | succ d ih =>
    intro j f v hj hj1 hs
    rw [Q_X3_readTests_L7]
    refine ⟨fun z => absurd ((le_nI (a := 7) (by omega) (by omega)).mp z) (by omega), fun _ => ⟨fun z => absurd z (by decide), fun _ => q_peek hs.1 ?_⟩⟩
    rw [hs.2.2.2.2.2.1]
    refine ⟨fun z => h1 j _ f v ⟨hj1, by omega, hs.2.2.2.2.2.2, Or.inr z⟩ hs, fun z => q_rt_step (by omega) hs (fun f' v' hs' x ex => ?_) (fun s v' e hs4 r vs x ex => ?_)⟩
    · rw [ex, nI_1]
      exact ih (j + 1) f' v' (by omega) (by omega) hs'
    · rw [ex, nI_1]
      have bad : TBAD c L q j s := ⟨by omega, hs.2.2.2.2.2.2, Or.inr z, e, hs4⟩
      rw [Q_X3_readTests_L7]
      exact ⟨fun _ => h0 j s _ f v' bad r vs hs.2.2.2.1, fun _ => ⟨fun _ => h0 j s _ f v' bad r vs hs.2.2.2.1, fun y => absurd rfl y⟩⟩
theorem q_readTests {c : Nat → Int32} {q : Nat} (h : RI L q v) (h3 : v 3 = nI 0) (hc : f 0 = c)
    (h1 : ∀ t f' v', TOK c L q t → ST c L q t f f' v v' → posf 1 f' v')
    (h0 : ∀ j s f' v', TBAD c L q j s → RI L (q + 5 * j + s) v' → (∀ i, i ≠ 1 → i ≠ 3 → v' i = v i) → (∀ i, i ≠ 4 → i ≠ 5 → i ≠ 6 → i ≠ 7 → f' i = f i) → posf 0 f' v') : Q_X3_readTests f v posf := by
  unfold Q_X3_readTests
  have S0 : ST c L q 0 f f v v := ⟨h, h3, fun _ _ _ => rfl, fun _ _ _ _ _ => rfl, fun k hk => by omega, hc, fun j hj => by omega⟩
  refine q_rt_step (by omega) S0 (fun f' v' hs => ⟨8, q_rts_loop (fun n x2 f v ok ss => ⟨Or.inr rfl, h1 n f v ok ss⟩) (fun k s x2 f v bad r vs fs => ⟨Or.inl rfl, h0 k s f v bad r vs fs⟩) 6 1 f' v' (by omega) (by omega) hs⟩) (fun s v' e hs r vs => ⟨1, ?_⟩)
  have bad : TBAD c L q 0 s := ⟨by omega, fun j hj => by omega, Or.inl rfl, e, hs⟩
  rw [Q_X3_readTests_L7]
  exact ⟨fun z => absurd z (by decide), fun _ => ⟨fun _ => ⟨Or.inl rfl, h0 0 s f v' bad r vs (fun _ _ _ _ _ => rfl)⟩, fun y => absurd rfl y⟩⟩
end TY
/-- a text that is as told; where one is not -/
def POK (c : Nat → Int32) (L n t : Nat) : Prop := pkv c L 0 = 109 ∧ SOK c L n ∧ TOK c L (1 + 4 * n) t ∧ 1 + 4 * n + 5 * t = L
def PBAD (c : Nat → Int32) (L pl : Nat) : Prop := (¬ pkv c L 0 = 109 ∧ pl = 0) ∨ (pkv c L 0 = 109 ∧ ∃ k s, SBAD c L k s ∧ pl = 1 + 4 * k + s) ∨ (pkv c L 0 = 109 ∧ ∃ n, SOK c L n ∧ ∃ j s, TBAD c L (1 + 4 * n) j s ∧ pl = 1 + 4 * n + 5 * j + s) ∨ (pkv c L 0 = 109 ∧ ∃ n t, SOK c L n ∧ TOK c L (1 + 4 * n) t ∧ pl = 1 + 4 * n + 5 * t ∧ pl ≠ L)
theorem q_becomeEmpty {f : FF} {v : VV} {post : FF → VV → Prop} (h : ∀ v', v' 0 = 0 → v' 1 = 0 → (∀ i, i ≠ 0 → i ≠ 1 → v' i = v i) → post f v') : Q_X1_becomeEmpty f v post := by
  unfold Q_X1_becomeEmpty
  intro v1 e1 v2 e2
  refine h v2 ?_ ?_ (fun i i0 i1 => ?_)
  · rw [e2, fu_ne (by decide), e1, fu_eq]
  · rw [e2, fu_eq]
  · rw [e2, fu_ne i1, e1, fu_ne i0]
theorem mg_at {α : Type} {f g : Nat → α} {b n i : Nat} (h : i < n) : mg f b n g (b + i) = g i := by
  rw [mg_in (by omega) (by omega)]
  congr 1
  omega
theorem pkv_cong {c d : Nat → Int32} {L : Nat} (h : ∀ j, j < L → c j = d j) (p : Nat) : pkv c L p = pkv d L p := by
  unfold pkv
  split
  · exact h p (by assumption)
  · rfl
