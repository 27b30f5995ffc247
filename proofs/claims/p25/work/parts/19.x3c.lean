section CG
variable {c d : Nat → Int32} {L : Nat}
theorem sf_cong (h : ∀ p, pkv c L p = pkv d L p) (p k : Nat) : sf c L p k = sf d L p k := by unfold sf; simp only [h]
theorem tf_cong (h : ∀ p, pkv c L p = pkv d L p) (p : Nat) : tf c L p = tf d L p := by unfold tf; simp only [h]
theorem SOK.cong {n : Nat} (h : ∀ p, pkv c L p = pkv d L p) (q : SOK c L n) : SOK d L n := by
  unfold SOK at q ⊢; simp only [sf_cong h, h] at q; exact q
theorem SBAD.cong {k s : Nat} (h : ∀ p, pkv c L p = pkv d L p) (q : SBAD c L k s) : SBAD d L k s := by
  unfold SBAD at q ⊢; simp only [sf_cong h, h] at q; exact q
theorem TOK.cong {n t : Nat} (h : ∀ p, pkv c L p = pkv d L p) (q : TOK c L n t) : TOK d L n t := by
  unfold TOK at q ⊢; simp only [tf_cong h, h] at q; exact q
theorem TBAD.cong {n k s : Nat} (h : ∀ p, pkv c L p = pkv d L p) (q : TBAD c L n k s) : TBAD d L n k s := by
  unfold TBAD at q ⊢; simp only [tf_cong h, h] at q; exact q
theorem SRow.cong {n : Nat} {w a b : Nat → Int32} (h : ∀ p, pkv c L p = pkv d L p) (q : SRow c L n w a b) : SRow d L n w a b := by
  unfold SRow at q ⊢; simp only [h] at q; exact q
theorem TRow.cong {n t : Nat} {w a b e : Nat → Int32} (h : ∀ p, pkv c L p = pkv d L p) (q : TRow c L n t w a b e) : TRow d L n t w a b e := by
  unfold TRow at q ⊢; simp only [h] at q; exact q
end CG
theorem q_reads {i n : Nat} {f : FF} {v : VV} {posf : Int32 → FF → VV → Prop} (hin : i + n ≤ 60)
    (h1 : ∀ n' t f' v', POK (fun j => f 0 (i + j)) n n' t → f' 0 = f 0 → SRow (fun j => f 0 (i + j)) n n' (f' 2) (f' 3) (f' 4) → TRow (fun j => f 0 (i + j)) n (1 + 4 * n') t (f' 5) (f' 6) (f' 7) (f' 8) → v' 0 = v 0 → v' 1 = v 1 → v' 4 = nI n' → v' 5 = nI t → posf 1 f' v')
    (h0 : ∀ pl f' v', PBAD (fun j => f 0 (i + j)) n pl → f' 0 = f 0 → v' 0 = v 0 → v' 1 = v 1 → v' 3 = nI pl → posf 0 f' v') : Q_X3_reads (nI i) (nI n) f v posf := by
  unfold Q_X3_reads
  rw [nI_clamp (by omega), nI_clamp (by omega)]
  refine ⟨nI_pos (by omega), by decide, nI_pos (by omega), by omega, by show 0 + n ≤ 60; omega, fun f6 ef6 v7 ev7 v8 ev8 => q_becomeEmpty (fun v11 z0 z1 zs f12 ef12 v13 ev13 => ?_)⟩
  rw [mg_sb] at ef12
  subst ef12
  have g0 : f12 0 = f 0 := by rw [ef6, fu_ne (by decide)]
  have hpk : ∀ p, pkv (f12 1) n p = pkv (fun j => f 0 (i + j)) n p := fun p => pkv_cong (fun j hj => by
    rw [ef6, fu_eq]
    show va_cpy (f 0) (f 1) i 0 n j = f 0 (i + j)
    rw [pk_cpy_in (by omega) (by omega), Nat.sub_zero]) p
  have a0 : v13 0 = v 0 := by rw [ev13, mg_out (by omega), ev8, fu_ne (by decide), ev7, fu_ne (by decide)]
  have a1 : v13 1 = v 1 := by rw [ev13, mg_out (by omega), ev8, fu_ne (by decide), ev7, fu_ne (by decide)]
  have a2 : v13 2 = nI n := by rw [ev13, mg_out (by omega), ev8, fu_ne (by decide), ev7, fu_eq]
  have a3 : v13 3 = nI 0 := by rw [ev13, mg_out (by omega), ev8, fu_eq]; rfl
  have a4 : v13 4 = nI 0 := by rw [ev13]; exact (mg_at (b := 4) (i := 0) (by decide)).trans z0
  have a5 : v13 5 = nI 0 := by rw [ev13]; exact (mg_at (b := 4) (i := 1) (by decide)).trans z1
  have R0 : RI n 0 (sb v13 2) := ⟨by omega, by omega, a2, a3⟩
  refine q_pass (p := 0) (L := n) (by decide) R0 (fun e hl v16 hv16 f17 ef17 v18 ev18 => ?_) (fun e f17 ef17 v18 ev18 => ?_)
  · rw [mg_sb] at ef17
    subst ef17
    rw [show sb f17 1 0 = f17 1 from rfl, hpk] at e
    refine ⟨fun z => absurd z (by decide), fun _ => ?_⟩
    have b : ∀ k, k < 4 → v18 (2 + k) = v16 k := fun k hk => by rw [ev18]; exact mg_at hk
    have b0 : v18 0 = v 0 := by rw [ev18, mg_out (by omega)]; exact a0
    have b1 : v18 1 = v 1 := by rw [ev18, mg_out (by omega)]; exact a1
    have m16 := hv16.2
    have R1 : RI n 1 (sb v18 2) := ⟨by omega, by omega, (b 0 (by decide)).trans ((m16 0 (by decide)).trans a2), (b 1 (by decide)).trans hv16.1⟩
    have t2 : sb v18 2 2 = nI 0 := (b 2 (by decide)).trans ((m16 2 (by decide)).trans a4)
    have t3 : sb v18 2 3 = nI 0 := (b 3 (by decide)).trans ((m16 3 (by decide)).trans a5)
    refine q_readSteps (c := f17 1) R1 t2 rfl (fun n' f21 v22 ok ss f23 ef23 v24 ev24 => ?_) (fun k s f21 v22 bad r vs fs f23 ef23 v24 ev24 => ?_)
    · refine ⟨fun z => absurd z (by decide), fun _ => ?_⟩
      obtain ⟨s1, s2, s3, s4, s5, s6, s7⟩ := ss
      have d : ∀ k, k < 4 → v24 (2 + k) = v22 k := fun k hk => by rw [ev24]; exact mg_at hk
      have dd : ∀ k, k < 10 → f23 (1 + k) = f21 k := fun k hk => by rw [ef23]; exact mg_at hk
      have d0 : v24 0 = v 0 := by rw [ev24, mg_out (by omega)]; exact b0
      have d1 : v24 1 = v 1 := by rw [ev24, mg_out (by omega)]; exact b1
      have e0 : f23 0 = f 0 := by rw [ef23, mg_out (by omega)]; exact g0
      have e1 : f23 1 = f17 1 := (dd 0 (by decide)).trans s6
      have R2 : RI n (1 + 4 * n') (sb v24 2) := ⟨s1.1, s1.2.1, (d 0 (by decide)).trans s1.2.2.1, (d 1 (by decide)).trans s1.2.2.2⟩
      have t3' : sb v24 2 3 = nI 0 := (d 3 (by decide)).trans ((s3 3 (by decide) (by decide)).trans t3)
      refine q_readTests (c := f17 1) R2 t3' e1 (fun t f27 v28 tok tt f29 ef29 v30 ev30 => ?_) (fun j s f27 v28 bad r vs fs f29 ef29 v30 ev30 => ?_)
      · refine ⟨fun z => absurd z (by decide), fun _ => ?_⟩
        obtain ⟨u1, u2, u3, u4, u5, u6, u7⟩ := tt
        have x : ∀ k, k < 4 → v30 (2 + k) = v28 k := fun k hk => by rw [ev30]; exact mg_at hk
        have xx : ∀ k, k < 10 → f29 (1 + k) = f27 k := fun k hk => by rw [ef29]; exact mg_at hk
        have x0 : v30 0 = v 0 := by rw [ev30, mg_out (by omega)]; exact d0
        have x1 : v30 1 = v 1 := by rw [ev30, mg_out (by omega)]; exact d1
        have y0 : f29 0 = f 0 := by rw [ef29, mg_out (by omega)]; exact e0
        have p3 : v30 3 = nI (1 + 4 * n' + 5 * t) := (x 1 (by decide)).trans u1.2.2.2
        have p2 : v30 2 = nI n := (x 0 (by decide)).trans u1.2.2.1
        have hL := u1.2.1
        rw [p3, p2]
        refine ⟨fun z => h0 (1 + 4 * n' + 5 * t) f29 v30 (Or.inr (Or.inr (Or.inr ⟨e, n', t, ok.cong hpk, tok.cong hpk, rfl, fun w => z (by rw [w])⟩))) y0 x0 x1 p3, fun z => ?_⟩
        rw [nI_eq (by omega) (by omega)] at z
        refine h1 n' t f29 v30 ⟨e, ok.cong hpk, tok.cong hpk, z⟩ y0 ?_ ?_ x0 x1 ?_ ?_
        · have := s5.cong hpk
          rw [← dd 1 (by decide), ← dd 2 (by decide), ← dd 3 (by decide)] at this
          have k1 : f29 2 = f23 2 := (xx 1 (by decide)).trans (u4 1 (by decide) (by decide) (by decide) (by decide))
          have k2 : f29 3 = f23 3 := (xx 2 (by decide)).trans (u4 2 (by decide) (by decide) (by decide) (by decide))
          have k3 : f29 4 = f23 4 := (xx 3 (by decide)).trans (u4 3 (by decide) (by decide) (by decide) (by decide))
          rw [k1, k2, k3]
          exact this
        · have := u5.cong hpk
          rw [← xx 4 (by decide), ← xx 5 (by decide), ← xx 6 (by decide), ← xx 7 (by decide)] at this
          exact this
        · exact (x 2 (by decide)).trans ((u3 2 (by decide) (by decide)).trans ((d 2 (by decide)).trans s2))
        · exact (x 3 (by decide)).trans u2
      · refine ⟨fun _ => h0 (1 + 4 * n' + 5 * j + s) f29 v30 (Or.inr (Or.inr (Or.inl ⟨e, n', ok.cong hpk, j, s, bad.cong hpk, rfl⟩))) ?_ ?_ ?_ ?_, fun z => absurd rfl z⟩
        · rw [ef29, mg_out (by omega)]; exact e0
        · rw [ev30, mg_out (by omega)]; exact d0
        · rw [ev30, mg_out (by omega)]; exact d1
        · rw [ev30]; exact (mg_at (b := 2) (i := 1) (by decide)).trans r.2.2.2
    · refine ⟨fun _ => h0 (1 + 4 * k + s) f23 v24 (Or.inr (Or.inl ⟨e, k, s, bad.cong hpk, rfl⟩)) ?_ ?_ ?_ ?_, fun z => absurd rfl z⟩
      · rw [ef23, mg_out (by omega)]; exact g0
      · rw [ev24, mg_out (by omega)]; exact b0
      · rw [ev24, mg_out (by omega)]; exact b1
      · rw [ev24]; exact (mg_at (b := 2) (i := 1) (by decide)).trans r.2.2.2
  · rw [mg_sb] at ef17
    subst ef17
    rw [mg_sb] at ev18
    subst ev18
    rw [show sb f17 1 0 = f17 1 from rfl, hpk] at e
    exact ⟨fun _ => h0 0 f17 v18 (Or.inl ⟨e, rfl⟩) g0 a0 a1 a3, fun z => absurd rfl z⟩
/-! ===== becomeLike ===== -/
section BL
variable {n t : Nat} {f0 : FF}
theorem q_bl1 {K : Int32 → FF → VV → Prop} {v : VV} (hn : n ≤ 5) (e : v 0 = nI n) (hE : ∀ x f, (∀ k, k < n → f 0 k = f0 9 k ∧ f 1 k = f0 10 k ∧ f 2 k = f0 11 k) → (∀ i, 3 ≤ i → f i = f0 i) → K x f v) :
    ∀ (d k : Nat) (f : FF), k + d = n → (∀ j, j < k → f 0 j = f0 9 j ∧ f 1 j = f0 10 j ∧ f 2 j = f0 11 j) → (∀ i, 3 ≤ i → f i = f0 i) → Q_X1_becomeLike_L10 K (d + 1) (nI k) f v := by
  intro d
  induction d with
  | zero =>
    intro k f hk h1 h2
    rw [Q_X1_becomeLike_L10, e]
    exact ⟨fun _ => hE _ f (fun j hj => h1 j (by omega)) h2, fun c => absurd (by rw [show k = n by omega]; exact Int32.le_refl _) c⟩
  | succ d ih =>
    intro k f hk h1 h2
    rw [Q_X1_becomeLike_L10, e]
    have vk : vp_in (nI k) 5 := vi_nI (by omega) (by omega)
    have ck : (nI k).toNatClampNeg = k := nI_clamp (by omega)
    refine ⟨fun c => absurd ((le_nI (by omega) (by omega)).mp c) (by omega), fun _ => ⟨vk, vk, fun f1 ef1 => ⟨vk, vk, fun f2 ef2 => ⟨vk, vk, fun f3 ef3 x ex => ?_⟩⟩⟩⟩
    rw [ex, nI_1]
    have q0 : f3 0 = upd (f 0) k (f 9 k) := by rw [ef3, fu_ne (by decide), ef2, fu_ne (by decide), ef1, fu_eq]; show upd _ (nI k).toNatClampNeg _ = _; rw [ck]
    have q1 : f3 1 = upd (f 1) k (f 10 k) := by rw [ef3, fu_ne (by decide), ef2, fu_eq]; show upd _ (nI k).toNatClampNeg _ = _; rw [ck, ef1, fu_ne (by decide), fu_ne (by decide)]
    have q2 : f3 2 = upd (f 2) k (f 11 k) := by rw [ef3, fu_eq]; show upd _ (nI k).toNatClampNeg _ = _; rw [ck, ef2, fu_ne (by decide), fu_ne (by decide), ef1, fu_ne (by decide), fu_ne (by decide)]
    refine ih (k + 1) f3 (by omega) (fun j hj => ?_) (fun i hi => ?_)
    · rw [q0, q1, q2]
      by_cases hjk : j = k
      · rw [hjk, upd_eq, upd_eq, upd_eq, h2 9 (by decide), h2 10 (by decide), h2 11 (by decide)]
        exact ⟨rfl, rfl, rfl⟩
      · rw [upd_ne hjk, upd_ne hjk, upd_ne hjk]
        exact h1 j (by omega)
    · rw [ef3, fu_ne (by omega), ef2, fu_ne (by omega), ef1, fu_ne (by omega)]
      exact h2 i hi
theorem q_bl2 {K : Int32 → FF → VV → Prop} {v : VV} (ht : t ≤ 7) (e : v 1 = nI t) (hE : ∀ x f, (∀ k, k < t → f 3 k = f0 12 k ∧ f 4 k = f0 13 k ∧ f 5 k = f0 14 k ∧ f 6 k = f0 15 k) → (∀ i, i < 3 ∨ 7 ≤ i → f i = f0 i) → K x f v) :
    ∀ (d k : Nat) (f : FF), k + d = t → (∀ j, j < k → f 3 j = f0 12 j ∧ f 4 j = f0 13 j ∧ f 5 j = f0 14 j ∧ f 6 j = f0 15 j) → (∀ i, i < 3 ∨ 7 ≤ i → f i = f0 i) → Q_X1_becomeLike_L70 K (d + 1) (nI k) f v := by
  intro d
  induction d with
  | zero =>
    intro k f hk h1 h2
    rw [Q_X1_becomeLike_L70, e]
    exact ⟨fun _ => hE _ f (fun j hj => h1 j (by omega)) h2, fun c => absurd (by rw [show k = t by omega]; exact Int32.le_refl _) c⟩
  | succ d ih =>
    intro k f hk h1 h2
    rw [Q_X1_becomeLike_L70, e]
    have vk : vp_in (nI k) 7 := vi_nI (by omega) (by omega)
    have ck : (nI k).toNatClampNeg = k := nI_clamp (by omega)
    refine ⟨fun c => absurd ((le_nI (by omega) (by omega)).mp c) (by omega), fun _ => ⟨vk, vk, fun f1 ef1 => ⟨vk, vk, fun f2 ef2 => ⟨vk, vk, fun f3 ef3 => ⟨vk, vk, fun f4 ef4 x ex => ?_⟩⟩⟩⟩⟩
    rw [ex, nI_1]
    have q0 : f4 3 = upd (f 3) k (f 12 k) := by rw [ef4, fu_ne (by decide), ef3, fu_ne (by decide), ef2, fu_ne (by decide), ef1, fu_eq]; show upd _ (nI k).toNatClampNeg _ = _; rw [ck]
    have q1 : f4 4 = upd (f 4) k (f 13 k) := by rw [ef4, fu_ne (by decide), ef3, fu_ne (by decide), ef2, fu_eq]; show upd _ (nI k).toNatClampNeg _ = _; rw [ck, ef1, fu_ne (by decide), fu_ne (by decide)]
    have q2 : f4 5 = upd (f 5) k (f 14 k) := by rw [ef4, fu_ne (by decide), ef3, fu_eq]; show upd _ (nI k).toNatClampNeg _ = _; rw [ck, ef2, fu_ne (by decide), fu_ne (by decide), ef1, fu_ne (by decide), fu_ne (by decide)]
    have q3 : f4 6 = upd (f 6) k (f 15 k) := by rw [ef4, fu_eq]; show upd _ (nI k).toNatClampNeg _ = _; rw [ck, ef3, fu_ne (by decide), fu_ne (by decide), ef2, fu_ne (by decide), fu_ne (by decide), ef1, fu_ne (by decide), fu_ne (by decide)]
    refine ih (k + 1) f4 (by omega) (fun j hj => ?_) (fun i hi => ?_)
    · rw [q0, q1, q2, q3]
      by_cases hjk : j = k
      · rw [hjk, upd_eq, upd_eq, upd_eq, upd_eq, h2 12 (by decide), h2 13 (by decide), h2 14 (by decide), h2 15 (by decide)]
        exact ⟨rfl, rfl, rfl, rfl⟩
      · rw [upd_ne hjk, upd_ne hjk, upd_ne hjk, upd_ne hjk]
        exact h1 j (by omega)
    · rw [ef4, fu_ne (by omega), ef3, fu_ne (by omega), ef2, fu_ne (by omega), ef1, fu_ne (by omega)]
      exact h2 i hi
/-- the first rows are those of the second program -/
def Like (n t : Nat) (f : FF) (w a b kd tm x y : Nat → Int32) : Prop := (∀ k, k < n → f 0 k = w k ∧ f 1 k = a k ∧ f 2 k = b k) ∧ ∀ j, j < t → f 3 j = kd j ∧ f 4 j = tm j ∧ f 5 j = x j ∧ f 6 j = y j
theorem q_becomeLike {f : FF} {v : VV} {post : FF → VV → Prop} (hn : n ≤ 5) (ht : t ≤ 7) (e2 : v 2 = nI n) (e3 : v 3 = nI t)
    (h : ∀ f' v', Like n t f' (f 9) (f 10) (f 11) (f 12) (f 13) (f 14) (f 15) → (∀ i, 7 ≤ i → f' i = f i) → v' 0 = nI n → v' 1 = nI t → (∀ i, 2 ≤ i → v' i = v i) → post f' v') : Q_X1_becomeLike f v post := by
  unfold Q_X1_becomeLike
  intro v1 ev1
  refine ⟨n + 1, q_bl1 (f0 := f) hn (by rw [ev1, fu_eq]; exact e2) (fun x f1 a1 a2 v2 ev2 => ⟨t + 1, q_bl2 (f0 := f1) ht (by rw [ev2, fu_eq, ev1, fu_ne (by decide)]; exact e3) (fun x f2 b1 b2 => h f2 v2 ⟨fun k hk => ?_, fun k hk => ?_⟩ (fun i hi => ?_) ?_ ?_ (fun i hi => ?_)) t 0 f1 (by omega) (fun j hj => by omega) (fun _ _ => rfl)⟩) n 0 f (by omega) (fun j hj => by omega) (fun _ _ => rfl)⟩
  · rw [b2 0 (by decide), b2 1 (by decide), b2 2 (by decide)]; exact a1 k hk
  · have := b1 k hk
    rw [a2 12 (by decide), a2 13 (by decide), a2 14 (by decide), a2 15 (by decide)] at this
    exact this
  · rw [b2 i (by omega)]; exact a2 i (by omega)
  · rw [ev2, fu_ne (by decide), ev1, fu_eq]; exact e2
  · rw [ev2, fu_eq, ev1, fu_ne (by decide)]; exact e3
  · rw [ev2, fu_ne (by omega), ev1, fu_ne (by omega)]
end BL
