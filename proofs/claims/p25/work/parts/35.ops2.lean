/-! ===== shares ===== -/
def cd (a b : Nat) : Nat → Nat
  | 0 => 1
  | k + 1 => if a % (k + 1) = 0 ∧ b % (k + 1) = 0 then k + 1 else cd a b k
theorem cd_pos (a b : Nat) : ∀ k, 0 < cd a b k
  | 0 => Nat.one_pos
  | k + 1 => by
    rw [cd]
    split
    · omega
    · exact cd_pos a b k
theorem cd_le (a b : Nat) : ∀ k, cd a b k ≤ k + 1
  | 0 => Nat.le_refl _
  | k + 1 => by
    rw [cd]
    split
    · omega
    · have := cd_le a b k
      omega
theorem cd_gcd {a b : Nat} (hb : 0 < b) : ∀ k, Nat.gcd b a ≤ k → cd a b k = Nat.gcd b a
  | 0, h => by
    have := Nat.gcd_pos_of_pos_left a hb
    omega
  | k + 1, h => by
    rw [cd]
    split
    · rename_i c
      have h1 : k + 1 ∣ Nat.gcd b a := Nat.dvd_gcd (Nat.dvd_of_mod_eq_zero c.2) (Nat.dvd_of_mod_eq_zero c.1)
      have := Nat.le_of_dvd (Nat.gcd_pos_of_pos_left a hb) h1
      omega
    · rename_i c
      refine cd_gcd hb k ?_
      rcases Nat.lt_or_ge (Nat.gcd b a) (k + 1) with h1 | h1
      · omega
      · have e : Nat.gcd b a = k + 1 := by omega
        exact absurd ⟨Nat.mod_eq_zero_of_dvd (e ▸ Nat.gcd_dvd_right b a), Nat.mod_eq_zero_of_dvd (e ▸ Nat.gcd_dvd_left b a)⟩ c
theorem q_sh_loop {a b : Nat} {p : Int32} {K : Int32 → Int32 → Prop} (ha : a ≤ 1000) (hb : b ≤ 1000) (hK : ∀ x, K (nI (cd a b b)) x) :
    ∀ (d k : Nat), k + d = b → Q_X4_share_L12 (nI a) (nI b) p K (d + 1) (nI (cd a b k)) (nI (k + 1)) := by
  intro d
  induction d with
  | zero =>
    intro k hk
    rw [Q_X4_share_L12, show k = b by omega]
    exact ⟨fun _ => hK _, fun c => absurd ((nI_ltI (by omega) (by omega)).mpr (by omega)) c⟩
  | succ d ih =>
    intro k hk
    rw [Q_X4_share_L12]
    have := ih (k + 1) (by omega)
    rw [cd] at this
    have hn : ¬ nI (k + 1) = 0 := fun e => by
      have := (nI_eq (a := k + 1) (b := 0) (by omega) (by omega)).mp e
      omega
    have z : ∀ x : Nat, x ≤ 1000 → (nI x = 0 ↔ x = 0) := fun x hx => nI_eq (a := x) (b := 0) (by omega) (by omega)
    have ma : a % (k + 1) ≤ 1000 := Nat.le_trans (Nat.mod_le _ _) ha
    have mb : b % (k + 1) ≤ 1000 := Nat.le_trans (Nat.mod_le _ _) hb
    rw [nI_mod (a := a) (by omega) (by omega) (by omega), nI_mod (a := b) (by omega) (by omega) (by omega), z _ ma, z _ mb, nI_1]
    refine ⟨fun c => absurd ((nI_ltI (by omega) (by omega)).mp c) (by omega), fun _ => ⟨hn, fun c x e => ?_, fun c => ⟨hn, fun c2 x e => ?_, fun c2 x e => ?_⟩⟩⟩
    · rw [e]; rw [if_neg (fun z => c z.1)] at this; exact this
    · rw [e]; rw [if_neg (fun z => c2 z.2)] at this; exact this
    · rw [e]; rw [if_pos ⟨c, c2⟩] at this; exact this
def shr (a b : Nat) (p : Int32) : Int64 := if b = 0 then p.toInt64 else if p = 0 then lI (a / Nat.gcd b a) else lI (b / Nat.gcd b a)
theorem q_share {a b : Nat} {p : Int32} {post : Int64 → Prop} (ha : a ≤ 1000) (hb : b ≤ 1000) (h : post (shr a b p)) : Q_X4_share (nI a) (nI b) p post := by
  unfold Q_X4_share
  unfold shr at h
  refine ⟨fun c => ?_, fun c => ?_⟩
  · have hb0 : 0 < b := (nI_ltI (a := 0) (by omega) (by omega)).mp c
    rw [if_neg (by omega)] at h
    have hg : 0 < Nat.gcd b a := Nat.gcd_pos_of_pos_left _ hb0
    have hl : Nat.gcd b a ≤ b := Nat.gcd_le_left _ hb0
    have hn : ¬ nI (cd a b b) = 0 := fun e => by
      have := (nI_eq (a := cd a b b) (b := 0) (by have := cd_le a b b; omega) (by omega)).mp e
      have := cd_pos a b b
      omega
    have ea : (nI a / nI (cd a b b)).toInt64 = lI (a / Nat.gcd b a) := by
      rw [cd_gcd hb0 b hl, nI_div (by omega) hg (by omega), i2l (Nat.lt_of_le_of_lt (Nat.div_le_self _ _) (by omega))]
    have eb : (nI b / nI (cd a b b)).toInt64 = lI (b / Nat.gcd b a) := by
      rw [cd_gcd hb0 b hl, nI_div (by omega) hg (by omega), i2l (Nat.lt_of_le_of_lt (Nat.div_le_self _ _) (by omega))]
    have h1 : cd a b 1 = 1 := by rw [cd, if_pos ⟨Nat.mod_one _, Nat.mod_one _⟩]
    have := q_sh_loop (p := p) (K := fun x_11 x_12 => (((¬ p = 0 → (¬ x_11 = 0 ∧ (post (((nI b / x_11)).toInt64)))) ∧ (p = 0 → (¬ x_11 = 0 ∧ (post (((nI a / x_11)).toInt64))))))) ha hb (fun _ => ⟨fun c => ⟨hn, by rw [eb]; rw [if_neg c] at h; exact h⟩, fun c => ⟨hn, by rw [ea]; rw [if_pos c] at h; exact h⟩⟩) (b - 1) 1 (by omega)
    rw [h1] at this
    exact ⟨b - 1 + 1, this⟩
  · have hb0 : b = 0 := by
      have : ¬ 0 < b := fun z => c ((nI_ltI (a := 0) (by omega) (by omega)).mpr z)
      omega
    rw [if_pos hb0] at h; exact h
/-! ===== the ops that only tell, second part ===== -/
theorem Rel0.read {f : FF} {v : VV} {g : FF} {u : VV} {f' : FF} {v' : VV} {g' : FF} {u' : VV} {c : Nat} (h : Rel0 f v g u) (hf : ∀ j, j ≠ 0 → f' j = f j) (hv : ∀ i, i ≠ 0 → v' i = v i) (hg : ∀ j, j ≠ 16 → g' j = g j) (hu : ∀ i, i ≠ 8 → u' i = u i) (hc : c ≤ 8) (e1 : v' 0 = nI c) (e2 : u' 8 = nI c) (e3 : ∀ i, i < c → f' 0 i = g' 16 i) : Rel0 f' v' g' u' := by
  obtain ⟨hs, ⟨n, t, p1, p2, p3, p4, p5⟩, _, ht, hf'⟩ := h
  refine ⟨fun k hk => (hs k hk).of (hf _ (by omega)) (hv _ (by omega)) (hv _ (by omega)) (by rw [hg 0 (by decide)]) (by rw [hg 1 (by decide)]) (fun _ _ => by rw [hg 2 (by decide)]), ⟨n, t, p1.rows (fun j hj => hf (5 + j) (by omega)) (hv 11 (by decide)) (hv 12 (by decide)), p2.rows (fun j hj => hg (3 + j) (by omega)) (hu 2 (by decide)) (hu 3 (by decide)), p3, p4.of (fun j hj => hf (5 + j) (by omega)) (fun j hj => hg (3 + j) (by omega)), p5.of (hf 8 (by decide)) (hf 9 (by decide))⟩, ⟨c, hc, e1, e2, e3⟩, by rw [hv 1 (by decide), hu 1 (by decide)]; exact ht, by rw [hv 2 (by decide), hu 0 (by decide)]; exact hf'⟩
theorem op_back (p0 : Int32) (f : FF) (v : VV) (g : FF) (u : VV) (h : Rel0 f v g u) : Q_X4_back p0 f v (fun r f1 v1 => Q_X5_back p0 g u (fun r' g1 u1 => r = r' ∧ Rel0 f1 v1 g1 u1)) := by
  obtain ⟨c, r1, r2, r3, r4⟩ := h.2.2.1
  unfold Q_X4_back
  rw [r2]
  refine q_isWithin (fun a b => yes1' (fun v3 e3 => ?_)) (fun a => no0' ?_)
  · unfold Q_X5_back
    rw [r3]
    obtain ⟨k, rfl, _, hk⟩ := rngI (a := 0) (b := c) (by omega) a b (by omega)
    rw [nI_sub hk] at e3
    refine q5_within1 a b (yes1' (fun u3 eu3 => ?_))
    rw [nI_sub hk] at eu3
    refine ⟨by rw [e3, eu3, fu_eq, fu_eq], h.read (c := c - k) (fun _ _ => rfl) (fun i hi => by rw [e3, fu_ne hi]) (fun _ _ => rfl) (fun i hi => by rw [eu3, fu_ne hi]) (by omega) (by rw [e3, fu_eq]) (by rw [eu3, fu_eq]) (fun i hi => r4 i (by omega))⟩
  · unfold Q_X5_back
    rw [r3]
    exact q5_within0 a (no0' ⟨rfl, h⟩)
theorem op_reading (p0 : Int32) (f : FF) (v : VV) (g : FF) (u : VV) (h : Rel0 f v g u) : Q_X4_reading p0 f v (fun r f1 v1 => Q_X5_reading p0 g u (fun r' g1 u1 => True ∧ Rel0 f1 v1 g1 u1)) := by
  obtain ⟨c, r1, r2, r3, r4⟩ := h.2.2.1
  obtain ⟨n, t, P1, P2, P3, P4, P5⟩ := h.2.1
  have hn := P1.1
  have e2 : u 2 = nI n := P2.2.2.1
  refine q_isEmpty P1 (fun e => yes1 ⟨fun c => absurd (by rw [e2, e]; rfl) c, fun _ => ⟨trivial, h⟩⟩) (fun e => no0 ?_)
  have ne : ¬ u 2 = 0 := fun c => by rw [e2] at c; exact absurd ((nI_eq (a := n) (b := 0) (by omega) (by omega)).mp c) e
  rw [r2]
  refine q_isWithin (fun a b => yes1' ⟨fun c1 => ?_, fun c1 => ?_⟩) (fun a => no0' ⟨fun _ => q5_within0 a (no0' ⟨trivial, h⟩), fun z => absurd z ne⟩)
  · have hc : c < 8 := (nI_ltI (b := 8) (by omega) (by omega)).mp c1
    refine ⟨vi_nI hc (by omega), fun f7 e7 v8 e8 => ⟨fun _ => q5_within1 a b (yes1' ?_), fun z => absurd z ne⟩⟩
    rw [r3]
    refine ⟨fun _ => ⟨vi_nI hc (by omega), fun g6 e6 u7 eu7 => ⟨trivial, ?_⟩⟩, fun z => absurd ((nI_eq (b := 8) (by omega) (by omega)).mp z) (by omega)⟩
    rw [wrN (by omega)] at e7 e6
    refine h.read (c := c + 1) (fun j hj => by rw [e7, fu_ne hj]) (fun i hi => by rw [e8, fu_ne hi]) (fun j hj => by rw [e6, fu_ne hj]) (fun i hi => by rw [eu7, fu_ne hi]) (by omega) (by rw [e8, fu_eq, nI_1]) (by rw [eu7, fu_eq, nI_1]) (fun i hi => ?_)
    rw [e7, e6, fu_eq, fu_eq]
    rcases Nat.lt_succ_iff_lt_or_eq.mp hi with hi | rfl
    · rw [upd_ne (by omega), upd_ne (by omega)]; exact r4 i hi
    · rw [upd_eq, upd_eq]
  · have hc : c = 8 := by
      have : ¬ c < 8 := fun z => c1 ((nI_ltI (b := 8) (by omega) (by omega)).mpr z)
      omega
    refine ⟨fun _ => q5_within1 a b (yes1' ?_), fun z => absurd z ne⟩
    rw [r3]
    exact ⟨fun z => absurd (by rw [hc]; rfl) z, fun _ => ⟨trivial, h⟩⟩
theorem op_as (p0 p1 : Int32) (f : FF) (v : VV) (g : FF) (u : VV) (h : Rel0 f v g u) : Q_X4_as p0 p1 f v (fun r f1 v1 => Q_X5_as p0 p1 g u (fun r' g1 u1 => r = r' ∧ Rel0 f1 v1 g1 u1)) := by
  intro v1 ev1
  have h0 := h.fault 0
  rw [← ev1] at h0
  obtain ⟨n, t, P1, P2, P3, P4, P5⟩ := h0.2.1
  have ht := P1.2.1
  refine q_hasTest P1 (fun k hk ek => yes1' ?_) (fun hk => no0' (fun u1 eu1 => q5_isTest0 (n := n) (t := t) (by rw [eu1]; exact P2) hk (no0' ⟨rfl, by rw [eu1]; exact h0⟩)))
  subst ek
  have vk : vp_in (nI k) 7 := vi_nI (by omega) (by omega)
  have e8 : f 8 k = g 6 k := (P4.2 k hk).1
  refine q_isWithin (fun a b => yes1' ⟨vk, ?_⟩) (fun a => no0' (fun u1 eu1 => q5_isTest1 (n := n) (t := t) (by rw [eu1]; exact P2) hk (yes1' (q5_within0 a (no0' ⟨rfl, by rw [eu1]; exact h0⟩)))))
  rw [nI_clamp (by omega), e8]
  refine ⟨fun c v2 ev2 u1 eu1 => q5_isTest1 (n := n) (t := t) (by rw [eu1]; exact P2) hk (yes1' (q5_within1 a b (yes1' ⟨vk, ?_⟩))), fun c u1 eu1 => q5_isTest1 (n := n) (t := t) (by rw [eu1]; exact P2) hk (yes1' (q5_within1 a b (yes1' ⟨vk, ?_⟩)))⟩
  · rw [nI_clamp (by omega)]
    exact ⟨fun _ u2 eu2 => ⟨rfl, by rw [ev2, eu2, eu1]; exact h0.fault 2⟩, fun z => absurd c z⟩
  · rw [nI_clamp (by omega)]
    exact ⟨fun z => absurd z c, fun _ => ⟨rfl, by rw [eu1]; exact h0⟩⟩
theorem op_tell (p0 : Int32) (f : FF) (v : VV) (g : FF) (u : VV) (h : Rel0 f v g u) : Q_X4_tell p0 f v (fun r f1 v1 => Q_X5_tell p0 g u (fun r' g1 u1 => r = r' ∧ Rel0 f1 v1 g1 u1)) := by
  obtain ⟨n, t, P1, P2, P3, P4, P5⟩ := h.2.1
  have ht := P1.2.1
  refine q_hasTest P1 (fun k hk ek => yes1' ?_) (fun hk => no0' (q5_isTest0 P2 hk (no0' ⟨rfl, h⟩)))
  subst ek
  have vk : vp_in (nI k) 7 := vi_nI (by omega) (by omega)
  have e8 : f 8 k = g 6 k := (P4.2 k hk).1
  have e9 : f 9 k = g 7 k := (P4.2 k hk).2.1
  obtain ⟨κ, hκ, eκ⟩ := (P5 k hk).1
  have eκ : f 8 k = nI κ := eκ
  refine ⟨vk, ?_⟩
  have ct : v 1 = u 1 := h.2.2.2.1
  have c2 : ∀ x : Int32, ¬ nI κ = 0 → ¬ nI κ = 1 → nI κ = 2 := fun _ a b => by
    have : κ ≠ 0 := fun z => a (by rw [z]; rfl)
    have : κ ≠ 1 := fun z => b (by rw [z]; rfl)
    rw [show κ = 2 by omega]; rfl
  have st : ∀ (v1 v2 : VV) (u1 u2 : VV) (x : Int32), Rel0 f v1 g u1 → v2 = fu v1 1 (31 * v1 1 + x) → u2 = fu u1 1 (31 * u1 1 + x) → Rel0 f v2 g u2 := by
    intro v1 v2 u1 u2 x hr e1 e2
    rw [e1, e2, show v1 1 = u1 1 from hr.2.2.2.1]
    exact hr.trace _
  rw [nI_clamp (by omega), eκ]
  refine ⟨fun c => ?_, fun c => ⟨fun c1 => ?_, fun c1 => ?_⟩⟩
  · intro v1 ev1
    refine ⟨vk, ?_⟩
    rw [nI_clamp (by omega)]
    refine q5_isTest1 P2 hk (yes1' ⟨vk, fun x ex => ⟨vk, ?_⟩⟩)
    rw [nI_clamp (by omega)] at ex ⊢
    rw [← e8, eκ, c]
    exact ⟨fun z => absurd z (by decide), fun _ => ⟨fun z => absurd z (by decide), fun _ u1 eu1 => ⟨by rw [ex]; exact e9, st _ _ _ _ _ h ev1 eu1⟩⟩⟩
  · intro v1 ev1 v2 ev2
    refine ⟨vk, ?_⟩
    rw [nI_clamp (by omega)]
    refine q5_isTest1 P2 hk (yes1' ⟨vk, fun x ex => ⟨vk, ?_⟩⟩)
    rw [nI_clamp (by omega)] at ex ⊢
    rw [← e8, eκ, c1]
    exact ⟨fun _ u1 eu1 u2 eu2 => ⟨by rw [ex, ← e9], st _ _ _ _ _ (st _ _ _ _ _ h ev1 eu1) ev2 eu2⟩, fun z => absurd rfl z⟩
  · have c3 := c2 0 c c1
    intro v1 ev1 v2 ev2 v3 ev3
    refine ⟨vk, ?_⟩
    rw [nI_clamp (by omega)]
    intro v4 ev4
    refine ⟨vk, ?_⟩
    refine q5_isTest1 P2 hk (yes1' ⟨vk, fun x ex => ⟨vk, ?_⟩⟩)
    rw [nI_clamp (by omega)] at ex ⊢
    rw [← e8, eκ, c3]
    refine ⟨fun z => absurd z (by decide), fun _ => ⟨fun _ u1 eu1 u2 eu2 u3 eu3 u4 eu4 => ⟨?_, st _ _ _ _ _ (st _ _ _ _ _ (st _ _ _ _ _ (st _ _ _ _ _ h ev1 eu1) ev2 eu2) ev3 eu3) ev4 eu4⟩, fun z => absurd rfl z⟩⟩
    rw [ex, e9, show (2 : Int32) * g 7 k = g 7 k + g 7 k from by rw [show (2 : Int32) = 1 + 1 from rfl, Int32.add_mul, Int32.one_mul]]
    rw [Int32.add_assoc, Int32.add_comm 100, ← Int32.add_assoc]
