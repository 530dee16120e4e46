theorem mc_w {S S' : Mem} {X : Xs} {m : Nat} {v : Int32} (hm : m < 24) (h : MC S X) (h5 : S' 0 5 = S 0 5) (hF : ∀ a j, 2 ≤ a → a ≤ 49 → ¬ (a = 2 + 2 * m ∧ j = 1) → S' a j = S a j) (hv : S' (2 + 2 * m) 1 = v) : MC S' (mkX X.a (updE X.w m v) X.n) := by
  refine ⟨h5.trans h.1, fun i hi => ⟨?_, ?_⟩⟩
  · obtain ⟨g, g0, g1, g2, g3⟩ := (h.2 i hi).1
    refine ⟨?_, ?_, ?_, ?_, ?_⟩
    · rw [hF _ _ (by omega) (by omega) (by omega)]; exact g
    · rw [hF _ _ (by omega) (by omega) (by omega)]; exact g0
    · rw [hF _ _ (by omega) (by omega) (by omega)]; exact g1
    · rw [hF _ _ (by omega) (by omega) (by omega)]; exact g2
    · rw [hF _ _ (by omega) (by omega) (by omega)]; exact g3
  · show S' (2 + 2 * i) 1 = if i = m then v else X.w i
    by_cases him : i = m
    · rw [if_pos him, him]; exact hv
    · rw [if_neg him, hF _ _ (by omega) (by omega) (by omega)]
      exact (h.2 i hi).2
theorem mr_w {S S' : Mem} {X : Xs} {m : Nat} {v : Int32} (h : MR S X) (h1 : S' 148 1 = S 148 1) (hF : ∀ a j, a = 149 ∨ a = 150 ∨ a = 151 → ¬ (a = 151 ∧ j = m) → S' a j = S a j) (hv : S' 151 m = v) : MR S' (mkX X.a (updE X.w m v) X.n) := by
  refine ⟨h1.trans h.1, fun i hi => ⟨?_, ?_⟩⟩
  · obtain ⟨g, g0, g1, g2, g3⟩ := (h.2 i hi).1
    refine ⟨?_, ?_, ?_, ?_, ?_⟩
    · rw [hF _ _ (by omega) (by omega)]; exact g
    · rw [hF _ _ (by omega) (by omega)]; exact g0
    · rw [hF _ _ (by omega) (by omega)]; exact g1
    · rw [hF _ _ (by omega) (by omega)]; exact g2
    · rw [hF _ _ (by omega) (by omega)]; exact g3
  · show S' 151 i = if i = m then v else X.w i
    by_cases him : i = m
    · rw [if_pos him, him]; exact hv
    · rw [if_neg him, hF _ _ (by omega) (by omega)]
      exact (h.2 i hi).2
theorem upd_back (w : Nat → Int32) (m : Nat) (u : Int32) : updE (updE w m u) m (w m) = w := by
  funext i
  unfold updE
  by_cases h : i = m
  · rw [if_pos h, h]
  · rw [if_neg h, if_neg h]
theorem w_back {X : Xs} {m : Nat} {u : Int32} : mkX (mkX X.a (updE X.w m u) X.n).a (updE (mkX X.a (updE X.w m u) X.n).w m (X.w m)) (mkX X.a (updE X.w m u) X.n).n = X := by
  show mkX X.a (updE (updE X.w m u) m (X.w m)) X.n = X
  rw [upd_back]
  rfl
theorem am_back {X : Xs} {m i : Nat} {v : Int32} : amX (amX X m i v) m i ((X.a m).2 i) = X := by
  have h1 : (amX X m i v).a m = ((X.a m).1, updE (X.a m).2 i v) := if_pos rfl
  have h2 : updA (amX X m i v).a m (((amX X m i v).a m).1, updE ((amX X m i v).a m).2 i ((X.a m).2 i)) = X.a := by
    funext j
    unfold updA
    by_cases h : j = m
    · rw [if_pos h, h1, h]
      show ((X.a m).1, updE (updE (X.a m).2 i v) i ((X.a m).2 i)) = X.a m
      rw [upd_back]
    · rw [if_neg h]
      exact if_neg h
  unfold amX at h2 ⊢
  rw [h2]
  rfl
theorem cset_back {post : Mem → Prop} {S : Mem} {r : Nat} {e : Nat → Int32} {X Y : Xs} (hl : Lk e X Y) (he : ∀ c, c < 5 → S r c = e c) (hM : MC S Y) (hp : ∀ S', MC S' X → (∀ a j, ¬ (a = 0 ∧ j = 5) → ¬ (2 ≤ a ∧ a ≤ 49) → S' a j = S a j) → post S') : cd_setEdit post S r 0 := by
  obtain ⟨hX, hY, hk⟩ := hl
  have h24 := hX.1
  unfold cd_setEdit
  rw [he 0 (by omega), he 1 (by omega), he 2 (by omega), he 3 (by omega), he 4 (by omega)]
  rcases hk with ⟨k0, k1, hn, rfl⟩ | ⟨k0, m, hm, k1, h0, rfl⟩ | ⟨k0, m, hm, k1, h0, rfl⟩ | ⟨k0, m, i, hm, hi, k1, k2, k3, rfl⟩
  · rw [k0, k1]
    refine ⟨q_in (by omega) (by omega), fun _ S1 h1 => ?_, fun h => absurd h (by decide), fun h => absurd h (by decide), fun h => absurd h (by decide)⟩
    rw [if_pos rfl] at h1
    refine hp S1 ⟨by rw [h1, up_self], fun i hi => ?_⟩ (fun a j q1 _ => by rw [h1, up_at, if_neg q1])
    refine ⟨ca_fq (hM.2 i hi).1 (fun x => by rw [h1, up_at, if_neg (by omega)]) (fun x => by rw [h1, up_at, if_neg (by omega)]), ?_⟩
    rw [h1, up_at, if_neg (by omega)]
    exact (hM.2 i hi).2
  · rw [k0, k1, nI_clamp (by omega)]
    refine ⟨q_in (by omega) (by omega), fun h => absurd h (by decide), fun _ => ⟨nar0, fun S1 h1 => ?_⟩, fun h => absurd h (by decide), fun h => absurd h (by decide)⟩
    have := mc_w (m := m) (v := X.w m) (S' := S1) (by omega) hM (by rw [h1, up_at, if_neg (by omega)]) (fun a j _ _ q => by rw [h1, up_at, if_neg q]) (by rw [h1, up_self, h0])
    rw [w_back] at this
    exact hp S1 this (fun a j _ q => by rw [h1, up_at, if_neg (by omega)])
  · rw [k0, k1, nI_clamp (by omega), if_pos rfl]
    refine ⟨q_in (by omega) (by omega), fun h => absurd h (by decide), fun h => absurd h (by decide), fun _ => ⟨nar1, fun S1 h1 => ?_⟩, fun h => absurd h (by decide)⟩
    rw [if_pos (show (0 : Int32) = 0 from rfl)] at h1
    have := mc_w (m := m) (v := X.w m) (S' := S1) (by omega) hM (by rw [h1, up_at, if_neg (by omega)]) (fun a j _ _ q => by rw [h1, up_at, if_neg q]) (by rw [h1, up_self, h0])
    rw [w_back] at this
    exact hp S1 this (fun a j _ q => by rw [h1, up_at, if_neg (by omega)])
  · rw [k0, k1, k2, k3, nI_clamp (show m < 2 ^ 31 by omega), nI_clamp (show i < 2 ^ 31 by omega)]
    refine ⟨q_in (by omega) (by omega), fun h => absurd h (by decide), fun h => absurd h (by decide), fun h => absurd h (by decide), fun _ => ⟨q_in (by omega) (by omega), fun S1 h1 => ?_⟩⟩
    rw [if_pos rfl] at h1
    have := mc_am (X := amX X m i (e 4)) (m := m) (i := i) (v := (X.a m).2 i) (S5 := S1) (by omega) hM (by rw [h1, up_at, if_neg (by omega)]) (fun a j _ _ q => by rw [h1, up_at, if_neg q]) (by rw [h1, up_self])
    rw [am_back] at this
    exact hp S1 this (fun a j _ q => by rw [h1, up_at, if_neg (by omega)])
theorem cset_fwd {post : Mem → Prop} {S : Mem} {r : Nat} {e : Nat → Int32} {X Y : Xs} (hl : Lk e X Y) (he : ∀ c, c < 5 → S r c = e c) (hM : MC S X) (hp : ∀ S', MC S' Y → (∀ a j, ¬ (a = 0 ∧ j = 5) → ¬ (2 ≤ a ∧ a ≤ 49) → S' a j = S a j) → post S') : cd_setEdit post S r 1 := by
  obtain ⟨hX, hY, hk⟩ := hl
  have h24 := hX.1
  have n10 : ¬ (1 : Int32) = 0 := by decide
  unfold cd_setEdit
  rw [he 0 (by omega), he 1 (by omega), he 2 (by omega), he 3 (by omega), he 4 (by omega)]
  rcases hk with ⟨k0, k1, hn, rfl⟩ | ⟨k0, m, hm, k1, h0, rfl⟩ | ⟨k0, m, hm, k1, h0, rfl⟩ | ⟨k0, m, i, hm, hi, k1, k2, k3, rfl⟩
  · rw [k0, k1]
    refine ⟨q_in (by omega) (by omega), fun _ S1 h1 => ?_, fun h => absurd h (by decide), fun h => absurd h (by decide), fun h => absurd h (by decide)⟩
    rw [if_neg n10, q_1] at h1
    refine hp S1 ⟨by rw [h1, up_self]; rfl, fun i hi => ?_⟩ (fun a j q1 _ => by rw [h1, up_at, if_neg q1])
    refine ⟨ca_fq (hM.2 i hi).1 (fun x => by rw [h1, up_at, if_neg (by omega)]) (fun x => by rw [h1, up_at, if_neg (by omega)]), ?_⟩
    rw [h1, up_at, if_neg (by omega)]
    exact (hM.2 i hi).2
  · rw [k0, k1, nI_clamp (by omega)]
    refine ⟨q_in (by omega) (by omega), fun h => absurd h (by decide), fun _ => ⟨nar1, fun S1 h1 => ?_⟩, fun h => absurd h (by decide), fun h => absurd h (by decide)⟩
    exact hp S1 (mc_w (m := m) (v := 1) (S' := S1) (by omega) hM (by rw [h1, up_at, if_neg (by omega)]) (fun a j _ _ q => by rw [h1, up_at, if_neg q]) (by rw [h1, up_self])) (fun a j _ q => by rw [h1, up_at, if_neg (by omega)])
  · rw [k0, k1, nI_clamp (by omega), if_neg n10]
    refine ⟨q_in (by omega) (by omega), fun h => absurd h (by decide), fun h => absurd h (by decide), fun _ => ⟨nar0, fun S1 h1 => ?_⟩, fun h => absurd h (by decide)⟩
    rw [if_neg n10] at h1
    exact hp S1 (mc_w (m := m) (v := 0) (S' := S1) (by omega) hM (by rw [h1, up_at, if_neg (by omega)]) (fun a j _ _ q => by rw [h1, up_at, if_neg q]) (by rw [h1, up_self])) (fun a j _ q => by rw [h1, up_at, if_neg (by omega)])
  · rw [k0, k1, k2, nI_clamp (show m < 2 ^ 31 by omega), nI_clamp (show i < 2 ^ 31 by omega)]
    refine ⟨q_in (by omega) (by omega), fun h => absurd h (by decide), fun h => absurd h (by decide), fun h => absurd h (by decide), fun _ => ⟨q_in (by omega) (by omega), fun S1 h1 => ?_⟩⟩
    rw [if_neg n10] at h1
    exact hp S1 (mc_am (X := X) (m := m) (i := i) (v := e 4) (S5 := S1) (by omega) hM (by rw [h1, up_at, if_neg (by omega)]) (fun a j _ _ q => by rw [h1, up_at, if_neg q]) (by rw [h1, up_self])) (fun a j _ q => by rw [h1, up_at, if_neg (by omega)])
theorem rcar_back {post : Int32 → Mem → Prop} {S : Mem} {p : Nat} {e : Nat → Int32} {X Y : Xs} (hp32 : p < 32) (hl : Lk e X Y) (he : ∀ c, c < 5 → S 157 (5 * p + c) = e c) (hM : MR S Y) (hp : ∀ S', MR S' X → (∀ a j, ¬ (a = 148 ∧ j = 1) → a ≠ 150 → a ≠ 151 → S' a j = S a j) → r_carry_J123 post S' (e 0)) : r_carry post S (nI p) 1 := by
  obtain ⟨hX, hY, hk⟩ := hl
  have h24 := hX.1
  have n10 : ¬ (1 : Int32) = 0 := by decide
  have e0 : S 157 (5 * p) = e 0 := he 0 (by omega)
  unfold r_carry
  rw [if_neg n10, n5m, q_1 (5 * p), show nI (5 * p) + 2 = nI (5 * p + 2) from q_add (5 * p) 2, show nI (5 * p) + 3 = nI (5 * p + 3) from q_add (5 * p) 3, nI_clamp (show 5 * p < 2 ^ 31 by omega), nI_clamp (show 5 * p + 1 < 2 ^ 31 by omega), nI_clamp (show 5 * p + 2 < 2 ^ 31 by omega), nI_clamp (show 5 * p + 3 < 2 ^ 31 by omega), e0, he 1 (by omega), he 2 (by omega), he 3 (by omega)]
  refine ⟨q_in (by omega) (by omega), q_in (by omega) (by omega), ?_⟩
  rcases hk with ⟨k0, k1, hn, rfl⟩ | ⟨k0, m, hm, k1, h0, rfl⟩ | ⟨k0, m, hm, k1, h0, rfl⟩ | ⟨k0, m, i, hm, hi, k1, k2, k3, rfl⟩
  · refine ⟨fun h => absurd k0 h, fun _ S1 h1 => ?_⟩
    have hc : S 148 1 = nI (X.n + 1) := hM.1
    rw [if_neg n10, hc, show nI (X.n + 1) - 1 = nI X.n from by rw [show (1 : Int32) = nI 1 from rfl, q_sub (by omega)]; rfl] at h1
    refine hp S1 ⟨by rw [h1, up_self], fun i hi => ?_⟩ (fun a j q1 _ _ => by rw [h1, up_at, if_neg q1])
    obtain ⟨⟨g, g0, g1, g2, g3⟩, gw⟩ := hM.2 i hi
    refine ⟨⟨?_, ?_, ?_, ?_, ?_⟩, ?_⟩
    · rw [h1, up_at, if_neg (by omega)]; exact g
    · rw [h1, up_at, if_neg (by omega)]; exact g0
    · rw [h1, up_at, if_neg (by omega)]; exact g1
    · rw [h1, up_at, if_neg (by omega)]; exact g2
    · rw [h1, up_at, if_neg (by omega)]; exact g3
    · rw [h1, up_at, if_neg (by omega)]; exact gw
  · rw [k0, k1, nI_clamp (show m < 2 ^ 31 by omega)]
    refine ⟨fun _ => ⟨fun h => absurd h (by decide), fun _ => ⟨q_in (by omega) (by omega), fun S1 h1 => ?_⟩⟩, fun h => absurd h (by decide)⟩
    rw [if_pos (show (1 : Int32) = 1 from rfl), if_pos (show (1 : Int32) = 1 from rfl), nar0] at h1
    have := mr_w (m := m) (v := X.w m) (S' := S1) hM (by rw [h1, up_at, if_neg (by omega)]) (fun a j _ q => by rw [h1, up_at, if_neg q]) (by rw [h1, up_self, h0])
    rw [w_back] at this
    rw [← k0]
    exact hp S1 this (fun a j _ _ q => by rw [h1, up_at, if_neg (by omega)])
  · rw [k0, k1, nI_clamp (show m < 2 ^ 31 by omega)]
    refine ⟨fun _ => ⟨fun h => absurd h (by decide), fun _ => ⟨q_in (by omega) (by omega), fun S1 h1 => ?_⟩⟩, fun h => absurd h (by decide)⟩
    rw [if_neg (show ¬ (2 : Int32) = 1 by decide), if_neg (show ¬ (0 : Int32) = 1 by decide), nar1] at h1
    have := mr_w (m := m) (v := X.w m) (S' := S1) hM (by rw [h1, up_at, if_neg (by omega)]) (fun a j _ q => by rw [h1, up_at, if_neg q]) (by rw [h1, up_self, h0])
    rw [w_back] at this
    rw [← k0]
    exact hp S1 this (fun a j _ _ q => by rw [h1, up_at, if_neg (by omega)])
  · rw [k0, k1, k2, k3, n4, nI_clamp (show 4 * m + i < 2 ^ 31 by omega)]
    refine ⟨fun _ => ⟨fun _ => ⟨q_in (by omega) (by omega), q_in (by omega) (by omega), q_in (by omega) (by omega), fun S1 h1 => ?_⟩, fun h => absurd (by decide) h⟩, fun h => absurd h (by decide)⟩
    have := mr_am (X := amX X m i (e 4)) (m := m) (i := i) (v := (X.a m).2 i) (S5 := S1) hi hM (by rw [h1, up_at, if_neg (by omega)]) (fun a j _ q => by rw [h1, up_at, if_neg q]) (by rw [h1, up_self])
    rw [am_back] at this
    rw [← k0]
    exact hp S1 this (fun a j _ q _ => by rw [h1, up_at, if_neg (by omega)])
theorem rcar_fwd {post : Int32 → Mem → Prop} {S : Mem} {p : Nat} {e : Nat → Int32} {X Y : Xs} (hp32 : p < 32) (hl : Lk e X Y) (he : ∀ c, c < 5 → S 157 (5 * p + c) = e c) (hM : MR S X) (hp : ∀ S', MR S' Y → (∀ a j, ¬ (a = 148 ∧ j = 1) → a ≠ 150 → a ≠ 151 → S' a j = S a j) → r_carry_J123 post S' (e 0)) : r_carry post S (nI p) 0 := by
  obtain ⟨hX, hY, hk⟩ := hl
  have h24 := hX.1
  have z0 : (0 : Int32) = 0 := rfl
  have e0 : S 157 (5 * p) = e 0 := he 0 (by omega)
  unfold r_carry
  rw [if_pos z0, n5m, q_1 (5 * p), show nI (5 * p) + 2 = nI (5 * p + 2) from q_add (5 * p) 2, show nI (5 * p) + 4 = nI (5 * p + 4) from q_add (5 * p) 4, nI_clamp (show 5 * p < 2 ^ 31 by omega), nI_clamp (show 5 * p + 1 < 2 ^ 31 by omega), nI_clamp (show 5 * p + 2 < 2 ^ 31 by omega), nI_clamp (show 5 * p + 4 < 2 ^ 31 by omega), e0, he 1 (by omega), he 2 (by omega), he 4 (by omega)]
  refine ⟨q_in (by omega) (by omega), q_in (by omega) (by omega), ?_⟩
  rcases hk with ⟨k0, k1, hn, rfl⟩ | ⟨k0, m, hm, k1, h0, rfl⟩ | ⟨k0, m, hm, k1, h0, rfl⟩ | ⟨k0, m, i, hm, hi, k1, k2, k3, rfl⟩
  · refine ⟨fun h => absurd k0 h, fun _ S1 h1 => ?_⟩
    rw [if_pos z0, hM.1, q_1] at h1
    refine hp S1 ⟨by rw [h1, up_self]; rfl, fun i hi => ?_⟩ (fun a j q1 _ _ => by rw [h1, up_at, if_neg q1])
    obtain ⟨⟨g, g0, g1, g2, g3⟩, gw⟩ := hM.2 i hi
    refine ⟨⟨?_, ?_, ?_, ?_, ?_⟩, ?_⟩
    · rw [h1, up_at, if_neg (by omega)]; exact g
    · rw [h1, up_at, if_neg (by omega)]; exact g0
    · rw [h1, up_at, if_neg (by omega)]; exact g1
    · rw [h1, up_at, if_neg (by omega)]; exact g2
    · rw [h1, up_at, if_neg (by omega)]; exact g3
    · rw [h1, up_at, if_neg (by omega)]; exact gw
  · rw [k0, k1, nI_clamp (show m < 2 ^ 31 by omega)]
    refine ⟨fun _ => ⟨fun h => absurd h (by decide), fun _ => ⟨q_in (by omega) (by omega), fun S1 h1 => ?_⟩⟩, fun h => absurd h (by decide)⟩
    rw [if_pos (show (1 : Int32) = 1 from rfl), if_neg (show ¬ (1 : Int32) = 0 by decide), nar1] at h1
    rw [← k0]
    exact hp S1 (mr_w (m := m) (v := 1) (S' := S1) hM (by rw [h1, up_at, if_neg (by omega)]) (fun a j _ q => by rw [h1, up_at, if_neg q]) (by rw [h1, up_self])) (fun a j _ _ q => by rw [h1, up_at, if_neg (by omega)])
  · rw [k0, k1, nI_clamp (show m < 2 ^ 31 by omega)]
    refine ⟨fun _ => ⟨fun h => absurd h (by decide), fun _ => ⟨q_in (by omega) (by omega), fun S1 h1 => ?_⟩⟩, fun h => absurd h (by decide)⟩
    rw [if_neg (show ¬ (2 : Int32) = 1 by decide), if_pos (show (0 : Int32) = 0 from rfl), nar0] at h1
    rw [← k0]
    exact hp S1 (mr_w (m := m) (v := 0) (S' := S1) hM (by rw [h1, up_at, if_neg (by omega)]) (fun a j _ q => by rw [h1, up_at, if_neg q]) (by rw [h1, up_self])) (fun a j _ _ q => by rw [h1, up_at, if_neg (by omega)])
  · rw [k0, k1, k2, n4, nI_clamp (show 4 * m + i < 2 ^ 31 by omega)]
    refine ⟨fun _ => ⟨fun _ => ⟨q_in (by omega) (by omega), q_in (by omega) (by omega), q_in (by omega) (by omega), fun S1 h1 => ?_⟩, fun h => absurd (by decide) h⟩, fun h => absurd h (by decide)⟩
    rw [← k0]
    exact hp S1 (mr_am (X := X) (m := m) (i := i) (v := e 4) (S5 := S1) hi hM (by rw [h1, up_at, if_neg (by omega)]) (fun a j _ q => by rw [h1, up_at, if_neg q]) (by rw [h1, up_self])) (fun a j _ q _ => by rw [h1, up_at, if_neg (by omega)])
theorem rcar_all {post : Int32 → Mem → Prop} {S S' : Mem} {Y : Xs} {dn kn : Nat} {E : Nat → Nat → Int32} {Dy : Nat → List Ob} {ey : Nat → Int32} {k : Int32} (hY : Good Y) (hby : Bse Y Dy ey) (hH : HR S dn kn E) (hM : MR S' Y) (hF : ∀ a j, ¬ (a = 148 ∧ j = 1) → a ≠ 150 → a ≠ 151 → S' a j = S a j) (hp : ∀ S2, IR S2 Y dn kn E Dy ey → S2 148 0 = S 148 0 → (∀ a i, a < 148 → S2 a i = S a i) → post k S2) : r_carry_J123 post S' k := by
  refine go_x hM hY.1 hby (on_base hY.1) (fun S2 hR2 he2 hF2 => hp S2 ⟨?_, ?_, hR2, he2⟩ ?_ (fun a i q => ?_))
  · exact hr_fq hH (by rw [hF2 _ _ (by unfold tGo; omega), hF _ _ (by omega) (by omega) (by omega)]) (by rw [hF2 _ _ (by unfold tGo; omega), hF _ _ (by omega) (by omega) (by omega)]) (fun i => by rw [hF2 _ _ (by unfold tGo; omega), hF _ _ (by omega) (by omega) (by omega)])
  · exact mr_fq hM (hF2 _ _ (by unfold tGo; omega)) (fun a i q => hF2 _ _ (by unfold tGo; omega))
  · rw [hF2 _ _ (by unfold tGo; omega), hF _ _ (by omega) (by omega) (by omega)]
  · rw [hF2 _ _ (by unfold tGo; omega), hF _ _ (by omega) (by omega) (by omega)]
theorem ok_undo : OK_undo Inv := by
  intro S J hI
  have hI' := hI
  obtain ⟨X, dn, kn, E, St, f, Ds, ef, Dt, hch, hb, hic, hir⟩ := hI
  have hW := bse_wf hb
  obtain ⟨hdk, hk32, hlk, hSt, hX⟩ := hch
  obtain ⟨⟨hf, g1, g2, g3, hE⟩, i2, i3, i4, i5, i6, i7⟩ := hic
  have z : nI dn = 0 ↔ dn = 0 := by rw [show (0 : Int32) = nI 0 from rfl, q_eq (by omega) (by omega)]
  unfold cd_undo
  rw [g2, z]
  refine ⟨fun hne => ?_, fun h0 => ⟨rfl, fun S1 h1 => ?_⟩⟩
  · obtain ⟨p, rfl⟩ : ∃ p, dn = p + 1 := ⟨dn - 1, by omega⟩
    have hl := hlk p (by omega)
    rw [hSt] at hl
    have em1 : nI (p + 1) - 1 = nI p := by rw [show (1 : Int32) = nI 1 from rfl, q_sub (by omega)]; rfl
    obtain ⟨Dy, ey, hby⟩ := good_ex hl.1 (fun i => (St p).w i = 0)
    have hchp : Ch p kn E St (St p) := ⟨by omega, hk32, hlk, rfl, hl.1⟩
    intro S1 h1 S2 h2
    rw [g2, em1] at h1
    have b3 : S1 52 3 = nI (kn - (p + 1)) := by rw [h1, up_at, if_neg (by omega)]; exact g3
    rw [b3, q_1, show kn - (p + 1) + 1 = kn - p by omega] at h2
    have hF2 : ∀ a i, ¬ (a = 52 ∧ (i = 2 ∨ i = 3)) → S2 a i = S a i := fun a i q => by rw [h2, up_at, if_neg (by omega), h1, up_at, if_neg (by omega)]
    have hH2 : HC S2 f p kn E := by
      refine ⟨hf, by rw [hF2 _ _ (by omega)]; exact g1, by rw [h2, up_at, if_neg (by omega), h1, up_self], by rw [h2, up_self], fun i hi c hc => ?_⟩
      rw [hF2 _ _ (by omega)]
      exact hE i hi c hc
    rw [hH2.2.2.1]
    have hm := Nat.mod_lt (f + p) (show 0 < 32 by omega)
    refine cat_ok hf (by omega) hH2.2.1 (cset_back hl (hH2.2.2.2.2 p (by omega)) (mc_fq i2 (hF2 _ _ (by omega)) (fun a i q1 q2 => hF2 _ _ (by omega))) (fun S3 hM3 hF3 => ?_))
    have hfr : ∀ a i, ¬ (a = 0 ∧ i = 5) → ¬ (2 ≤ a ∧ a ≤ 49) → a ≠ 52 → S3 a i = S a i := fun a i q1 q2 q3 => by rw [hF3 _ _ q1 q2, hF2 _ _ (by omega)]
    refine cplay_all (hc_fq hH2 (fun a i q => hF3 _ _ (by omega) (by omega))) hM3 hl.1 hby (cd_out i3 hW.2.1 (fun a i q1 q2 => hfr _ _ (by omega) (by omega) (by omega))) hW.2.1 hW.2.2.1 (cd_out i5 i6 (fun a i q1 q2 => hfr _ _ (by omega) (by omega) (by omega))) i6 i7 (fun S5 hic5 hb5 hF5 => ?_)
    have hans : S5 (54 + (f + p) % 32) 0 = E p 0 := hic5.1.2.2.2.2 p (by omega) 0 (by omega)
    rw [hans]
    have hfr5 : ∀ a i, 148 ≤ a → S5 a i = S a i := fun a i q => by rw [hF5 _ _ (by omega), hfr _ _ (by omega) (by omega) (by omega)]
    have hir5 : IR S5 X (p + 1) kn E Ds ef := ir_fq hir (fun a i q => hfr5 a i (by unfold tIR at q; omega))
    intro S6 h6
    have c18 : ¬ S5 148 18 = 0 := by rw [hir5.1.1, z]; exact hne
    rw [if_neg c18] at h6
    have h60 : S6 148 0 = 0 := by rw [h6, up_self]
    rw [h60]
    refine ⟨fun _ S7 h7 => ?_, fun h => absurd z_le0 h⟩
    have c18' : S6 148 18 = nI (p + 1) := by rw [h6, up_at, if_neg (by omega)]; exact hir5.1.1
    rw [c18', em1] at h7
    have hF7 : ∀ a i, ¬ (a = 148 ∧ (i = 0 ∨ i = 18)) → S7 a i = S5 a i := fun a i q => by rw [h7, up_at, if_neg (by omega), h6, up_at, if_neg (by omega)]
    have hH7 : HR S7 p kn E := ⟨by rw [h7, up_self], by rw [hF7 _ _ (by omega)]; exact hir5.1.2.1, fun i hi c hc => by rw [hF7 _ _ (by omega)]; exact hir5.1.2.2 i hi c hc⟩
    have h70 : S7 148 0 = 0 := by rw [h7, up_at, if_neg (by omega)]; exact h60
    rw [hH7.1]
    refine rcar_back (by omega) hl (hH7.2.2 p (by omega)) (mr_fq hir5.2.1 (hF7 _ _ (by omega)) (fun a i q => hF7 _ _ (by omega))) (fun S8 hM8 hF8 => ?_)
    refine rcar_all hl.1 hby hH7 hM8 hF8 (fun S9 hir9 h90 hF9 => pst (h90.trans h70) rfl (inv_of hchp hby hic5 hir9 (fun a i q => ?_)))
    rw [hF9 _ _ q, hF7 _ _ (by omega)]
  · subst h0
    rw [hir.1.1, if_pos (show nI 0 = 0 from rfl)] at h1
    subst h1
    rw [up_self]
    exact ⟨fun h => absurd h one_le0, fun _ => pex (up_self _ _ _ _) (by decide) (inv_thr hI')⟩
theorem ok_redo : OK_redo Inv := by
  intro S J hI
  have hI' := hI
  obtain ⟨X, dn, kn, E, St, f, Ds, ef, Dt, hch, hb, hic, hir⟩ := hI
  have hW := bse_wf hb
  obtain ⟨hdk, hk32, hlk, hSt, hX⟩ := hch
  obtain ⟨⟨hf, g1, g2, g3, hE⟩, i2, i3, i4, i5, i6, i7⟩ := hic
  have z : nI (kn - dn) = 0 ↔ kn - dn = 0 := by rw [show (0 : Int32) = nI 0 from rfl, q_eq (by omega) (by omega)]
  have y : nI dn = nI kn ↔ dn = kn := by rw [q_eq (by omega) (by omega)]
  unfold cd_redo
  rw [g3, z]
  refine ⟨fun hne => ?_, fun h0 => ⟨rfl, fun S1 h1 => ?_⟩⟩
  · have hl := hlk dn (by omega)
    rw [hSt] at hl
    have em1 : nI (dn + 1) - 1 = nI dn := by rw [show (1 : Int32) = nI 1 from rfl, q_sub (by omega)]; rfl
    obtain ⟨Dy, ey, hby⟩ := good_ex hl.2.1 (fun i => (St (dn + 1)).w i = 0)
    have hchp : Ch (dn + 1) kn E St (St (dn + 1)) := ⟨by omega, hk32, hlk, rfl, hl.2.1⟩
    intro S1 h1 S2 h2
    rw [g2, q_1] at h1
    have b3 : S1 52 3 = nI (kn - dn) := by rw [h1, up_at, if_neg (by omega)]; exact g3
    rw [b3, show nI (kn - dn) - 1 = nI (kn - (dn + 1)) from by rw [show (1 : Int32) = nI 1 from rfl, q_sub (by omega)]; rfl] at h2
    have hF2 : ∀ a i, ¬ (a = 52 ∧ (i = 2 ∨ i = 3)) → S2 a i = S a i := fun a i q => by rw [h2, up_at, if_neg (by omega), h1, up_at, if_neg (by omega)]
    have hH2 : HC S2 f (dn + 1) kn E := by
      refine ⟨hf, by rw [hF2 _ _ (by omega)]; exact g1, by rw [h2, up_at, if_neg (by omega), h1, up_self], by rw [h2, up_self], fun i hi c hc => ?_⟩
      rw [hF2 _ _ (by omega)]
      exact hE i hi c hc
    rw [hH2.2.2.1, em1]
    have hm := Nat.mod_lt (f + dn) (show 0 < 32 by omega)
    refine cat_ok hf (by omega) hH2.2.1 (cset_fwd hl (hH2.2.2.2.2 dn (by omega)) (mc_fq i2 (hF2 _ _ (by omega)) (fun a i q1 q2 => hF2 _ _ (by omega))) (fun S3 hM3 hF3 => ?_))
    have hfr : ∀ a i, ¬ (a = 0 ∧ i = 5) → ¬ (2 ≤ a ∧ a ≤ 49) → a ≠ 52 → S3 a i = S a i := fun a i q1 q2 q3 => by rw [hF3 _ _ q1 q2, hF2 _ _ (by omega)]
    refine cplay_all (hc_fq hH2 (fun a i q => hF3 _ _ (by omega) (by omega))) hM3 hl.2.1 hby (cd_out i3 hW.2.1 (fun a i q1 q2 => hfr _ _ (by omega) (by omega) (by omega))) hW.2.1 hW.2.2.1 (cd_out i5 i6 (fun a i q1 q2 => hfr _ _ (by omega) (by omega) (by omega))) i6 i7 (fun S5 hic5 hb5 hF5 => ?_)
    have hans : S5 (54 + (f + dn) % 32) 0 = E dn 0 := hic5.1.2.2.2.2 dn (by omega) 0 (by omega)
    rw [hans]
    have hfr5 : ∀ a i, 148 ≤ a → S5 a i = S a i := fun a i q => by rw [hF5 _ _ (by omega), hfr _ _ (by omega) (by omega) (by omega)]
    have hir5 : IR S5 X dn kn E Ds ef := ir_fq hir (fun a i q => hfr5 a i (by unfold tIR at q; omega))
    intro S6 h6
    have c18 : ¬ S5 148 18 = S5 148 17 := by rw [hir5.1.1, hir5.1.2.1, y]; omega
    rw [if_neg c18] at h6
    have h60 : S6 148 0 = 0 := by rw [h6, up_self]
    rw [h60]
    refine ⟨fun _ S7 h7 => ?_, fun h => absurd z_le0 h⟩
    have c18' : S6 148 18 = nI dn := by rw [h6, up_at, if_neg (by omega)]; exact hir5.1.1
    rw [c18', q_1] at h7
    have hF7 : ∀ a i, ¬ (a = 148 ∧ (i = 0 ∨ i = 18)) → S7 a i = S5 a i := fun a i q => by rw [h7, up_at, if_neg (by omega), h6, up_at, if_neg (by omega)]
    have hH7 : HR S7 (dn + 1) kn E := ⟨by rw [h7, up_self], by rw [hF7 _ _ (by omega)]; exact hir5.1.2.1, fun i hi c hc => by rw [hF7 _ _ (by omega)]; exact hir5.1.2.2 i hi c hc⟩
    have h70 : S7 148 0 = 0 := by rw [h7, up_at, if_neg (by omega)]; exact h60
    rw [hH7.1, em1]
    refine rcar_fwd (by omega) hl (hH7.2.2 dn (by omega)) (mr_fq hir5.2.1 (hF7 _ _ (by omega)) (fun a i q => hF7 _ _ (by omega))) (fun S8 hM8 hF8 => ?_)
    refine rcar_all hl.2.1 hby hH7 hM8 hF8 (fun S9 hir9 h90 hF9 => pst (h90.trans h70) rfl (inv_of hchp hby hic5 hir9 (fun a i q => ?_)))
    rw [hF9 _ _ q, hF7 _ _ (by omega)]
  · have hdn : dn = kn := by omega
    rw [hir.1.1, hir.1.2.1, if_pos (y.mpr hdn)] at h1
    subst h1
    rw [up_self]
    exact ⟨fun h => absurd h one_le0, fun _ => pex (up_self _ _ _ _) (by decide) (inv_thr hI')⟩
