def r_goThrough_L150 (post : Mem → Prop) (K7 : Mem → Int32 → Int32 → Prop) : Nat → Mem → Int32 → Int32 → Int32 → Prop
  | 0, _, _, _, _ => False
  | n + 1, S, l1, l2, l4 =>
  (((8 * (S 148 7)) ≤ l4) →
   K7 S l1 (l2 + 1)) ∧
  ((¬ (8 * (S 148 7)) ≤ l4) →
   (vp_in l4 112) ∧ (vp_in l4 112) ∧ ∀ S1, S1 = up2 S 154 l4.toNatClampNeg (S 155 l4.toNatClampNeg) → r_goThrough_L150 post K7 n S1 l1 l2 (l4 + 1))
set_option maxRecDepth 100000 in
set_option maxHeartbeats 1000000 in
theorem zr_goThrough_L150 {g : Gm} {G : Gp} {post : Mem → Prop} {K7 : Mem → Int32 → Int32 → Prop} (hx : G.2.2.2 = false) (hG : isR G) (hK7 : ∀ {S : Mem} {l1 : Int32} {l2 : Int32}, K7 S l1 l2 → Z g M_r_goThrough 0 0 7 [some (.ref 148), some (.int l1), some (.int l2), none, none] [] (S, G) (Qv G post noEx)) : ∀ (n : Nat) {S : Mem} {l1 : Int32} {l2 : Int32} {l4 : Int32} , r_goThrough_L150 post K7 n S l1 l2 l4 → Z g M_r_goThrough 0 0 150 [some (.ref 148), some (.int l1), some (.int l2), none, some (.int l4)] [] (S, G) (Qv G post noEx) := by
  intro n
  induction n with
  | zero =>
    intros
    rename_i hw
    exact hw.elim
  | succ n ih =>
    intro S l1 l2 l4 hw
    rw [r_goThrough_L150] at hw
    refine z_iload rfl rfl ?_
    refine z_bipush 8 rfl rfl ?_
    refine z_aload_n rfl rfl ?_
    refine z_geti (ci := 7) 7 rfl hG.1 rfl w_665 ?_
    refine z_imul rfl ?_
    refine z_icmp_ge rfl (fun hq => ?_) (fun hq => ?_)
    · replace hw := hw.1 hq
      refine z_iinc 1 [some (.ref 148), some (.int l1), some (.int (l2 + 1)), none, some (.int l4)] rfl rfl rfl rfl ?_
      refine z_goto rfl ?_
      refine Z.forget' [some (.ref 148), some (.int l1), some (.int (l2 + 1)), none, none] ⟨rfl, ⟨rfl, ⟨rfl, trivial⟩⟩⟩ ?_
      exact hK7 hw
    · replace hw := hw.2 hq
      refine z_aload_n rfl rfl ?_
      refine z_getr (ci := 7) 8 rfl hG.1 rfl w_666 hG.2.2.2.2.2.2.2.2.2.2.2.1 ?_
      refine z_iload rfl rfl ?_
      refine z_aload_n rfl rfl ?_
      refine z_getr (ci := 7) 10 rfl hG.1 rfl w_668 hG.2.2.2.2.2.2.2.2.2.2.2.2.2.1 ?_
      refine z_iload rfl rfl ?_
      obtain ⟨hc1, hw⟩ := hw
      refine z_iald (l4.toNatClampNeg) rfl hG.2.2.2.2.2.2.2.2.2.2.2.2.2.2.1 hc1 rfl ?_
      obtain ⟨hc2, hw⟩ := hw
      replace hw := hw _ rfl
      refine z_iast (l4.toNatClampNeg) rfl hG.2.2.2.2.2.2.2.2.2.2.2.2.1 hc2 rfl ?_
      refine z_iinc 1 [some (.ref 148), some (.int l1), some (.int l2), none, some (.int (l4 + 1))] rfl rfl rfl rfl ?_
      refine z_goto rfl ?_
      refine Z.forget' [some (.ref 148), some (.int l1), some (.int l2), none, some (.int (l4 + 1))] ⟨rfl, ⟨rfl, ⟨rfl, ⟨rfl, trivial⟩⟩⟩⟩ ?_
      exact ih hw
def r_goThrough_L88 (post : Mem → Prop) (K7 : Mem → Int32 → Int32 → Prop) : Nat → Mem → Int32 → Int32 → Int32 → Prop
  | 0, _, _, _, _ => False
  | n + 1, S, l1, l2, l4 =>
  (((8 * (S 148 7)) ≤ l4) →
   r_act (fun S1 =>
    r_holdLimits (fun r2 S2 =>
     ((¬ r2 = 0) →
      K7 S2 l1 (l2 + 1)) ∧
     ((r2 = 0) →
      (vp_in l2 24) ∧ ∀ S3, S3 = up2 S2 152 l2.toNatClampNeg 2 → ∀ S4, S4 = up2 S3 148 7 (S3 148 9) → ∃ n, r_goThrough_L150 post K7 n S4 l1 l2 0)) S1 ) S l2) ∧
  ((¬ (8 * (S 148 7)) ≤ l4) →
   (vp_in l4 112) ∧ (vp_in l4 112) ∧ ∀ S5, S5 = up2 S 155 l4.toNatClampNeg (S 154 l4.toNatClampNeg) → r_goThrough_L88 post K7 n S5 l1 l2 (l4 + 1))
set_option maxRecDepth 100000 in
set_option maxHeartbeats 1000000 in
theorem zr_goThrough_L88 {g : Gm} {G : Gp} {post : Mem → Prop} {K7 : Mem → Int32 → Int32 → Prop} (hx : G.2.2.2 = false) (hG : isR G) (hK7 : ∀ {S : Mem} {l1 : Int32} {l2 : Int32}, K7 S l1 l2 → Z g M_r_goThrough 0 0 7 [some (.ref 148), some (.int l1), some (.int l2), none, none] [] (S, G) (Qv G post noEx)) : ∀ (n : Nat) {S : Mem} {l1 : Int32} {l2 : Int32} {l4 : Int32} , r_goThrough_L88 post K7 n S l1 l2 l4 → Z g M_r_goThrough 0 0 88 [some (.ref 148), some (.int l1), some (.int l2), none, some (.int l4)] [] (S, G) (Qv G post noEx) := by
  intro n
  induction n with
  | zero =>
    intros
    rename_i hw
    exact hw.elim
  | succ n ih =>
    intro S l1 l2 l4 hw
    rw [r_goThrough_L88] at hw
    refine z_iload rfl rfl ?_
    refine z_bipush 8 rfl rfl ?_
    refine z_aload_n rfl rfl ?_
    refine z_geti (ci := 7) 7 rfl hG.1 rfl w_665 ?_
    refine z_imul rfl ?_
    refine z_icmp_ge rfl (fun hq => ?_) (fun hq => ?_)
    · replace hw := hw.1 hq
      refine z_aload_n rfl rfl ?_
      refine z_iload_n rfl rfl ?_
      refine z_cvv (M' := M_r_act) [.int l2] hx rfl w_766 cv_r_act hG.1 (by decide) rfl rfl rfl rfl (zr_act hx hG hw) ?_ (fun _ _ hf => hf.elim)
      clear hw
      intro S1 hw
      refine z_aload_n rfl rfl ?_
      refine z_cvi (M' := M_r_holdLimits) [] hx rfl w_843 cv_r_holdLimits hG.1 (by decide) rfl rfl rfl rfl (zr_holdLimits hx hG hw) ?_ (fun _ _ hf => hf.elim)
      clear hw
      intro r2 S2 hw
      refine z_if_ne rfl (fun hq => ?_) (fun hq => ?_)
      · replace hw := hw.1 hq
        refine z_iinc 1 [some (.ref 148), some (.int l1), some (.int (l2 + 1)), none, some (.int l4)] rfl rfl rfl rfl ?_
        refine z_goto rfl ?_
        refine Z.forget' [some (.ref 148), some (.int l1), some (.int (l2 + 1)), none, none] ⟨rfl, ⟨rfl, ⟨rfl, trivial⟩⟩⟩ ?_
        exact hK7 hw
      · replace hw := hw.2 hq
        refine z_aload_n rfl rfl ?_
        refine z_getr (ci := 7) 5 rfl hG.1 rfl w_663 hG.2.2.2.2.2.2.2.1 ?_
        refine z_iload_n rfl rfl ?_
        refine z_iconst 2 rfl rfl ?_
        obtain ⟨hc1, hw⟩ := hw
        replace hw := hw _ rfl
        refine z_iast (l2.toNatClampNeg) rfl hG.2.2.2.2.2.2.2.2.1 hc1 rfl ?_
        refine z_aload_n rfl rfl ?_
        refine z_aload_n rfl rfl ?_
        refine z_geti (ci := 7) 9 rfl hG.1 rfl w_667 ?_
        replace hw := hw _ rfl
        refine z_puti (ci := 7) 7 rfl hG.1 rfl w_665 rfl rfl rfl ?_
        refine z_iconst 0 rfl rfl ?_
        refine z_istore [some (.ref 148), some (.int l1), some (.int l2), none, some (.int 0)] rfl rfl rfl ?_
        refine Z.forget' [some (.ref 148), some (.int l1), some (.int l2), none, some (.int 0)] ⟨rfl, ⟨rfl, ⟨rfl, ⟨rfl, trivial⟩⟩⟩⟩ ?_
        obtain ⟨n, hw⟩ := hw
        exact zr_goThrough_L150 hx hG @hK7 n hw
    · replace hw := hw.2 hq
      refine z_aload_n rfl rfl ?_
      refine z_getr (ci := 7) 10 rfl hG.1 rfl w_668 hG.2.2.2.2.2.2.2.2.2.2.2.2.2.1 ?_
      refine z_iload rfl rfl ?_
      refine z_aload_n rfl rfl ?_
      refine z_getr (ci := 7) 8 rfl hG.1 rfl w_666 hG.2.2.2.2.2.2.2.2.2.2.2.1 ?_
      refine z_iload rfl rfl ?_
      obtain ⟨hc2, hw⟩ := hw
      refine z_iald (l4.toNatClampNeg) rfl hG.2.2.2.2.2.2.2.2.2.2.2.2.1 hc2 rfl ?_
      obtain ⟨hc3, hw⟩ := hw
      replace hw := hw _ rfl
      refine z_iast (l4.toNatClampNeg) rfl hG.2.2.2.2.2.2.2.2.2.2.2.2.2.2.1 hc3 rfl ?_
      refine z_iinc 1 [some (.ref 148), some (.int l1), some (.int l2), none, some (.int (l4 + 1))] rfl rfl rfl rfl ?_
      refine z_goto rfl ?_
      refine Z.forget' [some (.ref 148), some (.int l1), some (.int l2), none, some (.int (l4 + 1))] ⟨rfl, ⟨rfl, ⟨rfl, ⟨rfl, trivial⟩⟩⟩⟩ ?_
      exact ih hw
def r_goThrough_J66 (post : Mem → Prop) (K7 : Mem → Int32 → Int32 → Prop) (S : Mem) (l1 : Int32) (l2 : Int32) (k1 : Int32) (k2 : Int32) : Prop :=
  (vp_in k1 24) ∧ ∀ S1, S1 = up2 S 152 k1.toNatClampNeg k2 → (vp_in l2 24) ∧ ((¬ (S1 152 l2.toNatClampNeg) = 1) →
   K7 S1 l1 (l2 + 1)) ∧
  (((S1 152 l2.toNatClampNeg) = 1) →
   ∀ S2, S2 = up2 S1 148 9 (S1 148 7) → ∃ n, r_goThrough_L88 post K7 n S2 l1 l2 0)
set_option maxRecDepth 100000 in
set_option maxHeartbeats 1000000 in
theorem zr_goThrough_J66 {g : Gm} {G : Gp} {post : Mem → Prop} {K7 : Mem → Int32 → Int32 → Prop} (hx : G.2.2.2 = false) (hG : isR G) (hK7 : ∀ {S : Mem} {l1 : Int32} {l2 : Int32} , K7 S l1 l2 → Z g M_r_goThrough 0 0 7 [some (.ref 148), some (.int l1), some (.int l2), none, none] [] (S, G) (Qv G post noEx)) {S : Mem} {l1 : Int32} {l2 : Int32} {k1 : Int32} {k2 : Int32}  (hw : r_goThrough_J66 post K7 S l1 l2 k1 k2) : Z g M_r_goThrough 0 0 66 [some (.ref 148), some (.int l1), some (.int l2), none, none] [.int k2, .int k1, .ref 152] (S, G) (Qv G post noEx) := by
  unfold r_goThrough_J66 at hw
  obtain ⟨hc1, hw⟩ := hw
  replace hw := hw _ rfl
  refine z_iast (k1.toNatClampNeg) rfl hG.2.2.2.2.2.2.2.2.1 hc1 rfl ?_
  refine z_aload_n rfl rfl ?_
  refine z_getr (ci := 7) 5 rfl hG.1 rfl w_663 hG.2.2.2.2.2.2.2.1 ?_
  refine z_iload_n rfl rfl ?_
  obtain ⟨hc2, hw⟩ := hw
  refine z_iald (l2.toNatClampNeg) rfl hG.2.2.2.2.2.2.2.2.1 hc2 rfl ?_
  refine z_iconst 1 rfl rfl ?_
  refine z_icmp_ne rfl (fun hq => ?_) (fun hq => ?_)
  · replace hw := hw.1 hq
    refine z_iinc 1 [some (.ref 148), some (.int l1), some (.int (l2 + 1)), none, none] rfl rfl rfl rfl ?_
    refine z_goto rfl ?_
    refine Z.forget' [some (.ref 148), some (.int l1), some (.int (l2 + 1)), none, none] ⟨rfl, ⟨rfl, ⟨rfl, trivial⟩⟩⟩ ?_
    exact hK7 hw
  · replace hw := hw.2 hq
    refine z_aload_n rfl rfl ?_
    refine z_aload_n rfl rfl ?_
    refine z_geti (ci := 7) 7 rfl hG.1 rfl w_665 ?_
    replace hw := hw _ rfl
    refine z_puti (ci := 7) 9 rfl hG.1 rfl w_667 rfl rfl rfl ?_
    refine z_iconst 0 rfl rfl ?_
    refine z_istore [some (.ref 148), some (.int l1), some (.int l2), none, some (.int 0)] rfl rfl rfl ?_
    refine Z.forget' [some (.ref 148), some (.int l1), some (.int l2), none, some (.int 0)] ⟨rfl, ⟨rfl, ⟨rfl, ⟨rfl, trivial⟩⟩⟩⟩ ?_
    obtain ⟨n, hw⟩ := hw
    exact zr_goThrough_L88 hx hG @hK7 n hw
def r_goThrough_L7 (post : Mem → Prop)  : Nat → Mem → Int32 → Int32 → Prop
  | 0, _, _, _ => False
  | n + 1, S, l1, l2 =>
  (((S 148 1) ≤ l2) →
   post S) ∧
  ((¬ (S 148 1) ≤ l2) →
   (vp_in l2 24) ∧ (((if (S 151 l2.toNatClampNeg) = (if l2 = l1 then 1 else 0 : Int32) then 0 else 1 : Int32) = 0) →
    r_fits (fun r1 S1 =>
     ((r1 = 0) →
      r_goThrough_J66 post (r_goThrough_L7 post n) S1 l1 l2 l2 2) ∧
     ((¬ r1 = 0) →
      r_goThrough_J66 post (r_goThrough_L7 post n) S1 l1 l2 l2 1)) S l2) ∧
   ((¬ (if (S 151 l2.toNatClampNeg) = (if l2 = l1 then 1 else 0 : Int32) then 0 else 1 : Int32) = 0) →
    r_goThrough_J66 post (r_goThrough_L7 post n) S l1 l2 l2 0))
set_option maxRecDepth 100000 in
set_option maxHeartbeats 1000000 in
theorem zr_goThrough_L7 {g : Gm} {G : Gp} {post : Mem → Prop} (hx : G.2.2.2 = false) (hG : isR G) : ∀ (n : Nat) {S : Mem} {l1 : Int32} {l2 : Int32} , r_goThrough_L7 post n S l1 l2 → Z g M_r_goThrough 0 0 7 [some (.ref 148), some (.int l1), some (.int l2), none, none] [] (S, G) (Qv G post noEx) := by
  intro n
  induction n with
  | zero =>
    intros
    rename_i hw
    exact hw.elim
  | succ n ih =>
    intro S l1 l2 hw
    rw [r_goThrough_L7] at hw
    refine z_iload_n rfl rfl ?_
    refine z_aload_n rfl rfl ?_
    refine z_geti (ci := 7) 1 rfl hG.1 rfl w_659 ?_
    refine z_icmp_ge rfl (fun hq => ?_) (fun hq => ?_)
    · replace hw := hw.1 hq
      exact z_vret rfl rfl rfl rfl (Or.inl ⟨_, rfl, rfl, hw⟩)
    · replace hw := hw.2 hq
      refine z_aload_n rfl rfl ?_
      refine z_getr (ci := 7) 4 rfl hG.1 rfl w_662 hG.2.2.2.2.2.1 ?_
      refine z_iload_n rfl rfl ?_
      obtain ⟨hc1, hw⟩ := hw
      refine z_zald (l2.toNatClampNeg) rfl hG.2.2.2.2.2.2.1 hc1 rfl ?_
      refine z_iload_n rfl rfl ?_
      refine z_iload_n rfl rfl ?_
      have hj23 : ∀ v : Int32, v = (if l2 = l1 then 1 else 0 : Int32) → Z g M_r_goThrough 0 0 31 [some (.ref 148), some (.int l1), some (.int l2), none, none] [.int v, .int (S 151 l2.toNatClampNeg)] (S, G) (Qv G post noEx) := by
        intro v hv
        subst hv
        have hj31 : ∀ v : Int32, v = (if (S 151 l2.toNatClampNeg) = (if l2 = l1 then 1 else 0 : Int32) then 0 else 1 : Int32) → Z g M_r_goThrough 0 0 39 [some (.ref 148), some (.int l1), some (.int l2), none, none] [.int v] (S, G) (Qv G post noEx) := by
          intro v hv
          subst hv
          refine z_istore_n [some (.ref 148), some (.int l1), some (.int l2), some (.int (if (S 151 l2.toNatClampNeg) = (if l2 = l1 then 1 else 0 : Int32) then 0 else 1 : Int32)), none] rfl rfl rfl ?_
          refine z_aload_n rfl rfl ?_
          refine z_getr (ci := 7) 5 rfl hG.1 rfl w_663 hG.2.2.2.2.2.2.2.1 ?_
          refine z_iload_n rfl rfl ?_
          refine z_iload_n rfl rfl ?_
          refine z_if_eq rfl (fun hq => ?_) (fun hq => ?_)
          · replace hw := hw.1 hq
            refine z_aload_n rfl rfl ?_
            refine z_iload_n rfl rfl ?_
            refine z_cvi (M' := M_r_fits) [.int l2] hx rfl w_746 cv_r_fits hG.1 (by decide) rfl rfl rfl rfl (zr_fits hx hG hw) ?_ (fun _ _ hf => hf.elim)
            clear hw
            intro r1 S1 hw
            refine z_if_eq rfl (fun hq => ?_) (fun hq => ?_)
            · replace hw := hw.1 hq
              refine z_iconst 2 rfl rfl ?_
              refine Z.forget' [some (.ref 148), some (.int l1), some (.int l2), none, none] ⟨rfl, ⟨rfl, ⟨rfl, trivial⟩⟩⟩ ?_
              exact zr_goThrough_J66 hx hG (@ih) hw
            · replace hw := hw.2 hq
              refine z_iconst 1 rfl rfl ?_
              refine z_goto rfl ?_
              refine Z.forget' [some (.ref 148), some (.int l1), some (.int l2), none, none] ⟨rfl, ⟨rfl, ⟨rfl, trivial⟩⟩⟩ ?_
              exact zr_goThrough_J66 hx hG (@ih) hw
          · replace hw := hw.2 hq
            refine z_iconst 0 rfl rfl ?_
            refine z_goto rfl ?_
            refine Z.forget' [some (.ref 148), some (.int l1), some (.int l2), none, none] ⟨rfl, ⟨rfl, ⟨rfl, trivial⟩⟩⟩ ?_
            exact zr_goThrough_J66 hx hG (@ih) hw
        refine z_icmp_eq rfl (fun hp31 => ?_) (fun hp31 => ?_)
        · refine z_iconst 0 rfl rfl ?_
          exact hj31 _ (by rw [if_pos hp31])
        · refine z_iconst 1 rfl rfl ?_
          refine z_goto rfl ?_
          exact hj31 _ (by rw [if_neg hp31])
      refine z_icmp_ne rfl (fun hp23 => ?_) (fun hp23 => ?_)
      · refine z_iconst 0 rfl rfl ?_
        exact hj23 _ (by rw [if_neg hp23])
      · refine z_iconst 1 rfl rfl ?_
        refine z_goto rfl ?_
        exact hj23 _ (by rw [if_pos hp23])
def r_goThrough (post : Mem → Prop) (S : Mem) (l1 : Int32) : Prop :=
  ∀ S1, S1 = up2 S 148 7 0 → ∃ n, r_goThrough_L7 post n S1 l1 0
set_option maxRecDepth 100000 in
set_option maxHeartbeats 1000000 in
theorem zr_goThrough {g : Gm} {G : Gp} {S : Mem} {post : Mem → Prop} {l1 : Int32} (hx : G.2.2.2 = false) (hG : isR G) (hw : r_goThrough post S l1) : Z g M_r_goThrough 0 0 0 (entryL [.ref 148, .int l1] (mL M_r_goThrough)) [] (S, G) (Qv G post noEx) := by
  unfold r_goThrough at hw
  show Z g M_r_goThrough 0 0 0 [some (.ref 148), some (.int l1), none, none, none] [] (S, G) (Qv G post noEx)
  refine z_aload_n rfl rfl ?_
  refine z_iconst 0 rfl rfl ?_
  replace hw := hw _ rfl
  refine z_puti (ci := 7) 7 rfl hG.1 rfl w_665 rfl rfl rfl ?_
  refine z_iconst 0 rfl rfl ?_
  refine z_istore_n [some (.ref 148), some (.int l1), some (.int 0), none, none] rfl rfl rfl ?_
  refine Z.forget' [some (.ref 148), some (.int l1), some (.int 0), none, none] ⟨rfl, ⟨rfl, ⟨rfl, trivial⟩⟩⟩ ?_
  obtain ⟨n, hw⟩ := hw
  exact zr_goThrough_L7 hx hG n hw
def r_remember_L2 (post : Mem → Prop)  : Nat → Mem → Int32 → Prop
  | 0, _, _ => False
  | n + 1, S, l1 =>
  (((S 148 1) ≤ l1) →
   post S) ∧
  ((¬ (S 148 1) ≤ l1) →
   (vp_in l1 24) ∧ (vp_in l1 24) ∧ ∀ S1, S1 = up2 S 153 l1.toNatClampNeg (S 152 l1.toNatClampNeg) → r_remember_L2 post n S1 (l1 + 1))
set_option maxRecDepth 100000 in
set_option maxHeartbeats 1000000 in
theorem zr_remember_L2 {g : Gm} {G : Gp} {post : Mem → Prop} (hx : G.2.2.2 = false) (hG : isR G) : ∀ (n : Nat) {S : Mem} {l1 : Int32} , r_remember_L2 post n S l1 → Z g M_r_remember 0 0 2 [some (.ref 148), some (.int l1)] [] (S, G) (Qv G post noEx) := by
  intro n
  induction n with
  | zero =>
    intros
    rename_i hw
    exact hw.elim
  | succ n ih =>
    intro S l1 hw
    rw [r_remember_L2] at hw
    refine z_iload_n rfl rfl ?_
    refine z_aload_n rfl rfl ?_
    refine z_geti (ci := 7) 1 rfl hG.1 rfl w_659 ?_
    refine z_icmp_ge rfl (fun hq => ?_) (fun hq => ?_)
    · replace hw := hw.1 hq
      exact z_vret rfl rfl rfl rfl (Or.inl ⟨_, rfl, rfl, hw⟩)
    · replace hw := hw.2 hq
      refine z_aload_n rfl rfl ?_
      refine z_getr (ci := 7) 6 rfl hG.1 rfl w_664 hG.2.2.2.2.2.2.2.2.2.1 ?_
      refine z_iload_n rfl rfl ?_
      refine z_aload_n rfl rfl ?_
      refine z_getr (ci := 7) 5 rfl hG.1 rfl w_663 hG.2.2.2.2.2.2.2.1 ?_
      refine z_iload_n rfl rfl ?_
      obtain ⟨hc1, hw⟩ := hw
      refine z_iald (l1.toNatClampNeg) rfl hG.2.2.2.2.2.2.2.2.1 hc1 rfl ?_
      obtain ⟨hc2, hw⟩ := hw
      replace hw := hw _ rfl
      refine z_iast (l1.toNatClampNeg) rfl hG.2.2.2.2.2.2.2.2.2.2.1 hc2 rfl ?_
      refine z_iinc 1 [some (.ref 148), some (.int (l1 + 1))] rfl rfl rfl rfl ?_
      refine z_goto rfl ?_
      refine Z.forget' [some (.ref 148), some (.int (l1 + 1))] ⟨rfl, ⟨rfl, trivial⟩⟩ ?_
      exact ih hw
def r_remember (post : Mem → Prop) (S : Mem)  : Prop :=
  ∃ n, r_remember_L2 post n S 0
set_option maxRecDepth 100000 in
set_option maxHeartbeats 1000000 in
theorem zr_remember {g : Gm} {G : Gp} {S : Mem} {post : Mem → Prop}  (hx : G.2.2.2 = false) (hG : isR G) (hw : r_remember post S ) : Z g M_r_remember 0 0 0 (entryL [.ref 148] (mL M_r_remember)) [] (S, G) (Qv G post noEx) := by
  unfold r_remember at hw
  show Z g M_r_remember 0 0 0 [some (.ref 148), none] [] (S, G) (Qv G post noEx)
  refine z_iconst 0 rfl rfl ?_
  refine z_istore_n [some (.ref 148), some (.int 0)] rfl rfl rfl ?_
  refine Z.forget' [some (.ref 148), some (.int 0)] ⟨rfl, ⟨rfl, trivial⟩⟩ ?_
  obtain ⟨n, hw⟩ := hw
  exact zr_remember_L2 hx hG n hw
def r_others_L4 (post : Int32 → Mem → Prop)  : Nat → Mem → Int32 → Int32 → Int32 → Prop
  | 0, _, _, _, _ => False
  | n + 1, S, l1, l2, l3 =>
  (((S 148 1) ≤ l3) →
   post l2 S) ∧
  ((¬ (S 148 1) ≤ l3) →
   ((¬ l3 = l1 → (vp_in l3 24) ∧ (vp_in l3 24))) ∧ 
   r_others_L4 post n S l1 (if l3 = l1 then l2 else (if (S 152 l3.toNatClampNeg) = (S 153 l3.toNatClampNeg) then l2 else (l2 + 1) : Int32) : Int32) (l3 + 1))
set_option maxRecDepth 100000 in
set_option maxHeartbeats 1000000 in
theorem zr_others_L4 {g : Gm} {G : Gp} {post : Int32 → Mem → Prop} (hx : G.2.2.2 = false) (hG : isR G) : ∀ (n : Nat) {S : Mem} {l1 : Int32} {l2 : Int32} {l3 : Int32} , r_others_L4 post n S l1 l2 l3 → Z g M_r_others 0 0 4 [some (.ref 148), some (.int l1), some (.int l2), some (.int l3)] [] (S, G) (Qi G post noEx) := by
  intro n
  induction n with
  | zero =>
    intros
    rename_i hw
    exact hw.elim
  | succ n ih =>
    intro S l1 l2 l3 hw
    rw [r_others_L4] at hw
    refine z_iload_n rfl rfl ?_
    refine z_aload_n rfl rfl ?_
    refine z_geti (ci := 7) 1 rfl hG.1 rfl w_659 ?_
    refine z_icmp_ge rfl (fun hq => ?_) (fun hq => ?_)
    · replace hw := hw.1 hq
      refine z_iload_n rfl rfl ?_
      exact z_iret rfl rfl rfl rfl (Or.inl ⟨_, _, rfl, rfl, hw⟩)
    · replace hw := hw.2 hq
      refine z_iload_n rfl rfl ?_
      refine z_iload_n rfl rfl ?_
      obtain ⟨hc1, hw⟩ := hw
      have hj14 : ∀ v : Int32, v = (if l3 = l1 then l2 else (if (S 152 l3.toNatClampNeg) = (S 153 l3.toNatClampNeg) then l2 else (l2 + 1) : Int32) : Int32) → Z g M_r_others 0 0 39 [some (.ref 148), some (.int l1), some (.int l2), some (.int l3)] [.int v] (S, G) (Qi G post noEx) := by
        intro v hv
        subst hv
        refine z_istore_n [some (.ref 148), some (.int l1), some (.int (if l3 = l1 then l2 else (if (S 152 l3.toNatClampNeg) = (S 153 l3.toNatClampNeg) then l2 else (l2 + 1) : Int32) : Int32)), some (.int l3)] rfl rfl rfl ?_
        refine z_iinc 1 [some (.ref 148), some (.int l1), some (.int (if l3 = l1 then l2 else (if (S 152 l3.toNatClampNeg) = (S 153 l3.toNatClampNeg) then l2 else (l2 + 1) : Int32) : Int32)), some (.int (l3 + 1))] rfl rfl rfl rfl ?_
        refine z_goto rfl ?_
        refine Z.forget' [some (.ref 148), some (.int l1), some (.int (if l3 = l1 then l2 else (if (S 152 l3.toNatClampNeg) = (S 153 l3.toNatClampNeg) then l2 else (l2 + 1) : Int32) : Int32)), some (.int (l3 + 1))] ⟨rfl, ⟨rfl, ⟨rfl, ⟨rfl, trivial⟩⟩⟩⟩ ?_
        exact ih hw
      refine z_icmp_eq rfl (fun hp14 => ?_) (fun hp14 => ?_)
      · refine z_iload_n rfl rfl ?_
        exact hj14 _ (by rw [if_pos hp14])
      · refine z_aload_n rfl rfl ?_
        refine z_getr (ci := 7) 5 rfl hG.1 rfl w_663 hG.2.2.2.2.2.2.2.1 ?_
        refine z_iload_n rfl rfl ?_
        refine z_iald (l3.toNatClampNeg) rfl hG.2.2.2.2.2.2.2.2.1 (hc1 hp14).1 rfl ?_
        refine z_aload_n rfl rfl ?_
        refine z_getr (ci := 7) 6 rfl hG.1 rfl w_664 hG.2.2.2.2.2.2.2.2.2.1 ?_
        refine z_iload_n rfl rfl ?_
        refine z_iald (l3.toNatClampNeg) rfl hG.2.2.2.2.2.2.2.2.2.2.1 (hc1 hp14).2 rfl ?_
        refine z_icmp_eq rfl (fun hp29 => ?_) (fun hp29 => ?_)
        · refine z_iload_n rfl rfl ?_
          exact hj14 _ (by rw [if_neg hp14, if_pos hp29])
        · refine z_iload_n rfl rfl ?_
          refine z_iconst 1 rfl rfl ?_
          refine z_iadd rfl ?_
          refine z_goto rfl ?_
          exact hj14 _ (by rw [if_neg hp14, if_neg hp29])
def r_others (post : Int32 → Mem → Prop) (S : Mem) (l1 : Int32) : Prop :=
  ∃ n, r_others_L4 post n S l1 0 0
set_option maxRecDepth 100000 in
set_option maxHeartbeats 1000000 in
theorem zr_others {g : Gm} {G : Gp} {S : Mem} {post : Int32 → Mem → Prop} {l1 : Int32} (hx : G.2.2.2 = false) (hG : isR G) (hw : r_others post S l1) : Z g M_r_others 0 0 0 (entryL [.ref 148, .int l1] (mL M_r_others)) [] (S, G) (Qi G post noEx) := by
  unfold r_others at hw
  show Z g M_r_others 0 0 0 [some (.ref 148), some (.int l1), none, none] [] (S, G) (Qi G post noEx)
  refine z_iconst 0 rfl rfl ?_
  refine z_istore_n [some (.ref 148), some (.int l1), some (.int 0), none] rfl rfl rfl ?_
  refine z_iconst 0 rfl rfl ?_
  refine z_istore_n [some (.ref 148), some (.int l1), some (.int 0), some (.int 0)] rfl rfl rfl ?_
  refine Z.forget' [some (.ref 148), some (.int l1), some (.int 0), some (.int 0)] ⟨rfl, ⟨rfl, ⟨rfl, ⟨rfl, trivial⟩⟩⟩⟩ ?_
  obtain ⟨n, hw⟩ := hw
  exact zr_others_L4 hx hG n hw
def r_argumentsOf (post : Int32 → Mem → Prop) (S : Mem) (l0 : Int32) : Prop :=
  post (if l0 = 0 then 4 else (if l0 = 1 then 1 else (if l0 = 7 then 1 else (if l0 = 4 then 2 else (if l0 = 5 then 2 else (if l0 = 6 then 2 else 3 : Int32) : Int32) : Int32) : Int32) : Int32) : Int32) S
set_option maxRecDepth 100000 in
set_option maxHeartbeats 1000000 in
theorem zr_argumentsOf {g : Gm} {G : Gp} {S : Mem} {post : Int32 → Mem → Prop} {l0 : Int32} (hx : G.2.2.2 = false) (hG : isR G) (hw : r_argumentsOf post S l0) : Z g M_r_argumentsOf 0 0 0 (entryL [.int l0] (mL M_r_argumentsOf)) [] (S, G) (Qi G post noEx) := by
  unfold r_argumentsOf at hw
  show Z g M_r_argumentsOf 0 0 0 [some (.int l0)] [] (S, G) (Qi G post noEx)
  refine z_iload_n rfl rfl ?_
  have hj1 : ∀ v : Int32, v = (if l0 = 0 then 4 else (if l0 = 1 then 1 else (if l0 = 7 then 1 else (if l0 = 4 then 2 else (if l0 = 5 then 2 else (if l0 = 6 then 2 else 3 : Int32) : Int32) : Int32) : Int32) : Int32) : Int32) → Z g M_r_argumentsOf 0 0 44 [some (.int l0)] [.int v] (S, G) (Qi G post noEx) := by
    intro v hv
    subst hv
    exact z_iret rfl rfl rfl rfl (Or.inl ⟨_, _, rfl, rfl, hw⟩)
  refine z_if_ne rfl (fun hp1 => ?_) (fun hp1 => ?_)
  · refine z_iload_n rfl rfl ?_
    refine z_iconst 1 rfl rfl ?_
    refine z_icmp_eq rfl (fun hp10 => ?_) (fun hp10 => ?_)
    · refine z_iconst 1 rfl rfl ?_
      refine z_goto rfl ?_
      exact hj1 _ (by rw [if_neg hp1, if_pos hp10])
    · refine z_iload_n rfl rfl ?_
      refine z_bipush 7 rfl rfl ?_
      refine z_icmp_ne rfl (fun hp16 => ?_) (fun hp16 => ?_)
      · refine z_iload_n rfl rfl ?_
        refine z_iconst 4 rfl rfl ?_
        refine z_icmp_eq rfl (fun hp25 => ?_) (fun hp25 => ?_)
        · refine z_iconst 2 rfl rfl ?_
          refine z_goto rfl ?_
          exact hj1 _ (by rw [if_neg hp1, if_neg hp10, if_neg hp16, if_pos hp25])
        · refine z_iload_n rfl rfl ?_
          refine z_iconst 5 rfl rfl ?_
          refine z_icmp_eq rfl (fun hp30 => ?_) (fun hp30 => ?_)
          · refine z_iconst 2 rfl rfl ?_
            refine z_goto rfl ?_
            exact hj1 _ (by rw [if_neg hp1, if_neg hp10, if_neg hp16, if_neg hp25, if_pos hp30])
          · refine z_iload_n rfl rfl ?_
            refine z_bipush 6 rfl rfl ?_
            refine z_icmp_ne rfl (fun hp36 => ?_) (fun hp36 => ?_)
            · refine z_iconst 3 rfl rfl ?_
              exact hj1 _ (by rw [if_neg hp1, if_neg hp10, if_neg hp16, if_neg hp25, if_neg hp30, if_neg hp36])
            · refine z_iconst 2 rfl rfl ?_
              refine z_goto rfl ?_
              exact hj1 _ (by rw [if_neg hp1, if_neg hp10, if_neg hp16, if_neg hp25, if_neg hp30, if_pos hp36])
      · refine z_iconst 1 rfl rfl ?_
        refine z_goto rfl ?_
        exact hj1 _ (by rw [if_neg hp1, if_neg hp10, if_pos hp16])
  · refine z_iconst 4 rfl rfl ?_
    refine z_goto rfl ?_
    exact hj1 _ (by rw [if_pos hp1])
def r_isBetween (post : Int32 → Mem → Prop) (S : Mem) (l0 : Int32) (l1 : Int32) (l2 : Int32) : Prop :=
  vp_nar .boolean (if l0 < l1 then 0 else (if l2 < l0 then 0 else 1 : Int32) : Int32) = (if l0 < l1 then 0 else (if l2 < l0 then 0 else 1 : Int32) : Int32) ∧ post (if l0 < l1 then 0 else (if l2 < l0 then 0 else 1 : Int32) : Int32) S
set_option maxRecDepth 100000 in
set_option maxHeartbeats 1000000 in
theorem zr_isBetween {g : Gm} {G : Gp} {S : Mem} {post : Int32 → Mem → Prop} {l0 : Int32} {l1 : Int32} {l2 : Int32} (hx : G.2.2.2 = false) (hG : isR G) (hw : r_isBetween post S l0 l1 l2) : Z g M_r_isBetween 0 0 0 (entryL [.int l0, .int l1, .int l2] (mL M_r_isBetween)) [] (S, G) (Qi G post noEx) := by
  unfold r_isBetween at hw
  show Z g M_r_isBetween 0 0 0 [some (.int l0), some (.int l1), some (.int l2)] [] (S, G) (Qi G post noEx)
  refine z_iload_n rfl rfl ?_
  refine z_iload_n rfl rfl ?_
  have hj2 : ∀ v : Int32, v = (if l0 < l1 then 0 else (if l2 < l0 then 0 else 1 : Int32) : Int32) → Z g M_r_isBetween 0 0 15 [some (.int l0), some (.int l1), some (.int l2)] [.int v] (S, G) (Qi G post noEx) := by
    intro v hv
    subst hv
    obtain ⟨hc1, hw⟩ := hw
    exact z_zret rfl rfl (nar_of hc1) rfl rfl (Or.inl ⟨_, _, rfl, rfl, hw⟩)
  refine z_icmp_lt rfl (fun hp2 => ?_) (fun hp2 => ?_)
  · refine z_iconst 0 rfl rfl ?_
    exact hj2 _ (by rw [if_pos hp2])
  · refine z_iload_n rfl rfl ?_
    refine z_iload_n rfl rfl ?_
    refine z_icmp_gt rfl (fun hp7 => ?_) (fun hp7 => ?_)
    · refine z_iconst 0 rfl rfl ?_
      exact hj2 _ (by rw [if_neg hp2, if_pos hp7])
    · refine z_iconst 1 rfl rfl ?_
      refine z_goto rfl ?_
      exact hj2 _ (by rw [if_neg hp2, if_neg hp7])
def r_isArgument_J94 (post : Int32 → Mem → Prop)  (S : Mem) (l2 : Int32) : Prop :=
  r_isBetween (fun r1 S1 =>
   vp_nar .boolean r1 = r1 ∧ post r1 S1) S l2 0 23
set_option maxRecDepth 100000 in
set_option maxHeartbeats 1000000 in
theorem zr_isArgument_J94 {g : Gm} {G : Gp} {post : Int32 → Mem → Prop} (hx : G.2.2.2 = false) (hG : isR G) {S : Mem} {l2 : Int32}  (hw : r_isArgument_J94 post S l2) : Z g M_r_isArgument 0 0 94 [none, none, some (.int l2)] [] (S, G) (Qi G post noEx) := by
  unfold r_isArgument_J94 at hw
  refine z_iload_n rfl rfl ?_
  refine z_iconst 0 rfl rfl ?_
  refine z_bipush 23 rfl rfl ?_
  refine z_csi (M' := M_r_isBetween) [.int l2, .int 0, .int 23] hx rfl w_731 cs_r_isBetween rfl rfl rfl (zr_isBetween hx hG hw) ?_ (fun _ _ hf => hf.elim)
  clear hw
  intro r1 S1 hw
  obtain ⟨hc1, hw⟩ := hw
  exact z_zret rfl rfl (nar_of hc1) rfl rfl (Or.inl ⟨_, _, rfl, rfl, hw⟩)
def r_isArgument_J102 (post : Int32 → Mem → Prop)  (S : Mem) (l0 : Int32) (l2 : Int32) : Prop :=
  (l0 = 3 → r_isBetween (fun r1 S1 =>
    vp_nar .boolean r1 = r1 ∧ post r1 S1) S l2 1 9) ∧
  (l0 = 4 → r_isBetween (fun r2 S2 =>
    vp_nar .boolean r2 = r2 ∧ post r2 S2) S l2 0 7) ∧
  (l0 = 5 → r_isBetween (fun r3 S3 =>
    vp_nar .boolean r3 = r3 ∧ post r3 S3) S l2 0 1) ∧
  (l0 = 6 → r_isBetween (fun r4 S4 =>
    vp_nar .boolean r4 = r4 ∧ post r4 S4) S l2 (-200) 200) ∧
  (l0 = 7 → r_isBetween (fun r5 S5 =>
    vp_nar .boolean r5 = r5 ∧ post r5 S5) S l2 (-200) 200) ∧
  (l0 = 8 → r_isBetween (fun r6 S6 =>
    vp_nar .boolean r6 = r6 ∧ post r6 S6) S l2 (-200) 200) ∧
  (l0 = 9 → r_isBetween (fun r7 S7 =>
    vp_nar .boolean r7 = r7 ∧ post r7 S7) S l2 0 3) ∧
  ((l0.toInt < 3 ∨ 9 < l0.toInt) → r_isBetween (fun r8 S8 =>
    vp_nar .boolean r8 = r8 ∧ post r8 S8) S l2 (-200) 200)
set_option maxRecDepth 100000 in
set_option maxHeartbeats 1000000 in
theorem zr_isArgument_J102 {g : Gm} {G : Gp} {post : Int32 → Mem → Prop} (hx : G.2.2.2 = false) (hG : isR G) {S : Mem} {l0 : Int32} {l2 : Int32}  (hw : r_isArgument_J102 post S l0 l2) : Z g M_r_isArgument 0 0 102 [some (.int l0), none, some (.int l2)] [] (S, G) (Qi G post noEx) := by
  unfold r_isArgument_J102 at hw
  refine z_iload_n rfl rfl ?_
  by_cases hr : l0.toInt < 3 ∨ 9 < l0.toInt
  · refine z_switch 174 rfl (sw_out hr rfl) ?_
    replace hw := hw.2.2.2.2.2.2.2 hr
    refine z_iload_n rfl rfl ?_
    refine z_sipush (-200) rfl rfl ?_
    refine z_sipush 200 rfl rfl ?_
    refine z_csi (M' := M_r_isBetween) [.int l2, .int (-200), .int 200] hx rfl w_731 cs_r_isBetween rfl rfl rfl (zr_isBetween hx hG hw) ?_ (fun _ _ hf => hf.elim)
    clear hw
    intro r8 S8 hw
    obtain ⟨hc8, hw⟩ := hw
    exact z_zret rfl rfl (nar_of hc8) rfl rfl (Or.inl ⟨_, _, rfl, rfl, hw⟩)
  · rcases sw_3_9 hr with hq | hq | hq | hq | hq | hq | hq
    · replace hw := hw.1 hq
      refine z_switch 144 rfl (sw_eq hq rfl) ?_
      refine z_iload_n rfl rfl ?_
      refine z_iconst 1 rfl rfl ?_
      refine z_bipush 9 rfl rfl ?_
      refine z_csi (M' := M_r_isBetween) [.int l2, .int 1, .int 9] hx rfl w_731 cs_r_isBetween rfl rfl rfl (zr_isBetween hx hG hw) ?_ (fun _ _ hf => hf.elim)
      clear hw
      intro r1 S1 hw
      obtain ⟨hc1, hw⟩ := hw
      exact z_zret rfl rfl (nar_of hc1) rfl rfl (Or.inl ⟨_, _, rfl, rfl, hw⟩)
    · replace hw := hw.2.1 hq
      refine z_switch 152 rfl (sw_eq hq rfl) ?_
      refine z_iload_n rfl rfl ?_
      refine z_iconst 0 rfl rfl ?_
      refine z_bipush 7 rfl rfl ?_
      refine z_csi (M' := M_r_isBetween) [.int l2, .int 0, .int 7] hx rfl w_731 cs_r_isBetween rfl rfl rfl (zr_isBetween hx hG hw) ?_ (fun _ _ hf => hf.elim)
      clear hw
      intro r2 S2 hw
      obtain ⟨hc2, hw⟩ := hw
      exact z_zret rfl rfl (nar_of hc2) rfl rfl (Or.inl ⟨_, _, rfl, rfl, hw⟩)
    · replace hw := hw.2.2.1 hq
      refine z_switch 160 rfl (sw_eq hq rfl) ?_
      refine z_iload_n rfl rfl ?_
      refine z_iconst 0 rfl rfl ?_
      refine z_iconst 1 rfl rfl ?_
      refine z_csi (M' := M_r_isBetween) [.int l2, .int 0, .int 1] hx rfl w_731 cs_r_isBetween rfl rfl rfl (zr_isBetween hx hG hw) ?_ (fun _ _ hf => hf.elim)
      clear hw
      intro r3 S3 hw
      obtain ⟨hc3, hw⟩ := hw
      exact z_zret rfl rfl (nar_of hc3) rfl rfl (Or.inl ⟨_, _, rfl, rfl, hw⟩)
    · replace hw := hw.2.2.2.1 hq
      refine z_switch 174 rfl (sw_eq hq rfl) ?_
      refine z_iload_n rfl rfl ?_
      refine z_sipush (-200) rfl rfl ?_
      refine z_sipush 200 rfl rfl ?_
      refine z_csi (M' := M_r_isBetween) [.int l2, .int (-200), .int 200] hx rfl w_731 cs_r_isBetween rfl rfl rfl (zr_isBetween hx hG hw) ?_ (fun _ _ hf => hf.elim)
      clear hw
      intro r4 S4 hw
      obtain ⟨hc4, hw⟩ := hw
      exact z_zret rfl rfl (nar_of hc4) rfl rfl (Or.inl ⟨_, _, rfl, rfl, hw⟩)
    · replace hw := hw.2.2.2.2.1 hq
      refine z_switch 174 rfl (sw_eq hq rfl) ?_
      refine z_iload_n rfl rfl ?_
      refine z_sipush (-200) rfl rfl ?_
      refine z_sipush 200 rfl rfl ?_
      refine z_csi (M' := M_r_isBetween) [.int l2, .int (-200), .int 200] hx rfl w_731 cs_r_isBetween rfl rfl rfl (zr_isBetween hx hG hw) ?_ (fun _ _ hf => hf.elim)
      clear hw
      intro r5 S5 hw
      obtain ⟨hc5, hw⟩ := hw
      exact z_zret rfl rfl (nar_of hc5) rfl rfl (Or.inl ⟨_, _, rfl, rfl, hw⟩)
    · replace hw := hw.2.2.2.2.2.1 hq
      refine z_switch 174 rfl (sw_eq hq rfl) ?_
      refine z_iload_n rfl rfl ?_
      refine z_sipush (-200) rfl rfl ?_
      refine z_sipush 200 rfl rfl ?_
      refine z_csi (M' := M_r_isBetween) [.int l2, .int (-200), .int 200] hx rfl w_731 cs_r_isBetween rfl rfl rfl (zr_isBetween hx hG hw) ?_ (fun _ _ hf => hf.elim)
      clear hw
      intro r6 S6 hw
      obtain ⟨hc6, hw⟩ := hw
      exact z_zret rfl rfl (nar_of hc6) rfl rfl (Or.inl ⟨_, _, rfl, rfl, hw⟩)
    · replace hw := hw.2.2.2.2.2.2.1 hq
      refine z_switch 167 rfl (sw_eq hq rfl) ?_
      refine z_iload_n rfl rfl ?_
      refine z_iconst 0 rfl rfl ?_
      refine z_iconst 3 rfl rfl ?_
      refine z_csi (M' := M_r_isBetween) [.int l2, .int 0, .int 3] hx rfl w_731 cs_r_isBetween rfl rfl rfl (zr_isBetween hx hG hw) ?_ (fun _ _ hf => hf.elim)
      clear hw
      intro r7 S7 hw
      obtain ⟨hc7, hw⟩ := hw
      exact z_zret rfl rfl (nar_of hc7) rfl rfl (Or.inl ⟨_, _, rfl, rfl, hw⟩)
def r_isArgument (post : Int32 → Mem → Prop) (S : Mem) (l0 : Int32) (l1 : Int32) (l2 : Int32) : Prop :=
  ((¬ l0 = 0) →
   ((l1 = 0) →
    r_isArgument_J94 post S l2) ∧
   ((¬ l1 = 0) →
    ((¬ l1 = 1) →
     r_isArgument_J102 post S l0 l2) ∧
    ((l1 = 1) →
     ((l0 = 6) →
      r_isArgument_J94 post S l2) ∧
     ((¬ l0 = 6) →
      ((¬ l0 = 9) →
       r_isArgument_J102 post S l0 l2) ∧
      ((l0 = 9) →
       r_isArgument_J94 post S l2))))) ∧
  ((l0 = 0) →
   ((¬ l1 = 0) →
    ((3 ≤ l1) →
     ((l2 < 0) →
      post 0 S) ∧
     ((¬ l2 < 0) →
      r_isBetween (fun r1 S1 =>
       ((r1 = 0) →
        post 0 S1) ∧
       ((¬ r1 = 0) →
        r_isBetween (fun r2 S2 =>
         ((r2 = 0) →
          post 0 S2) ∧
         ((¬ r2 = 0) →
          post 1 S2)) S1 (l2 / 128) 1 100)) S (l2 - l2 / 128 * 128) 1 100)) ∧
    ((¬ 3 ≤ l1) →
     r_isBetween (fun r3 S3 =>
      vp_nar .boolean r3 = r3 ∧ post r3 S3) S l2 (-200) 200)) ∧
   ((l1 = 0) →
    r_isBetween (fun r4 S4 =>
     vp_nar .boolean r4 = r4 ∧ post r4 S4) S l2 0 2))
set_option maxRecDepth 100000 in
set_option maxHeartbeats 1000000 in
theorem zr_isArgument {g : Gm} {G : Gp} {S : Mem} {post : Int32 → Mem → Prop} {l0 : Int32} {l1 : Int32} {l2 : Int32} (hx : G.2.2.2 = false) (hG : isR G) (hw : r_isArgument post S l0 l1 l2) : Z g M_r_isArgument 0 0 0 (entryL [.int l0, .int l1, .int l2] (mL M_r_isArgument)) [] (S, G) (Qi G post noEx) := by
  unfold r_isArgument at hw
  show Z g M_r_isArgument 0 0 0 [some (.int l0), some (.int l1), some (.int l2)] [] (S, G) (Qi G post noEx)
  refine z_iload_n rfl rfl ?_
  refine z_if_ne rfl (fun hq => ?_) (fun hq => ?_)
  · replace hw := hw.1 hq
    refine z_iload_n rfl rfl ?_
    refine z_if_eq rfl (fun hq => ?_) (fun hq => ?_)
    · replace hw := hw.1 hq
      refine Z.forget' [none, none, some (.int l2)] ⟨rfl, trivial⟩ ?_
      exact zr_isArgument_J94 hx hG hw
    · replace hw := hw.2 hq
      refine z_iload_n rfl rfl ?_
      refine z_iconst 1 rfl rfl ?_
      refine z_icmp_ne rfl (fun hq => ?_) (fun hq => ?_)
      · replace hw := hw.1 hq
        refine Z.forget' [some (.int l0), none, some (.int l2)] ⟨rfl, ⟨rfl, trivial⟩⟩ ?_
        exact zr_isArgument_J102 hx hG hw
      · replace hw := hw.2 hq
        refine z_iload_n rfl rfl ?_
        refine z_bipush 6 rfl rfl ?_
        refine z_icmp_eq rfl (fun hq => ?_) (fun hq => ?_)
        · replace hw := hw.1 hq
          refine Z.forget' [none, none, some (.int l2)] ⟨rfl, trivial⟩ ?_
          exact zr_isArgument_J94 hx hG hw
        · replace hw := hw.2 hq
          refine z_iload_n rfl rfl ?_
          refine z_bipush 9 rfl rfl ?_
          refine z_icmp_ne rfl (fun hq => ?_) (fun hq => ?_)
          · replace hw := hw.1 hq
            refine Z.forget' [some (.int l0), none, some (.int l2)] ⟨rfl, ⟨rfl, trivial⟩⟩ ?_
            exact zr_isArgument_J102 hx hG hw
          · replace hw := hw.2 hq
            refine Z.forget' [none, none, some (.int l2)] ⟨rfl, trivial⟩ ?_
            exact zr_isArgument_J94 hx hG hw
  · replace hw := hw.2 hq
    refine z_iload_n rfl rfl ?_
    refine z_if_ne rfl (fun hq => ?_) (fun hq => ?_)
    · replace hw := hw.1 hq
      refine z_iload_n rfl rfl ?_
      refine z_iconst 3 rfl rfl ?_
      refine z_icmp_ge rfl (fun hq => ?_) (fun hq => ?_)
      · replace hw := hw.1 hq
        refine z_iload_n rfl rfl ?_
        refine z_if_lt rfl (fun hq => ?_) (fun hq => ?_)
        · replace hw := hw.1 hq
          refine z_iconst 0 rfl rfl ?_
          exact z_zret rfl rfl (by decide) rfl rfl (Or.inl ⟨_, _, rfl, rfl, hw⟩)
        · replace hw := hw.2 hq
          refine z_iload_n rfl rfl ?_
          refine z_sipush 128 rfl rfl ?_
          refine z_irem rfl (by decide) ?_
          refine z_iconst 1 rfl rfl ?_
          refine z_bipush 100 rfl rfl ?_
          refine z_csi (M' := M_r_isBetween) [.int (l2 - l2 / 128 * 128), .int 1, .int 100] hx rfl w_731 cs_r_isBetween rfl rfl rfl (zr_isBetween hx hG hw) ?_ (fun _ _ hf => hf.elim)
          clear hw
          intro r1 S1 hw
          refine z_if_eq rfl (fun hq => ?_) (fun hq => ?_)
          · replace hw := hw.1 hq
            refine z_iconst 0 rfl rfl ?_
            exact z_zret rfl rfl (by decide) rfl rfl (Or.inl ⟨_, _, rfl, rfl, hw⟩)
          · replace hw := hw.2 hq
            refine z_iload_n rfl rfl ?_
            refine z_sipush 128 rfl rfl ?_
            refine z_idiv rfl (by decide) ?_
            refine z_iconst 1 rfl rfl ?_
            refine z_bipush 100 rfl rfl ?_
            refine z_csi (M' := M_r_isBetween) [.int (l2 / 128), .int 1, .int 100] hx rfl w_731 cs_r_isBetween rfl rfl rfl (zr_isBetween hx hG hw) ?_ (fun _ _ hf => hf.elim)
            clear hw
            intro r2 S2 hw
            refine z_if_eq rfl (fun hq => ?_) (fun hq => ?_)
            · replace hw := hw.1 hq
              refine z_iconst 0 rfl rfl ?_
              exact z_zret rfl rfl (by decide) rfl rfl (Or.inl ⟨_, _, rfl, rfl, hw⟩)
            · replace hw := hw.2 hq
              refine z_iconst 1 rfl rfl ?_
              refine z_goto rfl ?_
              exact z_zret rfl rfl (by decide) rfl rfl (Or.inl ⟨_, _, rfl, rfl, hw⟩)
      · replace hw := hw.2 hq
        refine z_iload_n rfl rfl ?_
        refine z_sipush (-200) rfl rfl ?_
        refine z_sipush 200 rfl rfl ?_
        refine z_csi (M' := M_r_isBetween) [.int l2, .int (-200), .int 200] hx rfl w_731 cs_r_isBetween rfl rfl rfl (zr_isBetween hx hG hw) ?_ (fun _ _ hf => hf.elim)
        clear hw
        intro r3 S3 hw
        refine z_goto rfl ?_
        obtain ⟨hc1, hw⟩ := hw
        exact z_zret rfl rfl (nar_of hc1) rfl rfl (Or.inl ⟨_, _, rfl, rfl, hw⟩)
    · replace hw := hw.2 hq
      refine z_iload_n rfl rfl ?_
      refine z_iconst 0 rfl rfl ?_
      refine z_iconst 2 rfl rfl ?_
      refine z_csi (M' := M_r_isBetween) [.int l2, .int 0, .int 2] hx rfl w_731 cs_r_isBetween rfl rfl rfl (zr_isBetween hx hG hw) ?_ (fun _ _ hf => hf.elim)
      clear hw
      intro r4 S4 hw
      refine z_goto rfl ?_
      obtain ⟨hc2, hw⟩ := hw
      exact z_zret rfl rfl (nar_of hc2) rfl rfl (Or.inl ⟨_, _, rfl, rfl, hw⟩)
def r_note_J52 (post : Mem → Prop)  (S : Mem) (l1 : Int32) (l2 : Int32) (l3 : Int32) (l4 : Int32) (l5 : Int32) : Prop :=
  (vp_in (5 * (S 148 18)) 160) ∧ ∀ S1, S1 = up2 S 157 (5 * (S 148 18)).toNatClampNeg l1 → (vp_in ((5 * (S1 148 18)) + 1) 160) ∧ ∀ S2, S2 = up2 S1 157 ((5 * (S1 148 18)) + 1).toNatClampNeg l2 → (vp_in ((5 * (S2 148 18)) + 2) 160) ∧ ∀ S3, S3 = up2 S2 157 ((5 * (S2 148 18)) + 2).toNatClampNeg l3 → (vp_in ((5 * (S3 148 18)) + 3) 160) ∧ ∀ S4, S4 = up2 S3 157 ((5 * (S3 148 18)) + 3).toNatClampNeg l4 → (vp_in ((5 * (S4 148 18)) + 4) 160) ∧ ∀ S5, S5 = up2 S4 157 ((5 * (S4 148 18)) + 4).toNatClampNeg l5 → ∀ S6, S6 = up2 S5 148 18 ((S5 148 18) + 1) → ∀ S7, S7 = up2 S6 148 17 (S6 148 18) → post S7
set_option maxRecDepth 100000 in
set_option maxHeartbeats 1000000 in
theorem zr_note_J52 {g : Gm} {G : Gp} {post : Mem → Prop} (hx : G.2.2.2 = false) (hG : isR G) {S : Mem} {l1 : Int32} {l2 : Int32} {l3 : Int32} {l4 : Int32} {l5 : Int32}  (hw : r_note_J52 post S l1 l2 l3 l4 l5) : Z g M_r_note 0 0 52 [some (.ref 148), some (.int l1), some (.int l2), some (.int l3), some (.int l4), some (.int l5), none] [] (S, G) (Qv G post noEx) := by
  unfold r_note_J52 at hw
  refine z_aload_n rfl rfl ?_
  refine z_getr (ci := 7) 16 rfl hG.1 rfl w_674 hG.2.2.2.2.2.2.2.2.2.2.2.2.2.2.2.2.2.1 ?_
  refine z_iconst 5 rfl rfl ?_
  refine z_aload_n rfl rfl ?_
  refine z_geti (ci := 7) 18 rfl hG.1 rfl w_676 ?_
  refine z_imul rfl ?_
  refine z_iload_n rfl rfl ?_
  obtain ⟨hc1, hw⟩ := hw
  replace hw := hw _ rfl
  refine z_iast ((5 * (S 148 18)).toNatClampNeg) rfl hG.2.2.2.2.2.2.2.2.2.2.2.2.2.2.2.2.2.2 hc1 rfl ?_
  refine z_aload_n rfl rfl ?_
  refine z_getr (ci := 7) 16 rfl hG.1 rfl w_674 hG.2.2.2.2.2.2.2.2.2.2.2.2.2.2.2.2.2.1 ?_
  refine z_iconst 5 rfl rfl ?_
  refine z_aload_n rfl rfl ?_
  refine z_geti (ci := 7) 18 rfl hG.1 rfl w_676 ?_
  refine z_imul rfl ?_
  refine z_iconst 1 rfl rfl ?_
  refine z_iadd rfl ?_
  refine z_iload_n rfl rfl ?_
  obtain ⟨hc2, hw⟩ := hw
  replace hw := hw _ rfl
  refine z_iast (((5 * ((up2 S 157 (5 * (S 148 18)).toNatClampNeg l1) 148 18)) + 1).toNatClampNeg) rfl hG.2.2.2.2.2.2.2.2.2.2.2.2.2.2.2.2.2.2 hc2 rfl ?_
  refine z_aload_n rfl rfl ?_
  refine z_getr (ci := 7) 16 rfl hG.1 rfl w_674 hG.2.2.2.2.2.2.2.2.2.2.2.2.2.2.2.2.2.1 ?_
  refine z_iconst 5 rfl rfl ?_
  refine z_aload_n rfl rfl ?_
  refine z_geti (ci := 7) 18 rfl hG.1 rfl w_676 ?_
  refine z_imul rfl ?_
  refine z_iconst 2 rfl rfl ?_
  refine z_iadd rfl ?_
  refine z_iload_n rfl rfl ?_
  obtain ⟨hc3, hw⟩ := hw
  replace hw := hw _ rfl
  refine z_iast (((5 * ((up2 (up2 S 157 (5 * (S 148 18)).toNatClampNeg l1) 157 ((5 * ((up2 S 157 (5 * (S 148 18)).toNatClampNeg l1) 148 18)) + 1).toNatClampNeg l2) 148 18)) + 2).toNatClampNeg) rfl hG.2.2.2.2.2.2.2.2.2.2.2.2.2.2.2.2.2.2 hc3 rfl ?_
  refine z_aload_n rfl rfl ?_
  refine z_getr (ci := 7) 16 rfl hG.1 rfl w_674 hG.2.2.2.2.2.2.2.2.2.2.2.2.2.2.2.2.2.1 ?_
  refine z_iconst 5 rfl rfl ?_
  refine z_aload_n rfl rfl ?_
  refine z_geti (ci := 7) 18 rfl hG.1 rfl w_676 ?_
  refine z_imul rfl ?_
  refine z_iconst 3 rfl rfl ?_
  refine z_iadd rfl ?_
  refine z_iload rfl rfl ?_
  obtain ⟨hc4, hw⟩ := hw
  replace hw := hw _ rfl
  refine z_iast (((5 * ((up2 (up2 (up2 S 157 (5 * (S 148 18)).toNatClampNeg l1) 157 ((5 * ((up2 S 157 (5 * (S 148 18)).toNatClampNeg l1) 148 18)) + 1).toNatClampNeg l2) 157 ((5 * ((up2 (up2 S 157 (5 * (S 148 18)).toNatClampNeg l1) 157 ((5 * ((up2 S 157 (5 * (S 148 18)).toNatClampNeg l1) 148 18)) + 1).toNatClampNeg l2) 148 18)) + 2).toNatClampNeg l3) 148 18)) + 3).toNatClampNeg) rfl hG.2.2.2.2.2.2.2.2.2.2.2.2.2.2.2.2.2.2 hc4 rfl ?_
  refine z_aload_n rfl rfl ?_
  refine z_getr (ci := 7) 16 rfl hG.1 rfl w_674 hG.2.2.2.2.2.2.2.2.2.2.2.2.2.2.2.2.2.1 ?_
  refine z_iconst 5 rfl rfl ?_
  refine z_aload_n rfl rfl ?_
  refine z_geti (ci := 7) 18 rfl hG.1 rfl w_676 ?_
  refine z_imul rfl ?_
  refine z_iconst 4 rfl rfl ?_
  refine z_iadd rfl ?_
  refine z_iload rfl rfl ?_
  obtain ⟨hc5, hw⟩ := hw
  replace hw := hw _ rfl
  refine z_iast (((5 * ((up2 (up2 (up2 (up2 S 157 (5 * (S 148 18)).toNatClampNeg l1) 157 ((5 * ((up2 S 157 (5 * (S 148 18)).toNatClampNeg l1) 148 18)) + 1).toNatClampNeg l2) 157 ((5 * ((up2 (up2 S 157 (5 * (S 148 18)).toNatClampNeg l1) 157 ((5 * ((up2 S 157 (5 * (S 148 18)).toNatClampNeg l1) 148 18)) + 1).toNatClampNeg l2) 148 18)) + 2).toNatClampNeg l3) 157 ((5 * ((up2 (up2 (up2 S 157 (5 * (S 148 18)).toNatClampNeg l1) 157 ((5 * ((up2 S 157 (5 * (S 148 18)).toNatClampNeg l1) 148 18)) + 1).toNatClampNeg l2) 157 ((5 * ((up2 (up2 S 157 (5 * (S 148 18)).toNatClampNeg l1) 157 ((5 * ((up2 S 157 (5 * (S 148 18)).toNatClampNeg l1) 148 18)) + 1).toNatClampNeg l2) 148 18)) + 2).toNatClampNeg l3) 148 18)) + 3).toNatClampNeg l4) 148 18)) + 4).toNatClampNeg) rfl hG.2.2.2.2.2.2.2.2.2.2.2.2.2.2.2.2.2.2 hc5 rfl ?_
  refine z_aload_n rfl rfl ?_
  refine z_dup rfl rfl ?_
  refine z_geti (ci := 7) 18 rfl hG.1 rfl w_676 ?_
  refine z_iconst 1 rfl rfl ?_
  refine z_iadd rfl ?_
  replace hw := hw _ rfl
  refine z_puti (ci := 7) 18 rfl hG.1 rfl w_676 rfl rfl rfl ?_
  refine z_aload_n rfl rfl ?_
  refine z_aload_n rfl rfl ?_
  refine z_geti (ci := 7) 18 rfl hG.1 rfl w_676 ?_
  replace hw := hw _ rfl
  refine z_puti (ci := 7) 17 rfl hG.1 rfl w_675 rfl rfl rfl ?_
  exact z_vret rfl rfl rfl rfl (Or.inl ⟨_, rfl, rfl, hw⟩)
def r_note_L12 (post : Mem → Prop)  : Nat → Mem → Int32 → Int32 → Int32 → Int32 → Int32 → Int32 → Prop
  | 0, _, _, _, _, _, _, _ => False
  | n + 1, S, l1, l2, l3, l4, l5, l6 =>
  ((155 ≤ l6) →
   ∀ S1, S1 = up2 S 148 18 ((S 148 18) - 1) → r_note_J52 post S1 l1 l2 l3 l4 l5) ∧
  ((¬ 155 ≤ l6) →
   (vp_in (l6 + 5) 160) ∧ (vp_in l6 160) ∧ ∀ S2, S2 = up2 S 157 l6.toNatClampNeg (S 157 (l6 + 5).toNatClampNeg) → r_note_L12 post n S2 l1 l2 l3 l4 l5 (l6 + 1))
set_option maxRecDepth 100000 in
set_option maxHeartbeats 1000000 in
theorem zr_note_L12 {g : Gm} {G : Gp} {post : Mem → Prop} (hx : G.2.2.2 = false) (hG : isR G) : ∀ (n : Nat) {S : Mem} {l1 : Int32} {l2 : Int32} {l3 : Int32} {l4 : Int32} {l5 : Int32} {l6 : Int32} , r_note_L12 post n S l1 l2 l3 l4 l5 l6 → Z g M_r_note 0 0 12 [some (.ref 148), some (.int l1), some (.int l2), some (.int l3), some (.int l4), some (.int l5), some (.int l6)] [] (S, G) (Qv G post noEx) := by
  intro n
  induction n with
  | zero =>
    intros
    rename_i hw
    exact hw.elim
  | succ n ih =>
    intro S l1 l2 l3 l4 l5 l6 hw
    rw [r_note_L12] at hw
    refine z_iload rfl rfl ?_
    refine z_sipush 155 rfl rfl ?_
    refine z_icmp_ge rfl (fun hq => ?_) (fun hq => ?_)
    · replace hw := hw.1 hq
      refine z_aload_n rfl rfl ?_
      refine z_dup rfl rfl ?_
      refine z_geti (ci := 7) 18 rfl hG.1 rfl w_676 ?_
      refine z_iconst 1 rfl rfl ?_
      refine z_isub rfl ?_
      replace hw := hw _ rfl
      refine z_puti (ci := 7) 18 rfl hG.1 rfl w_676 rfl rfl rfl ?_
      refine Z.forget' [some (.ref 148), some (.int l1), some (.int l2), some (.int l3), some (.int l4), some (.int l5), none] ⟨rfl, ⟨rfl, ⟨rfl, ⟨rfl, ⟨rfl, ⟨rfl, trivial⟩⟩⟩⟩⟩⟩ ?_
      exact zr_note_J52 hx hG hw
    · replace hw := hw.2 hq
      refine z_aload_n rfl rfl ?_
      refine z_getr (ci := 7) 16 rfl hG.1 rfl w_674 hG.2.2.2.2.2.2.2.2.2.2.2.2.2.2.2.2.2.1 ?_
      refine z_iload rfl rfl ?_
      refine z_aload_n rfl rfl ?_
      refine z_getr (ci := 7) 16 rfl hG.1 rfl w_674 hG.2.2.2.2.2.2.2.2.2.2.2.2.2.2.2.2.2.1 ?_
      refine z_iload rfl rfl ?_
      refine z_iconst 5 rfl rfl ?_
      refine z_iadd rfl ?_
      obtain ⟨hc1, hw⟩ := hw
      refine z_iald ((l6 + 5).toNatClampNeg) rfl hG.2.2.2.2.2.2.2.2.2.2.2.2.2.2.2.2.2.2 hc1 rfl ?_
      obtain ⟨hc2, hw⟩ := hw
      replace hw := hw _ rfl
      refine z_iast (l6.toNatClampNeg) rfl hG.2.2.2.2.2.2.2.2.2.2.2.2.2.2.2.2.2.2 hc2 rfl ?_
      refine z_iinc 1 [some (.ref 148), some (.int l1), some (.int l2), some (.int l3), some (.int l4), some (.int l5), some (.int (l6 + 1))] rfl rfl rfl rfl ?_
      refine z_goto rfl ?_
      refine Z.forget' [some (.ref 148), some (.int l1), some (.int l2), some (.int l3), some (.int l4), some (.int l5), some (.int (l6 + 1))] ⟨rfl, ⟨rfl, ⟨rfl, ⟨rfl, ⟨rfl, ⟨rfl, ⟨rfl, trivial⟩⟩⟩⟩⟩⟩⟩ ?_
      exact ih hw
def r_note (post : Mem → Prop) (S : Mem) (l1 : Int32) (l2 : Int32) (l3 : Int32) (l4 : Int32) (l5 : Int32) : Prop :=
  ((¬ (S 148 18) = 32) →
   r_note_J52 post S l1 l2 l3 l4 l5) ∧
  (((S 148 18) = 32) →
   ∃ n, r_note_L12 post n S l1 l2 l3 l4 l5 0)
set_option maxRecDepth 100000 in
set_option maxHeartbeats 1000000 in
theorem zr_note {g : Gm} {G : Gp} {S : Mem} {post : Mem → Prop} {l1 : Int32} {l2 : Int32} {l3 : Int32} {l4 : Int32} {l5 : Int32} (hx : G.2.2.2 = false) (hG : isR G) (hw : r_note post S l1 l2 l3 l4 l5) : Z g M_r_note 0 0 0 (entryL [.ref 148, .int l1, .int l2, .int l3, .int l4, .int l5] (mL M_r_note)) [] (S, G) (Qv G post noEx) := by
  unfold r_note at hw
  show Z g M_r_note 0 0 0 [some (.ref 148), some (.int l1), some (.int l2), some (.int l3), some (.int l4), some (.int l5), none] [] (S, G) (Qv G post noEx)
  refine z_aload_n rfl rfl ?_
  refine z_geti (ci := 7) 18 rfl hG.1 rfl w_676 ?_
  refine z_bipush 32 rfl rfl ?_
  refine z_icmp_ne rfl (fun hq => ?_) (fun hq => ?_)
  · replace hw := hw.1 hq
    refine Z.forget' [some (.ref 148), some (.int l1), some (.int l2), some (.int l3), some (.int l4), some (.int l5), none] ⟨rfl, ⟨rfl, ⟨rfl, ⟨rfl, ⟨rfl, ⟨rfl, trivial⟩⟩⟩⟩⟩⟩ ?_
    exact zr_note_J52 hx hG hw
  · replace hw := hw.2 hq
    refine z_iconst 0 rfl rfl ?_
    refine z_istore [some (.ref 148), some (.int l1), some (.int l2), some (.int l3), some (.int l4), some (.int l5), some (.int 0)] rfl rfl rfl ?_
    refine Z.forget' [some (.ref 148), some (.int l1), some (.int l2), some (.int l3), some (.int l4), some (.int l5), some (.int 0)] ⟨rfl, ⟨rfl, ⟨rfl, ⟨rfl, ⟨rfl, ⟨rfl, ⟨rfl, trivial⟩⟩⟩⟩⟩⟩⟩ ?_
    obtain ⟨n, hw⟩ := hw
    exact zr_note_L12 hx hG n hw
def r_lay4 (post : Mem → Prop) (S : Mem) (l1 : Int32) (l2 : Int32) (l3 : Int32) (l4 : Int32) (l5 : Int32) : Prop :=
  (vp_in (S 148 1) 24) ∧ ∀ S1, S1 = up2 S 149 (S 148 1).toNatClampNeg l1 → (vp_in (4 * (S1 148 1)) 96) ∧ ∀ S2, S2 = up2 S1 150 (4 * (S1 148 1)).toNatClampNeg l2 → (vp_in ((4 * (S2 148 1)) + 1) 96) ∧ ∀ S3, S3 = up2 S2 150 ((4 * (S2 148 1)) + 1).toNatClampNeg l3 → (vp_in ((4 * (S3 148 1)) + 2) 96) ∧ ∀ S4, S4 = up2 S3 150 ((4 * (S3 148 1)) + 2).toNatClampNeg l4 → (vp_in ((4 * (S4 148 1)) + 3) 96) ∧ ∀ S5, S5 = up2 S4 150 ((4 * (S4 148 1)) + 3).toNatClampNeg l5 → (vp_in (S5 148 1) 24) ∧ ∀ S6, S6 = up2 S5 151 (S5 148 1).toNatClampNeg (vp_nar .boolean 0) → post S6
set_option maxRecDepth 100000 in
set_option maxHeartbeats 1000000 in
theorem zr_lay4 {g : Gm} {G : Gp} {S : Mem} {post : Mem → Prop} {l1 : Int32} {l2 : Int32} {l3 : Int32} {l4 : Int32} {l5 : Int32} (hx : G.2.2.2 = false) (hG : isR G) (hw : r_lay4 post S l1 l2 l3 l4 l5) : Z g M_r_lay4 0 0 0 (entryL [.ref 148, .int l1, .int l2, .int l3, .int l4, .int l5] (mL M_r_lay4)) [] (S, G) (Qv G post noEx) := by
  unfold r_lay4 at hw
  show Z g M_r_lay4 0 0 0 [some (.ref 148), some (.int l1), some (.int l2), some (.int l3), some (.int l4), some (.int l5)] [] (S, G) (Qv G post noEx)
  refine z_aload_n rfl rfl ?_
  refine z_getr (ci := 7) 2 rfl hG.1 rfl w_660 hG.2.1 ?_
  refine z_aload_n rfl rfl ?_
  refine z_geti (ci := 7) 1 rfl hG.1 rfl w_659 ?_
  refine z_iload_n rfl rfl ?_
  obtain ⟨hc1, hw⟩ := hw
  replace hw := hw _ rfl
  refine z_iast ((S 148 1).toNatClampNeg) rfl hG.2.2.1 hc1 rfl ?_
  refine z_aload_n rfl rfl ?_
  refine z_getr (ci := 7) 3 rfl hG.1 rfl w_661 hG.2.2.2.1 ?_
  refine z_iconst 4 rfl rfl ?_
  refine z_aload_n rfl rfl ?_
  refine z_geti (ci := 7) 1 rfl hG.1 rfl w_659 ?_
  refine z_imul rfl ?_
  refine z_iload_n rfl rfl ?_
  obtain ⟨hc2, hw⟩ := hw
  replace hw := hw _ rfl
  refine z_iast ((4 * ((up2 S 149 (S 148 1).toNatClampNeg l1) 148 1)).toNatClampNeg) rfl hG.2.2.2.2.1 hc2 rfl ?_
  refine z_aload_n rfl rfl ?_
  refine z_getr (ci := 7) 3 rfl hG.1 rfl w_661 hG.2.2.2.1 ?_
  refine z_iconst 4 rfl rfl ?_
  refine z_aload_n rfl rfl ?_
  refine z_geti (ci := 7) 1 rfl hG.1 rfl w_659 ?_
  refine z_imul rfl ?_
  refine z_iconst 1 rfl rfl ?_
  refine z_iadd rfl ?_
  refine z_iload_n rfl rfl ?_
  obtain ⟨hc3, hw⟩ := hw
  replace hw := hw _ rfl
  refine z_iast (((4 * ((up2 (up2 S 149 (S 148 1).toNatClampNeg l1) 150 (4 * ((up2 S 149 (S 148 1).toNatClampNeg l1) 148 1)).toNatClampNeg l2) 148 1)) + 1).toNatClampNeg) rfl hG.2.2.2.2.1 hc3 rfl ?_
  refine z_aload_n rfl rfl ?_
  refine z_getr (ci := 7) 3 rfl hG.1 rfl w_661 hG.2.2.2.1 ?_
  refine z_iconst 4 rfl rfl ?_
  refine z_aload_n rfl rfl ?_
  refine z_geti (ci := 7) 1 rfl hG.1 rfl w_659 ?_
  refine z_imul rfl ?_
  refine z_iconst 2 rfl rfl ?_
  refine z_iadd rfl ?_
  refine z_iload rfl rfl ?_
  obtain ⟨hc4, hw⟩ := hw
  replace hw := hw _ rfl
  refine z_iast (((4 * ((up2 (up2 (up2 S 149 (S 148 1).toNatClampNeg l1) 150 (4 * ((up2 S 149 (S 148 1).toNatClampNeg l1) 148 1)).toNatClampNeg l2) 150 ((4 * ((up2 (up2 S 149 (S 148 1).toNatClampNeg l1) 150 (4 * ((up2 S 149 (S 148 1).toNatClampNeg l1) 148 1)).toNatClampNeg l2) 148 1)) + 1).toNatClampNeg l3) 148 1)) + 2).toNatClampNeg) rfl hG.2.2.2.2.1 hc4 rfl ?_
  refine z_aload_n rfl rfl ?_
  refine z_getr (ci := 7) 3 rfl hG.1 rfl w_661 hG.2.2.2.1 ?_
  refine z_iconst 4 rfl rfl ?_
  refine z_aload_n rfl rfl ?_
  refine z_geti (ci := 7) 1 rfl hG.1 rfl w_659 ?_
  refine z_imul rfl ?_
  refine z_iconst 3 rfl rfl ?_
  refine z_iadd rfl ?_
  refine z_iload rfl rfl ?_
  obtain ⟨hc5, hw⟩ := hw
  replace hw := hw _ rfl
  refine z_iast (((4 * ((up2 (up2 (up2 (up2 S 149 (S 148 1).toNatClampNeg l1) 150 (4 * ((up2 S 149 (S 148 1).toNatClampNeg l1) 148 1)).toNatClampNeg l2) 150 ((4 * ((up2 (up2 S 149 (S 148 1).toNatClampNeg l1) 150 (4 * ((up2 S 149 (S 148 1).toNatClampNeg l1) 148 1)).toNatClampNeg l2) 148 1)) + 1).toNatClampNeg l3) 150 ((4 * ((up2 (up2 (up2 S 149 (S 148 1).toNatClampNeg l1) 150 (4 * ((up2 S 149 (S 148 1).toNatClampNeg l1) 148 1)).toNatClampNeg l2) 150 ((4 * ((up2 (up2 S 149 (S 148 1).toNatClampNeg l1) 150 (4 * ((up2 S 149 (S 148 1).toNatClampNeg l1) 148 1)).toNatClampNeg l2) 148 1)) + 1).toNatClampNeg l3) 148 1)) + 2).toNatClampNeg l4) 148 1)) + 3).toNatClampNeg) rfl hG.2.2.2.2.1 hc5 rfl ?_
  refine z_aload_n rfl rfl ?_
  refine z_getr (ci := 7) 4 rfl hG.1 rfl w_662 hG.2.2.2.2.2.1 ?_
  refine z_aload_n rfl rfl ?_
  refine z_geti (ci := 7) 1 rfl hG.1 rfl w_659 ?_
  refine z_iconst 0 rfl rfl ?_
  obtain ⟨hc6, hw⟩ := hw
  replace hw := hw _ rfl
  refine z_zast (((up2 (up2 (up2 (up2 (up2 S 149 (S 148 1).toNatClampNeg l1) 150 (4 * ((up2 S 149 (S 148 1).toNatClampNeg l1) 148 1)).toNatClampNeg l2) 150 ((4 * ((up2 (up2 S 149 (S 148 1).toNatClampNeg l1) 150 (4 * ((up2 S 149 (S 148 1).toNatClampNeg l1) 148 1)).toNatClampNeg l2) 148 1)) + 1).toNatClampNeg l3) 150 ((4 * ((up2 (up2 (up2 S 149 (S 148 1).toNatClampNeg l1) 150 (4 * ((up2 S 149 (S 148 1).toNatClampNeg l1) 148 1)).toNatClampNeg l2) 150 ((4 * ((up2 (up2 S 149 (S 148 1).toNatClampNeg l1) 150 (4 * ((up2 S 149 (S 148 1).toNatClampNeg l1) 148 1)).toNatClampNeg l2) 148 1)) + 1).toNatClampNeg l3) 148 1)) + 2).toNatClampNeg l4) 150 ((4 * ((up2 (up2 (up2 (up2 S 149 (S 148 1).toNatClampNeg l1) 150 (4 * ((up2 S 149 (S 148 1).toNatClampNeg l1) 148 1)).toNatClampNeg l2) 150 ((4 * ((up2 (up2 S 149 (S 148 1).toNatClampNeg l1) 150 (4 * ((up2 S 149 (S 148 1).toNatClampNeg l1) 148 1)).toNatClampNeg l2) 148 1)) + 1).toNatClampNeg l3) 150 ((4 * ((up2 (up2 (up2 S 149 (S 148 1).toNatClampNeg l1) 150 (4 * ((up2 S 149 (S 148 1).toNatClampNeg l1) 148 1)).toNatClampNeg l2) 150 ((4 * ((up2 (up2 S 149 (S 148 1).toNatClampNeg l1) 150 (4 * ((up2 S 149 (S 148 1).toNatClampNeg l1) 148 1)).toNatClampNeg l2) 148 1)) + 1).toNatClampNeg l3) 148 1)) + 2).toNatClampNeg l4) 148 1)) + 3).toNatClampNeg l5) 148 1).toNatClampNeg) rfl hG.2.2.2.2.2.2.1 hc6 rfl ?_
  exact z_vret rfl rfl rfl rfl (Or.inl ⟨_, rfl, rfl, hw⟩)
def r_commit_J98 (post : Int32 → Mem → Prop)  (S : Mem) (l1 : Int32) (l2 : Int32) (l3 : Int32) (l4 : Int32) (l5 : Int32) (l6 : Int32) : Prop :=
  ∀ S1, S1 = up2 S 148 0 (if l6 = 0 then 1 else (if (S 148 1) = 24 then 2 else 0 : Int32) : Int32) → (((S1 148 0) ≤ 0) →
   (vp_in (S1 148 1) 24) ∧ (vp_in ((4 * (S1 148 1)) + 0) 96) ∧ 
   (vp_in ((4 * (S1 148 1)) + 1) 96) ∧ 
   (vp_in ((4 * (S1 148 1)) + 2) 96) ∧ 
   (vp_in ((4 * (S1 148 1)) + 3) 96) ∧ 
   r_argumentsOf (fun r1 S2 =>
    r_argumentsOf (fun r2 S3 =>
     r_argumentsOf (fun r3 S4 =>
      r_lay4 (fun S5 =>
       ∀ S6, S6 = up2 S5 148 1 ((S5 148 1) + 1) → r_goThrough (fun S7 =>
        (vp_in ((S7 148 1) - 1) 24) ∧ (((S7 152 ((S7 148 1) - 1).toNatClampNeg) = 1) →
         r_note (fun S8 =>
          post ((S8 148 1) - 1) S8) S7 0 ((S7 148 1) - 1) 0 0 0) ∧
        ((¬ (S7 152 ((S7 148 1) - 1).toNatClampNeg) = 1) →
         ∀ S9, S9 = up2 S7 148 1 ((S7 148 1) - 1) → r_lay4 (fun S10 =>
          r_goThrough (fun S11 =>
           ∀ S12, S12 = up2 S11 148 0 2 → post 0 S12) S10 (-1)) S9 (S1 149 (S1 148 1).toNatClampNeg) (S1 150 ((4 * (S1 148 1)) + 0).toNatClampNeg) (S1 150 ((4 * (S1 148 1)) + 1).toNatClampNeg) (S1 150 ((4 * (S1 148 1)) + 2).toNatClampNeg) (S1 150 ((4 * (S1 148 1)) + 3).toNatClampNeg))) S6 (-1)) S4 l1 l2 (if r1 ≤ 1 then 0 else l3 : Int32) (if r2 ≤ 2 then 0 else l4 : Int32) (if r3 ≤ 3 then 0 else l5 : Int32)) S3 l1) S2 l1) S1 l1) ∧
  ((¬ (S1 148 0) ≤ 0) →
   post 0 S1)
set_option maxRecDepth 100000 in
set_option maxHeartbeats 1000000 in
theorem zr_commit_J98 {g : Gm} {G : Gp} {post : Int32 → Mem → Prop} (hx : G.2.2.2 = false) (hG : isR G) {S : Mem} {l1 : Int32} {l2 : Int32} {l3 : Int32} {l4 : Int32} {l5 : Int32} {l6 : Int32}  (hw : r_commit_J98 post S l1 l2 l3 l4 l5 l6) : Z g M_r_commit 0 0 98 [some (.ref 148), some (.int l1), some (.int l2), some (.int l3), some (.int l4), some (.int l5), some (.int l6), none, none, none, none, none] [] (S, G) (Qi G post noEx) := by
  unfold r_commit_J98 at hw
  refine z_aload_n rfl rfl ?_
  refine z_iload rfl rfl ?_
  have hj101 : ∀ v : Int32, v = (if l6 = 0 then 1 else (if (S 148 1) = 24 then 2 else 0 : Int32) : Int32) → Z g M_r_commit 0 0 122 [some (.ref 148), some (.int l1), some (.int l2), some (.int l3), some (.int l4), some (.int l5), some (.int l6), none, none, none, none, none] [.int v, .ref 148] (S, G) (Qi G post noEx) := by
    intro v hv
    subst hv
    replace hw := hw _ rfl
    refine z_puti (ci := 7) 0 rfl hG.1 rfl w_658 rfl rfl rfl ?_
    refine z_aload_n rfl rfl ?_
    refine z_geti (ci := 7) 0 rfl hG.1 rfl w_658 ?_
    refine z_if_le rfl (fun hq => ?_) (fun hq => ?_)
    · replace hw := hw.1 hq
      refine z_aload_n rfl rfl ?_
      refine z_getr (ci := 7) 2 rfl hG.1 rfl w_660 hG.2.1 ?_
      refine z_aload_n rfl rfl ?_
      refine z_geti (ci := 7) 1 rfl hG.1 rfl w_659 ?_
      obtain ⟨hc1, hw⟩ := hw
      refine z_iald (((up2 S 148 0 (if l6 = 0 then 1 else (if (S 148 1) = 24 then 2 else 0 : Int32) : Int32)) 148 1).toNatClampNeg) rfl hG.2.2.1 hc1 rfl ?_
      refine z_istore [some (.ref 148), some (.int l1), some (.int l2), some (.int l3), some (.int l4), some (.int l5), some (.int l6), some (.int ((up2 S 148 0 (if l6 = 0 then 1 else (if (S 148 1) = 24 then 2 else 0 : Int32) : Int32)) 149 ((up2 S 148 0 (if l6 = 0 then 1 else (if (S 148 1) = 24 then 2 else 0 : Int32) : Int32)) 148 1).toNatClampNeg)), none, none, none, none] rfl rfl rfl ?_
      refine z_aload_n rfl rfl ?_
      refine z_aload_n rfl rfl ?_
      refine z_geti (ci := 7) 1 rfl hG.1 rfl w_659 ?_
      refine z_iconst 0 rfl rfl ?_
      obtain ⟨hc2, hw⟩ := hw
      refine z_cvi (M' := M_r_arg) (post := fun v S' => ((up2 S 148 0 (if l6 = 0 then 1 else (if (S 148 1) = 24 then 2 else 0 : Int32) : Int32)) 150 ((4 * ((up2 S 148 0 (if l6 = 0 then 1 else (if (S 148 1) = 24 then 2 else 0 : Int32) : Int32)) 148 1)) + 0).toNatClampNeg) = v ∧ (up2 S 148 0 (if l6 = 0 then 1 else (if (S 148 1) = 24 then 2 else 0 : Int32) : Int32)) = S') [.int ((up2 S 148 0 (if l6 = 0 then 1 else (if (S 148 1) = 24 then 2 else 0 : Int32) : Int32)) 148 1), .int 0] hx rfl w_734 cv_r_arg hG.1 (by decide) rfl rfl rfl rfl (zr_arg hx hG (⟨hc2, ⟨rfl, rfl⟩⟩)) ?_ (fun _ _ hf => hf.elim)
      rintro v S' ⟨rfl, rfl⟩
      refine z_istore [some (.ref 148), some (.int l1), some (.int l2), some (.int l3), some (.int l4), some (.int l5), some (.int l6), some (.int ((up2 S 148 0 (if l6 = 0 then 1 else (if (S 148 1) = 24 then 2 else 0 : Int32) : Int32)) 149 ((up2 S 148 0 (if l6 = 0 then 1 else (if (S 148 1) = 24 then 2 else 0 : Int32) : Int32)) 148 1).toNatClampNeg)), some (.int ((up2 S 148 0 (if l6 = 0 then 1 else (if (S 148 1) = 24 then 2 else 0 : Int32) : Int32)) 150 ((4 * ((up2 S 148 0 (if l6 = 0 then 1 else (if (S 148 1) = 24 then 2 else 0 : Int32) : Int32)) 148 1)) + 0).toNatClampNeg)), none, none, none] rfl rfl rfl ?_
      refine z_aload_n rfl rfl ?_
      refine z_aload_n rfl rfl ?_
      refine z_geti (ci := 7) 1 rfl hG.1 rfl w_659 ?_
      refine z_iconst 1 rfl rfl ?_
      obtain ⟨hc3, hw⟩ := hw
      refine z_cvi (M' := M_r_arg) (post := fun v S' => ((up2 S 148 0 (if l6 = 0 then 1 else (if (S 148 1) = 24 then 2 else 0 : Int32) : Int32)) 150 ((4 * ((up2 S 148 0 (if l6 = 0 then 1 else (if (S 148 1) = 24 then 2 else 0 : Int32) : Int32)) 148 1)) + 1).toNatClampNeg) = v ∧ (up2 S 148 0 (if l6 = 0 then 1 else (if (S 148 1) = 24 then 2 else 0 : Int32) : Int32)) = S') [.int ((up2 S 148 0 (if l6 = 0 then 1 else (if (S 148 1) = 24 then 2 else 0 : Int32) : Int32)) 148 1), .int 1] hx rfl w_734 cv_r_arg hG.1 (by decide) rfl rfl rfl rfl (zr_arg hx hG (⟨hc3, ⟨rfl, rfl⟩⟩)) ?_ (fun _ _ hf => hf.elim)
      rintro v S' ⟨rfl, rfl⟩
      refine z_istore [some (.ref 148), some (.int l1), some (.int l2), some (.int l3), some (.int l4), some (.int l5), some (.int l6), some (.int ((up2 S 148 0 (if l6 = 0 then 1 else (if (S 148 1) = 24 then 2 else 0 : Int32) : Int32)) 149 ((up2 S 148 0 (if l6 = 0 then 1 else (if (S 148 1) = 24 then 2 else 0 : Int32) : Int32)) 148 1).toNatClampNeg)), some (.int ((up2 S 148 0 (if l6 = 0 then 1 else (if (S 148 1) = 24 then 2 else 0 : Int32) : Int32)) 150 ((4 * ((up2 S 148 0 (if l6 = 0 then 1 else (if (S 148 1) = 24 then 2 else 0 : Int32) : Int32)) 148 1)) + 0).toNatClampNeg)), some (.int ((up2 S 148 0 (if l6 = 0 then 1 else (if (S 148 1) = 24 then 2 else 0 : Int32) : Int32)) 150 ((4 * ((up2 S 148 0 (if l6 = 0 then 1 else (if (S 148 1) = 24 then 2 else 0 : Int32) : Int32)) 148 1)) + 1).toNatClampNeg)), none, none] rfl rfl rfl ?_
      refine z_aload_n rfl rfl ?_
      refine z_aload_n rfl rfl ?_
      refine z_geti (ci := 7) 1 rfl hG.1 rfl w_659 ?_
      refine z_iconst 2 rfl rfl ?_
      obtain ⟨hc4, hw⟩ := hw
      refine z_cvi (M' := M_r_arg) (post := fun v S' => ((up2 S 148 0 (if l6 = 0 then 1 else (if (S 148 1) = 24 then 2 else 0 : Int32) : Int32)) 150 ((4 * ((up2 S 148 0 (if l6 = 0 then 1 else (if (S 148 1) = 24 then 2 else 0 : Int32) : Int32)) 148 1)) + 2).toNatClampNeg) = v ∧ (up2 S 148 0 (if l6 = 0 then 1 else (if (S 148 1) = 24 then 2 else 0 : Int32) : Int32)) = S') [.int ((up2 S 148 0 (if l6 = 0 then 1 else (if (S 148 1) = 24 then 2 else 0 : Int32) : Int32)) 148 1), .int 2] hx rfl w_734 cv_r_arg hG.1 (by decide) rfl rfl rfl rfl (zr_arg hx hG (⟨hc4, ⟨rfl, rfl⟩⟩)) ?_ (fun _ _ hf => hf.elim)
      rintro v S' ⟨rfl, rfl⟩
      refine z_istore [some (.ref 148), some (.int l1), some (.int l2), some (.int l3), some (.int l4), some (.int l5), some (.int l6), some (.int ((up2 S 148 0 (if l6 = 0 then 1 else (if (S 148 1) = 24 then 2 else 0 : Int32) : Int32)) 149 ((up2 S 148 0 (if l6 = 0 then 1 else (if (S 148 1) = 24 then 2 else 0 : Int32) : Int32)) 148 1).toNatClampNeg)), some (.int ((up2 S 148 0 (if l6 = 0 then 1 else (if (S 148 1) = 24 then 2 else 0 : Int32) : Int32)) 150 ((4 * ((up2 S 148 0 (if l6 = 0 then 1 else (if (S 148 1) = 24 then 2 else 0 : Int32) : Int32)) 148 1)) + 0).toNatClampNeg)), some (.int ((up2 S 148 0 (if l6 = 0 then 1 else (if (S 148 1) = 24 then 2 else 0 : Int32) : Int32)) 150 ((4 * ((up2 S 148 0 (if l6 = 0 then 1 else (if (S 148 1) = 24 then 2 else 0 : Int32) : Int32)) 148 1)) + 1).toNatClampNeg)), some (.int ((up2 S 148 0 (if l6 = 0 then 1 else (if (S 148 1) = 24 then 2 else 0 : Int32) : Int32)) 150 ((4 * ((up2 S 148 0 (if l6 = 0 then 1 else (if (S 148 1) = 24 then 2 else 0 : Int32) : Int32)) 148 1)) + 2).toNatClampNeg)), none] rfl rfl rfl ?_
      refine z_aload_n rfl rfl ?_
      refine z_aload_n rfl rfl ?_
      refine z_geti (ci := 7) 1 rfl hG.1 rfl w_659 ?_
      refine z_iconst 3 rfl rfl ?_
      obtain ⟨hc5, hw⟩ := hw
      refine z_cvi (M' := M_r_arg) (post := fun v S' => ((up2 S 148 0 (if l6 = 0 then 1 else (if (S 148 1) = 24 then 2 else 0 : Int32) : Int32)) 150 ((4 * ((up2 S 148 0 (if l6 = 0 then 1 else (if (S 148 1) = 24 then 2 else 0 : Int32) : Int32)) 148 1)) + 3).toNatClampNeg) = v ∧ (up2 S 148 0 (if l6 = 0 then 1 else (if (S 148 1) = 24 then 2 else 0 : Int32) : Int32)) = S') [.int ((up2 S 148 0 (if l6 = 0 then 1 else (if (S 148 1) = 24 then 2 else 0 : Int32) : Int32)) 148 1), .int 3] hx rfl w_734 cv_r_arg hG.1 (by decide) rfl rfl rfl rfl (zr_arg hx hG (⟨hc5, ⟨rfl, rfl⟩⟩)) ?_ (fun _ _ hf => hf.elim)
      rintro v S' ⟨rfl, rfl⟩
      refine z_istore [some (.ref 148), some (.int l1), some (.int l2), some (.int l3), some (.int l4), some (.int l5), some (.int l6), some (.int ((up2 S 148 0 (if l6 = 0 then 1 else (if (S 148 1) = 24 then 2 else 0 : Int32) : Int32)) 149 ((up2 S 148 0 (if l6 = 0 then 1 else (if (S 148 1) = 24 then 2 else 0 : Int32) : Int32)) 148 1).toNatClampNeg)), some (.int ((up2 S 148 0 (if l6 = 0 then 1 else (if (S 148 1) = 24 then 2 else 0 : Int32) : Int32)) 150 ((4 * ((up2 S 148 0 (if l6 = 0 then 1 else (if (S 148 1) = 24 then 2 else 0 : Int32) : Int32)) 148 1)) + 0).toNatClampNeg)), some (.int ((up2 S 148 0 (if l6 = 0 then 1 else (if (S 148 1) = 24 then 2 else 0 : Int32) : Int32)) 150 ((4 * ((up2 S 148 0 (if l6 = 0 then 1 else (if (S 148 1) = 24 then 2 else 0 : Int32) : Int32)) 148 1)) + 1).toNatClampNeg)), some (.int ((up2 S 148 0 (if l6 = 0 then 1 else (if (S 148 1) = 24 then 2 else 0 : Int32) : Int32)) 150 ((4 * ((up2 S 148 0 (if l6 = 0 then 1 else (if (S 148 1) = 24 then 2 else 0 : Int32) : Int32)) 148 1)) + 2).toNatClampNeg)), some (.int ((up2 S 148 0 (if l6 = 0 then 1 else (if (S 148 1) = 24 then 2 else 0 : Int32) : Int32)) 150 ((4 * ((up2 S 148 0 (if l6 = 0 then 1 else (if (S 148 1) = 24 then 2 else 0 : Int32) : Int32)) 148 1)) + 3).toNatClampNeg))] rfl rfl rfl ?_
      refine z_aload_n rfl rfl ?_
      refine z_iload_n rfl rfl ?_
      refine z_iload_n rfl rfl ?_
      refine z_iload_n rfl rfl ?_
      refine z_csi (M' := M_r_argumentsOf) [.int l1] hx rfl w_725 cs_r_argumentsOf rfl rfl rfl (zr_argumentsOf hx hG hw) ?_ (fun _ _ hf => hf.elim)
      clear hw
      intro r1 S2 hw
      refine z_iconst 1 rfl rfl ?_
      have hj197 : ∀ v : Int32, v = (if r1 ≤ 1 then 0 else l3 : Int32) → Z g M_r_commit 0 0 205 [some (.ref 148), some (.int l1), some (.int l2), some (.int l3), some (.int l4), some (.int l5), some (.int l6), some (.int ((up2 S 148 0 (if l6 = 0 then 1 else (if (S 148 1) = 24 then 2 else 0 : Int32) : Int32)) 149 ((up2 S 148 0 (if l6 = 0 then 1 else (if (S 148 1) = 24 then 2 else 0 : Int32) : Int32)) 148 1).toNatClampNeg)), some (.int ((up2 S 148 0 (if l6 = 0 then 1 else (if (S 148 1) = 24 then 2 else 0 : Int32) : Int32)) 150 ((4 * ((up2 S 148 0 (if l6 = 0 then 1 else (if (S 148 1) = 24 then 2 else 0 : Int32) : Int32)) 148 1)) + 0).toNatClampNeg)), some (.int ((up2 S 148 0 (if l6 = 0 then 1 else (if (S 148 1) = 24 then 2 else 0 : Int32) : Int32)) 150 ((4 * ((up2 S 148 0 (if l6 = 0 then 1 else (if (S 148 1) = 24 then 2 else 0 : Int32) : Int32)) 148 1)) + 1).toNatClampNeg)), some (.int ((up2 S 148 0 (if l6 = 0 then 1 else (if (S 148 1) = 24 then 2 else 0 : Int32) : Int32)) 150 ((4 * ((up2 S 148 0 (if l6 = 0 then 1 else (if (S 148 1) = 24 then 2 else 0 : Int32) : Int32)) 148 1)) + 2).toNatClampNeg)), some (.int ((up2 S 148 0 (if l6 = 0 then 1 else (if (S 148 1) = 24 then 2 else 0 : Int32) : Int32)) 150 ((4 * ((up2 S 148 0 (if l6 = 0 then 1 else (if (S 148 1) = 24 then 2 else 0 : Int32) : Int32)) 148 1)) + 3).toNatClampNeg))] [.int v, .int l2, .int l1, .ref 148] (S2, G) (Qi G post noEx) := by
        intro v hv
        subst hv
        refine z_iload_n rfl rfl ?_
        refine z_csi (M' := M_r_argumentsOf) [.int l1] hx rfl w_725 cs_r_argumentsOf rfl rfl rfl (zr_argumentsOf hx hG hw) ?_ (fun _ _ hf => hf.elim)
        clear hw
        intro r2 S3 hw
        refine z_iconst 2 rfl rfl ?_
        have hj210 : ∀ v : Int32, v = (if r2 ≤ 2 then 0 else l4 : Int32) → Z g M_r_commit 0 0 219 [some (.ref 148), some (.int l1), some (.int l2), some (.int l3), some (.int l4), some (.int l5), some (.int l6), some (.int ((up2 S 148 0 (if l6 = 0 then 1 else (if (S 148 1) = 24 then 2 else 0 : Int32) : Int32)) 149 ((up2 S 148 0 (if l6 = 0 then 1 else (if (S 148 1) = 24 then 2 else 0 : Int32) : Int32)) 148 1).toNatClampNeg)), some (.int ((up2 S 148 0 (if l6 = 0 then 1 else (if (S 148 1) = 24 then 2 else 0 : Int32) : Int32)) 150 ((4 * ((up2 S 148 0 (if l6 = 0 then 1 else (if (S 148 1) = 24 then 2 else 0 : Int32) : Int32)) 148 1)) + 0).toNatClampNeg)), some (.int ((up2 S 148 0 (if l6 = 0 then 1 else (if (S 148 1) = 24 then 2 else 0 : Int32) : Int32)) 150 ((4 * ((up2 S 148 0 (if l6 = 0 then 1 else (if (S 148 1) = 24 then 2 else 0 : Int32) : Int32)) 148 1)) + 1).toNatClampNeg)), some (.int ((up2 S 148 0 (if l6 = 0 then 1 else (if (S 148 1) = 24 then 2 else 0 : Int32) : Int32)) 150 ((4 * ((up2 S 148 0 (if l6 = 0 then 1 else (if (S 148 1) = 24 then 2 else 0 : Int32) : Int32)) 148 1)) + 2).toNatClampNeg)), some (.int ((up2 S 148 0 (if l6 = 0 then 1 else (if (S 148 1) = 24 then 2 else 0 : Int32) : Int32)) 150 ((4 * ((up2 S 148 0 (if l6 = 0 then 1 else (if (S 148 1) = 24 then 2 else 0 : Int32) : Int32)) 148 1)) + 3).toNatClampNeg))] [.int v, .int (if r1 ≤ 1 then 0 else l3 : Int32), .int l2, .int l1, .ref 148] (S3, G) (Qi G post noEx) := by
          intro v hv
          subst hv
          refine z_iload_n rfl rfl ?_
          refine z_csi (M' := M_r_argumentsOf) [.int l1] hx rfl w_725 cs_r_argumentsOf rfl rfl rfl (zr_argumentsOf hx hG hw) ?_ (fun _ _ hf => hf.elim)
          clear hw
          intro r3 S4 hw
          refine z_iconst 3 rfl rfl ?_
          have hj224 : ∀ v : Int32, v = (if r3 ≤ 3 then 0 else l5 : Int32) → Z g M_r_commit 0 0 233 [some (.ref 148), some (.int l1), some (.int l2), some (.int l3), some (.int l4), some (.int l5), some (.int l6), some (.int ((up2 S 148 0 (if l6 = 0 then 1 else (if (S 148 1) = 24 then 2 else 0 : Int32) : Int32)) 149 ((up2 S 148 0 (if l6 = 0 then 1 else (if (S 148 1) = 24 then 2 else 0 : Int32) : Int32)) 148 1).toNatClampNeg)), some (.int ((up2 S 148 0 (if l6 = 0 then 1 else (if (S 148 1) = 24 then 2 else 0 : Int32) : Int32)) 150 ((4 * ((up2 S 148 0 (if l6 = 0 then 1 else (if (S 148 1) = 24 then 2 else 0 : Int32) : Int32)) 148 1)) + 0).toNatClampNeg)), some (.int ((up2 S 148 0 (if l6 = 0 then 1 else (if (S 148 1) = 24 then 2 else 0 : Int32) : Int32)) 150 ((4 * ((up2 S 148 0 (if l6 = 0 then 1 else (if (S 148 1) = 24 then 2 else 0 : Int32) : Int32)) 148 1)) + 1).toNatClampNeg)), some (.int ((up2 S 148 0 (if l6 = 0 then 1 else (if (S 148 1) = 24 then 2 else 0 : Int32) : Int32)) 150 ((4 * ((up2 S 148 0 (if l6 = 0 then 1 else (if (S 148 1) = 24 then 2 else 0 : Int32) : Int32)) 148 1)) + 2).toNatClampNeg)), some (.int ((up2 S 148 0 (if l6 = 0 then 1 else (if (S 148 1) = 24 then 2 else 0 : Int32) : Int32)) 150 ((4 * ((up2 S 148 0 (if l6 = 0 then 1 else (if (S 148 1) = 24 then 2 else 0 : Int32) : Int32)) 148 1)) + 3).toNatClampNeg))] [.int v, .int (if r2 ≤ 2 then 0 else l4 : Int32), .int (if r1 ≤ 1 then 0 else l3 : Int32), .int l2, .int l1, .ref 148] (S4, G) (Qi G post noEx) := by
            intro v hv
            subst hv
            refine z_cvv (M' := M_r_lay4) [.int l1, .int l2, .int (if r1 ≤ 1 then 0 else l3 : Int32), .int (if r2 ≤ 2 then 0 else l4 : Int32), .int (if r3 ≤ 3 then 0 else l5 : Int32)] hx rfl w_738 cv_r_lay4 hG.1 (by decide) rfl rfl rfl rfl (zr_lay4 hx hG hw) ?_ (fun _ _ hf => hf.elim)
            clear hw
            intro S5 hw
            refine z_aload_n rfl rfl ?_
            refine z_dup rfl rfl ?_
            refine z_geti (ci := 7) 1 rfl hG.1 rfl w_659 ?_
            refine z_iconst 1 rfl rfl ?_
            refine z_iadd rfl ?_
            replace hw := hw _ rfl
            refine z_puti (ci := 7) 1 rfl hG.1 rfl w_659 rfl rfl rfl ?_
            refine z_aload_n rfl rfl ?_
            refine z_iconst (-1) rfl rfl ?_
            refine z_cvv (M' := M_r_goThrough) [.int (-1)] hx rfl w_742 cv_r_goThrough hG.1 (by decide) rfl rfl rfl rfl (zr_goThrough hx hG hw) ?_ (fun _ _ hf => hf.elim)
            clear hw
            intro S7 hw
            refine z_aload_n rfl rfl ?_
            refine z_getr (ci := 7) 5 rfl hG.1 rfl w_663 hG.2.2.2.2.2.2.2.1 ?_
            refine z_aload_n rfl rfl ?_
            refine z_geti (ci := 7) 1 rfl hG.1 rfl w_659 ?_
            refine z_iconst 1 rfl rfl ?_
            refine z_isub rfl ?_
            obtain ⟨hc6, hw⟩ := hw
            refine z_iald (((S7 148 1) - 1).toNatClampNeg) rfl hG.2.2.2.2.2.2.2.2.1 hc6 rfl ?_
            refine z_iconst 1 rfl rfl ?_
            refine z_icmp_eq rfl (fun hq => ?_) (fun hq => ?_)
            · replace hw := hw.1 hq
              refine z_aload_n rfl rfl ?_
              refine z_iconst 0 rfl rfl ?_
              refine z_aload_n rfl rfl ?_
              refine z_geti (ci := 7) 1 rfl hG.1 rfl w_659 ?_
              refine z_iconst 1 rfl rfl ?_
              refine z_isub rfl ?_
              refine z_iconst 0 rfl rfl ?_
              refine z_iconst 0 rfl rfl ?_
              refine z_iconst 0 rfl rfl ?_
              refine z_cvv (M' := M_r_note) [.int 0, .int ((S7 148 1) - 1), .int 0, .int 0, .int 0] hx rfl w_847 cv_r_note hG.1 (by decide) rfl rfl rfl rfl (zr_note hx hG hw) ?_ (fun _ _ hf => hf.elim)
              clear hw
              intro S8 hw
              refine z_aload_n rfl rfl ?_
              refine z_geti (ci := 7) 1 rfl hG.1 rfl w_659 ?_
              refine z_iconst 1 rfl rfl ?_
              refine z_isub rfl ?_
              exact z_iret rfl rfl rfl rfl (Or.inl ⟨_, _, rfl, rfl, hw⟩)
            · replace hw := hw.2 hq
              refine z_aload_n rfl rfl ?_
              refine z_dup rfl rfl ?_
              refine z_geti (ci := 7) 1 rfl hG.1 rfl w_659 ?_
              refine z_iconst 1 rfl rfl ?_
              refine z_isub rfl ?_
              replace hw := hw _ rfl
              refine z_puti (ci := 7) 1 rfl hG.1 rfl w_659 rfl rfl rfl ?_
              refine z_aload_n rfl rfl ?_
              refine z_iload rfl rfl ?_
              refine z_iload rfl rfl ?_
              refine z_iload rfl rfl ?_
              refine z_iload rfl rfl ?_
              refine z_iload rfl rfl ?_
              refine z_cvv (M' := M_r_lay4) [.int ((up2 S 148 0 (if l6 = 0 then 1 else (if (S 148 1) = 24 then 2 else 0 : Int32) : Int32)) 149 ((up2 S 148 0 (if l6 = 0 then 1 else (if (S 148 1) = 24 then 2 else 0 : Int32) : Int32)) 148 1).toNatClampNeg), .int ((up2 S 148 0 (if l6 = 0 then 1 else (if (S 148 1) = 24 then 2 else 0 : Int32) : Int32)) 150 ((4 * ((up2 S 148 0 (if l6 = 0 then 1 else (if (S 148 1) = 24 then 2 else 0 : Int32) : Int32)) 148 1)) + 0).toNatClampNeg), .int ((up2 S 148 0 (if l6 = 0 then 1 else (if (S 148 1) = 24 then 2 else 0 : Int32) : Int32)) 150 ((4 * ((up2 S 148 0 (if l6 = 0 then 1 else (if (S 148 1) = 24 then 2 else 0 : Int32) : Int32)) 148 1)) + 1).toNatClampNeg), .int ((up2 S 148 0 (if l6 = 0 then 1 else (if (S 148 1) = 24 then 2 else 0 : Int32) : Int32)) 150 ((4 * ((up2 S 148 0 (if l6 = 0 then 1 else (if (S 148 1) = 24 then 2 else 0 : Int32) : Int32)) 148 1)) + 2).toNatClampNeg), .int ((up2 S 148 0 (if l6 = 0 then 1 else (if (S 148 1) = 24 then 2 else 0 : Int32) : Int32)) 150 ((4 * ((up2 S 148 0 (if l6 = 0 then 1 else (if (S 148 1) = 24 then 2 else 0 : Int32) : Int32)) 148 1)) + 3).toNatClampNeg)] hx rfl w_738 cv_r_lay4 hG.1 (by decide) rfl rfl rfl rfl (zr_lay4 hx hG hw) ?_ (fun _ _ hf => hf.elim)
              clear hw
              intro S10 hw
              refine z_aload_n rfl rfl ?_
              refine z_iconst (-1) rfl rfl ?_
              refine z_cvv (M' := M_r_goThrough) [.int (-1)] hx rfl w_742 cv_r_goThrough hG.1 (by decide) rfl rfl rfl rfl (zr_goThrough hx hG hw) ?_ (fun _ _ hf => hf.elim)
              clear hw
              intro S11 hw
              refine z_aload_n rfl rfl ?_
              refine z_iconst 2 rfl rfl ?_
              replace hw := hw _ rfl
              refine z_puti (ci := 7) 0 rfl hG.1 rfl w_658 rfl rfl rfl ?_
              refine z_iconst 0 rfl rfl ?_
              exact z_iret rfl rfl rfl rfl (Or.inl ⟨_, _, rfl, rfl, hw⟩)
          refine z_icmp_le rfl (fun hp224 => ?_) (fun hp224 => ?_)
          · refine z_iconst 0 rfl rfl ?_
            exact hj224 _ (by rw [if_pos hp224])
          · refine z_iload rfl rfl ?_
            refine z_goto rfl ?_
            exact hj224 _ (by rw [if_neg hp224])
        refine z_icmp_le rfl (fun hp210 => ?_) (fun hp210 => ?_)
        · refine z_iconst 0 rfl rfl ?_
          exact hj210 _ (by rw [if_pos hp210])
        · refine z_iload rfl rfl ?_
          refine z_goto rfl ?_
          exact hj210 _ (by rw [if_neg hp210])
      refine z_icmp_le rfl (fun hp197 => ?_) (fun hp197 => ?_)
      · refine z_iconst 0 rfl rfl ?_
        exact hj197 _ (by rw [if_pos hp197])
      · refine z_iload_n rfl rfl ?_
        refine z_goto rfl ?_
        exact hj197 _ (by rw [if_neg hp197])
    · replace hw := hw.2 hq
      refine z_iconst 0 rfl rfl ?_
      exact z_iret rfl rfl rfl rfl (Or.inl ⟨_, _, rfl, rfl, hw⟩)
  refine z_if_ne rfl (fun hp101 => ?_) (fun hp101 => ?_)
  · refine z_aload_n rfl rfl ?_
    refine z_geti (ci := 7) 1 rfl hG.1 rfl w_659 ?_
    refine z_bipush 24 rfl rfl ?_
    refine z_icmp_ne rfl (fun hp114 => ?_) (fun hp114 => ?_)
    · refine z_iconst 0 rfl rfl ?_
      exact hj101 _ (by rw [if_neg hp101, if_neg hp114])
    · refine z_iconst 2 rfl rfl ?_
      refine z_goto rfl ?_
      exact hj101 _ (by rw [if_neg hp101, if_pos hp114])
  · refine z_iconst 1 rfl rfl ?_
    refine z_goto rfl ?_
    exact hj101 _ (by rw [if_pos hp101])
def r_commit_L20 (post : Int32 → Mem → Prop)  : Nat → Mem → Int32 → Int32 → Int32 → Int32 → Int32 → Int32 → Int32 → Prop
  | 0, _, _, _, _, _, _, _, _ => False
  | n + 1, S, l1, l2, l3, l4, l5, l6, l7 =>
  ((4 ≤ l7) →
   r_commit_J98 post S l1 l2 l3 l4 l5 l6) ∧
  ((¬ 4 ≤ l7) →
   ((l6 = 0) →
    r_commit_J98 post S l1 l2 l3 l4 l5 l6) ∧
   ((¬ l6 = 0) →
    r_argumentsOf (fun r1 S1 =>
     ((r1 ≤ l7) →
      r_commit_L20 post n S1 l1 l2 l3 l4 l5 1 (l7 + 1)) ∧
     ((¬ r1 ≤ l7) →
      r_isArgument (fun r2 S2 =>
       ((r2 = 0) →
        r_commit_L20 post n S2 l1 l2 l3 l4 l5 0 (l7 + 1)) ∧
       ((¬ r2 = 0) →
        r_commit_L20 post n S2 l1 l2 l3 l4 l5 1 (l7 + 1))) S1 l1 l7 (if l7 = 0 then l2 else (if l7 = 1 then l3 else (if l7 = 2 then l4 else l5 : Int32) : Int32) : Int32))) S l1))
set_option maxRecDepth 100000 in
set_option maxHeartbeats 1000000 in
theorem zr_commit_L20 {g : Gm} {G : Gp} {post : Int32 → Mem → Prop} (hx : G.2.2.2 = false) (hG : isR G) : ∀ (n : Nat) {S : Mem} {l1 : Int32} {l2 : Int32} {l3 : Int32} {l4 : Int32} {l5 : Int32} {l6 : Int32} {l7 : Int32} , r_commit_L20 post n S l1 l2 l3 l4 l5 l6 l7 → Z g M_r_commit 0 0 20 [some (.ref 148), some (.int l1), some (.int l2), some (.int l3), some (.int l4), some (.int l5), some (.int l6), some (.int l7), none, none, none, none] [] (S, G) (Qi G post noEx) := by
  intro n
  induction n with
  | zero =>
    intros
    rename_i hw
    exact hw.elim
  | succ n ih =>
    intro S l1 l2 l3 l4 l5 l6 l7 hw
    rw [r_commit_L20] at hw
    refine z_iload rfl rfl ?_
    refine z_iconst 4 rfl rfl ?_
    refine z_icmp_ge rfl (fun hq => ?_) (fun hq => ?_)
    · replace hw := hw.1 hq
      refine Z.forget' [some (.ref 148), some (.int l1), some (.int l2), some (.int l3), some (.int l4), some (.int l5), some (.int l6), none, none, none, none, none] ⟨rfl, ⟨rfl, ⟨rfl, ⟨rfl, ⟨rfl, ⟨rfl, ⟨rfl, trivial⟩⟩⟩⟩⟩⟩⟩ ?_
      exact zr_commit_J98 hx hG hw
    · replace hw := hw.2 hq
      refine z_iload rfl rfl ?_
      refine z_if_eq rfl (fun hq => ?_) (fun hq => ?_)
      · replace hw := hw.1 hq
        refine Z.forget' [some (.ref 148), some (.int l1), some (.int l2), some (.int l3), some (.int l4), some (.int l5), some (.int l6), none, none, none, none, none] ⟨rfl, ⟨rfl, ⟨rfl, ⟨rfl, ⟨rfl, ⟨rfl, ⟨rfl, trivial⟩⟩⟩⟩⟩⟩⟩ ?_
        exact zr_commit_J98 hx hG hw
      · replace hw := hw.2 hq
        refine z_iload rfl rfl ?_
        have hj33 : ∀ v : Int32, v = (if l7 = 0 then l2 else (if l7 = 1 then l3 else (if l7 = 2 then l4 else l5 : Int32) : Int32) : Int32) → Z g M_r_commit 0 0 63 [some (.ref 148), some (.int l1), some (.int l2), some (.int l3), some (.int l4), some (.int l5), some (.int l6), some (.int l7), none, none, none, none] [.int v] (S, G) (Qi G post noEx) := by
          intro v hv
          subst hv
          refine z_istore [some (.ref 148), some (.int l1), some (.int l2), some (.int l3), some (.int l4), some (.int l5), some (.int l6), some (.int l7), some (.int (if l7 = 0 then l2 else (if l7 = 1 then l3 else (if l7 = 2 then l4 else l5 : Int32) : Int32) : Int32)), none, none, none] rfl rfl rfl ?_
          refine z_iload rfl rfl ?_
          refine z_iload_n rfl rfl ?_
          refine z_csi (M' := M_r_argumentsOf) [.int l1] hx rfl w_725 cs_r_argumentsOf rfl rfl rfl (zr_argumentsOf hx hG hw) ?_ (fun _ _ hf => hf.elim)
          clear hw
          intro r1 S1 hw
          refine z_icmp_ge rfl (fun hq => ?_) (fun hq => ?_)
          · replace hw := hw.1 hq
            refine z_iconst 1 rfl rfl ?_
            refine z_goto rfl ?_
            refine z_istore [some (.ref 148), some (.int l1), some (.int l2), some (.int l3), some (.int l4), some (.int l5), some (.int 1), some (.int l7), some (.int (if l7 = 0 then l2 else (if l7 = 1 then l3 else (if l7 = 2 then l4 else l5 : Int32) : Int32) : Int32)), none, none, none] rfl rfl rfl ?_
            refine z_iinc 1 [some (.ref 148), some (.int l1), some (.int l2), some (.int l3), some (.int l4), some (.int l5), some (.int 1), some (.int (l7 + 1)), some (.int (if l7 = 0 then l2 else (if l7 = 1 then l3 else (if l7 = 2 then l4 else l5 : Int32) : Int32) : Int32)), none, none, none] rfl rfl rfl rfl ?_
            refine z_goto rfl ?_
            refine Z.forget' [some (.ref 148), some (.int l1), some (.int l2), some (.int l3), some (.int l4), some (.int l5), some (.int 1), some (.int (l7 + 1)), none, none, none, none] ⟨rfl, ⟨rfl, ⟨rfl, ⟨rfl, ⟨rfl, ⟨rfl, ⟨rfl, ⟨rfl, trivial⟩⟩⟩⟩⟩⟩⟩⟩ ?_
            exact ih hw
          · replace hw := hw.2 hq
            refine z_iload_n rfl rfl ?_
            refine z_iload rfl rfl ?_
            refine z_iload rfl rfl ?_
            refine z_csi (M' := M_r_isArgument) [.int l1, .int l7, .int (if l7 = 0 then l2 else (if l7 = 1 then l3 else (if l7 = 2 then l4 else l5 : Int32) : Int32) : Int32)] hx rfl w_728 cs_r_isArgument rfl rfl rfl (zr_isArgument hx hG hw) ?_ (fun _ _ hf => hf.elim)
            clear hw
            intro r2 S2 hw
            refine z_if_eq rfl (fun hq => ?_) (fun hq => ?_)
            · replace hw := hw.1 hq
              refine z_iconst 0 rfl rfl ?_
              refine z_istore [some (.ref 148), some (.int l1), some (.int l2), some (.int l3), some (.int l4), some (.int l5), some (.int 0), some (.int l7), some (.int (if l7 = 0 then l2 else (if l7 = 1 then l3 else (if l7 = 2 then l4 else l5 : Int32) : Int32) : Int32)), none, none, none] rfl rfl rfl ?_
              refine z_iinc 1 [some (.ref 148), some (.int l1), some (.int l2), some (.int l3), some (.int l4), some (.int l5), some (.int 0), some (.int (l7 + 1)), some (.int (if l7 = 0 then l2 else (if l7 = 1 then l3 else (if l7 = 2 then l4 else l5 : Int32) : Int32) : Int32)), none, none, none] rfl rfl rfl rfl ?_
              refine z_goto rfl ?_
              refine Z.forget' [some (.ref 148), some (.int l1), some (.int l2), some (.int l3), some (.int l4), some (.int l5), some (.int 0), some (.int (l7 + 1)), none, none, none, none] ⟨rfl, ⟨rfl, ⟨rfl, ⟨rfl, ⟨rfl, ⟨rfl, ⟨rfl, ⟨rfl, trivial⟩⟩⟩⟩⟩⟩⟩⟩ ?_
              exact ih hw
            · replace hw := hw.2 hq
              refine z_iconst 1 rfl rfl ?_
              refine z_goto rfl ?_
              refine z_istore [some (.ref 148), some (.int l1), some (.int l2), some (.int l3), some (.int l4), some (.int l5), some (.int 1), some (.int l7), some (.int (if l7 = 0 then l2 else (if l7 = 1 then l3 else (if l7 = 2 then l4 else l5 : Int32) : Int32) : Int32)), none, none, none] rfl rfl rfl ?_
              refine z_iinc 1 [some (.ref 148), some (.int l1), some (.int l2), some (.int l3), some (.int l4), some (.int l5), some (.int 1), some (.int (l7 + 1)), some (.int (if l7 = 0 then l2 else (if l7 = 1 then l3 else (if l7 = 2 then l4 else l5 : Int32) : Int32) : Int32)), none, none, none] rfl rfl rfl rfl ?_
              refine z_goto rfl ?_
              refine Z.forget' [some (.ref 148), some (.int l1), some (.int l2), some (.int l3), some (.int l4), some (.int l5), some (.int 1), some (.int (l7 + 1)), none, none, none, none] ⟨rfl, ⟨rfl, ⟨rfl, ⟨rfl, ⟨rfl, ⟨rfl, ⟨rfl, ⟨rfl, trivial⟩⟩⟩⟩⟩⟩⟩⟩ ?_
              exact ih hw
        refine z_if_ne rfl (fun hp33 => ?_) (fun hp33 => ?_)
        · refine z_iload rfl rfl ?_
          refine z_iconst 1 rfl rfl ?_
          refine z_icmp_ne rfl (fun hp43 => ?_) (fun hp43 => ?_)
          · refine z_iload rfl rfl ?_
            refine z_iconst 2 rfl rfl ?_
            refine z_icmp_ne rfl (fun hp53 => ?_) (fun hp53 => ?_)
            · refine z_iload rfl rfl ?_
              exact hj33 _ (by rw [if_neg hp33, if_neg hp43, if_neg hp53])
            · refine z_iload rfl rfl ?_
              refine z_goto rfl ?_
              exact hj33 _ (by rw [if_neg hp33, if_neg hp43, if_pos hp53])
          · refine z_iload_n rfl rfl ?_
            refine z_goto rfl ?_
            exact hj33 _ (by rw [if_neg hp33, if_pos hp43])
        · refine z_iload_n rfl rfl ?_
          refine z_goto rfl ?_
          exact hj33 _ (by rw [if_pos hp33])
def r_commit (post : Int32 → Mem → Prop) (S : Mem) (l1 : Int32) (l2 : Int32) (l3 : Int32) (l4 : Int32) (l5 : Int32) : Prop :=
  ∃ n, r_commit_L20 post n S l1 l2 l3 l4 l5 (if l1 < 0 then 0 else (if 9 < l1 then 0 else 1 : Int32) : Int32) 0
set_option maxRecDepth 100000 in
set_option maxHeartbeats 1000000 in
theorem zr_commit {g : Gm} {G : Gp} {S : Mem} {post : Int32 → Mem → Prop} {l1 : Int32} {l2 : Int32} {l3 : Int32} {l4 : Int32} {l5 : Int32} (hx : G.2.2.2 = false) (hG : isR G) (hw : r_commit post S l1 l2 l3 l4 l5) : Z g M_r_commit 0 0 0 (entryL [.ref 148, .int l1, .int l2, .int l3, .int l4, .int l5] (mL M_r_commit)) [] (S, G) (Qi G post noEx) := by
  unfold r_commit at hw
  show Z g M_r_commit 0 0 0 [some (.ref 148), some (.int l1), some (.int l2), some (.int l3), some (.int l4), some (.int l5), none, none, none, none, none, none] [] (S, G) (Qi G post noEx)
  refine z_iload_n rfl rfl ?_
  have hj1 : ∀ v : Int32, v = (if l1 < 0 then 0 else (if 9 < l1 then 0 else 1 : Int32) : Int32) → Z g M_r_commit 0 0 15 [some (.ref 148), some (.int l1), some (.int l2), some (.int l3), some (.int l4), some (.int l5), none, none, none, none, none, none] [.int v] (S, G) (Qi G post noEx) := by
    intro v hv
    subst hv
    refine z_istore [some (.ref 148), some (.int l1), some (.int l2), some (.int l3), some (.int l4), some (.int l5), some (.int (if l1 < 0 then 0 else (if 9 < l1 then 0 else 1 : Int32) : Int32)), none, none, none, none, none] rfl rfl rfl ?_
    refine z_iconst 0 rfl rfl ?_
    refine z_istore [some (.ref 148), some (.int l1), some (.int l2), some (.int l3), some (.int l4), some (.int l5), some (.int (if l1 < 0 then 0 else (if 9 < l1 then 0 else 1 : Int32) : Int32)), some (.int 0), none, none, none, none] rfl rfl rfl ?_
    refine Z.forget' [some (.ref 148), some (.int l1), some (.int l2), some (.int l3), some (.int l4), some (.int l5), some (.int (if l1 < 0 then 0 else (if 9 < l1 then 0 else 1 : Int32) : Int32)), some (.int 0), none, none, none, none] ⟨rfl, ⟨rfl, ⟨rfl, ⟨rfl, ⟨rfl, ⟨rfl, ⟨rfl, ⟨rfl, trivial⟩⟩⟩⟩⟩⟩⟩⟩ ?_
    obtain ⟨n, hw⟩ := hw
    exact zr_commit_L20 hx hG n hw
  refine z_if_lt rfl (fun hp1 => ?_) (fun hp1 => ?_)
  · refine z_iconst 0 rfl rfl ?_
    exact hj1 _ (by rw [if_pos hp1])
  · refine z_iload_n rfl rfl ?_
    refine z_bipush 9 rfl rfl ?_
    refine z_icmp_gt rfl (fun hp7 => ?_) (fun hp7 => ?_)
    · refine z_iconst 0 rfl rfl ?_
      exact hj1 _ (by rw [if_neg hp1, if_pos hp7])
    · refine z_iconst 1 rfl rfl ?_
      refine z_goto rfl ?_
      exact hj1 _ (by rw [if_neg hp1, if_neg hp7])
def r_isAction (post : Int32 → Mem → Prop) (S : Mem) (l1 : Int32) : Prop :=
  vp_nar .boolean (if l1 < 0 then 0 else (if (S 148 1) ≤ l1 then 0 else 1 : Int32) : Int32) = (if l1 < 0 then 0 else (if (S 148 1) ≤ l1 then 0 else 1 : Int32) : Int32) ∧ post (if l1 < 0 then 0 else (if (S 148 1) ≤ l1 then 0 else 1 : Int32) : Int32) S
set_option maxRecDepth 100000 in
set_option maxHeartbeats 1000000 in
theorem zr_isAction {g : Gm} {G : Gp} {S : Mem} {post : Int32 → Mem → Prop} {l1 : Int32} (hx : G.2.2.2 = false) (hG : isR G) (hw : r_isAction post S l1) : Z g M_r_isAction 0 0 0 (entryL [.ref 148, .int l1] (mL M_r_isAction)) [] (S, G) (Qi G post noEx) := by
  unfold r_isAction at hw
  show Z g M_r_isAction 0 0 0 [some (.ref 148), some (.int l1)] [] (S, G) (Qi G post noEx)
  refine z_iload_n rfl rfl ?_
  have hj1 : ∀ v : Int32, v = (if l1 < 0 then 0 else (if (S 148 1) ≤ l1 then 0 else 1 : Int32) : Int32) → Z g M_r_isAction 0 0 17 [some (.ref 148), some (.int l1)] [.int v] (S, G) (Qi G post noEx) := by
    intro v hv
    subst hv
    obtain ⟨hc1, hw⟩ := hw
    exact z_zret rfl rfl (nar_of hc1) rfl rfl (Or.inl ⟨_, _, rfl, rfl, hw⟩)
  refine z_if_lt rfl (fun hp1 => ?_) (fun hp1 => ?_)
  · refine z_iconst 0 rfl rfl ?_
    exact hj1 _ (by rw [if_pos hp1])
  · refine z_iload_n rfl rfl ?_
    refine z_aload_n rfl rfl ?_
    refine z_geti (ci := 7) 1 rfl hG.1 rfl w_659 ?_
    refine z_icmp_ge rfl (fun hp9 => ?_) (fun hp9 => ?_)
    · refine z_iconst 0 rfl rfl ?_
      exact hj1 _ (by rw [if_neg hp1, if_pos hp9])
    · refine z_iconst 1 rfl rfl ?_
      refine z_goto rfl ?_
      exact hj1 _ (by rw [if_neg hp1, if_neg hp9])
