def r_thrown (post : Int32 → Mem → Prop) (S : Mem)  : Prop :=
  post (S 148 0) S
set_option maxRecDepth 100000 in
set_option maxHeartbeats 1000000 in
theorem zr_thrown {g : Gm} {G : Gp} {S : Mem} {post : Int32 → Mem → Prop}  (hx : G.2.2.2 = false) (hG : isR G) (hw : r_thrown post S ) : Z g M_r_thrown 0 0 0 (entryL [.ref 148] (mL M_r_thrown)) [] (S, G) (Qi G post noEx) := by
  unfold r_thrown at hw
  show Z g M_r_thrown 0 0 0 [some (.ref 148)] [] (S, G) (Qi G post noEx)
  refine z_aload_n rfl rfl ?_
  refine z_geti (ci := 7) 0 rfl hG.1 rfl w_658 ?_
  exact z_iret rfl rfl rfl rfl (Or.inl ⟨_, _, rfl, rfl, hw⟩)
def r_of (post : Int32 → Mem → Prop) (S : Mem) (l1 : Int32) (l2 : Int32) : Prop :=
  (vp_in ((8 * l1) + l2) 112) ∧ post (S 154 ((8 * l1) + l2).toNatClampNeg) S
set_option maxRecDepth 100000 in
set_option maxHeartbeats 1000000 in
theorem zr_of {g : Gm} {G : Gp} {S : Mem} {post : Int32 → Mem → Prop} {l1 : Int32} {l2 : Int32} (hx : G.2.2.2 = false) (hG : isR G) (hw : r_of post S l1 l2) : Z g M_r_of 0 0 0 (entryL [.ref 148, .int l1, .int l2] (mL M_r_of)) [] (S, G) (Qi G post noEx) := by
  unfold r_of at hw
  show Z g M_r_of 0 0 0 [some (.ref 148), some (.int l1), some (.int l2)] [] (S, G) (Qi G post noEx)
  refine z_aload_n rfl rfl ?_
  refine z_getr (ci := 7) 8 rfl hG.1 rfl w_666 hG.2.2.2.2.2.2.2.2.2.2.2.1 ?_
  refine z_bipush 8 rfl rfl ?_
  refine z_iload_n rfl rfl ?_
  refine z_imul rfl ?_
  refine z_iload_n rfl rfl ?_
  refine z_iadd rfl ?_
  obtain ⟨hc1, hw⟩ := hw
  refine z_iald (((8 * l1) + l2).toNatClampNeg) rfl hG.2.2.2.2.2.2.2.2.2.2.2.2.1 hc1 rfl ?_
  exact z_iret rfl rfl rfl rfl (Or.inl ⟨_, _, rfl, rfl, hw⟩)
def r_put (post : Mem → Prop) (S : Mem) (l1 : Int32) (l2 : Int32) (l3 : Int32) : Prop :=
  (vp_in ((8 * l1) + l2) 112) ∧ ∀ S1, S1 = up2 S 154 ((8 * l1) + l2).toNatClampNeg l3 → post S1
set_option maxRecDepth 100000 in
set_option maxHeartbeats 1000000 in
theorem zr_put {g : Gm} {G : Gp} {S : Mem} {post : Mem → Prop} {l1 : Int32} {l2 : Int32} {l3 : Int32} (hx : G.2.2.2 = false) (hG : isR G) (hw : r_put post S l1 l2 l3) : Z g M_r_put 0 0 0 (entryL [.ref 148, .int l1, .int l2, .int l3] (mL M_r_put)) [] (S, G) (Qv G post noEx) := by
  unfold r_put at hw
  show Z g M_r_put 0 0 0 [some (.ref 148), some (.int l1), some (.int l2), some (.int l3)] [] (S, G) (Qv G post noEx)
  refine z_aload_n rfl rfl ?_
  refine z_getr (ci := 7) 8 rfl hG.1 rfl w_666 hG.2.2.2.2.2.2.2.2.2.2.2.1 ?_
  refine z_bipush 8 rfl rfl ?_
  refine z_iload_n rfl rfl ?_
  refine z_imul rfl ?_
  refine z_iload_n rfl rfl ?_
  refine z_iadd rfl ?_
  refine z_iload_n rfl rfl ?_
  obtain ⟨hc1, hw⟩ := hw
  replace hw := hw _ rfl
  refine z_iast (((8 * l1) + l2).toNatClampNeg) rfl hG.2.2.2.2.2.2.2.2.2.2.2.2.1 hc1 rfl ?_
  exact z_vret rfl rfl rfl rfl (Or.inl ⟨_, rfl, rfl, hw⟩)
def r_find_L4 (post : Int32 → Mem → Prop)  : Nat → Mem → Int32 → Int32 → Int32 → Prop
  | 0, _, _, _, _ => False
  | n + 1, S, l1, l2, l3 =>
  (((S 148 7) ≤ l3) →
   post l2 S) ∧
  ((¬ (S 148 7) ≤ l3) →
   (vp_in ((8 * l3) + 0) 112) ∧ 
   r_find_L4 post n S l1 (if (S 154 ((8 * l3) + 0).toNatClampNeg) = l1 then l3 else l2 : Int32) (l3 + 1))
set_option maxRecDepth 100000 in
set_option maxHeartbeats 1000000 in
theorem zr_find_L4 {g : Gm} {G : Gp} {post : Int32 → Mem → Prop} (hx : G.2.2.2 = false) (hG : isR G) : ∀ (n : Nat) {S : Mem} {l1 : Int32} {l2 : Int32} {l3 : Int32} , r_find_L4 post n S l1 l2 l3 → Z g M_r_find 0 0 4 [some (.ref 148), some (.int l1), some (.int l2), some (.int l3)] [] (S, G) (Qi G post noEx) := by
  intro n
  induction n with
  | zero =>
    intros
    rename_i hw
    exact hw.elim
  | succ n ih =>
    intro S l1 l2 l3 hw
    rw [r_find_L4] at hw
    refine z_iload_n rfl rfl ?_
    refine z_aload_n rfl rfl ?_
    refine z_geti (ci := 7) 7 rfl hG.1 rfl w_665 ?_
    refine z_icmp_ge rfl (fun hq => ?_) (fun hq => ?_)
    · replace hw := hw.1 hq
      refine z_iload_n rfl rfl ?_
      exact z_iret rfl rfl rfl rfl (Or.inl ⟨_, _, rfl, rfl, hw⟩)
    · replace hw := hw.2 hq
      refine z_aload_n rfl rfl ?_
      refine z_iload_n rfl rfl ?_
      refine z_iconst 0 rfl rfl ?_
      obtain ⟨hc1, hw⟩ := hw
      refine z_cvi (M' := M_r_of) (post := fun v S' => (S 154 ((8 * l3) + 0).toNatClampNeg) = v ∧ S = S') [.int l3, .int 0] hx rfl w_754 cv_r_of hG.1 (by decide) rfl rfl rfl rfl (zr_of hx hG (⟨hc1, ⟨rfl, rfl⟩⟩)) ?_ (fun _ _ hf => hf.elim)
      rintro v S' ⟨rfl, rfl⟩
      refine z_iload_n rfl rfl ?_
      have hj19 : ∀ v : Int32, v = (if (S 154 ((8 * l3) + 0).toNatClampNeg) = l1 then l3 else l2 : Int32) → Z g M_r_find 0 0 27 [some (.ref 148), some (.int l1), some (.int l2), some (.int l3)] [.int v] (S, G) (Qi G post noEx) := by
        intro v hv
        subst hv
        refine z_istore_n [some (.ref 148), some (.int l1), some (.int (if (S 154 ((8 * l3) + 0).toNatClampNeg) = l1 then l3 else l2 : Int32)), some (.int l3)] rfl rfl rfl ?_
        refine z_iinc 1 [some (.ref 148), some (.int l1), some (.int (if (S 154 ((8 * l3) + 0).toNatClampNeg) = l1 then l3 else l2 : Int32)), some (.int (l3 + 1))] rfl rfl rfl rfl ?_
        refine z_goto rfl ?_
        refine Z.forget' [some (.ref 148), some (.int l1), some (.int (if (S 154 ((8 * l3) + 0).toNatClampNeg) = l1 then l3 else l2 : Int32)), some (.int (l3 + 1))] ⟨rfl, ⟨rfl, ⟨rfl, ⟨rfl, trivial⟩⟩⟩⟩ ?_
        exact ih hw
      refine z_icmp_ne rfl (fun hp19 => ?_) (fun hp19 => ?_)
      · refine z_iload_n rfl rfl ?_
        exact hj19 _ (by rw [if_neg hp19])
      · refine z_iload_n rfl rfl ?_
        refine z_goto rfl ?_
        exact hj19 _ (by rw [if_pos hp19])
def r_find (post : Int32 → Mem → Prop) (S : Mem) (l1 : Int32) : Prop :=
  ∃ n, r_find_L4 post n S l1 (-1) 0
set_option maxRecDepth 100000 in
set_option maxHeartbeats 1000000 in
theorem zr_find {g : Gm} {G : Gp} {S : Mem} {post : Int32 → Mem → Prop} {l1 : Int32} (hx : G.2.2.2 = false) (hG : isR G) (hw : r_find post S l1) : Z g M_r_find 0 0 0 (entryL [.ref 148, .int l1] (mL M_r_find)) [] (S, G) (Qi G post noEx) := by
  unfold r_find at hw
  show Z g M_r_find 0 0 0 [some (.ref 148), some (.int l1), none, none] [] (S, G) (Qi G post noEx)
  refine z_iconst (-1) rfl rfl ?_
  refine z_istore_n [some (.ref 148), some (.int l1), some (.int (-1)), none] rfl rfl rfl ?_
  refine z_iconst 0 rfl rfl ?_
  refine z_istore_n [some (.ref 148), some (.int l1), some (.int (-1)), some (.int 0)] rfl rfl rfl ?_
  refine Z.forget' [some (.ref 148), some (.int l1), some (.int (-1)), some (.int 0)] ⟨rfl, ⟨rfl, ⟨rfl, ⟨rfl, trivial⟩⟩⟩⟩ ?_
  obtain ⟨n, hw⟩ := hw
  exact zr_find_L4 hx hG n hw
def r_isIn_J45 (post : Int32 → Mem → Prop)  (S : Mem) (l3 : Int32) : Prop :=
  vp_nar .boolean (if l3 < 0 then 0 else 1 : Int32) = (if l3 < 0 then 0 else 1 : Int32) ∧ post (if l3 < 0 then 0 else 1 : Int32) S
set_option maxRecDepth 100000 in
set_option maxHeartbeats 1000000 in
theorem zr_isIn_J45 {g : Gm} {G : Gp} {post : Int32 → Mem → Prop} (hx : G.2.2.2 = false) (hG : isR G) {S : Mem} {l3 : Int32}  (hw : r_isIn_J45 post S l3) : Z g M_r_isIn 0 0 45 [some (.ref 148), none, none, some (.int l3)] [] (S, G) (Qi G post noEx) := by
  unfold r_isIn_J45 at hw
  refine z_iload_n rfl rfl ?_
  have hj46 : ∀ v : Int32, v = (if l3 < 0 then 0 else 1 : Int32) → Z g M_r_isIn 0 0 54 [some (.ref 148), none, none, some (.int l3)] [.int v] (S, G) (Qi G post noEx) := by
    intro v hv
    subst hv
    obtain ⟨hc1, hw⟩ := hw
    exact z_zret rfl rfl (nar_of hc1) rfl rfl (Or.inl ⟨_, _, rfl, rfl, hw⟩)
  refine z_if_lt rfl (fun hp46 => ?_) (fun hp46 => ?_)
  · refine z_iconst 0 rfl rfl ?_
    exact hj46 _ (by rw [if_pos hp46])
  · refine z_iconst 1 rfl rfl ?_
    refine z_goto rfl ?_
    exact hj46 _ (by rw [if_neg hp46])
def r_isIn_L2 (post : Int32 → Mem → Prop)  : Nat → Mem → Int32 → Int32 → Prop
  | 0, _, _, _ => False
  | n + 1, S, l2, l3 =>
  ((l3 < 0) →
   r_isIn_J45 post S l3) ∧
  ((¬ l3 < 0) →
   (vp_in ((8 * l3) + 0) 112) ∧ 
   (((S 154 ((8 * l3) + 0).toNatClampNeg) = l2) →
    r_isIn_J45 post S l3) ∧
   ((¬ (S 154 ((8 * l3) + 0).toNatClampNeg) = l2) →
    (vp_in ((8 * l3) + 7) 112) ∧ 
    ((0 ≤ (S 154 ((8 * l3) + 7).toNatClampNeg)) →
     (vp_in ((8 * l3) + 7) 112) ∧ 
     r_find (fun r1 S1 =>
      r_isIn_L2 post n S1 l2 r1) S (S 154 ((8 * l3) + 7).toNatClampNeg)) ∧
    ((¬ 0 ≤ (S 154 ((8 * l3) + 7).toNatClampNeg)) →
     r_isIn_L2 post n S l2 (-1))))
set_option maxRecDepth 100000 in
set_option maxHeartbeats 1000000 in
theorem zr_isIn_L2 {g : Gm} {G : Gp} {post : Int32 → Mem → Prop} (hx : G.2.2.2 = false) (hG : isR G) : ∀ (n : Nat) {S : Mem} {l2 : Int32} {l3 : Int32} , r_isIn_L2 post n S l2 l3 → Z g M_r_isIn 0 0 2 [some (.ref 148), none, some (.int l2), some (.int l3)] [] (S, G) (Qi G post noEx) := by
  intro n
  induction n with
  | zero =>
    intros
    rename_i hw
    exact hw.elim
  | succ n ih =>
    intro S l2 l3 hw
    rw [r_isIn_L2] at hw
    refine z_iload_n rfl rfl ?_
    refine z_if_lt rfl (fun hq => ?_) (fun hq => ?_)
    · replace hw := hw.1 hq
      refine Z.forget' [some (.ref 148), none, none, some (.int l3)] ⟨rfl, ⟨rfl, trivial⟩⟩ ?_
      exact zr_isIn_J45 hx hG hw
    · replace hw := hw.2 hq
      refine z_aload_n rfl rfl ?_
      refine z_iload_n rfl rfl ?_
      refine z_iconst 0 rfl rfl ?_
      obtain ⟨hc1, hw⟩ := hw
      refine z_cvi (M' := M_r_of) (post := fun v S' => (S 154 ((8 * l3) + 0).toNatClampNeg) = v ∧ S = S') [.int l3, .int 0] hx rfl w_754 cv_r_of hG.1 (by decide) rfl rfl rfl rfl (zr_of hx hG (⟨hc1, ⟨rfl, rfl⟩⟩)) ?_ (fun _ _ hf => hf.elim)
      rintro v S' ⟨rfl, rfl⟩
      refine z_iload_n rfl rfl ?_
      refine z_icmp_eq rfl (fun hq => ?_) (fun hq => ?_)
      · replace hw := hw.1 hq
        refine Z.forget' [some (.ref 148), none, none, some (.int l3)] ⟨rfl, ⟨rfl, trivial⟩⟩ ?_
        exact zr_isIn_J45 hx hG hw
      · replace hw := hw.2 hq
        refine z_aload_n rfl rfl ?_
        refine z_iload_n rfl rfl ?_
        refine z_bipush 7 rfl rfl ?_
        obtain ⟨hc2, hw⟩ := hw
        refine z_cvi (M' := M_r_of) (post := fun v S' => (S 154 ((8 * l3) + 7).toNatClampNeg) = v ∧ S = S') [.int l3, .int 7] hx rfl w_754 cv_r_of hG.1 (by decide) rfl rfl rfl rfl (zr_of hx hG (⟨hc2, ⟨rfl, rfl⟩⟩)) ?_ (fun _ _ hf => hf.elim)
        rintro v S' ⟨rfl, rfl⟩
        refine z_if_ge rfl (fun hq => ?_) (fun hq => ?_)
        · replace hw := hw.1 hq
          refine z_aload_n rfl rfl ?_
          refine z_aload_n rfl rfl ?_
          refine z_iload_n rfl rfl ?_
          refine z_bipush 7 rfl rfl ?_
          obtain ⟨hc3, hw⟩ := hw
          refine z_cvi (M' := M_r_of) (post := fun v S' => (S 154 ((8 * l3) + 7).toNatClampNeg) = v ∧ S = S') [.int l3, .int 7] hx rfl w_754 cv_r_of hG.1 (by decide) rfl rfl rfl rfl (zr_of hx hG (⟨hc3, ⟨rfl, rfl⟩⟩)) ?_ (fun _ _ hf => hf.elim)
          rintro v S' ⟨rfl, rfl⟩
          refine z_cvi (M' := M_r_find) [.int (S 154 ((8 * l3) + 7).toNatClampNeg)] hx rfl w_750 cv_r_find hG.1 (by decide) rfl rfl rfl rfl (zr_find hx hG hw) ?_ (fun _ _ hf => hf.elim)
          clear hw
          intro r1 S1 hw
          refine z_istore_n [some (.ref 148), none, some (.int l2), some (.int r1)] rfl rfl rfl ?_
          refine z_goto rfl ?_
          refine Z.forget' [some (.ref 148), none, some (.int l2), some (.int r1)] ⟨rfl, ⟨rfl, ⟨rfl, trivial⟩⟩⟩ ?_
          exact ih hw
        · replace hw := hw.2 hq
          refine z_iconst (-1) rfl rfl ?_
          refine z_goto rfl ?_
          refine z_istore_n [some (.ref 148), none, some (.int l2), some (.int (-1))] rfl rfl rfl ?_
          refine z_goto rfl ?_
          refine Z.forget' [some (.ref 148), none, some (.int l2), some (.int (-1))] ⟨rfl, ⟨rfl, ⟨rfl, trivial⟩⟩⟩ ?_
          exact ih hw
def r_isIn (post : Int32 → Mem → Prop) (S : Mem) (l1 : Int32) (l2 : Int32) : Prop :=
  ∃ n, r_isIn_L2 post n S l2 l1
set_option maxRecDepth 100000 in
set_option maxHeartbeats 1000000 in
theorem zr_isIn {g : Gm} {G : Gp} {S : Mem} {post : Int32 → Mem → Prop} {l1 : Int32} {l2 : Int32} (hx : G.2.2.2 = false) (hG : isR G) (hw : r_isIn post S l1 l2) : Z g M_r_isIn 0 0 0 (entryL [.ref 148, .int l1, .int l2] (mL M_r_isIn)) [] (S, G) (Qi G post noEx) := by
  unfold r_isIn at hw
  show Z g M_r_isIn 0 0 0 [some (.ref 148), some (.int l1), some (.int l2), none] [] (S, G) (Qi G post noEx)
  refine z_iload_n rfl rfl ?_
  refine z_istore_n [some (.ref 148), some (.int l1), some (.int l2), some (.int l1)] rfl rfl rfl ?_
  refine Z.forget' [some (.ref 148), none, some (.int l2), some (.int l1)] ⟨rfl, ⟨rfl, ⟨rfl, trivial⟩⟩⟩ ?_
  obtain ⟨n, hw⟩ := hw
  exact zr_isIn_L2 hx hG n hw
def r_behind_L4 (post : Int32 → Mem → Prop)  : Nat → Mem → Int32 → Int32 → Prop
  | 0, _, _, _ => False
  | n + 1, S, l1, l2 =>
  (((S 148 7) ≤ l2) →
   post l2 S) ∧
  ((¬ (S 148 7) ≤ l2) →
   (vp_in ((8 * l1) + 0) 112) ∧ 
   r_isIn (fun r1 S1 =>
    ((r1 = 0) →
     post l2 S1) ∧
    ((¬ r1 = 0) →
     r_behind_L4 post n S1 l1 (l2 + 1))) S l2 (S 154 ((8 * l1) + 0).toNatClampNeg))
set_option maxRecDepth 100000 in
set_option maxHeartbeats 1000000 in
theorem zr_behind_L4 {g : Gm} {G : Gp} {post : Int32 → Mem → Prop} (hx : G.2.2.2 = false) (hG : isR G) : ∀ (n : Nat) {S : Mem} {l1 : Int32} {l2 : Int32} , r_behind_L4 post n S l1 l2 → Z g M_r_behind 0 0 4 [some (.ref 148), some (.int l1), some (.int l2)] [] (S, G) (Qi G post noEx) := by
  intro n
  induction n with
  | zero =>
    intros
    rename_i hw
    exact hw.elim
  | succ n ih =>
    intro S l1 l2 hw
    rw [r_behind_L4] at hw
    refine z_iload_n rfl rfl ?_
    refine z_aload_n rfl rfl ?_
    refine z_geti (ci := 7) 7 rfl hG.1 rfl w_665 ?_
    refine z_icmp_ge rfl (fun hq => ?_) (fun hq => ?_)
    · replace hw := hw.1 hq
      refine z_iload_n rfl rfl ?_
      exact z_iret rfl rfl rfl rfl (Or.inl ⟨_, _, rfl, rfl, hw⟩)
    · replace hw := hw.2 hq
      refine z_aload_n rfl rfl ?_
      refine z_iload_n rfl rfl ?_
      refine z_aload_n rfl rfl ?_
      refine z_iload_n rfl rfl ?_
      refine z_iconst 0 rfl rfl ?_
      obtain ⟨hc1, hw⟩ := hw
      refine z_cvi (M' := M_r_of) (post := fun v S' => (S 154 ((8 * l1) + 0).toNatClampNeg) = v ∧ S = S') [.int l1, .int 0] hx rfl w_754 cv_r_of hG.1 (by decide) rfl rfl rfl rfl (zr_of hx hG (⟨hc1, ⟨rfl, rfl⟩⟩)) ?_ (fun _ _ hf => hf.elim)
      rintro v S' ⟨rfl, rfl⟩
      refine z_cvi (M' := M_r_isIn) [.int l2, .int (S 154 ((8 * l1) + 0).toNatClampNeg)] hx rfl w_762 cv_r_isIn hG.1 (by decide) rfl rfl rfl rfl (zr_isIn hx hG hw) ?_ (fun _ _ hf => hf.elim)
      clear hw
      intro r1 S1 hw
      refine z_if_eq rfl (fun hq => ?_) (fun hq => ?_)
      · replace hw := hw.1 hq
        refine z_iload_n rfl rfl ?_
        exact z_iret rfl rfl rfl rfl (Or.inl ⟨_, _, rfl, rfl, hw⟩)
      · replace hw := hw.2 hq
        refine z_iinc 1 [some (.ref 148), some (.int l1), some (.int (l2 + 1))] rfl rfl rfl rfl ?_
        refine z_goto rfl ?_
        refine Z.forget' [some (.ref 148), some (.int l1), some (.int (l2 + 1))] ⟨rfl, ⟨rfl, ⟨rfl, trivial⟩⟩⟩ ?_
        exact ih hw
def r_behind (post : Int32 → Mem → Prop) (S : Mem) (l1 : Int32) : Prop :=
  ∃ n, r_behind_L4 post n S l1 (l1 + 1)
set_option maxRecDepth 100000 in
set_option maxHeartbeats 1000000 in
theorem zr_behind {g : Gm} {G : Gp} {S : Mem} {post : Int32 → Mem → Prop} {l1 : Int32} (hx : G.2.2.2 = false) (hG : isR G) (hw : r_behind post S l1) : Z g M_r_behind 0 0 0 (entryL [.ref 148, .int l1] (mL M_r_behind)) [] (S, G) (Qi G post noEx) := by
  unfold r_behind at hw
  show Z g M_r_behind 0 0 0 [some (.ref 148), some (.int l1), none] [] (S, G) (Qi G post noEx)
  refine z_iload_n rfl rfl ?_
  refine z_iconst 1 rfl rfl ?_
  refine z_iadd rfl ?_
  refine z_istore_n [some (.ref 148), some (.int l1), some (.int (l1 + 1))] rfl rfl rfl ?_
  refine Z.forget' [some (.ref 148), some (.int l1), some (.int (l1 + 1))] ⟨rfl, ⟨rfl, ⟨rfl, trivial⟩⟩⟩ ?_
  obtain ⟨n, hw⟩ := hw
  exact zr_behind_L4 hx hG n hw
def r_copyCells_L2 (post : Mem → Prop)  : Nat → Mem → Int32 → Int32 → Int32 → Prop
  | 0, _, _, _, _ => False
  | n + 1, S, l1, l2, l3 =>
  ((8 ≤ l3) →
   post S) ∧
  ((¬ 8 ≤ l3) →
   (vp_in ((8 * l1) + l3) 112) ∧ (vp_in ((8 * l2) + l3) 112) ∧ ∀ S1, S1 = up2 S 154 ((8 * l2) + l3).toNatClampNeg (S 154 ((8 * l1) + l3).toNatClampNeg) → r_copyCells_L2 post n S1 l1 l2 (l3 + 1))
set_option maxRecDepth 100000 in
set_option maxHeartbeats 1000000 in
theorem zr_copyCells_L2 {g : Gm} {G : Gp} {post : Mem → Prop} (hx : G.2.2.2 = false) (hG : isR G) : ∀ (n : Nat) {S : Mem} {l1 : Int32} {l2 : Int32} {l3 : Int32} , r_copyCells_L2 post n S l1 l2 l3 → Z g M_r_copyCells 0 0 2 [some (.ref 148), some (.int l1), some (.int l2), some (.int l3)] [] (S, G) (Qv G post noEx) := by
  intro n
  induction n with
  | zero =>
    intros
    rename_i hw
    exact hw.elim
  | succ n ih =>
    intro S l1 l2 l3 hw
    rw [r_copyCells_L2] at hw
    refine z_iload_n rfl rfl ?_
    refine z_bipush 8 rfl rfl ?_
    refine z_icmp_ge rfl (fun hq => ?_) (fun hq => ?_)
    · replace hw := hw.1 hq
      exact z_vret rfl rfl rfl rfl (Or.inl ⟨_, rfl, rfl, hw⟩)
    · replace hw := hw.2 hq
      refine z_aload_n rfl rfl ?_
      refine z_getr (ci := 7) 8 rfl hG.1 rfl w_666 hG.2.2.2.2.2.2.2.2.2.2.2.1 ?_
      refine z_bipush 8 rfl rfl ?_
      refine z_iload_n rfl rfl ?_
      refine z_imul rfl ?_
      refine z_iload_n rfl rfl ?_
      refine z_iadd rfl ?_
      refine z_aload_n rfl rfl ?_
      refine z_getr (ci := 7) 8 rfl hG.1 rfl w_666 hG.2.2.2.2.2.2.2.2.2.2.2.1 ?_
      refine z_bipush 8 rfl rfl ?_
      refine z_iload_n rfl rfl ?_
      refine z_imul rfl ?_
      refine z_iload_n rfl rfl ?_
      refine z_iadd rfl ?_
      obtain ⟨hc1, hw⟩ := hw
      refine z_iald (((8 * l1) + l3).toNatClampNeg) rfl hG.2.2.2.2.2.2.2.2.2.2.2.2.1 hc1 rfl ?_
      obtain ⟨hc2, hw⟩ := hw
      replace hw := hw _ rfl
      refine z_iast (((8 * l2) + l3).toNatClampNeg) rfl hG.2.2.2.2.2.2.2.2.2.2.2.2.1 hc2 rfl ?_
      refine z_iinc 1 [some (.ref 148), some (.int l1), some (.int l2), some (.int (l3 + 1))] rfl rfl rfl rfl ?_
      refine z_goto rfl ?_
      refine Z.forget' [some (.ref 148), some (.int l1), some (.int l2), some (.int (l3 + 1))] ⟨rfl, ⟨rfl, ⟨rfl, ⟨rfl, trivial⟩⟩⟩⟩ ?_
      exact ih hw
def r_copyCells (post : Mem → Prop) (S : Mem) (l1 : Int32) (l2 : Int32) : Prop :=
  ∃ n, r_copyCells_L2 post n S l1 l2 0
set_option maxRecDepth 100000 in
set_option maxHeartbeats 1000000 in
theorem zr_copyCells {g : Gm} {G : Gp} {S : Mem} {post : Mem → Prop} {l1 : Int32} {l2 : Int32} (hx : G.2.2.2 = false) (hG : isR G) (hw : r_copyCells post S l1 l2) : Z g M_r_copyCells 0 0 0 (entryL [.ref 148, .int l1, .int l2] (mL M_r_copyCells)) [] (S, G) (Qv G post noEx) := by
  unfold r_copyCells at hw
  show Z g M_r_copyCells 0 0 0 [some (.ref 148), some (.int l1), some (.int l2), none] [] (S, G) (Qv G post noEx)
  refine z_iconst 0 rfl rfl ?_
  refine z_istore_n [some (.ref 148), some (.int l1), some (.int l2), some (.int 0)] rfl rfl rfl ?_
  refine Z.forget' [some (.ref 148), some (.int l1), some (.int l2), some (.int 0)] ⟨rfl, ⟨rfl, ⟨rfl, ⟨rfl, trivial⟩⟩⟩⟩ ?_
  obtain ⟨n, hw⟩ := hw
  exact zr_copyCells_L2 hx hG n hw
def r_takeOut_L2 (post : Mem → Prop)  : Nat → Mem → Int32 → Int32 → Int32 → Prop
  | 0, _, _, _, _ => False
  | n + 1, S, l1, l2, l3 =>
  (((S 148 7) ≤ l3) →
   ∀ S1, S1 = up2 S 148 7 ((S 148 7) - (l2 - l1)) → post S1) ∧
  ((¬ (S 148 7) ≤ l3) →
   r_copyCells (fun S2 =>
    r_takeOut_L2 post n S2 l1 l2 (l3 + 1)) S l3 (l3 - (l2 - l1)))
set_option maxRecDepth 100000 in
set_option maxHeartbeats 1000000 in
theorem zr_takeOut_L2 {g : Gm} {G : Gp} {post : Mem → Prop} (hx : G.2.2.2 = false) (hG : isR G) : ∀ (n : Nat) {S : Mem} {l1 : Int32} {l2 : Int32} {l3 : Int32} , r_takeOut_L2 post n S l1 l2 l3 → Z g M_r_takeOut 0 0 2 [some (.ref 148), some (.int l1), some (.int l2), some (.int l3)] [] (S, G) (Qv G post noEx) := by
  intro n
  induction n with
  | zero =>
    intros
    rename_i hw
    exact hw.elim
  | succ n ih =>
    intro S l1 l2 l3 hw
    rw [r_takeOut_L2] at hw
    refine z_iload_n rfl rfl ?_
    refine z_aload_n rfl rfl ?_
    refine z_geti (ci := 7) 7 rfl hG.1 rfl w_665 ?_
    refine z_icmp_ge rfl (fun hq => ?_) (fun hq => ?_)
    · replace hw := hw.1 hq
      refine z_aload_n rfl rfl ?_
      refine z_aload_n rfl rfl ?_
      refine z_geti (ci := 7) 7 rfl hG.1 rfl w_665 ?_
      refine z_iload_n rfl rfl ?_
      refine z_iload_n rfl rfl ?_
      refine z_isub rfl ?_
      refine z_isub rfl ?_
      replace hw := hw _ rfl
      refine z_puti (ci := 7) 7 rfl hG.1 rfl w_665 rfl rfl rfl ?_
      exact z_vret rfl rfl rfl rfl (Or.inl ⟨_, rfl, rfl, hw⟩)
    · replace hw := hw.2 hq
      refine z_aload_n rfl rfl ?_
      refine z_iload_n rfl rfl ?_
      refine z_iload_n rfl rfl ?_
      refine z_iload_n rfl rfl ?_
      refine z_iload_n rfl rfl ?_
      refine z_isub rfl ?_
      refine z_isub rfl ?_
      refine z_cvv (M' := M_r_copyCells) [.int l3, .int (l3 - (l2 - l1))] hx rfl w_790 cv_r_copyCells hG.1 (by decide) rfl rfl rfl rfl (zr_copyCells hx hG hw) ?_ (fun _ _ hf => hf.elim)
      clear hw
      intro S2 hw
      refine z_iinc 1 [some (.ref 148), some (.int l1), some (.int l2), some (.int (l3 + 1))] rfl rfl rfl rfl ?_
      refine z_goto rfl ?_
      refine Z.forget' [some (.ref 148), some (.int l1), some (.int l2), some (.int (l3 + 1))] ⟨rfl, ⟨rfl, ⟨rfl, ⟨rfl, trivial⟩⟩⟩⟩ ?_
      exact ih hw
def r_takeOut (post : Mem → Prop) (S : Mem) (l1 : Int32) (l2 : Int32) : Prop :=
  ∃ n, r_takeOut_L2 post n S l1 l2 l2
set_option maxRecDepth 100000 in
set_option maxHeartbeats 1000000 in
theorem zr_takeOut {g : Gm} {G : Gp} {S : Mem} {post : Mem → Prop} {l1 : Int32} {l2 : Int32} (hx : G.2.2.2 = false) (hG : isR G) (hw : r_takeOut post S l1 l2) : Z g M_r_takeOut 0 0 0 (entryL [.ref 148, .int l1, .int l2] (mL M_r_takeOut)) [] (S, G) (Qv G post noEx) := by
  unfold r_takeOut at hw
  show Z g M_r_takeOut 0 0 0 [some (.ref 148), some (.int l1), some (.int l2), none] [] (S, G) (Qv G post noEx)
  refine z_iload_n rfl rfl ?_
  refine z_istore_n [some (.ref 148), some (.int l1), some (.int l2), some (.int l2)] rfl rfl rfl ?_
  refine Z.forget' [some (.ref 148), some (.int l1), some (.int l2), some (.int l2)] ⟨rfl, ⟨rfl, ⟨rfl, ⟨rfl, trivial⟩⟩⟩⟩ ?_
  obtain ⟨n, hw⟩ := hw
  exact zr_takeOut_L2 hx hG n hw
def r_makeRoom_L7 (post : Mem → Prop)  : Nat → Mem → Int32 → Int32 → Int32 → Prop
  | 0, _, _, _, _ => False
  | n + 1, S, l1, l2, l3 =>
  ((l3 < l1) →
   ∀ S1, S1 = up2 S 148 7 ((S 148 7) + l2) → post S1) ∧
  ((¬ l3 < l1) →
   r_copyCells (fun S2 =>
    r_makeRoom_L7 post n S2 l1 l2 (l3 + (-1))) S l3 (l3 + l2))
set_option maxRecDepth 100000 in
set_option maxHeartbeats 1000000 in
theorem zr_makeRoom_L7 {g : Gm} {G : Gp} {post : Mem → Prop} (hx : G.2.2.2 = false) (hG : isR G) : ∀ (n : Nat) {S : Mem} {l1 : Int32} {l2 : Int32} {l3 : Int32} , r_makeRoom_L7 post n S l1 l2 l3 → Z g M_r_makeRoom 0 0 7 [some (.ref 148), some (.int l1), some (.int l2), some (.int l3)] [] (S, G) (Qv G post noEx) := by
  intro n
  induction n with
  | zero =>
    intros
    rename_i hw
    exact hw.elim
  | succ n ih =>
    intro S l1 l2 l3 hw
    rw [r_makeRoom_L7] at hw
    refine z_iload_n rfl rfl ?_
    refine z_iload_n rfl rfl ?_
    refine z_icmp_lt rfl (fun hq => ?_) (fun hq => ?_)
    · replace hw := hw.1 hq
      refine z_aload_n rfl rfl ?_
      refine z_aload_n rfl rfl ?_
      refine z_geti (ci := 7) 7 rfl hG.1 rfl w_665 ?_
      refine z_iload_n rfl rfl ?_
      refine z_iadd rfl ?_
      replace hw := hw _ rfl
      refine z_puti (ci := 7) 7 rfl hG.1 rfl w_665 rfl rfl rfl ?_
      exact z_vret rfl rfl rfl rfl (Or.inl ⟨_, rfl, rfl, hw⟩)
    · replace hw := hw.2 hq
      refine z_aload_n rfl rfl ?_
      refine z_iload_n rfl rfl ?_
      refine z_iload_n rfl rfl ?_
      refine z_iload_n rfl rfl ?_
      refine z_iadd rfl ?_
      refine z_cvv (M' := M_r_copyCells) [.int l3, .int (l3 + l2)] hx rfl w_790 cv_r_copyCells hG.1 (by decide) rfl rfl rfl rfl (zr_copyCells hx hG hw) ?_ (fun _ _ hf => hf.elim)
      clear hw
      intro S2 hw
      refine z_iinc (-1) [some (.ref 148), some (.int l1), some (.int l2), some (.int (l3 + (-1)))] rfl rfl rfl rfl ?_
      refine z_goto rfl ?_
      refine Z.forget' [some (.ref 148), some (.int l1), some (.int l2), some (.int (l3 + (-1)))] ⟨rfl, ⟨rfl, ⟨rfl, ⟨rfl, trivial⟩⟩⟩⟩ ?_
      exact ih hw
def r_makeRoom (post : Mem → Prop) (S : Mem) (l1 : Int32) (l2 : Int32) : Prop :=
  ∃ n, r_makeRoom_L7 post n S l1 l2 ((S 148 7) - 1)
set_option maxRecDepth 100000 in
set_option maxHeartbeats 1000000 in
theorem zr_makeRoom {g : Gm} {G : Gp} {S : Mem} {post : Mem → Prop} {l1 : Int32} {l2 : Int32} (hx : G.2.2.2 = false) (hG : isR G) (hw : r_makeRoom post S l1 l2) : Z g M_r_makeRoom 0 0 0 (entryL [.ref 148, .int l1, .int l2] (mL M_r_makeRoom)) [] (S, G) (Qv G post noEx) := by
  unfold r_makeRoom at hw
  show Z g M_r_makeRoom 0 0 0 [some (.ref 148), some (.int l1), some (.int l2), none] [] (S, G) (Qv G post noEx)
  refine z_aload_n rfl rfl ?_
  refine z_geti (ci := 7) 7 rfl hG.1 rfl w_665 ?_
  refine z_iconst 1 rfl rfl ?_
  refine z_isub rfl ?_
  refine z_istore_n [some (.ref 148), some (.int l1), some (.int l2), some (.int ((S 148 7) - 1))] rfl rfl rfl ?_
  refine Z.forget' [some (.ref 148), some (.int l1), some (.int l2), some (.int ((S 148 7) - 1))] ⟨rfl, ⟨rfl, ⟨rfl, ⟨rfl, trivial⟩⟩⟩⟩ ?_
  obtain ⟨n, hw⟩ := hw
  exact zr_makeRoom_L7 hx hG n hw
def r_lift_L5 (post : Mem → Prop)  : Nat → Mem → Int32 → Int32 → Int32 → Prop
  | 0, _, _, _, _ => False
  | n + 1, S, l1, l2, l3 =>
  (((8 * l2) ≤ l3) →
   r_takeOut (fun S1 =>
    post S1) S l1 l2) ∧
  ((¬ (8 * l2) ≤ l3) →
   (vp_in l3 112) ∧ (vp_in (l3 - (8 * l1)) 112) ∧ ∀ S2, S2 = up2 S 156 (l3 - (8 * l1)).toNatClampNeg (S 154 l3.toNatClampNeg) → r_lift_L5 post n S2 l1 l2 (l3 + 1))
set_option maxRecDepth 100000 in
set_option maxHeartbeats 1000000 in
theorem zr_lift_L5 {g : Gm} {G : Gp} {post : Mem → Prop} (hx : G.2.2.2 = false) (hG : isR G) : ∀ (n : Nat) {S : Mem} {l1 : Int32} {l2 : Int32} {l3 : Int32} , r_lift_L5 post n S l1 l2 l3 → Z g M_r_lift 0 0 5 [some (.ref 148), some (.int l1), some (.int l2), some (.int l3)] [] (S, G) (Qv G post noEx) := by
  intro n
  induction n with
  | zero =>
    intros
    rename_i hw
    exact hw.elim
  | succ n ih =>
    intro S l1 l2 l3 hw
    rw [r_lift_L5] at hw
    refine z_iload_n rfl rfl ?_
    refine z_bipush 8 rfl rfl ?_
    refine z_iload_n rfl rfl ?_
    refine z_imul rfl ?_
    refine z_icmp_ge rfl (fun hq => ?_) (fun hq => ?_)
    · replace hw := hw.1 hq
      refine z_aload_n rfl rfl ?_
      refine z_iload_n rfl rfl ?_
      refine z_iload_n rfl rfl ?_
      refine z_cvv (M' := M_r_takeOut) [.int l1, .int l2] hx rfl w_786 cv_r_takeOut hG.1 (by decide) rfl rfl rfl rfl (zr_takeOut hx hG hw) ?_ (fun _ _ hf => hf.elim)
      clear hw
      intro S1 hw
      exact z_vret rfl rfl rfl rfl (Or.inl ⟨_, rfl, rfl, hw⟩)
    · replace hw := hw.2 hq
      refine z_aload_n rfl rfl ?_
      refine z_getr (ci := 7) 11 rfl hG.1 rfl w_669 hG.2.2.2.2.2.2.2.2.2.2.2.2.2.2.2.1 ?_
      refine z_iload_n rfl rfl ?_
      refine z_bipush 8 rfl rfl ?_
      refine z_iload_n rfl rfl ?_
      refine z_imul rfl ?_
      refine z_isub rfl ?_
      refine z_aload_n rfl rfl ?_
      refine z_getr (ci := 7) 8 rfl hG.1 rfl w_666 hG.2.2.2.2.2.2.2.2.2.2.2.1 ?_
      refine z_iload_n rfl rfl ?_
      obtain ⟨hc1, hw⟩ := hw
      refine z_iald (l3.toNatClampNeg) rfl hG.2.2.2.2.2.2.2.2.2.2.2.2.1 hc1 rfl ?_
      obtain ⟨hc2, hw⟩ := hw
      replace hw := hw _ rfl
      refine z_iast ((l3 - (8 * l1)).toNatClampNeg) rfl hG.2.2.2.2.2.2.2.2.2.2.2.2.2.2.2.2.1 hc2 rfl ?_
      refine z_iinc 1 [some (.ref 148), some (.int l1), some (.int l2), some (.int (l3 + 1))] rfl rfl rfl rfl ?_
      refine z_goto rfl ?_
      refine Z.forget' [some (.ref 148), some (.int l1), some (.int l2), some (.int (l3 + 1))] ⟨rfl, ⟨rfl, ⟨rfl, ⟨rfl, trivial⟩⟩⟩⟩ ?_
      exact ih hw
def r_lift (post : Mem → Prop) (S : Mem) (l1 : Int32) (l2 : Int32) : Prop :=
  ∃ n, r_lift_L5 post n S l1 l2 (8 * l1)
set_option maxRecDepth 100000 in
set_option maxHeartbeats 1000000 in
theorem zr_lift {g : Gm} {G : Gp} {S : Mem} {post : Mem → Prop} {l1 : Int32} {l2 : Int32} (hx : G.2.2.2 = false) (hG : isR G) (hw : r_lift post S l1 l2) : Z g M_r_lift 0 0 0 (entryL [.ref 148, .int l1, .int l2] (mL M_r_lift)) [] (S, G) (Qv G post noEx) := by
  unfold r_lift at hw
  show Z g M_r_lift 0 0 0 [some (.ref 148), some (.int l1), some (.int l2), none] [] (S, G) (Qv G post noEx)
  refine z_bipush 8 rfl rfl ?_
  refine z_iload_n rfl rfl ?_
  refine z_imul rfl ?_
  refine z_istore_n [some (.ref 148), some (.int l1), some (.int l2), some (.int (8 * l1))] rfl rfl rfl ?_
  refine Z.forget' [some (.ref 148), some (.int l1), some (.int l2), some (.int (8 * l1))] ⟨rfl, ⟨rfl, ⟨rfl, ⟨rfl, trivial⟩⟩⟩⟩ ?_
  obtain ⟨n, hw⟩ := hw
  exact zr_lift_L5 hx hG n hw
def r_lay_L8 (post : Mem → Prop)  : Nat → Mem → Int32 → Int32 → Int32 → Prop
  | 0, _, _, _, _ => False
  | n + 1, S, l1, l2, l3 =>
  (((8 * l2) ≤ l3) →
   post S) ∧
  ((¬ (8 * l2) ≤ l3) →
   (vp_in l3 112) ∧ (vp_in ((8 * l1) + l3) 112) ∧ ∀ S1, S1 = up2 S 154 ((8 * l1) + l3).toNatClampNeg (S 156 l3.toNatClampNeg) → r_lay_L8 post n S1 l1 l2 (l3 + 1))
set_option maxRecDepth 100000 in
set_option maxHeartbeats 1000000 in
theorem zr_lay_L8 {g : Gm} {G : Gp} {post : Mem → Prop} (hx : G.2.2.2 = false) (hG : isR G) : ∀ (n : Nat) {S : Mem} {l1 : Int32} {l2 : Int32} {l3 : Int32} , r_lay_L8 post n S l1 l2 l3 → Z g M_r_lay 0 0 8 [some (.ref 148), some (.int l1), some (.int l2), some (.int l3)] [] (S, G) (Qv G post noEx) := by
  intro n
  induction n with
  | zero =>
    intros
    rename_i hw
    exact hw.elim
  | succ n ih =>
    intro S l1 l2 l3 hw
    rw [r_lay_L8] at hw
    refine z_iload_n rfl rfl ?_
    refine z_bipush 8 rfl rfl ?_
    refine z_iload_n rfl rfl ?_
    refine z_imul rfl ?_
    refine z_icmp_ge rfl (fun hq => ?_) (fun hq => ?_)
    · replace hw := hw.1 hq
      exact z_vret rfl rfl rfl rfl (Or.inl ⟨_, rfl, rfl, hw⟩)
    · replace hw := hw.2 hq
      refine z_aload_n rfl rfl ?_
      refine z_getr (ci := 7) 8 rfl hG.1 rfl w_666 hG.2.2.2.2.2.2.2.2.2.2.2.1 ?_
      refine z_bipush 8 rfl rfl ?_
      refine z_iload_n rfl rfl ?_
      refine z_imul rfl ?_
      refine z_iload_n rfl rfl ?_
      refine z_iadd rfl ?_
      refine z_aload_n rfl rfl ?_
      refine z_getr (ci := 7) 11 rfl hG.1 rfl w_669 hG.2.2.2.2.2.2.2.2.2.2.2.2.2.2.2.1 ?_
      refine z_iload_n rfl rfl ?_
      obtain ⟨hc1, hw⟩ := hw
      refine z_iald (l3.toNatClampNeg) rfl hG.2.2.2.2.2.2.2.2.2.2.2.2.2.2.2.2.1 hc1 rfl ?_
      obtain ⟨hc2, hw⟩ := hw
      replace hw := hw _ rfl
      refine z_iast (((8 * l1) + l3).toNatClampNeg) rfl hG.2.2.2.2.2.2.2.2.2.2.2.2.1 hc2 rfl ?_
      refine z_iinc 1 [some (.ref 148), some (.int l1), some (.int l2), some (.int (l3 + 1))] rfl rfl rfl rfl ?_
      refine z_goto rfl ?_
      refine Z.forget' [some (.ref 148), some (.int l1), some (.int l2), some (.int (l3 + 1))] ⟨rfl, ⟨rfl, ⟨rfl, ⟨rfl, trivial⟩⟩⟩⟩ ?_
      exact ih hw
def r_lay (post : Mem → Prop) (S : Mem) (l1 : Int32) (l2 : Int32) : Prop :=
  r_makeRoom (fun S1 =>
   ∃ n, r_lay_L8 post n S1 l1 l2 0) S l1 l2
set_option maxRecDepth 100000 in
set_option maxHeartbeats 1000000 in
theorem zr_lay {g : Gm} {G : Gp} {S : Mem} {post : Mem → Prop} {l1 : Int32} {l2 : Int32} (hx : G.2.2.2 = false) (hG : isR G) (hw : r_lay post S l1 l2) : Z g M_r_lay 0 0 0 (entryL [.ref 148, .int l1, .int l2] (mL M_r_lay)) [] (S, G) (Qv G post noEx) := by
  unfold r_lay at hw
  show Z g M_r_lay 0 0 0 [some (.ref 148), some (.int l1), some (.int l2), none] [] (S, G) (Qv G post noEx)
  refine z_aload_n rfl rfl ?_
  refine z_iload_n rfl rfl ?_
  refine z_iload_n rfl rfl ?_
  refine z_cvv (M' := M_r_makeRoom) [.int l1, .int l2] hx rfl w_823 cv_r_makeRoom hG.1 (by decide) rfl rfl rfl rfl (zr_makeRoom hx hG hw) ?_ (fun _ _ hf => hf.elim)
  clear hw
  intro S1 hw
  refine z_iconst 0 rfl rfl ?_
  refine z_istore_n [some (.ref 148), some (.int l1), some (.int l2), some (.int 0)] rfl rfl rfl ?_
  refine Z.forget' [some (.ref 148), some (.int l1), some (.int l2), some (.int 0)] ⟨rfl, ⟨rfl, ⟨rfl, ⟨rfl, trivial⟩⟩⟩⟩ ?_
  obtain ⟨n, hw⟩ := hw
  exact zr_lay_L8 hx hG n hw
def r_findBox_L26 (post : Mem → Prop)  : Nat → Mem → Int32 → Int32 → Prop
  | 0, _, _, _ => False
  | n + 1, S, l2, l3 =>
  ((l2 ≤ l3) →
   post S) ∧
  ((¬ l2 ≤ l3) →
   (vp_in ((8 * l3) + 1) 112) ∧ 
   (((S 154 ((8 * l3) + 1).toNatClampNeg) = 3) →
    r_findBox_L26 post n S l2 (l3 + 1)) ∧
   ((¬ (S 154 ((8 * l3) + 1).toNatClampNeg) = 3) →
    (vp_in ((8 * l3) + 2) 112) ∧ 
    (vp_in ((8 * l3) + 4) 112) ∧ 
    (vp_in ((8 * l3) + 3) 112) ∧ 
    (vp_in ((8 * l3) + 5) 112) ∧ 
    (vp_in ((8 * l3) + 2) 112) ∧ 
    ((¬ (S 148 12) ≤ (S 154 ((8 * l3) + 2).toNatClampNeg) → (vp_in ((8 * l3) + 2) 112))) ∧ 
    ∀ S1, S1 = up2 S 148 12 (if (S 148 12) ≤ (S 154 ((8 * l3) + 2).toNatClampNeg) then (S 148 12) else (S 154 ((8 * l3) + 2).toNatClampNeg) : Int32) → (vp_in ((8 * l3) + 3) 112) ∧ 
    ((¬ (S1 148 13) ≤ (S1 154 ((8 * l3) + 3).toNatClampNeg) → (vp_in ((8 * l3) + 3) 112))) ∧ 
    ∀ S2, S2 = up2 S1 148 13 (if (S1 148 13) ≤ (S1 154 ((8 * l3) + 3).toNatClampNeg) then (S1 148 13) else (S1 154 ((8 * l3) + 3).toNatClampNeg) : Int32) → ∀ S3, S3 = up2 S2 148 14 (if ((S 154 ((8 * l3) + 2).toNatClampNeg) + (S 154 ((8 * l3) + 4).toNatClampNeg)) ≤ (S2 148 14) then (S2 148 14) else ((S 154 ((8 * l3) + 2).toNatClampNeg) + (S 154 ((8 * l3) + 4).toNatClampNeg)) : Int32) → ∀ S4, S4 = up2 S3 148 15 (if ((S 154 ((8 * l3) + 3).toNatClampNeg) + (S 154 ((8 * l3) + 5).toNatClampNeg)) ≤ (S3 148 15) then (S3 148 15) else ((S 154 ((8 * l3) + 3).toNatClampNeg) + (S 154 ((8 * l3) + 5).toNatClampNeg)) : Int32) → r_findBox_L26 post n S4 l2 (l3 + 1)))
set_option maxRecDepth 100000 in
set_option maxHeartbeats 1000000 in
theorem zr_findBox_L26 {g : Gm} {G : Gp} {post : Mem → Prop} (hx : G.2.2.2 = false) (hG : isR G) : ∀ (n : Nat) {S : Mem} {l2 : Int32} {l3 : Int32} , r_findBox_L26 post n S l2 l3 → Z g M_r_findBox 0 0 26 [some (.ref 148), none, some (.int l2), some (.int l3), none, none] [] (S, G) (Qv G post noEx) := by
  intro n
  induction n with
  | zero =>
    intros
    rename_i hw
    exact hw.elim
  | succ n ih =>
    intro S l2 l3 hw
    rw [r_findBox_L26] at hw
    refine z_iload_n rfl rfl ?_
    refine z_iload_n rfl rfl ?_
    refine z_icmp_ge rfl (fun hq => ?_) (fun hq => ?_)
    · replace hw := hw.1 hq
      exact z_vret rfl rfl rfl rfl (Or.inl ⟨_, rfl, rfl, hw⟩)
    · replace hw := hw.2 hq
      refine z_aload_n rfl rfl ?_
      refine z_iload_n rfl rfl ?_
      refine z_iconst 1 rfl rfl ?_
      obtain ⟨hc1, hw⟩ := hw
      refine z_cvi (M' := M_r_of) (post := fun v S' => (S 154 ((8 * l3) + 1).toNatClampNeg) = v ∧ S = S') [.int l3, .int 1] hx rfl w_754 cv_r_of hG.1 (by decide) rfl rfl rfl rfl (zr_of hx hG (⟨hc1, ⟨rfl, rfl⟩⟩)) ?_ (fun _ _ hf => hf.elim)
      rintro v S' ⟨rfl, rfl⟩
      refine z_iconst 3 rfl rfl ?_
      refine z_icmp_eq rfl (fun hq => ?_) (fun hq => ?_)
      · replace hw := hw.1 hq
        refine z_iinc 1 [some (.ref 148), none, some (.int l2), some (.int (l3 + 1)), none, none] rfl rfl rfl rfl ?_
        refine z_goto rfl ?_
        refine Z.forget' [some (.ref 148), none, some (.int l2), some (.int (l3 + 1)), none, none] ⟨rfl, ⟨rfl, ⟨rfl, trivial⟩⟩⟩ ?_
        exact ih hw
      · replace hw := hw.2 hq
        refine z_aload_n rfl rfl ?_
        refine z_iload_n rfl rfl ?_
        refine z_iconst 2 rfl rfl ?_
        obtain ⟨hc2, hw⟩ := hw
        refine z_cvi (M' := M_r_of) (post := fun v S' => (S 154 ((8 * l3) + 2).toNatClampNeg) = v ∧ S = S') [.int l3, .int 2] hx rfl w_754 cv_r_of hG.1 (by decide) rfl rfl rfl rfl (zr_of hx hG (⟨hc2, ⟨rfl, rfl⟩⟩)) ?_ (fun _ _ hf => hf.elim)
        rintro v S' ⟨rfl, rfl⟩
        refine z_aload_n rfl rfl ?_
        refine z_iload_n rfl rfl ?_
        refine z_iconst 4 rfl rfl ?_
        obtain ⟨hc3, hw⟩ := hw
        refine z_cvi (M' := M_r_of) (post := fun v S' => (S 154 ((8 * l3) + 4).toNatClampNeg) = v ∧ S = S') [.int l3, .int 4] hx rfl w_754 cv_r_of hG.1 (by decide) rfl rfl rfl rfl (zr_of hx hG (⟨hc3, ⟨rfl, rfl⟩⟩)) ?_ (fun _ _ hf => hf.elim)
        rintro v S' ⟨rfl, rfl⟩
        refine z_iadd rfl ?_
        refine z_istore [some (.ref 148), none, some (.int l2), some (.int l3), some (.int ((S 154 ((8 * l3) + 2).toNatClampNeg) + (S 154 ((8 * l3) + 4).toNatClampNeg))), none] rfl rfl rfl ?_
        refine z_aload_n rfl rfl ?_
        refine z_iload_n rfl rfl ?_
        refine z_iconst 3 rfl rfl ?_
        obtain ⟨hc4, hw⟩ := hw
        refine z_cvi (M' := M_r_of) (post := fun v S' => (S 154 ((8 * l3) + 3).toNatClampNeg) = v ∧ S = S') [.int l3, .int 3] hx rfl w_754 cv_r_of hG.1 (by decide) rfl rfl rfl rfl (zr_of hx hG (⟨hc4, ⟨rfl, rfl⟩⟩)) ?_ (fun _ _ hf => hf.elim)
        rintro v S' ⟨rfl, rfl⟩
        refine z_aload_n rfl rfl ?_
        refine z_iload_n rfl rfl ?_
        refine z_iconst 5 rfl rfl ?_
        obtain ⟨hc5, hw⟩ := hw
        refine z_cvi (M' := M_r_of) (post := fun v S' => (S 154 ((8 * l3) + 5).toNatClampNeg) = v ∧ S = S') [.int l3, .int 5] hx rfl w_754 cv_r_of hG.1 (by decide) rfl rfl rfl rfl (zr_of hx hG (⟨hc5, ⟨rfl, rfl⟩⟩)) ?_ (fun _ _ hf => hf.elim)
        rintro v S' ⟨rfl, rfl⟩
        refine z_iadd rfl ?_
        refine z_istore [some (.ref 148), none, some (.int l2), some (.int l3), some (.int ((S 154 ((8 * l3) + 2).toNatClampNeg) + (S 154 ((8 * l3) + 4).toNatClampNeg))), some (.int ((S 154 ((8 * l3) + 3).toNatClampNeg) + (S 154 ((8 * l3) + 5).toNatClampNeg)))] rfl rfl rfl ?_
        refine z_aload_n rfl rfl ?_
        refine z_aload_n rfl rfl ?_
        refine z_iload_n rfl rfl ?_
        refine z_iconst 2 rfl rfl ?_
        obtain ⟨hc6, hw⟩ := hw
        refine z_cvi (M' := M_r_of) (post := fun v S' => (S 154 ((8 * l3) + 2).toNatClampNeg) = v ∧ S = S') [.int l3, .int 2] hx rfl w_754 cv_r_of hG.1 (by decide) rfl rfl rfl rfl (zr_of hx hG (⟨hc6, ⟨rfl, rfl⟩⟩)) ?_ (fun _ _ hf => hf.elim)
        rintro v S' ⟨rfl, rfl⟩
        refine z_aload_n rfl rfl ?_
        refine z_geti (ci := 7) 12 rfl hG.1 rfl w_670 ?_
        obtain ⟨hc11, hw⟩ := hw
        have hj82 : ∀ v : Int32, v = (if (S 148 12) ≤ (S 154 ((8 * l3) + 2).toNatClampNeg) then (S 148 12) else (S 154 ((8 * l3) + 2).toNatClampNeg) : Int32) → Z g M_r_findBox 0 0 98 [some (.ref 148), none, some (.int l2), some (.int l3), some (.int ((S 154 ((8 * l3) + 2).toNatClampNeg) + (S 154 ((8 * l3) + 4).toNatClampNeg))), some (.int ((S 154 ((8 * l3) + 3).toNatClampNeg) + (S 154 ((8 * l3) + 5).toNatClampNeg)))] [.int v, .ref 148] (S, G) (Qv G post noEx) := by
          intro v hv
          subst hv
          replace hw := hw _ rfl
          refine z_puti (ci := 7) 12 rfl hG.1 rfl w_670 rfl rfl rfl ?_
          refine z_aload_n rfl rfl ?_
          refine z_aload_n rfl rfl ?_
          refine z_iload_n rfl rfl ?_
          refine z_iconst 3 rfl rfl ?_
          obtain ⟨hc7, hw⟩ := hw
          refine z_cvi (M' := M_r_of) (post := fun v S' => ((up2 S 148 12 (if (S 148 12) ≤ (S 154 ((8 * l3) + 2).toNatClampNeg) then (S 148 12) else (S 154 ((8 * l3) + 2).toNatClampNeg) : Int32)) 154 ((8 * l3) + 3).toNatClampNeg) = v ∧ (up2 S 148 12 (if (S 148 12) ≤ (S 154 ((8 * l3) + 2).toNatClampNeg) then (S 148 12) else (S 154 ((8 * l3) + 2).toNatClampNeg) : Int32)) = S') [.int l3, .int 3] hx rfl w_754 cv_r_of hG.1 (by decide) rfl rfl rfl rfl (zr_of hx hG (⟨hc7, ⟨rfl, rfl⟩⟩)) ?_ (fun _ _ hf => hf.elim)
          rintro v S' ⟨rfl, rfl⟩
          refine z_aload_n rfl rfl ?_
          refine z_geti (ci := 7) 13 rfl hG.1 rfl w_671 ?_
          obtain ⟨hc10, hw⟩ := hw
          have hj112 : ∀ v : Int32, v = (if ((up2 S 148 12 (if (S 148 12) ≤ (S 154 ((8 * l3) + 2).toNatClampNeg) then (S 148 12) else (S 154 ((8 * l3) + 2).toNatClampNeg) : Int32)) 148 13) ≤ ((up2 S 148 12 (if (S 148 12) ≤ (S 154 ((8 * l3) + 2).toNatClampNeg) then (S 148 12) else (S 154 ((8 * l3) + 2).toNatClampNeg) : Int32)) 154 ((8 * l3) + 3).toNatClampNeg) then ((up2 S 148 12 (if (S 148 12) ≤ (S 154 ((8 * l3) + 2).toNatClampNeg) then (S 148 12) else (S 154 ((8 * l3) + 2).toNatClampNeg) : Int32)) 148 13) else ((up2 S 148 12 (if (S 148 12) ≤ (S 154 ((8 * l3) + 2).toNatClampNeg) then (S 148 12) else (S 154 ((8 * l3) + 2).toNatClampNeg) : Int32)) 154 ((8 * l3) + 3).toNatClampNeg) : Int32) → Z g M_r_findBox 0 0 128 [some (.ref 148), none, some (.int l2), some (.int l3), some (.int ((S 154 ((8 * l3) + 2).toNatClampNeg) + (S 154 ((8 * l3) + 4).toNatClampNeg))), some (.int ((S 154 ((8 * l3) + 3).toNatClampNeg) + (S 154 ((8 * l3) + 5).toNatClampNeg)))] [.int v, .ref 148] ((up2 S 148 12 (if (S 148 12) ≤ (S 154 ((8 * l3) + 2).toNatClampNeg) then (S 148 12) else (S 154 ((8 * l3) + 2).toNatClampNeg) : Int32)), G) (Qv G post noEx) := by
            intro v hv
            subst hv
            replace hw := hw _ rfl
            refine z_puti (ci := 7) 13 rfl hG.1 rfl w_671 rfl rfl rfl ?_
            refine z_aload_n rfl rfl ?_
            refine z_iload rfl rfl ?_
            refine z_aload_n rfl rfl ?_
            refine z_geti (ci := 7) 14 rfl hG.1 rfl w_672 ?_
            have hj138 : ∀ v : Int32, v = (if ((S 154 ((8 * l3) + 2).toNatClampNeg) + (S 154 ((8 * l3) + 4).toNatClampNeg)) ≤ ((up2 (up2 S 148 12 (if (S 148 12) ≤ (S 154 ((8 * l3) + 2).toNatClampNeg) then (S 148 12) else (S 154 ((8 * l3) + 2).toNatClampNeg) : Int32)) 148 13 (if ((up2 S 148 12 (if (S 148 12) ≤ (S 154 ((8 * l3) + 2).toNatClampNeg) then (S 148 12) else (S 154 ((8 * l3) + 2).toNatClampNeg) : Int32)) 148 13) ≤ ((up2 S 148 12 (if (S 148 12) ≤ (S 154 ((8 * l3) + 2).toNatClampNeg) then (S 148 12) else (S 154 ((8 * l3) + 2).toNatClampNeg) : Int32)) 154 ((8 * l3) + 3).toNatClampNeg) then ((up2 S 148 12 (if (S 148 12) ≤ (S 154 ((8 * l3) + 2).toNatClampNeg) then (S 148 12) else (S 154 ((8 * l3) + 2).toNatClampNeg) : Int32)) 148 13) else ((up2 S 148 12 (if (S 148 12) ≤ (S 154 ((8 * l3) + 2).toNatClampNeg) then (S 148 12) else (S 154 ((8 * l3) + 2).toNatClampNeg) : Int32)) 154 ((8 * l3) + 3).toNatClampNeg) : Int32)) 148 14) then ((up2 (up2 S 148 12 (if (S 148 12) ≤ (S 154 ((8 * l3) + 2).toNatClampNeg) then (S 148 12) else (S 154 ((8 * l3) + 2).toNatClampNeg) : Int32)) 148 13 (if ((up2 S 148 12 (if (S 148 12) ≤ (S 154 ((8 * l3) + 2).toNatClampNeg) then (S 148 12) else (S 154 ((8 * l3) + 2).toNatClampNeg) : Int32)) 148 13) ≤ ((up2 S 148 12 (if (S 148 12) ≤ (S 154 ((8 * l3) + 2).toNatClampNeg) then (S 148 12) else (S 154 ((8 * l3) + 2).toNatClampNeg) : Int32)) 154 ((8 * l3) + 3).toNatClampNeg) then ((up2 S 148 12 (if (S 148 12) ≤ (S 154 ((8 * l3) + 2).toNatClampNeg) then (S 148 12) else (S 154 ((8 * l3) + 2).toNatClampNeg) : Int32)) 148 13) else ((up2 S 148 12 (if (S 148 12) ≤ (S 154 ((8 * l3) + 2).toNatClampNeg) then (S 148 12) else (S 154 ((8 * l3) + 2).toNatClampNeg) : Int32)) 154 ((8 * l3) + 3).toNatClampNeg) : Int32)) 148 14) else ((S 154 ((8 * l3) + 2).toNatClampNeg) + (S 154 ((8 * l3) + 4).toNatClampNeg)) : Int32) → Z g M_r_findBox 0 0 150 [some (.ref 148), none, some (.int l2), some (.int l3), some (.int ((S 154 ((8 * l3) + 2).toNatClampNeg) + (S 154 ((8 * l3) + 4).toNatClampNeg))), some (.int ((S 154 ((8 * l3) + 3).toNatClampNeg) + (S 154 ((8 * l3) + 5).toNatClampNeg)))] [.int v, .ref 148] ((up2 (up2 S 148 12 (if (S 148 12) ≤ (S 154 ((8 * l3) + 2).toNatClampNeg) then (S 148 12) else (S 154 ((8 * l3) + 2).toNatClampNeg) : Int32)) 148 13 (if ((up2 S 148 12 (if (S 148 12) ≤ (S 154 ((8 * l3) + 2).toNatClampNeg) then (S 148 12) else (S 154 ((8 * l3) + 2).toNatClampNeg) : Int32)) 148 13) ≤ ((up2 S 148 12 (if (S 148 12) ≤ (S 154 ((8 * l3) + 2).toNatClampNeg) then (S 148 12) else (S 154 ((8 * l3) + 2).toNatClampNeg) : Int32)) 154 ((8 * l3) + 3).toNatClampNeg) then ((up2 S 148 12 (if (S 148 12) ≤ (S 154 ((8 * l3) + 2).toNatClampNeg) then (S 148 12) else (S 154 ((8 * l3) + 2).toNatClampNeg) : Int32)) 148 13) else ((up2 S 148 12 (if (S 148 12) ≤ (S 154 ((8 * l3) + 2).toNatClampNeg) then (S 148 12) else (S 154 ((8 * l3) + 2).toNatClampNeg) : Int32)) 154 ((8 * l3) + 3).toNatClampNeg) : Int32)), G) (Qv G post noEx) := by
              intro v hv
              subst hv
              replace hw := hw _ rfl
              refine z_puti (ci := 7) 14 rfl hG.1 rfl w_672 rfl rfl rfl ?_
              refine z_aload_n rfl rfl ?_
              refine z_iload rfl rfl ?_
              refine z_aload_n rfl rfl ?_
              refine z_geti (ci := 7) 15 rfl hG.1 rfl w_673 ?_
              have hj160 : ∀ v : Int32, v = (if ((S 154 ((8 * l3) + 3).toNatClampNeg) + (S 154 ((8 * l3) + 5).toNatClampNeg)) ≤ ((up2 (up2 (up2 S 148 12 (if (S 148 12) ≤ (S 154 ((8 * l3) + 2).toNatClampNeg) then (S 148 12) else (S 154 ((8 * l3) + 2).toNatClampNeg) : Int32)) 148 13 (if ((up2 S 148 12 (if (S 148 12) ≤ (S 154 ((8 * l3) + 2).toNatClampNeg) then (S 148 12) else (S 154 ((8 * l3) + 2).toNatClampNeg) : Int32)) 148 13) ≤ ((up2 S 148 12 (if (S 148 12) ≤ (S 154 ((8 * l3) + 2).toNatClampNeg) then (S 148 12) else (S 154 ((8 * l3) + 2).toNatClampNeg) : Int32)) 154 ((8 * l3) + 3).toNatClampNeg) then ((up2 S 148 12 (if (S 148 12) ≤ (S 154 ((8 * l3) + 2).toNatClampNeg) then (S 148 12) else (S 154 ((8 * l3) + 2).toNatClampNeg) : Int32)) 148 13) else ((up2 S 148 12 (if (S 148 12) ≤ (S 154 ((8 * l3) + 2).toNatClampNeg) then (S 148 12) else (S 154 ((8 * l3) + 2).toNatClampNeg) : Int32)) 154 ((8 * l3) + 3).toNatClampNeg) : Int32)) 148 14 (if ((S 154 ((8 * l3) + 2).toNatClampNeg) + (S 154 ((8 * l3) + 4).toNatClampNeg)) ≤ ((up2 (up2 S 148 12 (if (S 148 12) ≤ (S 154 ((8 * l3) + 2).toNatClampNeg) then (S 148 12) else (S 154 ((8 * l3) + 2).toNatClampNeg) : Int32)) 148 13 (if ((up2 S 148 12 (if (S 148 12) ≤ (S 154 ((8 * l3) + 2).toNatClampNeg) then (S 148 12) else (S 154 ((8 * l3) + 2).toNatClampNeg) : Int32)) 148 13) ≤ ((up2 S 148 12 (if (S 148 12) ≤ (S 154 ((8 * l3) + 2).toNatClampNeg) then (S 148 12) else (S 154 ((8 * l3) + 2).toNatClampNeg) : Int32)) 154 ((8 * l3) + 3).toNatClampNeg) then ((up2 S 148 12 (if (S 148 12) ≤ (S 154 ((8 * l3) + 2).toNatClampNeg) then (S 148 12) else (S 154 ((8 * l3) + 2).toNatClampNeg) : Int32)) 148 13) else ((up2 S 148 12 (if (S 148 12) ≤ (S 154 ((8 * l3) + 2).toNatClampNeg) then (S 148 12) else (S 154 ((8 * l3) + 2).toNatClampNeg) : Int32)) 154 ((8 * l3) + 3).toNatClampNeg) : Int32)) 148 14) then ((up2 (up2 S 148 12 (if (S 148 12) ≤ (S 154 ((8 * l3) + 2).toNatClampNeg) then (S 148 12) else (S 154 ((8 * l3) + 2).toNatClampNeg) : Int32)) 148 13 (if ((up2 S 148 12 (if (S 148 12) ≤ (S 154 ((8 * l3) + 2).toNatClampNeg) then (S 148 12) else (S 154 ((8 * l3) + 2).toNatClampNeg) : Int32)) 148 13) ≤ ((up2 S 148 12 (if (S 148 12) ≤ (S 154 ((8 * l3) + 2).toNatClampNeg) then (S 148 12) else (S 154 ((8 * l3) + 2).toNatClampNeg) : Int32)) 154 ((8 * l3) + 3).toNatClampNeg) then ((up2 S 148 12 (if (S 148 12) ≤ (S 154 ((8 * l3) + 2).toNatClampNeg) then (S 148 12) else (S 154 ((8 * l3) + 2).toNatClampNeg) : Int32)) 148 13) else ((up2 S 148 12 (if (S 148 12) ≤ (S 154 ((8 * l3) + 2).toNatClampNeg) then (S 148 12) else (S 154 ((8 * l3) + 2).toNatClampNeg) : Int32)) 154 ((8 * l3) + 3).toNatClampNeg) : Int32)) 148 14) else ((S 154 ((8 * l3) + 2).toNatClampNeg) + (S 154 ((8 * l3) + 4).toNatClampNeg)) : Int32)) 148 15) then ((up2 (up2 (up2 S 148 12 (if (S 148 12) ≤ (S 154 ((8 * l3) + 2).toNatClampNeg) then (S 148 12) else (S 154 ((8 * l3) + 2).toNatClampNeg) : Int32)) 148 13 (if ((up2 S 148 12 (if (S 148 12) ≤ (S 154 ((8 * l3) + 2).toNatClampNeg) then (S 148 12) else (S 154 ((8 * l3) + 2).toNatClampNeg) : Int32)) 148 13) ≤ ((up2 S 148 12 (if (S 148 12) ≤ (S 154 ((8 * l3) + 2).toNatClampNeg) then (S 148 12) else (S 154 ((8 * l3) + 2).toNatClampNeg) : Int32)) 154 ((8 * l3) + 3).toNatClampNeg) then ((up2 S 148 12 (if (S 148 12) ≤ (S 154 ((8 * l3) + 2).toNatClampNeg) then (S 148 12) else (S 154 ((8 * l3) + 2).toNatClampNeg) : Int32)) 148 13) else ((up2 S 148 12 (if (S 148 12) ≤ (S 154 ((8 * l3) + 2).toNatClampNeg) then (S 148 12) else (S 154 ((8 * l3) + 2).toNatClampNeg) : Int32)) 154 ((8 * l3) + 3).toNatClampNeg) : Int32)) 148 14 (if ((S 154 ((8 * l3) + 2).toNatClampNeg) + (S 154 ((8 * l3) + 4).toNatClampNeg)) ≤ ((up2 (up2 S 148 12 (if (S 148 12) ≤ (S 154 ((8 * l3) + 2).toNatClampNeg) then (S 148 12) else (S 154 ((8 * l3) + 2).toNatClampNeg) : Int32)) 148 13 (if ((up2 S 148 12 (if (S 148 12) ≤ (S 154 ((8 * l3) + 2).toNatClampNeg) then (S 148 12) else (S 154 ((8 * l3) + 2).toNatClampNeg) : Int32)) 148 13) ≤ ((up2 S 148 12 (if (S 148 12) ≤ (S 154 ((8 * l3) + 2).toNatClampNeg) then (S 148 12) else (S 154 ((8 * l3) + 2).toNatClampNeg) : Int32)) 154 ((8 * l3) + 3).toNatClampNeg) then ((up2 S 148 12 (if (S 148 12) ≤ (S 154 ((8 * l3) + 2).toNatClampNeg) then (S 148 12) else (S 154 ((8 * l3) + 2).toNatClampNeg) : Int32)) 148 13) else ((up2 S 148 12 (if (S 148 12) ≤ (S 154 ((8 * l3) + 2).toNatClampNeg) then (S 148 12) else (S 154 ((8 * l3) + 2).toNatClampNeg) : Int32)) 154 ((8 * l3) + 3).toNatClampNeg) : Int32)) 148 14) then ((up2 (up2 S 148 12 (if (S 148 12) ≤ (S 154 ((8 * l3) + 2).toNatClampNeg) then (S 148 12) else (S 154 ((8 * l3) + 2).toNatClampNeg) : Int32)) 148 13 (if ((up2 S 148 12 (if (S 148 12) ≤ (S 154 ((8 * l3) + 2).toNatClampNeg) then (S 148 12) else (S 154 ((8 * l3) + 2).toNatClampNeg) : Int32)) 148 13) ≤ ((up2 S 148 12 (if (S 148 12) ≤ (S 154 ((8 * l3) + 2).toNatClampNeg) then (S 148 12) else (S 154 ((8 * l3) + 2).toNatClampNeg) : Int32)) 154 ((8 * l3) + 3).toNatClampNeg) then ((up2 S 148 12 (if (S 148 12) ≤ (S 154 ((8 * l3) + 2).toNatClampNeg) then (S 148 12) else (S 154 ((8 * l3) + 2).toNatClampNeg) : Int32)) 148 13) else ((up2 S 148 12 (if (S 148 12) ≤ (S 154 ((8 * l3) + 2).toNatClampNeg) then (S 148 12) else (S 154 ((8 * l3) + 2).toNatClampNeg) : Int32)) 154 ((8 * l3) + 3).toNatClampNeg) : Int32)) 148 14) else ((S 154 ((8 * l3) + 2).toNatClampNeg) + (S 154 ((8 * l3) + 4).toNatClampNeg)) : Int32)) 148 15) else ((S 154 ((8 * l3) + 3).toNatClampNeg) + (S 154 ((8 * l3) + 5).toNatClampNeg)) : Int32) → Z g M_r_findBox 0 0 172 [some (.ref 148), none, some (.int l2), some (.int l3), some (.int ((S 154 ((8 * l3) + 2).toNatClampNeg) + (S 154 ((8 * l3) + 4).toNatClampNeg))), some (.int ((S 154 ((8 * l3) + 3).toNatClampNeg) + (S 154 ((8 * l3) + 5).toNatClampNeg)))] [.int v, .ref 148] ((up2 (up2 (up2 S 148 12 (if (S 148 12) ≤ (S 154 ((8 * l3) + 2).toNatClampNeg) then (S 148 12) else (S 154 ((8 * l3) + 2).toNatClampNeg) : Int32)) 148 13 (if ((up2 S 148 12 (if (S 148 12) ≤ (S 154 ((8 * l3) + 2).toNatClampNeg) then (S 148 12) else (S 154 ((8 * l3) + 2).toNatClampNeg) : Int32)) 148 13) ≤ ((up2 S 148 12 (if (S 148 12) ≤ (S 154 ((8 * l3) + 2).toNatClampNeg) then (S 148 12) else (S 154 ((8 * l3) + 2).toNatClampNeg) : Int32)) 154 ((8 * l3) + 3).toNatClampNeg) then ((up2 S 148 12 (if (S 148 12) ≤ (S 154 ((8 * l3) + 2).toNatClampNeg) then (S 148 12) else (S 154 ((8 * l3) + 2).toNatClampNeg) : Int32)) 148 13) else ((up2 S 148 12 (if (S 148 12) ≤ (S 154 ((8 * l3) + 2).toNatClampNeg) then (S 148 12) else (S 154 ((8 * l3) + 2).toNatClampNeg) : Int32)) 154 ((8 * l3) + 3).toNatClampNeg) : Int32)) 148 14 (if ((S 154 ((8 * l3) + 2).toNatClampNeg) + (S 154 ((8 * l3) + 4).toNatClampNeg)) ≤ ((up2 (up2 S 148 12 (if (S 148 12) ≤ (S 154 ((8 * l3) + 2).toNatClampNeg) then (S 148 12) else (S 154 ((8 * l3) + 2).toNatClampNeg) : Int32)) 148 13 (if ((up2 S 148 12 (if (S 148 12) ≤ (S 154 ((8 * l3) + 2).toNatClampNeg) then (S 148 12) else (S 154 ((8 * l3) + 2).toNatClampNeg) : Int32)) 148 13) ≤ ((up2 S 148 12 (if (S 148 12) ≤ (S 154 ((8 * l3) + 2).toNatClampNeg) then (S 148 12) else (S 154 ((8 * l3) + 2).toNatClampNeg) : Int32)) 154 ((8 * l3) + 3).toNatClampNeg) then ((up2 S 148 12 (if (S 148 12) ≤ (S 154 ((8 * l3) + 2).toNatClampNeg) then (S 148 12) else (S 154 ((8 * l3) + 2).toNatClampNeg) : Int32)) 148 13) else ((up2 S 148 12 (if (S 148 12) ≤ (S 154 ((8 * l3) + 2).toNatClampNeg) then (S 148 12) else (S 154 ((8 * l3) + 2).toNatClampNeg) : Int32)) 154 ((8 * l3) + 3).toNatClampNeg) : Int32)) 148 14) then ((up2 (up2 S 148 12 (if (S 148 12) ≤ (S 154 ((8 * l3) + 2).toNatClampNeg) then (S 148 12) else (S 154 ((8 * l3) + 2).toNatClampNeg) : Int32)) 148 13 (if ((up2 S 148 12 (if (S 148 12) ≤ (S 154 ((8 * l3) + 2).toNatClampNeg) then (S 148 12) else (S 154 ((8 * l3) + 2).toNatClampNeg) : Int32)) 148 13) ≤ ((up2 S 148 12 (if (S 148 12) ≤ (S 154 ((8 * l3) + 2).toNatClampNeg) then (S 148 12) else (S 154 ((8 * l3) + 2).toNatClampNeg) : Int32)) 154 ((8 * l3) + 3).toNatClampNeg) then ((up2 S 148 12 (if (S 148 12) ≤ (S 154 ((8 * l3) + 2).toNatClampNeg) then (S 148 12) else (S 154 ((8 * l3) + 2).toNatClampNeg) : Int32)) 148 13) else ((up2 S 148 12 (if (S 148 12) ≤ (S 154 ((8 * l3) + 2).toNatClampNeg) then (S 148 12) else (S 154 ((8 * l3) + 2).toNatClampNeg) : Int32)) 154 ((8 * l3) + 3).toNatClampNeg) : Int32)) 148 14) else ((S 154 ((8 * l3) + 2).toNatClampNeg) + (S 154 ((8 * l3) + 4).toNatClampNeg)) : Int32)), G) (Qv G post noEx) := by
                intro v hv
                subst hv
                replace hw := hw _ rfl
                refine z_puti (ci := 7) 15 rfl hG.1 rfl w_673 rfl rfl rfl ?_
                refine z_iinc 1 [some (.ref 148), none, some (.int l2), some (.int (l3 + 1)), some (.int ((S 154 ((8 * l3) + 2).toNatClampNeg) + (S 154 ((8 * l3) + 4).toNatClampNeg))), some (.int ((S 154 ((8 * l3) + 3).toNatClampNeg) + (S 154 ((8 * l3) + 5).toNatClampNeg)))] rfl rfl rfl rfl ?_
                refine z_goto rfl ?_
                refine Z.forget' [some (.ref 148), none, some (.int l2), some (.int (l3 + 1)), none, none] ⟨rfl, ⟨rfl, ⟨rfl, trivial⟩⟩⟩ ?_
                exact ih hw
              refine z_icmp_le rfl (fun hp160 => ?_) (fun hp160 => ?_)
              · refine z_aload_n rfl rfl ?_
                refine z_geti (ci := 7) 15 rfl hG.1 rfl w_673 ?_
                exact hj160 _ (by rw [if_pos hp160])
              · refine z_iload rfl rfl ?_
                refine z_goto rfl ?_
                exact hj160 _ (by rw [if_neg hp160])
            refine z_icmp_le rfl (fun hp138 => ?_) (fun hp138 => ?_)
            · refine z_aload_n rfl rfl ?_
              refine z_geti (ci := 7) 14 rfl hG.1 rfl w_672 ?_
              exact hj138 _ (by rw [if_pos hp138])
            · refine z_iload rfl rfl ?_
              refine z_goto rfl ?_
              exact hj138 _ (by rw [if_neg hp138])
          refine z_icmp_ge rfl (fun hp112 => ?_) (fun hp112 => ?_)
          · refine z_aload_n rfl rfl ?_
            refine z_geti (ci := 7) 13 rfl hG.1 rfl w_671 ?_
            exact hj112 _ (by rw [if_pos hp112])
          · refine z_aload_n rfl rfl ?_
            refine z_iload_n rfl rfl ?_
            refine z_iconst 3 rfl rfl ?_
            refine z_cvi (M' := M_r_of) (post := fun v S' => ((up2 S 148 12 (if (S 148 12) ≤ (S 154 ((8 * l3) + 2).toNatClampNeg) then (S 148 12) else (S 154 ((8 * l3) + 2).toNatClampNeg) : Int32)) 154 ((8 * l3) + 3).toNatClampNeg) = v ∧ (up2 S 148 12 (if (S 148 12) ≤ (S 154 ((8 * l3) + 2).toNatClampNeg) then (S 148 12) else (S 154 ((8 * l3) + 2).toNatClampNeg) : Int32)) = S') [.int l3, .int 3] hx rfl w_754 cv_r_of hG.1 (by decide) rfl rfl rfl rfl (zr_of hx hG  (⟨(hc10 hp112), ⟨rfl, rfl⟩⟩)) ?_ (fun _ _ hf => hf.elim)
            rintro v S' ⟨rfl, rfl⟩
            refine z_goto rfl ?_
            exact hj112 _ (by rw [if_neg hp112])
        refine z_icmp_ge rfl (fun hp82 => ?_) (fun hp82 => ?_)
        · refine z_aload_n rfl rfl ?_
          refine z_geti (ci := 7) 12 rfl hG.1 rfl w_670 ?_
          exact hj82 _ (by rw [if_pos hp82])
        · refine z_aload_n rfl rfl ?_
          refine z_iload_n rfl rfl ?_
          refine z_iconst 2 rfl rfl ?_
          refine z_cvi (M' := M_r_of) (post := fun v S' => (S 154 ((8 * l3) + 2).toNatClampNeg) = v ∧ S = S') [.int l3, .int 2] hx rfl w_754 cv_r_of hG.1 (by decide) rfl rfl rfl rfl (zr_of hx hG  (⟨(hc11 hp82), ⟨rfl, rfl⟩⟩)) ?_ (fun _ _ hf => hf.elim)
          rintro v S' ⟨rfl, rfl⟩
          refine z_goto rfl ?_
          exact hj82 _ (by rw [if_neg hp82])
def r_findBox (post : Mem → Prop) (S : Mem) (l1 : Int32) (l2 : Int32) : Prop :=
  ∀ S1, S1 = up2 S 148 12 100000 → ∀ S2, S2 = up2 S1 148 13 100000 → ∀ S3, S3 = up2 S2 148 14 (-100000) → ∀ S4, S4 = up2 S3 148 15 (-100000) → ∃ n, r_findBox_L26 post n S4 l2 l1
set_option maxRecDepth 100000 in
set_option maxHeartbeats 1000000 in
theorem zr_findBox {g : Gm} {G : Gp} {S : Mem} {post : Mem → Prop} {l1 : Int32} {l2 : Int32} (hx : G.2.2.2 = false) (hG : isR G) (hw : r_findBox post S l1 l2) : Z g M_r_findBox 0 0 0 (entryL [.ref 148, .int l1, .int l2] (mL M_r_findBox)) [] (S, G) (Qv G post noEx) := by
  unfold r_findBox at hw
  show Z g M_r_findBox 0 0 0 [some (.ref 148), some (.int l1), some (.int l2), none, none, none] [] (S, G) (Qv G post noEx)
  refine z_aload_n rfl rfl ?_
  refine z_ldc rfl w_806 ?_
  replace hw := hw _ rfl
  refine z_puti (ci := 7) 12 rfl hG.1 rfl w_670 rfl rfl rfl ?_
  refine z_aload_n rfl rfl ?_
  refine z_ldc rfl w_806 ?_
  replace hw := hw _ rfl
  refine z_puti (ci := 7) 13 rfl hG.1 rfl w_671 rfl rfl rfl ?_
  refine z_aload_n rfl rfl ?_
  refine z_ldc rfl w_807 ?_
  replace hw := hw _ rfl
  refine z_puti (ci := 7) 14 rfl hG.1 rfl w_672 rfl rfl rfl ?_
  refine z_aload_n rfl rfl ?_
  refine z_ldc rfl w_807 ?_
  replace hw := hw _ rfl
  refine z_puti (ci := 7) 15 rfl hG.1 rfl w_673 rfl rfl rfl ?_
  refine z_iload_n rfl rfl ?_
  refine z_istore_n [some (.ref 148), some (.int l1), some (.int l2), some (.int l1), none, none] rfl rfl rfl ?_
  refine Z.forget' [some (.ref 148), none, some (.int l2), some (.int l1), none, none] ⟨rfl, ⟨rfl, ⟨rfl, trivial⟩⟩⟩ ?_
  obtain ⟨n, hw⟩ := hw
  exact zr_findBox_L26 hx hG n hw
def r_shift_L3 (post : Mem → Prop)  : Nat → Mem → Int32 → Int32 → Int32 → Int32 → Prop
  | 0, _, _, _, _, _ => False
  | n + 1, S, l2, l3, l4, l5 =>
  ((l2 ≤ l5) →
   post S) ∧
  ((¬ l2 ≤ l5) →
   (vp_in ((8 * l5) + 2) 112) ∧ 
   (vp_in ((8 * l5) + 2) 112) ∧ ∀ S1, S1 = up2 S 154 ((8 * l5) + 2).toNatClampNeg ((S 154 ((8 * l5) + 2).toNatClampNeg) + l3) → 
   (vp_in ((8 * l5) + 3) 112) ∧ 
   (vp_in ((8 * l5) + 3) 112) ∧ ∀ S2, S2 = up2 S1 154 ((8 * l5) + 3).toNatClampNeg ((S1 154 ((8 * l5) + 3).toNatClampNeg) + l4) → 
   r_shift_L3 post n S2 l2 l3 l4 (l5 + 1))
set_option maxRecDepth 100000 in
set_option maxHeartbeats 1000000 in
theorem zr_shift_L3 {g : Gm} {G : Gp} {post : Mem → Prop} (hx : G.2.2.2 = false) (hG : isR G) : ∀ (n : Nat) {S : Mem} {l2 : Int32} {l3 : Int32} {l4 : Int32} {l5 : Int32} , r_shift_L3 post n S l2 l3 l4 l5 → Z g M_r_shift 0 0 3 [some (.ref 148), none, some (.int l2), some (.int l3), some (.int l4), some (.int l5)] [] (S, G) (Qv G post noEx) := by
  intro n
  induction n with
  | zero =>
    intros
    rename_i hw
    exact hw.elim
  | succ n ih =>
    intro S l2 l3 l4 l5 hw
    rw [r_shift_L3] at hw
    refine z_iload rfl rfl ?_
    refine z_iload_n rfl rfl ?_
    refine z_icmp_ge rfl (fun hq => ?_) (fun hq => ?_)
    · replace hw := hw.1 hq
      exact z_vret rfl rfl rfl rfl (Or.inl ⟨_, rfl, rfl, hw⟩)
    · replace hw := hw.2 hq
      refine z_aload_n rfl rfl ?_
      refine z_iload rfl rfl ?_
      refine z_iconst 2 rfl rfl ?_
      refine z_aload_n rfl rfl ?_
      refine z_iload rfl rfl ?_
      refine z_iconst 2 rfl rfl ?_
      obtain ⟨hc1, hw⟩ := hw
      refine z_cvi (M' := M_r_of) (post := fun v S' => (S 154 ((8 * l5) + 2).toNatClampNeg) = v ∧ S = S') [.int l5, .int 2] hx rfl w_754 cv_r_of hG.1 (by decide) rfl rfl rfl rfl (zr_of hx hG (⟨hc1, ⟨rfl, rfl⟩⟩)) ?_ (fun _ _ hf => hf.elim)
      rintro v S' ⟨rfl, rfl⟩
      refine z_iload_n rfl rfl ?_
      refine z_iadd rfl ?_
      obtain ⟨hc2, hw⟩ := hw
      replace hw := hw _ rfl
      refine z_cvv (M' := M_r_put) (post := fun S' => (up2 S 154 ((8 * l5) + 2).toNatClampNeg ((S 154 ((8 * l5) + 2).toNatClampNeg) + l3)) = S') [.int l5, .int 2, .int ((S 154 ((8 * l5) + 2).toNatClampNeg) + l3)] hx rfl w_774 cv_r_put hG.1 (by decide) rfl rfl rfl rfl (zr_put hx hG (⟨hc2, fun _ hS => by subst hS; exact rfl⟩)) ?_ (fun _ _ hf => hf.elim)
      rintro S' rfl
      refine z_aload_n rfl rfl ?_
      refine z_iload rfl rfl ?_
      refine z_iconst 3 rfl rfl ?_
      refine z_aload_n rfl rfl ?_
      refine z_iload rfl rfl ?_
      refine z_iconst 3 rfl rfl ?_
      obtain ⟨hc3, hw⟩ := hw
      refine z_cvi (M' := M_r_of) (post := fun v S' => ((up2 S 154 ((8 * l5) + 2).toNatClampNeg ((S 154 ((8 * l5) + 2).toNatClampNeg) + l3)) 154 ((8 * l5) + 3).toNatClampNeg) = v ∧ (up2 S 154 ((8 * l5) + 2).toNatClampNeg ((S 154 ((8 * l5) + 2).toNatClampNeg) + l3)) = S') [.int l5, .int 3] hx rfl w_754 cv_r_of hG.1 (by decide) rfl rfl rfl rfl (zr_of hx hG (⟨hc3, ⟨rfl, rfl⟩⟩)) ?_ (fun _ _ hf => hf.elim)
      rintro v S' ⟨rfl, rfl⟩
      refine z_iload rfl rfl ?_
      refine z_iadd rfl ?_
      obtain ⟨hc4, hw⟩ := hw
      replace hw := hw _ rfl
      refine z_cvv (M' := M_r_put) (post := fun S' => (up2 (up2 S 154 ((8 * l5) + 2).toNatClampNeg ((S 154 ((8 * l5) + 2).toNatClampNeg) + l3)) 154 ((8 * l5) + 3).toNatClampNeg (((up2 S 154 ((8 * l5) + 2).toNatClampNeg ((S 154 ((8 * l5) + 2).toNatClampNeg) + l3)) 154 ((8 * l5) + 3).toNatClampNeg) + l4)) = S') [.int l5, .int 3, .int (((up2 S 154 ((8 * l5) + 2).toNatClampNeg ((S 154 ((8 * l5) + 2).toNatClampNeg) + l3)) 154 ((8 * l5) + 3).toNatClampNeg) + l4)] hx rfl w_774 cv_r_put hG.1 (by decide) rfl rfl rfl rfl (zr_put hx hG (⟨hc4, fun _ hS => by subst hS; exact rfl⟩)) ?_ (fun _ _ hf => hf.elim)
      rintro S' rfl
      refine z_iinc 1 [some (.ref 148), none, some (.int l2), some (.int l3), some (.int l4), some (.int (l5 + 1))] rfl rfl rfl rfl ?_
      refine z_goto rfl ?_
      refine Z.forget' [some (.ref 148), none, some (.int l2), some (.int l3), some (.int l4), some (.int (l5 + 1))] ⟨rfl, ⟨rfl, ⟨rfl, ⟨rfl, ⟨rfl, trivial⟩⟩⟩⟩⟩ ?_
      exact ih hw
def r_shift (post : Mem → Prop) (S : Mem) (l1 : Int32) (l2 : Int32) (l3 : Int32) (l4 : Int32) : Prop :=
  ∃ n, r_shift_L3 post n S l2 l3 l4 l1
set_option maxRecDepth 100000 in
set_option maxHeartbeats 1000000 in
theorem zr_shift {g : Gm} {G : Gp} {S : Mem} {post : Mem → Prop} {l1 : Int32} {l2 : Int32} {l3 : Int32} {l4 : Int32} (hx : G.2.2.2 = false) (hG : isR G) (hw : r_shift post S l1 l2 l3 l4) : Z g M_r_shift 0 0 0 (entryL [.ref 148, .int l1, .int l2, .int l3, .int l4] (mL M_r_shift)) [] (S, G) (Qv G post noEx) := by
  unfold r_shift at hw
  show Z g M_r_shift 0 0 0 [some (.ref 148), some (.int l1), some (.int l2), some (.int l3), some (.int l4), none] [] (S, G) (Qv G post noEx)
  refine z_iload_n rfl rfl ?_
  refine z_istore [some (.ref 148), some (.int l1), some (.int l2), some (.int l3), some (.int l4), some (.int l1)] rfl rfl rfl ?_
  refine Z.forget' [some (.ref 148), none, some (.int l2), some (.int l3), some (.int l4), some (.int l1)] ⟨rfl, ⟨rfl, ⟨rfl, ⟨rfl, ⟨rfl, trivial⟩⟩⟩⟩⟩ ?_
  obtain ⟨n, hw⟩ := hw
  exact zr_shift_L3 hx hG n hw
def r_holdLimits_L17 (post : Int32 → Mem → Prop)  : Nat → Mem → Int32 → Int32 → Prop
  | 0, _, _, _ => False
  | n + 1, S, l1, l2 =>
  (((S 148 7) ≤ l2) →
   vp_nar .boolean l1 = l1 ∧ post l1 S) ∧
  ((¬ (S 148 7) ≤ l2) →
   (vp_in ((8 * l2) + 1) 112) ∧ 
   (((S 154 ((8 * l2) + 1).toNatClampNeg) = 3) →
    r_holdLimits_L17 post n S l1 (l2 + 1)) ∧
   ((¬ (S 154 ((8 * l2) + 1).toNatClampNeg) = 3) →
    ((¬ l1 = 0 → (vp_in ((8 * l2) + 2) 112) ∧ (¬ (S 154 ((8 * l2) + 2).toNatClampNeg) < (-200) → (vp_in ((8 * l2) + 3) 112) ∧ (¬ (S 154 ((8 * l2) + 3).toNatClampNeg) < (-200) → (vp_in ((8 * l2) + 2) 112) ∧ (vp_in ((8 * l2) + 4) 112) ∧ (¬ 200 < ((S 154 ((8 * l2) + 2).toNatClampNeg) + (S 154 ((8 * l2) + 4).toNatClampNeg)) → (vp_in ((8 * l2) + 3) 112) ∧ (vp_in ((8 * l2) + 5) 112)))))) ∧ 
    r_holdLimits_L17 post n S (if l1 = 0 then 0 else (if (S 154 ((8 * l2) + 2).toNatClampNeg) < (-200) then 0 else (if (S 154 ((8 * l2) + 3).toNatClampNeg) < (-200) then 0 else (if 200 < ((S 154 ((8 * l2) + 2).toNatClampNeg) + (S 154 ((8 * l2) + 4).toNatClampNeg)) then 0 else (if 200 < ((S 154 ((8 * l2) + 3).toNatClampNeg) + (S 154 ((8 * l2) + 5).toNatClampNeg)) then 0 else 1 : Int32) : Int32) : Int32) : Int32) : Int32) (l2 + 1)))
set_option maxRecDepth 100000 in
set_option maxHeartbeats 1000000 in
theorem zr_holdLimits_L17 {g : Gm} {G : Gp} {post : Int32 → Mem → Prop} (hx : G.2.2.2 = false) (hG : isR G) : ∀ (n : Nat) {S : Mem} {l1 : Int32} {l2 : Int32} , r_holdLimits_L17 post n S l1 l2 → Z g M_r_holdLimits 0 0 17 [some (.ref 148), some (.int l1), some (.int l2)] [] (S, G) (Qi G post noEx) := by
  intro n
  induction n with
  | zero =>
    intros
    rename_i hw
    exact hw.elim
  | succ n ih =>
    intro S l1 l2 hw
    rw [r_holdLimits_L17] at hw
    refine z_iload_n rfl rfl ?_
    refine z_aload_n rfl rfl ?_
    refine z_geti (ci := 7) 7 rfl hG.1 rfl w_665 ?_
    refine z_icmp_ge rfl (fun hq => ?_) (fun hq => ?_)
    · replace hw := hw.1 hq
      refine z_iload_n rfl rfl ?_
      obtain ⟨hc1, hw⟩ := hw
      exact z_zret rfl rfl (nar_of hc1) rfl rfl (Or.inl ⟨_, _, rfl, rfl, hw⟩)
    · replace hw := hw.2 hq
      refine z_aload_n rfl rfl ?_
      refine z_iload_n rfl rfl ?_
      refine z_iconst 1 rfl rfl ?_
      obtain ⟨hc2, hw⟩ := hw
      refine z_cvi (M' := M_r_of) (post := fun v S' => (S 154 ((8 * l2) + 1).toNatClampNeg) = v ∧ S = S') [.int l2, .int 1] hx rfl w_754 cv_r_of hG.1 (by decide) rfl rfl rfl rfl (zr_of hx hG (⟨hc2, ⟨rfl, rfl⟩⟩)) ?_ (fun _ _ hf => hf.elim)
      rintro v S' ⟨rfl, rfl⟩
      refine z_iconst 3 rfl rfl ?_
      refine z_icmp_eq rfl (fun hq => ?_) (fun hq => ?_)
      · replace hw := hw.1 hq
        refine z_iinc 1 [some (.ref 148), some (.int l1), some (.int (l2 + 1))] rfl rfl rfl rfl ?_
        refine z_goto rfl ?_
        refine Z.forget' [some (.ref 148), some (.int l1), some (.int (l2 + 1))] ⟨rfl, ⟨rfl, ⟨rfl, trivial⟩⟩⟩ ?_
        exact ih hw
      · replace hw := hw.2 hq
        refine z_iload_n rfl rfl ?_
        obtain ⟨hc3, hw⟩ := hw
        have hj36 : ∀ v : Int32, v = (if l1 = 0 then 0 else (if (S 154 ((8 * l2) + 2).toNatClampNeg) < (-200) then 0 else (if (S 154 ((8 * l2) + 3).toNatClampNeg) < (-200) then 0 else (if 200 < ((S 154 ((8 * l2) + 2).toNatClampNeg) + (S 154 ((8 * l2) + 4).toNatClampNeg)) then 0 else (if 200 < ((S 154 ((8 * l2) + 3).toNatClampNeg) + (S 154 ((8 * l2) + 5).toNatClampNeg)) then 0 else 1 : Int32) : Int32) : Int32) : Int32) : Int32) → Z g M_r_holdLimits 0 0 106 [some (.ref 148), some (.int l1), some (.int l2)] [.int v] (S, G) (Qi G post noEx) := by
          intro v hv
          subst hv
          refine z_istore_n [some (.ref 148), some (.int (if l1 = 0 then 0 else (if (S 154 ((8 * l2) + 2).toNatClampNeg) < (-200) then 0 else (if (S 154 ((8 * l2) + 3).toNatClampNeg) < (-200) then 0 else (if 200 < ((S 154 ((8 * l2) + 2).toNatClampNeg) + (S 154 ((8 * l2) + 4).toNatClampNeg)) then 0 else (if 200 < ((S 154 ((8 * l2) + 3).toNatClampNeg) + (S 154 ((8 * l2) + 5).toNatClampNeg)) then 0 else 1 : Int32) : Int32) : Int32) : Int32) : Int32)), some (.int l2)] rfl rfl rfl ?_
          refine z_iinc 1 [some (.ref 148), some (.int (if l1 = 0 then 0 else (if (S 154 ((8 * l2) + 2).toNatClampNeg) < (-200) then 0 else (if (S 154 ((8 * l2) + 3).toNatClampNeg) < (-200) then 0 else (if 200 < ((S 154 ((8 * l2) + 2).toNatClampNeg) + (S 154 ((8 * l2) + 4).toNatClampNeg)) then 0 else (if 200 < ((S 154 ((8 * l2) + 3).toNatClampNeg) + (S 154 ((8 * l2) + 5).toNatClampNeg)) then 0 else 1 : Int32) : Int32) : Int32) : Int32) : Int32)), some (.int (l2 + 1))] rfl rfl rfl rfl ?_
          refine z_goto rfl ?_
          refine Z.forget' [some (.ref 148), some (.int (if l1 = 0 then 0 else (if (S 154 ((8 * l2) + 2).toNatClampNeg) < (-200) then 0 else (if (S 154 ((8 * l2) + 3).toNatClampNeg) < (-200) then 0 else (if 200 < ((S 154 ((8 * l2) + 2).toNatClampNeg) + (S 154 ((8 * l2) + 4).toNatClampNeg)) then 0 else (if 200 < ((S 154 ((8 * l2) + 3).toNatClampNeg) + (S 154 ((8 * l2) + 5).toNatClampNeg)) then 0 else 1 : Int32) : Int32) : Int32) : Int32) : Int32)), some (.int (l2 + 1))] ⟨rfl, ⟨rfl, ⟨rfl, trivial⟩⟩⟩ ?_
          exact ih hw
        refine z_if_eq rfl (fun hp36 => ?_) (fun hp36 => ?_)
        · refine z_iconst 0 rfl rfl ?_
          exact hj36 _ (by rw [if_pos hp36])
        · refine z_aload_n rfl rfl ?_
          refine z_iload_n rfl rfl ?_
          refine z_iconst 2 rfl rfl ?_
          refine z_cvi (M' := M_r_of) (post := fun v S' => (S 154 ((8 * l2) + 2).toNatClampNeg) = v ∧ S = S') [.int l2, .int 2] hx rfl w_754 cv_r_of hG.1 (by decide) rfl rfl rfl rfl (zr_of hx hG  (⟨(hc3 hp36).1, ⟨rfl, rfl⟩⟩)) ?_ (fun _ _ hf => hf.elim)
          rintro v S' ⟨rfl, rfl⟩
          refine z_sipush (-200) rfl rfl ?_
          refine z_icmp_lt rfl (fun hp48 => ?_) (fun hp48 => ?_)
          · refine z_iconst 0 rfl rfl ?_
            exact hj36 _ (by rw [if_neg hp36, if_pos hp48])
          · refine z_aload_n rfl rfl ?_
            refine z_iload_n rfl rfl ?_
            refine z_iconst 3 rfl rfl ?_
            refine z_cvi (M' := M_r_of) (post := fun v S' => (S 154 ((8 * l2) + 3).toNatClampNeg) = v ∧ S = S') [.int l2, .int 3] hx rfl w_754 cv_r_of hG.1 (by decide) rfl rfl rfl rfl (zr_of hx hG  (⟨((hc3 hp36).2 hp48).1, ⟨rfl, rfl⟩⟩)) ?_ (fun _ _ hf => hf.elim)
            rintro v S' ⟨rfl, rfl⟩
            refine z_sipush (-200) rfl rfl ?_
            refine z_icmp_lt rfl (fun hp60 => ?_) (fun hp60 => ?_)
            · refine z_iconst 0 rfl rfl ?_
              exact hj36 _ (by rw [if_neg hp36, if_neg hp48, if_pos hp60])
            · refine z_aload_n rfl rfl ?_
              refine z_iload_n rfl rfl ?_
              refine z_iconst 2 rfl rfl ?_
              refine z_cvi (M' := M_r_of) (post := fun v S' => (S 154 ((8 * l2) + 2).toNatClampNeg) = v ∧ S = S') [.int l2, .int 2] hx rfl w_754 cv_r_of hG.1 (by decide) rfl rfl rfl rfl (zr_of hx hG  (⟨(((hc3 hp36).2 hp48).2 hp60).1, ⟨rfl, rfl⟩⟩)) ?_ (fun _ _ hf => hf.elim)
              rintro v S' ⟨rfl, rfl⟩
              refine z_aload_n rfl rfl ?_
              refine z_iload_n rfl rfl ?_
              refine z_iconst 4 rfl rfl ?_
              refine z_cvi (M' := M_r_of) (post := fun v S' => (S 154 ((8 * l2) + 4).toNatClampNeg) = v ∧ S = S') [.int l2, .int 4] hx rfl w_754 cv_r_of hG.1 (by decide) rfl rfl rfl rfl (zr_of hx hG  (⟨(((hc3 hp36).2 hp48).2 hp60).2.1, ⟨rfl, rfl⟩⟩)) ?_ (fun _ _ hf => hf.elim)
              rintro v S' ⟨rfl, rfl⟩
              refine z_iadd rfl ?_
              refine z_sipush 200 rfl rfl ?_
              refine z_icmp_gt rfl (fun hp79 => ?_) (fun hp79 => ?_)
              · refine z_iconst 0 rfl rfl ?_
                exact hj36 _ (by rw [if_neg hp36, if_neg hp48, if_neg hp60, if_pos hp79])
              · refine z_aload_n rfl rfl ?_
                refine z_iload_n rfl rfl ?_
                refine z_iconst 3 rfl rfl ?_
                refine z_cvi (M' := M_r_of) (post := fun v S' => (S 154 ((8 * l2) + 3).toNatClampNeg) = v ∧ S = S') [.int l2, .int 3] hx rfl w_754 cv_r_of hG.1 (by decide) rfl rfl rfl rfl (zr_of hx hG  (⟨((((hc3 hp36).2 hp48).2 hp60).2.2 hp79).1, ⟨rfl, rfl⟩⟩)) ?_ (fun _ _ hf => hf.elim)
                rintro v S' ⟨rfl, rfl⟩
                refine z_aload_n rfl rfl ?_
                refine z_iload_n rfl rfl ?_
                refine z_iconst 5 rfl rfl ?_
                refine z_cvi (M' := M_r_of) (post := fun v S' => (S 154 ((8 * l2) + 5).toNatClampNeg) = v ∧ S = S') [.int l2, .int 5] hx rfl w_754 cv_r_of hG.1 (by decide) rfl rfl rfl rfl (zr_of hx hG  (⟨((((hc3 hp36).2 hp48).2 hp60).2.2 hp79).2, ⟨rfl, rfl⟩⟩)) ?_ (fun _ _ hf => hf.elim)
                rintro v S' ⟨rfl, rfl⟩
                refine z_iadd rfl ?_
                refine z_sipush 200 rfl rfl ?_
                refine z_icmp_gt rfl (fun hp98 => ?_) (fun hp98 => ?_)
                · refine z_iconst 0 rfl rfl ?_
                  exact hj36 _ (by rw [if_neg hp36, if_neg hp48, if_neg hp60, if_neg hp79, if_pos hp98])
                · refine z_iconst 1 rfl rfl ?_
                  refine z_goto rfl ?_
                  exact hj36 _ (by rw [if_neg hp36, if_neg hp48, if_neg hp60, if_neg hp79, if_neg hp98])
def r_holdLimits (post : Int32 → Mem → Prop) (S : Mem)  : Prop :=
  ∃ n, r_holdLimits_L17 post n S (if 12 < (S 148 7) then 0 else 1 : Int32) 0
set_option maxRecDepth 100000 in
set_option maxHeartbeats 1000000 in
theorem zr_holdLimits {g : Gm} {G : Gp} {S : Mem} {post : Int32 → Mem → Prop}  (hx : G.2.2.2 = false) (hG : isR G) (hw : r_holdLimits post S ) : Z g M_r_holdLimits 0 0 0 (entryL [.ref 148] (mL M_r_holdLimits)) [] (S, G) (Qi G post noEx) := by
  unfold r_holdLimits at hw
  show Z g M_r_holdLimits 0 0 0 [some (.ref 148), none, none] [] (S, G) (Qi G post noEx)
  refine z_aload_n rfl rfl ?_
  refine z_geti (ci := 7) 7 rfl hG.1 rfl w_665 ?_
  refine z_bipush 12 rfl rfl ?_
  have hj6 : ∀ v : Int32, v = (if 12 < (S 148 7) then 0 else 1 : Int32) → Z g M_r_holdLimits 0 0 14 [some (.ref 148), none, none] [.int v] (S, G) (Qi G post noEx) := by
    intro v hv
    subst hv
    refine z_istore_n [some (.ref 148), some (.int (if 12 < (S 148 7) then 0 else 1 : Int32)), none] rfl rfl rfl ?_
    refine z_iconst 0 rfl rfl ?_
    refine z_istore_n [some (.ref 148), some (.int (if 12 < (S 148 7) then 0 else 1 : Int32)), some (.int 0)] rfl rfl rfl ?_
    refine Z.forget' [some (.ref 148), some (.int (if 12 < (S 148 7) then 0 else 1 : Int32)), some (.int 0)] ⟨rfl, ⟨rfl, ⟨rfl, trivial⟩⟩⟩ ?_
    obtain ⟨n, hw⟩ := hw
    exact zr_holdLimits_L17 hx hG n hw
  refine z_icmp_gt rfl (fun hp6 => ?_) (fun hp6 => ?_)
  · refine z_iconst 0 rfl rfl ?_
    exact hj6 _ (by rw [if_pos hp6])
  · refine z_iconst 1 rfl rfl ?_
    refine z_goto rfl ?_
    exact hj6 _ (by rw [if_neg hp6])
def r_arg (post : Int32 → Mem → Prop) (S : Mem) (l1 : Int32) (l2 : Int32) : Prop :=
  (vp_in ((4 * l1) + l2) 96) ∧ post (S 150 ((4 * l1) + l2).toNatClampNeg) S
set_option maxRecDepth 100000 in
set_option maxHeartbeats 1000000 in
theorem zr_arg {g : Gm} {G : Gp} {S : Mem} {post : Int32 → Mem → Prop} {l1 : Int32} {l2 : Int32} (hx : G.2.2.2 = false) (hG : isR G) (hw : r_arg post S l1 l2) : Z g M_r_arg 0 0 0 (entryL [.ref 148, .int l1, .int l2] (mL M_r_arg)) [] (S, G) (Qi G post noEx) := by
  unfold r_arg at hw
  show Z g M_r_arg 0 0 0 [some (.ref 148), some (.int l1), some (.int l2)] [] (S, G) (Qi G post noEx)
  refine z_aload_n rfl rfl ?_
  refine z_getr (ci := 7) 3 rfl hG.1 rfl w_661 hG.2.2.2.1 ?_
  refine z_iconst 4 rfl rfl ?_
  refine z_iload_n rfl rfl ?_
  refine z_imul rfl ?_
  refine z_iload_n rfl rfl ?_
  refine z_iadd rfl ?_
  obtain ⟨hc1, hw⟩ := hw
  refine z_iald (((4 * l1) + l2).toNatClampNeg) rfl hG.2.2.2.2.1 hc1 rfl ?_
  exact z_iret rfl rfl rfl rfl (Or.inl ⟨_, _, rfl, rfl, hw⟩)
def r_make (post : Mem → Prop) (S : Mem) (l1 : Int32) : Prop :=
  (vp_in ((4 * l1) + 3) 96) ∧ 
  (vp_in ((8 * (S 148 7)) + 0) 112) ∧ ∀ S1, S1 = up2 S 154 ((8 * (S 148 7)) + 0).toNatClampNeg l1 → 
  (vp_in ((4 * l1) + 0) 96) ∧ 
  (vp_in ((8 * (S1 148 7)) + 1) 112) ∧ ∀ S2, S2 = up2 S1 154 ((8 * (S1 148 7)) + 1).toNatClampNeg (S1 150 ((4 * l1) + 0).toNatClampNeg) → 
  (vp_in ((4 * l1) + 1) 96) ∧ 
  (vp_in ((8 * (S2 148 7)) + 2) 112) ∧ ∀ S3, S3 = up2 S2 154 ((8 * (S2 148 7)) + 2).toNatClampNeg (S2 150 ((4 * l1) + 1).toNatClampNeg) → 
  (vp_in ((4 * l1) + 2) 96) ∧ 
  (vp_in ((8 * (S3 148 7)) + 3) 112) ∧ ∀ S4, S4 = up2 S3 154 ((8 * (S3 148 7)) + 3).toNatClampNeg (S3 150 ((4 * l1) + 2).toNatClampNeg) → 
  (vp_in ((8 * (S4 148 7)) + 4) 112) ∧ ∀ S5, S5 = up2 S4 154 ((8 * (S4 148 7)) + 4).toNatClampNeg ((S 150 ((4 * l1) + 3).toNatClampNeg) - (S 150 ((4 * l1) + 3).toNatClampNeg) / 128 * 128) → 
  (vp_in ((8 * (S5 148 7)) + 5) 112) ∧ ∀ S6, S6 = up2 S5 154 ((8 * (S5 148 7)) + 5).toNatClampNeg ((S 150 ((4 * l1) + 3).toNatClampNeg) / 128) → 
  (vp_in ((8 * (S6 148 7)) + 6) 112) ∧ ∀ S7, S7 = up2 S6 154 ((8 * (S6 148 7)) + 6).toNatClampNeg 0 → 
  (vp_in ((8 * (S7 148 7)) + 7) 112) ∧ ∀ S8, S8 = up2 S7 154 ((8 * (S7 148 7)) + 7).toNatClampNeg (-1) → 
  ∀ S9, S9 = up2 S8 148 7 ((S8 148 7) + 1) → post S9
set_option maxRecDepth 100000 in
set_option maxHeartbeats 1000000 in
theorem zr_make {g : Gm} {G : Gp} {S : Mem} {post : Mem → Prop} {l1 : Int32} (hx : G.2.2.2 = false) (hG : isR G) (hw : r_make post S l1) : Z g M_r_make 0 0 0 (entryL [.ref 148, .int l1] (mL M_r_make)) [] (S, G) (Qv G post noEx) := by
  unfold r_make at hw
  show Z g M_r_make 0 0 0 [some (.ref 148), some (.int l1), none] [] (S, G) (Qv G post noEx)
  refine z_aload_n rfl rfl ?_
  refine z_iload_n rfl rfl ?_
  refine z_iconst 3 rfl rfl ?_
  obtain ⟨hc1, hw⟩ := hw
  refine z_cvi (M' := M_r_arg) (post := fun v S' => (S 150 ((4 * l1) + 3).toNatClampNeg) = v ∧ S = S') [.int l1, .int 3] hx rfl w_734 cv_r_arg hG.1 (by decide) rfl rfl rfl rfl (zr_arg hx hG (⟨hc1, ⟨rfl, rfl⟩⟩)) ?_ (fun _ _ hf => hf.elim)
  rintro v S' ⟨rfl, rfl⟩
  refine z_istore_n [some (.ref 148), some (.int l1), some (.int (S 150 ((4 * l1) + 3).toNatClampNeg))] rfl rfl rfl ?_
  refine z_aload_n rfl rfl ?_
  refine z_aload_n rfl rfl ?_
  refine z_geti (ci := 7) 7 rfl hG.1 rfl w_665 ?_
  refine z_iconst 0 rfl rfl ?_
  refine z_iload_n rfl rfl ?_
  obtain ⟨hc2, hw⟩ := hw
  replace hw := hw _ rfl
  refine z_cvv (M' := M_r_put) (post := fun S' => (up2 S 154 ((8 * (S 148 7)) + 0).toNatClampNeg l1) = S') [.int (S 148 7), .int 0, .int l1] hx rfl w_774 cv_r_put hG.1 (by decide) rfl rfl rfl rfl (zr_put hx hG (⟨hc2, fun _ hS => by subst hS; exact rfl⟩)) ?_ (fun _ _ hf => hf.elim)
  rintro S' rfl
  refine z_aload_n rfl rfl ?_
  refine z_aload_n rfl rfl ?_
  refine z_geti (ci := 7) 7 rfl hG.1 rfl w_665 ?_
  refine z_iconst 1 rfl rfl ?_
  refine z_aload_n rfl rfl ?_
  refine z_iload_n rfl rfl ?_
  refine z_iconst 0 rfl rfl ?_
  obtain ⟨hc3, hw⟩ := hw
  refine z_cvi (M' := M_r_arg) (post := fun v S' => ((up2 S 154 ((8 * (S 148 7)) + 0).toNatClampNeg l1) 150 ((4 * l1) + 0).toNatClampNeg) = v ∧ (up2 S 154 ((8 * (S 148 7)) + 0).toNatClampNeg l1) = S') [.int l1, .int 0] hx rfl w_734 cv_r_arg hG.1 (by decide) rfl rfl rfl rfl (zr_arg hx hG (⟨hc3, ⟨rfl, rfl⟩⟩)) ?_ (fun _ _ hf => hf.elim)
  rintro v S' ⟨rfl, rfl⟩
  obtain ⟨hc4, hw⟩ := hw
  replace hw := hw _ rfl
  refine z_cvv (M' := M_r_put) (post := fun S' => (up2 (up2 S 154 ((8 * (S 148 7)) + 0).toNatClampNeg l1) 154 ((8 * ((up2 S 154 ((8 * (S 148 7)) + 0).toNatClampNeg l1) 148 7)) + 1).toNatClampNeg ((up2 S 154 ((8 * (S 148 7)) + 0).toNatClampNeg l1) 150 ((4 * l1) + 0).toNatClampNeg)) = S') [.int ((up2 S 154 ((8 * (S 148 7)) + 0).toNatClampNeg l1) 148 7), .int 1, .int ((up2 S 154 ((8 * (S 148 7)) + 0).toNatClampNeg l1) 150 ((4 * l1) + 0).toNatClampNeg)] hx rfl w_774 cv_r_put hG.1 (by decide) rfl rfl rfl rfl (zr_put hx hG (⟨hc4, fun _ hS => by subst hS; exact rfl⟩)) ?_ (fun _ _ hf => hf.elim)
  rintro S' rfl
  refine z_aload_n rfl rfl ?_
  refine z_aload_n rfl rfl ?_
  refine z_geti (ci := 7) 7 rfl hG.1 rfl w_665 ?_
  refine z_iconst 2 rfl rfl ?_
  refine z_aload_n rfl rfl ?_
  refine z_iload_n rfl rfl ?_
  refine z_iconst 1 rfl rfl ?_
  obtain ⟨hc5, hw⟩ := hw
  refine z_cvi (M' := M_r_arg) (post := fun v S' => ((up2 (up2 S 154 ((8 * (S 148 7)) + 0).toNatClampNeg l1) 154 ((8 * ((up2 S 154 ((8 * (S 148 7)) + 0).toNatClampNeg l1) 148 7)) + 1).toNatClampNeg ((up2 S 154 ((8 * (S 148 7)) + 0).toNatClampNeg l1) 150 ((4 * l1) + 0).toNatClampNeg)) 150 ((4 * l1) + 1).toNatClampNeg) = v ∧ (up2 (up2 S 154 ((8 * (S 148 7)) + 0).toNatClampNeg l1) 154 ((8 * ((up2 S 154 ((8 * (S 148 7)) + 0).toNatClampNeg l1) 148 7)) + 1).toNatClampNeg ((up2 S 154 ((8 * (S 148 7)) + 0).toNatClampNeg l1) 150 ((4 * l1) + 0).toNatClampNeg)) = S') [.int l1, .int 1] hx rfl w_734 cv_r_arg hG.1 (by decide) rfl rfl rfl rfl (zr_arg hx hG (⟨hc5, ⟨rfl, rfl⟩⟩)) ?_ (fun _ _ hf => hf.elim)
  rintro v S' ⟨rfl, rfl⟩
  obtain ⟨hc6, hw⟩ := hw
  replace hw := hw _ rfl
  refine z_cvv (M' := M_r_put) (post := fun S' => (up2 (up2 (up2 S 154 ((8 * (S 148 7)) + 0).toNatClampNeg l1) 154 ((8 * ((up2 S 154 ((8 * (S 148 7)) + 0).toNatClampNeg l1) 148 7)) + 1).toNatClampNeg ((up2 S 154 ((8 * (S 148 7)) + 0).toNatClampNeg l1) 150 ((4 * l1) + 0).toNatClampNeg)) 154 ((8 * ((up2 (up2 S 154 ((8 * (S 148 7)) + 0).toNatClampNeg l1) 154 ((8 * ((up2 S 154 ((8 * (S 148 7)) + 0).toNatClampNeg l1) 148 7)) + 1).toNatClampNeg ((up2 S 154 ((8 * (S 148 7)) + 0).toNatClampNeg l1) 150 ((4 * l1) + 0).toNatClampNeg)) 148 7)) + 2).toNatClampNeg ((up2 (up2 S 154 ((8 * (S 148 7)) + 0).toNatClampNeg l1) 154 ((8 * ((up2 S 154 ((8 * (S 148 7)) + 0).toNatClampNeg l1) 148 7)) + 1).toNatClampNeg ((up2 S 154 ((8 * (S 148 7)) + 0).toNatClampNeg l1) 150 ((4 * l1) + 0).toNatClampNeg)) 150 ((4 * l1) + 1).toNatClampNeg)) = S') [.int ((up2 (up2 S 154 ((8 * (S 148 7)) + 0).toNatClampNeg l1) 154 ((8 * ((up2 S 154 ((8 * (S 148 7)) + 0).toNatClampNeg l1) 148 7)) + 1).toNatClampNeg ((up2 S 154 ((8 * (S 148 7)) + 0).toNatClampNeg l1) 150 ((4 * l1) + 0).toNatClampNeg)) 148 7), .int 2, .int ((up2 (up2 S 154 ((8 * (S 148 7)) + 0).toNatClampNeg l1) 154 ((8 * ((up2 S 154 ((8 * (S 148 7)) + 0).toNatClampNeg l1) 148 7)) + 1).toNatClampNeg ((up2 S 154 ((8 * (S 148 7)) + 0).toNatClampNeg l1) 150 ((4 * l1) + 0).toNatClampNeg)) 150 ((4 * l1) + 1).toNatClampNeg)] hx rfl w_774 cv_r_put hG.1 (by decide) rfl rfl rfl rfl (zr_put hx hG (⟨hc6, fun _ hS => by subst hS; exact rfl⟩)) ?_ (fun _ _ hf => hf.elim)
  rintro S' rfl
  refine z_aload_n rfl rfl ?_
  refine z_aload_n rfl rfl ?_
  refine z_geti (ci := 7) 7 rfl hG.1 rfl w_665 ?_
  refine z_iconst 3 rfl rfl ?_
  refine z_aload_n rfl rfl ?_
  refine z_iload_n rfl rfl ?_
  refine z_iconst 2 rfl rfl ?_
  obtain ⟨hc7, hw⟩ := hw
  refine z_cvi (M' := M_r_arg) (post := fun v S' => ((up2 (up2 (up2 S 154 ((8 * (S 148 7)) + 0).toNatClampNeg l1) 154 ((8 * ((up2 S 154 ((8 * (S 148 7)) + 0).toNatClampNeg l1) 148 7)) + 1).toNatClampNeg ((up2 S 154 ((8 * (S 148 7)) + 0).toNatClampNeg l1) 150 ((4 * l1) + 0).toNatClampNeg)) 154 ((8 * ((up2 (up2 S 154 ((8 * (S 148 7)) + 0).toNatClampNeg l1) 154 ((8 * ((up2 S 154 ((8 * (S 148 7)) + 0).toNatClampNeg l1) 148 7)) + 1).toNatClampNeg ((up2 S 154 ((8 * (S 148 7)) + 0).toNatClampNeg l1) 150 ((4 * l1) + 0).toNatClampNeg)) 148 7)) + 2).toNatClampNeg ((up2 (up2 S 154 ((8 * (S 148 7)) + 0).toNatClampNeg l1) 154 ((8 * ((up2 S 154 ((8 * (S 148 7)) + 0).toNatClampNeg l1) 148 7)) + 1).toNatClampNeg ((up2 S 154 ((8 * (S 148 7)) + 0).toNatClampNeg l1) 150 ((4 * l1) + 0).toNatClampNeg)) 150 ((4 * l1) + 1).toNatClampNeg)) 150 ((4 * l1) + 2).toNatClampNeg) = v ∧ (up2 (up2 (up2 S 154 ((8 * (S 148 7)) + 0).toNatClampNeg l1) 154 ((8 * ((up2 S 154 ((8 * (S 148 7)) + 0).toNatClampNeg l1) 148 7)) + 1).toNatClampNeg ((up2 S 154 ((8 * (S 148 7)) + 0).toNatClampNeg l1) 150 ((4 * l1) + 0).toNatClampNeg)) 154 ((8 * ((up2 (up2 S 154 ((8 * (S 148 7)) + 0).toNatClampNeg l1) 154 ((8 * ((up2 S 154 ((8 * (S 148 7)) + 0).toNatClampNeg l1) 148 7)) + 1).toNatClampNeg ((up2 S 154 ((8 * (S 148 7)) + 0).toNatClampNeg l1) 150 ((4 * l1) + 0).toNatClampNeg)) 148 7)) + 2).toNatClampNeg ((up2 (up2 S 154 ((8 * (S 148 7)) + 0).toNatClampNeg l1) 154 ((8 * ((up2 S 154 ((8 * (S 148 7)) + 0).toNatClampNeg l1) 148 7)) + 1).toNatClampNeg ((up2 S 154 ((8 * (S 148 7)) + 0).toNatClampNeg l1) 150 ((4 * l1) + 0).toNatClampNeg)) 150 ((4 * l1) + 1).toNatClampNeg)) = S') [.int l1, .int 2] hx rfl w_734 cv_r_arg hG.1 (by decide) rfl rfl rfl rfl (zr_arg hx hG (⟨hc7, ⟨rfl, rfl⟩⟩)) ?_ (fun _ _ hf => hf.elim)
  rintro v S' ⟨rfl, rfl⟩
  obtain ⟨hc8, hw⟩ := hw
  replace hw := hw _ rfl
  refine z_cvv (M' := M_r_put) (post := fun S' => (up2 (up2 (up2 (up2 S 154 ((8 * (S 148 7)) + 0).toNatClampNeg l1) 154 ((8 * ((up2 S 154 ((8 * (S 148 7)) + 0).toNatClampNeg l1) 148 7)) + 1).toNatClampNeg ((up2 S 154 ((8 * (S 148 7)) + 0).toNatClampNeg l1) 150 ((4 * l1) + 0).toNatClampNeg)) 154 ((8 * ((up2 (up2 S 154 ((8 * (S 148 7)) + 0).toNatClampNeg l1) 154 ((8 * ((up2 S 154 ((8 * (S 148 7)) + 0).toNatClampNeg l1) 148 7)) + 1).toNatClampNeg ((up2 S 154 ((8 * (S 148 7)) + 0).toNatClampNeg l1) 150 ((4 * l1) + 0).toNatClampNeg)) 148 7)) + 2).toNatClampNeg ((up2 (up2 S 154 ((8 * (S 148 7)) + 0).toNatClampNeg l1) 154 ((8 * ((up2 S 154 ((8 * (S 148 7)) + 0).toNatClampNeg l1) 148 7)) + 1).toNatClampNeg ((up2 S 154 ((8 * (S 148 7)) + 0).toNatClampNeg l1) 150 ((4 * l1) + 0).toNatClampNeg)) 150 ((4 * l1) + 1).toNatClampNeg)) 154 ((8 * ((up2 (up2 (up2 S 154 ((8 * (S 148 7)) + 0).toNatClampNeg l1) 154 ((8 * ((up2 S 154 ((8 * (S 148 7)) + 0).toNatClampNeg l1) 148 7)) + 1).toNatClampNeg ((up2 S 154 ((8 * (S 148 7)) + 0).toNatClampNeg l1) 150 ((4 * l1) + 0).toNatClampNeg)) 154 ((8 * ((up2 (up2 S 154 ((8 * (S 148 7)) + 0).toNatClampNeg l1) 154 ((8 * ((up2 S 154 ((8 * (S 148 7)) + 0).toNatClampNeg l1) 148 7)) + 1).toNatClampNeg ((up2 S 154 ((8 * (S 148 7)) + 0).toNatClampNeg l1) 150 ((4 * l1) + 0).toNatClampNeg)) 148 7)) + 2).toNatClampNeg ((up2 (up2 S 154 ((8 * (S 148 7)) + 0).toNatClampNeg l1) 154 ((8 * ((up2 S 154 ((8 * (S 148 7)) + 0).toNatClampNeg l1) 148 7)) + 1).toNatClampNeg ((up2 S 154 ((8 * (S 148 7)) + 0).toNatClampNeg l1) 150 ((4 * l1) + 0).toNatClampNeg)) 150 ((4 * l1) + 1).toNatClampNeg)) 148 7)) + 3).toNatClampNeg ((up2 (up2 (up2 S 154 ((8 * (S 148 7)) + 0).toNatClampNeg l1) 154 ((8 * ((up2 S 154 ((8 * (S 148 7)) + 0).toNatClampNeg l1) 148 7)) + 1).toNatClampNeg ((up2 S 154 ((8 * (S 148 7)) + 0).toNatClampNeg l1) 150 ((4 * l1) + 0).toNatClampNeg)) 154 ((8 * ((up2 (up2 S 154 ((8 * (S 148 7)) + 0).toNatClampNeg l1) 154 ((8 * ((up2 S 154 ((8 * (S 148 7)) + 0).toNatClampNeg l1) 148 7)) + 1).toNatClampNeg ((up2 S 154 ((8 * (S 148 7)) + 0).toNatClampNeg l1) 150 ((4 * l1) + 0).toNatClampNeg)) 148 7)) + 2).toNatClampNeg ((up2 (up2 S 154 ((8 * (S 148 7)) + 0).toNatClampNeg l1) 154 ((8 * ((up2 S 154 ((8 * (S 148 7)) + 0).toNatClampNeg l1) 148 7)) + 1).toNatClampNeg ((up2 S 154 ((8 * (S 148 7)) + 0).toNatClampNeg l1) 150 ((4 * l1) + 0).toNatClampNeg)) 150 ((4 * l1) + 1).toNatClampNeg)) 150 ((4 * l1) + 2).toNatClampNeg)) = S') [.int ((up2 (up2 (up2 S 154 ((8 * (S 148 7)) + 0).toNatClampNeg l1) 154 ((8 * ((up2 S 154 ((8 * (S 148 7)) + 0).toNatClampNeg l1) 148 7)) + 1).toNatClampNeg ((up2 S 154 ((8 * (S 148 7)) + 0).toNatClampNeg l1) 150 ((4 * l1) + 0).toNatClampNeg)) 154 ((8 * ((up2 (up2 S 154 ((8 * (S 148 7)) + 0).toNatClampNeg l1) 154 ((8 * ((up2 S 154 ((8 * (S 148 7)) + 0).toNatClampNeg l1) 148 7)) + 1).toNatClampNeg ((up2 S 154 ((8 * (S 148 7)) + 0).toNatClampNeg l1) 150 ((4 * l1) + 0).toNatClampNeg)) 148 7)) + 2).toNatClampNeg ((up2 (up2 S 154 ((8 * (S 148 7)) + 0).toNatClampNeg l1) 154 ((8 * ((up2 S 154 ((8 * (S 148 7)) + 0).toNatClampNeg l1) 148 7)) + 1).toNatClampNeg ((up2 S 154 ((8 * (S 148 7)) + 0).toNatClampNeg l1) 150 ((4 * l1) + 0).toNatClampNeg)) 150 ((4 * l1) + 1).toNatClampNeg)) 148 7), .int 3, .int ((up2 (up2 (up2 S 154 ((8 * (S 148 7)) + 0).toNatClampNeg l1) 154 ((8 * ((up2 S 154 ((8 * (S 148 7)) + 0).toNatClampNeg l1) 148 7)) + 1).toNatClampNeg ((up2 S 154 ((8 * (S 148 7)) + 0).toNatClampNeg l1) 150 ((4 * l1) + 0).toNatClampNeg)) 154 ((8 * ((up2 (up2 S 154 ((8 * (S 148 7)) + 0).toNatClampNeg l1) 154 ((8 * ((up2 S 154 ((8 * (S 148 7)) + 0).toNatClampNeg l1) 148 7)) + 1).toNatClampNeg ((up2 S 154 ((8 * (S 148 7)) + 0).toNatClampNeg l1) 150 ((4 * l1) + 0).toNatClampNeg)) 148 7)) + 2).toNatClampNeg ((up2 (up2 S 154 ((8 * (S 148 7)) + 0).toNatClampNeg l1) 154 ((8 * ((up2 S 154 ((8 * (S 148 7)) + 0).toNatClampNeg l1) 148 7)) + 1).toNatClampNeg ((up2 S 154 ((8 * (S 148 7)) + 0).toNatClampNeg l1) 150 ((4 * l1) + 0).toNatClampNeg)) 150 ((4 * l1) + 1).toNatClampNeg)) 150 ((4 * l1) + 2).toNatClampNeg)] hx rfl w_774 cv_r_put hG.1 (by decide) rfl rfl rfl rfl (zr_put hx hG (⟨hc8, fun _ hS => by subst hS; exact rfl⟩)) ?_ (fun _ _ hf => hf.elim)
  rintro S' rfl
  refine z_aload_n rfl rfl ?_
  refine z_aload_n rfl rfl ?_
  refine z_geti (ci := 7) 7 rfl hG.1 rfl w_665 ?_
  refine z_iconst 4 rfl rfl ?_
  refine z_iload_n rfl rfl ?_
  refine z_sipush 128 rfl rfl ?_
  refine z_irem rfl (by decide) ?_
  obtain ⟨hc9, hw⟩ := hw
  replace hw := hw _ rfl
  refine z_cvv (M' := M_r_put) (post := fun S' => (up2 (up2 (up2 (up2 (up2 S 154 ((8 * (S 148 7)) + 0).toNatClampNeg l1) 154 ((8 * ((up2 S 154 ((8 * (S 148 7)) + 0).toNatClampNeg l1) 148 7)) + 1).toNatClampNeg ((up2 S 154 ((8 * (S 148 7)) + 0).toNatClampNeg l1) 150 ((4 * l1) + 0).toNatClampNeg)) 154 ((8 * ((up2 (up2 S 154 ((8 * (S 148 7)) + 0).toNatClampNeg l1) 154 ((8 * ((up2 S 154 ((8 * (S 148 7)) + 0).toNatClampNeg l1) 148 7)) + 1).toNatClampNeg ((up2 S 154 ((8 * (S 148 7)) + 0).toNatClampNeg l1) 150 ((4 * l1) + 0).toNatClampNeg)) 148 7)) + 2).toNatClampNeg ((up2 (up2 S 154 ((8 * (S 148 7)) + 0).toNatClampNeg l1) 154 ((8 * ((up2 S 154 ((8 * (S 148 7)) + 0).toNatClampNeg l1) 148 7)) + 1).toNatClampNeg ((up2 S 154 ((8 * (S 148 7)) + 0).toNatClampNeg l1) 150 ((4 * l1) + 0).toNatClampNeg)) 150 ((4 * l1) + 1).toNatClampNeg)) 154 ((8 * ((up2 (up2 (up2 S 154 ((8 * (S 148 7)) + 0).toNatClampNeg l1) 154 ((8 * ((up2 S 154 ((8 * (S 148 7)) + 0).toNatClampNeg l1) 148 7)) + 1).toNatClampNeg ((up2 S 154 ((8 * (S 148 7)) + 0).toNatClampNeg l1) 150 ((4 * l1) + 0).toNatClampNeg)) 154 ((8 * ((up2 (up2 S 154 ((8 * (S 148 7)) + 0).toNatClampNeg l1) 154 ((8 * ((up2 S 154 ((8 * (S 148 7)) + 0).toNatClampNeg l1) 148 7)) + 1).toNatClampNeg ((up2 S 154 ((8 * (S 148 7)) + 0).toNatClampNeg l1) 150 ((4 * l1) + 0).toNatClampNeg)) 148 7)) + 2).toNatClampNeg ((up2 (up2 S 154 ((8 * (S 148 7)) + 0).toNatClampNeg l1) 154 ((8 * ((up2 S 154 ((8 * (S 148 7)) + 0).toNatClampNeg l1) 148 7)) + 1).toNatClampNeg ((up2 S 154 ((8 * (S 148 7)) + 0).toNatClampNeg l1) 150 ((4 * l1) + 0).toNatClampNeg)) 150 ((4 * l1) + 1).toNatClampNeg)) 148 7)) + 3).toNatClampNeg ((up2 (up2 (up2 S 154 ((8 * (S 148 7)) + 0).toNatClampNeg l1) 154 ((8 * ((up2 S 154 ((8 * (S 148 7)) + 0).toNatClampNeg l1) 148 7)) + 1).toNatClampNeg ((up2 S 154 ((8 * (S 148 7)) + 0).toNatClampNeg l1) 150 ((4 * l1) + 0).toNatClampNeg)) 154 ((8 * ((up2 (up2 S 154 ((8 * (S 148 7)) + 0).toNatClampNeg l1) 154 ((8 * ((up2 S 154 ((8 * (S 148 7)) + 0).toNatClampNeg l1) 148 7)) + 1).toNatClampNeg ((up2 S 154 ((8 * (S 148 7)) + 0).toNatClampNeg l1) 150 ((4 * l1) + 0).toNatClampNeg)) 148 7)) + 2).toNatClampNeg ((up2 (up2 S 154 ((8 * (S 148 7)) + 0).toNatClampNeg l1) 154 ((8 * ((up2 S 154 ((8 * (S 148 7)) + 0).toNatClampNeg l1) 148 7)) + 1).toNatClampNeg ((up2 S 154 ((8 * (S 148 7)) + 0).toNatClampNeg l1) 150 ((4 * l1) + 0).toNatClampNeg)) 150 ((4 * l1) + 1).toNatClampNeg)) 150 ((4 * l1) + 2).toNatClampNeg)) 154 ((8 * ((up2 (up2 (up2 (up2 S 154 ((8 * (S 148 7)) + 0).toNatClampNeg l1) 154 ((8 * ((up2 S 154 ((8 * (S 148 7)) + 0).toNatClampNeg l1) 148 7)) + 1).toNatClampNeg ((up2 S 154 ((8 * (S 148 7)) + 0).toNatClampNeg l1) 150 ((4 * l1) + 0).toNatClampNeg)) 154 ((8 * ((up2 (up2 S 154 ((8 * (S 148 7)) + 0).toNatClampNeg l1) 154 ((8 * ((up2 S 154 ((8 * (S 148 7)) + 0).toNatClampNeg l1) 148 7)) + 1).toNatClampNeg ((up2 S 154 ((8 * (S 148 7)) + 0).toNatClampNeg l1) 150 ((4 * l1) + 0).toNatClampNeg)) 148 7)) + 2).toNatClampNeg ((up2 (up2 S 154 ((8 * (S 148 7)) + 0).toNatClampNeg l1) 154 ((8 * ((up2 S 154 ((8 * (S 148 7)) + 0).toNatClampNeg l1) 148 7)) + 1).toNatClampNeg ((up2 S 154 ((8 * (S 148 7)) + 0).toNatClampNeg l1) 150 ((4 * l1) + 0).toNatClampNeg)) 150 ((4 * l1) + 1).toNatClampNeg)) 154 ((8 * ((up2 (up2 (up2 S 154 ((8 * (S 148 7)) + 0).toNatClampNeg l1) 154 ((8 * ((up2 S 154 ((8 * (S 148 7)) + 0).toNatClampNeg l1) 148 7)) + 1).toNatClampNeg ((up2 S 154 ((8 * (S 148 7)) + 0).toNatClampNeg l1) 150 ((4 * l1) + 0).toNatClampNeg)) 154 ((8 * ((up2 (up2 S 154 ((8 * (S 148 7)) + 0).toNatClampNeg l1) 154 ((8 * ((up2 S 154 ((8 * (S 148 7)) + 0).toNatClampNeg l1) 148 7)) + 1).toNatClampNeg ((up2 S 154 ((8 * (S 148 7)) + 0).toNatClampNeg l1) 150 ((4 * l1) + 0).toNatClampNeg)) 148 7)) + 2).toNatClampNeg ((up2 (up2 S 154 ((8 * (S 148 7)) + 0).toNatClampNeg l1) 154 ((8 * ((up2 S 154 ((8 * (S 148 7)) + 0).toNatClampNeg l1) 148 7)) + 1).toNatClampNeg ((up2 S 154 ((8 * (S 148 7)) + 0).toNatClampNeg l1) 150 ((4 * l1) + 0).toNatClampNeg)) 150 ((4 * l1) + 1).toNatClampNeg)) 148 7)) + 3).toNatClampNeg ((up2 (up2 (up2 S 154 ((8 * (S 148 7)) + 0).toNatClampNeg l1) 154 ((8 * ((up2 S 154 ((8 * (S 148 7)) + 0).toNatClampNeg l1) 148 7)) + 1).toNatClampNeg ((up2 S 154 ((8 * (S 148 7)) + 0).toNatClampNeg l1) 150 ((4 * l1) + 0).toNatClampNeg)) 154 ((8 * ((up2 (up2 S 154 ((8 * (S 148 7)) + 0).toNatClampNeg l1) 154 ((8 * ((up2 S 154 ((8 * (S 148 7)) + 0).toNatClampNeg l1) 148 7)) + 1).toNatClampNeg ((up2 S 154 ((8 * (S 148 7)) + 0).toNatClampNeg l1) 150 ((4 * l1) + 0).toNatClampNeg)) 148 7)) + 2).toNatClampNeg ((up2 (up2 S 154 ((8 * (S 148 7)) + 0).toNatClampNeg l1) 154 ((8 * ((up2 S 154 ((8 * (S 148 7)) + 0).toNatClampNeg l1) 148 7)) + 1).toNatClampNeg ((up2 S 154 ((8 * (S 148 7)) + 0).toNatClampNeg l1) 150 ((4 * l1) + 0).toNatClampNeg)) 150 ((4 * l1) + 1).toNatClampNeg)) 150 ((4 * l1) + 2).toNatClampNeg)) 148 7)) + 4).toNatClampNeg ((S 150 ((4 * l1) + 3).toNatClampNeg) - (S 150 ((4 * l1) + 3).toNatClampNeg) / 128 * 128)) = S') [.int ((up2 (up2 (up2 (up2 S 154 ((8 * (S 148 7)) + 0).toNatClampNeg l1) 154 ((8 * ((up2 S 154 ((8 * (S 148 7)) + 0).toNatClampNeg l1) 148 7)) + 1).toNatClampNeg ((up2 S 154 ((8 * (S 148 7)) + 0).toNatClampNeg l1) 150 ((4 * l1) + 0).toNatClampNeg)) 154 ((8 * ((up2 (up2 S 154 ((8 * (S 148 7)) + 0).toNatClampNeg l1) 154 ((8 * ((up2 S 154 ((8 * (S 148 7)) + 0).toNatClampNeg l1) 148 7)) + 1).toNatClampNeg ((up2 S 154 ((8 * (S 148 7)) + 0).toNatClampNeg l1) 150 ((4 * l1) + 0).toNatClampNeg)) 148 7)) + 2).toNatClampNeg ((up2 (up2 S 154 ((8 * (S 148 7)) + 0).toNatClampNeg l1) 154 ((8 * ((up2 S 154 ((8 * (S 148 7)) + 0).toNatClampNeg l1) 148 7)) + 1).toNatClampNeg ((up2 S 154 ((8 * (S 148 7)) + 0).toNatClampNeg l1) 150 ((4 * l1) + 0).toNatClampNeg)) 150 ((4 * l1) + 1).toNatClampNeg)) 154 ((8 * ((up2 (up2 (up2 S 154 ((8 * (S 148 7)) + 0).toNatClampNeg l1) 154 ((8 * ((up2 S 154 ((8 * (S 148 7)) + 0).toNatClampNeg l1) 148 7)) + 1).toNatClampNeg ((up2 S 154 ((8 * (S 148 7)) + 0).toNatClampNeg l1) 150 ((4 * l1) + 0).toNatClampNeg)) 154 ((8 * ((up2 (up2 S 154 ((8 * (S 148 7)) + 0).toNatClampNeg l1) 154 ((8 * ((up2 S 154 ((8 * (S 148 7)) + 0).toNatClampNeg l1) 148 7)) + 1).toNatClampNeg ((up2 S 154 ((8 * (S 148 7)) + 0).toNatClampNeg l1) 150 ((4 * l1) + 0).toNatClampNeg)) 148 7)) + 2).toNatClampNeg ((up2 (up2 S 154 ((8 * (S 148 7)) + 0).toNatClampNeg l1) 154 ((8 * ((up2 S 154 ((8 * (S 148 7)) + 0).toNatClampNeg l1) 148 7)) + 1).toNatClampNeg ((up2 S 154 ((8 * (S 148 7)) + 0).toNatClampNeg l1) 150 ((4 * l1) + 0).toNatClampNeg)) 150 ((4 * l1) + 1).toNatClampNeg)) 148 7)) + 3).toNatClampNeg ((up2 (up2 (up2 S 154 ((8 * (S 148 7)) + 0).toNatClampNeg l1) 154 ((8 * ((up2 S 154 ((8 * (S 148 7)) + 0).toNatClampNeg l1) 148 7)) + 1).toNatClampNeg ((up2 S 154 ((8 * (S 148 7)) + 0).toNatClampNeg l1) 150 ((4 * l1) + 0).toNatClampNeg)) 154 ((8 * ((up2 (up2 S 154 ((8 * (S 148 7)) + 0).toNatClampNeg l1) 154 ((8 * ((up2 S 154 ((8 * (S 148 7)) + 0).toNatClampNeg l1) 148 7)) + 1).toNatClampNeg ((up2 S 154 ((8 * (S 148 7)) + 0).toNatClampNeg l1) 150 ((4 * l1) + 0).toNatClampNeg)) 148 7)) + 2).toNatClampNeg ((up2 (up2 S 154 ((8 * (S 148 7)) + 0).toNatClampNeg l1) 154 ((8 * ((up2 S 154 ((8 * (S 148 7)) + 0).toNatClampNeg l1) 148 7)) + 1).toNatClampNeg ((up2 S 154 ((8 * (S 148 7)) + 0).toNatClampNeg l1) 150 ((4 * l1) + 0).toNatClampNeg)) 150 ((4 * l1) + 1).toNatClampNeg)) 150 ((4 * l1) + 2).toNatClampNeg)) 148 7), .int 4, .int ((S 150 ((4 * l1) + 3).toNatClampNeg) - (S 150 ((4 * l1) + 3).toNatClampNeg) / 128 * 128)] hx rfl w_774 cv_r_put hG.1 (by decide) rfl rfl rfl rfl (zr_put hx hG (⟨hc9, fun _ hS => by subst hS; exact rfl⟩)) ?_ (fun _ _ hf => hf.elim)
  rintro S' rfl
  refine z_aload_n rfl rfl ?_
  refine z_aload_n rfl rfl ?_
  refine z_geti (ci := 7) 7 rfl hG.1 rfl w_665 ?_
  refine z_iconst 5 rfl rfl ?_
  refine z_iload_n rfl rfl ?_
  refine z_sipush 128 rfl rfl ?_
  refine z_idiv rfl (by decide) ?_
  obtain ⟨hc10, hw⟩ := hw
  replace hw := hw _ rfl
  refine z_cvv (M' := M_r_put) (post := fun S' => (up2 (up2 (up2 (up2 (up2 (up2 S 154 ((8 * (S 148 7)) + 0).toNatClampNeg l1) 154 ((8 * ((up2 S 154 ((8 * (S 148 7)) + 0).toNatClampNeg l1) 148 7)) + 1).toNatClampNeg ((up2 S 154 ((8 * (S 148 7)) + 0).toNatClampNeg l1) 150 ((4 * l1) + 0).toNatClampNeg)) 154 ((8 * ((up2 (up2 S 154 ((8 * (S 148 7)) + 0).toNatClampNeg l1) 154 ((8 * ((up2 S 154 ((8 * (S 148 7)) + 0).toNatClampNeg l1) 148 7)) + 1).toNatClampNeg ((up2 S 154 ((8 * (S 148 7)) + 0).toNatClampNeg l1) 150 ((4 * l1) + 0).toNatClampNeg)) 148 7)) + 2).toNatClampNeg ((up2 (up2 S 154 ((8 * (S 148 7)) + 0).toNatClampNeg l1) 154 ((8 * ((up2 S 154 ((8 * (S 148 7)) + 0).toNatClampNeg l1) 148 7)) + 1).toNatClampNeg ((up2 S 154 ((8 * (S 148 7)) + 0).toNatClampNeg l1) 150 ((4 * l1) + 0).toNatClampNeg)) 150 ((4 * l1) + 1).toNatClampNeg)) 154 ((8 * ((up2 (up2 (up2 S 154 ((8 * (S 148 7)) + 0).toNatClampNeg l1) 154 ((8 * ((up2 S 154 ((8 * (S 148 7)) + 0).toNatClampNeg l1) 148 7)) + 1).toNatClampNeg ((up2 S 154 ((8 * (S 148 7)) + 0).toNatClampNeg l1) 150 ((4 * l1) + 0).toNatClampNeg)) 154 ((8 * ((up2 (up2 S 154 ((8 * (S 148 7)) + 0).toNatClampNeg l1) 154 ((8 * ((up2 S 154 ((8 * (S 148 7)) + 0).toNatClampNeg l1) 148 7)) + 1).toNatClampNeg ((up2 S 154 ((8 * (S 148 7)) + 0).toNatClampNeg l1) 150 ((4 * l1) + 0).toNatClampNeg)) 148 7)) + 2).toNatClampNeg ((up2 (up2 S 154 ((8 * (S 148 7)) + 0).toNatClampNeg l1) 154 ((8 * ((up2 S 154 ((8 * (S 148 7)) + 0).toNatClampNeg l1) 148 7)) + 1).toNatClampNeg ((up2 S 154 ((8 * (S 148 7)) + 0).toNatClampNeg l1) 150 ((4 * l1) + 0).toNatClampNeg)) 150 ((4 * l1) + 1).toNatClampNeg)) 148 7)) + 3).toNatClampNeg ((up2 (up2 (up2 S 154 ((8 * (S 148 7)) + 0).toNatClampNeg l1) 154 ((8 * ((up2 S 154 ((8 * (S 148 7)) + 0).toNatClampNeg l1) 148 7)) + 1).toNatClampNeg ((up2 S 154 ((8 * (S 148 7)) + 0).toNatClampNeg l1) 150 ((4 * l1) + 0).toNatClampNeg)) 154 ((8 * ((up2 (up2 S 154 ((8 * (S 148 7)) + 0).toNatClampNeg l1) 154 ((8 * ((up2 S 154 ((8 * (S 148 7)) + 0).toNatClampNeg l1) 148 7)) + 1).toNatClampNeg ((up2 S 154 ((8 * (S 148 7)) + 0).toNatClampNeg l1) 150 ((4 * l1) + 0).toNatClampNeg)) 148 7)) + 2).toNatClampNeg ((up2 (up2 S 154 ((8 * (S 148 7)) + 0).toNatClampNeg l1) 154 ((8 * ((up2 S 154 ((8 * (S 148 7)) + 0).toNatClampNeg l1) 148 7)) + 1).toNatClampNeg ((up2 S 154 ((8 * (S 148 7)) + 0).toNatClampNeg l1) 150 ((4 * l1) + 0).toNatClampNeg)) 150 ((4 * l1) + 1).toNatClampNeg)) 150 ((4 * l1) + 2).toNatClampNeg)) 154 ((8 * ((up2 (up2 (up2 (up2 S 154 ((8 * (S 148 7)) + 0).toNatClampNeg l1) 154 ((8 * ((up2 S 154 ((8 * (S 148 7)) + 0).toNatClampNeg l1) 148 7)) + 1).toNatClampNeg ((up2 S 154 ((8 * (S 148 7)) + 0).toNatClampNeg l1) 150 ((4 * l1) + 0).toNatClampNeg)) 154 ((8 * ((up2 (up2 S 154 ((8 * (S 148 7)) + 0).toNatClampNeg l1) 154 ((8 * ((up2 S 154 ((8 * (S 148 7)) + 0).toNatClampNeg l1) 148 7)) + 1).toNatClampNeg ((up2 S 154 ((8 * (S 148 7)) + 0).toNatClampNeg l1) 150 ((4 * l1) + 0).toNatClampNeg)) 148 7)) + 2).toNatClampNeg ((up2 (up2 S 154 ((8 * (S 148 7)) + 0).toNatClampNeg l1) 154 ((8 * ((up2 S 154 ((8 * (S 148 7)) + 0).toNatClampNeg l1) 148 7)) + 1).toNatClampNeg ((up2 S 154 ((8 * (S 148 7)) + 0).toNatClampNeg l1) 150 ((4 * l1) + 0).toNatClampNeg)) 150 ((4 * l1) + 1).toNatClampNeg)) 154 ((8 * ((up2 (up2 (up2 S 154 ((8 * (S 148 7)) + 0).toNatClampNeg l1) 154 ((8 * ((up2 S 154 ((8 * (S 148 7)) + 0).toNatClampNeg l1) 148 7)) + 1).toNatClampNeg ((up2 S 154 ((8 * (S 148 7)) + 0).toNatClampNeg l1) 150 ((4 * l1) + 0).toNatClampNeg)) 154 ((8 * ((up2 (up2 S 154 ((8 * (S 148 7)) + 0).toNatClampNeg l1) 154 ((8 * ((up2 S 154 ((8 * (S 148 7)) + 0).toNatClampNeg l1) 148 7)) + 1).toNatClampNeg ((up2 S 154 ((8 * (S 148 7)) + 0).toNatClampNeg l1) 150 ((4 * l1) + 0).toNatClampNeg)) 148 7)) + 2).toNatClampNeg ((up2 (up2 S 154 ((8 * (S 148 7)) + 0).toNatClampNeg l1) 154 ((8 * ((up2 S 154 ((8 * (S 148 7)) + 0).toNatClampNeg l1) 148 7)) + 1).toNatClampNeg ((up2 S 154 ((8 * (S 148 7)) + 0).toNatClampNeg l1) 150 ((4 * l1) + 0).toNatClampNeg)) 150 ((4 * l1) + 1).toNatClampNeg)) 148 7)) + 3).toNatClampNeg ((up2 (up2 (up2 S 154 ((8 * (S 148 7)) + 0).toNatClampNeg l1) 154 ((8 * ((up2 S 154 ((8 * (S 148 7)) + 0).toNatClampNeg l1) 148 7)) + 1).toNatClampNeg ((up2 S 154 ((8 * (S 148 7)) + 0).toNatClampNeg l1) 150 ((4 * l1) + 0).toNatClampNeg)) 154 ((8 * ((up2 (up2 S 154 ((8 * (S 148 7)) + 0).toNatClampNeg l1) 154 ((8 * ((up2 S 154 ((8 * (S 148 7)) + 0).toNatClampNeg l1) 148 7)) + 1).toNatClampNeg ((up2 S 154 ((8 * (S 148 7)) + 0).toNatClampNeg l1) 150 ((4 * l1) + 0).toNatClampNeg)) 148 7)) + 2).toNatClampNeg ((up2 (up2 S 154 ((8 * (S 148 7)) + 0).toNatClampNeg l1) 154 ((8 * ((up2 S 154 ((8 * (S 148 7)) + 0).toNatClampNeg l1) 148 7)) + 1).toNatClampNeg ((up2 S 154 ((8 * (S 148 7)) + 0).toNatClampNeg l1) 150 ((4 * l1) + 0).toNatClampNeg)) 150 ((4 * l1) + 1).toNatClampNeg)) 150 ((4 * l1) + 2).toNatClampNeg)) 148 7)) + 4).toNatClampNeg ((S 150 ((4 * l1) + 3).toNatClampNeg) - (S 150 ((4 * l1) + 3).toNatClampNeg) / 128 * 128)) 154 ((8 * ((up2 (up2 (up2 (up2 (up2 S 154 ((8 * (S 148 7)) + 0).toNatClampNeg l1) 154 ((8 * ((up2 S 154 ((8 * (S 148 7)) + 0).toNatClampNeg l1) 148 7)) + 1).toNatClampNeg ((up2 S 154 ((8 * (S 148 7)) + 0).toNatClampNeg l1) 150 ((4 * l1) + 0).toNatClampNeg)) 154 ((8 * ((up2 (up2 S 154 ((8 * (S 148 7)) + 0).toNatClampNeg l1) 154 ((8 * ((up2 S 154 ((8 * (S 148 7)) + 0).toNatClampNeg l1) 148 7)) + 1).toNatClampNeg ((up2 S 154 ((8 * (S 148 7)) + 0).toNatClampNeg l1) 150 ((4 * l1) + 0).toNatClampNeg)) 148 7)) + 2).toNatClampNeg ((up2 (up2 S 154 ((8 * (S 148 7)) + 0).toNatClampNeg l1) 154 ((8 * ((up2 S 154 ((8 * (S 148 7)) + 0).toNatClampNeg l1) 148 7)) + 1).toNatClampNeg ((up2 S 154 ((8 * (S 148 7)) + 0).toNatClampNeg l1) 150 ((4 * l1) + 0).toNatClampNeg)) 150 ((4 * l1) + 1).toNatClampNeg)) 154 ((8 * ((up2 (up2 (up2 S 154 ((8 * (S 148 7)) + 0).toNatClampNeg l1) 154 ((8 * ((up2 S 154 ((8 * (S 148 7)) + 0).toNatClampNeg l1) 148 7)) + 1).toNatClampNeg ((up2 S 154 ((8 * (S 148 7)) + 0).toNatClampNeg l1) 150 ((4 * l1) + 0).toNatClampNeg)) 154 ((8 * ((up2 (up2 S 154 ((8 * (S 148 7)) + 0).toNatClampNeg l1) 154 ((8 * ((up2 S 154 ((8 * (S 148 7)) + 0).toNatClampNeg l1) 148 7)) + 1).toNatClampNeg ((up2 S 154 ((8 * (S 148 7)) + 0).toNatClampNeg l1) 150 ((4 * l1) + 0).toNatClampNeg)) 148 7)) + 2).toNatClampNeg ((up2 (up2 S 154 ((8 * (S 148 7)) + 0).toNatClampNeg l1) 154 ((8 * ((up2 S 154 ((8 * (S 148 7)) + 0).toNatClampNeg l1) 148 7)) + 1).toNatClampNeg ((up2 S 154 ((8 * (S 148 7)) + 0).toNatClampNeg l1) 150 ((4 * l1) + 0).toNatClampNeg)) 150 ((4 * l1) + 1).toNatClampNeg)) 148 7)) + 3).toNatClampNeg ((up2 (up2 (up2 S 154 ((8 * (S 148 7)) + 0).toNatClampNeg l1) 154 ((8 * ((up2 S 154 ((8 * (S 148 7)) + 0).toNatClampNeg l1) 148 7)) + 1).toNatClampNeg ((up2 S 154 ((8 * (S 148 7)) + 0).toNatClampNeg l1) 150 ((4 * l1) + 0).toNatClampNeg)) 154 ((8 * ((up2 (up2 S 154 ((8 * (S 148 7)) + 0).toNatClampNeg l1) 154 ((8 * ((up2 S 154 ((8 * (S 148 7)) + 0).toNatClampNeg l1) 148 7)) + 1).toNatClampNeg ((up2 S 154 ((8 * (S 148 7)) + 0).toNatClampNeg l1) 150 ((4 * l1) + 0).toNatClampNeg)) 148 7)) + 2).toNatClampNeg ((up2 (up2 S 154 ((8 * (S 148 7)) + 0).toNatClampNeg l1) 154 ((8 * ((up2 S 154 ((8 * (S 148 7)) + 0).toNatClampNeg l1) 148 7)) + 1).toNatClampNeg ((up2 S 154 ((8 * (S 148 7)) + 0).toNatClampNeg l1) 150 ((4 * l1) + 0).toNatClampNeg)) 150 ((4 * l1) + 1).toNatClampNeg)) 150 ((4 * l1) + 2).toNatClampNeg)) 154 ((8 * ((up2 (up2 (up2 (up2 S 154 ((8 * (S 148 7)) + 0).toNatClampNeg l1) 154 ((8 * ((up2 S 154 ((8 * (S 148 7)) + 0).toNatClampNeg l1) 148 7)) + 1).toNatClampNeg ((up2 S 154 ((8 * (S 148 7)) + 0).toNatClampNeg l1) 150 ((4 * l1) + 0).toNatClampNeg)) 154 ((8 * ((up2 (up2 S 154 ((8 * (S 148 7)) + 0).toNatClampNeg l1) 154 ((8 * ((up2 S 154 ((8 * (S 148 7)) + 0).toNatClampNeg l1) 148 7)) + 1).toNatClampNeg ((up2 S 154 ((8 * (S 148 7)) + 0).toNatClampNeg l1) 150 ((4 * l1) + 0).toNatClampNeg)) 148 7)) + 2).toNatClampNeg ((up2 (up2 S 154 ((8 * (S 148 7)) + 0).toNatClampNeg l1) 154 ((8 * ((up2 S 154 ((8 * (S 148 7)) + 0).toNatClampNeg l1) 148 7)) + 1).toNatClampNeg ((up2 S 154 ((8 * (S 148 7)) + 0).toNatClampNeg l1) 150 ((4 * l1) + 0).toNatClampNeg)) 150 ((4 * l1) + 1).toNatClampNeg)) 154 ((8 * ((up2 (up2 (up2 S 154 ((8 * (S 148 7)) + 0).toNatClampNeg l1) 154 ((8 * ((up2 S 154 ((8 * (S 148 7)) + 0).toNatClampNeg l1) 148 7)) + 1).toNatClampNeg ((up2 S 154 ((8 * (S 148 7)) + 0).toNatClampNeg l1) 150 ((4 * l1) + 0).toNatClampNeg)) 154 ((8 * ((up2 (up2 S 154 ((8 * (S 148 7)) + 0).toNatClampNeg l1) 154 ((8 * ((up2 S 154 ((8 * (S 148 7)) + 0).toNatClampNeg l1) 148 7)) + 1).toNatClampNeg ((up2 S 154 ((8 * (S 148 7)) + 0).toNatClampNeg l1) 150 ((4 * l1) + 0).toNatClampNeg)) 148 7)) + 2).toNatClampNeg ((up2 (up2 S 154 ((8 * (S 148 7)) + 0).toNatClampNeg l1) 154 ((8 * ((up2 S 154 ((8 * (S 148 7)) + 0).toNatClampNeg l1) 148 7)) + 1).toNatClampNeg ((up2 S 154 ((8 * (S 148 7)) + 0).toNatClampNeg l1) 150 ((4 * l1) + 0).toNatClampNeg)) 150 ((4 * l1) + 1).toNatClampNeg)) 148 7)) + 3).toNatClampNeg ((up2 (up2 (up2 S 154 ((8 * (S 148 7)) + 0).toNatClampNeg l1) 154 ((8 * ((up2 S 154 ((8 * (S 148 7)) + 0).toNatClampNeg l1) 148 7)) + 1).toNatClampNeg ((up2 S 154 ((8 * (S 148 7)) + 0).toNatClampNeg l1) 150 ((4 * l1) + 0).toNatClampNeg)) 154 ((8 * ((up2 (up2 S 154 ((8 * (S 148 7)) + 0).toNatClampNeg l1) 154 ((8 * ((up2 S 154 ((8 * (S 148 7)) + 0).toNatClampNeg l1) 148 7)) + 1).toNatClampNeg ((up2 S 154 ((8 * (S 148 7)) + 0).toNatClampNeg l1) 150 ((4 * l1) + 0).toNatClampNeg)) 148 7)) + 2).toNatClampNeg ((up2 (up2 S 154 ((8 * (S 148 7)) + 0).toNatClampNeg l1) 154 ((8 * ((up2 S 154 ((8 * (S 148 7)) + 0).toNatClampNeg l1) 148 7)) + 1).toNatClampNeg ((up2 S 154 ((8 * (S 148 7)) + 0).toNatClampNeg l1) 150 ((4 * l1) + 0).toNatClampNeg)) 150 ((4 * l1) + 1).toNatClampNeg)) 150 ((4 * l1) + 2).toNatClampNeg)) 148 7)) + 4).toNatClampNeg ((S 150 ((4 * l1) + 3).toNatClampNeg) - (S 150 ((4 * l1) + 3).toNatClampNeg) / 128 * 128)) 148 7)) + 5).toNatClampNeg ((S 150 ((4 * l1) + 3).toNatClampNeg) / 128)) = S') [.int ((up2 (up2 (up2 (up2 (up2 S 154 ((8 * (S 148 7)) + 0).toNatClampNeg l1) 154 ((8 * ((up2 S 154 ((8 * (S 148 7)) + 0).toNatClampNeg l1) 148 7)) + 1).toNatClampNeg ((up2 S 154 ((8 * (S 148 7)) + 0).toNatClampNeg l1) 150 ((4 * l1) + 0).toNatClampNeg)) 154 ((8 * ((up2 (up2 S 154 ((8 * (S 148 7)) + 0).toNatClampNeg l1) 154 ((8 * ((up2 S 154 ((8 * (S 148 7)) + 0).toNatClampNeg l1) 148 7)) + 1).toNatClampNeg ((up2 S 154 ((8 * (S 148 7)) + 0).toNatClampNeg l1) 150 ((4 * l1) + 0).toNatClampNeg)) 148 7)) + 2).toNatClampNeg ((up2 (up2 S 154 ((8 * (S 148 7)) + 0).toNatClampNeg l1) 154 ((8 * ((up2 S 154 ((8 * (S 148 7)) + 0).toNatClampNeg l1) 148 7)) + 1).toNatClampNeg ((up2 S 154 ((8 * (S 148 7)) + 0).toNatClampNeg l1) 150 ((4 * l1) + 0).toNatClampNeg)) 150 ((4 * l1) + 1).toNatClampNeg)) 154 ((8 * ((up2 (up2 (up2 S 154 ((8 * (S 148 7)) + 0).toNatClampNeg l1) 154 ((8 * ((up2 S 154 ((8 * (S 148 7)) + 0).toNatClampNeg l1) 148 7)) + 1).toNatClampNeg ((up2 S 154 ((8 * (S 148 7)) + 0).toNatClampNeg l1) 150 ((4 * l1) + 0).toNatClampNeg)) 154 ((8 * ((up2 (up2 S 154 ((8 * (S 148 7)) + 0).toNatClampNeg l1) 154 ((8 * ((up2 S 154 ((8 * (S 148 7)) + 0).toNatClampNeg l1) 148 7)) + 1).toNatClampNeg ((up2 S 154 ((8 * (S 148 7)) + 0).toNatClampNeg l1) 150 ((4 * l1) + 0).toNatClampNeg)) 148 7)) + 2).toNatClampNeg ((up2 (up2 S 154 ((8 * (S 148 7)) + 0).toNatClampNeg l1) 154 ((8 * ((up2 S 154 ((8 * (S 148 7)) + 0).toNatClampNeg l1) 148 7)) + 1).toNatClampNeg ((up2 S 154 ((8 * (S 148 7)) + 0).toNatClampNeg l1) 150 ((4 * l1) + 0).toNatClampNeg)) 150 ((4 * l1) + 1).toNatClampNeg)) 148 7)) + 3).toNatClampNeg ((up2 (up2 (up2 S 154 ((8 * (S 148 7)) + 0).toNatClampNeg l1) 154 ((8 * ((up2 S 154 ((8 * (S 148 7)) + 0).toNatClampNeg l1) 148 7)) + 1).toNatClampNeg ((up2 S 154 ((8 * (S 148 7)) + 0).toNatClampNeg l1) 150 ((4 * l1) + 0).toNatClampNeg)) 154 ((8 * ((up2 (up2 S 154 ((8 * (S 148 7)) + 0).toNatClampNeg l1) 154 ((8 * ((up2 S 154 ((8 * (S 148 7)) + 0).toNatClampNeg l1) 148 7)) + 1).toNatClampNeg ((up2 S 154 ((8 * (S 148 7)) + 0).toNatClampNeg l1) 150 ((4 * l1) + 0).toNatClampNeg)) 148 7)) + 2).toNatClampNeg ((up2 (up2 S 154 ((8 * (S 148 7)) + 0).toNatClampNeg l1) 154 ((8 * ((up2 S 154 ((8 * (S 148 7)) + 0).toNatClampNeg l1) 148 7)) + 1).toNatClampNeg ((up2 S 154 ((8 * (S 148 7)) + 0).toNatClampNeg l1) 150 ((4 * l1) + 0).toNatClampNeg)) 150 ((4 * l1) + 1).toNatClampNeg)) 150 ((4 * l1) + 2).toNatClampNeg)) 154 ((8 * ((up2 (up2 (up2 (up2 S 154 ((8 * (S 148 7)) + 0).toNatClampNeg l1) 154 ((8 * ((up2 S 154 ((8 * (S 148 7)) + 0).toNatClampNeg l1) 148 7)) + 1).toNatClampNeg ((up2 S 154 ((8 * (S 148 7)) + 0).toNatClampNeg l1) 150 ((4 * l1) + 0).toNatClampNeg)) 154 ((8 * ((up2 (up2 S 154 ((8 * (S 148 7)) + 0).toNatClampNeg l1) 154 ((8 * ((up2 S 154 ((8 * (S 148 7)) + 0).toNatClampNeg l1) 148 7)) + 1).toNatClampNeg ((up2 S 154 ((8 * (S 148 7)) + 0).toNatClampNeg l1) 150 ((4 * l1) + 0).toNatClampNeg)) 148 7)) + 2).toNatClampNeg ((up2 (up2 S 154 ((8 * (S 148 7)) + 0).toNatClampNeg l1) 154 ((8 * ((up2 S 154 ((8 * (S 148 7)) + 0).toNatClampNeg l1) 148 7)) + 1).toNatClampNeg ((up2 S 154 ((8 * (S 148 7)) + 0).toNatClampNeg l1) 150 ((4 * l1) + 0).toNatClampNeg)) 150 ((4 * l1) + 1).toNatClampNeg)) 154 ((8 * ((up2 (up2 (up2 S 154 ((8 * (S 148 7)) + 0).toNatClampNeg l1) 154 ((8 * ((up2 S 154 ((8 * (S 148 7)) + 0).toNatClampNeg l1) 148 7)) + 1).toNatClampNeg ((up2 S 154 ((8 * (S 148 7)) + 0).toNatClampNeg l1) 150 ((4 * l1) + 0).toNatClampNeg)) 154 ((8 * ((up2 (up2 S 154 ((8 * (S 148 7)) + 0).toNatClampNeg l1) 154 ((8 * ((up2 S 154 ((8 * (S 148 7)) + 0).toNatClampNeg l1) 148 7)) + 1).toNatClampNeg ((up2 S 154 ((8 * (S 148 7)) + 0).toNatClampNeg l1) 150 ((4 * l1) + 0).toNatClampNeg)) 148 7)) + 2).toNatClampNeg ((up2 (up2 S 154 ((8 * (S 148 7)) + 0).toNatClampNeg l1) 154 ((8 * ((up2 S 154 ((8 * (S 148 7)) + 0).toNatClampNeg l1) 148 7)) + 1).toNatClampNeg ((up2 S 154 ((8 * (S 148 7)) + 0).toNatClampNeg l1) 150 ((4 * l1) + 0).toNatClampNeg)) 150 ((4 * l1) + 1).toNatClampNeg)) 148 7)) + 3).toNatClampNeg ((up2 (up2 (up2 S 154 ((8 * (S 148 7)) + 0).toNatClampNeg l1) 154 ((8 * ((up2 S 154 ((8 * (S 148 7)) + 0).toNatClampNeg l1) 148 7)) + 1).toNatClampNeg ((up2 S 154 ((8 * (S 148 7)) + 0).toNatClampNeg l1) 150 ((4 * l1) + 0).toNatClampNeg)) 154 ((8 * ((up2 (up2 S 154 ((8 * (S 148 7)) + 0).toNatClampNeg l1) 154 ((8 * ((up2 S 154 ((8 * (S 148 7)) + 0).toNatClampNeg l1) 148 7)) + 1).toNatClampNeg ((up2 S 154 ((8 * (S 148 7)) + 0).toNatClampNeg l1) 150 ((4 * l1) + 0).toNatClampNeg)) 148 7)) + 2).toNatClampNeg ((up2 (up2 S 154 ((8 * (S 148 7)) + 0).toNatClampNeg l1) 154 ((8 * ((up2 S 154 ((8 * (S 148 7)) + 0).toNatClampNeg l1) 148 7)) + 1).toNatClampNeg ((up2 S 154 ((8 * (S 148 7)) + 0).toNatClampNeg l1) 150 ((4 * l1) + 0).toNatClampNeg)) 150 ((4 * l1) + 1).toNatClampNeg)) 150 ((4 * l1) + 2).toNatClampNeg)) 148 7)) + 4).toNatClampNeg ((S 150 ((4 * l1) + 3).toNatClampNeg) - (S 150 ((4 * l1) + 3).toNatClampNeg) / 128 * 128)) 148 7), .int 5, .int ((S 150 ((4 * l1) + 3).toNatClampNeg) / 128)] hx rfl w_774 cv_r_put hG.1 (by decide) rfl rfl rfl rfl (zr_put hx hG (⟨hc10, fun _ hS => by subst hS; exact rfl⟩)) ?_ (fun _ _ hf => hf.elim)
  rintro S' rfl
  refine z_aload_n rfl rfl ?_
  refine z_aload_n rfl rfl ?_
  refine z_geti (ci := 7) 7 rfl hG.1 rfl w_665 ?_
  refine z_bipush 6 rfl rfl ?_
  refine z_iconst 0 rfl rfl ?_
  obtain ⟨hc11, hw⟩ := hw
  replace hw := hw _ rfl
  refine z_cvv (M' := M_r_put) (post := fun S' => (up2 (up2 (up2 (up2 (up2 (up2 (up2 S 154 ((8 * (S 148 7)) + 0).toNatClampNeg l1) 154 ((8 * ((up2 S 154 ((8 * (S 148 7)) + 0).toNatClampNeg l1) 148 7)) + 1).toNatClampNeg ((up2 S 154 ((8 * (S 148 7)) + 0).toNatClampNeg l1) 150 ((4 * l1) + 0).toNatClampNeg)) 154 ((8 * ((up2 (up2 S 154 ((8 * (S 148 7)) + 0).toNatClampNeg l1) 154 ((8 * ((up2 S 154 ((8 * (S 148 7)) + 0).toNatClampNeg l1) 148 7)) + 1).toNatClampNeg ((up2 S 154 ((8 * (S 148 7)) + 0).toNatClampNeg l1) 150 ((4 * l1) + 0).toNatClampNeg)) 148 7)) + 2).toNatClampNeg ((up2 (up2 S 154 ((8 * (S 148 7)) + 0).toNatClampNeg l1) 154 ((8 * ((up2 S 154 ((8 * (S 148 7)) + 0).toNatClampNeg l1) 148 7)) + 1).toNatClampNeg ((up2 S 154 ((8 * (S 148 7)) + 0).toNatClampNeg l1) 150 ((4 * l1) + 0).toNatClampNeg)) 150 ((4 * l1) + 1).toNatClampNeg)) 154 ((8 * ((up2 (up2 (up2 S 154 ((8 * (S 148 7)) + 0).toNatClampNeg l1) 154 ((8 * ((up2 S 154 ((8 * (S 148 7)) + 0).toNatClampNeg l1) 148 7)) + 1).toNatClampNeg ((up2 S 154 ((8 * (S 148 7)) + 0).toNatClampNeg l1) 150 ((4 * l1) + 0).toNatClampNeg)) 154 ((8 * ((up2 (up2 S 154 ((8 * (S 148 7)) + 0).toNatClampNeg l1) 154 ((8 * ((up2 S 154 ((8 * (S 148 7)) + 0).toNatClampNeg l1) 148 7)) + 1).toNatClampNeg ((up2 S 154 ((8 * (S 148 7)) + 0).toNatClampNeg l1) 150 ((4 * l1) + 0).toNatClampNeg)) 148 7)) + 2).toNatClampNeg ((up2 (up2 S 154 ((8 * (S 148 7)) + 0).toNatClampNeg l1) 154 ((8 * ((up2 S 154 ((8 * (S 148 7)) + 0).toNatClampNeg l1) 148 7)) + 1).toNatClampNeg ((up2 S 154 ((8 * (S 148 7)) + 0).toNatClampNeg l1) 150 ((4 * l1) + 0).toNatClampNeg)) 150 ((4 * l1) + 1).toNatClampNeg)) 148 7)) + 3).toNatClampNeg ((up2 (up2 (up2 S 154 ((8 * (S 148 7)) + 0).toNatClampNeg l1) 154 ((8 * ((up2 S 154 ((8 * (S 148 7)) + 0).toNatClampNeg l1) 148 7)) + 1).toNatClampNeg ((up2 S 154 ((8 * (S 148 7)) + 0).toNatClampNeg l1) 150 ((4 * l1) + 0).toNatClampNeg)) 154 ((8 * ((up2 (up2 S 154 ((8 * (S 148 7)) + 0).toNatClampNeg l1) 154 ((8 * ((up2 S 154 ((8 * (S 148 7)) + 0).toNatClampNeg l1) 148 7)) + 1).toNatClampNeg ((up2 S 154 ((8 * (S 148 7)) + 0).toNatClampNeg l1) 150 ((4 * l1) + 0).toNatClampNeg)) 148 7)) + 2).toNatClampNeg ((up2 (up2 S 154 ((8 * (S 148 7)) + 0).toNatClampNeg l1) 154 ((8 * ((up2 S 154 ((8 * (S 148 7)) + 0).toNatClampNeg l1) 148 7)) + 1).toNatClampNeg ((up2 S 154 ((8 * (S 148 7)) + 0).toNatClampNeg l1) 150 ((4 * l1) + 0).toNatClampNeg)) 150 ((4 * l1) + 1).toNatClampNeg)) 150 ((4 * l1) + 2).toNatClampNeg)) 154 ((8 * ((up2 (up2 (up2 (up2 S 154 ((8 * (S 148 7)) + 0).toNatClampNeg l1) 154 ((8 * ((up2 S 154 ((8 * (S 148 7)) + 0).toNatClampNeg l1) 148 7)) + 1).toNatClampNeg ((up2 S 154 ((8 * (S 148 7)) + 0).toNatClampNeg l1) 150 ((4 * l1) + 0).toNatClampNeg)) 154 ((8 * ((up2 (up2 S 154 ((8 * (S 148 7)) + 0).toNatClampNeg l1) 154 ((8 * ((up2 S 154 ((8 * (S 148 7)) + 0).toNatClampNeg l1) 148 7)) + 1).toNatClampNeg ((up2 S 154 ((8 * (S 148 7)) + 0).toNatClampNeg l1) 150 ((4 * l1) + 0).toNatClampNeg)) 148 7)) + 2).toNatClampNeg ((up2 (up2 S 154 ((8 * (S 148 7)) + 0).toNatClampNeg l1) 154 ((8 * ((up2 S 154 ((8 * (S 148 7)) + 0).toNatClampNeg l1) 148 7)) + 1).toNatClampNeg ((up2 S 154 ((8 * (S 148 7)) + 0).toNatClampNeg l1) 150 ((4 * l1) + 0).toNatClampNeg)) 150 ((4 * l1) + 1).toNatClampNeg)) 154 ((8 * ((up2 (up2 (up2 S 154 ((8 * (S 148 7)) + 0).toNatClampNeg l1) 154 ((8 * ((up2 S 154 ((8 * (S 148 7)) + 0).toNatClampNeg l1) 148 7)) + 1).toNatClampNeg ((up2 S 154 ((8 * (S 148 7)) + 0).toNatClampNeg l1) 150 ((4 * l1) + 0).toNatClampNeg)) 154 ((8 * ((up2 (up2 S 154 ((8 * (S 148 7)) + 0).toNatClampNeg l1) 154 ((8 * ((up2 S 154 ((8 * (S 148 7)) + 0).toNatClampNeg l1) 148 7)) + 1).toNatClampNeg ((up2 S 154 ((8 * (S 148 7)) + 0).toNatClampNeg l1) 150 ((4 * l1) + 0).toNatClampNeg)) 148 7)) + 2).toNatClampNeg ((up2 (up2 S 154 ((8 * (S 148 7)) + 0).toNatClampNeg l1) 154 ((8 * ((up2 S 154 ((8 * (S 148 7)) + 0).toNatClampNeg l1) 148 7)) + 1).toNatClampNeg ((up2 S 154 ((8 * (S 148 7)) + 0).toNatClampNeg l1) 150 ((4 * l1) + 0).toNatClampNeg)) 150 ((4 * l1) + 1).toNatClampNeg)) 148 7)) + 3).toNatClampNeg ((up2 (up2 (up2 S 154 ((8 * (S 148 7)) + 0).toNatClampNeg l1) 154 ((8 * ((up2 S 154 ((8 * (S 148 7)) + 0).toNatClampNeg l1) 148 7)) + 1).toNatClampNeg ((up2 S 154 ((8 * (S 148 7)) + 0).toNatClampNeg l1) 150 ((4 * l1) + 0).toNatClampNeg)) 154 ((8 * ((up2 (up2 S 154 ((8 * (S 148 7)) + 0).toNatClampNeg l1) 154 ((8 * ((up2 S 154 ((8 * (S 148 7)) + 0).toNatClampNeg l1) 148 7)) + 1).toNatClampNeg ((up2 S 154 ((8 * (S 148 7)) + 0).toNatClampNeg l1) 150 ((4 * l1) + 0).toNatClampNeg)) 148 7)) + 2).toNatClampNeg ((up2 (up2 S 154 ((8 * (S 148 7)) + 0).toNatClampNeg l1) 154 ((8 * ((up2 S 154 ((8 * (S 148 7)) + 0).toNatClampNeg l1) 148 7)) + 1).toNatClampNeg ((up2 S 154 ((8 * (S 148 7)) + 0).toNatClampNeg l1) 150 ((4 * l1) + 0).toNatClampNeg)) 150 ((4 * l1) + 1).toNatClampNeg)) 150 ((4 * l1) + 2).toNatClampNeg)) 148 7)) + 4).toNatClampNeg ((S 150 ((4 * l1) + 3).toNatClampNeg) - (S 150 ((4 * l1) + 3).toNatClampNeg) / 128 * 128)) 154 ((8 * ((up2 (up2 (up2 (up2 (up2 S 154 ((8 * (S 148 7)) + 0).toNatClampNeg l1) 154 ((8 * ((up2 S 154 ((8 * (S 148 7)) + 0).toNatClampNeg l1) 148 7)) + 1).toNatClampNeg ((up2 S 154 ((8 * (S 148 7)) + 0).toNatClampNeg l1) 150 ((4 * l1) + 0).toNatClampNeg)) 154 ((8 * ((up2 (up2 S 154 ((8 * (S 148 7)) + 0).toNatClampNeg l1) 154 ((8 * ((up2 S 154 ((8 * (S 148 7)) + 0).toNatClampNeg l1) 148 7)) + 1).toNatClampNeg ((up2 S 154 ((8 * (S 148 7)) + 0).toNatClampNeg l1) 150 ((4 * l1) + 0).toNatClampNeg)) 148 7)) + 2).toNatClampNeg ((up2 (up2 S 154 ((8 * (S 148 7)) + 0).toNatClampNeg l1) 154 ((8 * ((up2 S 154 ((8 * (S 148 7)) + 0).toNatClampNeg l1) 148 7)) + 1).toNatClampNeg ((up2 S 154 ((8 * (S 148 7)) + 0).toNatClampNeg l1) 150 ((4 * l1) + 0).toNatClampNeg)) 150 ((4 * l1) + 1).toNatClampNeg)) 154 ((8 * ((up2 (up2 (up2 S 154 ((8 * (S 148 7)) + 0).toNatClampNeg l1) 154 ((8 * ((up2 S 154 ((8 * (S 148 7)) + 0).toNatClampNeg l1) 148 7)) + 1).toNatClampNeg ((up2 S 154 ((8 * (S 148 7)) + 0).toNatClampNeg l1) 150 ((4 * l1) + 0).toNatClampNeg)) 154 ((8 * ((up2 (up2 S 154 ((8 * (S 148 7)) + 0).toNatClampNeg l1) 154 ((8 * ((up2 S 154 ((8 * (S 148 7)) + 0).toNatClampNeg l1) 148 7)) + 1).toNatClampNeg ((up2 S 154 ((8 * (S 148 7)) + 0).toNatClampNeg l1) 150 ((4 * l1) + 0).toNatClampNeg)) 148 7)) + 2).toNatClampNeg ((up2 (up2 S 154 ((8 * (S 148 7)) + 0).toNatClampNeg l1) 154 ((8 * ((up2 S 154 ((8 * (S 148 7)) + 0).toNatClampNeg l1) 148 7)) + 1).toNatClampNeg ((up2 S 154 ((8 * (S 148 7)) + 0).toNatClampNeg l1) 150 ((4 * l1) + 0).toNatClampNeg)) 150 ((4 * l1) + 1).toNatClampNeg)) 148 7)) + 3).toNatClampNeg ((up2 (up2 (up2 S 154 ((8 * (S 148 7)) + 0).toNatClampNeg l1) 154 ((8 * ((up2 S 154 ((8 * (S 148 7)) + 0).toNatClampNeg l1) 148 7)) + 1).toNatClampNeg ((up2 S 154 ((8 * (S 148 7)) + 0).toNatClampNeg l1) 150 ((4 * l1) + 0).toNatClampNeg)) 154 ((8 * ((up2 (up2 S 154 ((8 * (S 148 7)) + 0).toNatClampNeg l1) 154 ((8 * ((up2 S 154 ((8 * (S 148 7)) + 0).toNatClampNeg l1) 148 7)) + 1).toNatClampNeg ((up2 S 154 ((8 * (S 148 7)) + 0).toNatClampNeg l1) 150 ((4 * l1) + 0).toNatClampNeg)) 148 7)) + 2).toNatClampNeg ((up2 (up2 S 154 ((8 * (S 148 7)) + 0).toNatClampNeg l1) 154 ((8 * ((up2 S 154 ((8 * (S 148 7)) + 0).toNatClampNeg l1) 148 7)) + 1).toNatClampNeg ((up2 S 154 ((8 * (S 148 7)) + 0).toNatClampNeg l1) 150 ((4 * l1) + 0).toNatClampNeg)) 150 ((4 * l1) + 1).toNatClampNeg)) 150 ((4 * l1) + 2).toNatClampNeg)) 154 ((8 * ((up2 (up2 (up2 (up2 S 154 ((8 * (S 148 7)) + 0).toNatClampNeg l1) 154 ((8 * ((up2 S 154 ((8 * (S 148 7)) + 0).toNatClampNeg l1) 148 7)) + 1).toNatClampNeg ((up2 S 154 ((8 * (S 148 7)) + 0).toNatClampNeg l1) 150 ((4 * l1) + 0).toNatClampNeg)) 154 ((8 * ((up2 (up2 S 154 ((8 * (S 148 7)) + 0).toNatClampNeg l1) 154 ((8 * ((up2 S 154 ((8 * (S 148 7)) + 0).toNatClampNeg l1) 148 7)) + 1).toNatClampNeg ((up2 S 154 ((8 * (S 148 7)) + 0).toNatClampNeg l1) 150 ((4 * l1) + 0).toNatClampNeg)) 148 7)) + 2).toNatClampNeg ((up2 (up2 S 154 ((8 * (S 148 7)) + 0).toNatClampNeg l1) 154 ((8 * ((up2 S 154 ((8 * (S 148 7)) + 0).toNatClampNeg l1) 148 7)) + 1).toNatClampNeg ((up2 S 154 ((8 * (S 148 7)) + 0).toNatClampNeg l1) 150 ((4 * l1) + 0).toNatClampNeg)) 150 ((4 * l1) + 1).toNatClampNeg)) 154 ((8 * ((up2 (up2 (up2 S 154 ((8 * (S 148 7)) + 0).toNatClampNeg l1) 154 ((8 * ((up2 S 154 ((8 * (S 148 7)) + 0).toNatClampNeg l1) 148 7)) + 1).toNatClampNeg ((up2 S 154 ((8 * (S 148 7)) + 0).toNatClampNeg l1) 150 ((4 * l1) + 0).toNatClampNeg)) 154 ((8 * ((up2 (up2 S 154 ((8 * (S 148 7)) + 0).toNatClampNeg l1) 154 ((8 * ((up2 S 154 ((8 * (S 148 7)) + 0).toNatClampNeg l1) 148 7)) + 1).toNatClampNeg ((up2 S 154 ((8 * (S 148 7)) + 0).toNatClampNeg l1) 150 ((4 * l1) + 0).toNatClampNeg)) 148 7)) + 2).toNatClampNeg ((up2 (up2 S 154 ((8 * (S 148 7)) + 0).toNatClampNeg l1) 154 ((8 * ((up2 S 154 ((8 * (S 148 7)) + 0).toNatClampNeg l1) 148 7)) + 1).toNatClampNeg ((up2 S 154 ((8 * (S 148 7)) + 0).toNatClampNeg l1) 150 ((4 * l1) + 0).toNatClampNeg)) 150 ((4 * l1) + 1).toNatClampNeg)) 148 7)) + 3).toNatClampNeg ((up2 (up2 (up2 S 154 ((8 * (S 148 7)) + 0).toNatClampNeg l1) 154 ((8 * ((up2 S 154 ((8 * (S 148 7)) + 0).toNatClampNeg l1) 148 7)) + 1).toNatClampNeg ((up2 S 154 ((8 * (S 148 7)) + 0).toNatClampNeg l1) 150 ((4 * l1) + 0).toNatClampNeg)) 154 ((8 * ((up2 (up2 S 154 ((8 * (S 148 7)) + 0).toNatClampNeg l1) 154 ((8 * ((up2 S 154 ((8 * (S 148 7)) + 0).toNatClampNeg l1) 148 7)) + 1).toNatClampNeg ((up2 S 154 ((8 * (S 148 7)) + 0).toNatClampNeg l1) 150 ((4 * l1) + 0).toNatClampNeg)) 148 7)) + 2).toNatClampNeg ((up2 (up2 S 154 ((8 * (S 148 7)) + 0).toNatClampNeg l1) 154 ((8 * ((up2 S 154 ((8 * (S 148 7)) + 0).toNatClampNeg l1) 148 7)) + 1).toNatClampNeg ((up2 S 154 ((8 * (S 148 7)) + 0).toNatClampNeg l1) 150 ((4 * l1) + 0).toNatClampNeg)) 150 ((4 * l1) + 1).toNatClampNeg)) 150 ((4 * l1) + 2).toNatClampNeg)) 148 7)) + 4).toNatClampNeg ((S 150 ((4 * l1) + 3).toNatClampNeg) - (S 150 ((4 * l1) + 3).toNatClampNeg) / 128 * 128)) 148 7)) + 5).toNatClampNeg ((S 150 ((4 * l1) + 3).toNatClampNeg) / 128)) 154 ((8 * ((up2 (up2 (up2 (up2 (up2 (up2 S 154 ((8 * (S 148 7)) + 0).toNatClampNeg l1) 154 ((8 * ((up2 S 154 ((8 * (S 148 7)) + 0).toNatClampNeg l1) 148 7)) + 1).toNatClampNeg ((up2 S 154 ((8 * (S 148 7)) + 0).toNatClampNeg l1) 150 ((4 * l1) + 0).toNatClampNeg)) 154 ((8 * ((up2 (up2 S 154 ((8 * (S 148 7)) + 0).toNatClampNeg l1) 154 ((8 * ((up2 S 154 ((8 * (S 148 7)) + 0).toNatClampNeg l1) 148 7)) + 1).toNatClampNeg ((up2 S 154 ((8 * (S 148 7)) + 0).toNatClampNeg l1) 150 ((4 * l1) + 0).toNatClampNeg)) 148 7)) + 2).toNatClampNeg ((up2 (up2 S 154 ((8 * (S 148 7)) + 0).toNatClampNeg l1) 154 ((8 * ((up2 S 154 ((8 * (S 148 7)) + 0).toNatClampNeg l1) 148 7)) + 1).toNatClampNeg ((up2 S 154 ((8 * (S 148 7)) + 0).toNatClampNeg l1) 150 ((4 * l1) + 0).toNatClampNeg)) 150 ((4 * l1) + 1).toNatClampNeg)) 154 ((8 * ((up2 (up2 (up2 S 154 ((8 * (S 148 7)) + 0).toNatClampNeg l1) 154 ((8 * ((up2 S 154 ((8 * (S 148 7)) + 0).toNatClampNeg l1) 148 7)) + 1).toNatClampNeg ((up2 S 154 ((8 * (S 148 7)) + 0).toNatClampNeg l1) 150 ((4 * l1) + 0).toNatClampNeg)) 154 ((8 * ((up2 (up2 S 154 ((8 * (S 148 7)) + 0).toNatClampNeg l1) 154 ((8 * ((up2 S 154 ((8 * (S 148 7)) + 0).toNatClampNeg l1) 148 7)) + 1).toNatClampNeg ((up2 S 154 ((8 * (S 148 7)) + 0).toNatClampNeg l1) 150 ((4 * l1) + 0).toNatClampNeg)) 148 7)) + 2).toNatClampNeg ((up2 (up2 S 154 ((8 * (S 148 7)) + 0).toNatClampNeg l1) 154 ((8 * ((up2 S 154 ((8 * (S 148 7)) + 0).toNatClampNeg l1) 148 7)) + 1).toNatClampNeg ((up2 S 154 ((8 * (S 148 7)) + 0).toNatClampNeg l1) 150 ((4 * l1) + 0).toNatClampNeg)) 150 ((4 * l1) + 1).toNatClampNeg)) 148 7)) + 3).toNatClampNeg ((up2 (up2 (up2 S 154 ((8 * (S 148 7)) + 0).toNatClampNeg l1) 154 ((8 * ((up2 S 154 ((8 * (S 148 7)) + 0).toNatClampNeg l1) 148 7)) + 1).toNatClampNeg ((up2 S 154 ((8 * (S 148 7)) + 0).toNatClampNeg l1) 150 ((4 * l1) + 0).toNatClampNeg)) 154 ((8 * ((up2 (up2 S 154 ((8 * (S 148 7)) + 0).toNatClampNeg l1) 154 ((8 * ((up2 S 154 ((8 * (S 148 7)) + 0).toNatClampNeg l1) 148 7)) + 1).toNatClampNeg ((up2 S 154 ((8 * (S 148 7)) + 0).toNatClampNeg l1) 150 ((4 * l1) + 0).toNatClampNeg)) 148 7)) + 2).toNatClampNeg ((up2 (up2 S 154 ((8 * (S 148 7)) + 0).toNatClampNeg l1) 154 ((8 * ((up2 S 154 ((8 * (S 148 7)) + 0).toNatClampNeg l1) 148 7)) + 1).toNatClampNeg ((up2 S 154 ((8 * (S 148 7)) + 0).toNatClampNeg l1) 150 ((4 * l1) + 0).toNatClampNeg)) 150 ((4 * l1) + 1).toNatClampNeg)) 150 ((4 * l1) + 2).toNatClampNeg)) 154 ((8 * ((up2 (up2 (up2 (up2 S 154 ((8 * (S 148 7)) + 0).toNatClampNeg l1) 154 ((8 * ((up2 S 154 ((8 * (S 148 7)) + 0).toNatClampNeg l1) 148 7)) + 1).toNatClampNeg ((up2 S 154 ((8 * (S 148 7)) + 0).toNatClampNeg l1) 150 ((4 * l1) + 0).toNatClampNeg)) 154 ((8 * ((up2 (up2 S 154 ((8 * (S 148 7)) + 0).toNatClampNeg l1) 154 ((8 * ((up2 S 154 ((8 * (S 148 7)) + 0).toNatClampNeg l1) 148 7)) + 1).toNatClampNeg ((up2 S 154 ((8 * (S 148 7)) + 0).toNatClampNeg l1) 150 ((4 * l1) + 0).toNatClampNeg)) 148 7)) + 2).toNatClampNeg ((up2 (up2 S 154 ((8 * (S 148 7)) + 0).toNatClampNeg l1) 154 ((8 * ((up2 S 154 ((8 * (S 148 7)) + 0).toNatClampNeg l1) 148 7)) + 1).toNatClampNeg ((up2 S 154 ((8 * (S 148 7)) + 0).toNatClampNeg l1) 150 ((4 * l1) + 0).toNatClampNeg)) 150 ((4 * l1) + 1).toNatClampNeg)) 154 ((8 * ((up2 (up2 (up2 S 154 ((8 * (S 148 7)) + 0).toNatClampNeg l1) 154 ((8 * ((up2 S 154 ((8 * (S 148 7)) + 0).toNatClampNeg l1) 148 7)) + 1).toNatClampNeg ((up2 S 154 ((8 * (S 148 7)) + 0).toNatClampNeg l1) 150 ((4 * l1) + 0).toNatClampNeg)) 154 ((8 * ((up2 (up2 S 154 ((8 * (S 148 7)) + 0).toNatClampNeg l1) 154 ((8 * ((up2 S 154 ((8 * (S 148 7)) + 0).toNatClampNeg l1) 148 7)) + 1).toNatClampNeg ((up2 S 154 ((8 * (S 148 7)) + 0).toNatClampNeg l1) 150 ((4 * l1) + 0).toNatClampNeg)) 148 7)) + 2).toNatClampNeg ((up2 (up2 S 154 ((8 * (S 148 7)) + 0).toNatClampNeg l1) 154 ((8 * ((up2 S 154 ((8 * (S 148 7)) + 0).toNatClampNeg l1) 148 7)) + 1).toNatClampNeg ((up2 S 154 ((8 * (S 148 7)) + 0).toNatClampNeg l1) 150 ((4 * l1) + 0).toNatClampNeg)) 150 ((4 * l1) + 1).toNatClampNeg)) 148 7)) + 3).toNatClampNeg ((up2 (up2 (up2 S 154 ((8 * (S 148 7)) + 0).toNatClampNeg l1) 154 ((8 * ((up2 S 154 ((8 * (S 148 7)) + 0).toNatClampNeg l1) 148 7)) + 1).toNatClampNeg ((up2 S 154 ((8 * (S 148 7)) + 0).toNatClampNeg l1) 150 ((4 * l1) + 0).toNatClampNeg)) 154 ((8 * ((up2 (up2 S 154 ((8 * (S 148 7)) + 0).toNatClampNeg l1) 154 ((8 * ((up2 S 154 ((8 * (S 148 7)) + 0).toNatClampNeg l1) 148 7)) + 1).toNatClampNeg ((up2 S 154 ((8 * (S 148 7)) + 0).toNatClampNeg l1) 150 ((4 * l1) + 0).toNatClampNeg)) 148 7)) + 2).toNatClampNeg ((up2 (up2 S 154 ((8 * (S 148 7)) + 0).toNatClampNeg l1) 154 ((8 * ((up2 S 154 ((8 * (S 148 7)) + 0).toNatClampNeg l1) 148 7)) + 1).toNatClampNeg ((up2 S 154 ((8 * (S 148 7)) + 0).toNatClampNeg l1) 150 ((4 * l1) + 0).toNatClampNeg)) 150 ((4 * l1) + 1).toNatClampNeg)) 150 ((4 * l1) + 2).toNatClampNeg)) 148 7)) + 4).toNatClampNeg ((S 150 ((4 * l1) + 3).toNatClampNeg) - (S 150 ((4 * l1) + 3).toNatClampNeg) / 128 * 128)) 154 ((8 * ((up2 (up2 (up2 (up2 (up2 S 154 ((8 * (S 148 7)) + 0).toNatClampNeg l1) 154 ((8 * ((up2 S 154 ((8 * (S 148 7)) + 0).toNatClampNeg l1) 148 7)) + 1).toNatClampNeg ((up2 S 154 ((8 * (S 148 7)) + 0).toNatClampNeg l1) 150 ((4 * l1) + 0).toNatClampNeg)) 154 ((8 * ((up2 (up2 S 154 ((8 * (S 148 7)) + 0).toNatClampNeg l1) 154 ((8 * ((up2 S 154 ((8 * (S 148 7)) + 0).toNatClampNeg l1) 148 7)) + 1).toNatClampNeg ((up2 S 154 ((8 * (S 148 7)) + 0).toNatClampNeg l1) 150 ((4 * l1) + 0).toNatClampNeg)) 148 7)) + 2).toNatClampNeg ((up2 (up2 S 154 ((8 * (S 148 7)) + 0).toNatClampNeg l1) 154 ((8 * ((up2 S 154 ((8 * (S 148 7)) + 0).toNatClampNeg l1) 148 7)) + 1).toNatClampNeg ((up2 S 154 ((8 * (S 148 7)) + 0).toNatClampNeg l1) 150 ((4 * l1) + 0).toNatClampNeg)) 150 ((4 * l1) + 1).toNatClampNeg)) 154 ((8 * ((up2 (up2 (up2 S 154 ((8 * (S 148 7)) + 0).toNatClampNeg l1) 154 ((8 * ((up2 S 154 ((8 * (S 148 7)) + 0).toNatClampNeg l1) 148 7)) + 1).toNatClampNeg ((up2 S 154 ((8 * (S 148 7)) + 0).toNatClampNeg l1) 150 ((4 * l1) + 0).toNatClampNeg)) 154 ((8 * ((up2 (up2 S 154 ((8 * (S 148 7)) + 0).toNatClampNeg l1) 154 ((8 * ((up2 S 154 ((8 * (S 148 7)) + 0).toNatClampNeg l1) 148 7)) + 1).toNatClampNeg ((up2 S 154 ((8 * (S 148 7)) + 0).toNatClampNeg l1) 150 ((4 * l1) + 0).toNatClampNeg)) 148 7)) + 2).toNatClampNeg ((up2 (up2 S 154 ((8 * (S 148 7)) + 0).toNatClampNeg l1) 154 ((8 * ((up2 S 154 ((8 * (S 148 7)) + 0).toNatClampNeg l1) 148 7)) + 1).toNatClampNeg ((up2 S 154 ((8 * (S 148 7)) + 0).toNatClampNeg l1) 150 ((4 * l1) + 0).toNatClampNeg)) 150 ((4 * l1) + 1).toNatClampNeg)) 148 7)) + 3).toNatClampNeg ((up2 (up2 (up2 S 154 ((8 * (S 148 7)) + 0).toNatClampNeg l1) 154 ((8 * ((up2 S 154 ((8 * (S 148 7)) + 0).toNatClampNeg l1) 148 7)) + 1).toNatClampNeg ((up2 S 154 ((8 * (S 148 7)) + 0).toNatClampNeg l1) 150 ((4 * l1) + 0).toNatClampNeg)) 154 ((8 * ((up2 (up2 S 154 ((8 * (S 148 7)) + 0).toNatClampNeg l1) 154 ((8 * ((up2 S 154 ((8 * (S 148 7)) + 0).toNatClampNeg l1) 148 7)) + 1).toNatClampNeg ((up2 S 154 ((8 * (S 148 7)) + 0).toNatClampNeg l1) 150 ((4 * l1) + 0).toNatClampNeg)) 148 7)) + 2).toNatClampNeg ((up2 (up2 S 154 ((8 * (S 148 7)) + 0).toNatClampNeg l1) 154 ((8 * ((up2 S 154 ((8 * (S 148 7)) + 0).toNatClampNeg l1) 148 7)) + 1).toNatClampNeg ((up2 S 154 ((8 * (S 148 7)) + 0).toNatClampNeg l1) 150 ((4 * l1) + 0).toNatClampNeg)) 150 ((4 * l1) + 1).toNatClampNeg)) 150 ((4 * l1) + 2).toNatClampNeg)) 154 ((8 * ((up2 (up2 (up2 (up2 S 154 ((8 * (S 148 7)) + 0).toNatClampNeg l1) 154 ((8 * ((up2 S 154 ((8 * (S 148 7)) + 0).toNatClampNeg l1) 148 7)) + 1).toNatClampNeg ((up2 S 154 ((8 * (S 148 7)) + 0).toNatClampNeg l1) 150 ((4 * l1) + 0).toNatClampNeg)) 154 ((8 * ((up2 (up2 S 154 ((8 * (S 148 7)) + 0).toNatClampNeg l1) 154 ((8 * ((up2 S 154 ((8 * (S 148 7)) + 0).toNatClampNeg l1) 148 7)) + 1).toNatClampNeg ((up2 S 154 ((8 * (S 148 7)) + 0).toNatClampNeg l1) 150 ((4 * l1) + 0).toNatClampNeg)) 148 7)) + 2).toNatClampNeg ((up2 (up2 S 154 ((8 * (S 148 7)) + 0).toNatClampNeg l1) 154 ((8 * ((up2 S 154 ((8 * (S 148 7)) + 0).toNatClampNeg l1) 148 7)) + 1).toNatClampNeg ((up2 S 154 ((8 * (S 148 7)) + 0).toNatClampNeg l1) 150 ((4 * l1) + 0).toNatClampNeg)) 150 ((4 * l1) + 1).toNatClampNeg)) 154 ((8 * ((up2 (up2 (up2 S 154 ((8 * (S 148 7)) + 0).toNatClampNeg l1) 154 ((8 * ((up2 S 154 ((8 * (S 148 7)) + 0).toNatClampNeg l1) 148 7)) + 1).toNatClampNeg ((up2 S 154 ((8 * (S 148 7)) + 0).toNatClampNeg l1) 150 ((4 * l1) + 0).toNatClampNeg)) 154 ((8 * ((up2 (up2 S 154 ((8 * (S 148 7)) + 0).toNatClampNeg l1) 154 ((8 * ((up2 S 154 ((8 * (S 148 7)) + 0).toNatClampNeg l1) 148 7)) + 1).toNatClampNeg ((up2 S 154 ((8 * (S 148 7)) + 0).toNatClampNeg l1) 150 ((4 * l1) + 0).toNatClampNeg)) 148 7)) + 2).toNatClampNeg ((up2 (up2 S 154 ((8 * (S 148 7)) + 0).toNatClampNeg l1) 154 ((8 * ((up2 S 154 ((8 * (S 148 7)) + 0).toNatClampNeg l1) 148 7)) + 1).toNatClampNeg ((up2 S 154 ((8 * (S 148 7)) + 0).toNatClampNeg l1) 150 ((4 * l1) + 0).toNatClampNeg)) 150 ((4 * l1) + 1).toNatClampNeg)) 148 7)) + 3).toNatClampNeg ((up2 (up2 (up2 S 154 ((8 * (S 148 7)) + 0).toNatClampNeg l1) 154 ((8 * ((up2 S 154 ((8 * (S 148 7)) + 0).toNatClampNeg l1) 148 7)) + 1).toNatClampNeg ((up2 S 154 ((8 * (S 148 7)) + 0).toNatClampNeg l1) 150 ((4 * l1) + 0).toNatClampNeg)) 154 ((8 * ((up2 (up2 S 154 ((8 * (S 148 7)) + 0).toNatClampNeg l1) 154 ((8 * ((up2 S 154 ((8 * (S 148 7)) + 0).toNatClampNeg l1) 148 7)) + 1).toNatClampNeg ((up2 S 154 ((8 * (S 148 7)) + 0).toNatClampNeg l1) 150 ((4 * l1) + 0).toNatClampNeg)) 148 7)) + 2).toNatClampNeg ((up2 (up2 S 154 ((8 * (S 148 7)) + 0).toNatClampNeg l1) 154 ((8 * ((up2 S 154 ((8 * (S 148 7)) + 0).toNatClampNeg l1) 148 7)) + 1).toNatClampNeg ((up2 S 154 ((8 * (S 148 7)) + 0).toNatClampNeg l1) 150 ((4 * l1) + 0).toNatClampNeg)) 150 ((4 * l1) + 1).toNatClampNeg)) 150 ((4 * l1) + 2).toNatClampNeg)) 148 7)) + 4).toNatClampNeg ((S 150 ((4 * l1) + 3).toNatClampNeg) - (S 150 ((4 * l1) + 3).toNatClampNeg) / 128 * 128)) 148 7)) + 5).toNatClampNeg ((S 150 ((4 * l1) + 3).toNatClampNeg) / 128)) 148 7)) + 6).toNatClampNeg 0) = S') [.int ((up2 (up2 (up2 (up2 (up2 (up2 S 154 ((8 * (S 148 7)) + 0).toNatClampNeg l1) 154 ((8 * ((up2 S 154 ((8 * (S 148 7)) + 0).toNatClampNeg l1) 148 7)) + 1).toNatClampNeg ((up2 S 154 ((8 * (S 148 7)) + 0).toNatClampNeg l1) 150 ((4 * l1) + 0).toNatClampNeg)) 154 ((8 * ((up2 (up2 S 154 ((8 * (S 148 7)) + 0).toNatClampNeg l1) 154 ((8 * ((up2 S 154 ((8 * (S 148 7)) + 0).toNatClampNeg l1) 148 7)) + 1).toNatClampNeg ((up2 S 154 ((8 * (S 148 7)) + 0).toNatClampNeg l1) 150 ((4 * l1) + 0).toNatClampNeg)) 148 7)) + 2).toNatClampNeg ((up2 (up2 S 154 ((8 * (S 148 7)) + 0).toNatClampNeg l1) 154 ((8 * ((up2 S 154 ((8 * (S 148 7)) + 0).toNatClampNeg l1) 148 7)) + 1).toNatClampNeg ((up2 S 154 ((8 * (S 148 7)) + 0).toNatClampNeg l1) 150 ((4 * l1) + 0).toNatClampNeg)) 150 ((4 * l1) + 1).toNatClampNeg)) 154 ((8 * ((up2 (up2 (up2 S 154 ((8 * (S 148 7)) + 0).toNatClampNeg l1) 154 ((8 * ((up2 S 154 ((8 * (S 148 7)) + 0).toNatClampNeg l1) 148 7)) + 1).toNatClampNeg ((up2 S 154 ((8 * (S 148 7)) + 0).toNatClampNeg l1) 150 ((4 * l1) + 0).toNatClampNeg)) 154 ((8 * ((up2 (up2 S 154 ((8 * (S 148 7)) + 0).toNatClampNeg l1) 154 ((8 * ((up2 S 154 ((8 * (S 148 7)) + 0).toNatClampNeg l1) 148 7)) + 1).toNatClampNeg ((up2 S 154 ((8 * (S 148 7)) + 0).toNatClampNeg l1) 150 ((4 * l1) + 0).toNatClampNeg)) 148 7)) + 2).toNatClampNeg ((up2 (up2 S 154 ((8 * (S 148 7)) + 0).toNatClampNeg l1) 154 ((8 * ((up2 S 154 ((8 * (S 148 7)) + 0).toNatClampNeg l1) 148 7)) + 1).toNatClampNeg ((up2 S 154 ((8 * (S 148 7)) + 0).toNatClampNeg l1) 150 ((4 * l1) + 0).toNatClampNeg)) 150 ((4 * l1) + 1).toNatClampNeg)) 148 7)) + 3).toNatClampNeg ((up2 (up2 (up2 S 154 ((8 * (S 148 7)) + 0).toNatClampNeg l1) 154 ((8 * ((up2 S 154 ((8 * (S 148 7)) + 0).toNatClampNeg l1) 148 7)) + 1).toNatClampNeg ((up2 S 154 ((8 * (S 148 7)) + 0).toNatClampNeg l1) 150 ((4 * l1) + 0).toNatClampNeg)) 154 ((8 * ((up2 (up2 S 154 ((8 * (S 148 7)) + 0).toNatClampNeg l1) 154 ((8 * ((up2 S 154 ((8 * (S 148 7)) + 0).toNatClampNeg l1) 148 7)) + 1).toNatClampNeg ((up2 S 154 ((8 * (S 148 7)) + 0).toNatClampNeg l1) 150 ((4 * l1) + 0).toNatClampNeg)) 148 7)) + 2).toNatClampNeg ((up2 (up2 S 154 ((8 * (S 148 7)) + 0).toNatClampNeg l1) 154 ((8 * ((up2 S 154 ((8 * (S 148 7)) + 0).toNatClampNeg l1) 148 7)) + 1).toNatClampNeg ((up2 S 154 ((8 * (S 148 7)) + 0).toNatClampNeg l1) 150 ((4 * l1) + 0).toNatClampNeg)) 150 ((4 * l1) + 1).toNatClampNeg)) 150 ((4 * l1) + 2).toNatClampNeg)) 154 ((8 * ((up2 (up2 (up2 (up2 S 154 ((8 * (S 148 7)) + 0).toNatClampNeg l1) 154 ((8 * ((up2 S 154 ((8 * (S 148 7)) + 0).toNatClampNeg l1) 148 7)) + 1).toNatClampNeg ((up2 S 154 ((8 * (S 148 7)) + 0).toNatClampNeg l1) 150 ((4 * l1) + 0).toNatClampNeg)) 154 ((8 * ((up2 (up2 S 154 ((8 * (S 148 7)) + 0).toNatClampNeg l1) 154 ((8 * ((up2 S 154 ((8 * (S 148 7)) + 0).toNatClampNeg l1) 148 7)) + 1).toNatClampNeg ((up2 S 154 ((8 * (S 148 7)) + 0).toNatClampNeg l1) 150 ((4 * l1) + 0).toNatClampNeg)) 148 7)) + 2).toNatClampNeg ((up2 (up2 S 154 ((8 * (S 148 7)) + 0).toNatClampNeg l1) 154 ((8 * ((up2 S 154 ((8 * (S 148 7)) + 0).toNatClampNeg l1) 148 7)) + 1).toNatClampNeg ((up2 S 154 ((8 * (S 148 7)) + 0).toNatClampNeg l1) 150 ((4 * l1) + 0).toNatClampNeg)) 150 ((4 * l1) + 1).toNatClampNeg)) 154 ((8 * ((up2 (up2 (up2 S 154 ((8 * (S 148 7)) + 0).toNatClampNeg l1) 154 ((8 * ((up2 S 154 ((8 * (S 148 7)) + 0).toNatClampNeg l1) 148 7)) + 1).toNatClampNeg ((up2 S 154 ((8 * (S 148 7)) + 0).toNatClampNeg l1) 150 ((4 * l1) + 0).toNatClampNeg)) 154 ((8 * ((up2 (up2 S 154 ((8 * (S 148 7)) + 0).toNatClampNeg l1) 154 ((8 * ((up2 S 154 ((8 * (S 148 7)) + 0).toNatClampNeg l1) 148 7)) + 1).toNatClampNeg ((up2 S 154 ((8 * (S 148 7)) + 0).toNatClampNeg l1) 150 ((4 * l1) + 0).toNatClampNeg)) 148 7)) + 2).toNatClampNeg ((up2 (up2 S 154 ((8 * (S 148 7)) + 0).toNatClampNeg l1) 154 ((8 * ((up2 S 154 ((8 * (S 148 7)) + 0).toNatClampNeg l1) 148 7)) + 1).toNatClampNeg ((up2 S 154 ((8 * (S 148 7)) + 0).toNatClampNeg l1) 150 ((4 * l1) + 0).toNatClampNeg)) 150 ((4 * l1) + 1).toNatClampNeg)) 148 7)) + 3).toNatClampNeg ((up2 (up2 (up2 S 154 ((8 * (S 148 7)) + 0).toNatClampNeg l1) 154 ((8 * ((up2 S 154 ((8 * (S 148 7)) + 0).toNatClampNeg l1) 148 7)) + 1).toNatClampNeg ((up2 S 154 ((8 * (S 148 7)) + 0).toNatClampNeg l1) 150 ((4 * l1) + 0).toNatClampNeg)) 154 ((8 * ((up2 (up2 S 154 ((8 * (S 148 7)) + 0).toNatClampNeg l1) 154 ((8 * ((up2 S 154 ((8 * (S 148 7)) + 0).toNatClampNeg l1) 148 7)) + 1).toNatClampNeg ((up2 S 154 ((8 * (S 148 7)) + 0).toNatClampNeg l1) 150 ((4 * l1) + 0).toNatClampNeg)) 148 7)) + 2).toNatClampNeg ((up2 (up2 S 154 ((8 * (S 148 7)) + 0).toNatClampNeg l1) 154 ((8 * ((up2 S 154 ((8 * (S 148 7)) + 0).toNatClampNeg l1) 148 7)) + 1).toNatClampNeg ((up2 S 154 ((8 * (S 148 7)) + 0).toNatClampNeg l1) 150 ((4 * l1) + 0).toNatClampNeg)) 150 ((4 * l1) + 1).toNatClampNeg)) 150 ((4 * l1) + 2).toNatClampNeg)) 148 7)) + 4).toNatClampNeg ((S 150 ((4 * l1) + 3).toNatClampNeg) - (S 150 ((4 * l1) + 3).toNatClampNeg) / 128 * 128)) 154 ((8 * ((up2 (up2 (up2 (up2 (up2 S 154 ((8 * (S 148 7)) + 0).toNatClampNeg l1) 154 ((8 * ((up2 S 154 ((8 * (S 148 7)) + 0).toNatClampNeg l1) 148 7)) + 1).toNatClampNeg ((up2 S 154 ((8 * (S 148 7)) + 0).toNatClampNeg l1) 150 ((4 * l1) + 0).toNatClampNeg)) 154 ((8 * ((up2 (up2 S 154 ((8 * (S 148 7)) + 0).toNatClampNeg l1) 154 ((8 * ((up2 S 154 ((8 * (S 148 7)) + 0).toNatClampNeg l1) 148 7)) + 1).toNatClampNeg ((up2 S 154 ((8 * (S 148 7)) + 0).toNatClampNeg l1) 150 ((4 * l1) + 0).toNatClampNeg)) 148 7)) + 2).toNatClampNeg ((up2 (up2 S 154 ((8 * (S 148 7)) + 0).toNatClampNeg l1) 154 ((8 * ((up2 S 154 ((8 * (S 148 7)) + 0).toNatClampNeg l1) 148 7)) + 1).toNatClampNeg ((up2 S 154 ((8 * (S 148 7)) + 0).toNatClampNeg l1) 150 ((4 * l1) + 0).toNatClampNeg)) 150 ((4 * l1) + 1).toNatClampNeg)) 154 ((8 * ((up2 (up2 (up2 S 154 ((8 * (S 148 7)) + 0).toNatClampNeg l1) 154 ((8 * ((up2 S 154 ((8 * (S 148 7)) + 0).toNatClampNeg l1) 148 7)) + 1).toNatClampNeg ((up2 S 154 ((8 * (S 148 7)) + 0).toNatClampNeg l1) 150 ((4 * l1) + 0).toNatClampNeg)) 154 ((8 * ((up2 (up2 S 154 ((8 * (S 148 7)) + 0).toNatClampNeg l1) 154 ((8 * ((up2 S 154 ((8 * (S 148 7)) + 0).toNatClampNeg l1) 148 7)) + 1).toNatClampNeg ((up2 S 154 ((8 * (S 148 7)) + 0).toNatClampNeg l1) 150 ((4 * l1) + 0).toNatClampNeg)) 148 7)) + 2).toNatClampNeg ((up2 (up2 S 154 ((8 * (S 148 7)) + 0).toNatClampNeg l1) 154 ((8 * ((up2 S 154 ((8 * (S 148 7)) + 0).toNatClampNeg l1) 148 7)) + 1).toNatClampNeg ((up2 S 154 ((8 * (S 148 7)) + 0).toNatClampNeg l1) 150 ((4 * l1) + 0).toNatClampNeg)) 150 ((4 * l1) + 1).toNatClampNeg)) 148 7)) + 3).toNatClampNeg ((up2 (up2 (up2 S 154 ((8 * (S 148 7)) + 0).toNatClampNeg l1) 154 ((8 * ((up2 S 154 ((8 * (S 148 7)) + 0).toNatClampNeg l1) 148 7)) + 1).toNatClampNeg ((up2 S 154 ((8 * (S 148 7)) + 0).toNatClampNeg l1) 150 ((4 * l1) + 0).toNatClampNeg)) 154 ((8 * ((up2 (up2 S 154 ((8 * (S 148 7)) + 0).toNatClampNeg l1) 154 ((8 * ((up2 S 154 ((8 * (S 148 7)) + 0).toNatClampNeg l1) 148 7)) + 1).toNatClampNeg ((up2 S 154 ((8 * (S 148 7)) + 0).toNatClampNeg l1) 150 ((4 * l1) + 0).toNatClampNeg)) 148 7)) + 2).toNatClampNeg ((up2 (up2 S 154 ((8 * (S 148 7)) + 0).toNatClampNeg l1) 154 ((8 * ((up2 S 154 ((8 * (S 148 7)) + 0).toNatClampNeg l1) 148 7)) + 1).toNatClampNeg ((up2 S 154 ((8 * (S 148 7)) + 0).toNatClampNeg l1) 150 ((4 * l1) + 0).toNatClampNeg)) 150 ((4 * l1) + 1).toNatClampNeg)) 150 ((4 * l1) + 2).toNatClampNeg)) 154 ((8 * ((up2 (up2 (up2 (up2 S 154 ((8 * (S 148 7)) + 0).toNatClampNeg l1) 154 ((8 * ((up2 S 154 ((8 * (S 148 7)) + 0).toNatClampNeg l1) 148 7)) + 1).toNatClampNeg ((up2 S 154 ((8 * (S 148 7)) + 0).toNatClampNeg l1) 150 ((4 * l1) + 0).toNatClampNeg)) 154 ((8 * ((up2 (up2 S 154 ((8 * (S 148 7)) + 0).toNatClampNeg l1) 154 ((8 * ((up2 S 154 ((8 * (S 148 7)) + 0).toNatClampNeg l1) 148 7)) + 1).toNatClampNeg ((up2 S 154 ((8 * (S 148 7)) + 0).toNatClampNeg l1) 150 ((4 * l1) + 0).toNatClampNeg)) 148 7)) + 2).toNatClampNeg ((up2 (up2 S 154 ((8 * (S 148 7)) + 0).toNatClampNeg l1) 154 ((8 * ((up2 S 154 ((8 * (S 148 7)) + 0).toNatClampNeg l1) 148 7)) + 1).toNatClampNeg ((up2 S 154 ((8 * (S 148 7)) + 0).toNatClampNeg l1) 150 ((4 * l1) + 0).toNatClampNeg)) 150 ((4 * l1) + 1).toNatClampNeg)) 154 ((8 * ((up2 (up2 (up2 S 154 ((8 * (S 148 7)) + 0).toNatClampNeg l1) 154 ((8 * ((up2 S 154 ((8 * (S 148 7)) + 0).toNatClampNeg l1) 148 7)) + 1).toNatClampNeg ((up2 S 154 ((8 * (S 148 7)) + 0).toNatClampNeg l1) 150 ((4 * l1) + 0).toNatClampNeg)) 154 ((8 * ((up2 (up2 S 154 ((8 * (S 148 7)) + 0).toNatClampNeg l1) 154 ((8 * ((up2 S 154 ((8 * (S 148 7)) + 0).toNatClampNeg l1) 148 7)) + 1).toNatClampNeg ((up2 S 154 ((8 * (S 148 7)) + 0).toNatClampNeg l1) 150 ((4 * l1) + 0).toNatClampNeg)) 148 7)) + 2).toNatClampNeg ((up2 (up2 S 154 ((8 * (S 148 7)) + 0).toNatClampNeg l1) 154 ((8 * ((up2 S 154 ((8 * (S 148 7)) + 0).toNatClampNeg l1) 148 7)) + 1).toNatClampNeg ((up2 S 154 ((8 * (S 148 7)) + 0).toNatClampNeg l1) 150 ((4 * l1) + 0).toNatClampNeg)) 150 ((4 * l1) + 1).toNatClampNeg)) 148 7)) + 3).toNatClampNeg ((up2 (up2 (up2 S 154 ((8 * (S 148 7)) + 0).toNatClampNeg l1) 154 ((8 * ((up2 S 154 ((8 * (S 148 7)) + 0).toNatClampNeg l1) 148 7)) + 1).toNatClampNeg ((up2 S 154 ((8 * (S 148 7)) + 0).toNatClampNeg l1) 150 ((4 * l1) + 0).toNatClampNeg)) 154 ((8 * ((up2 (up2 S 154 ((8 * (S 148 7)) + 0).toNatClampNeg l1) 154 ((8 * ((up2 S 154 ((8 * (S 148 7)) + 0).toNatClampNeg l1) 148 7)) + 1).toNatClampNeg ((up2 S 154 ((8 * (S 148 7)) + 0).toNatClampNeg l1) 150 ((4 * l1) + 0).toNatClampNeg)) 148 7)) + 2).toNatClampNeg ((up2 (up2 S 154 ((8 * (S 148 7)) + 0).toNatClampNeg l1) 154 ((8 * ((up2 S 154 ((8 * (S 148 7)) + 0).toNatClampNeg l1) 148 7)) + 1).toNatClampNeg ((up2 S 154 ((8 * (S 148 7)) + 0).toNatClampNeg l1) 150 ((4 * l1) + 0).toNatClampNeg)) 150 ((4 * l1) + 1).toNatClampNeg)) 150 ((4 * l1) + 2).toNatClampNeg)) 148 7)) + 4).toNatClampNeg ((S 150 ((4 * l1) + 3).toNatClampNeg) - (S 150 ((4 * l1) + 3).toNatClampNeg) / 128 * 128)) 148 7)) + 5).toNatClampNeg ((S 150 ((4 * l1) + 3).toNatClampNeg) / 128)) 148 7), .int 6, .int 0] hx rfl w_774 cv_r_put hG.1 (by decide) rfl rfl rfl rfl (zr_put hx hG (⟨hc11, fun _ hS => by subst hS; exact rfl⟩)) ?_ (fun _ _ hf => hf.elim)
  rintro S' rfl
  refine z_aload_n rfl rfl ?_
  refine z_aload_n rfl rfl ?_
  refine z_geti (ci := 7) 7 rfl hG.1 rfl w_665 ?_
  refine z_bipush 7 rfl rfl ?_
  refine z_iconst (-1) rfl rfl ?_
  obtain ⟨hc12, hw⟩ := hw
  replace hw := hw _ rfl
  refine z_cvv (M' := M_r_put) (post := fun S' => (up2 (up2 (up2 (up2 (up2 (up2 (up2 (up2 S 154 ((8 * (S 148 7)) + 0).toNatClampNeg l1) 154 ((8 * ((up2 S 154 ((8 * (S 148 7)) + 0).toNatClampNeg l1) 148 7)) + 1).toNatClampNeg ((up2 S 154 ((8 * (S 148 7)) + 0).toNatClampNeg l1) 150 ((4 * l1) + 0).toNatClampNeg)) 154 ((8 * ((up2 (up2 S 154 ((8 * (S 148 7)) + 0).toNatClampNeg l1) 154 ((8 * ((up2 S 154 ((8 * (S 148 7)) + 0).toNatClampNeg l1) 148 7)) + 1).toNatClampNeg ((up2 S 154 ((8 * (S 148 7)) + 0).toNatClampNeg l1) 150 ((4 * l1) + 0).toNatClampNeg)) 148 7)) + 2).toNatClampNeg ((up2 (up2 S 154 ((8 * (S 148 7)) + 0).toNatClampNeg l1) 154 ((8 * ((up2 S 154 ((8 * (S 148 7)) + 0).toNatClampNeg l1) 148 7)) + 1).toNatClampNeg ((up2 S 154 ((8 * (S 148 7)) + 0).toNatClampNeg l1) 150 ((4 * l1) + 0).toNatClampNeg)) 150 ((4 * l1) + 1).toNatClampNeg)) 154 ((8 * ((up2 (up2 (up2 S 154 ((8 * (S 148 7)) + 0).toNatClampNeg l1) 154 ((8 * ((up2 S 154 ((8 * (S 148 7)) + 0).toNatClampNeg l1) 148 7)) + 1).toNatClampNeg ((up2 S 154 ((8 * (S 148 7)) + 0).toNatClampNeg l1) 150 ((4 * l1) + 0).toNatClampNeg)) 154 ((8 * ((up2 (up2 S 154 ((8 * (S 148 7)) + 0).toNatClampNeg l1) 154 ((8 * ((up2 S 154 ((8 * (S 148 7)) + 0).toNatClampNeg l1) 148 7)) + 1).toNatClampNeg ((up2 S 154 ((8 * (S 148 7)) + 0).toNatClampNeg l1) 150 ((4 * l1) + 0).toNatClampNeg)) 148 7)) + 2).toNatClampNeg ((up2 (up2 S 154 ((8 * (S 148 7)) + 0).toNatClampNeg l1) 154 ((8 * ((up2 S 154 ((8 * (S 148 7)) + 0).toNatClampNeg l1) 148 7)) + 1).toNatClampNeg ((up2 S 154 ((8 * (S 148 7)) + 0).toNatClampNeg l1) 150 ((4 * l1) + 0).toNatClampNeg)) 150 ((4 * l1) + 1).toNatClampNeg)) 148 7)) + 3).toNatClampNeg ((up2 (up2 (up2 S 154 ((8 * (S 148 7)) + 0).toNatClampNeg l1) 154 ((8 * ((up2 S 154 ((8 * (S 148 7)) + 0).toNatClampNeg l1) 148 7)) + 1).toNatClampNeg ((up2 S 154 ((8 * (S 148 7)) + 0).toNatClampNeg l1) 150 ((4 * l1) + 0).toNatClampNeg)) 154 ((8 * ((up2 (up2 S 154 ((8 * (S 148 7)) + 0).toNatClampNeg l1) 154 ((8 * ((up2 S 154 ((8 * (S 148 7)) + 0).toNatClampNeg l1) 148 7)) + 1).toNatClampNeg ((up2 S 154 ((8 * (S 148 7)) + 0).toNatClampNeg l1) 150 ((4 * l1) + 0).toNatClampNeg)) 148 7)) + 2).toNatClampNeg ((up2 (up2 S 154 ((8 * (S 148 7)) + 0).toNatClampNeg l1) 154 ((8 * ((up2 S 154 ((8 * (S 148 7)) + 0).toNatClampNeg l1) 148 7)) + 1).toNatClampNeg ((up2 S 154 ((8 * (S 148 7)) + 0).toNatClampNeg l1) 150 ((4 * l1) + 0).toNatClampNeg)) 150 ((4 * l1) + 1).toNatClampNeg)) 150 ((4 * l1) + 2).toNatClampNeg)) 154 ((8 * ((up2 (up2 (up2 (up2 S 154 ((8 * (S 148 7)) + 0).toNatClampNeg l1) 154 ((8 * ((up2 S 154 ((8 * (S 148 7)) + 0).toNatClampNeg l1) 148 7)) + 1).toNatClampNeg ((up2 S 154 ((8 * (S 148 7)) + 0).toNatClampNeg l1) 150 ((4 * l1) + 0).toNatClampNeg)) 154 ((8 * ((up2 (up2 S 154 ((8 * (S 148 7)) + 0).toNatClampNeg l1) 154 ((8 * ((up2 S 154 ((8 * (S 148 7)) + 0).toNatClampNeg l1) 148 7)) + 1).toNatClampNeg ((up2 S 154 ((8 * (S 148 7)) + 0).toNatClampNeg l1) 150 ((4 * l1) + 0).toNatClampNeg)) 148 7)) + 2).toNatClampNeg ((up2 (up2 S 154 ((8 * (S 148 7)) + 0).toNatClampNeg l1) 154 ((8 * ((up2 S 154 ((8 * (S 148 7)) + 0).toNatClampNeg l1) 148 7)) + 1).toNatClampNeg ((up2 S 154 ((8 * (S 148 7)) + 0).toNatClampNeg l1) 150 ((4 * l1) + 0).toNatClampNeg)) 150 ((4 * l1) + 1).toNatClampNeg)) 154 ((8 * ((up2 (up2 (up2 S 154 ((8 * (S 148 7)) + 0).toNatClampNeg l1) 154 ((8 * ((up2 S 154 ((8 * (S 148 7)) + 0).toNatClampNeg l1) 148 7)) + 1).toNatClampNeg ((up2 S 154 ((8 * (S 148 7)) + 0).toNatClampNeg l1) 150 ((4 * l1) + 0).toNatClampNeg)) 154 ((8 * ((up2 (up2 S 154 ((8 * (S 148 7)) + 0).toNatClampNeg l1) 154 ((8 * ((up2 S 154 ((8 * (S 148 7)) + 0).toNatClampNeg l1) 148 7)) + 1).toNatClampNeg ((up2 S 154 ((8 * (S 148 7)) + 0).toNatClampNeg l1) 150 ((4 * l1) + 0).toNatClampNeg)) 148 7)) + 2).toNatClampNeg ((up2 (up2 S 154 ((8 * (S 148 7)) + 0).toNatClampNeg l1) 154 ((8 * ((up2 S 154 ((8 * (S 148 7)) + 0).toNatClampNeg l1) 148 7)) + 1).toNatClampNeg ((up2 S 154 ((8 * (S 148 7)) + 0).toNatClampNeg l1) 150 ((4 * l1) + 0).toNatClampNeg)) 150 ((4 * l1) + 1).toNatClampNeg)) 148 7)) + 3).toNatClampNeg ((up2 (up2 (up2 S 154 ((8 * (S 148 7)) + 0).toNatClampNeg l1) 154 ((8 * ((up2 S 154 ((8 * (S 148 7)) + 0).toNatClampNeg l1) 148 7)) + 1).toNatClampNeg ((up2 S 154 ((8 * (S 148 7)) + 0).toNatClampNeg l1) 150 ((4 * l1) + 0).toNatClampNeg)) 154 ((8 * ((up2 (up2 S 154 ((8 * (S 148 7)) + 0).toNatClampNeg l1) 154 ((8 * ((up2 S 154 ((8 * (S 148 7)) + 0).toNatClampNeg l1) 148 7)) + 1).toNatClampNeg ((up2 S 154 ((8 * (S 148 7)) + 0).toNatClampNeg l1) 150 ((4 * l1) + 0).toNatClampNeg)) 148 7)) + 2).toNatClampNeg ((up2 (up2 S 154 ((8 * (S 148 7)) + 0).toNatClampNeg l1) 154 ((8 * ((up2 S 154 ((8 * (S 148 7)) + 0).toNatClampNeg l1) 148 7)) + 1).toNatClampNeg ((up2 S 154 ((8 * (S 148 7)) + 0).toNatClampNeg l1) 150 ((4 * l1) + 0).toNatClampNeg)) 150 ((4 * l1) + 1).toNatClampNeg)) 150 ((4 * l1) + 2).toNatClampNeg)) 148 7)) + 4).toNatClampNeg ((S 150 ((4 * l1) + 3).toNatClampNeg) - (S 150 ((4 * l1) + 3).toNatClampNeg) / 128 * 128)) 154 ((8 * ((up2 (up2 (up2 (up2 (up2 S 154 ((8 * (S 148 7)) + 0).toNatClampNeg l1) 154 ((8 * ((up2 S 154 ((8 * (S 148 7)) + 0).toNatClampNeg l1) 148 7)) + 1).toNatClampNeg ((up2 S 154 ((8 * (S 148 7)) + 0).toNatClampNeg l1) 150 ((4 * l1) + 0).toNatClampNeg)) 154 ((8 * ((up2 (up2 S 154 ((8 * (S 148 7)) + 0).toNatClampNeg l1) 154 ((8 * ((up2 S 154 ((8 * (S 148 7)) + 0).toNatClampNeg l1) 148 7)) + 1).toNatClampNeg ((up2 S 154 ((8 * (S 148 7)) + 0).toNatClampNeg l1) 150 ((4 * l1) + 0).toNatClampNeg)) 148 7)) + 2).toNatClampNeg ((up2 (up2 S 154 ((8 * (S 148 7)) + 0).toNatClampNeg l1) 154 ((8 * ((up2 S 154 ((8 * (S 148 7)) + 0).toNatClampNeg l1) 148 7)) + 1).toNatClampNeg ((up2 S 154 ((8 * (S 148 7)) + 0).toNatClampNeg l1) 150 ((4 * l1) + 0).toNatClampNeg)) 150 ((4 * l1) + 1).toNatClampNeg)) 154 ((8 * ((up2 (up2 (up2 S 154 ((8 * (S 148 7)) + 0).toNatClampNeg l1) 154 ((8 * ((up2 S 154 ((8 * (S 148 7)) + 0).toNatClampNeg l1) 148 7)) + 1).toNatClampNeg ((up2 S 154 ((8 * (S 148 7)) + 0).toNatClampNeg l1) 150 ((4 * l1) + 0).toNatClampNeg)) 154 ((8 * ((up2 (up2 S 154 ((8 * (S 148 7)) + 0).toNatClampNeg l1) 154 ((8 * ((up2 S 154 ((8 * (S 148 7)) + 0).toNatClampNeg l1) 148 7)) + 1).toNatClampNeg ((up2 S 154 ((8 * (S 148 7)) + 0).toNatClampNeg l1) 150 ((4 * l1) + 0).toNatClampNeg)) 148 7)) + 2).toNatClampNeg ((up2 (up2 S 154 ((8 * (S 148 7)) + 0).toNatClampNeg l1) 154 ((8 * ((up2 S 154 ((8 * (S 148 7)) + 0).toNatClampNeg l1) 148 7)) + 1).toNatClampNeg ((up2 S 154 ((8 * (S 148 7)) + 0).toNatClampNeg l1) 150 ((4 * l1) + 0).toNatClampNeg)) 150 ((4 * l1) + 1).toNatClampNeg)) 148 7)) + 3).toNatClampNeg ((up2 (up2 (up2 S 154 ((8 * (S 148 7)) + 0).toNatClampNeg l1) 154 ((8 * ((up2 S 154 ((8 * (S 148 7)) + 0).toNatClampNeg l1) 148 7)) + 1).toNatClampNeg ((up2 S 154 ((8 * (S 148 7)) + 0).toNatClampNeg l1) 150 ((4 * l1) + 0).toNatClampNeg)) 154 ((8 * ((up2 (up2 S 154 ((8 * (S 148 7)) + 0).toNatClampNeg l1) 154 ((8 * ((up2 S 154 ((8 * (S 148 7)) + 0).toNatClampNeg l1) 148 7)) + 1).toNatClampNeg ((up2 S 154 ((8 * (S 148 7)) + 0).toNatClampNeg l1) 150 ((4 * l1) + 0).toNatClampNeg)) 148 7)) + 2).toNatClampNeg ((up2 (up2 S 154 ((8 * (S 148 7)) + 0).toNatClampNeg l1) 154 ((8 * ((up2 S 154 ((8 * (S 148 7)) + 0).toNatClampNeg l1) 148 7)) + 1).toNatClampNeg ((up2 S 154 ((8 * (S 148 7)) + 0).toNatClampNeg l1) 150 ((4 * l1) + 0).toNatClampNeg)) 150 ((4 * l1) + 1).toNatClampNeg)) 150 ((4 * l1) + 2).toNatClampNeg)) 154 ((8 * ((up2 (up2 (up2 (up2 S 154 ((8 * (S 148 7)) + 0).toNatClampNeg l1) 154 ((8 * ((up2 S 154 ((8 * (S 148 7)) + 0).toNatClampNeg l1) 148 7)) + 1).toNatClampNeg ((up2 S 154 ((8 * (S 148 7)) + 0).toNatClampNeg l1) 150 ((4 * l1) + 0).toNatClampNeg)) 154 ((8 * ((up2 (up2 S 154 ((8 * (S 148 7)) + 0).toNatClampNeg l1) 154 ((8 * ((up2 S 154 ((8 * (S 148 7)) + 0).toNatClampNeg l1) 148 7)) + 1).toNatClampNeg ((up2 S 154 ((8 * (S 148 7)) + 0).toNatClampNeg l1) 150 ((4 * l1) + 0).toNatClampNeg)) 148 7)) + 2).toNatClampNeg ((up2 (up2 S 154 ((8 * (S 148 7)) + 0).toNatClampNeg l1) 154 ((8 * ((up2 S 154 ((8 * (S 148 7)) + 0).toNatClampNeg l1) 148 7)) + 1).toNatClampNeg ((up2 S 154 ((8 * (S 148 7)) + 0).toNatClampNeg l1) 150 ((4 * l1) + 0).toNatClampNeg)) 150 ((4 * l1) + 1).toNatClampNeg)) 154 ((8 * ((up2 (up2 (up2 S 154 ((8 * (S 148 7)) + 0).toNatClampNeg l1) 154 ((8 * ((up2 S 154 ((8 * (S 148 7)) + 0).toNatClampNeg l1) 148 7)) + 1).toNatClampNeg ((up2 S 154 ((8 * (S 148 7)) + 0).toNatClampNeg l1) 150 ((4 * l1) + 0).toNatClampNeg)) 154 ((8 * ((up2 (up2 S 154 ((8 * (S 148 7)) + 0).toNatClampNeg l1) 154 ((8 * ((up2 S 154 ((8 * (S 148 7)) + 0).toNatClampNeg l1) 148 7)) + 1).toNatClampNeg ((up2 S 154 ((8 * (S 148 7)) + 0).toNatClampNeg l1) 150 ((4 * l1) + 0).toNatClampNeg)) 148 7)) + 2).toNatClampNeg ((up2 (up2 S 154 ((8 * (S 148 7)) + 0).toNatClampNeg l1) 154 ((8 * ((up2 S 154 ((8 * (S 148 7)) + 0).toNatClampNeg l1) 148 7)) + 1).toNatClampNeg ((up2 S 154 ((8 * (S 148 7)) + 0).toNatClampNeg l1) 150 ((4 * l1) + 0).toNatClampNeg)) 150 ((4 * l1) + 1).toNatClampNeg)) 148 7)) + 3).toNatClampNeg ((up2 (up2 (up2 S 154 ((8 * (S 148 7)) + 0).toNatClampNeg l1) 154 ((8 * ((up2 S 154 ((8 * (S 148 7)) + 0).toNatClampNeg l1) 148 7)) + 1).toNatClampNeg ((up2 S 154 ((8 * (S 148 7)) + 0).toNatClampNeg l1) 150 ((4 * l1) + 0).toNatClampNeg)) 154 ((8 * ((up2 (up2 S 154 ((8 * (S 148 7)) + 0).toNatClampNeg l1) 154 ((8 * ((up2 S 154 ((8 * (S 148 7)) + 0).toNatClampNeg l1) 148 7)) + 1).toNatClampNeg ((up2 S 154 ((8 * (S 148 7)) + 0).toNatClampNeg l1) 150 ((4 * l1) + 0).toNatClampNeg)) 148 7)) + 2).toNatClampNeg ((up2 (up2 S 154 ((8 * (S 148 7)) + 0).toNatClampNeg l1) 154 ((8 * ((up2 S 154 ((8 * (S 148 7)) + 0).toNatClampNeg l1) 148 7)) + 1).toNatClampNeg ((up2 S 154 ((8 * (S 148 7)) + 0).toNatClampNeg l1) 150 ((4 * l1) + 0).toNatClampNeg)) 150 ((4 * l1) + 1).toNatClampNeg)) 150 ((4 * l1) + 2).toNatClampNeg)) 148 7)) + 4).toNatClampNeg ((S 150 ((4 * l1) + 3).toNatClampNeg) - (S 150 ((4 * l1) + 3).toNatClampNeg) / 128 * 128)) 148 7)) + 5).toNatClampNeg ((S 150 ((4 * l1) + 3).toNatClampNeg) / 128)) 154 ((8 * ((up2 (up2 (up2 (up2 (up2 (up2 S 154 ((8 * (S 148 7)) + 0).toNatClampNeg l1) 154 ((8 * ((up2 S 154 ((8 * (S 148 7)) + 0).toNatClampNeg l1) 148 7)) + 1).toNatClampNeg ((up2 S 154 ((8 * (S 148 7)) + 0).toNatClampNeg l1) 150 ((4 * l1) + 0).toNatClampNeg)) 154 ((8 * ((up2 (up2 S 154 ((8 * (S 148 7)) + 0).toNatClampNeg l1) 154 ((8 * ((up2 S 154 ((8 * (S 148 7)) + 0).toNatClampNeg l1) 148 7)) + 1).toNatClampNeg ((up2 S 154 ((8 * (S 148 7)) + 0).toNatClampNeg l1) 150 ((4 * l1) + 0).toNatClampNeg)) 148 7)) + 2).toNatClampNeg ((up2 (up2 S 154 ((8 * (S 148 7)) + 0).toNatClampNeg l1) 154 ((8 * ((up2 S 154 ((8 * (S 148 7)) + 0).toNatClampNeg l1) 148 7)) + 1).toNatClampNeg ((up2 S 154 ((8 * (S 148 7)) + 0).toNatClampNeg l1) 150 ((4 * l1) + 0).toNatClampNeg)) 150 ((4 * l1) + 1).toNatClampNeg)) 154 ((8 * ((up2 (up2 (up2 S 154 ((8 * (S 148 7)) + 0).toNatClampNeg l1) 154 ((8 * ((up2 S 154 ((8 * (S 148 7)) + 0).toNatClampNeg l1) 148 7)) + 1).toNatClampNeg ((up2 S 154 ((8 * (S 148 7)) + 0).toNatClampNeg l1) 150 ((4 * l1) + 0).toNatClampNeg)) 154 ((8 * ((up2 (up2 S 154 ((8 * (S 148 7)) + 0).toNatClampNeg l1) 154 ((8 * ((up2 S 154 ((8 * (S 148 7)) + 0).toNatClampNeg l1) 148 7)) + 1).toNatClampNeg ((up2 S 154 ((8 * (S 148 7)) + 0).toNatClampNeg l1) 150 ((4 * l1) + 0).toNatClampNeg)) 148 7)) + 2).toNatClampNeg ((up2 (up2 S 154 ((8 * (S 148 7)) + 0).toNatClampNeg l1) 154 ((8 * ((up2 S 154 ((8 * (S 148 7)) + 0).toNatClampNeg l1) 148 7)) + 1).toNatClampNeg ((up2 S 154 ((8 * (S 148 7)) + 0).toNatClampNeg l1) 150 ((4 * l1) + 0).toNatClampNeg)) 150 ((4 * l1) + 1).toNatClampNeg)) 148 7)) + 3).toNatClampNeg ((up2 (up2 (up2 S 154 ((8 * (S 148 7)) + 0).toNatClampNeg l1) 154 ((8 * ((up2 S 154 ((8 * (S 148 7)) + 0).toNatClampNeg l1) 148 7)) + 1).toNatClampNeg ((up2 S 154 ((8 * (S 148 7)) + 0).toNatClampNeg l1) 150 ((4 * l1) + 0).toNatClampNeg)) 154 ((8 * ((up2 (up2 S 154 ((8 * (S 148 7)) + 0).toNatClampNeg l1) 154 ((8 * ((up2 S 154 ((8 * (S 148 7)) + 0).toNatClampNeg l1) 148 7)) + 1).toNatClampNeg ((up2 S 154 ((8 * (S 148 7)) + 0).toNatClampNeg l1) 150 ((4 * l1) + 0).toNatClampNeg)) 148 7)) + 2).toNatClampNeg ((up2 (up2 S 154 ((8 * (S 148 7)) + 0).toNatClampNeg l1) 154 ((8 * ((up2 S 154 ((8 * (S 148 7)) + 0).toNatClampNeg l1) 148 7)) + 1).toNatClampNeg ((up2 S 154 ((8 * (S 148 7)) + 0).toNatClampNeg l1) 150 ((4 * l1) + 0).toNatClampNeg)) 150 ((4 * l1) + 1).toNatClampNeg)) 150 ((4 * l1) + 2).toNatClampNeg)) 154 ((8 * ((up2 (up2 (up2 (up2 S 154 ((8 * (S 148 7)) + 0).toNatClampNeg l1) 154 ((8 * ((up2 S 154 ((8 * (S 148 7)) + 0).toNatClampNeg l1) 148 7)) + 1).toNatClampNeg ((up2 S 154 ((8 * (S 148 7)) + 0).toNatClampNeg l1) 150 ((4 * l1) + 0).toNatClampNeg)) 154 ((8 * ((up2 (up2 S 154 ((8 * (S 148 7)) + 0).toNatClampNeg l1) 154 ((8 * ((up2 S 154 ((8 * (S 148 7)) + 0).toNatClampNeg l1) 148 7)) + 1).toNatClampNeg ((up2 S 154 ((8 * (S 148 7)) + 0).toNatClampNeg l1) 150 ((4 * l1) + 0).toNatClampNeg)) 148 7)) + 2).toNatClampNeg ((up2 (up2 S 154 ((8 * (S 148 7)) + 0).toNatClampNeg l1) 154 ((8 * ((up2 S 154 ((8 * (S 148 7)) + 0).toNatClampNeg l1) 148 7)) + 1).toNatClampNeg ((up2 S 154 ((8 * (S 148 7)) + 0).toNatClampNeg l1) 150 ((4 * l1) + 0).toNatClampNeg)) 150 ((4 * l1) + 1).toNatClampNeg)) 154 ((8 * ((up2 (up2 (up2 S 154 ((8 * (S 148 7)) + 0).toNatClampNeg l1) 154 ((8 * ((up2 S 154 ((8 * (S 148 7)) + 0).toNatClampNeg l1) 148 7)) + 1).toNatClampNeg ((up2 S 154 ((8 * (S 148 7)) + 0).toNatClampNeg l1) 150 ((4 * l1) + 0).toNatClampNeg)) 154 ((8 * ((up2 (up2 S 154 ((8 * (S 148 7)) + 0).toNatClampNeg l1) 154 ((8 * ((up2 S 154 ((8 * (S 148 7)) + 0).toNatClampNeg l1) 148 7)) + 1).toNatClampNeg ((up2 S 154 ((8 * (S 148 7)) + 0).toNatClampNeg l1) 150 ((4 * l1) + 0).toNatClampNeg)) 148 7)) + 2).toNatClampNeg ((up2 (up2 S 154 ((8 * (S 148 7)) + 0).toNatClampNeg l1) 154 ((8 * ((up2 S 154 ((8 * (S 148 7)) + 0).toNatClampNeg l1) 148 7)) + 1).toNatClampNeg ((up2 S 154 ((8 * (S 148 7)) + 0).toNatClampNeg l1) 150 ((4 * l1) + 0).toNatClampNeg)) 150 ((4 * l1) + 1).toNatClampNeg)) 148 7)) + 3).toNatClampNeg ((up2 (up2 (up2 S 154 ((8 * (S 148 7)) + 0).toNatClampNeg l1) 154 ((8 * ((up2 S 154 ((8 * (S 148 7)) + 0).toNatClampNeg l1) 148 7)) + 1).toNatClampNeg ((up2 S 154 ((8 * (S 148 7)) + 0).toNatClampNeg l1) 150 ((4 * l1) + 0).toNatClampNeg)) 154 ((8 * ((up2 (up2 S 154 ((8 * (S 148 7)) + 0).toNatClampNeg l1) 154 ((8 * ((up2 S 154 ((8 * (S 148 7)) + 0).toNatClampNeg l1) 148 7)) + 1).toNatClampNeg ((up2 S 154 ((8 * (S 148 7)) + 0).toNatClampNeg l1) 150 ((4 * l1) + 0).toNatClampNeg)) 148 7)) + 2).toNatClampNeg ((up2 (up2 S 154 ((8 * (S 148 7)) + 0).toNatClampNeg l1) 154 ((8 * ((up2 S 154 ((8 * (S 148 7)) + 0).toNatClampNeg l1) 148 7)) + 1).toNatClampNeg ((up2 S 154 ((8 * (S 148 7)) + 0).toNatClampNeg l1) 150 ((4 * l1) + 0).toNatClampNeg)) 150 ((4 * l1) + 1).toNatClampNeg)) 150 ((4 * l1) + 2).toNatClampNeg)) 148 7)) + 4).toNatClampNeg ((S 150 ((4 * l1) + 3).toNatClampNeg) - (S 150 ((4 * l1) + 3).toNatClampNeg) / 128 * 128)) 154 ((8 * ((up2 (up2 (up2 (up2 (up2 S 154 ((8 * (S 148 7)) + 0).toNatClampNeg l1) 154 ((8 * ((up2 S 154 ((8 * (S 148 7)) + 0).toNatClampNeg l1) 148 7)) + 1).toNatClampNeg ((up2 S 154 ((8 * (S 148 7)) + 0).toNatClampNeg l1) 150 ((4 * l1) + 0).toNatClampNeg)) 154 ((8 * ((up2 (up2 S 154 ((8 * (S 148 7)) + 0).toNatClampNeg l1) 154 ((8 * ((up2 S 154 ((8 * (S 148 7)) + 0).toNatClampNeg l1) 148 7)) + 1).toNatClampNeg ((up2 S 154 ((8 * (S 148 7)) + 0).toNatClampNeg l1) 150 ((4 * l1) + 0).toNatClampNeg)) 148 7)) + 2).toNatClampNeg ((up2 (up2 S 154 ((8 * (S 148 7)) + 0).toNatClampNeg l1) 154 ((8 * ((up2 S 154 ((8 * (S 148 7)) + 0).toNatClampNeg l1) 148 7)) + 1).toNatClampNeg ((up2 S 154 ((8 * (S 148 7)) + 0).toNatClampNeg l1) 150 ((4 * l1) + 0).toNatClampNeg)) 150 ((4 * l1) + 1).toNatClampNeg)) 154 ((8 * ((up2 (up2 (up2 S 154 ((8 * (S 148 7)) + 0).toNatClampNeg l1) 154 ((8 * ((up2 S 154 ((8 * (S 148 7)) + 0).toNatClampNeg l1) 148 7)) + 1).toNatClampNeg ((up2 S 154 ((8 * (S 148 7)) + 0).toNatClampNeg l1) 150 ((4 * l1) + 0).toNatClampNeg)) 154 ((8 * ((up2 (up2 S 154 ((8 * (S 148 7)) + 0).toNatClampNeg l1) 154 ((8 * ((up2 S 154 ((8 * (S 148 7)) + 0).toNatClampNeg l1) 148 7)) + 1).toNatClampNeg ((up2 S 154 ((8 * (S 148 7)) + 0).toNatClampNeg l1) 150 ((4 * l1) + 0).toNatClampNeg)) 148 7)) + 2).toNatClampNeg ((up2 (up2 S 154 ((8 * (S 148 7)) + 0).toNatClampNeg l1) 154 ((8 * ((up2 S 154 ((8 * (S 148 7)) + 0).toNatClampNeg l1) 148 7)) + 1).toNatClampNeg ((up2 S 154 ((8 * (S 148 7)) + 0).toNatClampNeg l1) 150 ((4 * l1) + 0).toNatClampNeg)) 150 ((4 * l1) + 1).toNatClampNeg)) 148 7)) + 3).toNatClampNeg ((up2 (up2 (up2 S 154 ((8 * (S 148 7)) + 0).toNatClampNeg l1) 154 ((8 * ((up2 S 154 ((8 * (S 148 7)) + 0).toNatClampNeg l1) 148 7)) + 1).toNatClampNeg ((up2 S 154 ((8 * (S 148 7)) + 0).toNatClampNeg l1) 150 ((4 * l1) + 0).toNatClampNeg)) 154 ((8 * ((up2 (up2 S 154 ((8 * (S 148 7)) + 0).toNatClampNeg l1) 154 ((8 * ((up2 S 154 ((8 * (S 148 7)) + 0).toNatClampNeg l1) 148 7)) + 1).toNatClampNeg ((up2 S 154 ((8 * (S 148 7)) + 0).toNatClampNeg l1) 150 ((4 * l1) + 0).toNatClampNeg)) 148 7)) + 2).toNatClampNeg ((up2 (up2 S 154 ((8 * (S 148 7)) + 0).toNatClampNeg l1) 154 ((8 * ((up2 S 154 ((8 * (S 148 7)) + 0).toNatClampNeg l1) 148 7)) + 1).toNatClampNeg ((up2 S 154 ((8 * (S 148 7)) + 0).toNatClampNeg l1) 150 ((4 * l1) + 0).toNatClampNeg)) 150 ((4 * l1) + 1).toNatClampNeg)) 150 ((4 * l1) + 2).toNatClampNeg)) 154 ((8 * ((up2 (up2 (up2 (up2 S 154 ((8 * (S 148 7)) + 0).toNatClampNeg l1) 154 ((8 * ((up2 S 154 ((8 * (S 148 7)) + 0).toNatClampNeg l1) 148 7)) + 1).toNatClampNeg ((up2 S 154 ((8 * (S 148 7)) + 0).toNatClampNeg l1) 150 ((4 * l1) + 0).toNatClampNeg)) 154 ((8 * ((up2 (up2 S 154 ((8 * (S 148 7)) + 0).toNatClampNeg l1) 154 ((8 * ((up2 S 154 ((8 * (S 148 7)) + 0).toNatClampNeg l1) 148 7)) + 1).toNatClampNeg ((up2 S 154 ((8 * (S 148 7)) + 0).toNatClampNeg l1) 150 ((4 * l1) + 0).toNatClampNeg)) 148 7)) + 2).toNatClampNeg ((up2 (up2 S 154 ((8 * (S 148 7)) + 0).toNatClampNeg l1) 154 ((8 * ((up2 S 154 ((8 * (S 148 7)) + 0).toNatClampNeg l1) 148 7)) + 1).toNatClampNeg ((up2 S 154 ((8 * (S 148 7)) + 0).toNatClampNeg l1) 150 ((4 * l1) + 0).toNatClampNeg)) 150 ((4 * l1) + 1).toNatClampNeg)) 154 ((8 * ((up2 (up2 (up2 S 154 ((8 * (S 148 7)) + 0).toNatClampNeg l1) 154 ((8 * ((up2 S 154 ((8 * (S 148 7)) + 0).toNatClampNeg l1) 148 7)) + 1).toNatClampNeg ((up2 S 154 ((8 * (S 148 7)) + 0).toNatClampNeg l1) 150 ((4 * l1) + 0).toNatClampNeg)) 154 ((8 * ((up2 (up2 S 154 ((8 * (S 148 7)) + 0).toNatClampNeg l1) 154 ((8 * ((up2 S 154 ((8 * (S 148 7)) + 0).toNatClampNeg l1) 148 7)) + 1).toNatClampNeg ((up2 S 154 ((8 * (S 148 7)) + 0).toNatClampNeg l1) 150 ((4 * l1) + 0).toNatClampNeg)) 148 7)) + 2).toNatClampNeg ((up2 (up2 S 154 ((8 * (S 148 7)) + 0).toNatClampNeg l1) 154 ((8 * ((up2 S 154 ((8 * (S 148 7)) + 0).toNatClampNeg l1) 148 7)) + 1).toNatClampNeg ((up2 S 154 ((8 * (S 148 7)) + 0).toNatClampNeg l1) 150 ((4 * l1) + 0).toNatClampNeg)) 150 ((4 * l1) + 1).toNatClampNeg)) 148 7)) + 3).toNatClampNeg ((up2 (up2 (up2 S 154 ((8 * (S 148 7)) + 0).toNatClampNeg l1) 154 ((8 * ((up2 S 154 ((8 * (S 148 7)) + 0).toNatClampNeg l1) 148 7)) + 1).toNatClampNeg ((up2 S 154 ((8 * (S 148 7)) + 0).toNatClampNeg l1) 150 ((4 * l1) + 0).toNatClampNeg)) 154 ((8 * ((up2 (up2 S 154 ((8 * (S 148 7)) + 0).toNatClampNeg l1) 154 ((8 * ((up2 S 154 ((8 * (S 148 7)) + 0).toNatClampNeg l1) 148 7)) + 1).toNatClampNeg ((up2 S 154 ((8 * (S 148 7)) + 0).toNatClampNeg l1) 150 ((4 * l1) + 0).toNatClampNeg)) 148 7)) + 2).toNatClampNeg ((up2 (up2 S 154 ((8 * (S 148 7)) + 0).toNatClampNeg l1) 154 ((8 * ((up2 S 154 ((8 * (S 148 7)) + 0).toNatClampNeg l1) 148 7)) + 1).toNatClampNeg ((up2 S 154 ((8 * (S 148 7)) + 0).toNatClampNeg l1) 150 ((4 * l1) + 0).toNatClampNeg)) 150 ((4 * l1) + 1).toNatClampNeg)) 150 ((4 * l1) + 2).toNatClampNeg)) 148 7)) + 4).toNatClampNeg ((S 150 ((4 * l1) + 3).toNatClampNeg) - (S 150 ((4 * l1) + 3).toNatClampNeg) / 128 * 128)) 148 7)) + 5).toNatClampNeg ((S 150 ((4 * l1) + 3).toNatClampNeg) / 128)) 148 7)) + 6).toNatClampNeg 0) 154 ((8 * ((up2 (up2 (up2 (up2 (up2 (up2 (up2 S 154 ((8 * (S 148 7)) + 0).toNatClampNeg l1) 154 ((8 * ((up2 S 154 ((8 * (S 148 7)) + 0).toNatClampNeg l1) 148 7)) + 1).toNatClampNeg ((up2 S 154 ((8 * (S 148 7)) + 0).toNatClampNeg l1) 150 ((4 * l1) + 0).toNatClampNeg)) 154 ((8 * ((up2 (up2 S 154 ((8 * (S 148 7)) + 0).toNatClampNeg l1) 154 ((8 * ((up2 S 154 ((8 * (S 148 7)) + 0).toNatClampNeg l1) 148 7)) + 1).toNatClampNeg ((up2 S 154 ((8 * (S 148 7)) + 0).toNatClampNeg l1) 150 ((4 * l1) + 0).toNatClampNeg)) 148 7)) + 2).toNatClampNeg ((up2 (up2 S 154 ((8 * (S 148 7)) + 0).toNatClampNeg l1) 154 ((8 * ((up2 S 154 ((8 * (S 148 7)) + 0).toNatClampNeg l1) 148 7)) + 1).toNatClampNeg ((up2 S 154 ((8 * (S 148 7)) + 0).toNatClampNeg l1) 150 ((4 * l1) + 0).toNatClampNeg)) 150 ((4 * l1) + 1).toNatClampNeg)) 154 ((8 * ((up2 (up2 (up2 S 154 ((8 * (S 148 7)) + 0).toNatClampNeg l1) 154 ((8 * ((up2 S 154 ((8 * (S 148 7)) + 0).toNatClampNeg l1) 148 7)) + 1).toNatClampNeg ((up2 S 154 ((8 * (S 148 7)) + 0).toNatClampNeg l1) 150 ((4 * l1) + 0).toNatClampNeg)) 154 ((8 * ((up2 (up2 S 154 ((8 * (S 148 7)) + 0).toNatClampNeg l1) 154 ((8 * ((up2 S 154 ((8 * (S 148 7)) + 0).toNatClampNeg l1) 148 7)) + 1).toNatClampNeg ((up2 S 154 ((8 * (S 148 7)) + 0).toNatClampNeg l1) 150 ((4 * l1) + 0).toNatClampNeg)) 148 7)) + 2).toNatClampNeg ((up2 (up2 S 154 ((8 * (S 148 7)) + 0).toNatClampNeg l1) 154 ((8 * ((up2 S 154 ((8 * (S 148 7)) + 0).toNatClampNeg l1) 148 7)) + 1).toNatClampNeg ((up2 S 154 ((8 * (S 148 7)) + 0).toNatClampNeg l1) 150 ((4 * l1) + 0).toNatClampNeg)) 150 ((4 * l1) + 1).toNatClampNeg)) 148 7)) + 3).toNatClampNeg ((up2 (up2 (up2 S 154 ((8 * (S 148 7)) + 0).toNatClampNeg l1) 154 ((8 * ((up2 S 154 ((8 * (S 148 7)) + 0).toNatClampNeg l1) 148 7)) + 1).toNatClampNeg ((up2 S 154 ((8 * (S 148 7)) + 0).toNatClampNeg l1) 150 ((4 * l1) + 0).toNatClampNeg)) 154 ((8 * ((up2 (up2 S 154 ((8 * (S 148 7)) + 0).toNatClampNeg l1) 154 ((8 * ((up2 S 154 ((8 * (S 148 7)) + 0).toNatClampNeg l1) 148 7)) + 1).toNatClampNeg ((up2 S 154 ((8 * (S 148 7)) + 0).toNatClampNeg l1) 150 ((4 * l1) + 0).toNatClampNeg)) 148 7)) + 2).toNatClampNeg ((up2 (up2 S 154 ((8 * (S 148 7)) + 0).toNatClampNeg l1) 154 ((8 * ((up2 S 154 ((8 * (S 148 7)) + 0).toNatClampNeg l1) 148 7)) + 1).toNatClampNeg ((up2 S 154 ((8 * (S 148 7)) + 0).toNatClampNeg l1) 150 ((4 * l1) + 0).toNatClampNeg)) 150 ((4 * l1) + 1).toNatClampNeg)) 150 ((4 * l1) + 2).toNatClampNeg)) 154 ((8 * ((up2 (up2 (up2 (up2 S 154 ((8 * (S 148 7)) + 0).toNatClampNeg l1) 154 ((8 * ((up2 S 154 ((8 * (S 148 7)) + 0).toNatClampNeg l1) 148 7)) + 1).toNatClampNeg ((up2 S 154 ((8 * (S 148 7)) + 0).toNatClampNeg l1) 150 ((4 * l1) + 0).toNatClampNeg)) 154 ((8 * ((up2 (up2 S 154 ((8 * (S 148 7)) + 0).toNatClampNeg l1) 154 ((8 * ((up2 S 154 ((8 * (S 148 7)) + 0).toNatClampNeg l1) 148 7)) + 1).toNatClampNeg ((up2 S 154 ((8 * (S 148 7)) + 0).toNatClampNeg l1) 150 ((4 * l1) + 0).toNatClampNeg)) 148 7)) + 2).toNatClampNeg ((up2 (up2 S 154 ((8 * (S 148 7)) + 0).toNatClampNeg l1) 154 ((8 * ((up2 S 154 ((8 * (S 148 7)) + 0).toNatClampNeg l1) 148 7)) + 1).toNatClampNeg ((up2 S 154 ((8 * (S 148 7)) + 0).toNatClampNeg l1) 150 ((4 * l1) + 0).toNatClampNeg)) 150 ((4 * l1) + 1).toNatClampNeg)) 154 ((8 * ((up2 (up2 (up2 S 154 ((8 * (S 148 7)) + 0).toNatClampNeg l1) 154 ((8 * ((up2 S 154 ((8 * (S 148 7)) + 0).toNatClampNeg l1) 148 7)) + 1).toNatClampNeg ((up2 S 154 ((8 * (S 148 7)) + 0).toNatClampNeg l1) 150 ((4 * l1) + 0).toNatClampNeg)) 154 ((8 * ((up2 (up2 S 154 ((8 * (S 148 7)) + 0).toNatClampNeg l1) 154 ((8 * ((up2 S 154 ((8 * (S 148 7)) + 0).toNatClampNeg l1) 148 7)) + 1).toNatClampNeg ((up2 S 154 ((8 * (S 148 7)) + 0).toNatClampNeg l1) 150 ((4 * l1) + 0).toNatClampNeg)) 148 7)) + 2).toNatClampNeg ((up2 (up2 S 154 ((8 * (S 148 7)) + 0).toNatClampNeg l1) 154 ((8 * ((up2 S 154 ((8 * (S 148 7)) + 0).toNatClampNeg l1) 148 7)) + 1).toNatClampNeg ((up2 S 154 ((8 * (S 148 7)) + 0).toNatClampNeg l1) 150 ((4 * l1) + 0).toNatClampNeg)) 150 ((4 * l1) + 1).toNatClampNeg)) 148 7)) + 3).toNatClampNeg ((up2 (up2 (up2 S 154 ((8 * (S 148 7)) + 0).toNatClampNeg l1) 154 ((8 * ((up2 S 154 ((8 * (S 148 7)) + 0).toNatClampNeg l1) 148 7)) + 1).toNatClampNeg ((up2 S 154 ((8 * (S 148 7)) + 0).toNatClampNeg l1) 150 ((4 * l1) + 0).toNatClampNeg)) 154 ((8 * ((up2 (up2 S 154 ((8 * (S 148 7)) + 0).toNatClampNeg l1) 154 ((8 * ((up2 S 154 ((8 * (S 148 7)) + 0).toNatClampNeg l1) 148 7)) + 1).toNatClampNeg ((up2 S 154 ((8 * (S 148 7)) + 0).toNatClampNeg l1) 150 ((4 * l1) + 0).toNatClampNeg)) 148 7)) + 2).toNatClampNeg ((up2 (up2 S 154 ((8 * (S 148 7)) + 0).toNatClampNeg l1) 154 ((8 * ((up2 S 154 ((8 * (S 148 7)) + 0).toNatClampNeg l1) 148 7)) + 1).toNatClampNeg ((up2 S 154 ((8 * (S 148 7)) + 0).toNatClampNeg l1) 150 ((4 * l1) + 0).toNatClampNeg)) 150 ((4 * l1) + 1).toNatClampNeg)) 150 ((4 * l1) + 2).toNatClampNeg)) 148 7)) + 4).toNatClampNeg ((S 150 ((4 * l1) + 3).toNatClampNeg) - (S 150 ((4 * l1) + 3).toNatClampNeg) / 128 * 128)) 154 ((8 * ((up2 (up2 (up2 (up2 (up2 S 154 ((8 * (S 148 7)) + 0).toNatClampNeg l1) 154 ((8 * ((up2 S 154 ((8 * (S 148 7)) + 0).toNatClampNeg l1) 148 7)) + 1).toNatClampNeg ((up2 S 154 ((8 * (S 148 7)) + 0).toNatClampNeg l1) 150 ((4 * l1) + 0).toNatClampNeg)) 154 ((8 * ((up2 (up2 S 154 ((8 * (S 148 7)) + 0).toNatClampNeg l1) 154 ((8 * ((up2 S 154 ((8 * (S 148 7)) + 0).toNatClampNeg l1) 148 7)) + 1).toNatClampNeg ((up2 S 154 ((8 * (S 148 7)) + 0).toNatClampNeg l1) 150 ((4 * l1) + 0).toNatClampNeg)) 148 7)) + 2).toNatClampNeg ((up2 (up2 S 154 ((8 * (S 148 7)) + 0).toNatClampNeg l1) 154 ((8 * ((up2 S 154 ((8 * (S 148 7)) + 0).toNatClampNeg l1) 148 7)) + 1).toNatClampNeg ((up2 S 154 ((8 * (S 148 7)) + 0).toNatClampNeg l1) 150 ((4 * l1) + 0).toNatClampNeg)) 150 ((4 * l1) + 1).toNatClampNeg)) 154 ((8 * ((up2 (up2 (up2 S 154 ((8 * (S 148 7)) + 0).toNatClampNeg l1) 154 ((8 * ((up2 S 154 ((8 * (S 148 7)) + 0).toNatClampNeg l1) 148 7)) + 1).toNatClampNeg ((up2 S 154 ((8 * (S 148 7)) + 0).toNatClampNeg l1) 150 ((4 * l1) + 0).toNatClampNeg)) 154 ((8 * ((up2 (up2 S 154 ((8 * (S 148 7)) + 0).toNatClampNeg l1) 154 ((8 * ((up2 S 154 ((8 * (S 148 7)) + 0).toNatClampNeg l1) 148 7)) + 1).toNatClampNeg ((up2 S 154 ((8 * (S 148 7)) + 0).toNatClampNeg l1) 150 ((4 * l1) + 0).toNatClampNeg)) 148 7)) + 2).toNatClampNeg ((up2 (up2 S 154 ((8 * (S 148 7)) + 0).toNatClampNeg l1) 154 ((8 * ((up2 S 154 ((8 * (S 148 7)) + 0).toNatClampNeg l1) 148 7)) + 1).toNatClampNeg ((up2 S 154 ((8 * (S 148 7)) + 0).toNatClampNeg l1) 150 ((4 * l1) + 0).toNatClampNeg)) 150 ((4 * l1) + 1).toNatClampNeg)) 148 7)) + 3).toNatClampNeg ((up2 (up2 (up2 S 154 ((8 * (S 148 7)) + 0).toNatClampNeg l1) 154 ((8 * ((up2 S 154 ((8 * (S 148 7)) + 0).toNatClampNeg l1) 148 7)) + 1).toNatClampNeg ((up2 S 154 ((8 * (S 148 7)) + 0).toNatClampNeg l1) 150 ((4 * l1) + 0).toNatClampNeg)) 154 ((8 * ((up2 (up2 S 154 ((8 * (S 148 7)) + 0).toNatClampNeg l1) 154 ((8 * ((up2 S 154 ((8 * (S 148 7)) + 0).toNatClampNeg l1) 148 7)) + 1).toNatClampNeg ((up2 S 154 ((8 * (S 148 7)) + 0).toNatClampNeg l1) 150 ((4 * l1) + 0).toNatClampNeg)) 148 7)) + 2).toNatClampNeg ((up2 (up2 S 154 ((8 * (S 148 7)) + 0).toNatClampNeg l1) 154 ((8 * ((up2 S 154 ((8 * (S 148 7)) + 0).toNatClampNeg l1) 148 7)) + 1).toNatClampNeg ((up2 S 154 ((8 * (S 148 7)) + 0).toNatClampNeg l1) 150 ((4 * l1) + 0).toNatClampNeg)) 150 ((4 * l1) + 1).toNatClampNeg)) 150 ((4 * l1) + 2).toNatClampNeg)) 154 ((8 * ((up2 (up2 (up2 (up2 S 154 ((8 * (S 148 7)) + 0).toNatClampNeg l1) 154 ((8 * ((up2 S 154 ((8 * (S 148 7)) + 0).toNatClampNeg l1) 148 7)) + 1).toNatClampNeg ((up2 S 154 ((8 * (S 148 7)) + 0).toNatClampNeg l1) 150 ((4 * l1) + 0).toNatClampNeg)) 154 ((8 * ((up2 (up2 S 154 ((8 * (S 148 7)) + 0).toNatClampNeg l1) 154 ((8 * ((up2 S 154 ((8 * (S 148 7)) + 0).toNatClampNeg l1) 148 7)) + 1).toNatClampNeg ((up2 S 154 ((8 * (S 148 7)) + 0).toNatClampNeg l1) 150 ((4 * l1) + 0).toNatClampNeg)) 148 7)) + 2).toNatClampNeg ((up2 (up2 S 154 ((8 * (S 148 7)) + 0).toNatClampNeg l1) 154 ((8 * ((up2 S 154 ((8 * (S 148 7)) + 0).toNatClampNeg l1) 148 7)) + 1).toNatClampNeg ((up2 S 154 ((8 * (S 148 7)) + 0).toNatClampNeg l1) 150 ((4 * l1) + 0).toNatClampNeg)) 150 ((4 * l1) + 1).toNatClampNeg)) 154 ((8 * ((up2 (up2 (up2 S 154 ((8 * (S 148 7)) + 0).toNatClampNeg l1) 154 ((8 * ((up2 S 154 ((8 * (S 148 7)) + 0).toNatClampNeg l1) 148 7)) + 1).toNatClampNeg ((up2 S 154 ((8 * (S 148 7)) + 0).toNatClampNeg l1) 150 ((4 * l1) + 0).toNatClampNeg)) 154 ((8 * ((up2 (up2 S 154 ((8 * (S 148 7)) + 0).toNatClampNeg l1) 154 ((8 * ((up2 S 154 ((8 * (S 148 7)) + 0).toNatClampNeg l1) 148 7)) + 1).toNatClampNeg ((up2 S 154 ((8 * (S 148 7)) + 0).toNatClampNeg l1) 150 ((4 * l1) + 0).toNatClampNeg)) 148 7)) + 2).toNatClampNeg ((up2 (up2 S 154 ((8 * (S 148 7)) + 0).toNatClampNeg l1) 154 ((8 * ((up2 S 154 ((8 * (S 148 7)) + 0).toNatClampNeg l1) 148 7)) + 1).toNatClampNeg ((up2 S 154 ((8 * (S 148 7)) + 0).toNatClampNeg l1) 150 ((4 * l1) + 0).toNatClampNeg)) 150 ((4 * l1) + 1).toNatClampNeg)) 148 7)) + 3).toNatClampNeg ((up2 (up2 (up2 S 154 ((8 * (S 148 7)) + 0).toNatClampNeg l1) 154 ((8 * ((up2 S 154 ((8 * (S 148 7)) + 0).toNatClampNeg l1) 148 7)) + 1).toNatClampNeg ((up2 S 154 ((8 * (S 148 7)) + 0).toNatClampNeg l1) 150 ((4 * l1) + 0).toNatClampNeg)) 154 ((8 * ((up2 (up2 S 154 ((8 * (S 148 7)) + 0).toNatClampNeg l1) 154 ((8 * ((up2 S 154 ((8 * (S 148 7)) + 0).toNatClampNeg l1) 148 7)) + 1).toNatClampNeg ((up2 S 154 ((8 * (S 148 7)) + 0).toNatClampNeg l1) 150 ((4 * l1) + 0).toNatClampNeg)) 148 7)) + 2).toNatClampNeg ((up2 (up2 S 154 ((8 * (S 148 7)) + 0).toNatClampNeg l1) 154 ((8 * ((up2 S 154 ((8 * (S 148 7)) + 0).toNatClampNeg l1) 148 7)) + 1).toNatClampNeg ((up2 S 154 ((8 * (S 148 7)) + 0).toNatClampNeg l1) 150 ((4 * l1) + 0).toNatClampNeg)) 150 ((4 * l1) + 1).toNatClampNeg)) 150 ((4 * l1) + 2).toNatClampNeg)) 148 7)) + 4).toNatClampNeg ((S 150 ((4 * l1) + 3).toNatClampNeg) - (S 150 ((4 * l1) + 3).toNatClampNeg) / 128 * 128)) 148 7)) + 5).toNatClampNeg ((S 150 ((4 * l1) + 3).toNatClampNeg) / 128)) 154 ((8 * ((up2 (up2 (up2 (up2 (up2 (up2 S 154 ((8 * (S 148 7)) + 0).toNatClampNeg l1) 154 ((8 * ((up2 S 154 ((8 * (S 148 7)) + 0).toNatClampNeg l1) 148 7)) + 1).toNatClampNeg ((up2 S 154 ((8 * (S 148 7)) + 0).toNatClampNeg l1) 150 ((4 * l1) + 0).toNatClampNeg)) 154 ((8 * ((up2 (up2 S 154 ((8 * (S 148 7)) + 0).toNatClampNeg l1) 154 ((8 * ((up2 S 154 ((8 * (S 148 7)) + 0).toNatClampNeg l1) 148 7)) + 1).toNatClampNeg ((up2 S 154 ((8 * (S 148 7)) + 0).toNatClampNeg l1) 150 ((4 * l1) + 0).toNatClampNeg)) 148 7)) + 2).toNatClampNeg ((up2 (up2 S 154 ((8 * (S 148 7)) + 0).toNatClampNeg l1) 154 ((8 * ((up2 S 154 ((8 * (S 148 7)) + 0).toNatClampNeg l1) 148 7)) + 1).toNatClampNeg ((up2 S 154 ((8 * (S 148 7)) + 0).toNatClampNeg l1) 150 ((4 * l1) + 0).toNatClampNeg)) 150 ((4 * l1) + 1).toNatClampNeg)) 154 ((8 * ((up2 (up2 (up2 S 154 ((8 * (S 148 7)) + 0).toNatClampNeg l1) 154 ((8 * ((up2 S 154 ((8 * (S 148 7)) + 0).toNatClampNeg l1) 148 7)) + 1).toNatClampNeg ((up2 S 154 ((8 * (S 148 7)) + 0).toNatClampNeg l1) 150 ((4 * l1) + 0).toNatClampNeg)) 154 ((8 * ((up2 (up2 S 154 ((8 * (S 148 7)) + 0).toNatClampNeg l1) 154 ((8 * ((up2 S 154 ((8 * (S 148 7)) + 0).toNatClampNeg l1) 148 7)) + 1).toNatClampNeg ((up2 S 154 ((8 * (S 148 7)) + 0).toNatClampNeg l1) 150 ((4 * l1) + 0).toNatClampNeg)) 148 7)) + 2).toNatClampNeg ((up2 (up2 S 154 ((8 * (S 148 7)) + 0).toNatClampNeg l1) 154 ((8 * ((up2 S 154 ((8 * (S 148 7)) + 0).toNatClampNeg l1) 148 7)) + 1).toNatClampNeg ((up2 S 154 ((8 * (S 148 7)) + 0).toNatClampNeg l1) 150 ((4 * l1) + 0).toNatClampNeg)) 150 ((4 * l1) + 1).toNatClampNeg)) 148 7)) + 3).toNatClampNeg ((up2 (up2 (up2 S 154 ((8 * (S 148 7)) + 0).toNatClampNeg l1) 154 ((8 * ((up2 S 154 ((8 * (S 148 7)) + 0).toNatClampNeg l1) 148 7)) + 1).toNatClampNeg ((up2 S 154 ((8 * (S 148 7)) + 0).toNatClampNeg l1) 150 ((4 * l1) + 0).toNatClampNeg)) 154 ((8 * ((up2 (up2 S 154 ((8 * (S 148 7)) + 0).toNatClampNeg l1) 154 ((8 * ((up2 S 154 ((8 * (S 148 7)) + 0).toNatClampNeg l1) 148 7)) + 1).toNatClampNeg ((up2 S 154 ((8 * (S 148 7)) + 0).toNatClampNeg l1) 150 ((4 * l1) + 0).toNatClampNeg)) 148 7)) + 2).toNatClampNeg ((up2 (up2 S 154 ((8 * (S 148 7)) + 0).toNatClampNeg l1) 154 ((8 * ((up2 S 154 ((8 * (S 148 7)) + 0).toNatClampNeg l1) 148 7)) + 1).toNatClampNeg ((up2 S 154 ((8 * (S 148 7)) + 0).toNatClampNeg l1) 150 ((4 * l1) + 0).toNatClampNeg)) 150 ((4 * l1) + 1).toNatClampNeg)) 150 ((4 * l1) + 2).toNatClampNeg)) 154 ((8 * ((up2 (up2 (up2 (up2 S 154 ((8 * (S 148 7)) + 0).toNatClampNeg l1) 154 ((8 * ((up2 S 154 ((8 * (S 148 7)) + 0).toNatClampNeg l1) 148 7)) + 1).toNatClampNeg ((up2 S 154 ((8 * (S 148 7)) + 0).toNatClampNeg l1) 150 ((4 * l1) + 0).toNatClampNeg)) 154 ((8 * ((up2 (up2 S 154 ((8 * (S 148 7)) + 0).toNatClampNeg l1) 154 ((8 * ((up2 S 154 ((8 * (S 148 7)) + 0).toNatClampNeg l1) 148 7)) + 1).toNatClampNeg ((up2 S 154 ((8 * (S 148 7)) + 0).toNatClampNeg l1) 150 ((4 * l1) + 0).toNatClampNeg)) 148 7)) + 2).toNatClampNeg ((up2 (up2 S 154 ((8 * (S 148 7)) + 0).toNatClampNeg l1) 154 ((8 * ((up2 S 154 ((8 * (S 148 7)) + 0).toNatClampNeg l1) 148 7)) + 1).toNatClampNeg ((up2 S 154 ((8 * (S 148 7)) + 0).toNatClampNeg l1) 150 ((4 * l1) + 0).toNatClampNeg)) 150 ((4 * l1) + 1).toNatClampNeg)) 154 ((8 * ((up2 (up2 (up2 S 154 ((8 * (S 148 7)) + 0).toNatClampNeg l1) 154 ((8 * ((up2 S 154 ((8 * (S 148 7)) + 0).toNatClampNeg l1) 148 7)) + 1).toNatClampNeg ((up2 S 154 ((8 * (S 148 7)) + 0).toNatClampNeg l1) 150 ((4 * l1) + 0).toNatClampNeg)) 154 ((8 * ((up2 (up2 S 154 ((8 * (S 148 7)) + 0).toNatClampNeg l1) 154 ((8 * ((up2 S 154 ((8 * (S 148 7)) + 0).toNatClampNeg l1) 148 7)) + 1).toNatClampNeg ((up2 S 154 ((8 * (S 148 7)) + 0).toNatClampNeg l1) 150 ((4 * l1) + 0).toNatClampNeg)) 148 7)) + 2).toNatClampNeg ((up2 (up2 S 154 ((8 * (S 148 7)) + 0).toNatClampNeg l1) 154 ((8 * ((up2 S 154 ((8 * (S 148 7)) + 0).toNatClampNeg l1) 148 7)) + 1).toNatClampNeg ((up2 S 154 ((8 * (S 148 7)) + 0).toNatClampNeg l1) 150 ((4 * l1) + 0).toNatClampNeg)) 150 ((4 * l1) + 1).toNatClampNeg)) 148 7)) + 3).toNatClampNeg ((up2 (up2 (up2 S 154 ((8 * (S 148 7)) + 0).toNatClampNeg l1) 154 ((8 * ((up2 S 154 ((8 * (S 148 7)) + 0).toNatClampNeg l1) 148 7)) + 1).toNatClampNeg ((up2 S 154 ((8 * (S 148 7)) + 0).toNatClampNeg l1) 150 ((4 * l1) + 0).toNatClampNeg)) 154 ((8 * ((up2 (up2 S 154 ((8 * (S 148 7)) + 0).toNatClampNeg l1) 154 ((8 * ((up2 S 154 ((8 * (S 148 7)) + 0).toNatClampNeg l1) 148 7)) + 1).toNatClampNeg ((up2 S 154 ((8 * (S 148 7)) + 0).toNatClampNeg l1) 150 ((4 * l1) + 0).toNatClampNeg)) 148 7)) + 2).toNatClampNeg ((up2 (up2 S 154 ((8 * (S 148 7)) + 0).toNatClampNeg l1) 154 ((8 * ((up2 S 154 ((8 * (S 148 7)) + 0).toNatClampNeg l1) 148 7)) + 1).toNatClampNeg ((up2 S 154 ((8 * (S 148 7)) + 0).toNatClampNeg l1) 150 ((4 * l1) + 0).toNatClampNeg)) 150 ((4 * l1) + 1).toNatClampNeg)) 150 ((4 * l1) + 2).toNatClampNeg)) 148 7)) + 4).toNatClampNeg ((S 150 ((4 * l1) + 3).toNatClampNeg) - (S 150 ((4 * l1) + 3).toNatClampNeg) / 128 * 128)) 154 ((8 * ((up2 (up2 (up2 (up2 (up2 S 154 ((8 * (S 148 7)) + 0).toNatClampNeg l1) 154 ((8 * ((up2 S 154 ((8 * (S 148 7)) + 0).toNatClampNeg l1) 148 7)) + 1).toNatClampNeg ((up2 S 154 ((8 * (S 148 7)) + 0).toNatClampNeg l1) 150 ((4 * l1) + 0).toNatClampNeg)) 154 ((8 * ((up2 (up2 S 154 ((8 * (S 148 7)) + 0).toNatClampNeg l1) 154 ((8 * ((up2 S 154 ((8 * (S 148 7)) + 0).toNatClampNeg l1) 148 7)) + 1).toNatClampNeg ((up2 S 154 ((8 * (S 148 7)) + 0).toNatClampNeg l1) 150 ((4 * l1) + 0).toNatClampNeg)) 148 7)) + 2).toNatClampNeg ((up2 (up2 S 154 ((8 * (S 148 7)) + 0).toNatClampNeg l1) 154 ((8 * ((up2 S 154 ((8 * (S 148 7)) + 0).toNatClampNeg l1) 148 7)) + 1).toNatClampNeg ((up2 S 154 ((8 * (S 148 7)) + 0).toNatClampNeg l1) 150 ((4 * l1) + 0).toNatClampNeg)) 150 ((4 * l1) + 1).toNatClampNeg)) 154 ((8 * ((up2 (up2 (up2 S 154 ((8 * (S 148 7)) + 0).toNatClampNeg l1) 154 ((8 * ((up2 S 154 ((8 * (S 148 7)) + 0).toNatClampNeg l1) 148 7)) + 1).toNatClampNeg ((up2 S 154 ((8 * (S 148 7)) + 0).toNatClampNeg l1) 150 ((4 * l1) + 0).toNatClampNeg)) 154 ((8 * ((up2 (up2 S 154 ((8 * (S 148 7)) + 0).toNatClampNeg l1) 154 ((8 * ((up2 S 154 ((8 * (S 148 7)) + 0).toNatClampNeg l1) 148 7)) + 1).toNatClampNeg ((up2 S 154 ((8 * (S 148 7)) + 0).toNatClampNeg l1) 150 ((4 * l1) + 0).toNatClampNeg)) 148 7)) + 2).toNatClampNeg ((up2 (up2 S 154 ((8 * (S 148 7)) + 0).toNatClampNeg l1) 154 ((8 * ((up2 S 154 ((8 * (S 148 7)) + 0).toNatClampNeg l1) 148 7)) + 1).toNatClampNeg ((up2 S 154 ((8 * (S 148 7)) + 0).toNatClampNeg l1) 150 ((4 * l1) + 0).toNatClampNeg)) 150 ((4 * l1) + 1).toNatClampNeg)) 148 7)) + 3).toNatClampNeg ((up2 (up2 (up2 S 154 ((8 * (S 148 7)) + 0).toNatClampNeg l1) 154 ((8 * ((up2 S 154 ((8 * (S 148 7)) + 0).toNatClampNeg l1) 148 7)) + 1).toNatClampNeg ((up2 S 154 ((8 * (S 148 7)) + 0).toNatClampNeg l1) 150 ((4 * l1) + 0).toNatClampNeg)) 154 ((8 * ((up2 (up2 S 154 ((8 * (S 148 7)) + 0).toNatClampNeg l1) 154 ((8 * ((up2 S 154 ((8 * (S 148 7)) + 0).toNatClampNeg l1) 148 7)) + 1).toNatClampNeg ((up2 S 154 ((8 * (S 148 7)) + 0).toNatClampNeg l1) 150 ((4 * l1) + 0).toNatClampNeg)) 148 7)) + 2).toNatClampNeg ((up2 (up2 S 154 ((8 * (S 148 7)) + 0).toNatClampNeg l1) 154 ((8 * ((up2 S 154 ((8 * (S 148 7)) + 0).toNatClampNeg l1) 148 7)) + 1).toNatClampNeg ((up2 S 154 ((8 * (S 148 7)) + 0).toNatClampNeg l1) 150 ((4 * l1) + 0).toNatClampNeg)) 150 ((4 * l1) + 1).toNatClampNeg)) 150 ((4 * l1) + 2).toNatClampNeg)) 154 ((8 * ((up2 (up2 (up2 (up2 S 154 ((8 * (S 148 7)) + 0).toNatClampNeg l1) 154 ((8 * ((up2 S 154 ((8 * (S 148 7)) + 0).toNatClampNeg l1) 148 7)) + 1).toNatClampNeg ((up2 S 154 ((8 * (S 148 7)) + 0).toNatClampNeg l1) 150 ((4 * l1) + 0).toNatClampNeg)) 154 ((8 * ((up2 (up2 S 154 ((8 * (S 148 7)) + 0).toNatClampNeg l1) 154 ((8 * ((up2 S 154 ((8 * (S 148 7)) + 0).toNatClampNeg l1) 148 7)) + 1).toNatClampNeg ((up2 S 154 ((8 * (S 148 7)) + 0).toNatClampNeg l1) 150 ((4 * l1) + 0).toNatClampNeg)) 148 7)) + 2).toNatClampNeg ((up2 (up2 S 154 ((8 * (S 148 7)) + 0).toNatClampNeg l1) 154 ((8 * ((up2 S 154 ((8 * (S 148 7)) + 0).toNatClampNeg l1) 148 7)) + 1).toNatClampNeg ((up2 S 154 ((8 * (S 148 7)) + 0).toNatClampNeg l1) 150 ((4 * l1) + 0).toNatClampNeg)) 150 ((4 * l1) + 1).toNatClampNeg)) 154 ((8 * ((up2 (up2 (up2 S 154 ((8 * (S 148 7)) + 0).toNatClampNeg l1) 154 ((8 * ((up2 S 154 ((8 * (S 148 7)) + 0).toNatClampNeg l1) 148 7)) + 1).toNatClampNeg ((up2 S 154 ((8 * (S 148 7)) + 0).toNatClampNeg l1) 150 ((4 * l1) + 0).toNatClampNeg)) 154 ((8 * ((up2 (up2 S 154 ((8 * (S 148 7)) + 0).toNatClampNeg l1) 154 ((8 * ((up2 S 154 ((8 * (S 148 7)) + 0).toNatClampNeg l1) 148 7)) + 1).toNatClampNeg ((up2 S 154 ((8 * (S 148 7)) + 0).toNatClampNeg l1) 150 ((4 * l1) + 0).toNatClampNeg)) 148 7)) + 2).toNatClampNeg ((up2 (up2 S 154 ((8 * (S 148 7)) + 0).toNatClampNeg l1) 154 ((8 * ((up2 S 154 ((8 * (S 148 7)) + 0).toNatClampNeg l1) 148 7)) + 1).toNatClampNeg ((up2 S 154 ((8 * (S 148 7)) + 0).toNatClampNeg l1) 150 ((4 * l1) + 0).toNatClampNeg)) 150 ((4 * l1) + 1).toNatClampNeg)) 148 7)) + 3).toNatClampNeg ((up2 (up2 (up2 S 154 ((8 * (S 148 7)) + 0).toNatClampNeg l1) 154 ((8 * ((up2 S 154 ((8 * (S 148 7)) + 0).toNatClampNeg l1) 148 7)) + 1).toNatClampNeg ((up2 S 154 ((8 * (S 148 7)) + 0).toNatClampNeg l1) 150 ((4 * l1) + 0).toNatClampNeg)) 154 ((8 * ((up2 (up2 S 154 ((8 * (S 148 7)) + 0).toNatClampNeg l1) 154 ((8 * ((up2 S 154 ((8 * (S 148 7)) + 0).toNatClampNeg l1) 148 7)) + 1).toNatClampNeg ((up2 S 154 ((8 * (S 148 7)) + 0).toNatClampNeg l1) 150 ((4 * l1) + 0).toNatClampNeg)) 148 7)) + 2).toNatClampNeg ((up2 (up2 S 154 ((8 * (S 148 7)) + 0).toNatClampNeg l1) 154 ((8 * ((up2 S 154 ((8 * (S 148 7)) + 0).toNatClampNeg l1) 148 7)) + 1).toNatClampNeg ((up2 S 154 ((8 * (S 148 7)) + 0).toNatClampNeg l1) 150 ((4 * l1) + 0).toNatClampNeg)) 150 ((4 * l1) + 1).toNatClampNeg)) 150 ((4 * l1) + 2).toNatClampNeg)) 148 7)) + 4).toNatClampNeg ((S 150 ((4 * l1) + 3).toNatClampNeg) - (S 150 ((4 * l1) + 3).toNatClampNeg) / 128 * 128)) 148 7)) + 5).toNatClampNeg ((S 150 ((4 * l1) + 3).toNatClampNeg) / 128)) 148 7)) + 6).toNatClampNeg 0) 148 7)) + 7).toNatClampNeg (-1)) = S') [.int ((up2 (up2 (up2 (up2 (up2 (up2 (up2 S 154 ((8 * (S 148 7)) + 0).toNatClampNeg l1) 154 ((8 * ((up2 S 154 ((8 * (S 148 7)) + 0).toNatClampNeg l1) 148 7)) + 1).toNatClampNeg ((up2 S 154 ((8 * (S 148 7)) + 0).toNatClampNeg l1) 150 ((4 * l1) + 0).toNatClampNeg)) 154 ((8 * ((up2 (up2 S 154 ((8 * (S 148 7)) + 0).toNatClampNeg l1) 154 ((8 * ((up2 S 154 ((8 * (S 148 7)) + 0).toNatClampNeg l1) 148 7)) + 1).toNatClampNeg ((up2 S 154 ((8 * (S 148 7)) + 0).toNatClampNeg l1) 150 ((4 * l1) + 0).toNatClampNeg)) 148 7)) + 2).toNatClampNeg ((up2 (up2 S 154 ((8 * (S 148 7)) + 0).toNatClampNeg l1) 154 ((8 * ((up2 S 154 ((8 * (S 148 7)) + 0).toNatClampNeg l1) 148 7)) + 1).toNatClampNeg ((up2 S 154 ((8 * (S 148 7)) + 0).toNatClampNeg l1) 150 ((4 * l1) + 0).toNatClampNeg)) 150 ((4 * l1) + 1).toNatClampNeg)) 154 ((8 * ((up2 (up2 (up2 S 154 ((8 * (S 148 7)) + 0).toNatClampNeg l1) 154 ((8 * ((up2 S 154 ((8 * (S 148 7)) + 0).toNatClampNeg l1) 148 7)) + 1).toNatClampNeg ((up2 S 154 ((8 * (S 148 7)) + 0).toNatClampNeg l1) 150 ((4 * l1) + 0).toNatClampNeg)) 154 ((8 * ((up2 (up2 S 154 ((8 * (S 148 7)) + 0).toNatClampNeg l1) 154 ((8 * ((up2 S 154 ((8 * (S 148 7)) + 0).toNatClampNeg l1) 148 7)) + 1).toNatClampNeg ((up2 S 154 ((8 * (S 148 7)) + 0).toNatClampNeg l1) 150 ((4 * l1) + 0).toNatClampNeg)) 148 7)) + 2).toNatClampNeg ((up2 (up2 S 154 ((8 * (S 148 7)) + 0).toNatClampNeg l1) 154 ((8 * ((up2 S 154 ((8 * (S 148 7)) + 0).toNatClampNeg l1) 148 7)) + 1).toNatClampNeg ((up2 S 154 ((8 * (S 148 7)) + 0).toNatClampNeg l1) 150 ((4 * l1) + 0).toNatClampNeg)) 150 ((4 * l1) + 1).toNatClampNeg)) 148 7)) + 3).toNatClampNeg ((up2 (up2 (up2 S 154 ((8 * (S 148 7)) + 0).toNatClampNeg l1) 154 ((8 * ((up2 S 154 ((8 * (S 148 7)) + 0).toNatClampNeg l1) 148 7)) + 1).toNatClampNeg ((up2 S 154 ((8 * (S 148 7)) + 0).toNatClampNeg l1) 150 ((4 * l1) + 0).toNatClampNeg)) 154 ((8 * ((up2 (up2 S 154 ((8 * (S 148 7)) + 0).toNatClampNeg l1) 154 ((8 * ((up2 S 154 ((8 * (S 148 7)) + 0).toNatClampNeg l1) 148 7)) + 1).toNatClampNeg ((up2 S 154 ((8 * (S 148 7)) + 0).toNatClampNeg l1) 150 ((4 * l1) + 0).toNatClampNeg)) 148 7)) + 2).toNatClampNeg ((up2 (up2 S 154 ((8 * (S 148 7)) + 0).toNatClampNeg l1) 154 ((8 * ((up2 S 154 ((8 * (S 148 7)) + 0).toNatClampNeg l1) 148 7)) + 1).toNatClampNeg ((up2 S 154 ((8 * (S 148 7)) + 0).toNatClampNeg l1) 150 ((4 * l1) + 0).toNatClampNeg)) 150 ((4 * l1) + 1).toNatClampNeg)) 150 ((4 * l1) + 2).toNatClampNeg)) 154 ((8 * ((up2 (up2 (up2 (up2 S 154 ((8 * (S 148 7)) + 0).toNatClampNeg l1) 154 ((8 * ((up2 S 154 ((8 * (S 148 7)) + 0).toNatClampNeg l1) 148 7)) + 1).toNatClampNeg ((up2 S 154 ((8 * (S 148 7)) + 0).toNatClampNeg l1) 150 ((4 * l1) + 0).toNatClampNeg)) 154 ((8 * ((up2 (up2 S 154 ((8 * (S 148 7)) + 0).toNatClampNeg l1) 154 ((8 * ((up2 S 154 ((8 * (S 148 7)) + 0).toNatClampNeg l1) 148 7)) + 1).toNatClampNeg ((up2 S 154 ((8 * (S 148 7)) + 0).toNatClampNeg l1) 150 ((4 * l1) + 0).toNatClampNeg)) 148 7)) + 2).toNatClampNeg ((up2 (up2 S 154 ((8 * (S 148 7)) + 0).toNatClampNeg l1) 154 ((8 * ((up2 S 154 ((8 * (S 148 7)) + 0).toNatClampNeg l1) 148 7)) + 1).toNatClampNeg ((up2 S 154 ((8 * (S 148 7)) + 0).toNatClampNeg l1) 150 ((4 * l1) + 0).toNatClampNeg)) 150 ((4 * l1) + 1).toNatClampNeg)) 154 ((8 * ((up2 (up2 (up2 S 154 ((8 * (S 148 7)) + 0).toNatClampNeg l1) 154 ((8 * ((up2 S 154 ((8 * (S 148 7)) + 0).toNatClampNeg l1) 148 7)) + 1).toNatClampNeg ((up2 S 154 ((8 * (S 148 7)) + 0).toNatClampNeg l1) 150 ((4 * l1) + 0).toNatClampNeg)) 154 ((8 * ((up2 (up2 S 154 ((8 * (S 148 7)) + 0).toNatClampNeg l1) 154 ((8 * ((up2 S 154 ((8 * (S 148 7)) + 0).toNatClampNeg l1) 148 7)) + 1).toNatClampNeg ((up2 S 154 ((8 * (S 148 7)) + 0).toNatClampNeg l1) 150 ((4 * l1) + 0).toNatClampNeg)) 148 7)) + 2).toNatClampNeg ((up2 (up2 S 154 ((8 * (S 148 7)) + 0).toNatClampNeg l1) 154 ((8 * ((up2 S 154 ((8 * (S 148 7)) + 0).toNatClampNeg l1) 148 7)) + 1).toNatClampNeg ((up2 S 154 ((8 * (S 148 7)) + 0).toNatClampNeg l1) 150 ((4 * l1) + 0).toNatClampNeg)) 150 ((4 * l1) + 1).toNatClampNeg)) 148 7)) + 3).toNatClampNeg ((up2 (up2 (up2 S 154 ((8 * (S 148 7)) + 0).toNatClampNeg l1) 154 ((8 * ((up2 S 154 ((8 * (S 148 7)) + 0).toNatClampNeg l1) 148 7)) + 1).toNatClampNeg ((up2 S 154 ((8 * (S 148 7)) + 0).toNatClampNeg l1) 150 ((4 * l1) + 0).toNatClampNeg)) 154 ((8 * ((up2 (up2 S 154 ((8 * (S 148 7)) + 0).toNatClampNeg l1) 154 ((8 * ((up2 S 154 ((8 * (S 148 7)) + 0).toNatClampNeg l1) 148 7)) + 1).toNatClampNeg ((up2 S 154 ((8 * (S 148 7)) + 0).toNatClampNeg l1) 150 ((4 * l1) + 0).toNatClampNeg)) 148 7)) + 2).toNatClampNeg ((up2 (up2 S 154 ((8 * (S 148 7)) + 0).toNatClampNeg l1) 154 ((8 * ((up2 S 154 ((8 * (S 148 7)) + 0).toNatClampNeg l1) 148 7)) + 1).toNatClampNeg ((up2 S 154 ((8 * (S 148 7)) + 0).toNatClampNeg l1) 150 ((4 * l1) + 0).toNatClampNeg)) 150 ((4 * l1) + 1).toNatClampNeg)) 150 ((4 * l1) + 2).toNatClampNeg)) 148 7)) + 4).toNatClampNeg ((S 150 ((4 * l1) + 3).toNatClampNeg) - (S 150 ((4 * l1) + 3).toNatClampNeg) / 128 * 128)) 154 ((8 * ((up2 (up2 (up2 (up2 (up2 S 154 ((8 * (S 148 7)) + 0).toNatClampNeg l1) 154 ((8 * ((up2 S 154 ((8 * (S 148 7)) + 0).toNatClampNeg l1) 148 7)) + 1).toNatClampNeg ((up2 S 154 ((8 * (S 148 7)) + 0).toNatClampNeg l1) 150 ((4 * l1) + 0).toNatClampNeg)) 154 ((8 * ((up2 (up2 S 154 ((8 * (S 148 7)) + 0).toNatClampNeg l1) 154 ((8 * ((up2 S 154 ((8 * (S 148 7)) + 0).toNatClampNeg l1) 148 7)) + 1).toNatClampNeg ((up2 S 154 ((8 * (S 148 7)) + 0).toNatClampNeg l1) 150 ((4 * l1) + 0).toNatClampNeg)) 148 7)) + 2).toNatClampNeg ((up2 (up2 S 154 ((8 * (S 148 7)) + 0).toNatClampNeg l1) 154 ((8 * ((up2 S 154 ((8 * (S 148 7)) + 0).toNatClampNeg l1) 148 7)) + 1).toNatClampNeg ((up2 S 154 ((8 * (S 148 7)) + 0).toNatClampNeg l1) 150 ((4 * l1) + 0).toNatClampNeg)) 150 ((4 * l1) + 1).toNatClampNeg)) 154 ((8 * ((up2 (up2 (up2 S 154 ((8 * (S 148 7)) + 0).toNatClampNeg l1) 154 ((8 * ((up2 S 154 ((8 * (S 148 7)) + 0).toNatClampNeg l1) 148 7)) + 1).toNatClampNeg ((up2 S 154 ((8 * (S 148 7)) + 0).toNatClampNeg l1) 150 ((4 * l1) + 0).toNatClampNeg)) 154 ((8 * ((up2 (up2 S 154 ((8 * (S 148 7)) + 0).toNatClampNeg l1) 154 ((8 * ((up2 S 154 ((8 * (S 148 7)) + 0).toNatClampNeg l1) 148 7)) + 1).toNatClampNeg ((up2 S 154 ((8 * (S 148 7)) + 0).toNatClampNeg l1) 150 ((4 * l1) + 0).toNatClampNeg)) 148 7)) + 2).toNatClampNeg ((up2 (up2 S 154 ((8 * (S 148 7)) + 0).toNatClampNeg l1) 154 ((8 * ((up2 S 154 ((8 * (S 148 7)) + 0).toNatClampNeg l1) 148 7)) + 1).toNatClampNeg ((up2 S 154 ((8 * (S 148 7)) + 0).toNatClampNeg l1) 150 ((4 * l1) + 0).toNatClampNeg)) 150 ((4 * l1) + 1).toNatClampNeg)) 148 7)) + 3).toNatClampNeg ((up2 (up2 (up2 S 154 ((8 * (S 148 7)) + 0).toNatClampNeg l1) 154 ((8 * ((up2 S 154 ((8 * (S 148 7)) + 0).toNatClampNeg l1) 148 7)) + 1).toNatClampNeg ((up2 S 154 ((8 * (S 148 7)) + 0).toNatClampNeg l1) 150 ((4 * l1) + 0).toNatClampNeg)) 154 ((8 * ((up2 (up2 S 154 ((8 * (S 148 7)) + 0).toNatClampNeg l1) 154 ((8 * ((up2 S 154 ((8 * (S 148 7)) + 0).toNatClampNeg l1) 148 7)) + 1).toNatClampNeg ((up2 S 154 ((8 * (S 148 7)) + 0).toNatClampNeg l1) 150 ((4 * l1) + 0).toNatClampNeg)) 148 7)) + 2).toNatClampNeg ((up2 (up2 S 154 ((8 * (S 148 7)) + 0).toNatClampNeg l1) 154 ((8 * ((up2 S 154 ((8 * (S 148 7)) + 0).toNatClampNeg l1) 148 7)) + 1).toNatClampNeg ((up2 S 154 ((8 * (S 148 7)) + 0).toNatClampNeg l1) 150 ((4 * l1) + 0).toNatClampNeg)) 150 ((4 * l1) + 1).toNatClampNeg)) 150 ((4 * l1) + 2).toNatClampNeg)) 154 ((8 * ((up2 (up2 (up2 (up2 S 154 ((8 * (S 148 7)) + 0).toNatClampNeg l1) 154 ((8 * ((up2 S 154 ((8 * (S 148 7)) + 0).toNatClampNeg l1) 148 7)) + 1).toNatClampNeg ((up2 S 154 ((8 * (S 148 7)) + 0).toNatClampNeg l1) 150 ((4 * l1) + 0).toNatClampNeg)) 154 ((8 * ((up2 (up2 S 154 ((8 * (S 148 7)) + 0).toNatClampNeg l1) 154 ((8 * ((up2 S 154 ((8 * (S 148 7)) + 0).toNatClampNeg l1) 148 7)) + 1).toNatClampNeg ((up2 S 154 ((8 * (S 148 7)) + 0).toNatClampNeg l1) 150 ((4 * l1) + 0).toNatClampNeg)) 148 7)) + 2).toNatClampNeg ((up2 (up2 S 154 ((8 * (S 148 7)) + 0).toNatClampNeg l1) 154 ((8 * ((up2 S 154 ((8 * (S 148 7)) + 0).toNatClampNeg l1) 148 7)) + 1).toNatClampNeg ((up2 S 154 ((8 * (S 148 7)) + 0).toNatClampNeg l1) 150 ((4 * l1) + 0).toNatClampNeg)) 150 ((4 * l1) + 1).toNatClampNeg)) 154 ((8 * ((up2 (up2 (up2 S 154 ((8 * (S 148 7)) + 0).toNatClampNeg l1) 154 ((8 * ((up2 S 154 ((8 * (S 148 7)) + 0).toNatClampNeg l1) 148 7)) + 1).toNatClampNeg ((up2 S 154 ((8 * (S 148 7)) + 0).toNatClampNeg l1) 150 ((4 * l1) + 0).toNatClampNeg)) 154 ((8 * ((up2 (up2 S 154 ((8 * (S 148 7)) + 0).toNatClampNeg l1) 154 ((8 * ((up2 S 154 ((8 * (S 148 7)) + 0).toNatClampNeg l1) 148 7)) + 1).toNatClampNeg ((up2 S 154 ((8 * (S 148 7)) + 0).toNatClampNeg l1) 150 ((4 * l1) + 0).toNatClampNeg)) 148 7)) + 2).toNatClampNeg ((up2 (up2 S 154 ((8 * (S 148 7)) + 0).toNatClampNeg l1) 154 ((8 * ((up2 S 154 ((8 * (S 148 7)) + 0).toNatClampNeg l1) 148 7)) + 1).toNatClampNeg ((up2 S 154 ((8 * (S 148 7)) + 0).toNatClampNeg l1) 150 ((4 * l1) + 0).toNatClampNeg)) 150 ((4 * l1) + 1).toNatClampNeg)) 148 7)) + 3).toNatClampNeg ((up2 (up2 (up2 S 154 ((8 * (S 148 7)) + 0).toNatClampNeg l1) 154 ((8 * ((up2 S 154 ((8 * (S 148 7)) + 0).toNatClampNeg l1) 148 7)) + 1).toNatClampNeg ((up2 S 154 ((8 * (S 148 7)) + 0).toNatClampNeg l1) 150 ((4 * l1) + 0).toNatClampNeg)) 154 ((8 * ((up2 (up2 S 154 ((8 * (S 148 7)) + 0).toNatClampNeg l1) 154 ((8 * ((up2 S 154 ((8 * (S 148 7)) + 0).toNatClampNeg l1) 148 7)) + 1).toNatClampNeg ((up2 S 154 ((8 * (S 148 7)) + 0).toNatClampNeg l1) 150 ((4 * l1) + 0).toNatClampNeg)) 148 7)) + 2).toNatClampNeg ((up2 (up2 S 154 ((8 * (S 148 7)) + 0).toNatClampNeg l1) 154 ((8 * ((up2 S 154 ((8 * (S 148 7)) + 0).toNatClampNeg l1) 148 7)) + 1).toNatClampNeg ((up2 S 154 ((8 * (S 148 7)) + 0).toNatClampNeg l1) 150 ((4 * l1) + 0).toNatClampNeg)) 150 ((4 * l1) + 1).toNatClampNeg)) 150 ((4 * l1) + 2).toNatClampNeg)) 148 7)) + 4).toNatClampNeg ((S 150 ((4 * l1) + 3).toNatClampNeg) - (S 150 ((4 * l1) + 3).toNatClampNeg) / 128 * 128)) 148 7)) + 5).toNatClampNeg ((S 150 ((4 * l1) + 3).toNatClampNeg) / 128)) 154 ((8 * ((up2 (up2 (up2 (up2 (up2 (up2 S 154 ((8 * (S 148 7)) + 0).toNatClampNeg l1) 154 ((8 * ((up2 S 154 ((8 * (S 148 7)) + 0).toNatClampNeg l1) 148 7)) + 1).toNatClampNeg ((up2 S 154 ((8 * (S 148 7)) + 0).toNatClampNeg l1) 150 ((4 * l1) + 0).toNatClampNeg)) 154 ((8 * ((up2 (up2 S 154 ((8 * (S 148 7)) + 0).toNatClampNeg l1) 154 ((8 * ((up2 S 154 ((8 * (S 148 7)) + 0).toNatClampNeg l1) 148 7)) + 1).toNatClampNeg ((up2 S 154 ((8 * (S 148 7)) + 0).toNatClampNeg l1) 150 ((4 * l1) + 0).toNatClampNeg)) 148 7)) + 2).toNatClampNeg ((up2 (up2 S 154 ((8 * (S 148 7)) + 0).toNatClampNeg l1) 154 ((8 * ((up2 S 154 ((8 * (S 148 7)) + 0).toNatClampNeg l1) 148 7)) + 1).toNatClampNeg ((up2 S 154 ((8 * (S 148 7)) + 0).toNatClampNeg l1) 150 ((4 * l1) + 0).toNatClampNeg)) 150 ((4 * l1) + 1).toNatClampNeg)) 154 ((8 * ((up2 (up2 (up2 S 154 ((8 * (S 148 7)) + 0).toNatClampNeg l1) 154 ((8 * ((up2 S 154 ((8 * (S 148 7)) + 0).toNatClampNeg l1) 148 7)) + 1).toNatClampNeg ((up2 S 154 ((8 * (S 148 7)) + 0).toNatClampNeg l1) 150 ((4 * l1) + 0).toNatClampNeg)) 154 ((8 * ((up2 (up2 S 154 ((8 * (S 148 7)) + 0).toNatClampNeg l1) 154 ((8 * ((up2 S 154 ((8 * (S 148 7)) + 0).toNatClampNeg l1) 148 7)) + 1).toNatClampNeg ((up2 S 154 ((8 * (S 148 7)) + 0).toNatClampNeg l1) 150 ((4 * l1) + 0).toNatClampNeg)) 148 7)) + 2).toNatClampNeg ((up2 (up2 S 154 ((8 * (S 148 7)) + 0).toNatClampNeg l1) 154 ((8 * ((up2 S 154 ((8 * (S 148 7)) + 0).toNatClampNeg l1) 148 7)) + 1).toNatClampNeg ((up2 S 154 ((8 * (S 148 7)) + 0).toNatClampNeg l1) 150 ((4 * l1) + 0).toNatClampNeg)) 150 ((4 * l1) + 1).toNatClampNeg)) 148 7)) + 3).toNatClampNeg ((up2 (up2 (up2 S 154 ((8 * (S 148 7)) + 0).toNatClampNeg l1) 154 ((8 * ((up2 S 154 ((8 * (S 148 7)) + 0).toNatClampNeg l1) 148 7)) + 1).toNatClampNeg ((up2 S 154 ((8 * (S 148 7)) + 0).toNatClampNeg l1) 150 ((4 * l1) + 0).toNatClampNeg)) 154 ((8 * ((up2 (up2 S 154 ((8 * (S 148 7)) + 0).toNatClampNeg l1) 154 ((8 * ((up2 S 154 ((8 * (S 148 7)) + 0).toNatClampNeg l1) 148 7)) + 1).toNatClampNeg ((up2 S 154 ((8 * (S 148 7)) + 0).toNatClampNeg l1) 150 ((4 * l1) + 0).toNatClampNeg)) 148 7)) + 2).toNatClampNeg ((up2 (up2 S 154 ((8 * (S 148 7)) + 0).toNatClampNeg l1) 154 ((8 * ((up2 S 154 ((8 * (S 148 7)) + 0).toNatClampNeg l1) 148 7)) + 1).toNatClampNeg ((up2 S 154 ((8 * (S 148 7)) + 0).toNatClampNeg l1) 150 ((4 * l1) + 0).toNatClampNeg)) 150 ((4 * l1) + 1).toNatClampNeg)) 150 ((4 * l1) + 2).toNatClampNeg)) 154 ((8 * ((up2 (up2 (up2 (up2 S 154 ((8 * (S 148 7)) + 0).toNatClampNeg l1) 154 ((8 * ((up2 S 154 ((8 * (S 148 7)) + 0).toNatClampNeg l1) 148 7)) + 1).toNatClampNeg ((up2 S 154 ((8 * (S 148 7)) + 0).toNatClampNeg l1) 150 ((4 * l1) + 0).toNatClampNeg)) 154 ((8 * ((up2 (up2 S 154 ((8 * (S 148 7)) + 0).toNatClampNeg l1) 154 ((8 * ((up2 S 154 ((8 * (S 148 7)) + 0).toNatClampNeg l1) 148 7)) + 1).toNatClampNeg ((up2 S 154 ((8 * (S 148 7)) + 0).toNatClampNeg l1) 150 ((4 * l1) + 0).toNatClampNeg)) 148 7)) + 2).toNatClampNeg ((up2 (up2 S 154 ((8 * (S 148 7)) + 0).toNatClampNeg l1) 154 ((8 * ((up2 S 154 ((8 * (S 148 7)) + 0).toNatClampNeg l1) 148 7)) + 1).toNatClampNeg ((up2 S 154 ((8 * (S 148 7)) + 0).toNatClampNeg l1) 150 ((4 * l1) + 0).toNatClampNeg)) 150 ((4 * l1) + 1).toNatClampNeg)) 154 ((8 * ((up2 (up2 (up2 S 154 ((8 * (S 148 7)) + 0).toNatClampNeg l1) 154 ((8 * ((up2 S 154 ((8 * (S 148 7)) + 0).toNatClampNeg l1) 148 7)) + 1).toNatClampNeg ((up2 S 154 ((8 * (S 148 7)) + 0).toNatClampNeg l1) 150 ((4 * l1) + 0).toNatClampNeg)) 154 ((8 * ((up2 (up2 S 154 ((8 * (S 148 7)) + 0).toNatClampNeg l1) 154 ((8 * ((up2 S 154 ((8 * (S 148 7)) + 0).toNatClampNeg l1) 148 7)) + 1).toNatClampNeg ((up2 S 154 ((8 * (S 148 7)) + 0).toNatClampNeg l1) 150 ((4 * l1) + 0).toNatClampNeg)) 148 7)) + 2).toNatClampNeg ((up2 (up2 S 154 ((8 * (S 148 7)) + 0).toNatClampNeg l1) 154 ((8 * ((up2 S 154 ((8 * (S 148 7)) + 0).toNatClampNeg l1) 148 7)) + 1).toNatClampNeg ((up2 S 154 ((8 * (S 148 7)) + 0).toNatClampNeg l1) 150 ((4 * l1) + 0).toNatClampNeg)) 150 ((4 * l1) + 1).toNatClampNeg)) 148 7)) + 3).toNatClampNeg ((up2 (up2 (up2 S 154 ((8 * (S 148 7)) + 0).toNatClampNeg l1) 154 ((8 * ((up2 S 154 ((8 * (S 148 7)) + 0).toNatClampNeg l1) 148 7)) + 1).toNatClampNeg ((up2 S 154 ((8 * (S 148 7)) + 0).toNatClampNeg l1) 150 ((4 * l1) + 0).toNatClampNeg)) 154 ((8 * ((up2 (up2 S 154 ((8 * (S 148 7)) + 0).toNatClampNeg l1) 154 ((8 * ((up2 S 154 ((8 * (S 148 7)) + 0).toNatClampNeg l1) 148 7)) + 1).toNatClampNeg ((up2 S 154 ((8 * (S 148 7)) + 0).toNatClampNeg l1) 150 ((4 * l1) + 0).toNatClampNeg)) 148 7)) + 2).toNatClampNeg ((up2 (up2 S 154 ((8 * (S 148 7)) + 0).toNatClampNeg l1) 154 ((8 * ((up2 S 154 ((8 * (S 148 7)) + 0).toNatClampNeg l1) 148 7)) + 1).toNatClampNeg ((up2 S 154 ((8 * (S 148 7)) + 0).toNatClampNeg l1) 150 ((4 * l1) + 0).toNatClampNeg)) 150 ((4 * l1) + 1).toNatClampNeg)) 150 ((4 * l1) + 2).toNatClampNeg)) 148 7)) + 4).toNatClampNeg ((S 150 ((4 * l1) + 3).toNatClampNeg) - (S 150 ((4 * l1) + 3).toNatClampNeg) / 128 * 128)) 154 ((8 * ((up2 (up2 (up2 (up2 (up2 S 154 ((8 * (S 148 7)) + 0).toNatClampNeg l1) 154 ((8 * ((up2 S 154 ((8 * (S 148 7)) + 0).toNatClampNeg l1) 148 7)) + 1).toNatClampNeg ((up2 S 154 ((8 * (S 148 7)) + 0).toNatClampNeg l1) 150 ((4 * l1) + 0).toNatClampNeg)) 154 ((8 * ((up2 (up2 S 154 ((8 * (S 148 7)) + 0).toNatClampNeg l1) 154 ((8 * ((up2 S 154 ((8 * (S 148 7)) + 0).toNatClampNeg l1) 148 7)) + 1).toNatClampNeg ((up2 S 154 ((8 * (S 148 7)) + 0).toNatClampNeg l1) 150 ((4 * l1) + 0).toNatClampNeg)) 148 7)) + 2).toNatClampNeg ((up2 (up2 S 154 ((8 * (S 148 7)) + 0).toNatClampNeg l1) 154 ((8 * ((up2 S 154 ((8 * (S 148 7)) + 0).toNatClampNeg l1) 148 7)) + 1).toNatClampNeg ((up2 S 154 ((8 * (S 148 7)) + 0).toNatClampNeg l1) 150 ((4 * l1) + 0).toNatClampNeg)) 150 ((4 * l1) + 1).toNatClampNeg)) 154 ((8 * ((up2 (up2 (up2 S 154 ((8 * (S 148 7)) + 0).toNatClampNeg l1) 154 ((8 * ((up2 S 154 ((8 * (S 148 7)) + 0).toNatClampNeg l1) 148 7)) + 1).toNatClampNeg ((up2 S 154 ((8 * (S 148 7)) + 0).toNatClampNeg l1) 150 ((4 * l1) + 0).toNatClampNeg)) 154 ((8 * ((up2 (up2 S 154 ((8 * (S 148 7)) + 0).toNatClampNeg l1) 154 ((8 * ((up2 S 154 ((8 * (S 148 7)) + 0).toNatClampNeg l1) 148 7)) + 1).toNatClampNeg ((up2 S 154 ((8 * (S 148 7)) + 0).toNatClampNeg l1) 150 ((4 * l1) + 0).toNatClampNeg)) 148 7)) + 2).toNatClampNeg ((up2 (up2 S 154 ((8 * (S 148 7)) + 0).toNatClampNeg l1) 154 ((8 * ((up2 S 154 ((8 * (S 148 7)) + 0).toNatClampNeg l1) 148 7)) + 1).toNatClampNeg ((up2 S 154 ((8 * (S 148 7)) + 0).toNatClampNeg l1) 150 ((4 * l1) + 0).toNatClampNeg)) 150 ((4 * l1) + 1).toNatClampNeg)) 148 7)) + 3).toNatClampNeg ((up2 (up2 (up2 S 154 ((8 * (S 148 7)) + 0).toNatClampNeg l1) 154 ((8 * ((up2 S 154 ((8 * (S 148 7)) + 0).toNatClampNeg l1) 148 7)) + 1).toNatClampNeg ((up2 S 154 ((8 * (S 148 7)) + 0).toNatClampNeg l1) 150 ((4 * l1) + 0).toNatClampNeg)) 154 ((8 * ((up2 (up2 S 154 ((8 * (S 148 7)) + 0).toNatClampNeg l1) 154 ((8 * ((up2 S 154 ((8 * (S 148 7)) + 0).toNatClampNeg l1) 148 7)) + 1).toNatClampNeg ((up2 S 154 ((8 * (S 148 7)) + 0).toNatClampNeg l1) 150 ((4 * l1) + 0).toNatClampNeg)) 148 7)) + 2).toNatClampNeg ((up2 (up2 S 154 ((8 * (S 148 7)) + 0).toNatClampNeg l1) 154 ((8 * ((up2 S 154 ((8 * (S 148 7)) + 0).toNatClampNeg l1) 148 7)) + 1).toNatClampNeg ((up2 S 154 ((8 * (S 148 7)) + 0).toNatClampNeg l1) 150 ((4 * l1) + 0).toNatClampNeg)) 150 ((4 * l1) + 1).toNatClampNeg)) 150 ((4 * l1) + 2).toNatClampNeg)) 154 ((8 * ((up2 (up2 (up2 (up2 S 154 ((8 * (S 148 7)) + 0).toNatClampNeg l1) 154 ((8 * ((up2 S 154 ((8 * (S 148 7)) + 0).toNatClampNeg l1) 148 7)) + 1).toNatClampNeg ((up2 S 154 ((8 * (S 148 7)) + 0).toNatClampNeg l1) 150 ((4 * l1) + 0).toNatClampNeg)) 154 ((8 * ((up2 (up2 S 154 ((8 * (S 148 7)) + 0).toNatClampNeg l1) 154 ((8 * ((up2 S 154 ((8 * (S 148 7)) + 0).toNatClampNeg l1) 148 7)) + 1).toNatClampNeg ((up2 S 154 ((8 * (S 148 7)) + 0).toNatClampNeg l1) 150 ((4 * l1) + 0).toNatClampNeg)) 148 7)) + 2).toNatClampNeg ((up2 (up2 S 154 ((8 * (S 148 7)) + 0).toNatClampNeg l1) 154 ((8 * ((up2 S 154 ((8 * (S 148 7)) + 0).toNatClampNeg l1) 148 7)) + 1).toNatClampNeg ((up2 S 154 ((8 * (S 148 7)) + 0).toNatClampNeg l1) 150 ((4 * l1) + 0).toNatClampNeg)) 150 ((4 * l1) + 1).toNatClampNeg)) 154 ((8 * ((up2 (up2 (up2 S 154 ((8 * (S 148 7)) + 0).toNatClampNeg l1) 154 ((8 * ((up2 S 154 ((8 * (S 148 7)) + 0).toNatClampNeg l1) 148 7)) + 1).toNatClampNeg ((up2 S 154 ((8 * (S 148 7)) + 0).toNatClampNeg l1) 150 ((4 * l1) + 0).toNatClampNeg)) 154 ((8 * ((up2 (up2 S 154 ((8 * (S 148 7)) + 0).toNatClampNeg l1) 154 ((8 * ((up2 S 154 ((8 * (S 148 7)) + 0).toNatClampNeg l1) 148 7)) + 1).toNatClampNeg ((up2 S 154 ((8 * (S 148 7)) + 0).toNatClampNeg l1) 150 ((4 * l1) + 0).toNatClampNeg)) 148 7)) + 2).toNatClampNeg ((up2 (up2 S 154 ((8 * (S 148 7)) + 0).toNatClampNeg l1) 154 ((8 * ((up2 S 154 ((8 * (S 148 7)) + 0).toNatClampNeg l1) 148 7)) + 1).toNatClampNeg ((up2 S 154 ((8 * (S 148 7)) + 0).toNatClampNeg l1) 150 ((4 * l1) + 0).toNatClampNeg)) 150 ((4 * l1) + 1).toNatClampNeg)) 148 7)) + 3).toNatClampNeg ((up2 (up2 (up2 S 154 ((8 * (S 148 7)) + 0).toNatClampNeg l1) 154 ((8 * ((up2 S 154 ((8 * (S 148 7)) + 0).toNatClampNeg l1) 148 7)) + 1).toNatClampNeg ((up2 S 154 ((8 * (S 148 7)) + 0).toNatClampNeg l1) 150 ((4 * l1) + 0).toNatClampNeg)) 154 ((8 * ((up2 (up2 S 154 ((8 * (S 148 7)) + 0).toNatClampNeg l1) 154 ((8 * ((up2 S 154 ((8 * (S 148 7)) + 0).toNatClampNeg l1) 148 7)) + 1).toNatClampNeg ((up2 S 154 ((8 * (S 148 7)) + 0).toNatClampNeg l1) 150 ((4 * l1) + 0).toNatClampNeg)) 148 7)) + 2).toNatClampNeg ((up2 (up2 S 154 ((8 * (S 148 7)) + 0).toNatClampNeg l1) 154 ((8 * ((up2 S 154 ((8 * (S 148 7)) + 0).toNatClampNeg l1) 148 7)) + 1).toNatClampNeg ((up2 S 154 ((8 * (S 148 7)) + 0).toNatClampNeg l1) 150 ((4 * l1) + 0).toNatClampNeg)) 150 ((4 * l1) + 1).toNatClampNeg)) 150 ((4 * l1) + 2).toNatClampNeg)) 148 7)) + 4).toNatClampNeg ((S 150 ((4 * l1) + 3).toNatClampNeg) - (S 150 ((4 * l1) + 3).toNatClampNeg) / 128 * 128)) 148 7)) + 5).toNatClampNeg ((S 150 ((4 * l1) + 3).toNatClampNeg) / 128)) 148 7)) + 6).toNatClampNeg 0) 148 7), .int 7, .int (-1)] hx rfl w_774 cv_r_put hG.1 (by decide) rfl rfl rfl rfl (zr_put hx hG (⟨hc12, fun _ hS => by subst hS; exact rfl⟩)) ?_ (fun _ _ hf => hf.elim)
  rintro S' rfl
  refine z_aload_n rfl rfl ?_
  refine z_dup rfl rfl ?_
  refine z_geti (ci := 7) 7 rfl hG.1 rfl w_665 ?_
  refine z_iconst 1 rfl rfl ?_
  refine z_iadd rfl ?_
  replace hw := hw _ rfl
  refine z_puti (ci := 7) 7 rfl hG.1 rfl w_665 rfl rfl rfl ?_
  exact z_vret rfl rfl rfl rfl (Or.inl ⟨_, rfl, rfl, hw⟩)
def r_delete_L18 (post : Mem → Prop)  : Nat → Mem → Int32 → Prop
  | 0, _, _ => False
  | n + 1, S, l2 =>
  ((l2 < 0) →
   post S) ∧
  ((¬ l2 < 0) →
   r_find (fun r1 S1 =>
    r_behind (fun r2 S2 =>
     ((¬ (if r2 = (r1 + 1) then 1 else 0 : Int32) = 0 → (vp_in ((8 * r1) + 7) 112))) ∧ 
     (((if r2 = (r1 + 1) then 1 else 0 : Int32) = 0) →
      r_delete_L18 post n S2 (if (if r2 = (r1 + 1) then 1 else 0 : Int32) = 0 then (-1) else (S2 154 ((8 * r1) + 7).toNatClampNeg) : Int32)) ∧
     ((¬ (if r2 = (r1 + 1) then 1 else 0 : Int32) = 0) →
      r_takeOut (fun S3 =>
       r_delete_L18 post n S3 (if (if r2 = (r1 + 1) then 1 else 0 : Int32) = 0 then (-1) else (S2 154 ((8 * r1) + 7).toNatClampNeg) : Int32)) S2 r1 (r1 + 1))) S1 r1) S l2)
set_option maxRecDepth 100000 in
set_option maxHeartbeats 1000000 in
theorem zr_delete_L18 {g : Gm} {G : Gp} {post : Mem → Prop} (hx : G.2.2.2 = false) (hG : isR G) : ∀ (n : Nat) {S : Mem} {l2 : Int32} , r_delete_L18 post n S l2 → Z g M_r_delete 0 0 18 [some (.ref 148), none, some (.int l2), none, none] [] (S, G) (Qv G post noEx) := by
  intro n
  induction n with
  | zero =>
    intros
    rename_i hw
    exact hw.elim
  | succ n ih =>
    intro S l2 hw
    rw [r_delete_L18] at hw
    refine z_iload_n rfl rfl ?_
    refine z_if_lt rfl (fun hq => ?_) (fun hq => ?_)
    · replace hw := hw.1 hq
      exact z_vret rfl rfl rfl rfl (Or.inl ⟨_, rfl, rfl, hw⟩)
    · replace hw := hw.2 hq
      refine z_aload_n rfl rfl ?_
      refine z_iload_n rfl rfl ?_
      refine z_cvi (M' := M_r_find) [.int l2] hx rfl w_750 cv_r_find hG.1 (by decide) rfl rfl rfl rfl (zr_find hx hG hw) ?_ (fun _ _ hf => hf.elim)
      clear hw
      intro r1 S1 hw
      refine z_istore_n [some (.ref 148), none, some (.int l2), some (.int r1), none] rfl rfl rfl ?_
      refine z_aload_n rfl rfl ?_
      refine z_iload_n rfl rfl ?_
      refine z_cvi (M' := M_r_behind) [.int r1] hx rfl w_782 cv_r_behind hG.1 (by decide) rfl rfl rfl rfl (zr_behind hx hG hw) ?_ (fun _ _ hf => hf.elim)
      clear hw
      intro r2 S2 hw
      refine z_iload_n rfl rfl ?_
      refine z_iconst 1 rfl rfl ?_
      refine z_iadd rfl ?_
      have hj36 : ∀ v : Int32, v = (if r2 = (r1 + 1) then 1 else 0 : Int32) → Z g M_r_delete 0 0 44 [some (.ref 148), none, some (.int l2), some (.int r1), none] [.int v] (S2, G) (Qv G post noEx) := by
        intro v hv
        subst hv
        refine z_istore [some (.ref 148), none, some (.int l2), some (.int r1), some (.int (if r2 = (r1 + 1) then 1 else 0 : Int32))] rfl rfl rfl ?_
        refine z_iload rfl rfl ?_
        obtain ⟨hc1, hw⟩ := hw
        have hj48 : ∀ v : Int32, v = (if (if r2 = (r1 + 1) then 1 else 0 : Int32) = 0 then (-1) else (S2 154 ((8 * r1) + 7).toNatClampNeg) : Int32) → Z g M_r_delete 0 0 62 [some (.ref 148), none, some (.int l2), some (.int r1), some (.int (if r2 = (r1 + 1) then 1 else 0 : Int32))] [.int v] (S2, G) (Qv G post noEx) := by
          intro v hv
          subst hv
          refine z_istore_n [some (.ref 148), none, some (.int (if (if r2 = (r1 + 1) then 1 else 0 : Int32) = 0 then (-1) else (S2 154 ((8 * r1) + 7).toNatClampNeg) : Int32)), some (.int r1), some (.int (if r2 = (r1 + 1) then 1 else 0 : Int32))] rfl rfl rfl ?_
          refine z_iload rfl rfl ?_
          refine z_if_eq rfl (fun hq => ?_) (fun hq => ?_)
          · replace hw := hw.1 hq
            refine z_goto rfl ?_
            refine Z.forget' [some (.ref 148), none, some (.int (if (if r2 = (r1 + 1) then 1 else 0 : Int32) = 0 then (-1) else (S2 154 ((8 * r1) + 7).toNatClampNeg) : Int32)), none, none] ⟨rfl, ⟨rfl, trivial⟩⟩ ?_
            exact ih hw
          · replace hw := hw.2 hq
            refine z_aload_n rfl rfl ?_
            refine z_iload_n rfl rfl ?_
            refine z_iload_n rfl rfl ?_
            refine z_iconst 1 rfl rfl ?_
            refine z_iadd rfl ?_
            refine z_cvv (M' := M_r_takeOut) [.int r1, .int (r1 + 1)] hx rfl w_786 cv_r_takeOut hG.1 (by decide) rfl rfl rfl rfl (zr_takeOut hx hG hw) ?_ (fun _ _ hf => hf.elim)
            clear hw
            intro S3 hw
            refine z_goto rfl ?_
            refine Z.forget' [some (.ref 148), none, some (.int (if (if r2 = (r1 + 1) then 1 else 0 : Int32) = 0 then (-1) else (S2 154 ((8 * r1) + 7).toNatClampNeg) : Int32)), none, none] ⟨rfl, ⟨rfl, trivial⟩⟩ ?_
            exact ih hw
        refine z_if_eq rfl (fun hp48 => ?_) (fun hp48 => ?_)
        · refine z_iconst (-1) rfl rfl ?_
          exact hj48 _ (by rw [if_pos hp48])
        · refine z_aload_n rfl rfl ?_
          refine z_iload_n rfl rfl ?_
          refine z_bipush 7 rfl rfl ?_
          refine z_cvi (M' := M_r_of) (post := fun v S' => (S2 154 ((8 * r1) + 7).toNatClampNeg) = v ∧ S2 = S') [.int r1, .int 7] hx rfl w_754 cv_r_of hG.1 (by decide) rfl rfl rfl rfl (zr_of hx hG  (⟨(hc1 hp48), ⟨rfl, rfl⟩⟩)) ?_ (fun _ _ hf => hf.elim)
          rintro v S' ⟨rfl, rfl⟩
          refine z_goto rfl ?_
          exact hj48 _ (by rw [if_neg hp48])
      refine z_icmp_ne rfl (fun hp36 => ?_) (fun hp36 => ?_)
      · refine z_iconst 0 rfl rfl ?_
        exact hj36 _ (by rw [if_neg hp36])
      · refine z_iconst 1 rfl rfl ?_
        refine z_goto rfl ?_
        exact hj36 _ (by rw [if_pos hp36])
def r_delete (post : Mem → Prop) (S : Mem) (l1 : Int32) : Prop :=
  (vp_in ((8 * l1) + 7) 112) ∧ 
  r_behind (fun r1 S1 =>
   r_takeOut (fun S2 =>
    ∃ n, r_delete_L18 post n S2 (S 154 ((8 * l1) + 7).toNatClampNeg)) S1 l1 r1) S l1
set_option maxRecDepth 100000 in
set_option maxHeartbeats 1000000 in
theorem zr_delete {g : Gm} {G : Gp} {S : Mem} {post : Mem → Prop} {l1 : Int32} (hx : G.2.2.2 = false) (hG : isR G) (hw : r_delete post S l1) : Z g M_r_delete 0 0 0 (entryL [.ref 148, .int l1] (mL M_r_delete)) [] (S, G) (Qv G post noEx) := by
  unfold r_delete at hw
  show Z g M_r_delete 0 0 0 [some (.ref 148), some (.int l1), none, none, none] [] (S, G) (Qv G post noEx)
  refine z_aload_n rfl rfl ?_
  refine z_iload_n rfl rfl ?_
  refine z_bipush 7 rfl rfl ?_
  obtain ⟨hc1, hw⟩ := hw
  refine z_cvi (M' := M_r_of) (post := fun v S' => (S 154 ((8 * l1) + 7).toNatClampNeg) = v ∧ S = S') [.int l1, .int 7] hx rfl w_754 cv_r_of hG.1 (by decide) rfl rfl rfl rfl (zr_of hx hG (⟨hc1, ⟨rfl, rfl⟩⟩)) ?_ (fun _ _ hf => hf.elim)
  rintro v S' ⟨rfl, rfl⟩
  refine z_istore_n [some (.ref 148), some (.int l1), some (.int (S 154 ((8 * l1) + 7).toNatClampNeg)), none, none] rfl rfl rfl ?_
  refine z_aload_n rfl rfl ?_
  refine z_iload_n rfl rfl ?_
  refine z_aload_n rfl rfl ?_
  refine z_iload_n rfl rfl ?_
  refine z_cvi (M' := M_r_behind) [.int l1] hx rfl w_782 cv_r_behind hG.1 (by decide) rfl rfl rfl rfl (zr_behind hx hG hw) ?_ (fun _ _ hf => hf.elim)
  clear hw
  intro r1 S1 hw
  refine z_cvv (M' := M_r_takeOut) [.int l1, .int r1] hx rfl w_786 cv_r_takeOut hG.1 (by decide) rfl rfl rfl rfl (zr_takeOut hx hG hw) ?_ (fun _ _ hf => hf.elim)
  clear hw
  intro S2 hw
  refine Z.forget' [some (.ref 148), none, some (.int (S 154 ((8 * l1) + 7).toNatClampNeg)), none, none] ⟨rfl, ⟨rfl, trivial⟩⟩ ?_
  obtain ⟨n, hw⟩ := hw
  exact zr_delete_L18 hx hG n hw
def r_scaled (post : Int32 → Mem → Prop) (S : Mem) (l0 : Int32) (l1 : Int32) (l2 : Int32) : Prop :=
  (¬ l2 = 0) ∧ post ((l0 * l1) / l2) S
set_option maxRecDepth 100000 in
set_option maxHeartbeats 1000000 in
theorem zr_scaled {g : Gm} {G : Gp} {S : Mem} {post : Int32 → Mem → Prop} {l0 : Int32} {l1 : Int32} {l2 : Int32} (hx : G.2.2.2 = false) (hG : isR G) (hw : r_scaled post S l0 l1 l2) : Z g M_r_scaled 0 0 0 (entryL [.int l0, .int l1, .int l2] (mL M_r_scaled)) [] (S, G) (Qi G post noEx) := by
  unfold r_scaled at hw
  show Z g M_r_scaled 0 0 0 [some (.int l0), some (.int l1), some (.int l2)] [] (S, G) (Qi G post noEx)
  refine z_iload_n rfl rfl ?_
  refine z_iload_n rfl rfl ?_
  refine z_imul rfl ?_
  refine z_iload_n rfl rfl ?_
  obtain ⟨hc1, hw⟩ := hw
  refine z_idiv rfl hc1 ?_
  exact z_iret rfl rfl rfl rfl (Or.inl ⟨_, _, rfl, rfl, hw⟩)
