def r_turn (post : Int32 → Mem → Prop) (S : Mem) (l1 : Int32) (l2 : Int32) : Prop :=
  r_isAction (fun r1 S1 =>
   ((¬ r1 = 0 → (vp_in l1 24))) ∧ 
   ∀ S2, S2 = up2 S1 148 0 (if r1 = 0 then 1 else (if (S1 151 l1.toNatClampNeg) = l2 then 2 else 0 : Int32) : Int32) → (((S2 148 0) ≤ 0) →
    r_remember (fun S3 =>
     (vp_in l1 24) ∧ ∀ S4, S4 = up2 S3 151 l1.toNatClampNeg (vp_nar .boolean l2) → r_goThrough (fun S5 =>
      r_note (fun S6 =>
       r_others (fun r5 S7 =>
        post r5 S7) S6 l1) S5 (if l2 = 0 then 2 else 1 : Int32) l1 0 0 0) S4 (-1)) S2 ) ∧
   ((¬ (S2 148 0) ≤ 0) →
    post 0 S2)) S l1
set_option maxRecDepth 100000 in
set_option maxHeartbeats 1000000 in
theorem zr_turn {g : Gm} {G : Gp} {S : Mem} {post : Int32 → Mem → Prop} {l1 : Int32} {l2 : Int32} (hx : G.2.2.2 = false) (hG : isR G) (hw : r_turn post S l1 l2) : Z g M_r_turn 0 0 0 (entryL [.ref 148, .int l1, .int l2] (mL M_r_turn)) [] (S, G) (Qi G post noEx) := by
  unfold r_turn at hw
  show Z g M_r_turn 0 0 0 [some (.ref 148), some (.int l1), some (.int l2)] [] (S, G) (Qi G post noEx)
  refine z_aload_n rfl rfl ?_
  refine z_aload_n rfl rfl ?_
  refine z_iload_n rfl rfl ?_
  refine z_cvi (M' := M_r_isAction) [.int l1] hx rfl w_859 cv_r_isAction hG.1 (by decide) rfl rfl rfl rfl (zr_isAction hx hG hw) ?_ (fun _ _ hf => hf.elim)
  clear hw
  intro r1 S1 hw
  obtain ⟨hc3, hw⟩ := hw
  have hj6 : ∀ v : Int32, v = (if r1 = 0 then 1 else (if (S1 151 l1.toNatClampNeg) = l2 then 2 else 0 : Int32) : Int32) → Z g M_r_turn 0 0 28 [some (.ref 148), some (.int l1), some (.int l2)] [.int v, .ref 148] (S1, G) (Qi G post noEx) := by
    intro v hv
    subst hv
    replace hw := hw _ rfl
    refine z_puti (ci := 7) 0 rfl hG.1 rfl w_658 rfl rfl rfl ?_
    refine z_aload_n rfl rfl ?_
    refine z_geti (ci := 7) 0 rfl hG.1 rfl w_658 ?_
    refine z_if_le rfl (fun hq => ?_) (fun hq => ?_)
    · replace hw := hw.1 hq
      refine z_aload_n rfl rfl ?_
      refine z_cvv (M' := M_r_remember) [] hx rfl w_863 cv_r_remember hG.1 (by decide) rfl rfl rfl rfl (zr_remember hx hG hw) ?_ (fun _ _ hf => hf.elim)
      clear hw
      intro S3 hw
      refine z_aload_n rfl rfl ?_
      refine z_getr (ci := 7) 4 rfl hG.1 rfl w_662 hG.2.2.2.2.2.1 ?_
      refine z_iload_n rfl rfl ?_
      refine z_iload_n rfl rfl ?_
      obtain ⟨hc1, hw⟩ := hw
      replace hw := hw _ rfl
      refine z_zast (l1.toNatClampNeg) rfl hG.2.2.2.2.2.2.1 hc1 rfl ?_
      refine z_aload_n rfl rfl ?_
      refine z_iconst (-1) rfl rfl ?_
      refine z_cvv (M' := M_r_goThrough) [.int (-1)] hx rfl w_742 cv_r_goThrough hG.1 (by decide) rfl rfl rfl rfl (zr_goThrough hx hG hw) ?_ (fun _ _ hf => hf.elim)
      clear hw
      intro S5 hw
      refine z_aload_n rfl rfl ?_
      refine z_iload_n rfl rfl ?_
      have hj58 : ∀ v : Int32, v = (if l2 = 0 then 2 else 1 : Int32) → Z g M_r_turn 0 0 66 [some (.ref 148), some (.int l1), some (.int l2)] [.int v, .ref 148] (S5, G) (Qi G post noEx) := by
        intro v hv
        subst hv
        refine z_iload_n rfl rfl ?_
        refine z_iconst 0 rfl rfl ?_
        refine z_iconst 0 rfl rfl ?_
        refine z_iconst 0 rfl rfl ?_
        refine z_cvv (M' := M_r_note) [.int (if l2 = 0 then 2 else 1 : Int32), .int l1, .int 0, .int 0, .int 0] hx rfl w_847 cv_r_note hG.1 (by decide) rfl rfl rfl rfl (zr_note hx hG hw) ?_ (fun _ _ hf => hf.elim)
        clear hw
        intro S6 hw
        refine z_aload_n rfl rfl ?_
        refine z_iload_n rfl rfl ?_
        refine z_cvi (M' := M_r_others) [.int l1] hx rfl w_867 cv_r_others hG.1 (by decide) rfl rfl rfl rfl (zr_others hx hG hw) ?_ (fun _ _ hf => hf.elim)
        clear hw
        intro r5 S7 hw
        exact z_iret rfl rfl rfl rfl (Or.inl ⟨_, _, rfl, rfl, hw⟩)
      refine z_if_eq rfl (fun hp58 => ?_) (fun hp58 => ?_)
      · refine z_iconst 2 rfl rfl ?_
        exact hj58 _ (by rw [if_pos hp58])
      · refine z_iconst 1 rfl rfl ?_
        refine z_goto rfl ?_
        exact hj58 _ (by rw [if_neg hp58])
    · replace hw := hw.2 hq
      refine z_iconst 0 rfl rfl ?_
      exact z_iret rfl rfl rfl rfl (Or.inl ⟨_, _, rfl, rfl, hw⟩)
  refine z_if_ne rfl (fun hp6 => ?_) (fun hp6 => ?_)
  · refine z_aload_n rfl rfl ?_
    refine z_getr (ci := 7) 4 rfl hG.1 rfl w_662 hG.2.2.2.2.2.1 ?_
    refine z_iload_n rfl rfl ?_
    refine z_zald (l1.toNatClampNeg) rfl hG.2.2.2.2.2.2.1 (hc3 hp6) rfl ?_
    refine z_iload_n rfl rfl ?_
    refine z_icmp_ne rfl (fun hp20 => ?_) (fun hp20 => ?_)
    · refine z_iconst 0 rfl rfl ?_
      exact hj6 _ (by rw [if_neg hp6, if_neg hp20])
    · refine z_iconst 2 rfl rfl ?_
      refine z_goto rfl ?_
      exact hj6 _ (by rw [if_neg hp6, if_pos hp20])
  · refine z_iconst 1 rfl rfl ?_
    refine z_goto rfl ?_
    exact hj6 _ (by rw [if_pos hp6])
def r_withdraw (post : Int32 → Mem → Prop) (S : Mem) (l1 : Int32) : Prop :=
  r_turn (fun r1 S1 =>
   post r1 S1) S l1 1
set_option maxRecDepth 100000 in
set_option maxHeartbeats 1000000 in
theorem zr_withdraw {g : Gm} {G : Gp} {S : Mem} {post : Int32 → Mem → Prop} {l1 : Int32} (hx : G.2.2.2 = false) (hG : isR G) (hw : r_withdraw post S l1) : Z g M_r_withdraw 0 0 0 (entryL [.ref 148, .int l1] (mL M_r_withdraw)) [] (S, G) (Qi G post noEx) := by
  unfold r_withdraw at hw
  show Z g M_r_withdraw 0 0 0 [some (.ref 148), some (.int l1)] [] (S, G) (Qi G post noEx)
  refine z_aload_n rfl rfl ?_
  refine z_iload_n rfl rfl ?_
  refine z_iconst 1 rfl rfl ?_
  refine z_cvi (M' := M_r_turn) [.int l1, .int 1] hx rfl w_855 cv_r_turn hG.1 (by decide) rfl rfl rfl rfl (zr_turn hx hG hw) ?_ (fun _ _ hf => hf.elim)
  clear hw
  intro r1 S1 hw
  exact z_iret rfl rfl rfl rfl (Or.inl ⟨_, _, rfl, rfl, hw⟩)
def r_reinstate (post : Int32 → Mem → Prop) (S : Mem) (l1 : Int32) : Prop :=
  r_turn (fun r1 S1 =>
   post r1 S1) S l1 0
set_option maxRecDepth 100000 in
set_option maxHeartbeats 1000000 in
theorem zr_reinstate {g : Gm} {G : Gp} {S : Mem} {post : Int32 → Mem → Prop} {l1 : Int32} (hx : G.2.2.2 = false) (hG : isR G) (hw : r_reinstate post S l1) : Z g M_r_reinstate 0 0 0 (entryL [.ref 148, .int l1] (mL M_r_reinstate)) [] (S, G) (Qi G post noEx) := by
  unfold r_reinstate at hw
  show Z g M_r_reinstate 0 0 0 [some (.ref 148), some (.int l1)] [] (S, G) (Qi G post noEx)
  refine z_aload_n rfl rfl ?_
  refine z_iload_n rfl rfl ?_
  refine z_iconst 0 rfl rfl ?_
  refine z_cvi (M' := M_r_turn) [.int l1, .int 0] hx rfl w_855 cv_r_turn hG.1 (by decide) rfl rfl rfl rfl (zr_turn hx hG hw) ?_ (fun _ _ hf => hf.elim)
  clear hw
  intro r1 S1 hw
  exact z_iret rfl rfl rfl rfl (Or.inl ⟨_, _, rfl, rfl, hw⟩)
def r_amend_J53 (post : Int32 → Mem → Prop)  (S : Mem) (l1 : Int32) (l2 : Int32) (l3 : Int32) (k1 : Int32) : Prop :=
  ∀ S1, S1 = up2 S 148 0 k1 → (((S1 148 0) ≤ 0) →
   (vp_in ((4 * l1) + l2) 96) ∧ 
   (vp_in ((4 * l1) + l2) 96) ∧ ∀ S2, S2 = up2 S1 150 ((4 * l1) + l2).toNatClampNeg l3 → r_goThrough (fun S3 =>
    r_note (fun S4 =>
     post (S1 150 ((4 * l1) + l2).toNatClampNeg) S4) S3 3 l1 l2 (S1 150 ((4 * l1) + l2).toNatClampNeg) l3) S2 (-1)) ∧
  ((¬ (S1 148 0) ≤ 0) →
   post 0 S1)
set_option maxRecDepth 100000 in
set_option maxHeartbeats 1000000 in
theorem zr_amend_J53 {g : Gm} {G : Gp} {post : Int32 → Mem → Prop} (hx : G.2.2.2 = false) (hG : isR G) {S : Mem} {l1 : Int32} {l2 : Int32} {l3 : Int32} {k1 : Int32}  (hw : r_amend_J53 post S l1 l2 l3 k1) : Z g M_r_amend 0 0 53 [some (.ref 148), some (.int l1), some (.int l2), some (.int l3), none, none] [.int k1, .ref 148] (S, G) (Qi G post noEx) := by
  unfold r_amend_J53 at hw
  replace hw := hw _ rfl
  refine z_puti (ci := 7) 0 rfl hG.1 rfl w_658 rfl rfl rfl ?_
  refine z_aload_n rfl rfl ?_
  refine z_geti (ci := 7) 0 rfl hG.1 rfl w_658 ?_
  refine z_if_le rfl (fun hq => ?_) (fun hq => ?_)
  · replace hw := hw.1 hq
    refine z_aload_n rfl rfl ?_
    refine z_iload_n rfl rfl ?_
    refine z_iload_n rfl rfl ?_
    obtain ⟨hc1, hw⟩ := hw
    refine z_cvi (M' := M_r_arg) (post := fun v S' => ((up2 S 148 0 k1) 150 ((4 * l1) + l2).toNatClampNeg) = v ∧ (up2 S 148 0 k1) = S') [.int l1, .int l2] hx rfl w_734 cv_r_arg hG.1 (by decide) rfl rfl rfl rfl (zr_arg hx hG (⟨hc1, ⟨rfl, rfl⟩⟩)) ?_ (fun _ _ hf => hf.elim)
    rintro v S' ⟨rfl, rfl⟩
    refine z_istore [some (.ref 148), some (.int l1), some (.int l2), some (.int l3), none, some (.int ((up2 S 148 0 k1) 150 ((4 * l1) + l2).toNatClampNeg))] rfl rfl rfl ?_
    refine z_aload_n rfl rfl ?_
    refine z_getr (ci := 7) 3 rfl hG.1 rfl w_661 hG.2.2.2.1 ?_
    refine z_iconst 4 rfl rfl ?_
    refine z_iload_n rfl rfl ?_
    refine z_imul rfl ?_
    refine z_iload_n rfl rfl ?_
    refine z_iadd rfl ?_
    refine z_iload_n rfl rfl ?_
    obtain ⟨hc2, hw⟩ := hw
    replace hw := hw _ rfl
    refine z_iast (((4 * l1) + l2).toNatClampNeg) rfl hG.2.2.2.2.1 hc2 rfl ?_
    refine z_aload_n rfl rfl ?_
    refine z_iconst (-1) rfl rfl ?_
    refine z_cvv (M' := M_r_goThrough) [.int (-1)] hx rfl w_742 cv_r_goThrough hG.1 (by decide) rfl rfl rfl rfl (zr_goThrough hx hG hw) ?_ (fun _ _ hf => hf.elim)
    clear hw
    intro S3 hw
    refine z_aload_n rfl rfl ?_
    refine z_iconst 3 rfl rfl ?_
    refine z_iload_n rfl rfl ?_
    refine z_iload_n rfl rfl ?_
    refine z_iload rfl rfl ?_
    refine z_iload_n rfl rfl ?_
    refine z_cvv (M' := M_r_note) [.int 3, .int l1, .int l2, .int ((up2 S 148 0 k1) 150 ((4 * l1) + l2).toNatClampNeg), .int l3] hx rfl w_847 cv_r_note hG.1 (by decide) rfl rfl rfl rfl (zr_note hx hG hw) ?_ (fun _ _ hf => hf.elim)
    clear hw
    intro S4 hw
    refine z_iload rfl rfl ?_
    exact z_iret rfl rfl rfl rfl (Or.inl ⟨_, _, rfl, rfl, hw⟩)
  · replace hw := hw.2 hq
    refine z_iconst 0 rfl rfl ?_
    exact z_iret rfl rfl rfl rfl (Or.inl ⟨_, _, rfl, rfl, hw⟩)
def r_amend (post : Int32 → Mem → Prop) (S : Mem) (l1 : Int32) (l2 : Int32) (l3 : Int32) : Prop :=
  r_isAction (fun r1 S1 =>
   ((¬ r1 = 0) →
    ((l2 < 0) →
     r_amend_J53 post S1 l1 l2 l3 2) ∧
    ((¬ l2 < 0) →
     (vp_in l1 24) ∧ r_argumentsOf (fun r2 S2 =>
      ((r2 ≤ l2) →
       r_amend_J53 post S2 l1 l2 l3 2) ∧
      ((¬ r2 ≤ l2) →
       (vp_in l1 24) ∧ r_isArgument (fun r3 S3 =>
        ((¬ r3 = 0) →
         r_amend_J53 post S3 l1 l2 l3 0) ∧
        ((r3 = 0) →
         r_amend_J53 post S3 l1 l2 l3 2)) S2 (S2 149 l1.toNatClampNeg) l2 l3)) S1 (S1 149 l1.toNatClampNeg))) ∧
   ((r1 = 0) →
    r_amend_J53 post S1 l1 l2 l3 1)) S l1
set_option maxRecDepth 100000 in
set_option maxHeartbeats 1000000 in
theorem zr_amend {g : Gm} {G : Gp} {S : Mem} {post : Int32 → Mem → Prop} {l1 : Int32} {l2 : Int32} {l3 : Int32} (hx : G.2.2.2 = false) (hG : isR G) (hw : r_amend post S l1 l2 l3) : Z g M_r_amend 0 0 0 (entryL [.ref 148, .int l1, .int l2, .int l3] (mL M_r_amend)) [] (S, G) (Qi G post noEx) := by
  unfold r_amend at hw
  show Z g M_r_amend 0 0 0 [some (.ref 148), some (.int l1), some (.int l2), some (.int l3), none, none] [] (S, G) (Qi G post noEx)
  refine z_aload_n rfl rfl ?_
  refine z_iload_n rfl rfl ?_
  refine z_cvi (M' := M_r_isAction) [.int l1] hx rfl w_859 cv_r_isAction hG.1 (by decide) rfl rfl rfl rfl (zr_isAction hx hG hw) ?_ (fun _ _ hf => hf.elim)
  clear hw
  intro r1 S1 hw
  refine z_istore [some (.ref 148), some (.int l1), some (.int l2), some (.int l3), some (.int r1), none] rfl rfl rfl ?_
  refine z_aload_n rfl rfl ?_
  refine z_iload rfl rfl ?_
  refine z_if_ne rfl (fun hq => ?_) (fun hq => ?_)
  · replace hw := hw.1 hq
    refine z_iload_n rfl rfl ?_
    refine z_if_lt rfl (fun hq => ?_) (fun hq => ?_)
    · replace hw := hw.1 hq
      refine z_iconst 2 rfl rfl ?_
      refine z_goto rfl ?_
      refine Z.forget' [some (.ref 148), some (.int l1), some (.int l2), some (.int l3), none, none] ⟨rfl, ⟨rfl, ⟨rfl, ⟨rfl, trivial⟩⟩⟩⟩ ?_
      exact zr_amend_J53 hx hG hw
    · replace hw := hw.2 hq
      refine z_iload_n rfl rfl ?_
      refine z_aload_n rfl rfl ?_
      refine z_getr (ci := 7) 2 rfl hG.1 rfl w_660 hG.2.1 ?_
      refine z_iload_n rfl rfl ?_
      obtain ⟨hc1, hw⟩ := hw
      refine z_iald (l1.toNatClampNeg) rfl hG.2.2.1 hc1 rfl ?_
      refine z_csi (M' := M_r_argumentsOf) [.int (S1 149 l1.toNatClampNeg)] hx rfl w_725 cs_r_argumentsOf rfl rfl rfl (zr_argumentsOf hx hG hw) ?_ (fun _ _ hf => hf.elim)
      clear hw
      intro r2 S2 hw
      refine z_icmp_ge rfl (fun hq => ?_) (fun hq => ?_)
      · replace hw := hw.1 hq
        refine z_iconst 2 rfl rfl ?_
        refine z_goto rfl ?_
        refine Z.forget' [some (.ref 148), some (.int l1), some (.int l2), some (.int l3), none, none] ⟨rfl, ⟨rfl, ⟨rfl, ⟨rfl, trivial⟩⟩⟩⟩ ?_
        exact zr_amend_J53 hx hG hw
      · replace hw := hw.2 hq
        refine z_aload_n rfl rfl ?_
        refine z_getr (ci := 7) 2 rfl hG.1 rfl w_660 hG.2.1 ?_
        refine z_iload_n rfl rfl ?_
        obtain ⟨hc2, hw⟩ := hw
        refine z_iald (l1.toNatClampNeg) rfl hG.2.2.1 hc2 rfl ?_
        refine z_iload_n rfl rfl ?_
        refine z_iload_n rfl rfl ?_
        refine z_csi (M' := M_r_isArgument) [.int (S2 149 l1.toNatClampNeg), .int l2, .int l3] hx rfl w_728 cs_r_isArgument rfl rfl rfl (zr_isArgument hx hG hw) ?_ (fun _ _ hf => hf.elim)
        clear hw
        intro r3 S3 hw
        refine z_if_ne rfl (fun hq => ?_) (fun hq => ?_)
        · replace hw := hw.1 hq
          refine z_iconst 0 rfl rfl ?_
          refine Z.forget' [some (.ref 148), some (.int l1), some (.int l2), some (.int l3), none, none] ⟨rfl, ⟨rfl, ⟨rfl, ⟨rfl, trivial⟩⟩⟩⟩ ?_
          exact zr_amend_J53 hx hG hw
        · replace hw := hw.2 hq
          refine z_iconst 2 rfl rfl ?_
          refine z_goto rfl ?_
          refine Z.forget' [some (.ref 148), some (.int l1), some (.int l2), some (.int l3), none, none] ⟨rfl, ⟨rfl, ⟨rfl, ⟨rfl, trivial⟩⟩⟩⟩ ?_
          exact zr_amend_J53 hx hG hw
  · replace hw := hw.2 hq
    refine z_iconst 1 rfl rfl ?_
    refine z_goto rfl ?_
    refine Z.forget' [some (.ref 148), some (.int l1), some (.int l2), some (.int l3), none, none] ⟨rfl, ⟨rfl, ⟨rfl, ⟨rfl, trivial⟩⟩⟩⟩ ?_
    exact zr_amend_J53 hx hG hw
def r_carry_J123 (post : Int32 → Mem → Prop)  (S : Mem) (l3 : Int32) : Prop :=
  r_goThrough (fun S1 =>
   post l3 S1) S (-1)
set_option maxRecDepth 100000 in
set_option maxHeartbeats 1000000 in
theorem zr_carry_J123 {g : Gm} {G : Gp} {post : Int32 → Mem → Prop} (hx : G.2.2.2 = false) (hG : isR G) {S : Mem} {l3 : Int32}  (hw : r_carry_J123 post S l3) : Z g M_r_carry 0 0 123 [some (.ref 148), none, none, some (.int l3), none] [] (S, G) (Qi G post noEx) := by
  unfold r_carry_J123 at hw
  refine z_aload_n rfl rfl ?_
  refine z_iconst (-1) rfl rfl ?_
  refine z_cvv (M' := M_r_goThrough) [.int (-1)] hx rfl w_742 cv_r_goThrough hG.1 (by decide) rfl rfl rfl rfl (zr_goThrough hx hG hw) ?_ (fun _ _ hf => hf.elim)
  clear hw
  intro S1 hw
  refine z_iload_n rfl rfl ?_
  exact z_iret rfl rfl rfl rfl (Or.inl ⟨_, _, rfl, rfl, hw⟩)
def r_carry (post : Int32 → Mem → Prop) (S : Mem) (l1 : Int32) (l2 : Int32) : Prop :=
  (vp_in (5 * l1) 160) ∧ (vp_in ((5 * l1) + 1) 160) ∧ ((¬ (S 157 (5 * l1).toNatClampNeg) = 0) →
   ((3 ≤ (S 157 (5 * l1).toNatClampNeg)) →
    (vp_in ((5 * l1) + 2) 160) ∧ (vp_in ((5 * l1) + (if l2 = 0 then 4 else 3 : Int32)) 160) ∧ (vp_in ((4 * (S 157 ((5 * l1) + 1).toNatClampNeg)) + (S 157 ((5 * l1) + 2).toNatClampNeg)) 96) ∧ ∀ S1, S1 = up2 S 150 ((4 * (S 157 ((5 * l1) + 1).toNatClampNeg)) + (S 157 ((5 * l1) + 2).toNatClampNeg)).toNatClampNeg (S 157 ((5 * l1) + (if l2 = 0 then 4 else 3 : Int32)).toNatClampNeg) → r_carry_J123 post S1 (S 157 (5 * l1).toNatClampNeg)) ∧
   ((¬ 3 ≤ (S 157 (5 * l1).toNatClampNeg)) →
    (vp_in (S 157 ((5 * l1) + 1).toNatClampNeg) 24) ∧ ∀ S2, S2 = up2 S 151 (S 157 ((5 * l1) + 1).toNatClampNeg).toNatClampNeg (vp_nar .boolean (if (if (S 157 (5 * l1).toNatClampNeg) = 1 then 1 else 0 : Int32) = l2 then 0 else 1 : Int32)) → r_carry_J123 post S2 (S 157 (5 * l1).toNatClampNeg))) ∧
  (((S 157 (5 * l1).toNatClampNeg) = 0) →
   ∀ S3, S3 = up2 S 148 1 (if l2 = 0 then ((S 148 1) + 1) else ((S 148 1) - 1) : Int32) → r_carry_J123 post S3 (S 157 (5 * l1).toNatClampNeg))
set_option maxRecDepth 100000 in
set_option maxHeartbeats 1000000 in
theorem zr_carry {g : Gm} {G : Gp} {S : Mem} {post : Int32 → Mem → Prop} {l1 : Int32} {l2 : Int32} (hx : G.2.2.2 = false) (hG : isR G) (hw : r_carry post S l1 l2) : Z g M_r_carry 0 0 0 (entryL [.ref 148, .int l1, .int l2] (mL M_r_carry)) [] (S, G) (Qi G post noEx) := by
  unfold r_carry at hw
  show Z g M_r_carry 0 0 0 [some (.ref 148), some (.int l1), some (.int l2), none, none] [] (S, G) (Qi G post noEx)
  refine z_aload_n rfl rfl ?_
  refine z_getr (ci := 7) 16 rfl hG.1 rfl w_674 hG.2.2.2.2.2.2.2.2.2.2.2.2.2.2.2.2.2.1 ?_
  refine z_iconst 5 rfl rfl ?_
  refine z_iload_n rfl rfl ?_
  refine z_imul rfl ?_
  obtain ⟨hc1, hw⟩ := hw
  refine z_iald ((5 * l1).toNatClampNeg) rfl hG.2.2.2.2.2.2.2.2.2.2.2.2.2.2.2.2.2.2 hc1 rfl ?_
  refine z_istore_n [some (.ref 148), some (.int l1), some (.int l2), some (.int (S 157 (5 * l1).toNatClampNeg)), none] rfl rfl rfl ?_
  refine z_aload_n rfl rfl ?_
  refine z_getr (ci := 7) 16 rfl hG.1 rfl w_674 hG.2.2.2.2.2.2.2.2.2.2.2.2.2.2.2.2.2.1 ?_
  refine z_iconst 5 rfl rfl ?_
  refine z_iload_n rfl rfl ?_
  refine z_imul rfl ?_
  refine z_iconst 1 rfl rfl ?_
  refine z_iadd rfl ?_
  obtain ⟨hc2, hw⟩ := hw
  refine z_iald (((5 * l1) + 1).toNatClampNeg) rfl hG.2.2.2.2.2.2.2.2.2.2.2.2.2.2.2.2.2.2 hc2 rfl ?_
  refine z_istore [some (.ref 148), some (.int l1), some (.int l2), some (.int (S 157 (5 * l1).toNatClampNeg)), some (.int (S 157 ((5 * l1) + 1).toNatClampNeg))] rfl rfl rfl ?_
  refine z_iload_n rfl rfl ?_
  refine z_if_ne rfl (fun hq => ?_) (fun hq => ?_)
  · replace hw := hw.1 hq
    refine z_iload_n rfl rfl ?_
    refine z_iconst 3 rfl rfl ?_
    refine z_icmp_ge rfl (fun hq => ?_) (fun hq => ?_)
    · replace hw := hw.1 hq
      refine z_aload_n rfl rfl ?_
      refine z_getr (ci := 7) 3 rfl hG.1 rfl w_661 hG.2.2.2.1 ?_
      refine z_iconst 4 rfl rfl ?_
      refine z_iload rfl rfl ?_
      refine z_imul rfl ?_
      refine z_aload_n rfl rfl ?_
      refine z_getr (ci := 7) 16 rfl hG.1 rfl w_674 hG.2.2.2.2.2.2.2.2.2.2.2.2.2.2.2.2.2.1 ?_
      refine z_iconst 5 rfl rfl ?_
      refine z_iload_n rfl rfl ?_
      refine z_imul rfl ?_
      refine z_iconst 2 rfl rfl ?_
      refine z_iadd rfl ?_
      obtain ⟨hc3, hw⟩ := hw
      refine z_iald (((5 * l1) + 2).toNatClampNeg) rfl hG.2.2.2.2.2.2.2.2.2.2.2.2.2.2.2.2.2.2 hc3 rfl ?_
      refine z_iadd rfl ?_
      refine z_aload_n rfl rfl ?_
      refine z_getr (ci := 7) 16 rfl hG.1 rfl w_674 hG.2.2.2.2.2.2.2.2.2.2.2.2.2.2.2.2.2.1 ?_
      refine z_iconst 5 rfl rfl ?_
      refine z_iload_n rfl rfl ?_
      refine z_imul rfl ?_
      refine z_iload_n rfl rfl ?_
      have hj112 : ∀ v : Int32, v = (if l2 = 0 then 4 else 3 : Int32) → Z g M_r_carry 0 0 120 [some (.ref 148), some (.int l1), some (.int l2), some (.int (S 157 (5 * l1).toNatClampNeg)), some (.int (S 157 ((5 * l1) + 1).toNatClampNeg))] [.int v, .int (5 * l1), .ref 157, .int ((4 * (S 157 ((5 * l1) + 1).toNatClampNeg)) + (S 157 ((5 * l1) + 2).toNatClampNeg)), .ref 150] (S, G) (Qi G post noEx) := by
        intro v hv
        subst hv
        refine z_iadd rfl ?_
        obtain ⟨hc4, hw⟩ := hw
        refine z_iald (((5 * l1) + (if l2 = 0 then 4 else 3 : Int32)).toNatClampNeg) rfl hG.2.2.2.2.2.2.2.2.2.2.2.2.2.2.2.2.2.2 hc4 rfl ?_
        obtain ⟨hc5, hw⟩ := hw
        replace hw := hw _ rfl
        refine z_iast (((4 * (S 157 ((5 * l1) + 1).toNatClampNeg)) + (S 157 ((5 * l1) + 2).toNatClampNeg)).toNatClampNeg) rfl hG.2.2.2.2.1 hc5 rfl ?_
        refine Z.forget' [some (.ref 148), none, none, some (.int (S 157 (5 * l1).toNatClampNeg)), none] ⟨rfl, ⟨rfl, trivial⟩⟩ ?_
        exact zr_carry_J123 hx hG hw
      refine z_if_eq rfl (fun hp112 => ?_) (fun hp112 => ?_)
      · refine z_iconst 4 rfl rfl ?_
        exact hj112 _ (by rw [if_pos hp112])
      · refine z_iconst 3 rfl rfl ?_
        refine z_goto rfl ?_
        exact hj112 _ (by rw [if_neg hp112])
    · replace hw := hw.2 hq
      refine z_aload_n rfl rfl ?_
      refine z_getr (ci := 7) 4 rfl hG.1 rfl w_662 hG.2.2.2.2.2.1 ?_
      refine z_iload rfl rfl ?_
      refine z_iload_n rfl rfl ?_
      refine z_iconst 1 rfl rfl ?_
      have hj64 : ∀ v : Int32, v = (if (S 157 (5 * l1).toNatClampNeg) = 1 then 1 else 0 : Int32) → Z g M_r_carry 0 0 72 [some (.ref 148), some (.int l1), some (.int l2), some (.int (S 157 (5 * l1).toNatClampNeg)), some (.int (S 157 ((5 * l1) + 1).toNatClampNeg))] [.int v, .int (S 157 ((5 * l1) + 1).toNatClampNeg), .ref 151] (S, G) (Qi G post noEx) := by
        intro v hv
        subst hv
        refine z_iload_n rfl rfl ?_
        have hj73 : ∀ v : Int32, v = (if (if (S 157 (5 * l1).toNatClampNeg) = 1 then 1 else 0 : Int32) = l2 then 0 else 1 : Int32) → Z g M_r_carry 0 0 81 [some (.ref 148), some (.int l1), some (.int l2), some (.int (S 157 (5 * l1).toNatClampNeg)), some (.int (S 157 ((5 * l1) + 1).toNatClampNeg))] [.int v, .int (S 157 ((5 * l1) + 1).toNatClampNeg), .ref 151] (S, G) (Qi G post noEx) := by
          intro v hv
          subst hv
          obtain ⟨hc7, hw⟩ := hw
          replace hw := hw _ rfl
          refine z_zast ((S 157 ((5 * l1) + 1).toNatClampNeg).toNatClampNeg) rfl hG.2.2.2.2.2.2.1 hc7 rfl ?_
          refine z_goto rfl ?_
          refine Z.forget' [some (.ref 148), none, none, some (.int (S 157 (5 * l1).toNatClampNeg)), none] ⟨rfl, ⟨rfl, trivial⟩⟩ ?_
          exact zr_carry_J123 hx hG hw
        refine z_icmp_eq rfl (fun hp73 => ?_) (fun hp73 => ?_)
        · refine z_iconst 0 rfl rfl ?_
          exact hj73 _ (by rw [if_pos hp73])
        · refine z_iconst 1 rfl rfl ?_
          refine z_goto rfl ?_
          exact hj73 _ (by rw [if_neg hp73])
      refine z_icmp_ne rfl (fun hp64 => ?_) (fun hp64 => ?_)
      · refine z_iconst 0 rfl rfl ?_
        exact hj64 _ (by rw [if_neg hp64])
      · refine z_iconst 1 rfl rfl ?_
        refine z_goto rfl ?_
        exact hj64 _ (by rw [if_pos hp64])
  · replace hw := hw.2 hq
    refine z_aload_n rfl rfl ?_
    refine z_iload_n rfl rfl ?_
    have hj27 : ∀ v : Int32, v = (if l2 = 0 then ((S 148 1) + 1) else ((S 148 1) - 1) : Int32) → Z g M_r_carry 0 0 45 [some (.ref 148), some (.int l1), some (.int l2), some (.int (S 157 (5 * l1).toNatClampNeg)), some (.int (S 157 ((5 * l1) + 1).toNatClampNeg))] [.int v, .ref 148] (S, G) (Qi G post noEx) := by
      intro v hv
      subst hv
      replace hw := hw _ rfl
      refine z_puti (ci := 7) 1 rfl hG.1 rfl w_659 rfl rfl rfl ?_
      refine z_goto rfl ?_
      refine Z.forget' [some (.ref 148), none, none, some (.int (S 157 (5 * l1).toNatClampNeg)), none] ⟨rfl, ⟨rfl, trivial⟩⟩ ?_
      exact zr_carry_J123 hx hG hw
    refine z_if_eq rfl (fun hp27 => ?_) (fun hp27 => ?_)
    · refine z_aload_n rfl rfl ?_
      refine z_geti (ci := 7) 1 rfl hG.1 rfl w_659 ?_
      refine z_iconst 1 rfl rfl ?_
      refine z_iadd rfl ?_
      exact hj27 _ (by rw [if_pos hp27])
    · refine z_aload_n rfl rfl ?_
      refine z_geti (ci := 7) 1 rfl hG.1 rfl w_659 ?_
      refine z_iconst 1 rfl rfl ?_
      refine z_isub rfl ?_
      refine z_goto rfl ?_
      exact hj27 _ (by rw [if_neg hp27])
def r_undo (post : Int32 → Mem → Prop) (S : Mem)  : Prop :=
  ∀ S1, S1 = up2 S 148 0 (if (S 148 18) = 0 then 1 else 0 : Int32) → (((S1 148 0) ≤ 0) →
   ∀ S2, S2 = up2 S1 148 18 ((S1 148 18) - 1) → r_carry (fun r1 S3 =>
    post r1 S3) S2 (S2 148 18) 1) ∧
  ((¬ (S1 148 0) ≤ 0) →
   post 0 S1)
set_option maxRecDepth 100000 in
set_option maxHeartbeats 1000000 in
theorem zr_undo {g : Gm} {G : Gp} {S : Mem} {post : Int32 → Mem → Prop}  (hx : G.2.2.2 = false) (hG : isR G) (hw : r_undo post S ) : Z g M_r_undo 0 0 0 (entryL [.ref 148] (mL M_r_undo)) [] (S, G) (Qi G post noEx) := by
  unfold r_undo at hw
  show Z g M_r_undo 0 0 0 [some (.ref 148)] [] (S, G) (Qi G post noEx)
  refine z_aload_n rfl rfl ?_
  refine z_aload_n rfl rfl ?_
  refine z_geti (ci := 7) 18 rfl hG.1 rfl w_676 ?_
  have hj5 : ∀ v : Int32, v = (if (S 148 18) = 0 then 1 else 0 : Int32) → Z g M_r_undo 0 0 13 [some (.ref 148)] [.int v, .ref 148] (S, G) (Qi G post noEx) := by
    intro v hv
    subst hv
    replace hw := hw _ rfl
    refine z_puti (ci := 7) 0 rfl hG.1 rfl w_658 rfl rfl rfl ?_
    refine z_aload_n rfl rfl ?_
    refine z_geti (ci := 7) 0 rfl hG.1 rfl w_658 ?_
    refine z_if_le rfl (fun hq => ?_) (fun hq => ?_)
    · replace hw := hw.1 hq
      refine z_aload_n rfl rfl ?_
      refine z_dup rfl rfl ?_
      refine z_geti (ci := 7) 18 rfl hG.1 rfl w_676 ?_
      refine z_iconst 1 rfl rfl ?_
      refine z_isub rfl ?_
      replace hw := hw _ rfl
      refine z_puti (ci := 7) 18 rfl hG.1 rfl w_676 rfl rfl rfl ?_
      refine z_aload_n rfl rfl ?_
      refine z_aload_n rfl rfl ?_
      refine z_geti (ci := 7) 18 rfl hG.1 rfl w_676 ?_
      refine z_iconst 1 rfl rfl ?_
      refine z_cvi (M' := M_r_carry) [.int ((up2 (up2 S 148 0 (if (S 148 18) = 0 then 1 else 0 : Int32)) 148 18 (((up2 S 148 0 (if (S 148 18) = 0 then 1 else 0 : Int32)) 148 18) - 1)) 148 18), .int 1] hx rfl w_883 cv_r_carry hG.1 (by decide) rfl rfl rfl rfl (zr_carry hx hG hw) ?_ (fun _ _ hf => hf.elim)
      clear hw
      intro r1 S3 hw
      exact z_iret rfl rfl rfl rfl (Or.inl ⟨_, _, rfl, rfl, hw⟩)
    · replace hw := hw.2 hq
      refine z_iconst 0 rfl rfl ?_
      exact z_iret rfl rfl rfl rfl (Or.inl ⟨_, _, rfl, rfl, hw⟩)
  refine z_if_ne rfl (fun hp5 => ?_) (fun hp5 => ?_)
  · refine z_iconst 0 rfl rfl ?_
    exact hj5 _ (by rw [if_neg hp5])
  · refine z_iconst 1 rfl rfl ?_
    refine z_goto rfl ?_
    exact hj5 _ (by rw [if_pos hp5])
def r_redo (post : Int32 → Mem → Prop) (S : Mem)  : Prop :=
  ∀ S1, S1 = up2 S 148 0 (if (S 148 18) = (S 148 17) then 1 else 0 : Int32) → (((S1 148 0) ≤ 0) →
   ∀ S2, S2 = up2 S1 148 18 ((S1 148 18) + 1) → r_carry (fun r1 S3 =>
    post r1 S3) S2 ((S2 148 18) - 1) 0) ∧
  ((¬ (S1 148 0) ≤ 0) →
   post 0 S1)
set_option maxRecDepth 100000 in
set_option maxHeartbeats 1000000 in
theorem zr_redo {g : Gm} {G : Gp} {S : Mem} {post : Int32 → Mem → Prop}  (hx : G.2.2.2 = false) (hG : isR G) (hw : r_redo post S ) : Z g M_r_redo 0 0 0 (entryL [.ref 148] (mL M_r_redo)) [] (S, G) (Qi G post noEx) := by
  unfold r_redo at hw
  show Z g M_r_redo 0 0 0 [some (.ref 148)] [] (S, G) (Qi G post noEx)
  refine z_aload_n rfl rfl ?_
  refine z_aload_n rfl rfl ?_
  refine z_geti (ci := 7) 18 rfl hG.1 rfl w_676 ?_
  refine z_aload_n rfl rfl ?_
  refine z_geti (ci := 7) 17 rfl hG.1 rfl w_675 ?_
  have hj9 : ∀ v : Int32, v = (if (S 148 18) = (S 148 17) then 1 else 0 : Int32) → Z g M_r_redo 0 0 17 [some (.ref 148)] [.int v, .ref 148] (S, G) (Qi G post noEx) := by
    intro v hv
    subst hv
    replace hw := hw _ rfl
    refine z_puti (ci := 7) 0 rfl hG.1 rfl w_658 rfl rfl rfl ?_
    refine z_aload_n rfl rfl ?_
    refine z_geti (ci := 7) 0 rfl hG.1 rfl w_658 ?_
    refine z_if_le rfl (fun hq => ?_) (fun hq => ?_)
    · replace hw := hw.1 hq
      refine z_aload_n rfl rfl ?_
      refine z_dup rfl rfl ?_
      refine z_geti (ci := 7) 18 rfl hG.1 rfl w_676 ?_
      refine z_iconst 1 rfl rfl ?_
      refine z_iadd rfl ?_
      replace hw := hw _ rfl
      refine z_puti (ci := 7) 18 rfl hG.1 rfl w_676 rfl rfl rfl ?_
      refine z_aload_n rfl rfl ?_
      refine z_aload_n rfl rfl ?_
      refine z_geti (ci := 7) 18 rfl hG.1 rfl w_676 ?_
      refine z_iconst 1 rfl rfl ?_
      refine z_isub rfl ?_
      refine z_iconst 0 rfl rfl ?_
      refine z_cvi (M' := M_r_carry) [.int (((up2 (up2 S 148 0 (if (S 148 18) = (S 148 17) then 1 else 0 : Int32)) 148 18 (((up2 S 148 0 (if (S 148 18) = (S 148 17) then 1 else 0 : Int32)) 148 18) + 1)) 148 18) - 1), .int 0] hx rfl w_883 cv_r_carry hG.1 (by decide) rfl rfl rfl rfl (zr_carry hx hG hw) ?_ (fun _ _ hf => hf.elim)
      clear hw
      intro r1 S3 hw
      exact z_iret rfl rfl rfl rfl (Or.inl ⟨_, _, rfl, rfl, hw⟩)
    · replace hw := hw.2 hq
      refine z_iconst 0 rfl rfl ?_
      exact z_iret rfl rfl rfl rfl (Or.inl ⟨_, _, rfl, rfl, hw⟩)
  refine z_icmp_ne rfl (fun hp9 => ?_) (fun hp9 => ?_)
  · refine z_iconst 0 rfl rfl ?_
    exact hj9 _ (by rw [if_neg hp9])
  · refine z_iconst 1 rfl rfl ?_
    refine z_goto rfl ?_
    exact hj9 _ (by rw [if_pos hp9])
def r_actions (post : Int32 → Mem → Prop) (S : Mem)  : Prop :=
  ∀ S1, S1 = up2 S 148 0 0 → post (S1 148 1) S1
set_option maxRecDepth 100000 in
set_option maxHeartbeats 1000000 in
theorem zr_actions {g : Gm} {G : Gp} {S : Mem} {post : Int32 → Mem → Prop}  (hx : G.2.2.2 = false) (hG : isR G) (hw : r_actions post S ) : Z g M_r_actions 0 0 0 (entryL [.ref 148] (mL M_r_actions)) [] (S, G) (Qi G post noEx) := by
  unfold r_actions at hw
  show Z g M_r_actions 0 0 0 [some (.ref 148)] [] (S, G) (Qi G post noEx)
  refine z_aload_n rfl rfl ?_
  refine z_iconst 0 rfl rfl ?_
  replace hw := hw _ rfl
  refine z_puti (ci := 7) 0 rfl hG.1 rfl w_658 rfl rfl rfl ?_
  refine z_aload_n rfl rfl ?_
  refine z_geti (ci := 7) 1 rfl hG.1 rfl w_659 ?_
  exact z_iret rfl rfl rfl rfl (Or.inl ⟨_, _, rfl, rfl, hw⟩)
def r_argument (post : Int32 → Mem → Prop) (S : Mem) (l1 : Int32) (l2 : Int32) : Prop :=
  r_isAction (fun r1 S1 =>
   ∀ S2, S2 = up2 S1 148 0 (if r1 = 0 then 1 else (if l2 < 0 then 1 else (if 5 ≤ l2 then 1 else 0 : Int32) : Int32) : Int32) → (((S2 148 0) ≤ 0 → (l2 = 4 → (vp_in l1 24)) ∧ (¬ l2 = 4 → (vp_in ((4 * l1) + l2) 96)))) ∧ 
   post (if (S2 148 0) ≤ 0 then (if l2 = 4 then (S2 149 l1.toNatClampNeg) else (S2 150 ((4 * l1) + l2).toNatClampNeg) : Int32) else 0 : Int32) S2) S l1
set_option maxRecDepth 100000 in
set_option maxHeartbeats 1000000 in
theorem zr_argument {g : Gm} {G : Gp} {S : Mem} {post : Int32 → Mem → Prop} {l1 : Int32} {l2 : Int32} (hx : G.2.2.2 = false) (hG : isR G) (hw : r_argument post S l1 l2) : Z g M_r_argument 0 0 0 (entryL [.ref 148, .int l1, .int l2] (mL M_r_argument)) [] (S, G) (Qi G post noEx) := by
  unfold r_argument at hw
  show Z g M_r_argument 0 0 0 [some (.ref 148), some (.int l1), some (.int l2)] [] (S, G) (Qi G post noEx)
  refine z_aload_n rfl rfl ?_
  refine z_aload_n rfl rfl ?_
  refine z_iload_n rfl rfl ?_
  refine z_cvi (M' := M_r_isAction) [.int l1] hx rfl w_859 cv_r_isAction hG.1 (by decide) rfl rfl rfl rfl (zr_isAction hx hG hw) ?_ (fun _ _ hf => hf.elim)
  clear hw
  intro r1 S1 hw
  have hj6 : ∀ v : Int32, v = (if r1 = 0 then 1 else (if l2 < 0 then 1 else (if 5 ≤ l2 then 1 else 0 : Int32) : Int32) : Int32) → Z g M_r_argument 0 0 23 [some (.ref 148), some (.int l1), some (.int l2)] [.int v, .ref 148] (S1, G) (Qi G post noEx) := by
    intro v hv
    subst hv
    replace hw := hw _ rfl
    refine z_puti (ci := 7) 0 rfl hG.1 rfl w_658 rfl rfl rfl ?_
    refine z_aload_n rfl rfl ?_
    refine z_geti (ci := 7) 0 rfl hG.1 rfl w_658 ?_
    obtain ⟨hc1, hw⟩ := hw
    have hj30 : ∀ v : Int32, v = (if ((up2 S1 148 0 (if r1 = 0 then 1 else (if l2 < 0 then 1 else (if 5 ≤ l2 then 1 else 0 : Int32) : Int32) : Int32)) 148 0) ≤ 0 then (if l2 = 4 then ((up2 S1 148 0 (if r1 = 0 then 1 else (if l2 < 0 then 1 else (if 5 ≤ l2 then 1 else 0 : Int32) : Int32) : Int32)) 149 l1.toNatClampNeg) else ((up2 S1 148 0 (if r1 = 0 then 1 else (if l2 < 0 then 1 else (if 5 ≤ l2 then 1 else 0 : Int32) : Int32) : Int32)) 150 ((4 * l1) + l2).toNatClampNeg) : Int32) else 0 : Int32) → Z g M_r_argument 0 0 57 [some (.ref 148), some (.int l1), some (.int l2)] [.int v] ((up2 S1 148 0 (if r1 = 0 then 1 else (if l2 < 0 then 1 else (if 5 ≤ l2 then 1 else 0 : Int32) : Int32) : Int32)), G) (Qi G post noEx) := by
      intro v hv
      subst hv
      exact z_iret rfl rfl rfl rfl (Or.inl ⟨_, _, rfl, rfl, hw⟩)
    refine z_if_le rfl (fun hp30 => ?_) (fun hp30 => ?_)
    · refine z_iload_n rfl rfl ?_
      refine z_iconst 4 rfl rfl ?_
      refine z_icmp_ne rfl (fun hp39 => ?_) (fun hp39 => ?_)
      · refine z_aload_n rfl rfl ?_
        refine z_iload_n rfl rfl ?_
        refine z_iload_n rfl rfl ?_
        refine z_cvi (M' := M_r_arg) (post := fun v S' => ((up2 S1 148 0 (if r1 = 0 then 1 else (if l2 < 0 then 1 else (if 5 ≤ l2 then 1 else 0 : Int32) : Int32) : Int32)) 150 ((4 * l1) + l2).toNatClampNeg) = v ∧ (up2 S1 148 0 (if r1 = 0 then 1 else (if l2 < 0 then 1 else (if 5 ≤ l2 then 1 else 0 : Int32) : Int32) : Int32)) = S') [.int l1, .int l2] hx rfl w_734 cv_r_arg hG.1 (by decide) rfl rfl rfl rfl (zr_arg hx hG  (⟨((hc1 hp30).2 hp39), ⟨rfl, rfl⟩⟩)) ?_ (fun _ _ hf => hf.elim)
        rintro v S' ⟨rfl, rfl⟩
        exact hj30 _ (by rw [if_pos hp30, if_neg hp39])
      · refine z_aload_n rfl rfl ?_
        refine z_getr (ci := 7) 2 rfl hG.1 rfl w_660 hG.2.1 ?_
        refine z_iload_n rfl rfl ?_
        refine z_iald (l1.toNatClampNeg) rfl hG.2.2.1 ((hc1 hp30).1 hp39) rfl ?_
        refine z_goto rfl ?_
        exact hj30 _ (by rw [if_pos hp30, if_pos hp39])
    · refine z_iconst 0 rfl rfl ?_
      refine z_goto rfl ?_
      exact hj30 _ (by rw [if_neg hp30])
  refine z_if_eq rfl (fun hp6 => ?_) (fun hp6 => ?_)
  · refine z_iconst 1 rfl rfl ?_
    exact hj6 _ (by rw [if_pos hp6])
  · refine z_iload_n rfl rfl ?_
    refine z_if_lt rfl (fun hp10 => ?_) (fun hp10 => ?_)
    · refine z_iconst 1 rfl rfl ?_
      exact hj6 _ (by rw [if_neg hp6, if_pos hp10])
    · refine z_iload_n rfl rfl ?_
      refine z_iconst 5 rfl rfl ?_
      refine z_icmp_ge rfl (fun hp15 => ?_) (fun hp15 => ?_)
      · refine z_iconst 1 rfl rfl ?_
        exact hj6 _ (by rw [if_neg hp6, if_neg hp10, if_pos hp15])
      · refine z_iconst 0 rfl rfl ?_
        refine z_goto rfl ?_
        exact hj6 _ (by rw [if_neg hp6, if_neg hp10, if_neg hp15])
def r_effect (post : Int32 → Mem → Prop) (S : Mem) (l1 : Int32) : Prop :=
  r_isAction (fun r1 S1 =>
   ∀ S2, S2 = up2 S1 148 0 (if r1 = 0 then 1 else 0 : Int32) → (((S2 148 0) ≤ 0 → (vp_in l1 24))) ∧ 
   post (if (S2 148 0) ≤ 0 then (S2 152 l1.toNatClampNeg) else 0 : Int32) S2) S l1
set_option maxRecDepth 100000 in
set_option maxHeartbeats 1000000 in
theorem zr_effect {g : Gm} {G : Gp} {S : Mem} {post : Int32 → Mem → Prop} {l1 : Int32} (hx : G.2.2.2 = false) (hG : isR G) (hw : r_effect post S l1) : Z g M_r_effect 0 0 0 (entryL [.ref 148, .int l1] (mL M_r_effect)) [] (S, G) (Qi G post noEx) := by
  unfold r_effect at hw
  show Z g M_r_effect 0 0 0 [some (.ref 148), some (.int l1)] [] (S, G) (Qi G post noEx)
  refine z_aload_n rfl rfl ?_
  refine z_aload_n rfl rfl ?_
  refine z_iload_n rfl rfl ?_
  refine z_cvi (M' := M_r_isAction) [.int l1] hx rfl w_859 cv_r_isAction hG.1 (by decide) rfl rfl rfl rfl (zr_isAction hx hG hw) ?_ (fun _ _ hf => hf.elim)
  clear hw
  intro r1 S1 hw
  have hj6 : ∀ v : Int32, v = (if r1 = 0 then 1 else 0 : Int32) → Z g M_r_effect 0 0 14 [some (.ref 148), some (.int l1)] [.int v, .ref 148] (S1, G) (Qi G post noEx) := by
    intro v hv
    subst hv
    replace hw := hw _ rfl
    refine z_puti (ci := 7) 0 rfl hG.1 rfl w_658 rfl rfl rfl ?_
    refine z_aload_n rfl rfl ?_
    refine z_geti (ci := 7) 0 rfl hG.1 rfl w_658 ?_
    obtain ⟨hc1, hw⟩ := hw
    have hj21 : ∀ v : Int32, v = (if ((up2 S1 148 0 (if r1 = 0 then 1 else 0 : Int32)) 148 0) ≤ 0 then ((up2 S1 148 0 (if r1 = 0 then 1 else 0 : Int32)) 152 l1.toNatClampNeg) else 0 : Int32) → Z g M_r_effect 0 0 34 [some (.ref 148), some (.int l1)] [.int v] ((up2 S1 148 0 (if r1 = 0 then 1 else 0 : Int32)), G) (Qi G post noEx) := by
      intro v hv
      subst hv
      exact z_iret rfl rfl rfl rfl (Or.inl ⟨_, _, rfl, rfl, hw⟩)
    refine z_if_le rfl (fun hp21 => ?_) (fun hp21 => ?_)
    · refine z_aload_n rfl rfl ?_
      refine z_getr (ci := 7) 5 rfl hG.1 rfl w_663 hG.2.2.2.2.2.2.2.1 ?_
      refine z_iload_n rfl rfl ?_
      refine z_iald (l1.toNatClampNeg) rfl hG.2.2.2.2.2.2.2.2.1 (hc1 hp21) rfl ?_
      exact hj21 _ (by rw [if_pos hp21])
    · refine z_iconst 0 rfl rfl ?_
      refine z_goto rfl ?_
      exact hj21 _ (by rw [if_neg hp21])
  refine z_if_eq rfl (fun hp6 => ?_) (fun hp6 => ?_)
  · refine z_iconst 1 rfl rfl ?_
    exact hj6 _ (by rw [if_pos hp6])
  · refine z_iconst 0 rfl rfl ?_
    refine z_goto rfl ?_
    exact hj6 _ (by rw [if_neg hp6])
def r_needed_J97 (post : Int32 → Mem → Prop)  (S : Mem) (l4 : Int32) : Prop :=
  r_goThrough (fun S1 =>
   post l4 S1) S (-1)
set_option maxRecDepth 100000 in
set_option maxHeartbeats 1000000 in
theorem zr_needed_J97 {g : Gm} {G : Gp} {post : Int32 → Mem → Prop} (hx : G.2.2.2 = false) (hG : isR G) {S : Mem} {l4 : Int32}  (hw : r_needed_J97 post S l4) : Z g M_r_needed 0 0 97 [some (.ref 148), none, none, none, some (.int l4), none] [] (S, G) (Qi G post noEx) := by
  unfold r_needed_J97 at hw
  refine z_aload_n rfl rfl ?_
  refine z_iconst (-1) rfl rfl ?_
  refine z_cvv (M' := M_r_goThrough) [.int (-1)] hx rfl w_742 cv_r_goThrough hG.1 (by decide) rfl rfl rfl rfl (zr_goThrough hx hG hw) ?_ (fun _ _ hf => hf.elim)
  clear hw
  intro S1 hw
  refine z_iload rfl rfl ?_
  exact z_iret rfl rfl rfl rfl (Or.inl ⟨_, _, rfl, rfl, hw⟩)
def r_needed_L45 (post : Int32 → Mem → Prop)  : Nat → Mem → Int32 → Int32 → Int32 → Prop
  | 0, _, _, _, _ => False
  | n + 1, S, l3, l4, l5 =>
  (((S 148 1) ≤ l5) →
   r_needed_J97 post S l4) ∧
  ((¬ (S 148 1) ≤ l5) →
   ((0 ≤ l4) →
    r_needed_J97 post S l4) ∧
   ((¬ 0 ≤ l4) →
    (vp_in l5 24) ∧ (vp_in l5 24) ∧ (((S 152 l5.toNatClampNeg) = (S 153 l5.toNatClampNeg)) →
     r_needed_L45 post n S l3 l4 (l5 + 1)) ∧
    ((¬ (S 152 l5.toNatClampNeg) = (S 153 l5.toNatClampNeg)) →
     r_needed_L45 post n S (l3 + (-1)) (if l3 = 0 then l5 else (-1) : Int32) (l5 + 1))))
set_option maxRecDepth 100000 in
set_option maxHeartbeats 1000000 in
theorem zr_needed_L45 {g : Gm} {G : Gp} {post : Int32 → Mem → Prop} (hx : G.2.2.2 = false) (hG : isR G) : ∀ (n : Nat) {S : Mem} {l3 : Int32} {l4 : Int32} {l5 : Int32} , r_needed_L45 post n S l3 l4 l5 → Z g M_r_needed 0 0 45 [some (.ref 148), none, none, some (.int l3), some (.int l4), some (.int l5)] [] (S, G) (Qi G post noEx) := by
  intro n
  induction n with
  | zero =>
    intros
    rename_i hw
    exact hw.elim
  | succ n ih =>
    intro S l3 l4 l5 hw
    rw [r_needed_L45] at hw
    refine z_iload rfl rfl ?_
    refine z_aload_n rfl rfl ?_
    refine z_geti (ci := 7) 1 rfl hG.1 rfl w_659 ?_
    refine z_icmp_ge rfl (fun hq => ?_) (fun hq => ?_)
    · replace hw := hw.1 hq
      refine Z.forget' [some (.ref 148), none, none, none, some (.int l4), none] ⟨rfl, ⟨rfl, trivial⟩⟩ ?_
      exact zr_needed_J97 hx hG hw
    · replace hw := hw.2 hq
      refine z_iload rfl rfl ?_
      refine z_if_ge rfl (fun hq => ?_) (fun hq => ?_)
      · replace hw := hw.1 hq
        refine Z.forget' [some (.ref 148), none, none, none, some (.int l4), none] ⟨rfl, ⟨rfl, trivial⟩⟩ ?_
        exact zr_needed_J97 hx hG hw
      · replace hw := hw.2 hq
        refine z_aload_n rfl rfl ?_
        refine z_getr (ci := 7) 5 rfl hG.1 rfl w_663 hG.2.2.2.2.2.2.2.1 ?_
        refine z_iload rfl rfl ?_
        obtain ⟨hc1, hw⟩ := hw
        refine z_iald (l5.toNatClampNeg) rfl hG.2.2.2.2.2.2.2.2.1 hc1 rfl ?_
        refine z_aload_n rfl rfl ?_
        refine z_getr (ci := 7) 6 rfl hG.1 rfl w_664 hG.2.2.2.2.2.2.2.2.2.1 ?_
        refine z_iload rfl rfl ?_
        obtain ⟨hc2, hw⟩ := hw
        refine z_iald (l5.toNatClampNeg) rfl hG.2.2.2.2.2.2.2.2.2.2.1 hc2 rfl ?_
        refine z_icmp_eq rfl (fun hq => ?_) (fun hq => ?_)
        · replace hw := hw.1 hq
          refine z_iinc 1 [some (.ref 148), none, none, some (.int l3), some (.int l4), some (.int (l5 + 1))] rfl rfl rfl rfl ?_
          refine z_goto rfl ?_
          refine Z.forget' [some (.ref 148), none, none, some (.int l3), some (.int l4), some (.int (l5 + 1))] ⟨rfl, ⟨rfl, ⟨rfl, ⟨rfl, trivial⟩⟩⟩⟩ ?_
          exact ih hw
        · replace hw := hw.2 hq
          refine z_iload_n rfl rfl ?_
          have hj77 : ∀ v : Int32, v = (if l3 = 0 then l5 else (-1) : Int32) → Z g M_r_needed 0 0 86 [some (.ref 148), none, none, some (.int l3), some (.int l4), some (.int l5)] [.int v] (S, G) (Qi G post noEx) := by
            intro v hv
            subst hv
            refine z_istore [some (.ref 148), none, none, some (.int l3), some (.int (if l3 = 0 then l5 else (-1) : Int32)), some (.int l5)] rfl rfl rfl ?_
            refine z_iinc (-1) [some (.ref 148), none, none, some (.int (l3 + (-1))), some (.int (if l3 = 0 then l5 else (-1) : Int32)), some (.int l5)] rfl rfl rfl rfl ?_
            refine z_iinc 1 [some (.ref 148), none, none, some (.int (l3 + (-1))), some (.int (if l3 = 0 then l5 else (-1) : Int32)), some (.int (l5 + 1))] rfl rfl rfl rfl ?_
            refine z_goto rfl ?_
            refine Z.forget' [some (.ref 148), none, none, some (.int (l3 + (-1))), some (.int (if l3 = 0 then l5 else (-1) : Int32)), some (.int (l5 + 1))] ⟨rfl, ⟨rfl, ⟨rfl, ⟨rfl, trivial⟩⟩⟩⟩ ?_
            exact ih hw
          refine z_if_ne rfl (fun hp77 => ?_) (fun hp77 => ?_)
          · refine z_iconst (-1) rfl rfl ?_
            exact hj77 _ (by rw [if_neg hp77])
          · refine z_iload rfl rfl ?_
            refine z_goto rfl ?_
            exact hj77 _ (by rw [if_pos hp77])
def r_needed (post : Int32 → Mem → Prop) (S : Mem) (l1 : Int32) (l2 : Int32) : Prop :=
  r_isAction (fun r1 S1 =>
   ∀ S2, S2 = up2 S1 148 0 (if r1 = 0 then 1 else 0 : Int32) → (((S2 148 0) ≤ 0) →
    r_remember (fun S3 =>
     r_goThrough (fun S4 =>
      ∃ n, r_needed_L45 post n S4 l2 (-1) (l1 + 1)) S3 l1) S2 ) ∧
   ((¬ (S2 148 0) ≤ 0) →
    post 0 S2)) S l1
set_option maxRecDepth 100000 in
set_option maxHeartbeats 1000000 in
theorem zr_needed {g : Gm} {G : Gp} {S : Mem} {post : Int32 → Mem → Prop} {l1 : Int32} {l2 : Int32} (hx : G.2.2.2 = false) (hG : isR G) (hw : r_needed post S l1 l2) : Z g M_r_needed 0 0 0 (entryL [.ref 148, .int l1, .int l2] (mL M_r_needed)) [] (S, G) (Qi G post noEx) := by
  unfold r_needed at hw
  show Z g M_r_needed 0 0 0 [some (.ref 148), some (.int l1), some (.int l2), none, none, none] [] (S, G) (Qi G post noEx)
  refine z_aload_n rfl rfl ?_
  refine z_aload_n rfl rfl ?_
  refine z_iload_n rfl rfl ?_
  refine z_cvi (M' := M_r_isAction) [.int l1] hx rfl w_859 cv_r_isAction hG.1 (by decide) rfl rfl rfl rfl (zr_isAction hx hG hw) ?_ (fun _ _ hf => hf.elim)
  clear hw
  intro r1 S1 hw
  have hj6 : ∀ v : Int32, v = (if r1 = 0 then 1 else 0 : Int32) → Z g M_r_needed 0 0 14 [some (.ref 148), some (.int l1), some (.int l2), none, none, none] [.int v, .ref 148] (S1, G) (Qi G post noEx) := by
    intro v hv
    subst hv
    replace hw := hw _ rfl
    refine z_puti (ci := 7) 0 rfl hG.1 rfl w_658 rfl rfl rfl ?_
    refine z_aload_n rfl rfl ?_
    refine z_geti (ci := 7) 0 rfl hG.1 rfl w_658 ?_
    refine z_if_le rfl (fun hq => ?_) (fun hq => ?_)
    · replace hw := hw.1 hq
      refine z_aload_n rfl rfl ?_
      refine z_cvv (M' := M_r_remember) [] hx rfl w_863 cv_r_remember hG.1 (by decide) rfl rfl rfl rfl (zr_remember hx hG hw) ?_ (fun _ _ hf => hf.elim)
      clear hw
      intro S3 hw
      refine z_aload_n rfl rfl ?_
      refine z_iload_n rfl rfl ?_
      refine z_cvv (M' := M_r_goThrough) [.int l1] hx rfl w_742 cv_r_goThrough hG.1 (by decide) rfl rfl rfl rfl (zr_goThrough hx hG hw) ?_ (fun _ _ hf => hf.elim)
      clear hw
      intro S4 hw
      refine z_iload_n rfl rfl ?_
      refine z_istore_n [some (.ref 148), some (.int l1), some (.int l2), some (.int l2), none, none] rfl rfl rfl ?_
      refine z_iconst (-1) rfl rfl ?_
      refine z_istore [some (.ref 148), some (.int l1), some (.int l2), some (.int l2), some (.int (-1)), none] rfl rfl rfl ?_
      refine z_iload_n rfl rfl ?_
      refine z_iconst 1 rfl rfl ?_
      refine z_iadd rfl ?_
      refine z_istore [some (.ref 148), some (.int l1), some (.int l2), some (.int l2), some (.int (-1)), some (.int (l1 + 1))] rfl rfl rfl ?_
      refine Z.forget' [some (.ref 148), none, none, some (.int l2), some (.int (-1)), some (.int (l1 + 1))] ⟨rfl, ⟨rfl, ⟨rfl, ⟨rfl, trivial⟩⟩⟩⟩ ?_
      obtain ⟨n, hw⟩ := hw
      exact zr_needed_L45 hx hG n hw
    · replace hw := hw.2 hq
      refine z_iconst 0 rfl rfl ?_
      exact z_iret rfl rfl rfl rfl (Or.inl ⟨_, _, rfl, rfl, hw⟩)
  refine z_if_eq rfl (fun hp6 => ?_) (fun hp6 => ?_)
  · refine z_iconst 1 rfl rfl ?_
    exact hj6 _ (by rw [if_pos hp6])
  · refine z_iconst 0 rfl rfl ?_
    refine z_goto rfl ?_
    exact hj6 _ (by rw [if_neg hp6])
def r_needs_J91 (post : Int32 → Mem → Prop)  (S : Mem) (l5 : Int32) : Prop :=
  r_goThrough (fun S1 =>
   post l5 S1) S (-1)
set_option maxRecDepth 100000 in
set_option maxHeartbeats 1000000 in
theorem zr_needs_J91 {g : Gm} {G : Gp} {post : Int32 → Mem → Prop} (hx : G.2.2.2 = false) (hG : isR G) {S : Mem} {l5 : Int32}  (hw : r_needs_J91 post S l5) : Z g M_r_needs 0 0 91 [some (.ref 148), none, none, none, none, some (.int l5), none] [] (S, G) (Qi G post noEx) := by
  unfold r_needs_J91 at hw
  refine z_aload_n rfl rfl ?_
  refine z_iconst (-1) rfl rfl ?_
  refine z_cvv (M' := M_r_goThrough) [.int (-1)] hx rfl w_742 cv_r_goThrough hG.1 (by decide) rfl rfl rfl rfl (zr_goThrough hx hG hw) ?_ (fun _ _ hf => hf.elim)
  clear hw
  intro S1 hw
  refine z_iload rfl rfl ?_
  exact z_iret rfl rfl rfl rfl (Or.inl ⟨_, _, rfl, rfl, hw⟩)
def r_needs_L42 (post : Int32 → Mem → Prop)  : Nat → Mem → Int32 → Int32 → Int32 → Int32 → Int32 → Prop
  | 0, _, _, _, _, _, _ => False
  | n + 1, S, l1, l3, l4, l5, l6 =>
  ((l1 ≤ l6) →
   r_needs_J91 post S l5) ∧
  ((¬ l1 ≤ l6) →
   ((0 ≤ l5) →
    r_needs_J91 post S l5) ∧
   ((¬ 0 ≤ l5) →
    r_goThrough (fun S1 =>
     (vp_in l1 24) ∧ (((S1 152 l1.toNatClampNeg) = l3) →
      r_needs_L42 post n S1 l1 l3 l4 l5 (l6 + 1)) ∧
     ((¬ (S1 152 l1.toNatClampNeg) = l3) →
      r_needs_L42 post n S1 l1 l3 (l4 + (-1)) (if l4 = 0 then l6 else (-1) : Int32) (l6 + 1))) S l6))
set_option maxRecDepth 100000 in
set_option maxHeartbeats 1000000 in
theorem zr_needs_L42 {g : Gm} {G : Gp} {post : Int32 → Mem → Prop} (hx : G.2.2.2 = false) (hG : isR G) : ∀ (n : Nat) {S : Mem} {l1 : Int32} {l3 : Int32} {l4 : Int32} {l5 : Int32} {l6 : Int32} , r_needs_L42 post n S l1 l3 l4 l5 l6 → Z g M_r_needs 0 0 42 [some (.ref 148), some (.int l1), none, some (.int l3), some (.int l4), some (.int l5), some (.int l6)] [] (S, G) (Qi G post noEx) := by
  intro n
  induction n with
  | zero =>
    intros
    rename_i hw
    exact hw.elim
  | succ n ih =>
    intro S l1 l3 l4 l5 l6 hw
    rw [r_needs_L42] at hw
    refine z_iload rfl rfl ?_
    refine z_iload_n rfl rfl ?_
    refine z_icmp_ge rfl (fun hq => ?_) (fun hq => ?_)
    · replace hw := hw.1 hq
      refine Z.forget' [some (.ref 148), none, none, none, none, some (.int l5), none] ⟨rfl, ⟨rfl, trivial⟩⟩ ?_
      exact zr_needs_J91 hx hG hw
    · replace hw := hw.2 hq
      refine z_iload rfl rfl ?_
      refine z_if_ge rfl (fun hq => ?_) (fun hq => ?_)
      · replace hw := hw.1 hq
        refine Z.forget' [some (.ref 148), none, none, none, none, some (.int l5), none] ⟨rfl, ⟨rfl, trivial⟩⟩ ?_
        exact zr_needs_J91 hx hG hw
      · replace hw := hw.2 hq
        refine z_aload_n rfl rfl ?_
        refine z_iload rfl rfl ?_
        refine z_cvv (M' := M_r_goThrough) [.int l6] hx rfl w_742 cv_r_goThrough hG.1 (by decide) rfl rfl rfl rfl (zr_goThrough hx hG hw) ?_ (fun _ _ hf => hf.elim)
        clear hw
        intro S1 hw
        refine z_aload_n rfl rfl ?_
        refine z_getr (ci := 7) 5 rfl hG.1 rfl w_663 hG.2.2.2.2.2.2.2.1 ?_
        refine z_iload_n rfl rfl ?_
        obtain ⟨hc1, hw⟩ := hw
        refine z_iald (l1.toNatClampNeg) rfl hG.2.2.2.2.2.2.2.2.1 hc1 rfl ?_
        refine z_iload_n rfl rfl ?_
        refine z_icmp_eq rfl (fun hq => ?_) (fun hq => ?_)
        · replace hw := hw.1 hq
          refine z_iinc 1 [some (.ref 148), some (.int l1), none, some (.int l3), some (.int l4), some (.int l5), some (.int (l6 + 1))] rfl rfl rfl rfl ?_
          refine z_goto rfl ?_
          refine Z.forget' [some (.ref 148), some (.int l1), none, some (.int l3), some (.int l4), some (.int l5), some (.int (l6 + 1))] ⟨rfl, ⟨rfl, ⟨rfl, ⟨rfl, ⟨rfl, ⟨rfl, trivial⟩⟩⟩⟩⟩⟩ ?_
          exact ih hw
        · replace hw := hw.2 hq
          refine z_iload rfl rfl ?_
          have hj71 : ∀ v : Int32, v = (if l4 = 0 then l6 else (-1) : Int32) → Z g M_r_needs 0 0 80 [some (.ref 148), some (.int l1), none, some (.int l3), some (.int l4), some (.int l5), some (.int l6)] [.int v] (S1, G) (Qi G post noEx) := by
            intro v hv
            subst hv
            refine z_istore [some (.ref 148), some (.int l1), none, some (.int l3), some (.int l4), some (.int (if l4 = 0 then l6 else (-1) : Int32)), some (.int l6)] rfl rfl rfl ?_
            refine z_iinc (-1) [some (.ref 148), some (.int l1), none, some (.int l3), some (.int (l4 + (-1))), some (.int (if l4 = 0 then l6 else (-1) : Int32)), some (.int l6)] rfl rfl rfl rfl ?_
            refine z_iinc 1 [some (.ref 148), some (.int l1), none, some (.int l3), some (.int (l4 + (-1))), some (.int (if l4 = 0 then l6 else (-1) : Int32)), some (.int (l6 + 1))] rfl rfl rfl rfl ?_
            refine z_goto rfl ?_
            refine Z.forget' [some (.ref 148), some (.int l1), none, some (.int l3), some (.int (l4 + (-1))), some (.int (if l4 = 0 then l6 else (-1) : Int32)), some (.int (l6 + 1))] ⟨rfl, ⟨rfl, ⟨rfl, ⟨rfl, ⟨rfl, ⟨rfl, trivial⟩⟩⟩⟩⟩⟩ ?_
            exact ih hw
          refine z_if_ne rfl (fun hp71 => ?_) (fun hp71 => ?_)
          · refine z_iconst (-1) rfl rfl ?_
            exact hj71 _ (by rw [if_neg hp71])
          · refine z_iload rfl rfl ?_
            refine z_goto rfl ?_
            exact hj71 _ (by rw [if_pos hp71])
def r_needs (post : Int32 → Mem → Prop) (S : Mem) (l1 : Int32) (l2 : Int32) : Prop :=
  r_isAction (fun r1 S1 =>
   ∀ S2, S2 = up2 S1 148 0 (if r1 = 0 then 1 else 0 : Int32) → (((S2 148 0) ≤ 0) →
    (vp_in l1 24) ∧ ∃ n, r_needs_L42 post n S2 l1 (S2 152 l1.toNatClampNeg) l2 (-1) 0) ∧
   ((¬ (S2 148 0) ≤ 0) →
    post 0 S2)) S l1
set_option maxRecDepth 100000 in
set_option maxHeartbeats 1000000 in
theorem zr_needs {g : Gm} {G : Gp} {S : Mem} {post : Int32 → Mem → Prop} {l1 : Int32} {l2 : Int32} (hx : G.2.2.2 = false) (hG : isR G) (hw : r_needs post S l1 l2) : Z g M_r_needs 0 0 0 (entryL [.ref 148, .int l1, .int l2] (mL M_r_needs)) [] (S, G) (Qi G post noEx) := by
  unfold r_needs at hw
  show Z g M_r_needs 0 0 0 [some (.ref 148), some (.int l1), some (.int l2), none, none, none, none] [] (S, G) (Qi G post noEx)
  refine z_aload_n rfl rfl ?_
  refine z_aload_n rfl rfl ?_
  refine z_iload_n rfl rfl ?_
  refine z_cvi (M' := M_r_isAction) [.int l1] hx rfl w_859 cv_r_isAction hG.1 (by decide) rfl rfl rfl rfl (zr_isAction hx hG hw) ?_ (fun _ _ hf => hf.elim)
  clear hw
  intro r1 S1 hw
  have hj6 : ∀ v : Int32, v = (if r1 = 0 then 1 else 0 : Int32) → Z g M_r_needs 0 0 14 [some (.ref 148), some (.int l1), some (.int l2), none, none, none, none] [.int v, .ref 148] (S1, G) (Qi G post noEx) := by
    intro v hv
    subst hv
    replace hw := hw _ rfl
    refine z_puti (ci := 7) 0 rfl hG.1 rfl w_658 rfl rfl rfl ?_
    refine z_aload_n rfl rfl ?_
    refine z_geti (ci := 7) 0 rfl hG.1 rfl w_658 ?_
    refine z_if_le rfl (fun hq => ?_) (fun hq => ?_)
    · replace hw := hw.1 hq
      refine z_aload_n rfl rfl ?_
      refine z_getr (ci := 7) 5 rfl hG.1 rfl w_663 hG.2.2.2.2.2.2.2.1 ?_
      refine z_iload_n rfl rfl ?_
      obtain ⟨hc1, hw⟩ := hw
      refine z_iald (l1.toNatClampNeg) rfl hG.2.2.2.2.2.2.2.2.1 hc1 rfl ?_
      refine z_istore_n [some (.ref 148), some (.int l1), some (.int l2), some (.int ((up2 S1 148 0 (if r1 = 0 then 1 else 0 : Int32)) 152 l1.toNatClampNeg)), none, none, none] rfl rfl rfl ?_
      refine z_iload_n rfl rfl ?_
      refine z_istore [some (.ref 148), some (.int l1), some (.int l2), some (.int ((up2 S1 148 0 (if r1 = 0 then 1 else 0 : Int32)) 152 l1.toNatClampNeg)), some (.int l2), none, none] rfl rfl rfl ?_
      refine z_iconst (-1) rfl rfl ?_
      refine z_istore [some (.ref 148), some (.int l1), some (.int l2), some (.int ((up2 S1 148 0 (if r1 = 0 then 1 else 0 : Int32)) 152 l1.toNatClampNeg)), some (.int l2), some (.int (-1)), none] rfl rfl rfl ?_
      refine z_iconst 0 rfl rfl ?_
      refine z_istore [some (.ref 148), some (.int l1), some (.int l2), some (.int ((up2 S1 148 0 (if r1 = 0 then 1 else 0 : Int32)) 152 l1.toNatClampNeg)), some (.int l2), some (.int (-1)), some (.int 0)] rfl rfl rfl ?_
      refine Z.forget' [some (.ref 148), some (.int l1), none, some (.int ((up2 S1 148 0 (if r1 = 0 then 1 else 0 : Int32)) 152 l1.toNatClampNeg)), some (.int l2), some (.int (-1)), some (.int 0)] ⟨rfl, ⟨rfl, ⟨rfl, ⟨rfl, ⟨rfl, ⟨rfl, trivial⟩⟩⟩⟩⟩⟩ ?_
      obtain ⟨n, hw⟩ := hw
      exact zr_needs_L42 hx hG n hw
    · replace hw := hw.2 hq
      refine z_iconst 0 rfl rfl ?_
      exact z_iret rfl rfl rfl rfl (Or.inl ⟨_, _, rfl, rfl, hw⟩)
  refine z_if_eq rfl (fun hp6 => ?_) (fun hp6 => ?_)
  · refine z_iconst 1 rfl rfl ?_
    exact hj6 _ (by rw [if_pos hp6])
  · refine z_iconst 0 rfl rfl ?_
    refine z_goto rfl ?_
    exact hj6 _ (by rw [if_neg hp6])
def r_objects (post : Int32 → Mem → Prop) (S : Mem)  : Prop :=
  ∀ S1, S1 = up2 S 148 0 0 → post (S1 148 7) S1
set_option maxRecDepth 100000 in
set_option maxHeartbeats 1000000 in
theorem zr_objects {g : Gm} {G : Gp} {S : Mem} {post : Int32 → Mem → Prop}  (hx : G.2.2.2 = false) (hG : isR G) (hw : r_objects post S ) : Z g M_r_objects 0 0 0 (entryL [.ref 148] (mL M_r_objects)) [] (S, G) (Qi G post noEx) := by
  unfold r_objects at hw
  show Z g M_r_objects 0 0 0 [some (.ref 148)] [] (S, G) (Qi G post noEx)
  refine z_aload_n rfl rfl ?_
  refine z_iconst 0 rfl rfl ?_
  replace hw := hw _ rfl
  refine z_puti (ci := 7) 0 rfl hG.1 rfl w_658 rfl rfl rfl ?_
  refine z_aload_n rfl rfl ?_
  refine z_geti (ci := 7) 7 rfl hG.1 rfl w_665 ?_
  exact z_iret rfl rfl rfl rfl (Or.inl ⟨_, _, rfl, rfl, hw⟩)
def r_object (post : Int32 → Mem → Prop) (S : Mem) (l1 : Int32) (l2 : Int32) : Prop :=
  ∀ S1, S1 = up2 S 148 0 (if l1 < 0 then 1 else (if (S 148 7) ≤ l1 then 1 else (if l2 < 0 then 1 else (if 8 ≤ l2 then 1 else 0 : Int32) : Int32) : Int32) : Int32) → (((S1 148 0) ≤ 0) →
   (vp_in ((8 * l1) + 1) 112) ∧ 
   (((S1 154 ((8 * l1) + 1).toNatClampNeg) = 3) →
    r_behind (fun r1 S2 =>
     r_findBox (fun S3 =>
      (l2 = 2 → post (S3 148 12) S3) ∧
      (l2 = 3 → post (S3 148 13) S3) ∧
      (l2 = 4 → post ((S3 148 14) - (S3 148 12)) S3) ∧
      (l2 = 5 → post ((S3 148 15) - (S3 148 13)) S3) ∧
      (l2 = 6 → post (-1) S3) ∧
      ((l2.toInt < 2 ∨ 6 < l2.toInt) → (vp_in ((8 * l1) + l2) 112) ∧ 
       post (S3 154 ((8 * l1) + l2).toNatClampNeg) S3)) S2 l1 r1) S1 l1) ∧
   ((¬ (S1 154 ((8 * l1) + 1).toNatClampNeg) = 3) →
    (vp_in ((8 * l1) + l2) 112) ∧ 
    post (S1 154 ((8 * l1) + l2).toNatClampNeg) S1)) ∧
  ((¬ (S1 148 0) ≤ 0) →
   post 0 S1)
set_option maxRecDepth 100000 in
set_option maxHeartbeats 1000000 in
theorem zr_object {g : Gm} {G : Gp} {S : Mem} {post : Int32 → Mem → Prop} {l1 : Int32} {l2 : Int32} (hx : G.2.2.2 = false) (hG : isR G) (hw : r_object post S l1 l2) : Z g M_r_object 0 0 0 (entryL [.ref 148, .int l1, .int l2] (mL M_r_object)) [] (S, G) (Qi G post noEx) := by
  unfold r_object at hw
  show Z g M_r_object 0 0 0 [some (.ref 148), some (.int l1), some (.int l2)] [] (S, G) (Qi G post noEx)
  refine z_aload_n rfl rfl ?_
  refine z_iload_n rfl rfl ?_
  have hj2 : ∀ v : Int32, v = (if l1 < 0 then 1 else (if (S 148 7) ≤ l1 then 1 else (if l2 < 0 then 1 else (if 8 ≤ l2 then 1 else 0 : Int32) : Int32) : Int32) : Int32) → Z g M_r_object 0 0 28 [some (.ref 148), some (.int l1), some (.int l2)] [.int v, .ref 148] (S, G) (Qi G post noEx) := by
    intro v hv
    subst hv
    replace hw := hw _ rfl
    refine z_puti (ci := 7) 0 rfl hG.1 rfl w_658 rfl rfl rfl ?_
    refine z_aload_n rfl rfl ?_
    refine z_geti (ci := 7) 0 rfl hG.1 rfl w_658 ?_
    refine z_if_le rfl (fun hq => ?_) (fun hq => ?_)
    · replace hw := hw.1 hq
      refine z_aload_n rfl rfl ?_
      refine z_iload_n rfl rfl ?_
      refine z_iconst 1 rfl rfl ?_
      obtain ⟨hc1, hw⟩ := hw
      refine z_cvi (M' := M_r_of) (post := fun v S' => ((up2 S 148 0 (if l1 < 0 then 1 else (if (S 148 7) ≤ l1 then 1 else (if l2 < 0 then 1 else (if 8 ≤ l2 then 1 else 0 : Int32) : Int32) : Int32) : Int32)) 154 ((8 * l1) + 1).toNatClampNeg) = v ∧ (up2 S 148 0 (if l1 < 0 then 1 else (if (S 148 7) ≤ l1 then 1 else (if l2 < 0 then 1 else (if 8 ≤ l2 then 1 else 0 : Int32) : Int32) : Int32) : Int32)) = S') [.int l1, .int 1] hx rfl w_754 cv_r_of hG.1 (by decide) rfl rfl rfl rfl (zr_of hx hG (⟨hc1, ⟨rfl, rfl⟩⟩)) ?_ (fun _ _ hf => hf.elim)
      rintro v S' ⟨rfl, rfl⟩
      refine z_iconst 3 rfl rfl ?_
      refine z_icmp_eq rfl (fun hq => ?_) (fun hq => ?_)
      · replace hw := hw.1 hq
        refine z_aload_n rfl rfl ?_
        refine z_iload_n rfl rfl ?_
        refine z_aload_n rfl rfl ?_
        refine z_iload_n rfl rfl ?_
        refine z_cvi (M' := M_r_behind) [.int l1] hx rfl w_782 cv_r_behind hG.1 (by decide) rfl rfl rfl rfl (zr_behind hx hG hw) ?_ (fun _ _ hf => hf.elim)
        clear hw
        intro r1 S2 hw
        refine z_cvv (M' := M_r_findBox) [.int l1, .int r1] hx rfl w_802 cv_r_findBox hG.1 (by decide) rfl rfl rfl rfl (zr_findBox hx hG hw) ?_ (fun _ _ hf => hf.elim)
        clear hw
        intro S3 hw
        refine z_iload_n rfl rfl ?_
        by_cases hr : l2.toInt < 2 ∨ 6 < l2.toInt
        · refine z_switch 136 rfl (sw_out hr rfl) ?_
          replace hw := hw.2.2.2.2.2 hr
          refine z_aload_n rfl rfl ?_
          refine z_iload_n rfl rfl ?_
          refine z_iload_n rfl rfl ?_
          obtain ⟨hc2, hw⟩ := hw
          refine z_cvi (M' := M_r_of) (post := fun v S' => (S3 154 ((8 * l1) + l2).toNatClampNeg) = v ∧ S3 = S') [.int l1, .int l2] hx rfl w_754 cv_r_of hG.1 (by decide) rfl rfl rfl rfl (zr_of hx hG (⟨hc2, ⟨rfl, rfl⟩⟩)) ?_ (fun _ _ hf => hf.elim)
          rintro v S' ⟨rfl, rfl⟩
          exact z_iret rfl rfl rfl rfl (Or.inl ⟨_, _, rfl, rfl, hw⟩)
        · rcases sw_2_6 hr with hq | hq | hq | hq | hq
          · replace hw := hw.1 hq
            refine z_switch 104 rfl (sw_eq hq rfl) ?_
            refine z_aload_n rfl rfl ?_
            refine z_geti (ci := 7) 12 rfl hG.1 rfl w_670 ?_
            exact z_iret rfl rfl rfl rfl (Or.inl ⟨_, _, rfl, rfl, hw⟩)
          · replace hw := hw.2.1 hq
            refine z_switch 109 rfl (sw_eq hq rfl) ?_
            refine z_aload_n rfl rfl ?_
            refine z_geti (ci := 7) 13 rfl hG.1 rfl w_671 ?_
            exact z_iret rfl rfl rfl rfl (Or.inl ⟨_, _, rfl, rfl, hw⟩)
          · replace hw := hw.2.2.1 hq
            refine z_switch 114 rfl (sw_eq hq rfl) ?_
            refine z_aload_n rfl rfl ?_
            refine z_geti (ci := 7) 14 rfl hG.1 rfl w_672 ?_
            refine z_aload_n rfl rfl ?_
            refine z_geti (ci := 7) 12 rfl hG.1 rfl w_670 ?_
            refine z_isub rfl ?_
            exact z_iret rfl rfl rfl rfl (Or.inl ⟨_, _, rfl, rfl, hw⟩)
          · replace hw := hw.2.2.2.1 hq
            refine z_switch 124 rfl (sw_eq hq rfl) ?_
            refine z_aload_n rfl rfl ?_
            refine z_geti (ci := 7) 15 rfl hG.1 rfl w_673 ?_
            refine z_aload_n rfl rfl ?_
            refine z_geti (ci := 7) 13 rfl hG.1 rfl w_671 ?_
            refine z_isub rfl ?_
            exact z_iret rfl rfl rfl rfl (Or.inl ⟨_, _, rfl, rfl, hw⟩)
          · replace hw := hw.2.2.2.2.1 hq
            refine z_switch 134 rfl (sw_eq hq rfl) ?_
            refine z_iconst (-1) rfl rfl ?_
            exact z_iret rfl rfl rfl rfl (Or.inl ⟨_, _, rfl, rfl, hw⟩)
      · replace hw := hw.2 hq
        refine z_aload_n rfl rfl ?_
        refine z_iload_n rfl rfl ?_
        refine z_iload_n rfl rfl ?_
        obtain ⟨hc3, hw⟩ := hw
        refine z_cvi (M' := M_r_of) (post := fun v S' => ((up2 S 148 0 (if l1 < 0 then 1 else (if (S 148 7) ≤ l1 then 1 else (if l2 < 0 then 1 else (if 8 ≤ l2 then 1 else 0 : Int32) : Int32) : Int32) : Int32)) 154 ((8 * l1) + l2).toNatClampNeg) = v ∧ (up2 S 148 0 (if l1 < 0 then 1 else (if (S 148 7) ≤ l1 then 1 else (if l2 < 0 then 1 else (if 8 ≤ l2 then 1 else 0 : Int32) : Int32) : Int32) : Int32)) = S') [.int l1, .int l2] hx rfl w_754 cv_r_of hG.1 (by decide) rfl rfl rfl rfl (zr_of hx hG (⟨hc3, ⟨rfl, rfl⟩⟩)) ?_ (fun _ _ hf => hf.elim)
        rintro v S' ⟨rfl, rfl⟩
        exact z_iret rfl rfl rfl rfl (Or.inl ⟨_, _, rfl, rfl, hw⟩)
    · replace hw := hw.2 hq
      refine z_iconst 0 rfl rfl ?_
      exact z_iret rfl rfl rfl rfl (Or.inl ⟨_, _, rfl, rfl, hw⟩)
  refine z_if_lt rfl (fun hp2 => ?_) (fun hp2 => ?_)
  · refine z_iconst 1 rfl rfl ?_
    exact hj2 _ (by rw [if_pos hp2])
  · refine z_iload_n rfl rfl ?_
    refine z_aload_n rfl rfl ?_
    refine z_geti (ci := 7) 7 rfl hG.1 rfl w_665 ?_
    refine z_icmp_ge rfl (fun hp10 => ?_) (fun hp10 => ?_)
    · refine z_iconst 1 rfl rfl ?_
      exact hj2 _ (by rw [if_neg hp2, if_pos hp10])
    · refine z_iload_n rfl rfl ?_
      refine z_if_lt rfl (fun hp14 => ?_) (fun hp14 => ?_)
      · refine z_iconst 1 rfl rfl ?_
        exact hj2 _ (by rw [if_neg hp2, if_neg hp10, if_pos hp14])
      · refine z_iload_n rfl rfl ?_
        refine z_bipush 8 rfl rfl ?_
        refine z_icmp_ge rfl (fun hp20 => ?_) (fun hp20 => ?_)
        · refine z_iconst 1 rfl rfl ?_
          exact hj2 _ (by rw [if_neg hp2, if_neg hp10, if_neg hp14, if_pos hp20])
        · refine z_iconst 0 rfl rfl ?_
          refine z_goto rfl ?_
          exact hj2 _ (by rw [if_neg hp2, if_neg hp10, if_neg hp14, if_neg hp20])
def r_size (post : Int64 → Mem → Prop) (S : Mem) (l0 : Int64) : Prop :=
  post (if 0 ≤ (lg_cmp l0 0) then l0 else (-l0) : Int64) S
set_option maxRecDepth 100000 in
set_option maxHeartbeats 1000000 in
theorem zr_size {g : Gm} {G : Gp} {S : Mem} {post : Int64 → Mem → Prop} {l0 : Int64} (hx : G.2.2.2 = false) (hG : isR G) (hw : r_size post S l0) : Z g M_r_size 0 0 0 (entryL [.long l0] (mL M_r_size)) [] (S, G) (Ql G post noEx) := by
  unfold r_size at hw
  show Z g M_r_size 0 0 0 [some (.long l0), none] [] (S, G) (Ql G post noEx)
  refine z_lload_n rfl rfl ?_
  refine z_lconst 0 rfl rfl ?_
  refine z_lcmp rfl ?_
  have hj3 : ∀ v : Int64, v = (if 0 ≤ (lg_cmp l0 0) then l0 else (-l0) : Int64) → Z g M_r_size 0 0 12 [some (.long l0), none] [.long v] (S, G) (Ql G post noEx) := by
    intro v hv
    subst hv
    exact z_lret rfl rfl rfl rfl (Or.inl ⟨_, _, rfl, rfl, hw⟩)
  refine z_if_ge rfl (fun hp3 => ?_) (fun hp3 => ?_)
  · refine z_lload_n rfl rfl ?_
    exact hj3 _ (by rw [if_pos hp3])
  · refine z_lload_n rfl rfl ?_
    refine z_lneg rfl ?_
    refine z_goto rfl ?_
    exact hj3 _ (by rw [if_neg hp3])
