def cd_commit_J62 (post : Int32 → Mem → Prop) (ex : Nat → Mem → Prop)  (S : Mem)  : Prop :=
  ex 2 S
set_option maxRecDepth 100000 in
set_option maxHeartbeats 1000000 in
theorem zcd_commit_J62 {g : Gm} {G : Gp} {post : Int32 → Mem → Prop} {ex : Nat → Mem → Prop} (hx : G.2.2.2 = false) (hG : isD G) (htr : ∀ e, (g_l g).admits e → e.platform.stackTraces = false) {S : Mem}   (hw : cd_commit_J62 post ex S ) : Z g M_d_commit 0 0 62 [some (.ref 0), none, none, none, none, none, none] [] (S, G) (Qi G post ex) := by
  unfold cd_commit_J62 at hw
  exact z_throw 2 htr rfl rfl rfl rfl w_471 w_15 xa_2 (by decide +kernel) rfl rfl (Or.inr ⟨_, _, rfl, thr_h hx, hw⟩)
def cd_commit (post : Int32 → Mem → Prop) (ex : Nat → Mem → Prop) (S : Mem) (l1 : Int32) (l2 : Int32) (l3 : Int32) (l4 : Int32) (l5 : Int32) : Prop :=
  ca_become (fun S1 =>
   ca_isValid (fun r2 S2 =>
    ((¬ r2 = 0) →
     ((24 ≤ (S2 0 5)) →
      cd_commit_J62 post ex S2) ∧
     ((¬ 24 ≤ (S2 0 5)) →
      cw_carryOut (fun r3 S3 =>
       ((¬ r3 = 0) →
        (vp_in (S3 0 5) 24) ∧ ca_copy (fun S4 =>
         (vp_in (S3 0 5) 24) ∧ ∀ S5, S5 = up2 S4 115 (S3 0 5).toNatClampNeg 1 → ∀ S6, S6 = up2 S5 0 5 ((S3 0 5) + 1) → ch_add (fun r5 S7 =>
          ce_become (fun S8 =>
           post (S3 0 5) S8) S7 r5 0 (S3 0 5) 0 0 0) S6 52) S3 (2 + 2 * (S3 0 5).toNatClampNeg) 50) ∧
       ((r3 = 0) →
        cd_commit_J62 post ex S3)) S2 87 50 (S2 0 5))) ∧
    ((r2 = 0) →
     ex 1 S2)) S1 50) S 50 l1 l2 l3 l4 l5
set_option maxRecDepth 100000 in
set_option maxHeartbeats 1000000 in
theorem zcd_commit {g : Gm} {G : Gp} {S : Mem} {post : Int32 → Mem → Prop} {ex : Nat → Mem → Prop} {l1 : Int32} {l2 : Int32} {l3 : Int32} {l4 : Int32} {l5 : Int32} (hx : G.2.2.2 = false) (hG : isD G) (htr : ∀ e, (g_l g).admits e → e.platform.stackTraces = false) (hw : cd_commit post ex S l1 l2 l3 l4 l5) : Z g M_d_commit 0 0 0 (entryL [.ref 0, .int l1, .int l2, .int l3, .int l4, .int l5] (mL M_d_commit)) [] (S, G) (Qi G post ex) := by
  unfold cd_commit at hw
  show Z g M_d_commit 0 0 0 [some (.ref 0), some (.int l1), some (.int l2), some (.int l3), some (.int l4), some (.int l5), none] [] (S, G) (Qi G post ex)
  refine z_aload_n rfl rfl ?_
  refine z_getr (ci := 0) 1 rfl hG.1 rfl w_181 hG.2.2.2.1 ?_
  refine z_iload_n rfl rfl ?_
  refine z_iload_n rfl rfl ?_
  refine z_iload_n rfl rfl ?_
  refine z_iload rfl rfl ?_
  refine z_iload rfl rfl ?_
  refine z_cvv (M' := M_a_become) [.int l1, .int l2, .int l3, .int l4, .int l5] hx rfl w_247 cv_a_become hG.2.2.2.2.1.1 (by decide) rfl rfl rfl rfl (zca_become hx hG hG.2.2.2.2.1 hw) ?_ (fun _ _ hf => hf.elim)
  clear hw
  intro S1 hw
  refine z_aload_n rfl rfl ?_
  refine z_getr (ci := 0) 1 rfl hG.1 rfl w_181 hG.2.2.2.1 ?_
  refine z_cvi (M' := M_a_isValid) [] hx rfl w_257 cv_a_isValid hG.2.2.2.2.1.1 (by decide) rfl rfl rfl rfl (zca_isValid hx hG hG.2.2.2.2.1 hw) ?_ (fun _ _ hf => hf.elim)
  clear hw
  intro r2 S2 hw
  refine z_if_ne rfl (fun hq => ?_) (fun hq => ?_)
  · replace hw := hw.1 hq
    refine z_aload_n rfl rfl ?_
    refine z_geti (ci := 0) 5 rfl hG.1 rfl w_185 ?_
    refine z_bipush 24 rfl rfl ?_
    refine z_icmp_ge rfl (fun hq => ?_) (fun hq => ?_)
    · replace hw := hw.1 hq
      refine Z.forget' [some (.ref 0), none, none, none, none, none, none] ⟨rfl, trivial⟩ ?_
      exact zcd_commit_J62 hx hG htr hw
    · replace hw := hw.2 hq
      refine z_aload_n rfl rfl ?_
      refine z_getr (ci := 0) 3 rfl hG.1 rfl w_183 hG.2.2.2.2.2.2.2.1 ?_
      refine z_getr (ci := 4) 0 rfl hG.2.2.2.2.2.2.2.2.1.1 rfl w_168 hG.2.2.2.2.2.2.2.2.1.2.1 ?_
      refine z_aload_n rfl rfl ?_
      refine z_getr (ci := 0) 1 rfl hG.1 rfl w_181 hG.2.2.2.1 ?_
      refine z_aload_n rfl rfl ?_
      refine z_geti (ci := 0) 5 rfl hG.1 rfl w_185 ?_
      refine z_cvi (M' := M_w_carryOut) [.ref 50, .int (S2 0 5)] hx rfl w_338 cv_w_carryOut hG.2.2.2.2.2.2.2.2.1.2.2.1.1 (by decide) rfl rfl rfl rfl (zcw_carryOut hx hG hG.2.2.2.2.2.2.2.2.1.2.2.1 hG.2.2.2.2.1 hw) ?_ (fun _ _ hf => hf.elim)
      clear hw
      intro r3 S3 hw
      refine z_if_ne rfl (fun hq => ?_) (fun hq => ?_)
      · replace hw := hw.1 hq
        refine z_aload_n rfl rfl ?_
        refine z_geti (ci := 0) 5 rfl hG.1 rfl w_185 ?_
        refine z_istore [some (.ref 0), some (.int l1), some (.int l2), some (.int l3), some (.int l4), some (.int l5), some (.int (S3 0 5))] rfl rfl rfl ?_
        refine z_aload_n rfl rfl ?_
        refine z_getr (ci := 0) 0 rfl hG.1 rfl w_180 hG.2.1 ?_
        refine z_iload rfl rfl ?_
        obtain ⟨hc1, hw⟩ := hw
        refine z_aaldA rfl hG.2.2.1.1 hc1 (hG.2.2.1.2 _ (vlt hc1)).1 ?_
        refine z_aload_n rfl rfl ?_
        refine z_getr (ci := 0) 1 rfl hG.1 rfl w_181 hG.2.2.2.1 ?_
        refine z_cvv (M' := M_a_copy) [.ref 50] hx rfl w_486 cv_a_copy (hG.2.2.1.2 _ (vlt hc1)).2.1 (by decide) rfl rfl rfl rfl (zca_copy hx hG (hG.2.2.1.2 _ (vlt hc1)).2 hG.2.2.2.2.1 hw) ?_ (fun _ _ hf => hf.elim)
        clear hw
        intro S4 hw
        refine z_aload_n rfl rfl ?_
        refine z_getr (ci := 0) 3 rfl hG.1 rfl w_183 hG.2.2.2.2.2.2.2.1 ?_
        refine z_getr (ci := 4) 1 rfl hG.2.2.2.2.2.2.2.2.1.1 rfl w_170 hG.2.2.2.2.2.2.2.2.1.2.2.2.1 ?_
        refine z_iload rfl rfl ?_
        refine z_iconst 1 rfl rfl ?_
        obtain ⟨hc2, hw⟩ := hw
        replace hw := hw _ rfl
        refine z_iast ((S3 0 5).toNatClampNeg) rfl hG.2.2.2.2.2.2.2.2.1.2.2.2.2.1 hc2 rfl ?_
        refine z_aload_n rfl rfl ?_
        refine z_iload rfl rfl ?_
        refine z_iconst 1 rfl rfl ?_
        refine z_iadd rfl ?_
        replace hw := hw _ rfl
        refine z_puti (ci := 0) 5 rfl hG.1 rfl w_185 rfl rfl rfl ?_
        refine z_aload_n rfl rfl ?_
        refine z_getr (ci := 0) 2 rfl hG.1 rfl w_182 hG.2.2.2.2.2.1 ?_
        refine z_cvr (M' := M_h_add) [] hx rfl w_491 cv_h_add hG.2.2.2.2.2.2.1.1 (by decide) rfl rfl rfl rfl (zch_add hx hG hG.2.2.2.2.2.2.1 hw) ?_ (fun _ _ hf => hf.elim)
        clear hw
        rintro r5 S7 ⟨hr_r5, hw⟩
        refine z_iconst 0 rfl rfl ?_
        refine z_iload rfl rfl ?_
        refine z_iconst 0 rfl rfl ?_
        refine z_iconst 0 rfl rfl ?_
        refine z_iconst 0 rfl rfl ?_
        refine z_cvv (M' := M_e_become) [.int 0, .int (S3 0 5), .int 0, .int 0, .int 0] hx rfl w_499 cv_e_become hr_r5 (by decide) rfl rfl rfl rfl (zce_become hx hG hr_r5 hw) ?_ (fun _ _ hf => hf.elim)
        clear hw
        intro S8 hw
        refine z_iload rfl rfl ?_
        exact z_iret rfl rfl rfl rfl (Or.inl ⟨_, _, rfl, rfl, hw⟩)
      · replace hw := hw.2 hq
        refine Z.forget' [some (.ref 0), none, none, none, none, none, none] ⟨rfl, trivial⟩ ?_
        exact zcd_commit_J62 hx hG htr hw
  · replace hw := hw.2 hq
    exact z_throw 1 htr rfl rfl rfl rfl w_274 w_12 xa_1 (by decide +kernel) rfl rfl (Or.inr ⟨_, _, rfl, thr_h hx, hw⟩)
def cd_requireAction_J12 (post : Mem → Prop) (ex : Nat → Mem → Prop)  (S : Mem)  : Prop :=
  ex 3 S
set_option maxRecDepth 100000 in
set_option maxHeartbeats 1000000 in
theorem zcd_requireAction_J12 {g : Gm} {G : Gp} {post : Mem → Prop} {ex : Nat → Mem → Prop} (hx : G.2.2.2 = false) (hG : isD G) (htr : ∀ e, (g_l g).admits e → e.platform.stackTraces = false) {S : Mem}   (hw : cd_requireAction_J12 post ex S ) : Z g M_d_requireAction 0 0 12 [some (.ref 0), none] [] (S, G) (Qv G post ex) := by
  unfold cd_requireAction_J12 at hw
  exact z_throw 3 htr rfl rfl rfl rfl w_515 w_16 xa_3 (by decide +kernel) rfl rfl (Or.inr ⟨_, _, rfl, thr_h hx, hw⟩)
def cd_requireAction (post : Mem → Prop) (ex : Nat → Mem → Prop) (S : Mem) (l1 : Int32) : Prop :=
  ((l1 < 0) →
   cd_requireAction_J12 post ex S) ∧
  ((¬ l1 < 0) →
   ((l1 < (S 0 5)) →
    post S) ∧
   ((¬ l1 < (S 0 5)) →
    cd_requireAction_J12 post ex S))
set_option maxRecDepth 100000 in
set_option maxHeartbeats 1000000 in
theorem zcd_requireAction {g : Gm} {G : Gp} {S : Mem} {post : Mem → Prop} {ex : Nat → Mem → Prop} {l1 : Int32} (hx : G.2.2.2 = false) (hG : isD G) (htr : ∀ e, (g_l g).admits e → e.platform.stackTraces = false) (hw : cd_requireAction post ex S l1) : Z g M_d_requireAction 0 0 0 (entryL [.ref 0, .int l1] (mL M_d_requireAction)) [] (S, G) (Qv G post ex) := by
  unfold cd_requireAction at hw
  show Z g M_d_requireAction 0 0 0 [some (.ref 0), some (.int l1)] [] (S, G) (Qv G post ex)
  refine z_iload_n rfl rfl ?_
  refine z_if_lt rfl (fun hq => ?_) (fun hq => ?_)
  · replace hw := hw.1 hq
    refine Z.forget' [some (.ref 0), none] ⟨rfl, trivial⟩ ?_
    exact zcd_requireAction_J12 hx hG htr hw
  · replace hw := hw.2 hq
    refine z_iload_n rfl rfl ?_
    refine z_aload_n rfl rfl ?_
    refine z_geti (ci := 0) 5 rfl hG.1 rfl w_185 ?_
    refine z_icmp_lt rfl (fun hq => ?_) (fun hq => ?_)
    · replace hw := hw.1 hq
      exact z_vret rfl rfl rfl rfl (Or.inl ⟨_, rfl, rfl, hw⟩)
    · replace hw := hw.2 hq
      refine Z.forget' [some (.ref 0), none] ⟨rfl, trivial⟩ ?_
      exact zcd_requireAction_J12 hx hG htr hw
def cd_withdraw (post : Int32 → Mem → Prop) (ex : Nat → Mem → Prop) (S : Mem) (l1 : Int32) : Prop :=
  cd_requireAction (fun S1 =>
   (vp_in l1 24) ∧ (((S1 (2 + 2 * l1.toNatClampNeg) 1) = 0) →
    ch_add (fun r2 S2 =>
     ce_become (fun S3 =>
      (vp_in l1 24) ∧ ∀ S4, S4 = up2 S3 (2 + 2 * l1.toNatClampNeg) 1 1 → co_play (fun S5 =>
       cd_changedBeside (fun r5 S6 =>
        post r5 S6) S5 l1) S4 86 1 (S4 0 5) (-1)) S2 r2 1 l1 0 0 0) S1 52) ∧
   ((¬ (S1 (2 + 2 * l1.toNatClampNeg) 1) = 0) →
    ex 2 S1)) ex S l1
set_option maxRecDepth 100000 in
set_option maxHeartbeats 1000000 in
theorem zcd_withdraw {g : Gm} {G : Gp} {S : Mem} {post : Int32 → Mem → Prop} {ex : Nat → Mem → Prop} {l1 : Int32} (hx : G.2.2.2 = false) (hG : isD G) (htr : ∀ e, (g_l g).admits e → e.platform.stackTraces = false) (hw : cd_withdraw post ex S l1) : Z g M_d_withdraw 0 0 0 (entryL [.ref 0, .int l1] (mL M_d_withdraw)) [] (S, G) (Qi G post ex) := by
  unfold cd_withdraw at hw
  show Z g M_d_withdraw 0 0 0 [some (.ref 0), some (.int l1)] [] (S, G) (Qi G post ex)
  refine z_aload_n rfl rfl ?_
  refine z_iload_n rfl rfl ?_
  refine z_cvv (M' := M_d_requireAction) [.int l1] hx rfl w_511 cv_d_requireAction hG.1 (by decide) rfl rfl rfl rfl (zcd_requireAction hx hG htr hw) ?_ (fun n S' hp => ⟨rfl, Or.inr ⟨_, _, rfl, rfl, hp⟩⟩)
  clear hw
  intro S1 hw
  refine z_aload_n rfl rfl ?_
  refine z_getr (ci := 0) 0 rfl hG.1 rfl w_180 hG.2.1 ?_
  refine z_iload_n rfl rfl ?_
  obtain ⟨hc1, hw⟩ := hw
  refine z_aaldA rfl hG.2.2.1.1 hc1 (hG.2.2.1.2 _ (vlt hc1)).1 ?_
  refine z_geti (ci := 1) 1 rfl (hG.2.2.1.2 _ (vlt hc1)).2.1 rfl w_38 ?_
  refine z_if_eq rfl (fun hq => ?_) (fun hq => ?_)
  · replace hw := hw.1 hq
    refine z_aload_n rfl rfl ?_
    refine z_getr (ci := 0) 2 rfl hG.1 rfl w_182 hG.2.2.2.2.2.1 ?_
    refine z_cvr (M' := M_h_add) [] hx rfl w_491 cv_h_add hG.2.2.2.2.2.2.1.1 (by decide) rfl rfl rfl rfl (zch_add hx hG hG.2.2.2.2.2.2.1 hw) ?_ (fun _ _ hf => hf.elim)
    clear hw
    rintro r2 S2 ⟨hr_r2, hw⟩
    refine z_iconst 1 rfl rfl ?_
    refine z_iload_n rfl rfl ?_
    refine z_iconst 0 rfl rfl ?_
    refine z_iconst 0 rfl rfl ?_
    refine z_iconst 0 rfl rfl ?_
    refine z_cvv (M' := M_e_become) [.int 1, .int l1, .int 0, .int 0, .int 0] hx rfl w_499 cv_e_become hr_r2 (by decide) rfl rfl rfl rfl (zce_become hx hG hr_r2 hw) ?_ (fun _ _ hf => hf.elim)
    clear hw
    intro S3 hw
    refine z_aload_n rfl rfl ?_
    refine z_getr (ci := 0) 0 rfl hG.1 rfl w_180 hG.2.1 ?_
    refine z_iload_n rfl rfl ?_
    obtain ⟨hc2, hw⟩ := hw
    refine z_aaldA rfl hG.2.2.1.1 hc2 (hG.2.2.1.2 _ (vlt hc2)).1 ?_
    refine z_iconst 1 rfl rfl ?_
    replace hw := hw _ rfl
    refine z_puti (ci := 1) 1 rfl (hG.2.2.1.2 _ (vlt hc2)).2.1 rfl w_38 rfl (by decide) rfl ?_
    refine z_aload_n rfl rfl ?_
    refine z_getr (ci := 0) 3 rfl hG.1 rfl w_183 hG.2.2.2.2.2.2.2.1 ?_
    refine z_aload_n rfl rfl ?_
    refine z_getr (ci := 0) 0 rfl hG.1 rfl w_180 hG.2.1 ?_
    refine z_aload_n rfl rfl ?_
    refine z_geti (ci := 0) 5 rfl hG.1 rfl w_185 ?_
    refine z_iconst (-1) rfl rfl ?_
    refine z_cvv (M' := M_o_play) [.ref 1, .int ((up2 S3 (2 + 2 * l1.toNatClampNeg) 1 1) 0 5), .int (-1)] hx rfl w_530 cv_o_play hG.2.2.2.2.2.2.2.2.1.1 (by decide) rfl rfl rfl rfl (zco_play hx hG hG.2.2.2.2.2.2.2.2.1 hG.2.2.1 hw) ?_ (fun _ _ hf => hf.elim)
    clear hw
    intro S5 hw
    refine z_aload_n rfl rfl ?_
    refine z_iload_n rfl rfl ?_
    refine z_cvi (M' := M_d_changedBeside) [.int l1] hx rfl w_540 cv_d_changedBeside hG.1 (by decide) rfl rfl rfl rfl (zcd_changedBeside hx hG hw) ?_ (fun _ _ hf => hf.elim)
    clear hw
    intro r5 S6 hw
    exact z_iret rfl rfl rfl rfl (Or.inl ⟨_, _, rfl, rfl, hw⟩)
  · replace hw := hw.2 hq
    exact z_throw 2 htr rfl rfl rfl rfl w_471 w_15 xa_2 (by decide +kernel) rfl rfl (Or.inr ⟨_, _, rfl, thr_h hx, hw⟩)
def cd_reinstate (post : Int32 → Mem → Prop) (ex : Nat → Mem → Prop) (S : Mem) (l1 : Int32) : Prop :=
  cd_requireAction (fun S1 =>
   (vp_in l1 24) ∧ ((¬ (S1 (2 + 2 * l1.toNatClampNeg) 1) = 0) →
    ch_add (fun r2 S2 =>
     ce_become (fun S3 =>
      (vp_in l1 24) ∧ ∀ S4, S4 = up2 S3 (2 + 2 * l1.toNatClampNeg) 1 0 → co_play (fun S5 =>
       cd_changedBeside (fun r5 S6 =>
        post r5 S6) S5 l1) S4 86 1 (S4 0 5) (-1)) S2 r2 2 l1 0 0 0) S1 52) ∧
   (((S1 (2 + 2 * l1.toNatClampNeg) 1) = 0) →
    ex 2 S1)) ex S l1
set_option maxRecDepth 100000 in
set_option maxHeartbeats 1000000 in
theorem zcd_reinstate {g : Gm} {G : Gp} {S : Mem} {post : Int32 → Mem → Prop} {ex : Nat → Mem → Prop} {l1 : Int32} (hx : G.2.2.2 = false) (hG : isD G) (htr : ∀ e, (g_l g).admits e → e.platform.stackTraces = false) (hw : cd_reinstate post ex S l1) : Z g M_d_reinstate 0 0 0 (entryL [.ref 0, .int l1] (mL M_d_reinstate)) [] (S, G) (Qi G post ex) := by
  unfold cd_reinstate at hw
  show Z g M_d_reinstate 0 0 0 [some (.ref 0), some (.int l1)] [] (S, G) (Qi G post ex)
  refine z_aload_n rfl rfl ?_
  refine z_iload_n rfl rfl ?_
  refine z_cvv (M' := M_d_requireAction) [.int l1] hx rfl w_511 cv_d_requireAction hG.1 (by decide) rfl rfl rfl rfl (zcd_requireAction hx hG htr hw) ?_ (fun n S' hp => ⟨rfl, Or.inr ⟨_, _, rfl, rfl, hp⟩⟩)
  clear hw
  intro S1 hw
  refine z_aload_n rfl rfl ?_
  refine z_getr (ci := 0) 0 rfl hG.1 rfl w_180 hG.2.1 ?_
  refine z_iload_n rfl rfl ?_
  obtain ⟨hc1, hw⟩ := hw
  refine z_aaldA rfl hG.2.2.1.1 hc1 (hG.2.2.1.2 _ (vlt hc1)).1 ?_
  refine z_geti (ci := 1) 1 rfl (hG.2.2.1.2 _ (vlt hc1)).2.1 rfl w_38 ?_
  refine z_if_ne rfl (fun hq => ?_) (fun hq => ?_)
  · replace hw := hw.1 hq
    refine z_aload_n rfl rfl ?_
    refine z_getr (ci := 0) 2 rfl hG.1 rfl w_182 hG.2.2.2.2.2.1 ?_
    refine z_cvr (M' := M_h_add) [] hx rfl w_491 cv_h_add hG.2.2.2.2.2.2.1.1 (by decide) rfl rfl rfl rfl (zch_add hx hG hG.2.2.2.2.2.2.1 hw) ?_ (fun _ _ hf => hf.elim)
    clear hw
    rintro r2 S2 ⟨hr_r2, hw⟩
    refine z_iconst 2 rfl rfl ?_
    refine z_iload_n rfl rfl ?_
    refine z_iconst 0 rfl rfl ?_
    refine z_iconst 0 rfl rfl ?_
    refine z_iconst 0 rfl rfl ?_
    refine z_cvv (M' := M_e_become) [.int 2, .int l1, .int 0, .int 0, .int 0] hx rfl w_499 cv_e_become hr_r2 (by decide) rfl rfl rfl rfl (zce_become hx hG hr_r2 hw) ?_ (fun _ _ hf => hf.elim)
    clear hw
    intro S3 hw
    refine z_aload_n rfl rfl ?_
    refine z_getr (ci := 0) 0 rfl hG.1 rfl w_180 hG.2.1 ?_
    refine z_iload_n rfl rfl ?_
    obtain ⟨hc2, hw⟩ := hw
    refine z_aaldA rfl hG.2.2.1.1 hc2 (hG.2.2.1.2 _ (vlt hc2)).1 ?_
    refine z_iconst 0 rfl rfl ?_
    replace hw := hw _ rfl
    refine z_puti (ci := 1) 1 rfl (hG.2.2.1.2 _ (vlt hc2)).2.1 rfl w_38 rfl (by decide) rfl ?_
    refine z_aload_n rfl rfl ?_
    refine z_getr (ci := 0) 3 rfl hG.1 rfl w_183 hG.2.2.2.2.2.2.2.1 ?_
    refine z_aload_n rfl rfl ?_
    refine z_getr (ci := 0) 0 rfl hG.1 rfl w_180 hG.2.1 ?_
    refine z_aload_n rfl rfl ?_
    refine z_geti (ci := 0) 5 rfl hG.1 rfl w_185 ?_
    refine z_iconst (-1) rfl rfl ?_
    refine z_cvv (M' := M_o_play) [.ref 1, .int ((up2 S3 (2 + 2 * l1.toNatClampNeg) 1 0) 0 5), .int (-1)] hx rfl w_530 cv_o_play hG.2.2.2.2.2.2.2.2.1.1 (by decide) rfl rfl rfl rfl (zco_play hx hG hG.2.2.2.2.2.2.2.2.1 hG.2.2.1 hw) ?_ (fun _ _ hf => hf.elim)
    clear hw
    intro S5 hw
    refine z_aload_n rfl rfl ?_
    refine z_iload_n rfl rfl ?_
    refine z_cvi (M' := M_d_changedBeside) [.int l1] hx rfl w_540 cv_d_changedBeside hG.1 (by decide) rfl rfl rfl rfl (zcd_changedBeside hx hG hw) ?_ (fun _ _ hf => hf.elim)
    clear hw
    intro r5 S6 hw
    exact z_iret rfl rfl rfl rfl (Or.inl ⟨_, _, rfl, rfl, hw⟩)
  · replace hw := hw.2 hq
    exact z_throw 2 htr rfl rfl rfl rfl w_471 w_15 xa_2 (by decide +kernel) rfl rfl (Or.inr ⟨_, _, rfl, thr_h hx, hw⟩)
def cd_amend (post : Int32 → Mem → Prop) (ex : Nat → Mem → Prop) (S : Mem) (l1 : Int32) (l2 : Int32) (l3 : Int32) : Prop :=
  cd_requireAction (fun S1 =>
   (vp_in l1 24) ∧ ca_takes (fun r2 S2 =>
    ((¬ r2 = 0) →
     (vp_in l1 24) ∧ (vp_in l2 4) ∧ ch_add (fun r3 S3 =>
      ce_become (fun S4 =>
       (vp_in l1 24) ∧ (vp_in l2 4) ∧ ∀ S5, S5 = up2 S4 ((2 + 2 * l1.toNatClampNeg) + 1) l2.toNatClampNeg l3 → co_play (fun S6 =>
        post (S2 ((2 + 2 * l1.toNatClampNeg) + 1) l2.toNatClampNeg) S6) S5 86 1 (S5 0 5) (-1)) S3 r3 3 l1 l2 (S2 ((2 + 2 * l1.toNatClampNeg) + 1) l2.toNatClampNeg) l3) S2 52) ∧
    ((r2 = 0) →
     ex 1 S2)) S1 (2 + 2 * l1.toNatClampNeg) l2 l3) ex S l1
set_option maxRecDepth 100000 in
set_option maxHeartbeats 1000000 in
theorem zcd_amend {g : Gm} {G : Gp} {S : Mem} {post : Int32 → Mem → Prop} {ex : Nat → Mem → Prop} {l1 : Int32} {l2 : Int32} {l3 : Int32} (hx : G.2.2.2 = false) (hG : isD G) (htr : ∀ e, (g_l g).admits e → e.platform.stackTraces = false) (hw : cd_amend post ex S l1 l2 l3) : Z g M_d_amend 0 0 0 (entryL [.ref 0, .int l1, .int l2, .int l3] (mL M_d_amend)) [] (S, G) (Qi G post ex) := by
  unfold cd_amend at hw
  show Z g M_d_amend 0 0 0 [some (.ref 0), some (.int l1), some (.int l2), some (.int l3), none] [] (S, G) (Qi G post ex)
  refine z_aload_n rfl rfl ?_
  refine z_iload_n rfl rfl ?_
  refine z_cvv (M' := M_d_requireAction) [.int l1] hx rfl w_511 cv_d_requireAction hG.1 (by decide) rfl rfl rfl rfl (zcd_requireAction hx hG htr hw) ?_ (fun n S' hp => ⟨rfl, Or.inr ⟨_, _, rfl, rfl, hp⟩⟩)
  clear hw
  intro S1 hw
  refine z_aload_n rfl rfl ?_
  refine z_getr (ci := 0) 0 rfl hG.1 rfl w_180 hG.2.1 ?_
  refine z_iload_n rfl rfl ?_
  obtain ⟨hc1, hw⟩ := hw
  refine z_aaldA rfl hG.2.2.1.1 hc1 (hG.2.2.1.2 _ (vlt hc1)).1 ?_
  refine z_iload_n rfl rfl ?_
  refine z_iload_n rfl rfl ?_
  refine z_cvi (M' := M_a_takes) [.int l2, .int l3] hx rfl w_558 cv_a_takes (hG.2.2.1.2 _ (vlt hc1)).2.1 (by decide) rfl rfl rfl rfl (zca_takes hx hG (hG.2.2.1.2 _ (vlt hc1)).2 hw) ?_ (fun _ _ hf => hf.elim)
  clear hw
  intro r2 S2 hw
  refine z_if_ne rfl (fun hq => ?_) (fun hq => ?_)
  · replace hw := hw.1 hq
    refine z_aload_n rfl rfl ?_
    refine z_getr (ci := 0) 0 rfl hG.1 rfl w_180 hG.2.1 ?_
    refine z_iload_n rfl rfl ?_
    obtain ⟨hc2, hw⟩ := hw
    refine z_aaldA rfl hG.2.2.1.1 hc2 (hG.2.2.1.2 _ (vlt hc2)).1 ?_
    refine z_getr (ci := 1) 2 rfl (hG.2.2.1.2 _ (vlt hc2)).2.1 rfl w_41 (hG.2.2.1.2 _ (vlt hc2)).2.2.1 ?_
    refine z_iload_n rfl rfl ?_
    obtain ⟨hc3, hw⟩ := hw
    refine z_iald (l2.toNatClampNeg) rfl (hG.2.2.1.2 _ (vlt hc2)).2.2.2 hc3 rfl ?_
    refine z_istore [some (.ref 0), some (.int l1), some (.int l2), some (.int l3), some (.int (S2 ((2 + 2 * l1.toNatClampNeg) + 1) l2.toNatClampNeg))] rfl rfl rfl ?_
    refine z_aload_n rfl rfl ?_
    refine z_getr (ci := 0) 2 rfl hG.1 rfl w_182 hG.2.2.2.2.2.1 ?_
    refine z_cvr (M' := M_h_add) [] hx rfl w_491 cv_h_add hG.2.2.2.2.2.2.1.1 (by decide) rfl rfl rfl rfl (zch_add hx hG hG.2.2.2.2.2.2.1 hw) ?_ (fun _ _ hf => hf.elim)
    clear hw
    rintro r3 S3 ⟨hr_r3, hw⟩
    refine z_iconst 3 rfl rfl ?_
    refine z_iload_n rfl rfl ?_
    refine z_iload_n rfl rfl ?_
    refine z_iload rfl rfl ?_
    refine z_iload_n rfl rfl ?_
    refine z_cvv (M' := M_e_become) [.int 3, .int l1, .int l2, .int (S2 ((2 + 2 * l1.toNatClampNeg) + 1) l2.toNatClampNeg), .int l3] hx rfl w_499 cv_e_become hr_r3 (by decide) rfl rfl rfl rfl (zce_become hx hG hr_r3 hw) ?_ (fun _ _ hf => hf.elim)
    clear hw
    intro S4 hw
    refine z_aload_n rfl rfl ?_
    refine z_getr (ci := 0) 0 rfl hG.1 rfl w_180 hG.2.1 ?_
    refine z_iload_n rfl rfl ?_
    obtain ⟨hc4, hw⟩ := hw
    refine z_aaldA rfl hG.2.2.1.1 hc4 (hG.2.2.1.2 _ (vlt hc4)).1 ?_
    refine z_getr (ci := 1) 2 rfl (hG.2.2.1.2 _ (vlt hc4)).2.1 rfl w_41 (hG.2.2.1.2 _ (vlt hc4)).2.2.1 ?_
    refine z_iload_n rfl rfl ?_
    refine z_iload_n rfl rfl ?_
    obtain ⟨hc5, hw⟩ := hw
    replace hw := hw _ rfl
    refine z_iast (l2.toNatClampNeg) rfl (hG.2.2.1.2 _ (vlt hc4)).2.2.2 hc5 rfl ?_
    refine z_aload_n rfl rfl ?_
    refine z_getr (ci := 0) 3 rfl hG.1 rfl w_183 hG.2.2.2.2.2.2.2.1 ?_
    refine z_aload_n rfl rfl ?_
    refine z_getr (ci := 0) 0 rfl hG.1 rfl w_180 hG.2.1 ?_
    refine z_aload_n rfl rfl ?_
    refine z_geti (ci := 0) 5 rfl hG.1 rfl w_185 ?_
    refine z_iconst (-1) rfl rfl ?_
    refine z_cvv (M' := M_o_play) [.ref 1, .int ((up2 S4 ((2 + 2 * l1.toNatClampNeg) + 1) l2.toNatClampNeg l3) 0 5), .int (-1)] hx rfl w_530 cv_o_play hG.2.2.2.2.2.2.2.2.1.1 (by decide) rfl rfl rfl rfl (zco_play hx hG hG.2.2.2.2.2.2.2.2.1 hG.2.2.1 hw) ?_ (fun _ _ hf => hf.elim)
    clear hw
    intro S6 hw
    refine z_iload rfl rfl ?_
    exact z_iret rfl rfl rfl rfl (Or.inl ⟨_, _, rfl, rfl, hw⟩)
  · replace hw := hw.2 hq
    exact z_throw 1 htr rfl rfl rfl rfl w_274 w_12 xa_1 (by decide +kernel) rfl rfl (Or.inr ⟨_, _, rfl, thr_h hx, hw⟩)
def cd_undo (post : Int32 → Mem → Prop) (ex : Nat → Mem → Prop) (S : Mem)  : Prop :=
  ((¬ (S 52 2) = 0) →
   ch_stepBack (fun r1 S1 =>
    cd_setEdit (fun S2 =>
     co_play (fun S3 =>
      post (S3 r1 0) S3) S2 86 1 (S2 0 5) (-1)) S1 r1 0) S 52) ∧
  (((S 52 2) = 0) →
   ex 4 S)
set_option maxRecDepth 100000 in
set_option maxHeartbeats 1000000 in
theorem zcd_undo {g : Gm} {G : Gp} {S : Mem} {post : Int32 → Mem → Prop} {ex : Nat → Mem → Prop}  (hx : G.2.2.2 = false) (hG : isD G) (htr : ∀ e, (g_l g).admits e → e.platform.stackTraces = false) (hw : cd_undo post ex S ) : Z g M_d_undo 0 0 0 (entryL [.ref 0] (mL M_d_undo)) [] (S, G) (Qi G post ex) := by
  unfold cd_undo at hw
  show Z g M_d_undo 0 0 0 [some (.ref 0), none] [] (S, G) (Qi G post ex)
  refine z_aload_n rfl rfl ?_
  refine z_getr (ci := 0) 2 rfl hG.1 rfl w_182 hG.2.2.2.2.2.1 ?_
  refine z_geti (ci := 3) 2 rfl hG.2.2.2.2.2.2.1.1 rfl w_87 ?_
  refine z_if_ne rfl (fun hq => ?_) (fun hq => ?_)
  · replace hw := hw.1 hq
    refine z_aload_n rfl rfl ?_
    refine z_getr (ci := 0) 2 rfl hG.1 rfl w_182 hG.2.2.2.2.2.1 ?_
    refine z_cvr (M' := M_h_stepBack) [] hx rfl w_582 cv_h_stepBack hG.2.2.2.2.2.2.1.1 (by decide) rfl rfl rfl rfl (zch_stepBack hx hG hG.2.2.2.2.2.2.1 hw) ?_ (fun _ _ hf => hf.elim)
    clear hw
    rintro r1 S1 ⟨hr_r1, hw⟩
    refine z_astore_n [some (.ref 0), some (.ref r1)] rfl rfl rfl ?_
    refine z_aload_n rfl rfl ?_
    refine z_aload_n rfl rfl ?_
    refine z_iconst 0 rfl rfl ?_
    refine z_cvv (M' := M_d_setEdit) [.ref r1, .int 0] hx rfl w_586 cv_d_setEdit hG.1 (by decide) rfl rfl rfl rfl (zcd_setEdit hx hG hr_r1 hw) ?_ (fun _ _ hf => hf.elim)
    clear hw
    intro S2 hw
    refine z_aload_n rfl rfl ?_
    refine z_getr (ci := 0) 3 rfl hG.1 rfl w_183 hG.2.2.2.2.2.2.2.1 ?_
    refine z_aload_n rfl rfl ?_
    refine z_getr (ci := 0) 0 rfl hG.1 rfl w_180 hG.2.1 ?_
    refine z_aload_n rfl rfl ?_
    refine z_geti (ci := 0) 5 rfl hG.1 rfl w_185 ?_
    refine z_iconst (-1) rfl rfl ?_
    refine z_cvv (M' := M_o_play) [.ref 1, .int (S2 0 5), .int (-1)] hx rfl w_530 cv_o_play hG.2.2.2.2.2.2.2.2.1.1 (by decide) rfl rfl rfl rfl (zco_play hx hG hG.2.2.2.2.2.2.2.2.1 hG.2.2.1 hw) ?_ (fun _ _ hf => hf.elim)
    clear hw
    intro S3 hw
    refine z_aload_n rfl rfl ?_
    refine z_geti (ci := 2) 0 rfl hr_r1 rfl w_64 ?_
    exact z_iret rfl rfl rfl rfl (Or.inl ⟨_, _, rfl, rfl, hw⟩)
  · replace hw := hw.2 hq
    exact z_throw 4 htr rfl rfl rfl rfl w_567 w_17 xa_4 (by decide +kernel) rfl rfl (Or.inr ⟨_, _, rfl, thr_h hx, hw⟩)
def cd_redo (post : Int32 → Mem → Prop) (ex : Nat → Mem → Prop) (S : Mem)  : Prop :=
  ((¬ (S 52 3) = 0) →
   ch_stepForward (fun r1 S1 =>
    cd_setEdit (fun S2 =>
     co_play (fun S3 =>
      post (S3 r1 0) S3) S2 86 1 (S2 0 5) (-1)) S1 r1 1) S 52) ∧
  (((S 52 3) = 0) →
   ex 4 S)
set_option maxRecDepth 100000 in
set_option maxHeartbeats 1000000 in
theorem zcd_redo {g : Gm} {G : Gp} {S : Mem} {post : Int32 → Mem → Prop} {ex : Nat → Mem → Prop}  (hx : G.2.2.2 = false) (hG : isD G) (htr : ∀ e, (g_l g).admits e → e.platform.stackTraces = false) (hw : cd_redo post ex S ) : Z g M_d_redo 0 0 0 (entryL [.ref 0] (mL M_d_redo)) [] (S, G) (Qi G post ex) := by
  unfold cd_redo at hw
  show Z g M_d_redo 0 0 0 [some (.ref 0), none] [] (S, G) (Qi G post ex)
  refine z_aload_n rfl rfl ?_
  refine z_getr (ci := 0) 2 rfl hG.1 rfl w_182 hG.2.2.2.2.2.1 ?_
  refine z_geti (ci := 3) 3 rfl hG.2.2.2.2.2.2.1.1 rfl w_89 ?_
  refine z_if_ne rfl (fun hq => ?_) (fun hq => ?_)
  · replace hw := hw.1 hq
    refine z_aload_n rfl rfl ?_
    refine z_getr (ci := 0) 2 rfl hG.1 rfl w_182 hG.2.2.2.2.2.1 ?_
    refine z_cvr (M' := M_h_stepForward) [] hx rfl w_597 cv_h_stepForward hG.2.2.2.2.2.2.1.1 (by decide) rfl rfl rfl rfl (zch_stepForward hx hG hG.2.2.2.2.2.2.1 hw) ?_ (fun _ _ hf => hf.elim)
    clear hw
    rintro r1 S1 ⟨hr_r1, hw⟩
    refine z_astore_n [some (.ref 0), some (.ref r1)] rfl rfl rfl ?_
    refine z_aload_n rfl rfl ?_
    refine z_aload_n rfl rfl ?_
    refine z_iconst 1 rfl rfl ?_
    refine z_cvv (M' := M_d_setEdit) [.ref r1, .int 1] hx rfl w_586 cv_d_setEdit hG.1 (by decide) rfl rfl rfl rfl (zcd_setEdit hx hG hr_r1 hw) ?_ (fun _ _ hf => hf.elim)
    clear hw
    intro S2 hw
    refine z_aload_n rfl rfl ?_
    refine z_getr (ci := 0) 3 rfl hG.1 rfl w_183 hG.2.2.2.2.2.2.2.1 ?_
    refine z_aload_n rfl rfl ?_
    refine z_getr (ci := 0) 0 rfl hG.1 rfl w_180 hG.2.1 ?_
    refine z_aload_n rfl rfl ?_
    refine z_geti (ci := 0) 5 rfl hG.1 rfl w_185 ?_
    refine z_iconst (-1) rfl rfl ?_
    refine z_cvv (M' := M_o_play) [.ref 1, .int (S2 0 5), .int (-1)] hx rfl w_530 cv_o_play hG.2.2.2.2.2.2.2.2.1.1 (by decide) rfl rfl rfl rfl (zco_play hx hG hG.2.2.2.2.2.2.2.2.1 hG.2.2.1 hw) ?_ (fun _ _ hf => hf.elim)
    clear hw
    intro S3 hw
    refine z_aload_n rfl rfl ?_
    refine z_geti (ci := 2) 0 rfl hr_r1 rfl w_64 ?_
    exact z_iret rfl rfl rfl rfl (Or.inl ⟨_, _, rfl, rfl, hw⟩)
  · replace hw := hw.2 hq
    exact z_throw 4 htr rfl rfl rfl rfl w_567 w_17 xa_4 (by decide +kernel) rfl rfl (Or.inr ⟨_, _, rfl, thr_h hx, hw⟩)
def cd_argument_J14 (post : Int32 → Mem → Prop) (ex : Nat → Mem → Prop)  (S : Mem)  : Prop :=
  ex 3 S
set_option maxRecDepth 100000 in
set_option maxHeartbeats 1000000 in
theorem zcd_argument_J14 {g : Gm} {G : Gp} {post : Int32 → Mem → Prop} {ex : Nat → Mem → Prop} (hx : G.2.2.2 = false) (hG : isD G) (htr : ∀ e, (g_l g).admits e → e.platform.stackTraces = false) {S : Mem}   (hw : cd_argument_J14 post ex S ) : Z g M_d_argument 1 6 14 [some (.ref 0), none, none] [] (S, G) (Qi G post ex) := by
  unfold cd_argument_J14 at hw
  exact z_throw 3 htr rfl rfl rfl rfl w_515 w_16 xa_3 (by decide +kernel) rfl rfl (Or.inr ⟨_, _, rfl, thr_h hx, hw⟩)
def cd_argument (post : Int32 → Mem → Prop) (ex : Nat → Mem → Prop) (S : Mem) (l1 : Int32) (l2 : Int32) : Prop :=
  cd_requireAction (fun S1 =>
   ((l2 < 0) →
    cd_argument_J14 post ex S1) ∧
   ((¬ l2 < 0) →
    ((l2 ≤ 4) →
     ((l2 = 4 → (vp_in l1 24)) ∧ (¬ l2 = 4 → (vp_in l1 24) ∧ (vp_in l2 4))) ∧ 
     post (if l2 = 4 then (S1 (2 + 2 * l1.toNatClampNeg) 0) else (S1 ((2 + 2 * l1.toNatClampNeg) + 1) l2.toNatClampNeg) : Int32) S1) ∧
    ((¬ l2 ≤ 4) →
     cd_argument_J14 post ex S1))) ex S l1
set_option maxRecDepth 100000 in
set_option maxHeartbeats 1000000 in
theorem zcd_argument {g : Gm} {G : Gp} {S : Mem} {post : Int32 → Mem → Prop} {ex : Nat → Mem → Prop} {l1 : Int32} {l2 : Int32} (hx : G.2.2.2 = false) (hG : isD G) (htr : ∀ e, (g_l g).admits e → e.platform.stackTraces = false) (hw : cd_argument post ex S l1 l2) : Z g M_d_argument 0 0 0 (entryL [.ref 0, .int l1, .int l2] (mL M_d_argument)) [] (S, G) (Qi G post ex) := by
  unfold cd_argument at hw
  show Z g M_d_argument 0 0 0 [some (.ref 0), some (.int l1), some (.int l2)] [] (S, G) (Qi G post ex)
  refine z_aload_n rfl rfl ?_
  refine z_iload_n rfl rfl ?_
  refine z_cvv (M' := M_d_requireAction) [.int l1] hx rfl w_511 cv_d_requireAction hG.1 (by decide) rfl rfl rfl rfl (zcd_requireAction hx hG htr hw) ?_ (fun n S' hp => ⟨rfl, Or.inr ⟨_, _, rfl, rfl, hp⟩⟩)
  clear hw
  intro S1 hw
  refine z_iload_n rfl rfl ?_
  refine z_if_lt rfl (fun hq => ?_) (fun hq => ?_)
  · replace hw := hw.1 hq
    refine Z.forget' [some (.ref 0), none, none] ⟨rfl, trivial⟩ ?_
    exact zcd_argument_J14 hx hG htr hw
  · replace hw := hw.2 hq
    refine z_iload_n rfl rfl ?_
    refine z_iconst 4 rfl rfl ?_
    refine z_icmp_le rfl (fun hq => ?_) (fun hq => ?_)
    · replace hw := hw.1 hq
      refine z_iload_n rfl rfl ?_
      refine z_iconst 4 rfl rfl ?_
      obtain ⟨hc1, hw⟩ := hw
      have hj24 : ∀ v : Int32, v = (if l2 = 4 then (S1 (2 + 2 * l1.toNatClampNeg) 0) else (S1 ((2 + 2 * l1.toNatClampNeg) + 1) l2.toNatClampNeg) : Int32) → Z g M_d_argument 1 6 50 [some (.ref 0), some (.int l1), some (.int l2)] [.int v] (S1, G) (Qi G post ex) := by
        intro v hv
        subst hv
        exact z_iret rfl rfl rfl rfl (Or.inl ⟨_, _, rfl, rfl, hw⟩)
      refine z_icmp_ne rfl (fun hp24 => ?_) (fun hp24 => ?_)
      · refine z_aload_n rfl rfl ?_
        refine z_getr (ci := 0) 0 rfl hG.1 rfl w_180 hG.2.1 ?_
        refine z_iload_n rfl rfl ?_
        refine z_aaldA rfl hG.2.2.1.1 (hc1.2 hp24).1 (hG.2.2.1.2 _ (vlt (hc1.2 hp24).1)).1 ?_
        refine z_getr (ci := 1) 2 rfl (hG.2.2.1.2 _ (vlt (hc1.2 hp24).1)).2.1 rfl w_41 (hG.2.2.1.2 _ (vlt (hc1.2 hp24).1)).2.2.1 ?_
        refine z_iload_n rfl rfl ?_
        refine z_iald (l2.toNatClampNeg) rfl (hG.2.2.1.2 _ (vlt (hc1.2 hp24).1)).2.2.2 (hc1.2 hp24).2 rfl ?_
        exact hj24 _ (by rw [if_neg hp24])
      · refine z_aload_n rfl rfl ?_
        refine z_getr (ci := 0) 0 rfl hG.1 rfl w_180 hG.2.1 ?_
        refine z_iload_n rfl rfl ?_
        refine z_aaldA rfl hG.2.2.1.1 (hc1.1 hp24) (hG.2.2.1.2 _ (vlt (hc1.1 hp24))).1 ?_
        refine z_geti (ci := 1) 0 rfl (hG.2.2.1.2 _ (vlt (hc1.1 hp24))).2.1 rfl w_35 ?_
        refine z_goto rfl ?_
        exact hj24 _ (by rw [if_pos hp24])
    · replace hw := hw.2 hq
      refine Z.forget' [some (.ref 0), none, none] ⟨rfl, trivial⟩ ?_
      exact zcd_argument_J14 hx hG htr hw
def cd_effect (post : Int32 → Mem → Prop) (ex : Nat → Mem → Prop) (S : Mem) (l1 : Int32) : Prop :=
  cd_requireAction (fun S1 =>
   (vp_in l1 24) ∧ post (S1 115 l1.toNatClampNeg) S1) ex S l1
set_option maxRecDepth 100000 in
set_option maxHeartbeats 1000000 in
theorem zcd_effect {g : Gm} {G : Gp} {S : Mem} {post : Int32 → Mem → Prop} {ex : Nat → Mem → Prop} {l1 : Int32} (hx : G.2.2.2 = false) (hG : isD G) (htr : ∀ e, (g_l g).admits e → e.platform.stackTraces = false) (hw : cd_effect post ex S l1) : Z g M_d_effect 0 0 0 (entryL [.ref 0, .int l1] (mL M_d_effect)) [] (S, G) (Qi G post ex) := by
  unfold cd_effect at hw
  show Z g M_d_effect 0 0 0 [some (.ref 0), some (.int l1)] [] (S, G) (Qi G post ex)
  refine z_aload_n rfl rfl ?_
  refine z_iload_n rfl rfl ?_
  refine z_cvv (M' := M_d_requireAction) [.int l1] hx rfl w_511 cv_d_requireAction hG.1 (by decide) rfl rfl rfl rfl (zcd_requireAction hx hG htr hw) ?_ (fun n S' hp => ⟨rfl, Or.inr ⟨_, _, rfl, rfl, hp⟩⟩)
  clear hw
  intro S1 hw
  refine z_aload_n rfl rfl ?_
  refine z_getr (ci := 0) 3 rfl hG.1 rfl w_183 hG.2.2.2.2.2.2.2.1 ?_
  refine z_getr (ci := 4) 1 rfl hG.2.2.2.2.2.2.2.2.1.1 rfl w_170 hG.2.2.2.2.2.2.2.2.1.2.2.2.1 ?_
  refine z_iload_n rfl rfl ?_
  obtain ⟨hc1, hw⟩ := hw
  refine z_iald (l1.toNatClampNeg) rfl hG.2.2.2.2.2.2.2.2.1.2.2.2.2.1 hc1 rfl ?_
  exact z_iret rfl rfl rfl rfl (Or.inl ⟨_, _, rfl, rfl, hw⟩)
def cd_needed_L28 (post : Int32 → Mem → Prop) (ex : Nat → Mem → Prop)  : Nat → Mem → Int32 → Int32 → Int32 → Prop
  | 0, _, _, _, _ => False
  | n + 1, S, l2, l3, l4 =>
  (((S 0 5) ≤ l4) →
   post (-1) S) ∧
  ((¬ (S 0 5) ≤ l4) →
   (vp_in l4 24) ∧ (vp_in l4 24) ∧ (((S 146 l4.toNatClampNeg) = (S 115 l4.toNatClampNeg)) →
    cd_needed_L28 post ex n S l2 l3 (l4 + 1)) ∧
   ((¬ (S 146 l4.toNatClampNeg) = (S 115 l4.toNatClampNeg)) →
    ((¬ l3 = l2) →
     cd_needed_L28 post ex n S l2 (l3 + 1) (l4 + 1)) ∧
    ((l3 = l2) →
     post l4 S)))
set_option maxRecDepth 100000 in
set_option maxHeartbeats 1000000 in
theorem zcd_needed_L28 {g : Gm} {G : Gp} {post : Int32 → Mem → Prop} {ex : Nat → Mem → Prop} (hx : G.2.2.2 = false) (hG : isD G) (htr : ∀ e, (g_l g).admits e → e.platform.stackTraces = false) : ∀ (n : Nat) {S : Mem} {l2 : Int32} {l3 : Int32} {l4 : Int32} , cd_needed_L28 post ex n S l2 l3 l4 → Z g M_d_needed 1 6 28 [some (.ref 0), none, some (.int l2), some (.int l3), some (.int l4)] [] (S, G) (Qi G post ex) := by
  intro n
  induction n with
  | zero =>
    intros
    rename_i hw
    exact hw.elim
  | succ n ih =>
    intro S l2 l3 l4 hw
    rw [cd_needed_L28] at hw
    refine z_iload rfl rfl ?_
    refine z_aload_n rfl rfl ?_
    refine z_geti (ci := 0) 5 rfl hG.1 rfl w_185 ?_
    refine z_icmp_ge rfl (fun hq => ?_) (fun hq => ?_)
    · replace hw := hw.1 hq
      refine z_iconst (-1) rfl rfl ?_
      exact z_iret rfl rfl rfl rfl (Or.inl ⟨_, _, rfl, rfl, hw⟩)
    · replace hw := hw.2 hq
      refine z_aload_n rfl rfl ?_
      refine z_getr (ci := 0) 4 rfl hG.1 rfl w_184 hG.2.2.2.2.2.2.2.2.2.1 ?_
      refine z_getr (ci := 4) 1 rfl hG.2.2.2.2.2.2.2.2.2.2.1 rfl w_170 hG.2.2.2.2.2.2.2.2.2.2.2.2.2.1 ?_
      refine z_iload rfl rfl ?_
      obtain ⟨hc1, hw⟩ := hw
      refine z_iald (l4.toNatClampNeg) rfl hG.2.2.2.2.2.2.2.2.2.2.2.2.2.2.1 hc1 rfl ?_
      refine z_aload_n rfl rfl ?_
      refine z_getr (ci := 0) 3 rfl hG.1 rfl w_183 hG.2.2.2.2.2.2.2.1 ?_
      refine z_getr (ci := 4) 1 rfl hG.2.2.2.2.2.2.2.2.1.1 rfl w_170 hG.2.2.2.2.2.2.2.2.1.2.2.2.1 ?_
      refine z_iload rfl rfl ?_
      obtain ⟨hc2, hw⟩ := hw
      refine z_iald (l4.toNatClampNeg) rfl hG.2.2.2.2.2.2.2.2.1.2.2.2.2.1 hc2 rfl ?_
      refine z_icmp_eq rfl (fun hq => ?_) (fun hq => ?_)
      · replace hw := hw.1 hq
        refine z_iinc 1 [some (.ref 0), none, some (.int l2), some (.int l3), some (.int (l4 + 1))] rfl rfl rfl rfl ?_
        refine z_goto rfl ?_
        refine Z.forget' [some (.ref 0), none, some (.int l2), some (.int l3), some (.int (l4 + 1))] ⟨rfl, ⟨rfl, ⟨rfl, ⟨rfl, trivial⟩⟩⟩⟩ ?_
        exact ih hw
      · replace hw := hw.2 hq
        refine z_iload_n rfl rfl ?_
        refine z_iload_n rfl rfl ?_
        refine z_icmp_ne rfl (fun hq => ?_) (fun hq => ?_)
        · replace hw := hw.1 hq
          refine z_iinc 1 [some (.ref 0), none, some (.int l2), some (.int (l3 + 1)), some (.int l4)] rfl rfl rfl rfl ?_
          refine z_iinc 1 [some (.ref 0), none, some (.int l2), some (.int (l3 + 1)), some (.int (l4 + 1))] rfl rfl rfl rfl ?_
          refine z_goto rfl ?_
          refine Z.forget' [some (.ref 0), none, some (.int l2), some (.int (l3 + 1)), some (.int (l4 + 1))] ⟨rfl, ⟨rfl, ⟨rfl, ⟨rfl, trivial⟩⟩⟩⟩ ?_
          exact ih hw
        · replace hw := hw.2 hq
          refine z_iload rfl rfl ?_
          exact z_iret rfl rfl rfl rfl (Or.inl ⟨_, _, rfl, rfl, hw⟩)
def cd_needed (post : Int32 → Mem → Prop) (ex : Nat → Mem → Prop) (S : Mem) (l1 : Int32) (l2 : Int32) : Prop :=
  cd_requireAction (fun S1 =>
   co_play (fun S2 =>
    ∃ n, cd_needed_L28 post ex n S2 l2 0 (l1 + 1)) S1 117 1 (S1 0 5) l1) ex S l1
set_option maxRecDepth 100000 in
set_option maxHeartbeats 1000000 in
theorem zcd_needed {g : Gm} {G : Gp} {S : Mem} {post : Int32 → Mem → Prop} {ex : Nat → Mem → Prop} {l1 : Int32} {l2 : Int32} (hx : G.2.2.2 = false) (hG : isD G) (htr : ∀ e, (g_l g).admits e → e.platform.stackTraces = false) (hw : cd_needed post ex S l1 l2) : Z g M_d_needed 0 0 0 (entryL [.ref 0, .int l1, .int l2] (mL M_d_needed)) [] (S, G) (Qi G post ex) := by
  unfold cd_needed at hw
  show Z g M_d_needed 0 0 0 [some (.ref 0), some (.int l1), some (.int l2), none, none] [] (S, G) (Qi G post ex)
  refine z_aload_n rfl rfl ?_
  refine z_iload_n rfl rfl ?_
  refine z_cvv (M' := M_d_requireAction) [.int l1] hx rfl w_511 cv_d_requireAction hG.1 (by decide) rfl rfl rfl rfl (zcd_requireAction hx hG htr hw) ?_ (fun n S' hp => ⟨rfl, Or.inr ⟨_, _, rfl, rfl, hp⟩⟩)
  clear hw
  intro S1 hw
  refine z_aload_n rfl rfl ?_
  refine z_getr (ci := 0) 4 rfl hG.1 rfl w_184 hG.2.2.2.2.2.2.2.2.2.1 ?_
  refine z_aload_n rfl rfl ?_
  refine z_getr (ci := 0) 0 rfl hG.1 rfl w_180 hG.2.1 ?_
  refine z_aload_n rfl rfl ?_
  refine z_geti (ci := 0) 5 rfl hG.1 rfl w_185 ?_
  refine z_iload_n rfl rfl ?_
  refine z_cvv (M' := M_o_play) [.ref 1, .int (S1 0 5), .int l1] hx rfl w_530 cv_o_play hG.2.2.2.2.2.2.2.2.2.2.1 (by decide) rfl rfl rfl rfl (zco_play hx hG hG.2.2.2.2.2.2.2.2.2.2 hG.2.2.1 hw) ?_ (fun _ _ hf => hf.elim)
  clear hw
  intro S2 hw
  refine z_iconst 0 rfl rfl ?_
  refine z_istore_n [some (.ref 0), some (.int l1), some (.int l2), some (.int 0), none] rfl rfl rfl ?_
  refine z_iload_n rfl rfl ?_
  refine z_iconst 1 rfl rfl ?_
  refine z_iadd rfl ?_
  refine z_istore [some (.ref 0), some (.int l1), some (.int l2), some (.int 0), some (.int (l1 + 1))] rfl rfl rfl ?_
  refine Z.forget' [some (.ref 0), none, some (.int l2), some (.int 0), some (.int (l1 + 1))] ⟨rfl, ⟨rfl, ⟨rfl, ⟨rfl, trivial⟩⟩⟩⟩ ?_
  obtain ⟨n, hw⟩ := hw
  exact zcd_needed_L28 hx hG htr n hw
def cd_needs_L10 (post : Int32 → Mem → Prop) (ex : Nat → Mem → Prop)  : Nat → Mem → Int32 → Int32 → Int32 → Int32 → Prop
  | 0, _, _, _, _, _ => False
  | n + 1, S, l1, l2, l3, l4 =>
  ((l1 ≤ l4) →
   post (-1) S) ∧
  ((¬ l1 ≤ l4) →
   co_play (fun S1 =>
    (vp_in l1 24) ∧ (vp_in l1 24) ∧ (((S1 146 l1.toNatClampNeg) = (S1 115 l1.toNatClampNeg)) →
     cd_needs_L10 post ex n S1 l1 l2 l3 (l4 + 1)) ∧
    ((¬ (S1 146 l1.toNatClampNeg) = (S1 115 l1.toNatClampNeg)) →
     ((¬ l3 = l2) →
      cd_needs_L10 post ex n S1 l1 l2 (l3 + 1) (l4 + 1)) ∧
     ((l3 = l2) →
      post l4 S1))) S 117 1 (l1 + 1) l4)
set_option maxRecDepth 100000 in
set_option maxHeartbeats 1000000 in
theorem zcd_needs_L10 {g : Gm} {G : Gp} {post : Int32 → Mem → Prop} {ex : Nat → Mem → Prop} (hx : G.2.2.2 = false) (hG : isD G) (htr : ∀ e, (g_l g).admits e → e.platform.stackTraces = false) : ∀ (n : Nat) {S : Mem} {l1 : Int32} {l2 : Int32} {l3 : Int32} {l4 : Int32} , cd_needs_L10 post ex n S l1 l2 l3 l4 → Z g M_d_needs 1 6 10 [some (.ref 0), some (.int l1), some (.int l2), some (.int l3), some (.int l4)] [] (S, G) (Qi G post ex) := by
  intro n
  induction n with
  | zero =>
    intros
    rename_i hw
    exact hw.elim
  | succ n ih =>
    intro S l1 l2 l3 l4 hw
    rw [cd_needs_L10] at hw
    refine z_iload rfl rfl ?_
    refine z_iload_n rfl rfl ?_
    refine z_icmp_ge rfl (fun hq => ?_) (fun hq => ?_)
    · replace hw := hw.1 hq
      refine z_iconst (-1) rfl rfl ?_
      exact z_iret rfl rfl rfl rfl (Or.inl ⟨_, _, rfl, rfl, hw⟩)
    · replace hw := hw.2 hq
      refine z_aload_n rfl rfl ?_
      refine z_getr (ci := 0) 4 rfl hG.1 rfl w_184 hG.2.2.2.2.2.2.2.2.2.1 ?_
      refine z_aload_n rfl rfl ?_
      refine z_getr (ci := 0) 0 rfl hG.1 rfl w_180 hG.2.1 ?_
      refine z_iload_n rfl rfl ?_
      refine z_iconst 1 rfl rfl ?_
      refine z_iadd rfl ?_
      refine z_iload rfl rfl ?_
      refine z_cvv (M' := M_o_play) [.ref 1, .int (l1 + 1), .int l4] hx rfl w_530 cv_o_play hG.2.2.2.2.2.2.2.2.2.2.1 (by decide) rfl rfl rfl rfl (zco_play hx hG hG.2.2.2.2.2.2.2.2.2.2 hG.2.2.1 hw) ?_ (fun _ _ hf => hf.elim)
      clear hw
      intro S1 hw
      refine z_aload_n rfl rfl ?_
      refine z_getr (ci := 0) 4 rfl hG.1 rfl w_184 hG.2.2.2.2.2.2.2.2.2.1 ?_
      refine z_getr (ci := 4) 1 rfl hG.2.2.2.2.2.2.2.2.2.2.1 rfl w_170 hG.2.2.2.2.2.2.2.2.2.2.2.2.2.1 ?_
      refine z_iload_n rfl rfl ?_
      obtain ⟨hc1, hw⟩ := hw
      refine z_iald (l1.toNatClampNeg) rfl hG.2.2.2.2.2.2.2.2.2.2.2.2.2.2.1 hc1 rfl ?_
      refine z_aload_n rfl rfl ?_
      refine z_getr (ci := 0) 3 rfl hG.1 rfl w_183 hG.2.2.2.2.2.2.2.1 ?_
      refine z_getr (ci := 4) 1 rfl hG.2.2.2.2.2.2.2.2.1.1 rfl w_170 hG.2.2.2.2.2.2.2.2.1.2.2.2.1 ?_
      refine z_iload_n rfl rfl ?_
      obtain ⟨hc2, hw⟩ := hw
      refine z_iald (l1.toNatClampNeg) rfl hG.2.2.2.2.2.2.2.2.1.2.2.2.2.1 hc2 rfl ?_
      refine z_icmp_eq rfl (fun hq => ?_) (fun hq => ?_)
      · replace hw := hw.1 hq
        refine z_iinc 1 [some (.ref 0), some (.int l1), some (.int l2), some (.int l3), some (.int (l4 + 1))] rfl rfl rfl rfl ?_
        refine z_goto rfl ?_
        refine Z.forget' [some (.ref 0), some (.int l1), some (.int l2), some (.int l3), some (.int (l4 + 1))] ⟨rfl, ⟨rfl, ⟨rfl, ⟨rfl, ⟨rfl, trivial⟩⟩⟩⟩⟩ ?_
        exact ih hw
      · replace hw := hw.2 hq
        refine z_iload_n rfl rfl ?_
        refine z_iload_n rfl rfl ?_
        refine z_icmp_ne rfl (fun hq => ?_) (fun hq => ?_)
        · replace hw := hw.1 hq
          refine z_iinc 1 [some (.ref 0), some (.int l1), some (.int l2), some (.int (l3 + 1)), some (.int l4)] rfl rfl rfl rfl ?_
          refine z_iinc 1 [some (.ref 0), some (.int l1), some (.int l2), some (.int (l3 + 1)), some (.int (l4 + 1))] rfl rfl rfl rfl ?_
          refine z_goto rfl ?_
          refine Z.forget' [some (.ref 0), some (.int l1), some (.int l2), some (.int (l3 + 1)), some (.int (l4 + 1))] ⟨rfl, ⟨rfl, ⟨rfl, ⟨rfl, ⟨rfl, trivial⟩⟩⟩⟩⟩ ?_
          exact ih hw
        · replace hw := hw.2 hq
          refine z_iload rfl rfl ?_
          exact z_iret rfl rfl rfl rfl (Or.inl ⟨_, _, rfl, rfl, hw⟩)
def cd_needs (post : Int32 → Mem → Prop) (ex : Nat → Mem → Prop) (S : Mem) (l1 : Int32) (l2 : Int32) : Prop :=
  cd_requireAction (fun S1 =>
   ∃ n, cd_needs_L10 post ex n S1 l1 l2 0 0) ex S l1
set_option maxRecDepth 100000 in
set_option maxHeartbeats 1000000 in
theorem zcd_needs {g : Gm} {G : Gp} {S : Mem} {post : Int32 → Mem → Prop} {ex : Nat → Mem → Prop} {l1 : Int32} {l2 : Int32} (hx : G.2.2.2 = false) (hG : isD G) (htr : ∀ e, (g_l g).admits e → e.platform.stackTraces = false) (hw : cd_needs post ex S l1 l2) : Z g M_d_needs 0 0 0 (entryL [.ref 0, .int l1, .int l2] (mL M_d_needs)) [] (S, G) (Qi G post ex) := by
  unfold cd_needs at hw
  show Z g M_d_needs 0 0 0 [some (.ref 0), some (.int l1), some (.int l2), none, none] [] (S, G) (Qi G post ex)
  refine z_aload_n rfl rfl ?_
  refine z_iload_n rfl rfl ?_
  refine z_cvv (M' := M_d_requireAction) [.int l1] hx rfl w_511 cv_d_requireAction hG.1 (by decide) rfl rfl rfl rfl (zcd_requireAction hx hG htr hw) ?_ (fun n S' hp => ⟨rfl, Or.inr ⟨_, _, rfl, rfl, hp⟩⟩)
  clear hw
  intro S1 hw
  refine z_iconst 0 rfl rfl ?_
  refine z_istore_n [some (.ref 0), some (.int l1), some (.int l2), some (.int 0), none] rfl rfl rfl ?_
  refine z_iconst 0 rfl rfl ?_
  refine z_istore [some (.ref 0), some (.int l1), some (.int l2), some (.int 0), some (.int 0)] rfl rfl rfl ?_
  refine Z.forget' [some (.ref 0), some (.int l1), some (.int l2), some (.int 0), some (.int 0)] ⟨rfl, ⟨rfl, ⟨rfl, ⟨rfl, ⟨rfl, trivial⟩⟩⟩⟩⟩ ?_
  obtain ⟨n, hw⟩ := hw
  exact zcd_needs_L10 hx hG htr n hw
def cd_object_J28 (post : Int32 → Mem → Prop) (ex : Nat → Mem → Prop)  (S : Mem)  : Prop :=
  ex 3 S
set_option maxRecDepth 100000 in
set_option maxHeartbeats 1000000 in
theorem zcd_object_J28 {g : Gm} {G : Gp} {post : Int32 → Mem → Prop} {ex : Nat → Mem → Prop} (hx : G.2.2.2 = false) (hG : isD G) (htr : ∀ e, (g_l g).admits e → e.platform.stackTraces = false) {S : Mem}   (hw : cd_object_J28 post ex S ) : Z g M_d_object 0 0 28 [some (.ref 0), none, none] [] (S, G) (Qi G post ex) := by
  unfold cd_object_J28 at hw
  exact z_throw 3 htr rfl rfl rfl rfl w_515 w_16 xa_3 (by decide +kernel) rfl rfl (Or.inr ⟨_, _, rfl, thr_h hx, hw⟩)
def cd_object (post : Int32 → Mem → Prop) (ex : Nat → Mem → Prop) (S : Mem) (l1 : Int32) (l2 : Int32) : Prop :=
  ((l1 < 0) →
   cd_object_J28 post ex S) ∧
  ((¬ l1 < 0) →
   (((S 87 2) ≤ l1) →
    cd_object_J28 post ex S) ∧
   ((¬ (S 87 2) ≤ l1) →
    ((l2 < 0) →
     cd_object_J28 post ex S) ∧
    ((¬ l2 < 0) →
     ((l2 ≤ 7) →
      (vp_in l1 12) ∧ cw_tell (fun r1 S1 =>
       post r1 S1) S 87 (S 113 l1.toNatClampNeg) l2) ∧
     ((¬ l2 ≤ 7) →
      cd_object_J28 post ex S))))
set_option maxRecDepth 100000 in
set_option maxHeartbeats 1000000 in
theorem zcd_object {g : Gm} {G : Gp} {S : Mem} {post : Int32 → Mem → Prop} {ex : Nat → Mem → Prop} {l1 : Int32} {l2 : Int32} (hx : G.2.2.2 = false) (hG : isD G) (htr : ∀ e, (g_l g).admits e → e.platform.stackTraces = false) (hw : cd_object post ex S l1 l2) : Z g M_d_object 0 0 0 (entryL [.ref 0, .int l1, .int l2] (mL M_d_object)) [] (S, G) (Qi G post ex) := by
  unfold cd_object at hw
  show Z g M_d_object 0 0 0 [some (.ref 0), some (.int l1), some (.int l2)] [] (S, G) (Qi G post ex)
  refine z_iload_n rfl rfl ?_
  refine z_if_lt rfl (fun hq => ?_) (fun hq => ?_)
  · replace hw := hw.1 hq
    refine Z.forget' [some (.ref 0), none, none] ⟨rfl, trivial⟩ ?_
    exact zcd_object_J28 hx hG htr hw
  · replace hw := hw.2 hq
    refine z_iload_n rfl rfl ?_
    refine z_aload_n rfl rfl ?_
    refine z_getr (ci := 0) 3 rfl hG.1 rfl w_183 hG.2.2.2.2.2.2.2.1 ?_
    refine z_getr (ci := 4) 0 rfl hG.2.2.2.2.2.2.2.2.1.1 rfl w_168 hG.2.2.2.2.2.2.2.2.1.2.1 ?_
    refine z_geti (ci := 6) 2 rfl hG.2.2.2.2.2.2.2.2.1.2.2.1.1 rfl w_156 ?_
    refine z_icmp_ge rfl (fun hq => ?_) (fun hq => ?_)
    · replace hw := hw.1 hq
      refine Z.forget' [some (.ref 0), none, none] ⟨rfl, trivial⟩ ?_
      exact zcd_object_J28 hx hG htr hw
    · replace hw := hw.2 hq
      refine z_iload_n rfl rfl ?_
      refine z_if_lt rfl (fun hq => ?_) (fun hq => ?_)
      · replace hw := hw.1 hq
        refine Z.forget' [some (.ref 0), none, none] ⟨rfl, trivial⟩ ?_
        exact zcd_object_J28 hx hG htr hw
      · replace hw := hw.2 hq
        refine z_iload_n rfl rfl ?_
        refine z_bipush 7 rfl rfl ?_
        refine z_icmp_le rfl (fun hq => ?_) (fun hq => ?_)
        · replace hw := hw.1 hq
          refine z_aload_n rfl rfl ?_
          refine z_getr (ci := 0) 3 rfl hG.1 rfl w_183 hG.2.2.2.2.2.2.2.1 ?_
          refine z_getr (ci := 4) 0 rfl hG.2.2.2.2.2.2.2.2.1.1 rfl w_168 hG.2.2.2.2.2.2.2.2.1.2.1 ?_
          refine z_aload_n rfl rfl ?_
          refine z_getr (ci := 0) 3 rfl hG.1 rfl w_183 hG.2.2.2.2.2.2.2.1 ?_
          refine z_getr (ci := 4) 0 rfl hG.2.2.2.2.2.2.2.2.1.1 rfl w_168 hG.2.2.2.2.2.2.2.2.1.2.1 ?_
          refine z_getr (ci := 6) 1 rfl hG.2.2.2.2.2.2.2.2.1.2.2.1.1 rfl w_154 hG.2.2.2.2.2.2.2.2.1.2.2.1.2.2.2.1 ?_
          refine z_iload_n rfl rfl ?_
          obtain ⟨hc1, hw⟩ := hw
          refine z_iald (l1.toNatClampNeg) rfl hG.2.2.2.2.2.2.2.2.1.2.2.1.2.2.2.2.1 hc1 rfl ?_
          refine z_iload_n rfl rfl ?_
          refine z_cvi (M' := M_w_tell) [.int (S 113 l1.toNatClampNeg), .int l2] hx rfl w_636 cv_w_tell hG.2.2.2.2.2.2.2.2.1.2.2.1.1 (by decide) rfl rfl rfl rfl (zcw_tell hx hG hG.2.2.2.2.2.2.2.2.1.2.2.1 hw) ?_ (fun _ _ hf => hf.elim)
          clear hw
          intro r1 S1 hw
          exact z_iret rfl rfl rfl rfl (Or.inl ⟨_, _, rfl, rfl, hw⟩)
        · replace hw := hw.2 hq
          refine Z.forget' [some (.ref 0), none, none] ⟨rfl, trivial⟩ ?_
          exact zcd_object_J28 hx hG htr hw
def cd_shown_J11 (post : Int32 → Mem → Prop) (ex : Nat → Mem → Prop)  (S : Mem)  : Prop :=
  ex 1 S
set_option maxRecDepth 100000 in
set_option maxHeartbeats 1000000 in
theorem zcd_shown_J11 {g : Gm} {G : Gp} {post : Int32 → Mem → Prop} {ex : Nat → Mem → Prop} (hx : G.2.2.2 = false) (hG : isD G) (htr : ∀ e, (g_l g).admits e → e.platform.stackTraces = false) {S : Mem}   (hw : cd_shown_J11 post ex S ) : Z g M_d_shown 0 0 11 [some (.ref 0), none, none, none, none, none, none, none] [] (S, G) (Qi G post ex) := by
  unfold cd_shown_J11 at hw
  exact z_throw 1 htr rfl rfl rfl rfl w_274 w_12 xa_1 (by decide +kernel) rfl rfl (Or.inr ⟨_, _, rfl, thr_h hx, hw⟩)
def cd_shown_L34 (post : Int32 → Mem → Prop) (ex : Nat → Mem → Prop) (K25 : Mem → Int32 → Int32 → Int32 → Int32 → Int32 → Int32 → Prop) : Nat → Mem → Int32 → Int32 → Int32 → Int32 → Int32 → Int32 → Int32 → Prop
  | 0, _, _, _, _, _, _, _, _ => False
  | n + 1, S, l1, l2, l3, l4, l5, l6, l7 =>
  ((l3 ≤ l7) →
   K25 S l1 l2 l3 l4 l5 (l6 + 1)) ∧
  ((¬ l3 ≤ l7) →
   cw_colourAt (fun r1 S1 =>
    ((¬ r1 = l4) →
     cd_shown_L34 post ex K25 n S1 l1 l2 l3 l4 l5 l6 (l7 + 1)) ∧
    ((r1 = l4) →
     cd_shown_L34 post ex K25 n S1 l1 l2 l3 l4 (l5 + 1) l6 (l7 + 1))) S 87 (l1 + l7) (l2 + l6))
set_option maxRecDepth 100000 in
set_option maxHeartbeats 1000000 in
theorem zcd_shown_L34 {g : Gm} {G : Gp} {post : Int32 → Mem → Prop} {ex : Nat → Mem → Prop} {K25 : Mem → Int32 → Int32 → Int32 → Int32 → Int32 → Int32 → Prop} (hx : G.2.2.2 = false) (hG : isD G) (htr : ∀ e, (g_l g).admits e → e.platform.stackTraces = false) (hK25 : ∀ {S : Mem} {l1 : Int32} {l2 : Int32} {l3 : Int32} {l4 : Int32} {l5 : Int32} {l6 : Int32}, K25 S l1 l2 l3 l4 l5 l6 → Z g M_d_shown 0 0 25 [some (.ref 0), some (.int l1), some (.int l2), some (.int l3), some (.int l4), some (.int l5), some (.int l6), none] [] (S, G) (Qi G post ex)) : ∀ (n : Nat) {S : Mem} {l1 : Int32} {l2 : Int32} {l3 : Int32} {l4 : Int32} {l5 : Int32} {l6 : Int32} {l7 : Int32} , cd_shown_L34 post ex K25 n S l1 l2 l3 l4 l5 l6 l7 → Z g M_d_shown 0 0 34 [some (.ref 0), some (.int l1), some (.int l2), some (.int l3), some (.int l4), some (.int l5), some (.int l6), some (.int l7)] [] (S, G) (Qi G post ex) := by
  intro n
  induction n with
  | zero =>
    intros
    rename_i hw
    exact hw.elim
  | succ n ih =>
    intro S l1 l2 l3 l4 l5 l6 l7 hw
    rw [cd_shown_L34] at hw
    refine z_iload rfl rfl ?_
    refine z_iload_n rfl rfl ?_
    refine z_icmp_ge rfl (fun hq => ?_) (fun hq => ?_)
    · replace hw := hw.1 hq
      refine z_iinc 1 [some (.ref 0), some (.int l1), some (.int l2), some (.int l3), some (.int l4), some (.int l5), some (.int (l6 + 1)), some (.int l7)] rfl rfl rfl rfl ?_
      refine z_goto rfl ?_
      refine Z.forget' [some (.ref 0), some (.int l1), some (.int l2), some (.int l3), some (.int l4), some (.int l5), some (.int (l6 + 1)), none] ⟨rfl, ⟨rfl, ⟨rfl, ⟨rfl, ⟨rfl, ⟨rfl, ⟨rfl, trivial⟩⟩⟩⟩⟩⟩⟩ ?_
      exact hK25 hw
    · replace hw := hw.2 hq
      refine z_aload_n rfl rfl ?_
      refine z_getr (ci := 0) 3 rfl hG.1 rfl w_183 hG.2.2.2.2.2.2.2.1 ?_
      refine z_getr (ci := 4) 0 rfl hG.2.2.2.2.2.2.2.2.1.1 rfl w_168 hG.2.2.2.2.2.2.2.2.1.2.1 ?_
      refine z_iload_n rfl rfl ?_
      refine z_iload rfl rfl ?_
      refine z_iadd rfl ?_
      refine z_iload_n rfl rfl ?_
      refine z_iload rfl rfl ?_
      refine z_iadd rfl ?_
      refine z_cvi (M' := M_w_colourAt) [.int (l1 + l7), .int (l2 + l6)] hx rfl w_647 cv_w_colourAt hG.2.2.2.2.2.2.2.2.1.2.2.1.1 (by decide) rfl rfl rfl rfl (zcw_colourAt hx hG hG.2.2.2.2.2.2.2.2.1.2.2.1 hw) ?_ (fun _ _ hf => hf.elim)
      clear hw
      intro r1 S1 hw
      refine z_iload rfl rfl ?_
      refine z_icmp_ne rfl (fun hq => ?_) (fun hq => ?_)
      · replace hw := hw.1 hq
        refine z_iinc 1 [some (.ref 0), some (.int l1), some (.int l2), some (.int l3), some (.int l4), some (.int l5), some (.int l6), some (.int (l7 + 1))] rfl rfl rfl rfl ?_
        refine z_goto rfl ?_
        refine Z.forget' [some (.ref 0), some (.int l1), some (.int l2), some (.int l3), some (.int l4), some (.int l5), some (.int l6), some (.int (l7 + 1))] ⟨rfl, ⟨rfl, ⟨rfl, ⟨rfl, ⟨rfl, ⟨rfl, ⟨rfl, ⟨rfl, trivial⟩⟩⟩⟩⟩⟩⟩⟩ ?_
        exact ih hw
      · replace hw := hw.2 hq
        refine z_iinc 1 [some (.ref 0), some (.int l1), some (.int l2), some (.int l3), some (.int l4), some (.int (l5 + 1)), some (.int l6), some (.int l7)] rfl rfl rfl rfl ?_
        refine z_iinc 1 [some (.ref 0), some (.int l1), some (.int l2), some (.int l3), some (.int l4), some (.int (l5 + 1)), some (.int l6), some (.int (l7 + 1))] rfl rfl rfl rfl ?_
        refine z_goto rfl ?_
        refine Z.forget' [some (.ref 0), some (.int l1), some (.int l2), some (.int l3), some (.int l4), some (.int (l5 + 1)), some (.int l6), some (.int (l7 + 1))] ⟨rfl, ⟨rfl, ⟨rfl, ⟨rfl, ⟨rfl, ⟨rfl, ⟨rfl, ⟨rfl, trivial⟩⟩⟩⟩⟩⟩⟩⟩ ?_
        exact ih hw
def cd_shown_L25 (post : Int32 → Mem → Prop) (ex : Nat → Mem → Prop)  : Nat → Mem → Int32 → Int32 → Int32 → Int32 → Int32 → Int32 → Prop
  | 0, _, _, _, _, _, _, _ => False
  | n + 1, S, l1, l2, l3, l4, l5, l6 =>
  ((l3 ≤ l6) →
   post l5 S) ∧
  ((¬ l3 ≤ l6) →
   ∃ n1, cd_shown_L34 post ex (cd_shown_L25 post ex n) n1 S l1 l2 l3 l4 l5 l6 0)
set_option maxRecDepth 100000 in
set_option maxHeartbeats 1000000 in
theorem zcd_shown_L25 {g : Gm} {G : Gp} {post : Int32 → Mem → Prop} {ex : Nat → Mem → Prop} (hx : G.2.2.2 = false) (hG : isD G) (htr : ∀ e, (g_l g).admits e → e.platform.stackTraces = false) : ∀ (n : Nat) {S : Mem} {l1 : Int32} {l2 : Int32} {l3 : Int32} {l4 : Int32} {l5 : Int32} {l6 : Int32} , cd_shown_L25 post ex n S l1 l2 l3 l4 l5 l6 → Z g M_d_shown 0 0 25 [some (.ref 0), some (.int l1), some (.int l2), some (.int l3), some (.int l4), some (.int l5), some (.int l6), none] [] (S, G) (Qi G post ex) := by
  intro n
  induction n with
  | zero =>
    intros
    rename_i hw
    exact hw.elim
  | succ n ih =>
    intro S l1 l2 l3 l4 l5 l6 hw
    rw [cd_shown_L25] at hw
    refine z_iload rfl rfl ?_
    refine z_iload_n rfl rfl ?_
    refine z_icmp_ge rfl (fun hq => ?_) (fun hq => ?_)
    · replace hw := hw.1 hq
      refine z_iload rfl rfl ?_
      exact z_iret rfl rfl rfl rfl (Or.inl ⟨_, _, rfl, rfl, hw⟩)
    · replace hw := hw.2 hq
      refine z_iconst 0 rfl rfl ?_
      refine z_istore [some (.ref 0), some (.int l1), some (.int l2), some (.int l3), some (.int l4), some (.int l5), some (.int l6), some (.int 0)] rfl rfl rfl ?_
      refine Z.forget' [some (.ref 0), some (.int l1), some (.int l2), some (.int l3), some (.int l4), some (.int l5), some (.int l6), some (.int 0)] ⟨rfl, ⟨rfl, ⟨rfl, ⟨rfl, ⟨rfl, ⟨rfl, ⟨rfl, ⟨rfl, trivial⟩⟩⟩⟩⟩⟩⟩⟩ ?_
      obtain ⟨n1, hw⟩ := hw
      exact zcd_shown_L34 hx hG htr (@ih) n1 hw
def cd_shown (post : Int32 → Mem → Prop) (ex : Nat → Mem → Prop) (S : Mem) (l1 : Int32) (l2 : Int32) (l3 : Int32) (l4 : Int32) : Prop :=
  ((l3 < 1) →
   cd_shown_J11 post ex S) ∧
  ((¬ l3 < 1) →
   ((l3 ≤ 8) →
    ∃ n, cd_shown_L25 post ex n S l1 l2 l3 l4 0 0) ∧
   ((¬ l3 ≤ 8) →
    cd_shown_J11 post ex S))
set_option maxRecDepth 100000 in
set_option maxHeartbeats 1000000 in
theorem zcd_shown {g : Gm} {G : Gp} {S : Mem} {post : Int32 → Mem → Prop} {ex : Nat → Mem → Prop} {l1 : Int32} {l2 : Int32} {l3 : Int32} {l4 : Int32} (hx : G.2.2.2 = false) (hG : isD G) (htr : ∀ e, (g_l g).admits e → e.platform.stackTraces = false) (hw : cd_shown post ex S l1 l2 l3 l4) : Z g M_d_shown 0 0 0 (entryL [.ref 0, .int l1, .int l2, .int l3, .int l4] (mL M_d_shown)) [] (S, G) (Qi G post ex) := by
  unfold cd_shown at hw
  show Z g M_d_shown 0 0 0 [some (.ref 0), some (.int l1), some (.int l2), some (.int l3), some (.int l4), none, none, none] [] (S, G) (Qi G post ex)
  refine z_iload_n rfl rfl ?_
  refine z_iconst 1 rfl rfl ?_
  refine z_icmp_lt rfl (fun hq => ?_) (fun hq => ?_)
  · replace hw := hw.1 hq
    refine Z.forget' [some (.ref 0), none, none, none, none, none, none, none] ⟨rfl, trivial⟩ ?_
    exact zcd_shown_J11 hx hG htr hw
  · replace hw := hw.2 hq
    refine z_iload_n rfl rfl ?_
    refine z_bipush 8 rfl rfl ?_
    refine z_icmp_le rfl (fun hq => ?_) (fun hq => ?_)
    · replace hw := hw.1 hq
      refine z_iconst 0 rfl rfl ?_
      refine z_istore [some (.ref 0), some (.int l1), some (.int l2), some (.int l3), some (.int l4), some (.int 0), none, none] rfl rfl rfl ?_
      refine z_iconst 0 rfl rfl ?_
      refine z_istore [some (.ref 0), some (.int l1), some (.int l2), some (.int l3), some (.int l4), some (.int 0), some (.int 0), none] rfl rfl rfl ?_
      refine Z.forget' [some (.ref 0), some (.int l1), some (.int l2), some (.int l3), some (.int l4), some (.int 0), some (.int 0), none] ⟨rfl, ⟨rfl, ⟨rfl, ⟨rfl, ⟨rfl, ⟨rfl, ⟨rfl, trivial⟩⟩⟩⟩⟩⟩⟩ ?_
      obtain ⟨n, hw⟩ := hw
      exact zcd_shown_L25 hx hG htr n hw
    · replace hw := hw.2 hq
      refine Z.forget' [some (.ref 0), none, none, none, none, none, none, none] ⟨rfl, trivial⟩ ?_
      exact zcd_shown_J11 hx hG htr hw
