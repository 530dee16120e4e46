def cw_makeDouble (post : Int32 → Mem → Prop) (S : Mem) (k : Nat) (l1 : Int32) (l2 : Int32) (l3 : Int32) (l4 : Int32) : Prop :=
  (vp_in l1 24) ∧ ci_isShape (fun r1 S1 =>
   ((r1 = 0) →
    post 0 S1) ∧
   ((¬ r1 = 0) →
    ((12 ≤ (S1 k 2)) →
     post 0 S1) ∧
    ((¬ 12 ≤ (S1 k 2)) →
     ci_canShift (fun r2 S2 =>
      ((¬ r2 = 0) →
       (vp_in l4 24) ∧ ci_becomeShape (fun S3 =>
        (vp_in l4 24) ∧ ci_setBox (fun S4 =>
         cw_placeOf (fun r5 S5 =>
          cw_insert (fun S6 =>
           post 1 S6) S5 k l4 (r5 + 1)) S4 k l1) S3 ((k + 2) + l4.toNatClampNeg) ((S3 ((k + 2) + l1.toNatClampNeg) 2) + l2) ((S3 ((k + 2) + l1.toNatClampNeg) 3) + l3) (S3 ((k + 2) + l1.toNatClampNeg) 4) (S3 ((k + 2) + l1.toNatClampNeg) 5)) S2 ((k + 2) + l4.toNatClampNeg) (S2 ((k + 2) + l1.toNatClampNeg) 1) (S2 ((k + 2) + l1.toNatClampNeg) 6) (S2 ((k + 2) + l1.toNatClampNeg) 7)) ∧
      ((r2 = 0) →
       post 0 S2)) S1 ((k + 2) + l1.toNatClampNeg) l2 l3))) S ((k + 2) + l1.toNatClampNeg)
set_option maxRecDepth 100000 in
set_option maxHeartbeats 1000000 in
theorem zcw_makeDouble {g : Gm} {G : Gp} {S : Mem} {post : Int32 → Mem → Prop} {k : Nat} {l1 : Int32} {l2 : Int32} {l3 : Int32} {l4 : Int32} (hx : G.2.2.2 = false) (hG : isD G) (h_k : isW G k) (hw : cw_makeDouble post S k l1 l2 l3 l4) : Z g M_w_makeDouble 0 0 0 (entryL [.ref k, .int l1, .int l2, .int l3, .int l4] (mL M_w_makeDouble)) [] (S, G) (Qi G post noEx) := by
  unfold cw_makeDouble at hw
  show Z g M_w_makeDouble 0 0 0 [some (.ref k), some (.int l1), some (.int l2), some (.int l3), some (.int l4), none] [] (S, G) (Qi G post noEx)
  refine z_aload_n rfl rfl ?_
  refine z_getr (ci := 6) 0 rfl h_k.1 rfl w_151 h_k.2.1 ?_
  refine z_iload_n rfl rfl ?_
  obtain ⟨hc1, hw⟩ := hw
  refine z_aaldI rfl h_k.2.2.1.1 hc1 (h_k.2.2.1.2 _ (vlt hc1)).1 ?_
  refine z_astore [some (.ref k), some (.int l1), some (.int l2), some (.int l3), some (.int l4), some (.ref ((k + 2) + l1.toNatClampNeg))] rfl rfl rfl ?_
  refine z_aload rfl rfl ?_
  refine z_cvi (M' := M_i_isShape) [] hx rfl w_394 cv_i_isShape (h_k.2.2.1.2 _ (vlt hc1)).2 (by decide) rfl rfl rfl rfl (zci_isShape hx hG (h_k.2.2.1.2 _ (vlt hc1)).2 hw) ?_ (fun _ _ hf => hf.elim)
  clear hw
  intro r1 S1 hw
  refine z_if_eq rfl (fun hq => ?_) (fun hq => ?_)
  · replace hw := hw.1 hq
    refine z_iconst 0 rfl rfl ?_
    exact z_zret rfl rfl (by decide) rfl rfl (Or.inl ⟨_, _, rfl, rfl, hw⟩)
  · replace hw := hw.2 hq
    refine z_aload_n rfl rfl ?_
    refine z_geti (ci := 6) 2 rfl h_k.1 rfl w_155 ?_
    refine z_bipush 12 rfl rfl ?_
    refine z_icmp_ge rfl (fun hq => ?_) (fun hq => ?_)
    · replace hw := hw.1 hq
      refine z_iconst 0 rfl rfl ?_
      exact z_zret rfl rfl (by decide) rfl rfl (Or.inl ⟨_, _, rfl, rfl, hw⟩)
    · replace hw := hw.2 hq
      refine z_aload rfl rfl ?_
      refine z_iload_n rfl rfl ?_
      refine z_iload_n rfl rfl ?_
      refine z_cvi (M' := M_i_canShift) [.int l2, .int l3] hx rfl w_395 cv_i_canShift (h_k.2.2.1.2 _ (vlt hc1)).2 (by decide) rfl rfl rfl rfl (zci_canShift hx hG (h_k.2.2.1.2 _ (vlt hc1)).2 hw) ?_ (fun _ _ hf => hf.elim)
      clear hw
      intro r2 S2 hw
      refine z_if_ne rfl (fun hq => ?_) (fun hq => ?_)
      · replace hw := hw.1 hq
        refine z_aload_n rfl rfl ?_
        refine z_getr (ci := 6) 0 rfl h_k.1 rfl w_151 h_k.2.1 ?_
        refine z_iload rfl rfl ?_
        obtain ⟨hc2, hw⟩ := hw
        refine z_aaldI rfl h_k.2.2.1.1 hc2 (h_k.2.2.1.2 _ (vlt hc2)).1 ?_
        refine z_aload rfl rfl ?_
        refine z_geti (ci := 5) 1 rfl (h_k.2.2.1.2 _ (vlt hc1)).2 rfl w_121 ?_
        refine z_aload rfl rfl ?_
        refine z_geti (ci := 5) 6 rfl (h_k.2.2.1.2 _ (vlt hc1)).2 rfl w_131 ?_
        refine z_aload rfl rfl ?_
        refine z_geti (ci := 5) 7 rfl (h_k.2.2.1.2 _ (vlt hc1)).2 rfl w_133 ?_
        refine z_cvv (M' := M_i_becomeShape) [.int (S2 ((k + 2) + l1.toNatClampNeg) 1), .int (S2 ((k + 2) + l1.toNatClampNeg) 6), .int (S2 ((k + 2) + l1.toNatClampNeg) 7)] hx rfl w_351 cv_i_becomeShape (h_k.2.2.1.2 _ (vlt hc2)).2 (by decide) rfl rfl rfl rfl (zci_becomeShape hx hG (h_k.2.2.1.2 _ (vlt hc2)).2 hw) ?_ (fun _ _ hf => hf.elim)
        clear hw
        intro S3 hw
        refine z_aload_n rfl rfl ?_
        refine z_getr (ci := 6) 0 rfl h_k.1 rfl w_151 h_k.2.1 ?_
        refine z_iload rfl rfl ?_
        obtain ⟨hc3, hw⟩ := hw
        refine z_aaldI rfl h_k.2.2.1.1 hc3 (h_k.2.2.1.2 _ (vlt hc3)).1 ?_
        refine z_aload rfl rfl ?_
        refine z_geti (ci := 5) 2 rfl (h_k.2.2.1.2 _ (vlt hc1)).2 rfl w_123 ?_
        refine z_iload_n rfl rfl ?_
        refine z_iadd rfl ?_
        refine z_aload rfl rfl ?_
        refine z_geti (ci := 5) 3 rfl (h_k.2.2.1.2 _ (vlt hc1)).2 rfl w_125 ?_
        refine z_iload_n rfl rfl ?_
        refine z_iadd rfl ?_
        refine z_aload rfl rfl ?_
        refine z_geti (ci := 5) 4 rfl (h_k.2.2.1.2 _ (vlt hc1)).2 rfl w_127 ?_
        refine z_aload rfl rfl ?_
        refine z_geti (ci := 5) 5 rfl (h_k.2.2.1.2 _ (vlt hc1)).2 rfl w_129 ?_
        refine z_cvv (M' := M_i_setBox) [.int ((S3 ((k + 2) + l1.toNatClampNeg) 2) + l2), .int ((S3 ((k + 2) + l1.toNatClampNeg) 3) + l3), .int (S3 ((k + 2) + l1.toNatClampNeg) 4), .int (S3 ((k + 2) + l1.toNatClampNeg) 5)] hx rfl w_355 cv_i_setBox (h_k.2.2.1.2 _ (vlt hc3)).2 (by decide) rfl rfl rfl rfl (zci_setBox hx hG (h_k.2.2.1.2 _ (vlt hc3)).2 hw) ?_ (fun _ _ hf => hf.elim)
        clear hw
        intro S4 hw
        refine z_aload_n rfl rfl ?_
        refine z_iload rfl rfl ?_
        refine z_aload_n rfl rfl ?_
        refine z_iload_n rfl rfl ?_
        refine z_cvi (M' := M_w_placeOf) [.int l1] hx rfl w_370 cv_w_placeOf h_k.1 (by decide) rfl rfl rfl rfl (zcw_placeOf hx hG h_k hw) ?_ (fun _ _ hf => hf.elim)
        clear hw
        intro r5 S5 hw
        refine z_iconst 1 rfl rfl ?_
        refine z_iadd rfl ?_
        refine z_cvv (M' := M_w_insert) [.int l4, .int (r5 + 1)] hx rfl w_359 cv_w_insert h_k.1 (by decide) rfl rfl rfl rfl (zcw_insert hx hG h_k hw) ?_ (fun _ _ hf => hf.elim)
        clear hw
        intro S6 hw
        refine z_iconst 1 rfl rfl ?_
        exact z_zret rfl rfl (by decide) rfl rfl (Or.inl ⟨_, _, rfl, rfl, hw⟩)
      · replace hw := hw.2 hq
        refine z_iconst 0 rfl rfl ?_
        exact z_zret rfl rfl (by decide) rfl rfl (Or.inl ⟨_, _, rfl, rfl, hw⟩)
def cw_align (post : Int32 → Mem → Prop) (S : Mem) (k : Nat) (l1 : Int32) (l2 : Int32) (l3 : Int32) : Prop :=
  (vp_in l2 24) ∧ (((S ((k + 2) + l2.toNatClampNeg) 0) = 0) →
   post 0 S) ∧
  ((¬ (S ((k + 2) + l2.toNatClampNeg) 0) = 0) →
   cw_isIn (fun r1 S1 =>
    ((¬ r1 = 0) →
     post 0 S1) ∧
    ((r1 = 0) →
     cw_isIn (fun r2 S2 =>
      ((r2 = 0) →
       cw_edge (fun r3 S3 =>
        cw_edge (fun r4 S4 =>
         cw_move (fun r5 S5 =>
          vp_nar .boolean r5 = r5 ∧ post r5 S5) S4 k l1 (if (if l3 = 0 then 1 else (if l3 = 2 then 1 else 0 : Int32) : Int32) = 0 then 0 else (r3 - r4) : Int32) (if (if l3 = 0 then 1 else (if l3 = 2 then 1 else 0 : Int32) : Int32) = 0 then (r3 - r4) else 0 : Int32)) S3 k l1 l3) S2 k l2 l3) ∧
      ((¬ r2 = 0) →
       post 0 S2)) S1 k l2 l1)) S k l1 l2)
set_option maxRecDepth 100000 in
set_option maxHeartbeats 1000000 in
theorem zcw_align {g : Gm} {G : Gp} {S : Mem} {post : Int32 → Mem → Prop} {k : Nat} {l1 : Int32} {l2 : Int32} {l3 : Int32} (hx : G.2.2.2 = false) (hG : isD G) (h_k : isW G k) (hw : cw_align post S k l1 l2 l3) : Z g M_w_align 0 0 0 (entryL [.ref k, .int l1, .int l2, .int l3] (mL M_w_align)) [] (S, G) (Qi G post noEx) := by
  unfold cw_align at hw
  show Z g M_w_align 0 0 0 [some (.ref k), some (.int l1), some (.int l2), some (.int l3), none, none] [] (S, G) (Qi G post noEx)
  refine z_aload_n rfl rfl ?_
  refine z_getr (ci := 6) 0 rfl h_k.1 rfl w_151 h_k.2.1 ?_
  refine z_iload_n rfl rfl ?_
  obtain ⟨hc1, hw⟩ := hw
  refine z_aaldI rfl h_k.2.2.1.1 hc1 (h_k.2.2.1.2 _ (vlt hc1)).1 ?_
  refine z_geti (ci := 5) 0 rfl (h_k.2.2.1.2 _ (vlt hc1)).2 rfl w_119 ?_
  refine z_if_eq rfl (fun hq => ?_) (fun hq => ?_)
  · replace hw := hw.1 hq
    refine z_iconst 0 rfl rfl ?_
    exact z_zret rfl rfl (by decide) rfl rfl (Or.inl ⟨_, _, rfl, rfl, hw⟩)
  · replace hw := hw.2 hq
    refine z_aload_n rfl rfl ?_
    refine z_iload_n rfl rfl ?_
    refine z_iload_n rfl rfl ?_
    refine z_cvi (M' := M_w_isIn) [.int l1, .int l2] hx rfl w_378 cv_w_isIn h_k.1 (by decide) rfl rfl rfl rfl (zcw_isIn hx hG h_k hw) ?_ (fun _ _ hf => hf.elim)
    clear hw
    intro r1 S1 hw
    refine z_if_ne rfl (fun hq => ?_) (fun hq => ?_)
    · replace hw := hw.1 hq
      refine z_iconst 0 rfl rfl ?_
      exact z_zret rfl rfl (by decide) rfl rfl (Or.inl ⟨_, _, rfl, rfl, hw⟩)
    · replace hw := hw.2 hq
      refine z_aload_n rfl rfl ?_
      refine z_iload_n rfl rfl ?_
      refine z_iload_n rfl rfl ?_
      refine z_cvi (M' := M_w_isIn) [.int l2, .int l1] hx rfl w_378 cv_w_isIn h_k.1 (by decide) rfl rfl rfl rfl (zcw_isIn hx hG h_k hw) ?_ (fun _ _ hf => hf.elim)
      clear hw
      intro r2 S2 hw
      refine z_if_eq rfl (fun hq => ?_) (fun hq => ?_)
      · replace hw := hw.1 hq
        refine z_aload_n rfl rfl ?_
        refine z_iload_n rfl rfl ?_
        refine z_iload_n rfl rfl ?_
        refine z_cvi (M' := M_w_edge) [.int l2, .int l3] hx rfl w_408 cv_w_edge h_k.1 (by decide) rfl rfl rfl rfl (zcw_edge hx hG h_k hw) ?_ (fun _ _ hf => hf.elim)
        clear hw
        intro r3 S3 hw
        refine z_aload_n rfl rfl ?_
        refine z_iload_n rfl rfl ?_
        refine z_iload_n rfl rfl ?_
        refine z_cvi (M' := M_w_edge) [.int l1, .int l3] hx rfl w_408 cv_w_edge h_k.1 (by decide) rfl rfl rfl rfl (zcw_edge hx hG h_k hw) ?_ (fun _ _ hf => hf.elim)
        clear hw
        intro r4 S4 hw
        refine z_isub rfl ?_
        refine z_istore [some (.ref k), some (.int l1), some (.int l2), some (.int l3), some (.int (r3 - r4)), none] rfl rfl rfl ?_
        refine z_iload_n rfl rfl ?_
        have hj48 : ∀ v : Int32, v = (if l3 = 0 then 1 else (if l3 = 2 then 1 else 0 : Int32) : Int32) → Z g M_w_align 0 0 61 [some (.ref k), some (.int l1), some (.int l2), some (.int l3), some (.int (r3 - r4)), none] [.int v] (S4, G) (Qi G post noEx) := by
          intro v hv
          subst hv
          refine z_istore [some (.ref k), some (.int l1), some (.int l2), some (.int l3), some (.int (r3 - r4)), some (.int (if l3 = 0 then 1 else (if l3 = 2 then 1 else 0 : Int32) : Int32))] rfl rfl rfl ?_
          refine z_aload_n rfl rfl ?_
          refine z_iload_n rfl rfl ?_
          refine z_iload rfl rfl ?_
          have hj67 : ∀ v : Int32, v = (if (if l3 = 0 then 1 else (if l3 = 2 then 1 else 0 : Int32) : Int32) = 0 then 0 else (r3 - r4) : Int32) → Z g M_w_align 0 0 76 [some (.ref k), some (.int l1), some (.int l2), some (.int l3), some (.int (r3 - r4)), some (.int (if l3 = 0 then 1 else (if l3 = 2 then 1 else 0 : Int32) : Int32))] [.int v, .int l1, .ref k] (S4, G) (Qi G post noEx) := by
            intro v hv
            subst hv
            refine z_iload rfl rfl ?_
            have hj78 : ∀ v : Int32, v = (if (if l3 = 0 then 1 else (if l3 = 2 then 1 else 0 : Int32) : Int32) = 0 then (r3 - r4) else 0 : Int32) → Z g M_w_align 0 0 87 [some (.ref k), some (.int l1), some (.int l2), some (.int l3), some (.int (r3 - r4)), some (.int (if l3 = 0 then 1 else (if l3 = 2 then 1 else 0 : Int32) : Int32))] [.int v, .int (if (if l3 = 0 then 1 else (if l3 = 2 then 1 else 0 : Int32) : Int32) = 0 then 0 else (r3 - r4) : Int32), .int l1, .ref k] (S4, G) (Qi G post noEx) := by
              intro v hv
              subst hv
              refine z_cvi (M' := M_w_move) [.int l1, .int (if (if l3 = 0 then 1 else (if l3 = 2 then 1 else 0 : Int32) : Int32) = 0 then 0 else (r3 - r4) : Int32), .int (if (if l3 = 0 then 1 else (if l3 = 2 then 1 else 0 : Int32) : Int32) = 0 then (r3 - r4) else 0 : Int32)] hx rfl w_386 cv_w_move h_k.1 (by decide) rfl rfl rfl rfl (zcw_move hx hG h_k hw) ?_ (fun _ _ hf => hf.elim)
              clear hw
              intro r5 S5 hw
              obtain ⟨hc2, hw⟩ := hw
              exact z_zret rfl rfl (nar_of hc2) rfl rfl (Or.inl ⟨_, _, rfl, rfl, hw⟩)
            refine z_if_eq rfl (fun hp78 => ?_) (fun hp78 => ?_)
            · refine z_iload rfl rfl ?_
              exact hj78 _ (by rw [if_pos hp78])
            · refine z_iconst 0 rfl rfl ?_
              refine z_goto rfl ?_
              exact hj78 _ (by rw [if_neg hp78])
          refine z_if_eq rfl (fun hp67 => ?_) (fun hp67 => ?_)
          · refine z_iconst 0 rfl rfl ?_
            exact hj67 _ (by rw [if_pos hp67])
          · refine z_iload rfl rfl ?_
            refine z_goto rfl ?_
            exact hj67 _ (by rw [if_neg hp67])
        refine z_if_eq rfl (fun hp48 => ?_) (fun hp48 => ?_)
        · refine z_iconst 1 rfl rfl ?_
          refine z_goto rfl ?_
          exact hj48 _ (by rw [if_pos hp48])
        · refine z_iload_n rfl rfl ?_
          refine z_iconst 2 rfl rfl ?_
          refine z_icmp_ne rfl (fun hp53 => ?_) (fun hp53 => ?_)
          · refine z_iconst 0 rfl rfl ?_
            exact hj48 _ (by rw [if_neg hp48, if_neg hp53])
          · refine z_iconst 1 rfl rfl ?_
            refine z_goto rfl ?_
            exact hj48 _ (by rw [if_neg hp48, if_pos hp53])
      · replace hw := hw.2 hq
        refine z_iconst 0 rfl rfl ?_
        exact z_zret rfl rfl (by decide) rfl rfl (Or.inl ⟨_, _, rfl, rfl, hw⟩)
def cw_carryOut (post : Int32 → Mem → Prop) (S : Mem) (k : Nat) (l1 : Nat) (l2 : Int32) : Prop :=
  ((¬ (S l1 0) = 0) →
   (vp_in (S (l1 + 1) 0) 24) ∧ ((¬ (S ((k + 2) + (S (l1 + 1) 0).toNatClampNeg) 0) = 0) →
    ((S l1 0) = 1 → cw_delete (fun r1 S1 =>
      vp_nar .boolean r1 = r1 ∧ post r1 S1) S k (S (l1 + 1) 0)) ∧
    ((S l1 0) = 2 → cw_move (fun r2 S2 =>
      vp_nar .boolean r2 = r2 ∧ post r2 S2) S k (S (l1 + 1) 0) (S (l1 + 1) 1) (S (l1 + 1) 2)) ∧
    ((S l1 0) = 3 → cw_scale (fun r3 S3 =>
      vp_nar .boolean r3 = r3 ∧ post r3 S3) S k (S (l1 + 1) 0) (S (l1 + 1) 1) (S (l1 + 1) 2)) ∧
    ((S l1 0) = 4 → cw_paint (fun r4 S4 =>
      vp_nar .boolean r4 = r4 ∧ post r4 S4) S k (S (l1 + 1) 0) (S (l1 + 1) 1)) ∧
    ((S l1 0) = 5 → cw_raise (fun r5 S5 =>
      vp_nar .boolean r5 = r5 ∧ post r5 S5) S k (S (l1 + 1) 0) (S (l1 + 1) 1)) ∧
    ((S l1 0) = 6 → cw_group (fun r6 S6 =>
      vp_nar .boolean r6 = r6 ∧ post r6 S6) S k (S (l1 + 1) 0) (S (l1 + 1) 1) l2) ∧
    ((S l1 0) = 7 → cw_ungroup (fun r7 S7 =>
      vp_nar .boolean r7 = r7 ∧ post r7 S7) S k (S (l1 + 1) 0)) ∧
    ((S l1 0) = 8 → cw_makeDouble (fun r8 S8 =>
      vp_nar .boolean r8 = r8 ∧ post r8 S8) S k (S (l1 + 1) 0) (S (l1 + 1) 1) (S (l1 + 1) 2) l2) ∧
    ((S l1 0) = 9 → cw_align (fun r9 S9 =>
      vp_nar .boolean r9 = r9 ∧ post r9 S9) S k (S (l1 + 1) 0) (S (l1 + 1) 1) (S (l1 + 1) 2)) ∧
    (((S l1 0).toInt < 1 ∨ 9 < (S l1 0).toInt) → post 0 S)) ∧
   (((S ((k + 2) + (S (l1 + 1) 0).toNatClampNeg) 0) = 0) →
    post 0 S)) ∧
  (((S l1 0) = 0) →
   cw_make (fun r10 S10 =>
    vp_nar .boolean r10 = r10 ∧ post r10 S10) S k l1 l2)
set_option maxRecDepth 100000 in
set_option maxHeartbeats 1000000 in
theorem zcw_carryOut {g : Gm} {G : Gp} {S : Mem} {post : Int32 → Mem → Prop} {k : Nat} {l1 : Nat} {l2 : Int32} (hx : G.2.2.2 = false) (hG : isD G) (h_k : isW G k) (h_l1 : isA G l1) (hw : cw_carryOut post S k l1 l2) : Z g M_w_carryOut 0 0 0 (entryL [.ref k, .ref l1, .int l2] (mL M_w_carryOut)) [] (S, G) (Qi G post noEx) := by
  unfold cw_carryOut at hw
  show Z g M_w_carryOut 0 0 0 [some (.ref k), some (.ref l1), some (.int l2), none, none, none] [] (S, G) (Qi G post noEx)
  refine z_aload_n rfl rfl ?_
  refine z_getr (ci := 1) 2 rfl h_l1.1 rfl w_40 h_l1.2.1 ?_
  refine z_iconst 0 rfl rfl ?_
  refine z_iald (0) rfl h_l1.2.2 (vp_lit rfl) rfl ?_
  refine z_istore_n [some (.ref k), some (.ref l1), some (.int l2), some (.int (S (l1 + 1) 0)), none, none] rfl rfl rfl ?_
  refine z_aload_n rfl rfl ?_
  refine z_getr (ci := 1) 2 rfl h_l1.1 rfl w_40 h_l1.2.1 ?_
  refine z_iconst 1 rfl rfl ?_
  refine z_iald (1) rfl h_l1.2.2 (vp_lit rfl) rfl ?_
  refine z_istore [some (.ref k), some (.ref l1), some (.int l2), some (.int (S (l1 + 1) 0)), some (.int (S (l1 + 1) 1)), none] rfl rfl rfl ?_
  refine z_aload_n rfl rfl ?_
  refine z_getr (ci := 1) 2 rfl h_l1.1 rfl w_40 h_l1.2.1 ?_
  refine z_iconst 2 rfl rfl ?_
  refine z_iald (2) rfl h_l1.2.2 (vp_lit rfl) rfl ?_
  refine z_istore [some (.ref k), some (.ref l1), some (.int l2), some (.int (S (l1 + 1) 0)), some (.int (S (l1 + 1) 1)), some (.int (S (l1 + 1) 2))] rfl rfl rfl ?_
  refine z_aload_n rfl rfl ?_
  refine z_geti (ci := 1) 0 rfl h_l1.1 rfl w_34 ?_
  refine z_if_ne rfl (fun hq => ?_) (fun hq => ?_)
  · replace hw := hw.1 hq
    refine z_aload_n rfl rfl ?_
    refine z_getr (ci := 6) 0 rfl h_k.1 rfl w_151 h_k.2.1 ?_
    refine z_iload_n rfl rfl ?_
    obtain ⟨hc1, hw⟩ := hw
    refine z_aaldI rfl h_k.2.2.1.1 hc1 (h_k.2.2.1.2 _ (vlt hc1)).1 ?_
    refine z_geti (ci := 5) 0 rfl (h_k.2.2.1.2 _ (vlt hc1)).2 rfl w_119 ?_
    refine z_if_ne rfl (fun hq => ?_) (fun hq => ?_)
    · replace hw := hw.1 hq
      refine z_aload_n rfl rfl ?_
      refine z_geti (ci := 1) 0 rfl h_l1.1 rfl w_34 ?_
      by_cases hr : (S l1 0).toInt < 1 ∨ 9 < (S l1 0).toInt
      · refine z_switch 182 rfl (sw_out hr rfl) ?_
        replace hw := hw.2.2.2.2.2.2.2.2.2 hr
        refine z_iconst 0 rfl rfl ?_
        exact z_zret rfl rfl (by decide) rfl rfl (Or.inl ⟨_, _, rfl, rfl, hw⟩)
      · rcases sw_1_9 hr with hq | hq | hq | hq | hq | hq | hq | hq | hq
        · replace hw := hw.1 hq
          refine z_switch 104 rfl (sw_eq hq rfl) ?_
          refine z_aload_n rfl rfl ?_
          refine z_iload_n rfl rfl ?_
          refine z_cvi (M' := M_w_delete) [.int (S (l1 + 1) 0)] hx rfl w_366 cv_w_delete h_k.1 (by decide) rfl rfl rfl rfl (zcw_delete hx hG h_k hw) ?_ (fun _ _ hf => hf.elim)
          clear hw
          intro r1 S1 hw
          obtain ⟨hc2, hw⟩ := hw
          exact z_zret rfl rfl (nar_of hc2) rfl rfl (Or.inl ⟨_, _, rfl, rfl, hw⟩)
        · replace hw := hw.2.1 hq
          refine z_switch 110 rfl (sw_eq hq rfl) ?_
          refine z_aload_n rfl rfl ?_
          refine z_iload_n rfl rfl ?_
          refine z_iload rfl rfl ?_
          refine z_iload rfl rfl ?_
          refine z_cvi (M' := M_w_move) [.int (S (l1 + 1) 0), .int (S (l1 + 1) 1), .int (S (l1 + 1) 2)] hx rfl w_386 cv_w_move h_k.1 (by decide) rfl rfl rfl rfl (zcw_move hx hG h_k hw) ?_ (fun _ _ hf => hf.elim)
          clear hw
          intro r2 S2 hw
          obtain ⟨hc3, hw⟩ := hw
          exact z_zret rfl rfl (nar_of hc3) rfl rfl (Or.inl ⟨_, _, rfl, rfl, hw⟩)
        · replace hw := hw.2.2.1 hq
          refine z_switch 120 rfl (sw_eq hq rfl) ?_
          refine z_aload_n rfl rfl ?_
          refine z_iload_n rfl rfl ?_
          refine z_iload rfl rfl ?_
          refine z_iload rfl rfl ?_
          refine z_cvi (M' := M_w_scale) [.int (S (l1 + 1) 0), .int (S (l1 + 1) 1), .int (S (l1 + 1) 2)] hx rfl w_404 cv_w_scale h_k.1 (by decide) rfl rfl rfl rfl (zcw_scale hx hG h_k hw) ?_ (fun _ _ hf => hf.elim)
          clear hw
          intro r3 S3 hw
          obtain ⟨hc4, hw⟩ := hw
          exact z_zret rfl rfl (nar_of hc4) rfl rfl (Or.inl ⟨_, _, rfl, rfl, hw⟩)
        · replace hw := hw.2.2.2.1 hq
          refine z_switch 130 rfl (sw_eq hq rfl) ?_
          refine z_aload_n rfl rfl ?_
          refine z_iload_n rfl rfl ?_
          refine z_iload rfl rfl ?_
          refine z_cvi (M' := M_w_paint) [.int (S (l1 + 1) 0), .int (S (l1 + 1) 1)] hx rfl w_439 cv_w_paint h_k.1 (by decide) rfl rfl rfl rfl (zcw_paint hx hG h_k hw) ?_ (fun _ _ hf => hf.elim)
          clear hw
          intro r4 S4 hw
          obtain ⟨hc5, hw⟩ := hw
          exact z_zret rfl rfl (nar_of hc5) rfl rfl (Or.inl ⟨_, _, rfl, rfl, hw⟩)
        · replace hw := hw.2.2.2.2.1 hq
          refine z_switch 138 rfl (sw_eq hq rfl) ?_
          refine z_aload_n rfl rfl ?_
          refine z_iload_n rfl rfl ?_
          refine z_iload rfl rfl ?_
          refine z_cvi (M' := M_w_raise) [.int (S (l1 + 1) 0), .int (S (l1 + 1) 1)] hx rfl w_443 cv_w_raise h_k.1 (by decide) rfl rfl rfl rfl (zcw_raise hx hG h_k hw) ?_ (fun _ _ hf => hf.elim)
          clear hw
          intro r5 S5 hw
          obtain ⟨hc6, hw⟩ := hw
          exact z_zret rfl rfl (nar_of hc6) rfl rfl (Or.inl ⟨_, _, rfl, rfl, hw⟩)
        · replace hw := hw.2.2.2.2.2.1 hq
          refine z_switch 146 rfl (sw_eq hq rfl) ?_
          refine z_aload_n rfl rfl ?_
          refine z_iload_n rfl rfl ?_
          refine z_iload rfl rfl ?_
          refine z_iload_n rfl rfl ?_
          refine z_cvi (M' := M_w_group) [.int (S (l1 + 1) 0), .int (S (l1 + 1) 1), .int l2] hx rfl w_451 cv_w_group h_k.1 (by decide) rfl rfl rfl rfl (zcw_group hx hG h_k hw) ?_ (fun _ _ hf => hf.elim)
          clear hw
          intro r6 S6 hw
          obtain ⟨hc7, hw⟩ := hw
          exact z_zret rfl rfl (nar_of hc7) rfl rfl (Or.inl ⟨_, _, rfl, rfl, hw⟩)
        · replace hw := hw.2.2.2.2.2.2.1 hq
          refine z_switch 155 rfl (sw_eq hq rfl) ?_
          refine z_aload_n rfl rfl ?_
          refine z_iload_n rfl rfl ?_
          refine z_cvi (M' := M_w_ungroup) [.int (S (l1 + 1) 0)] hx rfl w_459 cv_w_ungroup h_k.1 (by decide) rfl rfl rfl rfl (zcw_ungroup hx hG h_k hw) ?_ (fun _ _ hf => hf.elim)
          clear hw
          intro r7 S7 hw
          obtain ⟨hc8, hw⟩ := hw
          exact z_zret rfl rfl (nar_of hc8) rfl rfl (Or.inl ⟨_, _, rfl, rfl, hw⟩)
        · replace hw := hw.2.2.2.2.2.2.2.1 hq
          refine z_switch 161 rfl (sw_eq hq rfl) ?_
          refine z_aload_n rfl rfl ?_
          refine z_iload_n rfl rfl ?_
          refine z_iload rfl rfl ?_
          refine z_iload rfl rfl ?_
          refine z_iload_n rfl rfl ?_
          refine z_cvi (M' := M_w_makeDouble) [.int (S (l1 + 1) 0), .int (S (l1 + 1) 1), .int (S (l1 + 1) 2), .int l2] hx rfl w_463 cv_w_makeDouble h_k.1 (by decide) rfl rfl rfl rfl (zcw_makeDouble hx hG h_k hw) ?_ (fun _ _ hf => hf.elim)
          clear hw
          intro r8 S8 hw
          obtain ⟨hc9, hw⟩ := hw
          exact z_zret rfl rfl (nar_of hc9) rfl rfl (Or.inl ⟨_, _, rfl, rfl, hw⟩)
        · replace hw := hw.2.2.2.2.2.2.2.2.1 hq
          refine z_switch 172 rfl (sw_eq hq rfl) ?_
          refine z_aload_n rfl rfl ?_
          refine z_iload_n rfl rfl ?_
          refine z_iload rfl rfl ?_
          refine z_iload rfl rfl ?_
          refine z_cvi (M' := M_w_align) [.int (S (l1 + 1) 0), .int (S (l1 + 1) 1), .int (S (l1 + 1) 2)] hx rfl w_467 cv_w_align h_k.1 (by decide) rfl rfl rfl rfl (zcw_align hx hG h_k hw) ?_ (fun _ _ hf => hf.elim)
          clear hw
          intro r9 S9 hw
          obtain ⟨hc10, hw⟩ := hw
          exact z_zret rfl rfl (nar_of hc10) rfl rfl (Or.inl ⟨_, _, rfl, rfl, hw⟩)
    · replace hw := hw.2 hq
      refine z_iconst 0 rfl rfl ?_
      exact z_zret rfl rfl (by decide) rfl rfl (Or.inl ⟨_, _, rfl, rfl, hw⟩)
  · replace hw := hw.2 hq
    refine z_aload_n rfl rfl ?_
    refine z_aload_n rfl rfl ?_
    refine z_iload_n rfl rfl ?_
    refine z_cvi (M' := M_w_make) [.ref l1, .int l2] hx rfl w_342 cv_w_make h_k.1 (by decide) rfl rfl rfl rfl (zcw_make hx hG h_k h_l1 hw) ?_ (fun _ _ hf => hf.elim)
    clear hw
    intro r10 S10 hw
    obtain ⟨hc11, hw⟩ := hw
    exact z_zret rfl rfl (nar_of hc11) rfl rfl (Or.inl ⟨_, _, rfl, rfl, hw⟩)
def ca_copy (post : Mem → Prop) (S : Mem) (k : Nat) (l1 : Nat) : Prop :=
  ∀ S1, S1 = up2 S k 0 (S l1 0) → (vp_nar .boolean (S1 l1 1) = (S1 l1 1)) ∧ ∀ S2, S2 = up2 S1 k 1 (S1 l1 1) → ∀ S3, S3 = cpy2 S2 (l1 + 1) (k + 1) 0 0 4 → post S3
set_option maxRecDepth 100000 in
set_option maxHeartbeats 1000000 in
theorem zca_copy {g : Gm} {G : Gp} {S : Mem} {post : Mem → Prop} {k : Nat} {l1 : Nat} (hx : G.2.2.2 = false) (hG : isD G) (h_k : isA G k) (h_l1 : isA G l1) (hw : ca_copy post S k l1) : Z g M_a_copy 0 0 0 (entryL [.ref k, .ref l1] (mL M_a_copy)) [] (S, G) (Qv G post noEx) := by
  unfold ca_copy at hw
  show Z g M_a_copy 0 0 0 [some (.ref k), some (.ref l1)] [] (S, G) (Qv G post noEx)
  refine z_aload_n rfl rfl ?_
  refine z_aload_n rfl rfl ?_
  refine z_geti (ci := 1) 0 rfl h_l1.1 rfl w_33 ?_
  replace hw := hw _ rfl
  refine z_puti (ci := 1) 0 rfl h_k.1 rfl w_33 rfl rfl rfl ?_
  refine z_aload_n rfl rfl ?_
  refine z_aload_n rfl rfl ?_
  refine z_geti (ci := 1) 1 rfl h_l1.1 rfl w_36 ?_
  obtain ⟨hc1, hw⟩ := hw
  replace hw := hw _ rfl
  refine z_puti (ci := 1) 1 rfl h_k.1 rfl w_36 rfl (nar_of hc1) (fit_of hc1) ?_
  refine z_aload_n rfl rfl ?_
  refine z_getr (ci := 1) 2 rfl h_l1.1 rfl w_39 h_l1.2.1 ?_
  refine z_iconst 0 rfl rfl ?_
  refine z_aload_n rfl rfl ?_
  refine z_getr (ci := 1) 2 rfl h_k.1 rfl w_39 h_k.2.1 ?_
  refine z_iconst 0 rfl rfl ?_
  refine z_iconst 4 rfl rfl ?_
  replace hw := hw _ rfl
  refine z_copyi rfl w_490 w_cp1 w_cp2 w_cp3 rfl h_l1.2.2 h_k.2.2 (by decide) (by decide) (by decide) (by decide) (by decide) ?_
  exact z_vret rfl rfl rfl rfl (Or.inl ⟨_, rfl, rfl, hw⟩)
def ch_at (post : Nat → Mem → Prop) (S : Mem) (k : Nat) (l1 : Int32) : Prop :=
  (vp_in (((S k 1) + l1) - ((S k 1) + l1) / 32 * 32) 32) ∧ post ((k + 2) + (((S k 1) + l1) - ((S k 1) + l1) / 32 * 32).toNatClampNeg) S
set_option maxRecDepth 100000 in
set_option maxHeartbeats 1000000 in
theorem zch_at {g : Gm} {G : Gp} {S : Mem} {post : Nat → Mem → Prop} {k : Nat} {l1 : Int32} (hx : G.2.2.2 = false) (hG : isD G) (h_k : isH G k) (hw : ch_at post S k l1) : Z g M_h_at 0 0 0 (entryL [.ref k, .int l1] (mL M_h_at)) [] (S, G) (Qr G (fun x S => isE G x ∧ post x S) noEx) := by
  unfold ch_at at hw
  show Z g M_h_at 0 0 0 [some (.ref k), some (.int l1)] [] (S, G) (Qr G (fun x S => isE G x ∧ post x S) noEx)
  refine z_aload_n rfl rfl ?_
  refine z_getr (ci := 3) 0 rfl h_k.1 rfl w_84 h_k.2.1 ?_
  refine z_aload_n rfl rfl ?_
  refine z_geti (ci := 3) 1 rfl h_k.1 rfl w_85 ?_
  refine z_iload_n rfl rfl ?_
  refine z_iadd rfl ?_
  refine z_bipush 32 rfl rfl ?_
  refine z_irem rfl (by decide) ?_
  obtain ⟨hc1, hw⟩ := hw
  refine z_aaldE rfl h_k.2.2.1 hc1 (h_k.2.2.2 _ (vlt hc1)).1 ?_
  exact z_aret rfl rfl rfl rfl (Or.inl ⟨_, _, rfl, rfl, ⟨(h_k.2.2.2 _ (vlt hc1)).2, hw⟩⟩)
def ch_add_J40 (post : Nat → Mem → Prop)  (S : Mem) (k : Nat) : Prop :=
  ch_at (fun r1 S1 =>
   post r1 S1) S k ((S k 2) - 1)
set_option maxRecDepth 100000 in
set_option maxHeartbeats 1000000 in
theorem zch_add_J40 {g : Gm} {G : Gp} {post : Nat → Mem → Prop} (hx : G.2.2.2 = false) (hG : isD G) {S : Mem} {k : Nat}  (h_k : isH G k) (hw : ch_add_J40 post S k) : Z g M_h_add 0 0 40 [some (.ref k)] [] (S, G) (Qr G (fun x S => isE G x ∧ post x S) noEx) := by
  unfold ch_add_J40 at hw
  refine z_aload_n rfl rfl ?_
  refine z_aload_n rfl rfl ?_
  refine z_geti (ci := 3) 2 rfl h_k.1 rfl w_86 ?_
  refine z_iconst 1 rfl rfl ?_
  refine z_isub rfl ?_
  refine z_cvr (M' := M_h_at) [.int ((S k 2) - 1)] hx rfl w_495 cv_h_at h_k.1 (by decide) rfl rfl rfl rfl (zch_at hx hG h_k hw) ?_ (fun _ _ hf => hf.elim)
  clear hw
  rintro r1 S1 ⟨hr_r1, hw⟩
  exact z_aret rfl rfl rfl rfl (Or.inl ⟨_, _, rfl, rfl, ⟨hr_r1, hw⟩⟩)
def ch_add (post : Nat → Mem → Prop) (S : Mem) (k : Nat) : Prop :=
  ∀ S1, S1 = up2 S k 3 0 → ((¬ (S1 k 2) = 32) →
   ∀ S2, S2 = up2 S1 k 2 ((S1 k 2) + 1) → ch_add_J40 post S2 k) ∧
  (((S1 k 2) = 32) →
   ∀ S3, S3 = up2 S1 k 1 (((S1 k 1) + 1) - ((S1 k 1) + 1) / 32 * 32) → ch_add_J40 post S3 k)
set_option maxRecDepth 100000 in
set_option maxHeartbeats 1000000 in
theorem zch_add {g : Gm} {G : Gp} {S : Mem} {post : Nat → Mem → Prop} {k : Nat} (hx : G.2.2.2 = false) (hG : isD G) (h_k : isH G k) (hw : ch_add post S k) : Z g M_h_add 0 0 0 (entryL [.ref k] (mL M_h_add)) [] (S, G) (Qr G (fun x S => isE G x ∧ post x S) noEx) := by
  unfold ch_add at hw
  show Z g M_h_add 0 0 0 [some (.ref k)] [] (S, G) (Qr G (fun x S => isE G x ∧ post x S) noEx)
  refine z_aload_n rfl rfl ?_
  refine z_iconst 0 rfl rfl ?_
  replace hw := hw _ rfl
  refine z_puti (ci := 3) 3 rfl h_k.1 rfl w_88 rfl rfl rfl ?_
  refine z_aload_n rfl rfl ?_
  refine z_geti (ci := 3) 2 rfl h_k.1 rfl w_86 ?_
  refine z_bipush 32 rfl rfl ?_
  refine z_icmp_ne rfl (fun hq => ?_) (fun hq => ?_)
  · replace hw := hw.1 hq
    refine z_aload_n rfl rfl ?_
    refine z_dup rfl rfl ?_
    refine z_geti (ci := 3) 2 rfl h_k.1 rfl w_86 ?_
    refine z_iconst 1 rfl rfl ?_
    refine z_iadd rfl ?_
    replace hw := hw _ rfl
    refine z_puti (ci := 3) 2 rfl h_k.1 rfl w_86 rfl rfl rfl ?_
    refine Z.forget' [some (.ref k)] ⟨rfl, trivial⟩ ?_
    exact zch_add_J40 hx hG h_k hw
  · replace hw := hw.2 hq
    refine z_aload_n rfl rfl ?_
    refine z_aload_n rfl rfl ?_
    refine z_geti (ci := 3) 1 rfl h_k.1 rfl w_85 ?_
    refine z_iconst 1 rfl rfl ?_
    refine z_iadd rfl ?_
    refine z_bipush 32 rfl rfl ?_
    refine z_irem rfl (by decide) ?_
    replace hw := hw _ rfl
    refine z_puti (ci := 3) 1 rfl h_k.1 rfl w_85 rfl rfl rfl ?_
    refine z_goto rfl ?_
    refine Z.forget' [some (.ref k)] ⟨rfl, trivial⟩ ?_
    exact zch_add_J40 hx hG h_k hw
def ce_become (post : Mem → Prop) (S : Mem) (k : Nat) (l1 : Int32) (l2 : Int32) (l3 : Int32) (l4 : Int32) (l5 : Int32) : Prop :=
  ∀ S1, S1 = up2 S k 0 l1 → ∀ S2, S2 = up2 S1 k 1 l2 → ∀ S3, S3 = up2 S2 k 2 l3 → ∀ S4, S4 = up2 S3 k 3 l4 → ∀ S5, S5 = up2 S4 k 4 l5 → post S5
set_option maxRecDepth 100000 in
set_option maxHeartbeats 1000000 in
theorem zce_become {g : Gm} {G : Gp} {S : Mem} {post : Mem → Prop} {k : Nat} {l1 : Int32} {l2 : Int32} {l3 : Int32} {l4 : Int32} {l5 : Int32} (hx : G.2.2.2 = false) (hG : isD G) (h_k : isE G k) (hw : ce_become post S k l1 l2 l3 l4 l5) : Z g M_e_become 0 0 0 (entryL [.ref k, .int l1, .int l2, .int l3, .int l4, .int l5] (mL M_e_become)) [] (S, G) (Qv G post noEx) := by
  unfold ce_become at hw
  show Z g M_e_become 0 0 0 [some (.ref k), some (.int l1), some (.int l2), some (.int l3), some (.int l4), some (.int l5)] [] (S, G) (Qv G post noEx)
  refine z_aload_n rfl rfl ?_
  refine z_iload_n rfl rfl ?_
  replace hw := hw _ rfl
  refine z_puti (ci := 2) 0 rfl h_k rfl w_63 rfl rfl rfl ?_
  refine z_aload_n rfl rfl ?_
  refine z_iload_n rfl rfl ?_
  replace hw := hw _ rfl
  refine z_puti (ci := 2) 1 rfl h_k rfl w_65 rfl rfl rfl ?_
  refine z_aload_n rfl rfl ?_
  refine z_iload_n rfl rfl ?_
  replace hw := hw _ rfl
  refine z_puti (ci := 2) 2 rfl h_k rfl w_67 rfl rfl rfl ?_
  refine z_aload_n rfl rfl ?_
  refine z_iload rfl rfl ?_
  replace hw := hw _ rfl
  refine z_puti (ci := 2) 3 rfl h_k rfl w_69 rfl rfl rfl ?_
  refine z_aload_n rfl rfl ?_
  refine z_iload rfl rfl ?_
  replace hw := hw _ rfl
  refine z_puti (ci := 2) 4 rfl h_k rfl w_71 rfl rfl rfl ?_
  exact z_vret rfl rfl rfl rfl (Or.inl ⟨_, rfl, rfl, hw⟩)
def cw_clear (post : Mem → Prop) (S : Mem) (k : Nat) : Prop :=
  cw_removeBlock (fun S1 =>
   post S1) S k 0 (S k 2)
set_option maxRecDepth 100000 in
set_option maxHeartbeats 1000000 in
theorem zcw_clear {g : Gm} {G : Gp} {S : Mem} {post : Mem → Prop} {k : Nat} (hx : G.2.2.2 = false) (hG : isD G) (h_k : isW G k) (hw : cw_clear post S k) : Z g M_w_clear 0 0 0 (entryL [.ref k] (mL M_w_clear)) [] (S, G) (Qv G post noEx) := by
  unfold cw_clear at hw
  show Z g M_w_clear 0 0 0 [some (.ref k)] [] (S, G) (Qv G post noEx)
  refine z_aload_n rfl rfl ?_
  refine z_iconst 0 rfl rfl ?_
  refine z_aload_n rfl rfl ?_
  refine z_geti (ci := 6) 2 rfl h_k.1 rfl w_155 ?_
  refine z_cvv (M' := M_w_removeBlock) [.int 0, .int (S k 2)] hx rfl w_382 cv_w_removeBlock h_k.1 (by decide) rfl rfl rfl rfl (zcw_removeBlock hx hG h_k hw) ?_ (fun _ _ hf => hf.elim)
  clear hw
  intro S1 hw
  exact z_vret rfl rfl rfl rfl (Or.inl ⟨_, rfl, rfl, hw⟩)
def co_play_L25 (post : Mem → Prop)  : Nat → Mem → Nat → Nat → Int32 → Int32 → Int32 → Prop
  | 0, _, _, _, _, _, _ => False
  | n + 1, S, k, l1, l2, l3, l4 =>
  ((l2 ≤ l4) →
   post S) ∧
  ((¬ l2 ≤ l4) →
   (vp_in l4 24) ∧ (((if (S ((l1 + 1) + 2 * l4.toNatClampNeg) 1) = (if l4 = l3 then 1 else 0 : Int32) then 0 else 1 : Int32) = 0) →
    (vp_in l4 24) ∧ cw_carryOut (fun r1 S1 =>
     (vp_in l4 24) ∧ ∀ S2, S2 = up2 S1 (k + 29) l4.toNatClampNeg (if r1 = 0 then 2 else 1 : Int32) → co_play_L25 post n S2 k l1 l2 l3 (l4 + 1)) S (k + 1) ((l1 + 1) + 2 * l4.toNatClampNeg) l4) ∧
   ((¬ (if (S ((l1 + 1) + 2 * l4.toNatClampNeg) 1) = (if l4 = l3 then 1 else 0 : Int32) then 0 else 1 : Int32) = 0) →
    (vp_in l4 24) ∧ ∀ S3, S3 = up2 S (k + 29) l4.toNatClampNeg 0 → co_play_L25 post n S3 k l1 l2 l3 (l4 + 1)))
set_option maxRecDepth 100000 in
set_option maxHeartbeats 1000000 in
theorem zco_play_L25 {g : Gm} {G : Gp} {post : Mem → Prop} (hx : G.2.2.2 = false) (hG : isD G) : ∀ (n : Nat) {S : Mem} {k : Nat} {l1 : Nat} {l2 : Int32} {l3 : Int32} {l4 : Int32}  (h_k : isO G k) (h_l1 : isRow G l1), co_play_L25 post n S k l1 l2 l3 l4 → Z g M_o_play 0 0 25 [some (.ref k), some (.ref l1), some (.int l2), some (.int l3), some (.int l4), none] [] (S, G) (Qv G post noEx) := by
  intro n
  induction n with
  | zero =>
    intros
    rename_i hw
    exact hw.elim
  | succ n ih =>
    intro S k l1 l2 l3 l4 h_k h_l1 hw
    rw [co_play_L25] at hw
    refine z_iload rfl rfl ?_
    refine z_iload_n rfl rfl ?_
    refine z_icmp_ge rfl (fun hq => ?_) (fun hq => ?_)
    · replace hw := hw.1 hq
      exact z_vret rfl rfl rfl rfl (Or.inl ⟨_, rfl, rfl, hw⟩)
    · replace hw := hw.2 hq
      refine z_aload_n rfl rfl ?_
      refine z_iload rfl rfl ?_
      obtain ⟨hc1, hw⟩ := hw
      refine z_aaldA rfl h_l1.1 hc1 (h_l1.2 _ (vlt hc1)).1 ?_
      refine z_geti (ci := 1) 1 rfl (h_l1.2 _ (vlt hc1)).2.1 rfl w_37 ?_
      refine z_iload rfl rfl ?_
      refine z_iload_n rfl rfl ?_
      have hj41 : ∀ v : Int32, v = (if l4 = l3 then 1 else 0 : Int32) → Z g M_o_play 0 0 49 [some (.ref k), some (.ref l1), some (.int l2), some (.int l3), some (.int l4), none] [.int v, .int (S ((l1 + 1) + 2 * l4.toNatClampNeg) 1)] (S, G) (Qv G post noEx) := by
        intro v hv
        subst hv
        have hj49 : ∀ v : Int32, v = (if (S ((l1 + 1) + 2 * l4.toNatClampNeg) 1) = (if l4 = l3 then 1 else 0 : Int32) then 0 else 1 : Int32) → Z g M_o_play 0 0 57 [some (.ref k), some (.ref l1), some (.int l2), some (.int l3), some (.int l4), none] [.int v] (S, G) (Qv G post noEx) := by
          intro v hv
          subst hv
          refine z_istore [some (.ref k), some (.ref l1), some (.int l2), some (.int l3), some (.int l4), some (.int (if (S ((l1 + 1) + 2 * l4.toNatClampNeg) 1) = (if l4 = l3 then 1 else 0 : Int32) then 0 else 1 : Int32))] rfl rfl rfl ?_
          refine z_iload rfl rfl ?_
          refine z_if_eq rfl (fun hq => ?_) (fun hq => ?_)
          · replace hw := hw.1 hq
            refine z_aload_n rfl rfl ?_
            refine z_getr (ci := 4) 1 rfl h_k.1 rfl w_169 h_k.2.2.2.1 ?_
            refine z_iload rfl rfl ?_
            refine z_aload_n rfl rfl ?_
            refine z_getr (ci := 4) 0 rfl h_k.1 rfl w_167 h_k.2.1 ?_
            refine z_aload_n rfl rfl ?_
            refine z_iload rfl rfl ?_
            obtain ⟨hc2, hw⟩ := hw
            refine z_aaldA rfl h_l1.1 hc2 (h_l1.2 _ (vlt hc2)).1 ?_
            refine z_iload rfl rfl ?_
            refine z_cvi (M' := M_w_carryOut) [.ref ((l1 + 1) + 2 * l4.toNatClampNeg), .int l4] hx rfl w_539 cv_w_carryOut h_k.2.2.1.1 (by decide) rfl rfl rfl rfl (zcw_carryOut hx hG h_k.2.2.1 (h_l1.2 _ (vlt hc2)).2 hw) ?_ (fun _ _ hf => hf.elim)
            clear hw
            intro r1 S1 hw
            have hj94 : ∀ v : Int32, v = (if r1 = 0 then 2 else 1 : Int32) → Z g M_o_play 0 0 102 [some (.ref k), some (.ref l1), some (.int l2), some (.int l3), some (.int l4), some (.int (if (S ((l1 + 1) + 2 * l4.toNatClampNeg) 1) = (if l4 = l3 then 1 else 0 : Int32) then 0 else 1 : Int32))] [.int v, .int l4, .ref (k + 29)] (S1, G) (Qv G post noEx) := by
              intro v hv
              subst hv
              obtain ⟨hc3, hw⟩ := hw
              replace hw := hw _ rfl
              refine z_iast (l4.toNatClampNeg) rfl h_k.2.2.2.2.1 hc3 rfl ?_
              refine z_iinc 1 [some (.ref k), some (.ref l1), some (.int l2), some (.int l3), some (.int (l4 + 1)), some (.int (if (S ((l1 + 1) + 2 * l4.toNatClampNeg) 1) = (if l4 = l3 then 1 else 0 : Int32) then 0 else 1 : Int32))] rfl rfl rfl rfl ?_
              refine z_goto rfl ?_
              refine Z.forget' [some (.ref k), some (.ref l1), some (.int l2), some (.int l3), some (.int (l4 + 1)), none] ⟨rfl, ⟨rfl, ⟨rfl, ⟨rfl, ⟨rfl, trivial⟩⟩⟩⟩⟩ ?_
              exact ih h_k h_l1 hw
            refine z_if_eq rfl (fun hp94 => ?_) (fun hp94 => ?_)
            · refine z_iconst 2 rfl rfl ?_
              exact hj94 _ (by rw [if_pos hp94])
            · refine z_iconst 1 rfl rfl ?_
              refine z_goto rfl ?_
              exact hj94 _ (by rw [if_neg hp94])
          · replace hw := hw.2 hq
            refine z_aload_n rfl rfl ?_
            refine z_getr (ci := 4) 1 rfl h_k.1 rfl w_169 h_k.2.2.2.1 ?_
            refine z_iload rfl rfl ?_
            refine z_iconst 0 rfl rfl ?_
            obtain ⟨hc5, hw⟩ := hw
            replace hw := hw _ rfl
            refine z_iast (l4.toNatClampNeg) rfl h_k.2.2.2.2.1 hc5 rfl ?_
            refine z_goto rfl ?_
            refine z_iinc 1 [some (.ref k), some (.ref l1), some (.int l2), some (.int l3), some (.int (l4 + 1)), some (.int (if (S ((l1 + 1) + 2 * l4.toNatClampNeg) 1) = (if l4 = l3 then 1 else 0 : Int32) then 0 else 1 : Int32))] rfl rfl rfl rfl ?_
            refine z_goto rfl ?_
            refine Z.forget' [some (.ref k), some (.ref l1), some (.int l2), some (.int l3), some (.int (l4 + 1)), none] ⟨rfl, ⟨rfl, ⟨rfl, ⟨rfl, ⟨rfl, trivial⟩⟩⟩⟩⟩ ?_
            exact ih h_k h_l1 hw
        refine z_icmp_eq rfl (fun hp49 => ?_) (fun hp49 => ?_)
        · refine z_iconst 0 rfl rfl ?_
          exact hj49 _ (by rw [if_pos hp49])
        · refine z_iconst 1 rfl rfl ?_
          refine z_goto rfl ?_
          exact hj49 _ (by rw [if_neg hp49])
      refine z_icmp_ne rfl (fun hp41 => ?_) (fun hp41 => ?_)
      · refine z_iconst 0 rfl rfl ?_
        exact hj41 _ (by rw [if_neg hp41])
      · refine z_iconst 1 rfl rfl ?_
        refine z_goto rfl ?_
        exact hj41 _ (by rw [if_pos hp41])
def co_play (post : Mem → Prop) (S : Mem) (k : Nat) (l1 : Nat) (l2 : Int32) (l3 : Int32) : Prop :=
  ∀ S1, S1 = cpy2 S (k + 29) (k + 30) 0 0 24 → cw_clear (fun S2 =>
   ∃ n, co_play_L25 post n S2 k l1 l2 l3 0) S1 (k + 1)
set_option maxRecDepth 100000 in
set_option maxHeartbeats 1000000 in
theorem zco_play {g : Gm} {G : Gp} {S : Mem} {post : Mem → Prop} {k : Nat} {l1 : Nat} {l2 : Int32} {l3 : Int32} (hx : G.2.2.2 = false) (hG : isD G) (h_k : isO G k) (h_l1 : isRow G l1) (hw : co_play post S k l1 l2 l3) : Z g M_o_play 0 0 0 (entryL [.ref k, .ref l1, .int l2, .int l3] (mL M_o_play)) [] (S, G) (Qv G post noEx) := by
  unfold co_play at hw
  show Z g M_o_play 0 0 0 [some (.ref k), some (.ref l1), some (.int l2), some (.int l3), none, none] [] (S, G) (Qv G post noEx)
  refine z_aload_n rfl rfl ?_
  refine z_getr (ci := 4) 1 rfl h_k.1 rfl w_169 h_k.2.2.2.1 ?_
  refine z_iconst 0 rfl rfl ?_
  refine z_aload_n rfl rfl ?_
  refine z_getr (ci := 4) 2 rfl h_k.1 rfl w_171 h_k.2.2.2.2.2.1 ?_
  refine z_iconst 0 rfl rfl ?_
  refine z_bipush 24 rfl rfl ?_
  replace hw := hw _ rfl
  refine z_copyi rfl w_534 w_cp1 w_cp2 w_cp3 rfl h_k.2.2.2.2.1 h_k.2.2.2.2.2.2 (by decide) (by decide) (by decide) (by decide) (by decide) ?_
  refine z_aload_n rfl rfl ?_
  refine z_getr (ci := 4) 0 rfl h_k.1 rfl w_167 h_k.2.1 ?_
  refine z_cvv (M' := M_w_clear) [] hx rfl w_535 cv_w_clear h_k.2.2.1.1 (by decide) rfl rfl rfl rfl (zcw_clear hx hG h_k.2.2.1 hw) ?_ (fun _ _ hf => hf.elim)
  clear hw
  intro S2 hw
  refine z_iconst 0 rfl rfl ?_
  refine z_istore [some (.ref k), some (.ref l1), some (.int l2), some (.int l3), some (.int 0), none] rfl rfl rfl ?_
  refine Z.forget' [some (.ref k), some (.ref l1), some (.int l2), some (.int l3), some (.int 0), none] ⟨rfl, ⟨rfl, ⟨rfl, ⟨rfl, ⟨rfl, trivial⟩⟩⟩⟩⟩ ?_
  obtain ⟨n, hw⟩ := hw
  exact zco_play_L25 hx hG n h_k h_l1 hw
def cd_changedBeside_L4 (post : Int32 → Mem → Prop)  : Nat → Mem → Int32 → Int32 → Int32 → Prop
  | 0, _, _, _, _ => False
  | n + 1, S, l1, l2, l3 =>
  (((S 0 5) ≤ l3) →
   post l2 S) ∧
  ((¬ (S 0 5) ≤ l3) →
   ((l3 = l1) →
    cd_changedBeside_L4 post n S l1 l2 (l3 + 1)) ∧
   ((¬ l3 = l1) →
    (vp_in l3 24) ∧ (vp_in l3 24) ∧ (((S 115 l3.toNatClampNeg) = (S 116 l3.toNatClampNeg)) →
     cd_changedBeside_L4 post n S l1 l2 (l3 + 1)) ∧
    ((¬ (S 115 l3.toNatClampNeg) = (S 116 l3.toNatClampNeg)) →
     cd_changedBeside_L4 post n S l1 (l2 + 1) (l3 + 1))))
set_option maxRecDepth 100000 in
set_option maxHeartbeats 1000000 in
theorem zcd_changedBeside_L4 {g : Gm} {G : Gp} {post : Int32 → Mem → Prop} (hx : G.2.2.2 = false) (hG : isD G) : ∀ (n : Nat) {S : Mem} {l1 : Int32} {l2 : Int32} {l3 : Int32} , cd_changedBeside_L4 post n S l1 l2 l3 → Z g M_d_changedBeside 0 0 4 [some (.ref 0), some (.int l1), some (.int l2), some (.int l3)] [] (S, G) (Qi G post noEx) := by
  intro n
  induction n with
  | zero =>
    intros
    rename_i hw
    exact hw.elim
  | succ n ih =>
    intro S l1 l2 l3 hw
    rw [cd_changedBeside_L4] at hw
    refine z_iload_n rfl rfl ?_
    refine z_aload_n rfl rfl ?_
    refine z_geti (ci := 0) 5 rfl hG.1 rfl w_185 ?_
    refine z_icmp_ge rfl (fun hq => ?_) (fun hq => ?_)
    · replace hw := hw.1 hq
      refine z_iload_n rfl rfl ?_
      exact z_iret rfl rfl rfl rfl (Or.inl ⟨_, _, rfl, rfl, hw⟩)
    · replace hw := hw.2 hq
      refine z_iload_n rfl rfl ?_
      refine z_iload_n rfl rfl ?_
      refine z_icmp_eq rfl (fun hq => ?_) (fun hq => ?_)
      · replace hw := hw.1 hq
        refine z_iinc 1 [some (.ref 0), some (.int l1), some (.int l2), some (.int (l3 + 1))] rfl rfl rfl rfl ?_
        refine z_goto rfl ?_
        refine Z.forget' [some (.ref 0), some (.int l1), some (.int l2), some (.int (l3 + 1))] ⟨rfl, ⟨rfl, ⟨rfl, ⟨rfl, trivial⟩⟩⟩⟩ ?_
        exact ih hw
      · replace hw := hw.2 hq
        refine z_aload_n rfl rfl ?_
        refine z_getr (ci := 0) 3 rfl hG.1 rfl w_183 hG.2.2.2.2.2.2.2.1 ?_
        refine z_getr (ci := 4) 1 rfl hG.2.2.2.2.2.2.2.2.1.1 rfl w_170 hG.2.2.2.2.2.2.2.2.1.2.2.2.1 ?_
        refine z_iload_n rfl rfl ?_
        obtain ⟨hc1, hw⟩ := hw
        refine z_iald (l3.toNatClampNeg) rfl hG.2.2.2.2.2.2.2.2.1.2.2.2.2.1 hc1 rfl ?_
        refine z_aload_n rfl rfl ?_
        refine z_getr (ci := 0) 3 rfl hG.1 rfl w_183 hG.2.2.2.2.2.2.2.1 ?_
        refine z_getr (ci := 4) 2 rfl hG.2.2.2.2.2.2.2.2.1.1 rfl w_172 hG.2.2.2.2.2.2.2.2.1.2.2.2.2.2.1 ?_
        refine z_iload_n rfl rfl ?_
        obtain ⟨hc2, hw⟩ := hw
        refine z_iald (l3.toNatClampNeg) rfl hG.2.2.2.2.2.2.2.2.1.2.2.2.2.2.2 hc2 rfl ?_
        refine z_icmp_eq rfl (fun hq => ?_) (fun hq => ?_)
        · replace hw := hw.1 hq
          refine z_iinc 1 [some (.ref 0), some (.int l1), some (.int l2), some (.int (l3 + 1))] rfl rfl rfl rfl ?_
          refine z_goto rfl ?_
          refine Z.forget' [some (.ref 0), some (.int l1), some (.int l2), some (.int (l3 + 1))] ⟨rfl, ⟨rfl, ⟨rfl, ⟨rfl, trivial⟩⟩⟩⟩ ?_
          exact ih hw
        · replace hw := hw.2 hq
          refine z_iinc 1 [some (.ref 0), some (.int l1), some (.int (l2 + 1)), some (.int l3)] rfl rfl rfl rfl ?_
          refine z_iinc 1 [some (.ref 0), some (.int l1), some (.int (l2 + 1)), some (.int (l3 + 1))] rfl rfl rfl rfl ?_
          refine z_goto rfl ?_
          refine Z.forget' [some (.ref 0), some (.int l1), some (.int (l2 + 1)), some (.int (l3 + 1))] ⟨rfl, ⟨rfl, ⟨rfl, ⟨rfl, trivial⟩⟩⟩⟩ ?_
          exact ih hw
def cd_changedBeside (post : Int32 → Mem → Prop) (S : Mem) (l1 : Int32) : Prop :=
  ∃ n, cd_changedBeside_L4 post n S l1 0 0
set_option maxRecDepth 100000 in
set_option maxHeartbeats 1000000 in
theorem zcd_changedBeside {g : Gm} {G : Gp} {S : Mem} {post : Int32 → Mem → Prop} {l1 : Int32} (hx : G.2.2.2 = false) (hG : isD G) (hw : cd_changedBeside post S l1) : Z g M_d_changedBeside 0 0 0 (entryL [.ref 0, .int l1] (mL M_d_changedBeside)) [] (S, G) (Qi G post noEx) := by
  unfold cd_changedBeside at hw
  show Z g M_d_changedBeside 0 0 0 [some (.ref 0), some (.int l1), none, none] [] (S, G) (Qi G post noEx)
  refine z_iconst 0 rfl rfl ?_
  refine z_istore_n [some (.ref 0), some (.int l1), some (.int 0), none] rfl rfl rfl ?_
  refine z_iconst 0 rfl rfl ?_
  refine z_istore_n [some (.ref 0), some (.int l1), some (.int 0), some (.int 0)] rfl rfl rfl ?_
  refine Z.forget' [some (.ref 0), some (.int l1), some (.int 0), some (.int 0)] ⟨rfl, ⟨rfl, ⟨rfl, ⟨rfl, trivial⟩⟩⟩⟩ ?_
  obtain ⟨n, hw⟩ := hw
  exact zcd_changedBeside_L4 hx hG n hw
def ch_stepBack (post : Nat → Mem → Prop) (S : Mem) (k : Nat) : Prop :=
  ∀ S1, S1 = up2 S k 2 ((S k 2) - 1) → ∀ S2, S2 = up2 S1 k 3 ((S1 k 3) + 1) → ch_at (fun r1 S3 =>
   post r1 S3) S2 k (S2 k 2)
set_option maxRecDepth 100000 in
set_option maxHeartbeats 1000000 in
theorem zch_stepBack {g : Gm} {G : Gp} {S : Mem} {post : Nat → Mem → Prop} {k : Nat} (hx : G.2.2.2 = false) (hG : isD G) (h_k : isH G k) (hw : ch_stepBack post S k) : Z g M_h_stepBack 0 0 0 (entryL [.ref k] (mL M_h_stepBack)) [] (S, G) (Qr G (fun x S => isE G x ∧ post x S) noEx) := by
  unfold ch_stepBack at hw
  show Z g M_h_stepBack 0 0 0 [some (.ref k)] [] (S, G) (Qr G (fun x S => isE G x ∧ post x S) noEx)
  refine z_aload_n rfl rfl ?_
  refine z_dup rfl rfl ?_
  refine z_geti (ci := 3) 2 rfl h_k.1 rfl w_86 ?_
  refine z_iconst 1 rfl rfl ?_
  refine z_isub rfl ?_
  replace hw := hw _ rfl
  refine z_puti (ci := 3) 2 rfl h_k.1 rfl w_86 rfl rfl rfl ?_
  refine z_aload_n rfl rfl ?_
  refine z_dup rfl rfl ?_
  refine z_geti (ci := 3) 3 rfl h_k.1 rfl w_88 ?_
  refine z_iconst 1 rfl rfl ?_
  refine z_iadd rfl ?_
  replace hw := hw _ rfl
  refine z_puti (ci := 3) 3 rfl h_k.1 rfl w_88 rfl rfl rfl ?_
  refine z_aload_n rfl rfl ?_
  refine z_aload_n rfl rfl ?_
  refine z_geti (ci := 3) 2 rfl h_k.1 rfl w_86 ?_
  refine z_cvr (M' := M_h_at) [.int ((up2 (up2 S k 2 ((S k 2) - 1)) k 3 (((up2 S k 2 ((S k 2) - 1)) k 3) + 1)) k 2)] hx rfl w_495 cv_h_at h_k.1 (by decide) rfl rfl rfl rfl (zch_at hx hG h_k hw) ?_ (fun _ _ hf => hf.elim)
  clear hw
  rintro r1 S3 ⟨hr_r1, hw⟩
  exact z_aret rfl rfl rfl rfl (Or.inl ⟨_, _, rfl, rfl, ⟨hr_r1, hw⟩⟩)
def cd_setEdit (post : Mem → Prop) (S : Mem) (l1 : Nat) (l2 : Int32) : Prop :=
  (vp_in (S l1 1) 24) ∧ ((S l1 0) = 0 → ∀ S1, S1 = up2 S 0 5 (if l2 = 0 then (S l1 1) else ((S l1 1) + 1) : Int32) → post S1) ∧
  ((S l1 0) = 1 → (vp_nar .boolean l2 = l2) ∧ ∀ S2, S2 = up2 S (2 + 2 * (S l1 1).toNatClampNeg) 1 l2 → post S2) ∧
  ((S l1 0) = 2 → (vp_nar .boolean (if l2 = 0 then 1 else 0 : Int32) = (if l2 = 0 then 1 else 0 : Int32)) ∧ ∀ S3, S3 = up2 S (2 + 2 * (S l1 1).toNatClampNeg) 1 (if l2 = 0 then 1 else 0 : Int32) → post S3) ∧
  (((S l1 0).toInt < 0 ∨ 2 < (S l1 0).toInt) → (vp_in (S l1 2) 4) ∧ ∀ S4, S4 = up2 S ((2 + 2 * (S l1 1).toNatClampNeg) + 1) (S l1 2).toNatClampNeg (if l2 = 0 then (S l1 3) else (S l1 4) : Int32) → post S4)
set_option maxRecDepth 100000 in
set_option maxHeartbeats 1000000 in
theorem zcd_setEdit {g : Gm} {G : Gp} {S : Mem} {post : Mem → Prop} {l1 : Nat} {l2 : Int32} (hx : G.2.2.2 = false) (hG : isD G) (h_l1 : isE G l1) (hw : cd_setEdit post S l1 l2) : Z g M_d_setEdit 0 0 0 (entryL [.ref 0, .ref l1, .int l2] (mL M_d_setEdit)) [] (S, G) (Qv G post noEx) := by
  unfold cd_setEdit at hw
  show Z g M_d_setEdit 0 0 0 [some (.ref 0), some (.ref l1), some (.int l2), none] [] (S, G) (Qv G post noEx)
  refine z_aload_n rfl rfl ?_
  refine z_getr (ci := 0) 0 rfl hG.1 rfl w_180 hG.2.1 ?_
  refine z_aload_n rfl rfl ?_
  refine z_geti (ci := 2) 1 rfl h_l1 rfl w_66 ?_
  obtain ⟨hc1, hw⟩ := hw
  refine z_aaldA rfl hG.2.2.1.1 hc1 (hG.2.2.1.2 _ (vlt hc1)).1 ?_
  refine z_astore_n [some (.ref 0), some (.ref l1), some (.int l2), some (.ref (2 + 2 * (S l1 1).toNatClampNeg))] rfl rfl rfl ?_
  refine z_aload_n rfl rfl ?_
  refine z_geti (ci := 2) 0 rfl h_l1 rfl w_64 ?_
  by_cases hr : (S l1 0).toInt < 0 ∨ 2 < (S l1 0).toInt
  · refine z_switch 88 rfl (sw_out hr rfl) ?_
    replace hw := hw.2.2.2 hr
    refine z_aload_n rfl rfl ?_
    refine z_getr (ci := 1) 2 rfl (hG.2.2.1.2 _ (vlt hc1)).2.1 rfl w_41 (hG.2.2.1.2 _ (vlt hc1)).2.2.1 ?_
    refine z_aload_n rfl rfl ?_
    refine z_geti (ci := 2) 2 rfl h_l1 rfl w_68 ?_
    refine z_iload_n rfl rfl ?_
    have hj97 : ∀ v : Int32, v = (if l2 = 0 then (S l1 3) else (S l1 4) : Int32) → Z g M_d_setEdit 0 0 111 [some (.ref 0), some (.ref l1), some (.int l2), some (.ref (2 + 2 * (S l1 1).toNatClampNeg))] [.int v, .int (S l1 2), .ref ((2 + 2 * (S l1 1).toNatClampNeg) + 1)] (S, G) (Qv G post noEx) := by
      intro v hv
      subst hv
      obtain ⟨hc6, hw⟩ := hw
      replace hw := hw _ rfl
      refine z_iast ((S l1 2).toNatClampNeg) rfl (hG.2.2.1.2 _ (vlt hc1)).2.2.2 hc6 rfl ?_
      exact z_vret rfl rfl rfl rfl (Or.inl ⟨_, rfl, rfl, hw⟩)
    refine z_if_eq rfl (fun hp97 => ?_) (fun hp97 => ?_)
    · refine z_aload_n rfl rfl ?_
      refine z_geti (ci := 2) 3 rfl h_l1 rfl w_70 ?_
      exact hj97 _ (by rw [if_pos hp97])
    · refine z_aload_n rfl rfl ?_
      refine z_geti (ci := 2) 4 rfl h_l1 rfl w_72 ?_
      refine z_goto rfl ?_
      exact hj97 _ (by rw [if_neg hp97])
  · rcases sw_0_2 hr with hq | hq | hq
    · replace hw := hw.1 hq
      refine z_switch 40 rfl (sw_eq hq rfl) ?_
      refine z_aload_n rfl rfl ?_
      refine z_iload_n rfl rfl ?_
      have hj42 : ∀ v : Int32, v = (if l2 = 0 then (S l1 1) else ((S l1 1) + 1) : Int32) → Z g M_d_setEdit 0 0 58 [some (.ref 0), some (.ref l1), some (.int l2), some (.ref (2 + 2 * (S l1 1).toNatClampNeg))] [.int v, .ref 0] (S, G) (Qv G post noEx) := by
        intro v hv
        subst hv
        replace hw := hw _ rfl
        refine z_puti (ci := 0) 5 rfl hG.1 rfl w_185 rfl rfl rfl ?_
        refine z_goto rfl ?_
        exact z_vret rfl rfl rfl rfl (Or.inl ⟨_, rfl, rfl, hw⟩)
      refine z_if_eq rfl (fun hp42 => ?_) (fun hp42 => ?_)
      · refine z_aload_n rfl rfl ?_
        refine z_geti (ci := 2) 1 rfl h_l1 rfl w_66 ?_
        exact hj42 _ (by rw [if_pos hp42])
      · refine z_aload_n rfl rfl ?_
        refine z_geti (ci := 2) 1 rfl h_l1 rfl w_66 ?_
        refine z_iconst 1 rfl rfl ?_
        refine z_iadd rfl ?_
        refine z_goto rfl ?_
        exact hj42 _ (by rw [if_neg hp42])
    · replace hw := hw.2.1 hq
      refine z_switch 64 rfl (sw_eq hq rfl) ?_
      refine z_aload_n rfl rfl ?_
      refine z_iload_n rfl rfl ?_
      obtain ⟨hc3, hw⟩ := hw
      replace hw := hw _ rfl
      refine z_puti (ci := 1) 1 rfl (hG.2.2.1.2 _ (vlt hc1)).2.1 rfl w_38 rfl (nar_of hc3) (fit_of hc3) ?_
      refine z_goto rfl ?_
      exact z_vret rfl rfl rfl rfl (Or.inl ⟨_, rfl, rfl, hw⟩)
    · replace hw := hw.2.2.1 hq
      refine z_switch 72 rfl (sw_eq hq rfl) ?_
      refine z_aload_n rfl rfl ?_
      refine z_iload_n rfl rfl ?_
      have hj74 : ∀ v : Int32, v = (if l2 = 0 then 1 else 0 : Int32) → Z g M_d_setEdit 0 0 82 [some (.ref 0), some (.ref l1), some (.int l2), some (.ref (2 + 2 * (S l1 1).toNatClampNeg))] [.int v, .ref (2 + 2 * (S l1 1).toNatClampNeg)] (S, G) (Qv G post noEx) := by
        intro v hv
        subst hv
        obtain ⟨hc4, hw⟩ := hw
        replace hw := hw _ rfl
        refine z_puti (ci := 1) 1 rfl (hG.2.2.1.2 _ (vlt hc1)).2.1 rfl w_38 rfl (nar_of hc4) (fit_of hc4) ?_
        refine z_goto rfl ?_
        exact z_vret rfl rfl rfl rfl (Or.inl ⟨_, rfl, rfl, hw⟩)
      refine z_if_ne rfl (fun hp74 => ?_) (fun hp74 => ?_)
      · refine z_iconst 0 rfl rfl ?_
        exact hj74 _ (by rw [if_neg hp74])
      · refine z_iconst 1 rfl rfl ?_
        refine z_goto rfl ?_
        exact hj74 _ (by rw [if_pos hp74])
def ch_stepForward (post : Nat → Mem → Prop) (S : Mem) (k : Nat) : Prop :=
  ∀ S1, S1 = up2 S k 2 ((S k 2) + 1) → ∀ S2, S2 = up2 S1 k 3 ((S1 k 3) - 1) → ch_at (fun r1 S3 =>
   post r1 S3) S2 k ((S2 k 2) - 1)
set_option maxRecDepth 100000 in
set_option maxHeartbeats 1000000 in
theorem zch_stepForward {g : Gm} {G : Gp} {S : Mem} {post : Nat → Mem → Prop} {k : Nat} (hx : G.2.2.2 = false) (hG : isD G) (h_k : isH G k) (hw : ch_stepForward post S k) : Z g M_h_stepForward 0 0 0 (entryL [.ref k] (mL M_h_stepForward)) [] (S, G) (Qr G (fun x S => isE G x ∧ post x S) noEx) := by
  unfold ch_stepForward at hw
  show Z g M_h_stepForward 0 0 0 [some (.ref k)] [] (S, G) (Qr G (fun x S => isE G x ∧ post x S) noEx)
  refine z_aload_n rfl rfl ?_
  refine z_dup rfl rfl ?_
  refine z_geti (ci := 3) 2 rfl h_k.1 rfl w_86 ?_
  refine z_iconst 1 rfl rfl ?_
  refine z_iadd rfl ?_
  replace hw := hw _ rfl
  refine z_puti (ci := 3) 2 rfl h_k.1 rfl w_86 rfl rfl rfl ?_
  refine z_aload_n rfl rfl ?_
  refine z_dup rfl rfl ?_
  refine z_geti (ci := 3) 3 rfl h_k.1 rfl w_88 ?_
  refine z_iconst 1 rfl rfl ?_
  refine z_isub rfl ?_
  replace hw := hw _ rfl
  refine z_puti (ci := 3) 3 rfl h_k.1 rfl w_88 rfl rfl rfl ?_
  refine z_aload_n rfl rfl ?_
  refine z_aload_n rfl rfl ?_
  refine z_geti (ci := 3) 2 rfl h_k.1 rfl w_86 ?_
  refine z_iconst 1 rfl rfl ?_
  refine z_isub rfl ?_
  refine z_cvr (M' := M_h_at) [.int (((up2 (up2 S k 2 ((S k 2) + 1)) k 3 (((up2 S k 2 ((S k 2) + 1)) k 3) - 1)) k 2) - 1)] hx rfl w_495 cv_h_at h_k.1 (by decide) rfl rfl rfl rfl (zch_at hx hG h_k hw) ?_ (fun _ _ hf => hf.elim)
  clear hw
  rintro r1 S3 ⟨hr_r1, hw⟩
  exact z_aret rfl rfl rfl rfl (Or.inl ⟨_, _, rfl, rfl, ⟨hr_r1, hw⟩⟩)
def cd_actions (post : Int32 → Mem → Prop) (S : Mem)  : Prop :=
  post (S 0 5) S
set_option maxRecDepth 100000 in
set_option maxHeartbeats 1000000 in
theorem zcd_actions {g : Gm} {G : Gp} {S : Mem} {post : Int32 → Mem → Prop}  (hx : G.2.2.2 = false) (hG : isD G) (hw : cd_actions post S ) : Z g M_d_actions 0 0 0 (entryL [.ref 0] (mL M_d_actions)) [] (S, G) (Qi G post noEx) := by
  unfold cd_actions at hw
  show Z g M_d_actions 0 0 0 [some (.ref 0)] [] (S, G) (Qi G post noEx)
  refine z_aload_n rfl rfl ?_
  refine z_geti (ci := 0) 5 rfl hG.1 rfl w_185 ?_
  exact z_iret rfl rfl rfl rfl (Or.inl ⟨_, _, rfl, rfl, hw⟩)
def cd_objects (post : Int32 → Mem → Prop) (S : Mem)  : Prop :=
  post (S 87 2) S
set_option maxRecDepth 100000 in
set_option maxHeartbeats 1000000 in
theorem zcd_objects {g : Gm} {G : Gp} {S : Mem} {post : Int32 → Mem → Prop}  (hx : G.2.2.2 = false) (hG : isD G) (hw : cd_objects post S ) : Z g M_d_objects 0 0 0 (entryL [.ref 0] (mL M_d_objects)) [] (S, G) (Qi G post noEx) := by
  unfold cd_objects at hw
  show Z g M_d_objects 0 0 0 [some (.ref 0)] [] (S, G) (Qi G post noEx)
  refine z_aload_n rfl rfl ?_
  refine z_getr (ci := 0) 3 rfl hG.1 rfl w_183 hG.2.2.2.2.2.2.2.1 ?_
  refine z_getr (ci := 4) 0 rfl hG.2.2.2.2.2.2.2.2.1.1 rfl w_168 hG.2.2.2.2.2.2.2.2.1.2.1 ?_
  refine z_geti (ci := 6) 2 rfl hG.2.2.2.2.2.2.2.2.1.2.2.1.1 rfl w_156 ?_
  exact z_iret rfl rfl rfl rfl (Or.inl ⟨_, _, rfl, rfl, hw⟩)
def cw_tell (post : Int32 → Mem → Prop) (S : Mem) (k : Nat) (l1 : Int32) (l2 : Int32) : Prop :=
  (vp_in l1 24) ∧ (l2 = 0 → post l1 S) ∧
  (l2 = 1 → post (S ((k + 2) + l1.toNatClampNeg) 1) S) ∧
  (l2 = 2 → cw_edge (fun r1 S1 =>
    post r1 S1) S k l1 0) ∧
  (l2 = 3 → cw_edge (fun r2 S2 =>
    post r2 S2) S k l1 1) ∧
  (l2 = 4 → cw_edge (fun r3 S3 =>
    cw_edge (fun r4 S4 =>
     post (r3 - r4) S4) S3 k l1 0) S k l1 2) ∧
  (l2 = 5 → cw_edge (fun r5 S5 =>
    cw_edge (fun r6 S6 =>
     post (r5 - r6) S6) S5 k l1 1) S k l1 3) ∧
  (l2 = 6 → post (S ((k + 2) + l1.toNatClampNeg) 6) S) ∧
  ((l2.toInt < 0 ∨ 6 < l2.toInt) → post (S ((k + 2) + l1.toNatClampNeg) 7) S)
set_option maxRecDepth 100000 in
set_option maxHeartbeats 1000000 in
theorem zcw_tell {g : Gm} {G : Gp} {S : Mem} {post : Int32 → Mem → Prop} {k : Nat} {l1 : Int32} {l2 : Int32} (hx : G.2.2.2 = false) (hG : isD G) (h_k : isW G k) (hw : cw_tell post S k l1 l2) : Z g M_w_tell 0 0 0 (entryL [.ref k, .int l1, .int l2] (mL M_w_tell)) [] (S, G) (Qi G post noEx) := by
  unfold cw_tell at hw
  show Z g M_w_tell 0 0 0 [some (.ref k), some (.int l1), some (.int l2), none] [] (S, G) (Qi G post noEx)
  refine z_aload_n rfl rfl ?_
  refine z_getr (ci := 6) 0 rfl h_k.1 rfl w_151 h_k.2.1 ?_
  refine z_iload_n rfl rfl ?_
  obtain ⟨hc1, hw⟩ := hw
  refine z_aaldI rfl h_k.2.2.1.1 hc1 (h_k.2.2.1.2 _ (vlt hc1)).1 ?_
  refine z_astore_n [some (.ref k), some (.int l1), some (.int l2), some (.ref ((k + 2) + l1.toNatClampNeg))] rfl rfl rfl ?_
  refine z_iload_n rfl rfl ?_
  by_cases hr : l2.toInt < 0 ∨ 6 < l2.toInt
  · refine z_switch 106 rfl (sw_out hr rfl) ?_
    replace hw := hw.2.2.2.2.2.2.2 hr
    refine z_aload_n rfl rfl ?_
    refine z_geti (ci := 5) 7 rfl (h_k.2.2.1.2 _ (vlt hc1)).2 rfl w_133 ?_
    exact z_iret rfl rfl rfl rfl (Or.inl ⟨_, _, rfl, rfl, hw⟩)
  · rcases sw_0_6 hr with hq | hq | hq | hq | hq | hq | hq
    · replace hw := hw.1 hq
      refine z_switch 52 rfl (sw_eq hq rfl) ?_
      refine z_iload_n rfl rfl ?_
      exact z_iret rfl rfl rfl rfl (Or.inl ⟨_, _, rfl, rfl, hw⟩)
    · replace hw := hw.2.1 hq
      refine z_switch 54 rfl (sw_eq hq rfl) ?_
      refine z_aload_n rfl rfl ?_
      refine z_geti (ci := 5) 1 rfl (h_k.2.2.1.2 _ (vlt hc1)).2 rfl w_121 ?_
      exact z_iret rfl rfl rfl rfl (Or.inl ⟨_, _, rfl, rfl, hw⟩)
    · replace hw := hw.2.2.1 hq
      refine z_switch 59 rfl (sw_eq hq rfl) ?_
      refine z_aload_n rfl rfl ?_
      refine z_iload_n rfl rfl ?_
      refine z_iconst 0 rfl rfl ?_
      refine z_cvi (M' := M_w_edge) [.int l1, .int 0] hx rfl w_408 cv_w_edge h_k.1 (by decide) rfl rfl rfl rfl (zcw_edge hx hG h_k hw) ?_ (fun _ _ hf => hf.elim)
      clear hw
      intro r1 S1 hw
      exact z_iret rfl rfl rfl rfl (Or.inl ⟨_, _, rfl, rfl, hw⟩)
    · replace hw := hw.2.2.2.1 hq
      refine z_switch 66 rfl (sw_eq hq rfl) ?_
      refine z_aload_n rfl rfl ?_
      refine z_iload_n rfl rfl ?_
      refine z_iconst 1 rfl rfl ?_
      refine z_cvi (M' := M_w_edge) [.int l1, .int 1] hx rfl w_408 cv_w_edge h_k.1 (by decide) rfl rfl rfl rfl (zcw_edge hx hG h_k hw) ?_ (fun _ _ hf => hf.elim)
      clear hw
      intro r2 S2 hw
      exact z_iret rfl rfl rfl rfl (Or.inl ⟨_, _, rfl, rfl, hw⟩)
    · replace hw := hw.2.2.2.2.1 hq
      refine z_switch 73 rfl (sw_eq hq rfl) ?_
      refine z_aload_n rfl rfl ?_
      refine z_iload_n rfl rfl ?_
      refine z_iconst 2 rfl rfl ?_
      refine z_cvi (M' := M_w_edge) [.int l1, .int 2] hx rfl w_408 cv_w_edge h_k.1 (by decide) rfl rfl rfl rfl (zcw_edge hx hG h_k hw) ?_ (fun _ _ hf => hf.elim)
      clear hw
      intro r3 S3 hw
      refine z_aload_n rfl rfl ?_
      refine z_iload_n rfl rfl ?_
      refine z_iconst 0 rfl rfl ?_
      refine z_cvi (M' := M_w_edge) [.int l1, .int 0] hx rfl w_408 cv_w_edge h_k.1 (by decide) rfl rfl rfl rfl (zcw_edge hx hG h_k hw) ?_ (fun _ _ hf => hf.elim)
      clear hw
      intro r4 S4 hw
      refine z_isub rfl ?_
      exact z_iret rfl rfl rfl rfl (Or.inl ⟨_, _, rfl, rfl, hw⟩)
    · replace hw := hw.2.2.2.2.2.1 hq
      refine z_switch 87 rfl (sw_eq hq rfl) ?_
      refine z_aload_n rfl rfl ?_
      refine z_iload_n rfl rfl ?_
      refine z_iconst 3 rfl rfl ?_
      refine z_cvi (M' := M_w_edge) [.int l1, .int 3] hx rfl w_408 cv_w_edge h_k.1 (by decide) rfl rfl rfl rfl (zcw_edge hx hG h_k hw) ?_ (fun _ _ hf => hf.elim)
      clear hw
      intro r5 S5 hw
      refine z_aload_n rfl rfl ?_
      refine z_iload_n rfl rfl ?_
      refine z_iconst 1 rfl rfl ?_
      refine z_cvi (M' := M_w_edge) [.int l1, .int 1] hx rfl w_408 cv_w_edge h_k.1 (by decide) rfl rfl rfl rfl (zcw_edge hx hG h_k hw) ?_ (fun _ _ hf => hf.elim)
      clear hw
      intro r6 S6 hw
      refine z_isub rfl ?_
      exact z_iret rfl rfl rfl rfl (Or.inl ⟨_, _, rfl, rfl, hw⟩)
    · replace hw := hw.2.2.2.2.2.2.1 hq
      refine z_switch 101 rfl (sw_eq hq rfl) ?_
      refine z_aload_n rfl rfl ?_
      refine z_geti (ci := 5) 6 rfl (h_k.2.2.1.2 _ (vlt hc1)).2 rfl w_131 ?_
      exact z_iret rfl rfl rfl rfl (Or.inl ⟨_, _, rfl, rfl, hw⟩)
def ci_ellipseReaches (post : Int32 → Mem → Prop) (S : Mem) (k : Nat) (l1 : Int64) (l3 : Int64) : Prop :=
  vp_nar .boolean (if 0 < (lg_cmp (((l1 * l1) * (((S k 5)).toInt64 * ((S k 5)).toInt64)) + ((l3 * l3) * (((S k 4)).toInt64 * ((S k 4)).toInt64))) ((((S k 4)).toInt64 * ((S k 4)).toInt64) * (((S k 5)).toInt64 * ((S k 5)).toInt64))) then 0 else 1 : Int32) = (if 0 < (lg_cmp (((l1 * l1) * (((S k 5)).toInt64 * ((S k 5)).toInt64)) + ((l3 * l3) * (((S k 4)).toInt64 * ((S k 4)).toInt64))) ((((S k 4)).toInt64 * ((S k 4)).toInt64) * (((S k 5)).toInt64 * ((S k 5)).toInt64))) then 0 else 1 : Int32) ∧ post (if 0 < (lg_cmp (((l1 * l1) * (((S k 5)).toInt64 * ((S k 5)).toInt64)) + ((l3 * l3) * (((S k 4)).toInt64 * ((S k 4)).toInt64))) ((((S k 4)).toInt64 * ((S k 4)).toInt64) * (((S k 5)).toInt64 * ((S k 5)).toInt64))) then 0 else 1 : Int32) S
set_option maxRecDepth 100000 in
set_option maxHeartbeats 1000000 in
theorem zci_ellipseReaches {g : Gm} {G : Gp} {S : Mem} {post : Int32 → Mem → Prop} {k : Nat} {l1 : Int64} {l3 : Int64} (hx : G.2.2.2 = false) (hG : isD G) (h_k : isI G k) (hw : ci_ellipseReaches post S k l1 l3) : Z g M_i_ellipseReaches 0 0 0 (entryL [.ref k, .long l1, .long l3] (mL M_i_ellipseReaches)) [] (S, G) (Qi G post noEx) := by
  unfold ci_ellipseReaches at hw
  show Z g M_i_ellipseReaches 0 0 0 [some (.ref k), some (.long l1), none, some (.long l3), none, none, none, none, none] [] (S, G) (Qi G post noEx)
  refine z_aload_n rfl rfl ?_
  refine z_geti (ci := 5) 4 rfl h_k rfl w_126 ?_
  refine z_i2l rfl ?_
  refine z_aload_n rfl rfl ?_
  refine z_geti (ci := 5) 4 rfl h_k rfl w_126 ?_
  refine z_i2l rfl ?_
  refine z_lmul rfl ?_
  refine z_lstore [some (.ref k), some (.long l1), none, some (.long l3), none, some (.long (((S k 4)).toInt64 * ((S k 4)).toInt64)), none, none, none] rfl rfl rfl ?_
  refine z_aload_n rfl rfl ?_
  refine z_geti (ci := 5) 5 rfl h_k rfl w_128 ?_
  refine z_i2l rfl ?_
  refine z_aload_n rfl rfl ?_
  refine z_geti (ci := 5) 5 rfl h_k rfl w_128 ?_
  refine z_i2l rfl ?_
  refine z_lmul rfl ?_
  refine z_lstore [some (.ref k), some (.long l1), none, some (.long l3), none, some (.long (((S k 4)).toInt64 * ((S k 4)).toInt64)), none, some (.long (((S k 5)).toInt64 * ((S k 5)).toInt64)), none] rfl rfl rfl ?_
  refine z_lload_n rfl rfl ?_
  refine z_lload_n rfl rfl ?_
  refine z_lmul rfl ?_
  refine z_lload rfl rfl ?_
  refine z_lmul rfl ?_
  refine z_lload_n rfl rfl ?_
  refine z_lload_n rfl rfl ?_
  refine z_lmul rfl ?_
  refine z_lload rfl rfl ?_
  refine z_lmul rfl ?_
  refine z_ladd rfl ?_
  refine z_lload rfl rfl ?_
  refine z_lload rfl rfl ?_
  refine z_lmul rfl ?_
  refine z_lcmp rfl ?_
  have hj45 : ∀ v : Int32, v = (if 0 < (lg_cmp (((l1 * l1) * (((S k 5)).toInt64 * ((S k 5)).toInt64)) + ((l3 * l3) * (((S k 4)).toInt64 * ((S k 4)).toInt64))) ((((S k 4)).toInt64 * ((S k 4)).toInt64) * (((S k 5)).toInt64 * ((S k 5)).toInt64))) then 0 else 1 : Int32) → Z g M_i_ellipseReaches 0 0 53 [some (.ref k), some (.long l1), none, some (.long l3), none, some (.long (((S k 4)).toInt64 * ((S k 4)).toInt64)), none, some (.long (((S k 5)).toInt64 * ((S k 5)).toInt64)), none] [.int v] (S, G) (Qi G post noEx) := by
    intro v hv
    subst hv
    obtain ⟨hc1, hw⟩ := hw
    exact z_zret rfl rfl (nar_of hc1) rfl rfl (Or.inl ⟨_, _, rfl, rfl, hw⟩)
  refine z_if_gt rfl (fun hp45 => ?_) (fun hp45 => ?_)
  · refine z_iconst 0 rfl rfl ?_
    exact hj45 _ (by rw [if_pos hp45])
  · refine z_iconst 1 rfl rfl ?_
    refine z_goto rfl ?_
    exact hj45 _ (by rw [if_neg hp45])
def ci_covers (post : Int32 → Mem → Prop) (S : Mem) (k : Nat) (l1 : Int32) (l2 : Int32) : Prop :=
  ci_isShape (fun r1 S1 =>
   ((r1 = 0) →
    post 0 S1) ∧
   ((¬ r1 = 0) →
    ((l1 < (S1 k 2)) →
     post 0 S1) ∧
    ((¬ l1 < (S1 k 2)) →
     ((((S1 k 2) + (S1 k 4)) ≤ l1) →
      post 0 S1) ∧
     ((¬ ((S1 k 2) + (S1 k 4)) ≤ l1) →
      ((l2 < (S1 k 3)) →
       post 0 S1) ∧
      ((¬ l2 < (S1 k 3)) →
       ((l2 < ((S1 k 3) + (S1 k 5))) →
        ((S1 k 1) = 1 → ci_ellipseReaches (fun r2 S2 =>
          vp_nar .boolean r2 = r2 ∧ post r2 S2) S1 k ((((2 * (l1 - (S1 k 2))) + 1) - (S1 k 4))).toInt64 ((((2 * (l2 - (S1 k 3))) + 1) - (S1 k 5))).toInt64) ∧
        ((S1 k 1) = 2 → vp_nar .boolean (if ((S1 k 4) * (S1 k 5)) < (((if 0 ≤ (((2 * (l1 - (S1 k 2))) + 1) - (S1 k 4)) then (((2 * (l1 - (S1 k 2))) + 1) - (S1 k 4)) else 0 - (((2 * (l1 - (S1 k 2))) + 1) - (S1 k 4)) : Int32) * (S1 k 5)) + ((if 0 ≤ (((2 * (l2 - (S1 k 3))) + 1) - (S1 k 5)) then (((2 * (l2 - (S1 k 3))) + 1) - (S1 k 5)) else 0 - (((2 * (l2 - (S1 k 3))) + 1) - (S1 k 5)) : Int32) * (S1 k 4))) then 0 else 1 : Int32) = (if ((S1 k 4) * (S1 k 5)) < (((if 0 ≤ (((2 * (l1 - (S1 k 2))) + 1) - (S1 k 4)) then (((2 * (l1 - (S1 k 2))) + 1) - (S1 k 4)) else 0 - (((2 * (l1 - (S1 k 2))) + 1) - (S1 k 4)) : Int32) * (S1 k 5)) + ((if 0 ≤ (((2 * (l2 - (S1 k 3))) + 1) - (S1 k 5)) then (((2 * (l2 - (S1 k 3))) + 1) - (S1 k 5)) else 0 - (((2 * (l2 - (S1 k 3))) + 1) - (S1 k 5)) : Int32) * (S1 k 4))) then 0 else 1 : Int32) ∧ post (if ((S1 k 4) * (S1 k 5)) < (((if 0 ≤ (((2 * (l1 - (S1 k 2))) + 1) - (S1 k 4)) then (((2 * (l1 - (S1 k 2))) + 1) - (S1 k 4)) else 0 - (((2 * (l1 - (S1 k 2))) + 1) - (S1 k 4)) : Int32) * (S1 k 5)) + ((if 0 ≤ (((2 * (l2 - (S1 k 3))) + 1) - (S1 k 5)) then (((2 * (l2 - (S1 k 3))) + 1) - (S1 k 5)) else 0 - (((2 * (l2 - (S1 k 3))) + 1) - (S1 k 5)) : Int32) * (S1 k 4))) then 0 else 1 : Int32) S1) ∧
        ((¬ (S1 k 1) = 1 ∧ ¬ (S1 k 1) = 2) → post 1 S1)) ∧
       ((¬ l2 < ((S1 k 3) + (S1 k 5))) →
        post 0 S1)))))) S k
set_option maxRecDepth 100000 in
set_option maxHeartbeats 1000000 in
theorem zci_covers {g : Gm} {G : Gp} {S : Mem} {post : Int32 → Mem → Prop} {k : Nat} {l1 : Int32} {l2 : Int32} (hx : G.2.2.2 = false) (hG : isD G) (h_k : isI G k) (hw : ci_covers post S k l1 l2) : Z g M_i_covers 0 0 0 (entryL [.ref k, .int l1, .int l2] (mL M_i_covers)) [] (S, G) (Qi G post noEx) := by
  unfold ci_covers at hw
  show Z g M_i_covers 0 0 0 [some (.ref k), some (.int l1), some (.int l2), none, none] [] (S, G) (Qi G post noEx)
  refine z_aload_n rfl rfl ?_
  refine z_cvi (M' := M_i_isShape) [] hx rfl w_219 cv_i_isShape h_k (by decide) rfl rfl rfl rfl (zci_isShape hx hG h_k hw) ?_ (fun _ _ hf => hf.elim)
  clear hw
  intro r1 S1 hw
  refine z_if_eq rfl (fun hq => ?_) (fun hq => ?_)
  · replace hw := hw.1 hq
    refine z_iconst 0 rfl rfl ?_
    exact z_zret rfl rfl (by decide) rfl rfl (Or.inl ⟨_, _, rfl, rfl, hw⟩)
  · replace hw := hw.2 hq
    refine z_iload_n rfl rfl ?_
    refine z_aload_n rfl rfl ?_
    refine z_geti (ci := 5) 2 rfl h_k rfl w_122 ?_
    refine z_icmp_lt rfl (fun hq => ?_) (fun hq => ?_)
    · replace hw := hw.1 hq
      refine z_iconst 0 rfl rfl ?_
      exact z_zret rfl rfl (by decide) rfl rfl (Or.inl ⟨_, _, rfl, rfl, hw⟩)
    · replace hw := hw.2 hq
      refine z_iload_n rfl rfl ?_
      refine z_aload_n rfl rfl ?_
      refine z_geti (ci := 5) 2 rfl h_k rfl w_122 ?_
      refine z_aload_n rfl rfl ?_
      refine z_geti (ci := 5) 4 rfl h_k rfl w_126 ?_
      refine z_iadd rfl ?_
      refine z_icmp_ge rfl (fun hq => ?_) (fun hq => ?_)
      · replace hw := hw.1 hq
        refine z_iconst 0 rfl rfl ?_
        exact z_zret rfl rfl (by decide) rfl rfl (Or.inl ⟨_, _, rfl, rfl, hw⟩)
      · replace hw := hw.2 hq
        refine z_iload_n rfl rfl ?_
        refine z_aload_n rfl rfl ?_
        refine z_geti (ci := 5) 3 rfl h_k rfl w_124 ?_
        refine z_icmp_lt rfl (fun hq => ?_) (fun hq => ?_)
        · replace hw := hw.1 hq
          refine z_iconst 0 rfl rfl ?_
          exact z_zret rfl rfl (by decide) rfl rfl (Or.inl ⟨_, _, rfl, rfl, hw⟩)
        · replace hw := hw.2 hq
          refine z_iload_n rfl rfl ?_
          refine z_aload_n rfl rfl ?_
          refine z_geti (ci := 5) 3 rfl h_k rfl w_124 ?_
          refine z_aload_n rfl rfl ?_
          refine z_geti (ci := 5) 5 rfl h_k rfl w_128 ?_
          refine z_iadd rfl ?_
          refine z_icmp_lt rfl (fun hq => ?_) (fun hq => ?_)
          · replace hw := hw.1 hq
            refine z_iconst 2 rfl rfl ?_
            refine z_iload_n rfl rfl ?_
            refine z_aload_n rfl rfl ?_
            refine z_geti (ci := 5) 2 rfl h_k rfl w_122 ?_
            refine z_isub rfl ?_
            refine z_imul rfl ?_
            refine z_iconst 1 rfl rfl ?_
            refine z_iadd rfl ?_
            refine z_aload_n rfl rfl ?_
            refine z_geti (ci := 5) 4 rfl h_k rfl w_126 ?_
            refine z_isub rfl ?_
            refine z_istore_n [some (.ref k), some (.int l1), some (.int l2), some (.int (((2 * (l1 - (S1 k 2))) + 1) - (S1 k 4))), none] rfl rfl rfl ?_
            refine z_iconst 2 rfl rfl ?_
            refine z_iload_n rfl rfl ?_
            refine z_aload_n rfl rfl ?_
            refine z_geti (ci := 5) 3 rfl h_k rfl w_124 ?_
            refine z_isub rfl ?_
            refine z_imul rfl ?_
            refine z_iconst 1 rfl rfl ?_
            refine z_iadd rfl ?_
            refine z_aload_n rfl rfl ?_
            refine z_geti (ci := 5) 5 rfl h_k rfl w_128 ?_
            refine z_isub rfl ?_
            refine z_istore [some (.ref k), some (.int l1), some (.int l2), some (.int (((2 * (l1 - (S1 k 2))) + 1) - (S1 k 4))), some (.int (((2 * (l2 - (S1 k 3))) + 1) - (S1 k 5)))] rfl rfl rfl ?_
            refine z_aload_n rfl rfl ?_
            refine z_geti (ci := 5) 1 rfl h_k rfl w_120 ?_
            by_cases hq0 : (S1 k 1) = 1
            · replace hw := hw.1 hq0
              refine z_lookup 116 rfl (by decide) (lk_eq hq0 rfl) ?_
              refine z_aload_n rfl rfl ?_
              refine z_iload_n rfl rfl ?_
              refine z_i2l rfl ?_
              refine z_iload rfl rfl ?_
              refine z_i2l rfl ?_
              refine z_cvi (M' := M_i_ellipseReaches) [.long ((((2 * (l1 - (S1 k 2))) + 1) - (S1 k 4))).toInt64, .long ((((2 * (l2 - (S1 k 3))) + 1) - (S1 k 5))).toInt64] hx rfl w_223 cv_i_ellipseReaches h_k (by decide) rfl rfl rfl rfl (zci_ellipseReaches hx hG h_k hw) ?_ (fun _ _ hf => hf.elim)
              clear hw
              intro r2 S2 hw
              obtain ⟨hc1, hw⟩ := hw
              exact z_zret rfl rfl (nar_of hc1) rfl rfl (Or.inl ⟨_, _, rfl, rfl, hw⟩)
            by_cases hq1 : (S1 k 1) = 2
            · replace hw := hw.2.1 hq1
              refine z_lookup 126 rfl (by decide) (lk_eq hq1 rfl) ?_
              refine z_iload_n rfl rfl ?_
              refine z_abs rfl w_227 w_abs1 w_math w_abs3 rfl ?_
              refine z_aload_n rfl rfl ?_
              refine z_geti (ci := 5) 5 rfl h_k rfl w_128 ?_
              refine z_imul rfl ?_
              refine z_iload rfl rfl ?_
              refine z_abs rfl w_227 w_abs1 w_math w_abs3 rfl ?_
              refine z_aload_n rfl rfl ?_
              refine z_geti (ci := 5) 4 rfl h_k rfl w_126 ?_
              refine z_imul rfl ?_
              refine z_iadd rfl ?_
              refine z_aload_n rfl rfl ?_
              refine z_geti (ci := 5) 4 rfl h_k rfl w_126 ?_
              refine z_aload_n rfl rfl ?_
              refine z_geti (ci := 5) 5 rfl h_k rfl w_128 ?_
              refine z_imul rfl ?_
              have hj155 : ∀ v : Int32, v = (if ((S1 k 4) * (S1 k 5)) < (((if 0 ≤ (((2 * (l1 - (S1 k 2))) + 1) - (S1 k 4)) then (((2 * (l1 - (S1 k 2))) + 1) - (S1 k 4)) else 0 - (((2 * (l1 - (S1 k 2))) + 1) - (S1 k 4)) : Int32) * (S1 k 5)) + ((if 0 ≤ (((2 * (l2 - (S1 k 3))) + 1) - (S1 k 5)) then (((2 * (l2 - (S1 k 3))) + 1) - (S1 k 5)) else 0 - (((2 * (l2 - (S1 k 3))) + 1) - (S1 k 5)) : Int32) * (S1 k 4))) then 0 else 1 : Int32) → Z g M_i_covers 0 0 163 [some (.ref k), some (.int l1), some (.int l2), some (.int (((2 * (l1 - (S1 k 2))) + 1) - (S1 k 4))), some (.int (((2 * (l2 - (S1 k 3))) + 1) - (S1 k 5)))] [.int v] (S1, G) (Qi G post noEx) := by
                intro v hv
                subst hv
                obtain ⟨hc2, hw⟩ := hw
                exact z_zret rfl rfl (nar_of hc2) rfl rfl (Or.inl ⟨_, _, rfl, rfl, hw⟩)
              refine z_icmp_gt rfl (fun hp155 => ?_) (fun hp155 => ?_)
              · refine z_iconst 0 rfl rfl ?_
                exact hj155 _ (by rw [if_pos hp155])
              · refine z_iconst 1 rfl rfl ?_
                refine z_goto rfl ?_
                exact hj155 _ (by rw [if_neg hp155])
            replace hw := hw.2.2 ⟨hq0, hq1⟩
            refine z_lookup 164 rfl (by decide) (lk_out2 hq0 hq1 (by decide) (by decide) rfl) ?_
            refine z_iconst 1 rfl rfl ?_
            exact z_zret rfl rfl (by decide) rfl rfl (Or.inl ⟨_, _, rfl, rfl, hw⟩)
          · replace hw := hw.2 hq
            refine z_iconst 0 rfl rfl ?_
            exact z_zret rfl rfl (by decide) rfl rfl (Or.inl ⟨_, _, rfl, rfl, hw⟩)
def cw_topShapeAt_L7 (post : Int32 → Mem → Prop)  : Nat → Mem → Nat → Int32 → Int32 → Int32 → Prop
  | 0, _, _, _, _, _ => False
  | n + 1, S, k, l1, l2, l3 =>
  ((l3 < 0) →
   post (-1) S) ∧
  ((¬ l3 < 0) →
   (vp_in l3 12) ∧ (vp_in (S (k + 26) l3.toNatClampNeg) 24) ∧ ci_covers (fun r1 S1 =>
    ((r1 = 0) →
     cw_topShapeAt_L7 post n S1 k l1 l2 (l3 + (-1))) ∧
    ((¬ r1 = 0) →
     (vp_in l3 12) ∧ post (S1 (k + 26) l3.toNatClampNeg) S1)) S ((k + 2) + (S (k + 26) l3.toNatClampNeg).toNatClampNeg) l1 l2)
set_option maxRecDepth 100000 in
set_option maxHeartbeats 1000000 in
theorem zcw_topShapeAt_L7 {g : Gm} {G : Gp} {post : Int32 → Mem → Prop} (hx : G.2.2.2 = false) (hG : isD G) : ∀ (n : Nat) {S : Mem} {k : Nat} {l1 : Int32} {l2 : Int32} {l3 : Int32}  (h_k : isW G k), cw_topShapeAt_L7 post n S k l1 l2 l3 → Z g M_w_topShapeAt 0 0 7 [some (.ref k), some (.int l1), some (.int l2), some (.int l3)] [] (S, G) (Qi G post noEx) := by
  intro n
  induction n with
  | zero =>
    intros
    rename_i hw
    exact hw.elim
  | succ n ih =>
    intro S k l1 l2 l3 h_k hw
    rw [cw_topShapeAt_L7] at hw
    refine z_iload_n rfl rfl ?_
    refine z_if_lt rfl (fun hq => ?_) (fun hq => ?_)
    · replace hw := hw.1 hq
      refine z_iconst (-1) rfl rfl ?_
      exact z_iret rfl rfl rfl rfl (Or.inl ⟨_, _, rfl, rfl, hw⟩)
    · replace hw := hw.2 hq
      refine z_aload_n rfl rfl ?_
      refine z_getr (ci := 6) 0 rfl h_k.1 rfl w_151 h_k.2.1 ?_
      refine z_aload_n rfl rfl ?_
      refine z_getr (ci := 6) 1 rfl h_k.1 rfl w_153 h_k.2.2.2.1 ?_
      refine z_iload_n rfl rfl ?_
      obtain ⟨hc1, hw⟩ := hw
      refine z_iald (l3.toNatClampNeg) rfl h_k.2.2.2.2.1 hc1 rfl ?_
      obtain ⟨hc2, hw⟩ := hw
      refine z_aaldI rfl h_k.2.2.1.1 hc2 (h_k.2.2.1.2 _ (vlt hc2)).1 ?_
      refine z_iload_n rfl rfl ?_
      refine z_iload_n rfl rfl ?_
      refine z_cvi (M' := M_i_covers) [.int l1, .int l2] hx rfl w_215 cv_i_covers (h_k.2.2.1.2 _ (vlt hc2)).2 (by decide) rfl rfl rfl rfl (zci_covers hx hG (h_k.2.2.1.2 _ (vlt hc2)).2 hw) ?_ (fun _ _ hf => hf.elim)
      clear hw
      intro r1 S1 hw
      refine z_if_eq rfl (fun hq => ?_) (fun hq => ?_)
      · replace hw := hw.1 hq
        refine z_iinc (-1) [some (.ref k), some (.int l1), some (.int l2), some (.int (l3 + (-1)))] rfl rfl rfl rfl ?_
        refine z_goto rfl ?_
        refine Z.forget' [some (.ref k), some (.int l1), some (.int l2), some (.int (l3 + (-1)))] ⟨rfl, ⟨rfl, ⟨rfl, ⟨rfl, trivial⟩⟩⟩⟩ ?_
        exact ih h_k hw
      · replace hw := hw.2 hq
        refine z_aload_n rfl rfl ?_
        refine z_getr (ci := 6) 1 rfl h_k.1 rfl w_153 h_k.2.2.2.1 ?_
        refine z_iload_n rfl rfl ?_
        obtain ⟨hc3, hw⟩ := hw
        refine z_iald (l3.toNatClampNeg) rfl h_k.2.2.2.2.1 hc3 rfl ?_
        exact z_iret rfl rfl rfl rfl (Or.inl ⟨_, _, rfl, rfl, hw⟩)
def cw_topShapeAt (post : Int32 → Mem → Prop) (S : Mem) (k : Nat) (l1 : Int32) (l2 : Int32) : Prop :=
  ∃ n, cw_topShapeAt_L7 post n S k l1 l2 ((S k 2) - 1)
set_option maxRecDepth 100000 in
set_option maxHeartbeats 1000000 in
theorem zcw_topShapeAt {g : Gm} {G : Gp} {S : Mem} {post : Int32 → Mem → Prop} {k : Nat} {l1 : Int32} {l2 : Int32} (hx : G.2.2.2 = false) (hG : isD G) (h_k : isW G k) (hw : cw_topShapeAt post S k l1 l2) : Z g M_w_topShapeAt 0 0 0 (entryL [.ref k, .int l1, .int l2] (mL M_w_topShapeAt)) [] (S, G) (Qi G post noEx) := by
  unfold cw_topShapeAt at hw
  show Z g M_w_topShapeAt 0 0 0 [some (.ref k), some (.int l1), some (.int l2), none] [] (S, G) (Qi G post noEx)
  refine z_aload_n rfl rfl ?_
  refine z_geti (ci := 6) 2 rfl h_k.1 rfl w_155 ?_
  refine z_iconst 1 rfl rfl ?_
  refine z_isub rfl ?_
  refine z_istore_n [some (.ref k), some (.int l1), some (.int l2), some (.int ((S k 2) - 1))] rfl rfl rfl ?_
  refine Z.forget' [some (.ref k), some (.int l1), some (.int l2), some (.int ((S k 2) - 1))] ⟨rfl, ⟨rfl, ⟨rfl, ⟨rfl, trivial⟩⟩⟩⟩ ?_
  obtain ⟨n, hw⟩ := hw
  exact zcw_topShapeAt_L7 hx hG n h_k hw
def cd_hit (post : Int32 → Mem → Prop) (S : Mem) (l1 : Int32) (l2 : Int32) : Prop :=
  cw_topShapeAt (fun r1 S1 =>
   post r1 S1) S 87 l1 l2
set_option maxRecDepth 100000 in
set_option maxHeartbeats 1000000 in
theorem zcd_hit {g : Gm} {G : Gp} {S : Mem} {post : Int32 → Mem → Prop} {l1 : Int32} {l2 : Int32} (hx : G.2.2.2 = false) (hG : isD G) (hw : cd_hit post S l1 l2) : Z g M_d_hit 0 0 0 (entryL [.ref 0, .int l1, .int l2] (mL M_d_hit)) [] (S, G) (Qi G post noEx) := by
  unfold cd_hit at hw
  show Z g M_d_hit 0 0 0 [some (.ref 0), some (.int l1), some (.int l2)] [] (S, G) (Qi G post noEx)
  refine z_aload_n rfl rfl ?_
  refine z_getr (ci := 0) 3 rfl hG.1 rfl w_183 hG.2.2.2.2.2.2.2.1 ?_
  refine z_getr (ci := 4) 0 rfl hG.2.2.2.2.2.2.2.2.1.1 rfl w_168 hG.2.2.2.2.2.2.2.2.1.2.1 ?_
  refine z_iload_n rfl rfl ?_
  refine z_iload_n rfl rfl ?_
  refine z_cvi (M' := M_w_topShapeAt) [.int l1, .int l2] hx rfl w_211 cv_w_topShapeAt hG.2.2.2.2.2.2.2.2.1.2.2.1.1 (by decide) rfl rfl rfl rfl (zcw_topShapeAt hx hG hG.2.2.2.2.2.2.2.2.1.2.2.1 hw) ?_ (fun _ _ hf => hf.elim)
  clear hw
  intro r1 S1 hw
  exact z_iret rfl rfl rfl rfl (Or.inl ⟨_, _, rfl, rfl, hw⟩)
