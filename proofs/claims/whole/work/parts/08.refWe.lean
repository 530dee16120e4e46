def r_covers (post : Int32 → Mem → Prop) (S : Mem) (l1 : Int32) (l2 : Int32) (l3 : Int32) : Prop :=
  (vp_in ((8 * l1) + 4) 112) ∧ 
  (vp_in ((8 * l1) + 5) 112) ∧ 
  (vp_in ((8 * l1) + 1) 112) ∧ 
  (((S 154 ((8 * l1) + 1).toNatClampNeg) = 3) →
   post 0 S) ∧
  ((¬ (S 154 ((8 * l1) + 1).toNatClampNeg) = 3) →
   (vp_in ((8 * l1) + 2) 112) ∧ 
   ((l2 < (S 154 ((8 * l1) + 2).toNatClampNeg)) →
    post 0 S) ∧
   ((¬ l2 < (S 154 ((8 * l1) + 2).toNatClampNeg)) →
    (vp_in ((8 * l1) + 2) 112) ∧ 
    ((0 ≤ (lg_cmp (l2).toInt64 (((S 154 ((8 * l1) + 2).toNatClampNeg)).toInt64 + ((S 154 ((8 * l1) + 4).toNatClampNeg)).toInt64))) →
     post 0 S) ∧
    ((¬ 0 ≤ (lg_cmp (l2).toInt64 (((S 154 ((8 * l1) + 2).toNatClampNeg)).toInt64 + ((S 154 ((8 * l1) + 4).toNatClampNeg)).toInt64))) →
     (vp_in ((8 * l1) + 3) 112) ∧ 
     ((l3 < (S 154 ((8 * l1) + 3).toNatClampNeg)) →
      post 0 S) ∧
     ((¬ l3 < (S 154 ((8 * l1) + 3).toNatClampNeg)) →
      (vp_in ((8 * l1) + 3) 112) ∧ 
      (((lg_cmp (l3).toInt64 (((S 154 ((8 * l1) + 3).toNatClampNeg)).toInt64 + ((S 154 ((8 * l1) + 5).toNatClampNeg)).toInt64)) < 0) →
       (vp_in ((8 * l1) + 2) 112) ∧ 
       (vp_in ((8 * l1) + 3) 112) ∧ 
       (vp_in ((8 * l1) + 1) 112) ∧ 
       (((S 154 ((8 * l1) + 1).toNatClampNeg) = 0) →
        post 1 S) ∧
       ((¬ (S 154 ((8 * l1) + 1).toNatClampNeg) = 0) →
        (vp_in ((8 * l1) + 1) 112) ∧ 
        ((¬ (S 154 ((8 * l1) + 1).toNatClampNeg) = 1) →
         r_size (fun r1 S1 =>
          r_size (fun r2 S2 =>
           ((0 < (lg_cmp ((r1 * ((S 154 ((8 * l1) + 5).toNatClampNeg)).toInt64) + (r2 * ((S 154 ((8 * l1) + 4).toNatClampNeg)).toInt64)) (((S 154 ((8 * l1) + 4).toNatClampNeg)).toInt64 * ((S 154 ((8 * l1) + 5).toNatClampNeg)).toInt64))) →
            post 0 S2) ∧
           ((¬ 0 < (lg_cmp ((r1 * ((S 154 ((8 * l1) + 5).toNatClampNeg)).toInt64) + (r2 * ((S 154 ((8 * l1) + 4).toNatClampNeg)).toInt64)) (((S 154 ((8 * l1) + 4).toNatClampNeg)).toInt64 * ((S 154 ((8 * l1) + 5).toNatClampNeg)).toInt64))) →
            post 1 S2)) S1 (((2 * ((l3 - (S 154 ((8 * l1) + 3).toNatClampNeg))).toInt64) + 1) - ((S 154 ((8 * l1) + 5).toNatClampNeg)).toInt64)) S (((2 * ((l2 - (S 154 ((8 * l1) + 2).toNatClampNeg))).toInt64) + 1) - ((S 154 ((8 * l1) + 4).toNatClampNeg)).toInt64)) ∧
        (((S 154 ((8 * l1) + 1).toNatClampNeg) = 1) →
         ((0 < (lg_cmp (((((((2 * ((l2 - (S 154 ((8 * l1) + 2).toNatClampNeg))).toInt64) + 1) - ((S 154 ((8 * l1) + 4).toNatClampNeg)).toInt64) * (((2 * ((l2 - (S 154 ((8 * l1) + 2).toNatClampNeg))).toInt64) + 1) - ((S 154 ((8 * l1) + 4).toNatClampNeg)).toInt64)) * ((S 154 ((8 * l1) + 5).toNatClampNeg)).toInt64) * ((S 154 ((8 * l1) + 5).toNatClampNeg)).toInt64) + ((((((2 * ((l3 - (S 154 ((8 * l1) + 3).toNatClampNeg))).toInt64) + 1) - ((S 154 ((8 * l1) + 5).toNatClampNeg)).toInt64) * (((2 * ((l3 - (S 154 ((8 * l1) + 3).toNatClampNeg))).toInt64) + 1) - ((S 154 ((8 * l1) + 5).toNatClampNeg)).toInt64)) * ((S 154 ((8 * l1) + 4).toNatClampNeg)).toInt64) * ((S 154 ((8 * l1) + 4).toNatClampNeg)).toInt64)) (((((S 154 ((8 * l1) + 4).toNatClampNeg)).toInt64 * ((S 154 ((8 * l1) + 4).toNatClampNeg)).toInt64) * ((S 154 ((8 * l1) + 5).toNatClampNeg)).toInt64) * ((S 154 ((8 * l1) + 5).toNatClampNeg)).toInt64))) →
          post 0 S) ∧
         ((¬ 0 < (lg_cmp (((((((2 * ((l2 - (S 154 ((8 * l1) + 2).toNatClampNeg))).toInt64) + 1) - ((S 154 ((8 * l1) + 4).toNatClampNeg)).toInt64) * (((2 * ((l2 - (S 154 ((8 * l1) + 2).toNatClampNeg))).toInt64) + 1) - ((S 154 ((8 * l1) + 4).toNatClampNeg)).toInt64)) * ((S 154 ((8 * l1) + 5).toNatClampNeg)).toInt64) * ((S 154 ((8 * l1) + 5).toNatClampNeg)).toInt64) + ((((((2 * ((l3 - (S 154 ((8 * l1) + 3).toNatClampNeg))).toInt64) + 1) - ((S 154 ((8 * l1) + 5).toNatClampNeg)).toInt64) * (((2 * ((l3 - (S 154 ((8 * l1) + 3).toNatClampNeg))).toInt64) + 1) - ((S 154 ((8 * l1) + 5).toNatClampNeg)).toInt64)) * ((S 154 ((8 * l1) + 4).toNatClampNeg)).toInt64) * ((S 154 ((8 * l1) + 4).toNatClampNeg)).toInt64)) (((((S 154 ((8 * l1) + 4).toNatClampNeg)).toInt64 * ((S 154 ((8 * l1) + 4).toNatClampNeg)).toInt64) * ((S 154 ((8 * l1) + 5).toNatClampNeg)).toInt64) * ((S 154 ((8 * l1) + 5).toNatClampNeg)).toInt64))) →
          post 1 S)))) ∧
      ((¬ (lg_cmp (l3).toInt64 (((S 154 ((8 * l1) + 3).toNatClampNeg)).toInt64 + ((S 154 ((8 * l1) + 5).toNatClampNeg)).toInt64)) < 0) →
       post 0 S)))))
set_option maxRecDepth 100000 in
set_option maxHeartbeats 1000000 in
theorem zr_covers {g : Gm} {G : Gp} {S : Mem} {post : Int32 → Mem → Prop} {l1 : Int32} {l2 : Int32} {l3 : Int32} (hx : G.2.2.2 = false) (hG : isR G) (hw : r_covers post S l1 l2 l3) : Z g M_r_covers 0 0 0 (entryL [.ref 148, .int l1, .int l2, .int l3] (mL M_r_covers)) [] (S, G) (Qi G post noEx) := by
  unfold r_covers at hw
  show Z g M_r_covers 0 0 0 [some (.ref 148), some (.int l1), some (.int l2), some (.int l3), none, none, none, none, none, none, none, none] [] (S, G) (Qi G post noEx)
  refine z_aload_n rfl rfl ?_
  refine z_iload_n rfl rfl ?_
  refine z_iconst 4 rfl rfl ?_
  obtain ⟨hc1, hw⟩ := hw
  refine z_cvi (M' := M_r_of) (post := fun v S' => (S 154 ((8 * l1) + 4).toNatClampNeg) = v ∧ S = S') [.int l1, .int 4] hx rfl w_754 cv_r_of hG.1 (by decide) rfl rfl rfl rfl (zr_of hx hG (⟨hc1, ⟨rfl, rfl⟩⟩)) ?_ (fun _ _ hf => hf.elim)
  rintro v S' ⟨rfl, rfl⟩
  refine z_i2l rfl ?_
  refine z_lstore [some (.ref 148), some (.int l1), some (.int l2), some (.int l3), some (.long ((S 154 ((8 * l1) + 4).toNatClampNeg)).toInt64), none, none, none, none, none, none, none] rfl rfl rfl ?_
  refine z_aload_n rfl rfl ?_
  refine z_iload_n rfl rfl ?_
  refine z_iconst 5 rfl rfl ?_
  obtain ⟨hc2, hw⟩ := hw
  refine z_cvi (M' := M_r_of) (post := fun v S' => (S 154 ((8 * l1) + 5).toNatClampNeg) = v ∧ S = S') [.int l1, .int 5] hx rfl w_754 cv_r_of hG.1 (by decide) rfl rfl rfl rfl (zr_of hx hG (⟨hc2, ⟨rfl, rfl⟩⟩)) ?_ (fun _ _ hf => hf.elim)
  rintro v S' ⟨rfl, rfl⟩
  refine z_i2l rfl ?_
  refine z_lstore [some (.ref 148), some (.int l1), some (.int l2), some (.int l3), some (.long ((S 154 ((8 * l1) + 4).toNatClampNeg)).toInt64), none, some (.long ((S 154 ((8 * l1) + 5).toNatClampNeg)).toInt64), none, none, none, none, none] rfl rfl rfl ?_
  refine z_aload_n rfl rfl ?_
  refine z_iload_n rfl rfl ?_
  refine z_iconst 1 rfl rfl ?_
  obtain ⟨hc3, hw⟩ := hw
  refine z_cvi (M' := M_r_of) (post := fun v S' => (S 154 ((8 * l1) + 1).toNatClampNeg) = v ∧ S = S') [.int l1, .int 1] hx rfl w_754 cv_r_of hG.1 (by decide) rfl rfl rfl rfl (zr_of hx hG (⟨hc3, ⟨rfl, rfl⟩⟩)) ?_ (fun _ _ hf => hf.elim)
  rintro v S' ⟨rfl, rfl⟩
  refine z_iconst 3 rfl rfl ?_
  refine z_icmp_eq rfl (fun hq => ?_) (fun hq => ?_)
  · replace hw := hw.1 hq
    refine z_iconst 0 rfl rfl ?_
    exact z_zret rfl rfl (by decide) rfl rfl (Or.inl ⟨_, _, rfl, rfl, hw⟩)
  · replace hw := hw.2 hq
    refine z_iload_n rfl rfl ?_
    refine z_aload_n rfl rfl ?_
    refine z_iload_n rfl rfl ?_
    refine z_iconst 2 rfl rfl ?_
    obtain ⟨hc4, hw⟩ := hw
    refine z_cvi (M' := M_r_of) (post := fun v S' => (S 154 ((8 * l1) + 2).toNatClampNeg) = v ∧ S = S') [.int l1, .int 2] hx rfl w_754 cv_r_of hG.1 (by decide) rfl rfl rfl rfl (zr_of hx hG (⟨hc4, ⟨rfl, rfl⟩⟩)) ?_ (fun _ _ hf => hf.elim)
    rintro v S' ⟨rfl, rfl⟩
    refine z_icmp_lt rfl (fun hq => ?_) (fun hq => ?_)
    · replace hw := hw.1 hq
      refine z_iconst 0 rfl rfl ?_
      exact z_zret rfl rfl (by decide) rfl rfl (Or.inl ⟨_, _, rfl, rfl, hw⟩)
    · replace hw := hw.2 hq
      refine z_iload_n rfl rfl ?_
      refine z_i2l rfl ?_
      refine z_aload_n rfl rfl ?_
      refine z_iload_n rfl rfl ?_
      refine z_iconst 2 rfl rfl ?_
      obtain ⟨hc5, hw⟩ := hw
      refine z_cvi (M' := M_r_of) (post := fun v S' => (S 154 ((8 * l1) + 2).toNatClampNeg) = v ∧ S = S') [.int l1, .int 2] hx rfl w_754 cv_r_of hG.1 (by decide) rfl rfl rfl rfl (zr_of hx hG (⟨hc5, ⟨rfl, rfl⟩⟩)) ?_ (fun _ _ hf => hf.elim)
      rintro v S' ⟨rfl, rfl⟩
      refine z_i2l rfl ?_
      refine z_lload rfl rfl ?_
      refine z_ladd rfl ?_
      refine z_lcmp rfl ?_
      refine z_if_ge rfl (fun hq => ?_) (fun hq => ?_)
      · replace hw := hw.1 hq
        refine z_iconst 0 rfl rfl ?_
        exact z_zret rfl rfl (by decide) rfl rfl (Or.inl ⟨_, _, rfl, rfl, hw⟩)
      · replace hw := hw.2 hq
        refine z_iload_n rfl rfl ?_
        refine z_aload_n rfl rfl ?_
        refine z_iload_n rfl rfl ?_
        refine z_iconst 3 rfl rfl ?_
        obtain ⟨hc6, hw⟩ := hw
        refine z_cvi (M' := M_r_of) (post := fun v S' => (S 154 ((8 * l1) + 3).toNatClampNeg) = v ∧ S = S') [.int l1, .int 3] hx rfl w_754 cv_r_of hG.1 (by decide) rfl rfl rfl rfl (zr_of hx hG (⟨hc6, ⟨rfl, rfl⟩⟩)) ?_ (fun _ _ hf => hf.elim)
        rintro v S' ⟨rfl, rfl⟩
        refine z_icmp_lt rfl (fun hq => ?_) (fun hq => ?_)
        · replace hw := hw.1 hq
          refine z_iconst 0 rfl rfl ?_
          exact z_zret rfl rfl (by decide) rfl rfl (Or.inl ⟨_, _, rfl, rfl, hw⟩)
        · replace hw := hw.2 hq
          refine z_iload_n rfl rfl ?_
          refine z_i2l rfl ?_
          refine z_aload_n rfl rfl ?_
          refine z_iload_n rfl rfl ?_
          refine z_iconst 3 rfl rfl ?_
          obtain ⟨hc7, hw⟩ := hw
          refine z_cvi (M' := M_r_of) (post := fun v S' => (S 154 ((8 * l1) + 3).toNatClampNeg) = v ∧ S = S') [.int l1, .int 3] hx rfl w_754 cv_r_of hG.1 (by decide) rfl rfl rfl rfl (zr_of hx hG (⟨hc7, ⟨rfl, rfl⟩⟩)) ?_ (fun _ _ hf => hf.elim)
          rintro v S' ⟨rfl, rfl⟩
          refine z_i2l rfl ?_
          refine z_lload rfl rfl ?_
          refine z_ladd rfl ?_
          refine z_lcmp rfl ?_
          refine z_if_lt rfl (fun hq => ?_) (fun hq => ?_)
          · replace hw := hw.1 hq
            refine z_ldc2 rfl w_931 ?_
            refine z_iload_n rfl rfl ?_
            refine z_aload_n rfl rfl ?_
            refine z_iload_n rfl rfl ?_
            refine z_iconst 2 rfl rfl ?_
            obtain ⟨hc8, hw⟩ := hw
            refine z_cvi (M' := M_r_of) (post := fun v S' => (S 154 ((8 * l1) + 2).toNatClampNeg) = v ∧ S = S') [.int l1, .int 2] hx rfl w_754 cv_r_of hG.1 (by decide) rfl rfl rfl rfl (zr_of hx hG (⟨hc8, ⟨rfl, rfl⟩⟩)) ?_ (fun _ _ hf => hf.elim)
            rintro v S' ⟨rfl, rfl⟩
            refine z_isub rfl ?_
            refine z_i2l rfl ?_
            refine z_lmul rfl ?_
            refine z_lconst 1 rfl rfl ?_
            refine z_ladd rfl ?_
            refine z_lload rfl rfl ?_
            refine z_lsub rfl ?_
            refine z_lstore [some (.ref 148), some (.int l1), some (.int l2), some (.int l3), some (.long ((S 154 ((8 * l1) + 4).toNatClampNeg)).toInt64), none, some (.long ((S 154 ((8 * l1) + 5).toNatClampNeg)).toInt64), none, some (.long (((2 * ((l2 - (S 154 ((8 * l1) + 2).toNatClampNeg))).toInt64) + 1) - ((S 154 ((8 * l1) + 4).toNatClampNeg)).toInt64)), none, none, none] rfl rfl rfl ?_
            refine z_ldc2 rfl w_931 ?_
            refine z_iload_n rfl rfl ?_
            refine z_aload_n rfl rfl ?_
            refine z_iload_n rfl rfl ?_
            refine z_iconst 3 rfl rfl ?_
            obtain ⟨hc9, hw⟩ := hw
            refine z_cvi (M' := M_r_of) (post := fun v S' => (S 154 ((8 * l1) + 3).toNatClampNeg) = v ∧ S = S') [.int l1, .int 3] hx rfl w_754 cv_r_of hG.1 (by decide) rfl rfl rfl rfl (zr_of hx hG (⟨hc9, ⟨rfl, rfl⟩⟩)) ?_ (fun _ _ hf => hf.elim)
            rintro v S' ⟨rfl, rfl⟩
            refine z_isub rfl ?_
            refine z_i2l rfl ?_
            refine z_lmul rfl ?_
            refine z_lconst 1 rfl rfl ?_
            refine z_ladd rfl ?_
            refine z_lload rfl rfl ?_
            refine z_lsub rfl ?_
            refine z_lstore [some (.ref 148), some (.int l1), some (.int l2), some (.int l3), some (.long ((S 154 ((8 * l1) + 4).toNatClampNeg)).toInt64), none, some (.long ((S 154 ((8 * l1) + 5).toNatClampNeg)).toInt64), none, some (.long (((2 * ((l2 - (S 154 ((8 * l1) + 2).toNatClampNeg))).toInt64) + 1) - ((S 154 ((8 * l1) + 4).toNatClampNeg)).toInt64)), none, some (.long (((2 * ((l3 - (S 154 ((8 * l1) + 3).toNatClampNeg))).toInt64) + 1) - ((S 154 ((8 * l1) + 5).toNatClampNeg)).toInt64)), none] rfl rfl rfl ?_
            refine z_aload_n rfl rfl ?_
            refine z_iload_n rfl rfl ?_
            refine z_iconst 1 rfl rfl ?_
            obtain ⟨hc10, hw⟩ := hw
            refine z_cvi (M' := M_r_of) (post := fun v S' => (S 154 ((8 * l1) + 1).toNatClampNeg) = v ∧ S = S') [.int l1, .int 1] hx rfl w_754 cv_r_of hG.1 (by decide) rfl rfl rfl rfl (zr_of hx hG (⟨hc10, ⟨rfl, rfl⟩⟩)) ?_ (fun _ _ hf => hf.elim)
            rintro v S' ⟨rfl, rfl⟩
            refine z_if_eq rfl (fun hq => ?_) (fun hq => ?_)
            · replace hw := hw.1 hq
              refine z_iconst 1 rfl rfl ?_
              refine z_goto rfl ?_
              exact z_zret rfl rfl (by decide) rfl rfl (Or.inl ⟨_, _, rfl, rfl, hw⟩)
            · replace hw := hw.2 hq
              refine z_aload_n rfl rfl ?_
              refine z_iload_n rfl rfl ?_
              refine z_iconst 1 rfl rfl ?_
              obtain ⟨hc11, hw⟩ := hw
              refine z_cvi (M' := M_r_of) (post := fun v S' => (S 154 ((8 * l1) + 1).toNatClampNeg) = v ∧ S = S') [.int l1, .int 1] hx rfl w_754 cv_r_of hG.1 (by decide) rfl rfl rfl rfl (zr_of hx hG (⟨hc11, ⟨rfl, rfl⟩⟩)) ?_ (fun _ _ hf => hf.elim)
              rintro v S' ⟨rfl, rfl⟩
              refine z_iconst 1 rfl rfl ?_
              refine z_icmp_ne rfl (fun hq => ?_) (fun hq => ?_)
              · replace hw := hw.1 hq
                refine z_lload rfl rfl ?_
                refine z_csl (M' := M_r_size) [.long (((2 * ((l2 - (S 154 ((8 * l1) + 2).toNatClampNeg))).toInt64) + 1) - ((S 154 ((8 * l1) + 4).toNatClampNeg)).toInt64)] hx rfl w_932 cs_r_size rfl rfl rfl (zr_size hx hG hw) ?_ (fun _ _ hf => hf.elim)
                clear hw
                intro r1 S1 hw
                refine z_lload rfl rfl ?_
                refine z_lmul rfl ?_
                refine z_lload rfl rfl ?_
                refine z_csl (M' := M_r_size) [.long (((2 * ((l3 - (S 154 ((8 * l1) + 3).toNatClampNeg))).toInt64) + 1) - ((S 154 ((8 * l1) + 5).toNatClampNeg)).toInt64)] hx rfl w_932 cs_r_size rfl rfl rfl (zr_size hx hG hw) ?_ (fun _ _ hf => hf.elim)
                clear hw
                intro r2 S2 hw
                refine z_lload rfl rfl ?_
                refine z_lmul rfl ?_
                refine z_ladd rfl ?_
                refine z_lload rfl rfl ?_
                refine z_lload rfl rfl ?_
                refine z_lmul rfl ?_
                refine z_lcmp rfl ?_
                refine z_if_gt rfl (fun hq => ?_) (fun hq => ?_)
                · replace hw := hw.1 hq
                  refine z_iconst 0 rfl rfl ?_
                  exact z_zret rfl rfl (by decide) rfl rfl (Or.inl ⟨_, _, rfl, rfl, hw⟩)
                · replace hw := hw.2 hq
                  refine z_iconst 1 rfl rfl ?_
                  refine z_goto rfl ?_
                  exact z_zret rfl rfl (by decide) rfl rfl (Or.inl ⟨_, _, rfl, rfl, hw⟩)
              · replace hw := hw.2 hq
                refine z_lload rfl rfl ?_
                refine z_lload rfl rfl ?_
                refine z_lmul rfl ?_
                refine z_lload rfl rfl ?_
                refine z_lmul rfl ?_
                refine z_lload rfl rfl ?_
                refine z_lmul rfl ?_
                refine z_lload rfl rfl ?_
                refine z_lload rfl rfl ?_
                refine z_lmul rfl ?_
                refine z_lload rfl rfl ?_
                refine z_lmul rfl ?_
                refine z_lload rfl rfl ?_
                refine z_lmul rfl ?_
                refine z_ladd rfl ?_
                refine z_lload rfl rfl ?_
                refine z_lload rfl rfl ?_
                refine z_lmul rfl ?_
                refine z_lload rfl rfl ?_
                refine z_lmul rfl ?_
                refine z_lload rfl rfl ?_
                refine z_lmul rfl ?_
                refine z_lcmp rfl ?_
                refine z_if_gt rfl (fun hq => ?_) (fun hq => ?_)
                · replace hw := hw.1 hq
                  refine z_iconst 0 rfl rfl ?_
                  exact z_zret rfl rfl (by decide) rfl rfl (Or.inl ⟨_, _, rfl, rfl, hw⟩)
                · replace hw := hw.2 hq
                  refine z_goto rfl ?_
                  refine z_iconst 1 rfl rfl ?_
                  refine z_goto rfl ?_
                  exact z_zret rfl rfl (by decide) rfl rfl (Or.inl ⟨_, _, rfl, rfl, hw⟩)
          · replace hw := hw.2 hq
            refine z_iconst 0 rfl rfl ?_
            exact z_zret rfl rfl (by decide) rfl rfl (Or.inl ⟨_, _, rfl, rfl, hw⟩)
def r_covering_L5 (post : Int32 → Mem → Prop)  : Nat → Mem → Int32 → Int32 → Int32 → Int32 → Prop
  | 0, _, _, _, _, _ => False
  | n + 1, S, l1, l2, l3, l4 =>
  (((S 148 7) ≤ l4) →
   post l3 S) ∧
  ((¬ (S 148 7) ≤ l4) →
   r_covers (fun r1 S1 =>
    r_covering_L5 post n S1 l1 l2 (if r1 = 0 then l3 else l4 : Int32) (l4 + 1)) S l4 l1 l2)
set_option maxRecDepth 100000 in
set_option maxHeartbeats 1000000 in
theorem zr_covering_L5 {g : Gm} {G : Gp} {post : Int32 → Mem → Prop} (hx : G.2.2.2 = false) (hG : isR G) : ∀ (n : Nat) {S : Mem} {l1 : Int32} {l2 : Int32} {l3 : Int32} {l4 : Int32} , r_covering_L5 post n S l1 l2 l3 l4 → Z g M_r_covering 0 0 5 [some (.ref 148), some (.int l1), some (.int l2), some (.int l3), some (.int l4)] [] (S, G) (Qi G post noEx) := by
  intro n
  induction n with
  | zero =>
    intros
    rename_i hw
    exact hw.elim
  | succ n ih =>
    intro S l1 l2 l3 l4 hw
    rw [r_covering_L5] at hw
    refine z_iload rfl rfl ?_
    refine z_aload_n rfl rfl ?_
    refine z_geti (ci := 7) 7 rfl hG.1 rfl w_665 ?_
    refine z_icmp_ge rfl (fun hq => ?_) (fun hq => ?_)
    · replace hw := hw.1 hq
      refine z_iload_n rfl rfl ?_
      exact z_iret rfl rfl rfl rfl (Or.inl ⟨_, _, rfl, rfl, hw⟩)
    · replace hw := hw.2 hq
      refine z_aload_n rfl rfl ?_
      refine z_iload rfl rfl ?_
      refine z_iload_n rfl rfl ?_
      refine z_iload_n rfl rfl ?_
      refine z_cvi (M' := M_r_covers) [.int l4, .int l1, .int l2] hx rfl w_927 cv_r_covers hG.1 (by decide) rfl rfl rfl rfl (zr_covers hx hG hw) ?_ (fun _ _ hf => hf.elim)
      clear hw
      intro r1 S1 hw
      have hj22 : ∀ v : Int32, v = (if r1 = 0 then l3 else l4 : Int32) → Z g M_r_covering 0 0 31 [some (.ref 148), some (.int l1), some (.int l2), some (.int l3), some (.int l4)] [.int v] (S1, G) (Qi G post noEx) := by
        intro v hv
        subst hv
        refine z_istore_n [some (.ref 148), some (.int l1), some (.int l2), some (.int (if r1 = 0 then l3 else l4 : Int32)), some (.int l4)] rfl rfl rfl ?_
        refine z_iinc 1 [some (.ref 148), some (.int l1), some (.int l2), some (.int (if r1 = 0 then l3 else l4 : Int32)), some (.int (l4 + 1))] rfl rfl rfl rfl ?_
        refine z_goto rfl ?_
        refine Z.forget' [some (.ref 148), some (.int l1), some (.int l2), some (.int (if r1 = 0 then l3 else l4 : Int32)), some (.int (l4 + 1))] ⟨rfl, ⟨rfl, ⟨rfl, ⟨rfl, ⟨rfl, trivial⟩⟩⟩⟩⟩ ?_
        exact ih hw
      refine z_if_eq rfl (fun hp22 => ?_) (fun hp22 => ?_)
      · refine z_iload_n rfl rfl ?_
        exact hj22 _ (by rw [if_pos hp22])
      · refine z_iload rfl rfl ?_
        refine z_goto rfl ?_
        exact hj22 _ (by rw [if_neg hp22])
def r_covering (post : Int32 → Mem → Prop) (S : Mem) (l1 : Int32) (l2 : Int32) : Prop :=
  ∃ n, r_covering_L5 post n S l1 l2 (-1) 0
set_option maxRecDepth 100000 in
set_option maxHeartbeats 1000000 in
theorem zr_covering {g : Gm} {G : Gp} {S : Mem} {post : Int32 → Mem → Prop} {l1 : Int32} {l2 : Int32} (hx : G.2.2.2 = false) (hG : isR G) (hw : r_covering post S l1 l2) : Z g M_r_covering 0 0 0 (entryL [.ref 148, .int l1, .int l2] (mL M_r_covering)) [] (S, G) (Qi G post noEx) := by
  unfold r_covering at hw
  show Z g M_r_covering 0 0 0 [some (.ref 148), some (.int l1), some (.int l2), none, none] [] (S, G) (Qi G post noEx)
  refine z_iconst (-1) rfl rfl ?_
  refine z_istore_n [some (.ref 148), some (.int l1), some (.int l2), some (.int (-1)), none] rfl rfl rfl ?_
  refine z_iconst 0 rfl rfl ?_
  refine z_istore [some (.ref 148), some (.int l1), some (.int l2), some (.int (-1)), some (.int 0)] rfl rfl rfl ?_
  refine Z.forget' [some (.ref 148), some (.int l1), some (.int l2), some (.int (-1)), some (.int 0)] ⟨rfl, ⟨rfl, ⟨rfl, ⟨rfl, ⟨rfl, trivial⟩⟩⟩⟩⟩ ?_
  obtain ⟨n, hw⟩ := hw
  exact zr_covering_L5 hx hG n hw
def r_hit (post : Int32 → Mem → Prop) (S : Mem) (l1 : Int32) (l2 : Int32) : Prop :=
  ∀ S1, S1 = up2 S 148 0 0 → r_covering (fun r1 S2 =>
   ((0 ≤ r1 → (vp_in ((8 * r1) + 0) 112))) ∧ 
   post (if 0 ≤ r1 then (S2 154 ((8 * r1) + 0).toNatClampNeg) else (-1) : Int32) S2) S1 l1 l2
set_option maxRecDepth 100000 in
set_option maxHeartbeats 1000000 in
theorem zr_hit {g : Gm} {G : Gp} {S : Mem} {post : Int32 → Mem → Prop} {l1 : Int32} {l2 : Int32} (hx : G.2.2.2 = false) (hG : isR G) (hw : r_hit post S l1 l2) : Z g M_r_hit 0 0 0 (entryL [.ref 148, .int l1, .int l2] (mL M_r_hit)) [] (S, G) (Qi G post noEx) := by
  unfold r_hit at hw
  show Z g M_r_hit 0 0 0 [some (.ref 148), some (.int l1), some (.int l2), none] [] (S, G) (Qi G post noEx)
  refine z_aload_n rfl rfl ?_
  refine z_iconst 0 rfl rfl ?_
  replace hw := hw _ rfl
  refine z_puti (ci := 7) 0 rfl hG.1 rfl w_658 rfl rfl rfl ?_
  refine z_aload_n rfl rfl ?_
  refine z_iload_n rfl rfl ?_
  refine z_iload_n rfl rfl ?_
  refine z_cvi (M' := M_r_covering) [.int l1, .int l2] hx rfl w_923 cv_r_covering hG.1 (by decide) rfl rfl rfl rfl (zr_covering hx hG hw) ?_ (fun _ _ hf => hf.elim)
  clear hw
  intro r1 S2 hw
  refine z_istore_n [some (.ref 148), some (.int l1), some (.int l2), some (.int r1)] rfl rfl rfl ?_
  refine z_iload_n rfl rfl ?_
  obtain ⟨hc1, hw⟩ := hw
  have hj13 : ∀ v : Int32, v = (if 0 ≤ r1 then (S2 154 ((8 * r1) + 0).toNatClampNeg) else (-1) : Int32) → Z g M_r_hit 0 0 26 [some (.ref 148), some (.int l1), some (.int l2), some (.int r1)] [.int v] (S2, G) (Qi G post noEx) := by
    intro v hv
    subst hv
    exact z_iret rfl rfl rfl rfl (Or.inl ⟨_, _, rfl, rfl, hw⟩)
  refine z_if_ge rfl (fun hp13 => ?_) (fun hp13 => ?_)
  · refine z_aload_n rfl rfl ?_
    refine z_iload_n rfl rfl ?_
    refine z_iconst 0 rfl rfl ?_
    refine z_cvi (M' := M_r_of) (post := fun v S' => (S2 154 ((8 * r1) + 0).toNatClampNeg) = v ∧ S2 = S') [.int r1, .int 0] hx rfl w_754 cv_r_of hG.1 (by decide) rfl rfl rfl rfl (zr_of hx hG  (⟨(hc1 hp13), ⟨rfl, rfl⟩⟩)) ?_ (fun _ _ hf => hf.elim)
    rintro v S' ⟨rfl, rfl⟩
    exact hj13 _ (by rw [if_pos hp13])
  · refine z_iconst (-1) rfl rfl ?_
    refine z_goto rfl ?_
    exact hj13 _ (by rw [if_neg hp13])
def r_shown_L26 (post : Int32 → Mem → Prop)  : Nat → Mem → Int32 → Int32 → Int32 → Int32 → Int32 → Int32 → Prop
  | 0, _, _, _, _, _, _, _ => False
  | n + 1, S, l1, l2, l3, l4, l5, l6 =>
  (((l3 * l3) ≤ l6) →
   post l5 S) ∧
  ((¬ (l3 * l3) ≤ l6) →
   ((¬ (S 148 0) = 0) →
    post l5 S) ∧
   (((S 148 0) = 0) →
    (¬ l3 = 0) ∧ (¬ l3 = 0) ∧ r_covering (fun r1 S1 =>
     ((0 ≤ r1 → (vp_in ((8 * r1) + 6) 112))) ∧ 
     r_shown_L26 post n S1 l1 l2 l3 l4 (if (if 0 ≤ r1 then (S1 154 ((8 * r1) + 6).toNatClampNeg) else (-1) : Int32) = l4 then (l5 + 1) else l5 : Int32) (l6 + 1)) S (l1 + (l6 - l6 / l3 * l3)) (l2 + (l6 / l3))))
set_option maxRecDepth 100000 in
set_option maxHeartbeats 1000000 in
theorem zr_shown_L26 {g : Gm} {G : Gp} {post : Int32 → Mem → Prop} (hx : G.2.2.2 = false) (hG : isR G) : ∀ (n : Nat) {S : Mem} {l1 : Int32} {l2 : Int32} {l3 : Int32} {l4 : Int32} {l5 : Int32} {l6 : Int32} , r_shown_L26 post n S l1 l2 l3 l4 l5 l6 → Z g M_r_shown 0 0 26 [some (.ref 148), some (.int l1), some (.int l2), some (.int l3), some (.int l4), some (.int l5), some (.int l6), none] [] (S, G) (Qi G post noEx) := by
  intro n
  induction n with
  | zero =>
    intros
    rename_i hw
    exact hw.elim
  | succ n ih =>
    intro S l1 l2 l3 l4 l5 l6 hw
    rw [r_shown_L26] at hw
    refine z_iload rfl rfl ?_
    refine z_iload_n rfl rfl ?_
    refine z_iload_n rfl rfl ?_
    refine z_imul rfl ?_
    refine z_icmp_ge rfl (fun hq => ?_) (fun hq => ?_)
    · replace hw := hw.1 hq
      refine z_iload rfl rfl ?_
      exact z_iret rfl rfl rfl rfl (Or.inl ⟨_, _, rfl, rfl, hw⟩)
    · replace hw := hw.2 hq
      refine z_aload_n rfl rfl ?_
      refine z_geti (ci := 7) 0 rfl hG.1 rfl w_658 ?_
      refine z_if_ne rfl (fun hq => ?_) (fun hq => ?_)
      · replace hw := hw.1 hq
        refine z_iload rfl rfl ?_
        exact z_iret rfl rfl rfl rfl (Or.inl ⟨_, _, rfl, rfl, hw⟩)
      · replace hw := hw.2 hq
        refine z_aload_n rfl rfl ?_
        refine z_iload_n rfl rfl ?_
        refine z_iload rfl rfl ?_
        refine z_iload_n rfl rfl ?_
        obtain ⟨hc1, hw⟩ := hw
        refine z_irem rfl hc1 ?_
        refine z_iadd rfl ?_
        refine z_iload_n rfl rfl ?_
        refine z_iload rfl rfl ?_
        refine z_iload_n rfl rfl ?_
        obtain ⟨hc2, hw⟩ := hw
        refine z_idiv rfl hc2 ?_
        refine z_iadd rfl ?_
        refine z_cvi (M' := M_r_covering) [.int (l1 + (l6 - l6 / l3 * l3)), .int (l2 + (l6 / l3))] hx rfl w_923 cv_r_covering hG.1 (by decide) rfl rfl rfl rfl (zr_covering hx hG hw) ?_ (fun _ _ hf => hf.elim)
        clear hw
        intro r1 S1 hw
        refine z_istore [some (.ref 148), some (.int l1), some (.int l2), some (.int l3), some (.int l4), some (.int l5), some (.int l6), some (.int r1)] rfl rfl rfl ?_
        refine z_iload rfl rfl ?_
        obtain ⟨hc4, hw⟩ := hw
        have hj61 : ∀ v : Int32, v = (if 0 ≤ r1 then (S1 154 ((8 * r1) + 6).toNatClampNeg) else (-1) : Int32) → Z g M_r_shown 0 0 76 [some (.ref 148), some (.int l1), some (.int l2), some (.int l3), some (.int l4), some (.int l5), some (.int l6), some (.int r1)] [.int v] (S1, G) (Qi G post noEx) := by
          intro v hv
          subst hv
          refine z_iload rfl rfl ?_
          have hj78 : ∀ v : Int32, v = (if (if 0 ≤ r1 then (S1 154 ((8 * r1) + 6).toNatClampNeg) else (-1) : Int32) = l4 then (l5 + 1) else l5 : Int32) → Z g M_r_shown 0 0 90 [some (.ref 148), some (.int l1), some (.int l2), some (.int l3), some (.int l4), some (.int l5), some (.int l6), some (.int r1)] [.int v] (S1, G) (Qi G post noEx) := by
            intro v hv
            subst hv
            refine z_istore [some (.ref 148), some (.int l1), some (.int l2), some (.int l3), some (.int l4), some (.int (if (if 0 ≤ r1 then (S1 154 ((8 * r1) + 6).toNatClampNeg) else (-1) : Int32) = l4 then (l5 + 1) else l5 : Int32)), some (.int l6), some (.int r1)] rfl rfl rfl ?_
            refine z_iinc 1 [some (.ref 148), some (.int l1), some (.int l2), some (.int l3), some (.int l4), some (.int (if (if 0 ≤ r1 then (S1 154 ((8 * r1) + 6).toNatClampNeg) else (-1) : Int32) = l4 then (l5 + 1) else l5 : Int32)), some (.int (l6 + 1)), some (.int r1)] rfl rfl rfl rfl ?_
            refine z_goto rfl ?_
            refine Z.forget' [some (.ref 148), some (.int l1), some (.int l2), some (.int l3), some (.int l4), some (.int (if (if 0 ≤ r1 then (S1 154 ((8 * r1) + 6).toNatClampNeg) else (-1) : Int32) = l4 then (l5 + 1) else l5 : Int32)), some (.int (l6 + 1)), none] ⟨rfl, ⟨rfl, ⟨rfl, ⟨rfl, ⟨rfl, ⟨rfl, ⟨rfl, trivial⟩⟩⟩⟩⟩⟩⟩ ?_
            exact ih hw
          refine z_icmp_ne rfl (fun hp78 => ?_) (fun hp78 => ?_)
          · refine z_iload rfl rfl ?_
            exact hj78 _ (by rw [if_neg hp78])
          · refine z_iload rfl rfl ?_
            refine z_iconst 1 rfl rfl ?_
            refine z_iadd rfl ?_
            refine z_goto rfl ?_
            exact hj78 _ (by rw [if_pos hp78])
        refine z_if_ge rfl (fun hp61 => ?_) (fun hp61 => ?_)
        · refine z_aload_n rfl rfl ?_
          refine z_iload rfl rfl ?_
          refine z_bipush 6 rfl rfl ?_
          refine z_cvi (M' := M_r_of) (post := fun v S' => (S1 154 ((8 * r1) + 6).toNatClampNeg) = v ∧ S1 = S') [.int r1, .int 6] hx rfl w_754 cv_r_of hG.1 (by decide) rfl rfl rfl rfl (zr_of hx hG  (⟨(hc4 hp61), ⟨rfl, rfl⟩⟩)) ?_ (fun _ _ hf => hf.elim)
          rintro v S' ⟨rfl, rfl⟩
          exact hj61 _ (by rw [if_pos hp61])
        · refine z_iconst (-1) rfl rfl ?_
          refine z_goto rfl ?_
          exact hj61 _ (by rw [if_neg hp61])
def r_shown (post : Int32 → Mem → Prop) (S : Mem) (l1 : Int32) (l2 : Int32) (l3 : Int32) (l4 : Int32) : Prop :=
  ∀ S1, S1 = up2 S 148 0 (if l3 < 1 then 1 else (if l3 ≤ 8 then 0 else 1 : Int32) : Int32) → ∃ n, r_shown_L26 post n S1 l1 l2 l3 l4 0 0
set_option maxRecDepth 100000 in
set_option maxHeartbeats 1000000 in
theorem zr_shown {g : Gm} {G : Gp} {S : Mem} {post : Int32 → Mem → Prop} {l1 : Int32} {l2 : Int32} {l3 : Int32} {l4 : Int32} (hx : G.2.2.2 = false) (hG : isR G) (hw : r_shown post S l1 l2 l3 l4) : Z g M_r_shown 0 0 0 (entryL [.ref 148, .int l1, .int l2, .int l3, .int l4] (mL M_r_shown)) [] (S, G) (Qi G post noEx) := by
  unfold r_shown at hw
  show Z g M_r_shown 0 0 0 [some (.ref 148), some (.int l1), some (.int l2), some (.int l3), some (.int l4), none, none, none] [] (S, G) (Qi G post noEx)
  refine z_aload_n rfl rfl ?_
  refine z_iload_n rfl rfl ?_
  refine z_iconst 1 rfl rfl ?_
  have hj3 : ∀ v : Int32, v = (if l3 < 1 then 1 else (if l3 ≤ 8 then 0 else 1 : Int32) : Int32) → Z g M_r_shown 0 0 17 [some (.ref 148), some (.int l1), some (.int l2), some (.int l3), some (.int l4), none, none, none] [.int v, .ref 148] (S, G) (Qi G post noEx) := by
    intro v hv
    subst hv
    replace hw := hw _ rfl
    refine z_puti (ci := 7) 0 rfl hG.1 rfl w_658 rfl rfl rfl ?_
    refine z_iconst 0 rfl rfl ?_
    refine z_istore [some (.ref 148), some (.int l1), some (.int l2), some (.int l3), some (.int l4), some (.int 0), none, none] rfl rfl rfl ?_
    refine z_iconst 0 rfl rfl ?_
    refine z_istore [some (.ref 148), some (.int l1), some (.int l2), some (.int l3), some (.int l4), some (.int 0), some (.int 0), none] rfl rfl rfl ?_
    refine Z.forget' [some (.ref 148), some (.int l1), some (.int l2), some (.int l3), some (.int l4), some (.int 0), some (.int 0), none] ⟨rfl, ⟨rfl, ⟨rfl, ⟨rfl, ⟨rfl, ⟨rfl, ⟨rfl, trivial⟩⟩⟩⟩⟩⟩⟩ ?_
    obtain ⟨n, hw⟩ := hw
    exact zr_shown_L26 hx hG n hw
  refine z_icmp_lt rfl (fun hp3 => ?_) (fun hp3 => ?_)
  · refine z_iconst 1 rfl rfl ?_
    refine z_goto rfl ?_
    exact hj3 _ (by rw [if_pos hp3])
  · refine z_iload_n rfl rfl ?_
    refine z_bipush 8 rfl rfl ?_
    refine z_icmp_le rfl (fun hp9 => ?_) (fun hp9 => ?_)
    · refine z_iconst 0 rfl rfl ?_
      exact hj3 _ (by rw [if_neg hp3, if_pos hp9])
    · refine z_iconst 1 rfl rfl ?_
      refine z_goto rfl ?_
      exact hj3 _ (by rw [if_neg hp3, if_neg hp9])
def r_inside_J118 (post : Int32 → Mem → Prop) (K12 : Mem → Int32 → Int32 → Int32 → Int32 → Int32 → Int32 → Prop) (S : Mem) (l1 : Int32) (l2 : Int32) (l3 : Int32) (l4 : Int32) (l6 : Int32) (l7 : Int32) (l8 : Int32) : Prop :=
  K12 S l1 l2 l3 l4 (if l8 = 0 then l6 else (l6 - 1) : Int32) (l7 + 1)
set_option maxRecDepth 100000 in
set_option maxHeartbeats 1000000 in
theorem zr_inside_J118 {g : Gm} {G : Gp} {post : Int32 → Mem → Prop} {K12 : Mem → Int32 → Int32 → Int32 → Int32 → Int32 → Int32 → Prop} (hx : G.2.2.2 = false) (hG : isR G) (hK12 : ∀ {S : Mem} {l1 : Int32} {l2 : Int32} {l3 : Int32} {l4 : Int32} {l6 : Int32} {l7 : Int32} , K12 S l1 l2 l3 l4 l6 l7 → Z g M_r_inside 0 0 12 [some (.ref 148), some (.int l1), some (.int l2), some (.int l3), some (.int l4), none, some (.int l6), some (.int l7), none] [] (S, G) (Qi G post noEx)) {S : Mem} {l1 : Int32} {l2 : Int32} {l3 : Int32} {l4 : Int32} {l6 : Int32} {l7 : Int32} {l8 : Int32}  (hw : r_inside_J118 post K12 S l1 l2 l3 l4 l6 l7 l8) : Z g M_r_inside 0 0 118 [some (.ref 148), some (.int l1), some (.int l2), some (.int l3), some (.int l4), none, some (.int l6), some (.int l7), some (.int l8)] [] (S, G) (Qi G post noEx) := by
  unfold r_inside_J118 at hw
  refine z_iload rfl rfl ?_
  have hj120 : ∀ v : Int32, v = (if l8 = 0 then l6 else (l6 - 1) : Int32) → Z g M_r_inside 0 0 132 [some (.ref 148), some (.int l1), some (.int l2), some (.int l3), some (.int l4), none, some (.int l6), some (.int l7), some (.int l8)] [.int v] (S, G) (Qi G post noEx) := by
    intro v hv
    subst hv
    refine z_istore [some (.ref 148), some (.int l1), some (.int l2), some (.int l3), some (.int l4), none, some (.int (if l8 = 0 then l6 else (l6 - 1) : Int32)), some (.int l7), some (.int l8)] rfl rfl rfl ?_
    refine z_iinc 1 [some (.ref 148), some (.int l1), some (.int l2), some (.int l3), some (.int l4), none, some (.int (if l8 = 0 then l6 else (l6 - 1) : Int32)), some (.int (l7 + 1)), some (.int l8)] rfl rfl rfl rfl ?_
    refine z_goto rfl ?_
    refine Z.forget' [some (.ref 148), some (.int l1), some (.int l2), some (.int l3), some (.int l4), none, some (.int (if l8 = 0 then l6 else (l6 - 1) : Int32)), some (.int (l7 + 1)), none] ⟨rfl, ⟨rfl, ⟨rfl, ⟨rfl, ⟨rfl, ⟨rfl, ⟨rfl, trivial⟩⟩⟩⟩⟩⟩⟩ ?_
    exact hK12 hw
  refine z_if_eq rfl (fun hp120 => ?_) (fun hp120 => ?_)
  · refine z_iload rfl rfl ?_
    exact hj120 _ (by rw [if_pos hp120])
  · refine z_iload rfl rfl ?_
    refine z_iconst 1 rfl rfl ?_
    refine z_isub rfl ?_
    refine z_goto rfl ?_
    exact hj120 _ (by rw [if_neg hp120])
def r_inside_L12 (post : Int32 → Mem → Prop)  : Nat → Mem → Int32 → Int32 → Int32 → Int32 → Int32 → Int32 → Prop
  | 0, _, _, _, _, _, _, _ => False
  | n + 1, S, l1, l2, l3, l4, l6, l7 =>
  (((S 148 7) ≤ l7) →
   post (-1) S) ∧
  ((¬ (S 148 7) ≤ l7) →
   (vp_in ((8 * l7) + 1) 112) ∧ 
   ((¬ (S 154 ((8 * l7) + 1).toNatClampNeg) = 3 → (vp_in ((8 * l7) + 2) 112) ∧ (¬ (S 154 ((8 * l7) + 2).toNatClampNeg) < l1 → (vp_in ((8 * l7) + 3) 112) ∧ (¬ (S 154 ((8 * l7) + 3).toNatClampNeg) < l2 → (vp_in ((8 * l7) + 2) 112) ∧ (vp_in ((8 * l7) + 4) 112) ∧ (¬ l3 < ((S 154 ((8 * l7) + 2).toNatClampNeg) + (S 154 ((8 * l7) + 4).toNatClampNeg)) → (vp_in ((8 * l7) + 3) 112) ∧ (vp_in ((8 * l7) + 5) 112)))))) ∧ 
   (((if (S 154 ((8 * l7) + 1).toNatClampNeg) = 3 then 0 else (if (S 154 ((8 * l7) + 2).toNatClampNeg) < l1 then 0 else (if (S 154 ((8 * l7) + 3).toNatClampNeg) < l2 then 0 else (if l3 < ((S 154 ((8 * l7) + 2).toNatClampNeg) + (S 154 ((8 * l7) + 4).toNatClampNeg)) then 0 else (if l4 < ((S 154 ((8 * l7) + 3).toNatClampNeg) + (S 154 ((8 * l7) + 5).toNatClampNeg)) then 0 else 1 : Int32) : Int32) : Int32) : Int32) : Int32) = 0) →
    r_inside_J118 post (r_inside_L12 post n) S l1 l2 l3 l4 l6 l7 (if (S 154 ((8 * l7) + 1).toNatClampNeg) = 3 then 0 else (if (S 154 ((8 * l7) + 2).toNatClampNeg) < l1 then 0 else (if (S 154 ((8 * l7) + 3).toNatClampNeg) < l2 then 0 else (if l3 < ((S 154 ((8 * l7) + 2).toNatClampNeg) + (S 154 ((8 * l7) + 4).toNatClampNeg)) then 0 else (if l4 < ((S 154 ((8 * l7) + 3).toNatClampNeg) + (S 154 ((8 * l7) + 5).toNatClampNeg)) then 0 else 1 : Int32) : Int32) : Int32) : Int32) : Int32)) ∧
   ((¬ (if (S 154 ((8 * l7) + 1).toNatClampNeg) = 3 then 0 else (if (S 154 ((8 * l7) + 2).toNatClampNeg) < l1 then 0 else (if (S 154 ((8 * l7) + 3).toNatClampNeg) < l2 then 0 else (if l3 < ((S 154 ((8 * l7) + 2).toNatClampNeg) + (S 154 ((8 * l7) + 4).toNatClampNeg)) then 0 else (if l4 < ((S 154 ((8 * l7) + 3).toNatClampNeg) + (S 154 ((8 * l7) + 5).toNatClampNeg)) then 0 else 1 : Int32) : Int32) : Int32) : Int32) : Int32) = 0) →
    ((¬ l6 = 0) →
     r_inside_J118 post (r_inside_L12 post n) S l1 l2 l3 l4 l6 l7 (if (S 154 ((8 * l7) + 1).toNatClampNeg) = 3 then 0 else (if (S 154 ((8 * l7) + 2).toNatClampNeg) < l1 then 0 else (if (S 154 ((8 * l7) + 3).toNatClampNeg) < l2 then 0 else (if l3 < ((S 154 ((8 * l7) + 2).toNatClampNeg) + (S 154 ((8 * l7) + 4).toNatClampNeg)) then 0 else (if l4 < ((S 154 ((8 * l7) + 3).toNatClampNeg) + (S 154 ((8 * l7) + 5).toNatClampNeg)) then 0 else 1 : Int32) : Int32) : Int32) : Int32) : Int32)) ∧
    ((l6 = 0) →
     (vp_in ((8 * l7) + 0) 112) ∧ 
     post (S 154 ((8 * l7) + 0).toNatClampNeg) S)))
set_option maxRecDepth 100000 in
set_option maxHeartbeats 1000000 in
theorem zr_inside_L12 {g : Gm} {G : Gp} {post : Int32 → Mem → Prop} (hx : G.2.2.2 = false) (hG : isR G) : ∀ (n : Nat) {S : Mem} {l1 : Int32} {l2 : Int32} {l3 : Int32} {l4 : Int32} {l6 : Int32} {l7 : Int32} , r_inside_L12 post n S l1 l2 l3 l4 l6 l7 → Z g M_r_inside 0 0 12 [some (.ref 148), some (.int l1), some (.int l2), some (.int l3), some (.int l4), none, some (.int l6), some (.int l7), none] [] (S, G) (Qi G post noEx) := by
  intro n
  induction n with
  | zero =>
    intros
    rename_i hw
    exact hw.elim
  | succ n ih =>
    intro S l1 l2 l3 l4 l6 l7 hw
    rw [r_inside_L12] at hw
    refine z_iload rfl rfl ?_
    refine z_aload_n rfl rfl ?_
    refine z_geti (ci := 7) 7 rfl hG.1 rfl w_665 ?_
    refine z_icmp_ge rfl (fun hq => ?_) (fun hq => ?_)
    · replace hw := hw.1 hq
      refine z_iconst (-1) rfl rfl ?_
      exact z_iret rfl rfl rfl rfl (Or.inl ⟨_, _, rfl, rfl, hw⟩)
    · replace hw := hw.2 hq
      refine z_aload_n rfl rfl ?_
      refine z_iload rfl rfl ?_
      refine z_iconst 1 rfl rfl ?_
      obtain ⟨hc1, hw⟩ := hw
      refine z_cvi (M' := M_r_of) (post := fun v S' => (S 154 ((8 * l7) + 1).toNatClampNeg) = v ∧ S = S') [.int l7, .int 1] hx rfl w_754 cv_r_of hG.1 (by decide) rfl rfl rfl rfl (zr_of hx hG (⟨hc1, ⟨rfl, rfl⟩⟩)) ?_ (fun _ _ hf => hf.elim)
      rintro v S' ⟨rfl, rfl⟩
      refine z_iconst 3 rfl rfl ?_
      obtain ⟨hc3, hw⟩ := hw
      have hj29 : ∀ v : Int32, v = (if (S 154 ((8 * l7) + 1).toNatClampNeg) = 3 then 0 else (if (S 154 ((8 * l7) + 2).toNatClampNeg) < l1 then 0 else (if (S 154 ((8 * l7) + 3).toNatClampNeg) < l2 then 0 else (if l3 < ((S 154 ((8 * l7) + 2).toNatClampNeg) + (S 154 ((8 * l7) + 4).toNatClampNeg)) then 0 else (if l4 < ((S 154 ((8 * l7) + 3).toNatClampNeg) + (S 154 ((8 * l7) + 5).toNatClampNeg)) then 0 else 1 : Int32) : Int32) : Int32) : Int32) : Int32) → Z g M_r_inside 0 0 98 [some (.ref 148), some (.int l1), some (.int l2), some (.int l3), some (.int l4), none, some (.int l6), some (.int l7), none] [.int v] (S, G) (Qi G post noEx) := by
        intro v hv
        subst hv
        refine z_istore [some (.ref 148), some (.int l1), some (.int l2), some (.int l3), some (.int l4), none, some (.int l6), some (.int l7), some (.int (if (S 154 ((8 * l7) + 1).toNatClampNeg) = 3 then 0 else (if (S 154 ((8 * l7) + 2).toNatClampNeg) < l1 then 0 else (if (S 154 ((8 * l7) + 3).toNatClampNeg) < l2 then 0 else (if l3 < ((S 154 ((8 * l7) + 2).toNatClampNeg) + (S 154 ((8 * l7) + 4).toNatClampNeg)) then 0 else (if l4 < ((S 154 ((8 * l7) + 3).toNatClampNeg) + (S 154 ((8 * l7) + 5).toNatClampNeg)) then 0 else 1 : Int32) : Int32) : Int32) : Int32) : Int32))] rfl rfl rfl ?_
        refine z_iload rfl rfl ?_
        refine z_if_eq rfl (fun hq => ?_) (fun hq => ?_)
        · replace hw := hw.1 hq
          refine Z.forget' [some (.ref 148), some (.int l1), some (.int l2), some (.int l3), some (.int l4), none, some (.int l6), some (.int l7), some (.int (if (S 154 ((8 * l7) + 1).toNatClampNeg) = 3 then 0 else (if (S 154 ((8 * l7) + 2).toNatClampNeg) < l1 then 0 else (if (S 154 ((8 * l7) + 3).toNatClampNeg) < l2 then 0 else (if l3 < ((S 154 ((8 * l7) + 2).toNatClampNeg) + (S 154 ((8 * l7) + 4).toNatClampNeg)) then 0 else (if l4 < ((S 154 ((8 * l7) + 3).toNatClampNeg) + (S 154 ((8 * l7) + 5).toNatClampNeg)) then 0 else 1 : Int32) : Int32) : Int32) : Int32) : Int32))] ⟨rfl, ⟨rfl, ⟨rfl, ⟨rfl, ⟨rfl, ⟨rfl, ⟨rfl, ⟨rfl, trivial⟩⟩⟩⟩⟩⟩⟩⟩ ?_
          exact zr_inside_J118 hx hG (@ih) hw
        · replace hw := hw.2 hq
          refine z_iload rfl rfl ?_
          refine z_if_ne rfl (fun hq => ?_) (fun hq => ?_)
          · replace hw := hw.1 hq
            refine Z.forget' [some (.ref 148), some (.int l1), some (.int l2), some (.int l3), some (.int l4), none, some (.int l6), some (.int l7), some (.int (if (S 154 ((8 * l7) + 1).toNatClampNeg) = 3 then 0 else (if (S 154 ((8 * l7) + 2).toNatClampNeg) < l1 then 0 else (if (S 154 ((8 * l7) + 3).toNatClampNeg) < l2 then 0 else (if l3 < ((S 154 ((8 * l7) + 2).toNatClampNeg) + (S 154 ((8 * l7) + 4).toNatClampNeg)) then 0 else (if l4 < ((S 154 ((8 * l7) + 3).toNatClampNeg) + (S 154 ((8 * l7) + 5).toNatClampNeg)) then 0 else 1 : Int32) : Int32) : Int32) : Int32) : Int32))] ⟨rfl, ⟨rfl, ⟨rfl, ⟨rfl, ⟨rfl, ⟨rfl, ⟨rfl, ⟨rfl, trivial⟩⟩⟩⟩⟩⟩⟩⟩ ?_
            exact zr_inside_J118 hx hG (@ih) hw
          · replace hw := hw.2 hq
            refine z_aload_n rfl rfl ?_
            refine z_iload rfl rfl ?_
            refine z_iconst 0 rfl rfl ?_
            obtain ⟨hc2, hw⟩ := hw
            refine z_cvi (M' := M_r_of) (post := fun v S' => (S 154 ((8 * l7) + 0).toNatClampNeg) = v ∧ S = S') [.int l7, .int 0] hx rfl w_754 cv_r_of hG.1 (by decide) rfl rfl rfl rfl (zr_of hx hG (⟨hc2, ⟨rfl, rfl⟩⟩)) ?_ (fun _ _ hf => hf.elim)
            rintro v S' ⟨rfl, rfl⟩
            exact z_iret rfl rfl rfl rfl (Or.inl ⟨_, _, rfl, rfl, hw⟩)
      refine z_icmp_eq rfl (fun hp29 => ?_) (fun hp29 => ?_)
      · refine z_iconst 0 rfl rfl ?_
        exact hj29 _ (by rw [if_pos hp29])
      · refine z_aload_n rfl rfl ?_
        refine z_iload rfl rfl ?_
        refine z_iconst 2 rfl rfl ?_
        refine z_cvi (M' := M_r_of) (post := fun v S' => (S 154 ((8 * l7) + 2).toNatClampNeg) = v ∧ S = S') [.int l7, .int 2] hx rfl w_754 cv_r_of hG.1 (by decide) rfl rfl rfl rfl (zr_of hx hG  (⟨(hc3 hp29).1, ⟨rfl, rfl⟩⟩)) ?_ (fun _ _ hf => hf.elim)
        rintro v S' ⟨rfl, rfl⟩
        refine z_iload_n rfl rfl ?_
        refine z_icmp_lt rfl (fun hp40 => ?_) (fun hp40 => ?_)
        · refine z_iconst 0 rfl rfl ?_
          exact hj29 _ (by rw [if_neg hp29, if_pos hp40])
        · refine z_aload_n rfl rfl ?_
          refine z_iload rfl rfl ?_
          refine z_iconst 3 rfl rfl ?_
          refine z_cvi (M' := M_r_of) (post := fun v S' => (S 154 ((8 * l7) + 3).toNatClampNeg) = v ∧ S = S') [.int l7, .int 3] hx rfl w_754 cv_r_of hG.1 (by decide) rfl rfl rfl rfl (zr_of hx hG  (⟨((hc3 hp29).2 hp40).1, ⟨rfl, rfl⟩⟩)) ?_ (fun _ _ hf => hf.elim)
          rintro v S' ⟨rfl, rfl⟩
          refine z_iload_n rfl rfl ?_
          refine z_icmp_lt rfl (fun hp51 => ?_) (fun hp51 => ?_)
          · refine z_iconst 0 rfl rfl ?_
            exact hj29 _ (by rw [if_neg hp29, if_neg hp40, if_pos hp51])
          · refine z_aload_n rfl rfl ?_
            refine z_iload rfl rfl ?_
            refine z_iconst 2 rfl rfl ?_
            refine z_cvi (M' := M_r_of) (post := fun v S' => (S 154 ((8 * l7) + 2).toNatClampNeg) = v ∧ S = S') [.int l7, .int 2] hx rfl w_754 cv_r_of hG.1 (by decide) rfl rfl rfl rfl (zr_of hx hG  (⟨(((hc3 hp29).2 hp40).2 hp51).1, ⟨rfl, rfl⟩⟩)) ?_ (fun _ _ hf => hf.elim)
            rintro v S' ⟨rfl, rfl⟩
            refine z_aload_n rfl rfl ?_
            refine z_iload rfl rfl ?_
            refine z_iconst 4 rfl rfl ?_
            refine z_cvi (M' := M_r_of) (post := fun v S' => (S 154 ((8 * l7) + 4).toNatClampNeg) = v ∧ S = S') [.int l7, .int 4] hx rfl w_754 cv_r_of hG.1 (by decide) rfl rfl rfl rfl (zr_of hx hG  (⟨(((hc3 hp29).2 hp40).2 hp51).2.1, ⟨rfl, rfl⟩⟩)) ?_ (fun _ _ hf => hf.elim)
            rintro v S' ⟨rfl, rfl⟩
            refine z_iadd rfl ?_
            refine z_iload_n rfl rfl ?_
            refine z_icmp_gt rfl (fun hp70 => ?_) (fun hp70 => ?_)
            · refine z_iconst 0 rfl rfl ?_
              exact hj29 _ (by rw [if_neg hp29, if_neg hp40, if_neg hp51, if_pos hp70])
            · refine z_aload_n rfl rfl ?_
              refine z_iload rfl rfl ?_
              refine z_iconst 3 rfl rfl ?_
              refine z_cvi (M' := M_r_of) (post := fun v S' => (S 154 ((8 * l7) + 3).toNatClampNeg) = v ∧ S = S') [.int l7, .int 3] hx rfl w_754 cv_r_of hG.1 (by decide) rfl rfl rfl rfl (zr_of hx hG  (⟨((((hc3 hp29).2 hp40).2 hp51).2.2 hp70).1, ⟨rfl, rfl⟩⟩)) ?_ (fun _ _ hf => hf.elim)
              rintro v S' ⟨rfl, rfl⟩
              refine z_aload_n rfl rfl ?_
              refine z_iload rfl rfl ?_
              refine z_iconst 5 rfl rfl ?_
              refine z_cvi (M' := M_r_of) (post := fun v S' => (S 154 ((8 * l7) + 5).toNatClampNeg) = v ∧ S = S') [.int l7, .int 5] hx rfl w_754 cv_r_of hG.1 (by decide) rfl rfl rfl rfl (zr_of hx hG  (⟨((((hc3 hp29).2 hp40).2 hp51).2.2 hp70).2, ⟨rfl, rfl⟩⟩)) ?_ (fun _ _ hf => hf.elim)
              rintro v S' ⟨rfl, rfl⟩
              refine z_iadd rfl ?_
              refine z_iload rfl rfl ?_
              refine z_icmp_gt rfl (fun hp90 => ?_) (fun hp90 => ?_)
              · refine z_iconst 0 rfl rfl ?_
                exact hj29 _ (by rw [if_neg hp29, if_neg hp40, if_neg hp51, if_neg hp70, if_pos hp90])
              · refine z_iconst 1 rfl rfl ?_
                refine z_goto rfl ?_
                exact hj29 _ (by rw [if_neg hp29, if_neg hp40, if_neg hp51, if_neg hp70, if_neg hp90])
def r_inside (post : Int32 → Mem → Prop) (S : Mem) (l1 : Int32) (l2 : Int32) (l3 : Int32) (l4 : Int32) (l5 : Int32) : Prop :=
  ∀ S1, S1 = up2 S 148 0 0 → ∃ n, r_inside_L12 post n S1 l1 l2 l3 l4 l5 0
set_option maxRecDepth 100000 in
set_option maxHeartbeats 1000000 in
theorem zr_inside {g : Gm} {G : Gp} {S : Mem} {post : Int32 → Mem → Prop} {l1 : Int32} {l2 : Int32} {l3 : Int32} {l4 : Int32} {l5 : Int32} (hx : G.2.2.2 = false) (hG : isR G) (hw : r_inside post S l1 l2 l3 l4 l5) : Z g M_r_inside 0 0 0 (entryL [.ref 148, .int l1, .int l2, .int l3, .int l4, .int l5] (mL M_r_inside)) [] (S, G) (Qi G post noEx) := by
  unfold r_inside at hw
  show Z g M_r_inside 0 0 0 [some (.ref 148), some (.int l1), some (.int l2), some (.int l3), some (.int l4), some (.int l5), none, none, none] [] (S, G) (Qi G post noEx)
  refine z_aload_n rfl rfl ?_
  refine z_iconst 0 rfl rfl ?_
  replace hw := hw _ rfl
  refine z_puti (ci := 7) 0 rfl hG.1 rfl w_658 rfl rfl rfl ?_
  refine z_iload rfl rfl ?_
  refine z_istore [some (.ref 148), some (.int l1), some (.int l2), some (.int l3), some (.int l4), some (.int l5), some (.int l5), none, none] rfl rfl rfl ?_
  refine z_iconst 0 rfl rfl ?_
  refine z_istore [some (.ref 148), some (.int l1), some (.int l2), some (.int l3), some (.int l4), some (.int l5), some (.int l5), some (.int 0), none] rfl rfl rfl ?_
  refine Z.forget' [some (.ref 148), some (.int l1), some (.int l2), some (.int l3), some (.int l4), none, some (.int l5), some (.int 0), none] ⟨rfl, ⟨rfl, ⟨rfl, ⟨rfl, ⟨rfl, ⟨rfl, ⟨rfl, trivial⟩⟩⟩⟩⟩⟩⟩ ?_
  obtain ⟨n, hw⟩ := hw
  exact zr_inside_L12 hx hG n hw
