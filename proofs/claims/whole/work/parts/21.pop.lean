theorem sp_bitCount (x : Int32) {post : Int32 → Prop} (h : post (nI (cn (fun i => ti x i) 32))) : S_J6_bitCount_0f7a4 x post := by
  sorry
theorem sp_bitCountL (x : Int64) {post : Int32 → Prop} (h : post (nI (cn (fun i => tl x i) 64))) : S_J13_bitCount_95d88 x post := by
  sorry
