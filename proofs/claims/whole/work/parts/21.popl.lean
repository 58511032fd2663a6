theorem sp_bitCountL (x : Int64) {post : Int32 → Prop} (h : post (nI (cn (fun i => tl x i) 64))) : S_J13_bitCount_95d88 x post := by
  sorry
