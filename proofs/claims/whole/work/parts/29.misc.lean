theorem zc64 {own : String} {idx : Nat} {v : Int64} {x : Int} (h : z64 x = v) (k : Cond.constantLong own idx v ∈ zTB) : Cond.constantLong own idx (z64 x) ∈ zTB := h ▸ k
theorem zc32 {own : String} {idx : Nat} {v : Int32} {x : Int} (h : z32 x = v) (k : Cond.constant own idx v ∈ zTB) : Cond.constant own idx (z32 x) ∈ zTB := h ▸ k
