/-! the worlds: what the cells hold, as tuples -/
abbrev RowS : Type := Int32 × (Nat → Int32)
abbrev ro_size (x : RowS) : Int32 := x.1
abbrev ro_places (x : RowS) : (Nat → Int32) := x.2
abbrev rs_size (x : RowS) (v : Int32) : RowS := (v, x.2)
abbrev rs_places (x : RowS) (v : (Nat → Int32)) : RowS := (x.1, v)
abbrev TexS : Type := Int32 × (Nat → Int32)
abbrev te_size (x : TexS) : Int32 := x.1
abbrev te_bytes (x : TexS) : (Nat → Int32) := x.2
abbrev ts_size (x : TexS) (v : Int32) : TexS := (v, x.2)
abbrev ts_bytes (x : TexS) (v : (Nat → Int32)) : TexS := (x.1, v)
abbrev CluS : Type := (Nat → Int32) × (Nat → Int32) × (Nat → Int32) × (Nat → Int32) × Int32 × Int32 × Int32 × Int32 × Int32
abbrev cl_kinds (x : CluS) : (Nat → Int32) := x.1
abbrev cl_pence (x : CluS) : (Nat → Int32) := x.2.1
abbrev cl_liked (x : CluS) : (Nat → Int32) := x.2.2.1
abbrev cl_deeds (x : CluS) : (Nat → Int32) := x.2.2.2.1
abbrev cl_children (x : CluS) : Int32 := x.2.2.2.2.1
abbrev cl_rule (x : CluS) : Int32 := x.2.2.2.2.2.1
abbrev cl_inn (x : CluS) : Int32 := x.2.2.2.2.2.2.1
abbrev cl_tin (x : CluS) : Int32 := x.2.2.2.2.2.2.2.1
abbrev cl_dc (x : CluS) : Int32 := x.2.2.2.2.2.2.2.2
abbrev cs_kinds (x : CluS) (v : (Nat → Int32)) : CluS := (v, x.2.1, x.2.2.1, x.2.2.2.1, x.2.2.2.2.1, x.2.2.2.2.2.1, x.2.2.2.2.2.2.1, x.2.2.2.2.2.2.2.1, x.2.2.2.2.2.2.2.2)
abbrev cs_pence (x : CluS) (v : (Nat → Int32)) : CluS := (x.1, v, x.2.2.1, x.2.2.2.1, x.2.2.2.2.1, x.2.2.2.2.2.1, x.2.2.2.2.2.2.1, x.2.2.2.2.2.2.2.1, x.2.2.2.2.2.2.2.2)
abbrev cs_liked (x : CluS) (v : (Nat → Int32)) : CluS := (x.1, x.2.1, v, x.2.2.2.1, x.2.2.2.2.1, x.2.2.2.2.2.1, x.2.2.2.2.2.2.1, x.2.2.2.2.2.2.2.1, x.2.2.2.2.2.2.2.2)
abbrev cs_deeds (x : CluS) (v : (Nat → Int32)) : CluS := (x.1, x.2.1, x.2.2.1, v, x.2.2.2.2.1, x.2.2.2.2.2.1, x.2.2.2.2.2.2.1, x.2.2.2.2.2.2.2.1, x.2.2.2.2.2.2.2.2)
abbrev cs_children (x : CluS) (v : Int32) : CluS := (x.1, x.2.1, x.2.2.1, x.2.2.2.1, v, x.2.2.2.2.2.1, x.2.2.2.2.2.2.1, x.2.2.2.2.2.2.2.1, x.2.2.2.2.2.2.2.2)
abbrev cs_rule (x : CluS) (v : Int32) : CluS := (x.1, x.2.1, x.2.2.1, x.2.2.2.1, x.2.2.2.2.1, v, x.2.2.2.2.2.2.1, x.2.2.2.2.2.2.2.1, x.2.2.2.2.2.2.2.2)
abbrev cs_inn (x : CluS) (v : Int32) : CluS := (x.1, x.2.1, x.2.2.1, x.2.2.2.1, x.2.2.2.2.1, x.2.2.2.2.2.1, v, x.2.2.2.2.2.2.2.1, x.2.2.2.2.2.2.2.2)
abbrev cs_tin (x : CluS) (v : Int32) : CluS := (x.1, x.2.1, x.2.2.1, x.2.2.2.1, x.2.2.2.2.1, x.2.2.2.2.2.1, x.2.2.2.2.2.2.1, v, x.2.2.2.2.2.2.2.2)
abbrev cs_dc (x : CluS) (v : Int32) : CluS := (x.1, x.2.1, x.2.2.1, x.2.2.2.1, x.2.2.2.2.1, x.2.2.2.2.2.1, x.2.2.2.2.2.2.1, x.2.2.2.2.2.2.2.1, v)
abbrev RdS : Type := Int32 × Int32
abbrev rd_place (x : RdS) : Int32 := x.1
abbrev rd_pairs (x : RdS) : Int32 := x.2
abbrev ds_place (x : RdS) (v : Int32) : RdS := (v, x.2)
abbrev ds_pairs (x : RdS) (v : Int32) : RdS := (x.1, v)
abbrev NjS : Type := (Nat → RowS) × (Nat → TexS) × CluS × CluS × (Nat → CluS) × RdS × (Nat → Int32) × (Nat → Int32) × Int32 × Int32 × Int64 × Int64
abbrev nj_rows (x : NjS) : (Nat → RowS) := x.1
abbrev nj_texts (x : NjS) : (Nat → TexS) := x.2.1
abbrev nj_club (x : NjS) : CluS := x.2.2.1
abbrev nj_draft (x : NjS) : CluS := x.2.2.2.1
abbrev nj_kept (x : NjS) : (Nat → CluS) := x.2.2.2.2.1
abbrev nj_rd (x : NjS) : RdS := x.2.2.2.2.2.1
abbrev nj_os (x : NjS) : (Nat → Int32) := x.2.2.2.2.2.2.1
abbrev nj_fc (x : NjS) : (Nat → Int32) := x.2.2.2.2.2.2.2.1
abbrev nj_lf (x : NjS) : Int32 := x.2.2.2.2.2.2.2.2.1
abbrev nj_an (x : NjS) : Int32 := x.2.2.2.2.2.2.2.2.2.1
abbrev nj_up (x : NjS) : Int64 := x.2.2.2.2.2.2.2.2.2.2.1
abbrev nj_lo (x : NjS) : Int64 := x.2.2.2.2.2.2.2.2.2.2.2
abbrev ns_rows (x : NjS) (v : (Nat → RowS)) : NjS := (v, x.2.1, x.2.2.1, x.2.2.2.1, x.2.2.2.2.1, x.2.2.2.2.2.1, x.2.2.2.2.2.2.1, x.2.2.2.2.2.2.2.1, x.2.2.2.2.2.2.2.2.1, x.2.2.2.2.2.2.2.2.2.1, x.2.2.2.2.2.2.2.2.2.2.1, x.2.2.2.2.2.2.2.2.2.2.2)
abbrev ns_texts (x : NjS) (v : (Nat → TexS)) : NjS := (x.1, v, x.2.2.1, x.2.2.2.1, x.2.2.2.2.1, x.2.2.2.2.2.1, x.2.2.2.2.2.2.1, x.2.2.2.2.2.2.2.1, x.2.2.2.2.2.2.2.2.1, x.2.2.2.2.2.2.2.2.2.1, x.2.2.2.2.2.2.2.2.2.2.1, x.2.2.2.2.2.2.2.2.2.2.2)
abbrev ns_club (x : NjS) (v : CluS) : NjS := (x.1, x.2.1, v, x.2.2.2.1, x.2.2.2.2.1, x.2.2.2.2.2.1, x.2.2.2.2.2.2.1, x.2.2.2.2.2.2.2.1, x.2.2.2.2.2.2.2.2.1, x.2.2.2.2.2.2.2.2.2.1, x.2.2.2.2.2.2.2.2.2.2.1, x.2.2.2.2.2.2.2.2.2.2.2)
abbrev ns_draft (x : NjS) (v : CluS) : NjS := (x.1, x.2.1, x.2.2.1, v, x.2.2.2.2.1, x.2.2.2.2.2.1, x.2.2.2.2.2.2.1, x.2.2.2.2.2.2.2.1, x.2.2.2.2.2.2.2.2.1, x.2.2.2.2.2.2.2.2.2.1, x.2.2.2.2.2.2.2.2.2.2.1, x.2.2.2.2.2.2.2.2.2.2.2)
abbrev ns_kept (x : NjS) (v : (Nat → CluS)) : NjS := (x.1, x.2.1, x.2.2.1, x.2.2.2.1, v, x.2.2.2.2.2.1, x.2.2.2.2.2.2.1, x.2.2.2.2.2.2.2.1, x.2.2.2.2.2.2.2.2.1, x.2.2.2.2.2.2.2.2.2.1, x.2.2.2.2.2.2.2.2.2.2.1, x.2.2.2.2.2.2.2.2.2.2.2)
abbrev ns_rd (x : NjS) (v : RdS) : NjS := (x.1, x.2.1, x.2.2.1, x.2.2.2.1, x.2.2.2.2.1, v, x.2.2.2.2.2.2.1, x.2.2.2.2.2.2.2.1, x.2.2.2.2.2.2.2.2.1, x.2.2.2.2.2.2.2.2.2.1, x.2.2.2.2.2.2.2.2.2.2.1, x.2.2.2.2.2.2.2.2.2.2.2)
abbrev ns_os (x : NjS) (v : (Nat → Int32)) : NjS := (x.1, x.2.1, x.2.2.1, x.2.2.2.1, x.2.2.2.2.1, x.2.2.2.2.2.1, v, x.2.2.2.2.2.2.2.1, x.2.2.2.2.2.2.2.2.1, x.2.2.2.2.2.2.2.2.2.1, x.2.2.2.2.2.2.2.2.2.2.1, x.2.2.2.2.2.2.2.2.2.2.2)
abbrev ns_fc (x : NjS) (v : (Nat → Int32)) : NjS := (x.1, x.2.1, x.2.2.1, x.2.2.2.1, x.2.2.2.2.1, x.2.2.2.2.2.1, x.2.2.2.2.2.2.1, v, x.2.2.2.2.2.2.2.2.1, x.2.2.2.2.2.2.2.2.2.1, x.2.2.2.2.2.2.2.2.2.2.1, x.2.2.2.2.2.2.2.2.2.2.2)
abbrev ns_lf (x : NjS) (v : Int32) : NjS := (x.1, x.2.1, x.2.2.1, x.2.2.2.1, x.2.2.2.2.1, x.2.2.2.2.2.1, x.2.2.2.2.2.2.1, x.2.2.2.2.2.2.2.1, v, x.2.2.2.2.2.2.2.2.2.1, x.2.2.2.2.2.2.2.2.2.2.1, x.2.2.2.2.2.2.2.2.2.2.2)
abbrev ns_an (x : NjS) (v : Int32) : NjS := (x.1, x.2.1, x.2.2.1, x.2.2.2.1, x.2.2.2.2.1, x.2.2.2.2.2.1, x.2.2.2.2.2.2.1, x.2.2.2.2.2.2.2.1, x.2.2.2.2.2.2.2.2.1, v, x.2.2.2.2.2.2.2.2.2.2.1, x.2.2.2.2.2.2.2.2.2.2.2)
abbrev ns_up (x : NjS) (v : Int64) : NjS := (x.1, x.2.1, x.2.2.1, x.2.2.2.1, x.2.2.2.2.1, x.2.2.2.2.2.1, x.2.2.2.2.2.2.1, x.2.2.2.2.2.2.2.1, x.2.2.2.2.2.2.2.2.1, x.2.2.2.2.2.2.2.2.2.1, v, x.2.2.2.2.2.2.2.2.2.2.2)
abbrev ns_lo (x : NjS) (v : Int64) : NjS := (x.1, x.2.1, x.2.2.1, x.2.2.2.1, x.2.2.2.2.1, x.2.2.2.2.2.1, x.2.2.2.2.2.2.1, x.2.2.2.2.2.2.2.1, x.2.2.2.2.2.2.2.2.1, x.2.2.2.2.2.2.2.2.2.1, x.2.2.2.2.2.2.2.2.2.2.1, v)
abbrev MdS : Type := (Nat → Int32) × Int32 × (Nat → Int32) × (Nat → Int32) × (Nat → Int32) × (Nat → Int32) × (Nat → Int32) × Int32 × Int64 × Int64 × Int32 × (Nat → Int32) × Int32 × Int32 × Int32 × Int32 × (Nat → Int32) × Int32 × (Nat → Int32) × Int32 × (Nat → Int32) × (Nat → Int32) × (Nat → Int64)
abbrev md_row (x : MdS) : (Nat → Int32) := x.1
abbrev md_children (x : MdS) : Int32 := x.2.1
abbrev md_kinds (x : MdS) : (Nat → Int32) := x.2.2.1
abbrev md_sizes (x : MdS) : (Nat → Int32) := x.2.2.2.1
abbrev md_items (x : MdS) : (Nat → Int32) := x.2.2.2.2.1
abbrev md_lengths (x : MdS) : (Nat → Int32) := x.2.2.2.2.2.1
abbrev md_bytes (x : MdS) : (Nat → Int32) := x.2.2.2.2.2.2.1
abbrev md_asked (x : MdS) : Int32 := x.2.2.2.2.2.2.2.1
abbrev md_upper (x : MdS) : Int64 := x.2.2.2.2.2.2.2.2.1
abbrev md_lower (x : MdS) : Int64 := x.2.2.2.2.2.2.2.2.2.1
abbrev md_finding (x : MdS) : Int32 := x.2.2.2.2.2.2.2.2.2.2.1
abbrev md_findings (x : MdS) : (Nat → Int32) := x.2.2.2.2.2.2.2.2.2.2.2.1
abbrev md_from (x : MdS) : Int32 := x.2.2.2.2.2.2.2.2.2.2.2.2.1
abbrev md_place (x : MdS) : Int32 := x.2.2.2.2.2.2.2.2.2.2.2.2.2.1
abbrev md_stop (x : MdS) : Int32 := x.2.2.2.2.2.2.2.2.2.2.2.2.2.2.1
abbrev md_readRule (x : MdS) : Int32 := x.2.2.2.2.2.2.2.2.2.2.2.2.2.2.2.1
abbrev md_readChildren (x : MdS) : (Nat → Int32) := x.2.2.2.2.2.2.2.2.2.2.2.2.2.2.2.2.1
abbrev md_readMany (x : MdS) : Int32 := x.2.2.2.2.2.2.2.2.2.2.2.2.2.2.2.2.2.1
abbrev md_readLikes (x : MdS) : (Nat → Int32) := x.2.2.2.2.2.2.2.2.2.2.2.2.2.2.2.2.2.2.1
abbrev md_readPairs (x : MdS) : Int32 := x.2.2.2.2.2.2.2.2.2.2.2.2.2.2.2.2.2.2.2.1
abbrev md_outOf (x : MdS) : (Nat → Int32) := x.2.2.2.2.2.2.2.2.2.2.2.2.2.2.2.2.2.2.2.2.1
abbrev md_longer (x : MdS) : (Nat → Int32) := x.2.2.2.2.2.2.2.2.2.2.2.2.2.2.2.2.2.2.2.2.2.1
abbrev md_ways (x : MdS) : (Nat → Int64) := x.2.2.2.2.2.2.2.2.2.2.2.2.2.2.2.2.2.2.2.2.2.2
abbrev ms_row (x : MdS) (v : (Nat → Int32)) : MdS := (v, x.2.1, x.2.2.1, x.2.2.2.1, x.2.2.2.2.1, x.2.2.2.2.2.1, x.2.2.2.2.2.2.1, x.2.2.2.2.2.2.2.1, x.2.2.2.2.2.2.2.2.1, x.2.2.2.2.2.2.2.2.2.1, x.2.2.2.2.2.2.2.2.2.2.1, x.2.2.2.2.2.2.2.2.2.2.2.1, x.2.2.2.2.2.2.2.2.2.2.2.2.1, x.2.2.2.2.2.2.2.2.2.2.2.2.2.1, x.2.2.2.2.2.2.2.2.2.2.2.2.2.2.1, x.2.2.2.2.2.2.2.2.2.2.2.2.2.2.2.1, x.2.2.2.2.2.2.2.2.2.2.2.2.2.2.2.2.1, x.2.2.2.2.2.2.2.2.2.2.2.2.2.2.2.2.2.1, x.2.2.2.2.2.2.2.2.2.2.2.2.2.2.2.2.2.2.1, x.2.2.2.2.2.2.2.2.2.2.2.2.2.2.2.2.2.2.2.1, x.2.2.2.2.2.2.2.2.2.2.2.2.2.2.2.2.2.2.2.2.1, x.2.2.2.2.2.2.2.2.2.2.2.2.2.2.2.2.2.2.2.2.2.1, x.2.2.2.2.2.2.2.2.2.2.2.2.2.2.2.2.2.2.2.2.2.2)
abbrev ms_children (x : MdS) (v : Int32) : MdS := (x.1, v, x.2.2.1, x.2.2.2.1, x.2.2.2.2.1, x.2.2.2.2.2.1, x.2.2.2.2.2.2.1, x.2.2.2.2.2.2.2.1, x.2.2.2.2.2.2.2.2.1, x.2.2.2.2.2.2.2.2.2.1, x.2.2.2.2.2.2.2.2.2.2.1, x.2.2.2.2.2.2.2.2.2.2.2.1, x.2.2.2.2.2.2.2.2.2.2.2.2.1, x.2.2.2.2.2.2.2.2.2.2.2.2.2.1, x.2.2.2.2.2.2.2.2.2.2.2.2.2.2.1, x.2.2.2.2.2.2.2.2.2.2.2.2.2.2.2.1, x.2.2.2.2.2.2.2.2.2.2.2.2.2.2.2.2.1, x.2.2.2.2.2.2.2.2.2.2.2.2.2.2.2.2.2.1, x.2.2.2.2.2.2.2.2.2.2.2.2.2.2.2.2.2.2.1, x.2.2.2.2.2.2.2.2.2.2.2.2.2.2.2.2.2.2.2.1, x.2.2.2.2.2.2.2.2.2.2.2.2.2.2.2.2.2.2.2.2.1, x.2.2.2.2.2.2.2.2.2.2.2.2.2.2.2.2.2.2.2.2.2.1, x.2.2.2.2.2.2.2.2.2.2.2.2.2.2.2.2.2.2.2.2.2.2)
abbrev ms_kinds (x : MdS) (v : (Nat → Int32)) : MdS := (x.1, x.2.1, v, x.2.2.2.1, x.2.2.2.2.1, x.2.2.2.2.2.1, x.2.2.2.2.2.2.1, x.2.2.2.2.2.2.2.1, x.2.2.2.2.2.2.2.2.1, x.2.2.2.2.2.2.2.2.2.1, x.2.2.2.2.2.2.2.2.2.2.1, x.2.2.2.2.2.2.2.2.2.2.2.1, x.2.2.2.2.2.2.2.2.2.2.2.2.1, x.2.2.2.2.2.2.2.2.2.2.2.2.2.1, x.2.2.2.2.2.2.2.2.2.2.2.2.2.2.1, x.2.2.2.2.2.2.2.2.2.2.2.2.2.2.2.1, x.2.2.2.2.2.2.2.2.2.2.2.2.2.2.2.2.1, x.2.2.2.2.2.2.2.2.2.2.2.2.2.2.2.2.2.1, x.2.2.2.2.2.2.2.2.2.2.2.2.2.2.2.2.2.2.1, x.2.2.2.2.2.2.2.2.2.2.2.2.2.2.2.2.2.2.2.1, x.2.2.2.2.2.2.2.2.2.2.2.2.2.2.2.2.2.2.2.2.1, x.2.2.2.2.2.2.2.2.2.2.2.2.2.2.2.2.2.2.2.2.2.1, x.2.2.2.2.2.2.2.2.2.2.2.2.2.2.2.2.2.2.2.2.2.2)
abbrev ms_sizes (x : MdS) (v : (Nat → Int32)) : MdS := (x.1, x.2.1, x.2.2.1, v, x.2.2.2.2.1, x.2.2.2.2.2.1, x.2.2.2.2.2.2.1, x.2.2.2.2.2.2.2.1, x.2.2.2.2.2.2.2.2.1, x.2.2.2.2.2.2.2.2.2.1, x.2.2.2.2.2.2.2.2.2.2.1, x.2.2.2.2.2.2.2.2.2.2.2.1, x.2.2.2.2.2.2.2.2.2.2.2.2.1, x.2.2.2.2.2.2.2.2.2.2.2.2.2.1, x.2.2.2.2.2.2.2.2.2.2.2.2.2.2.1, x.2.2.2.2.2.2.2.2.2.2.2.2.2.2.2.1, x.2.2.2.2.2.2.2.2.2.2.2.2.2.2.2.2.1, x.2.2.2.2.2.2.2.2.2.2.2.2.2.2.2.2.2.1, x.2.2.2.2.2.2.2.2.2.2.2.2.2.2.2.2.2.2.1, x.2.2.2.2.2.2.2.2.2.2.2.2.2.2.2.2.2.2.2.1, x.2.2.2.2.2.2.2.2.2.2.2.2.2.2.2.2.2.2.2.2.1, x.2.2.2.2.2.2.2.2.2.2.2.2.2.2.2.2.2.2.2.2.2.1, x.2.2.2.2.2.2.2.2.2.2.2.2.2.2.2.2.2.2.2.2.2.2)
abbrev ms_items (x : MdS) (v : (Nat → Int32)) : MdS := (x.1, x.2.1, x.2.2.1, x.2.2.2.1, v, x.2.2.2.2.2.1, x.2.2.2.2.2.2.1, x.2.2.2.2.2.2.2.1, x.2.2.2.2.2.2.2.2.1, x.2.2.2.2.2.2.2.2.2.1, x.2.2.2.2.2.2.2.2.2.2.1, x.2.2.2.2.2.2.2.2.2.2.2.1, x.2.2.2.2.2.2.2.2.2.2.2.2.1, x.2.2.2.2.2.2.2.2.2.2.2.2.2.1, x.2.2.2.2.2.2.2.2.2.2.2.2.2.2.1, x.2.2.2.2.2.2.2.2.2.2.2.2.2.2.2.1, x.2.2.2.2.2.2.2.2.2.2.2.2.2.2.2.2.1, x.2.2.2.2.2.2.2.2.2.2.2.2.2.2.2.2.2.1, x.2.2.2.2.2.2.2.2.2.2.2.2.2.2.2.2.2.2.1, x.2.2.2.2.2.2.2.2.2.2.2.2.2.2.2.2.2.2.2.1, x.2.2.2.2.2.2.2.2.2.2.2.2.2.2.2.2.2.2.2.2.1, x.2.2.2.2.2.2.2.2.2.2.2.2.2.2.2.2.2.2.2.2.2.1, x.2.2.2.2.2.2.2.2.2.2.2.2.2.2.2.2.2.2.2.2.2.2)
abbrev ms_lengths (x : MdS) (v : (Nat → Int32)) : MdS := (x.1, x.2.1, x.2.2.1, x.2.2.2.1, x.2.2.2.2.1, v, x.2.2.2.2.2.2.1, x.2.2.2.2.2.2.2.1, x.2.2.2.2.2.2.2.2.1, x.2.2.2.2.2.2.2.2.2.1, x.2.2.2.2.2.2.2.2.2.2.1, x.2.2.2.2.2.2.2.2.2.2.2.1, x.2.2.2.2.2.2.2.2.2.2.2.2.1, x.2.2.2.2.2.2.2.2.2.2.2.2.2.1, x.2.2.2.2.2.2.2.2.2.2.2.2.2.2.1, x.2.2.2.2.2.2.2.2.2.2.2.2.2.2.2.1, x.2.2.2.2.2.2.2.2.2.2.2.2.2.2.2.2.1, x.2.2.2.2.2.2.2.2.2.2.2.2.2.2.2.2.2.1, x.2.2.2.2.2.2.2.2.2.2.2.2.2.2.2.2.2.2.1, x.2.2.2.2.2.2.2.2.2.2.2.2.2.2.2.2.2.2.2.1, x.2.2.2.2.2.2.2.2.2.2.2.2.2.2.2.2.2.2.2.2.1, x.2.2.2.2.2.2.2.2.2.2.2.2.2.2.2.2.2.2.2.2.2.1, x.2.2.2.2.2.2.2.2.2.2.2.2.2.2.2.2.2.2.2.2.2.2)
abbrev ms_bytes (x : MdS) (v : (Nat → Int32)) : MdS := (x.1, x.2.1, x.2.2.1, x.2.2.2.1, x.2.2.2.2.1, x.2.2.2.2.2.1, v, x.2.2.2.2.2.2.2.1, x.2.2.2.2.2.2.2.2.1, x.2.2.2.2.2.2.2.2.2.1, x.2.2.2.2.2.2.2.2.2.2.1, x.2.2.2.2.2.2.2.2.2.2.2.1, x.2.2.2.2.2.2.2.2.2.2.2.2.1, x.2.2.2.2.2.2.2.2.2.2.2.2.2.1, x.2.2.2.2.2.2.2.2.2.2.2.2.2.2.1, x.2.2.2.2.2.2.2.2.2.2.2.2.2.2.2.1, x.2.2.2.2.2.2.2.2.2.2.2.2.2.2.2.2.1, x.2.2.2.2.2.2.2.2.2.2.2.2.2.2.2.2.2.1, x.2.2.2.2.2.2.2.2.2.2.2.2.2.2.2.2.2.2.1, x.2.2.2.2.2.2.2.2.2.2.2.2.2.2.2.2.2.2.2.1, x.2.2.2.2.2.2.2.2.2.2.2.2.2.2.2.2.2.2.2.2.1, x.2.2.2.2.2.2.2.2.2.2.2.2.2.2.2.2.2.2.2.2.2.1, x.2.2.2.2.2.2.2.2.2.2.2.2.2.2.2.2.2.2.2.2.2.2)
abbrev ms_asked (x : MdS) (v : Int32) : MdS := (x.1, x.2.1, x.2.2.1, x.2.2.2.1, x.2.2.2.2.1, x.2.2.2.2.2.1, x.2.2.2.2.2.2.1, v, x.2.2.2.2.2.2.2.2.1, x.2.2.2.2.2.2.2.2.2.1, x.2.2.2.2.2.2.2.2.2.2.1, x.2.2.2.2.2.2.2.2.2.2.2.1, x.2.2.2.2.2.2.2.2.2.2.2.2.1, x.2.2.2.2.2.2.2.2.2.2.2.2.2.1, x.2.2.2.2.2.2.2.2.2.2.2.2.2.2.1, x.2.2.2.2.2.2.2.2.2.2.2.2.2.2.2.1, x.2.2.2.2.2.2.2.2.2.2.2.2.2.2.2.2.1, x.2.2.2.2.2.2.2.2.2.2.2.2.2.2.2.2.2.1, x.2.2.2.2.2.2.2.2.2.2.2.2.2.2.2.2.2.2.1, x.2.2.2.2.2.2.2.2.2.2.2.2.2.2.2.2.2.2.2.1, x.2.2.2.2.2.2.2.2.2.2.2.2.2.2.2.2.2.2.2.2.1, x.2.2.2.2.2.2.2.2.2.2.2.2.2.2.2.2.2.2.2.2.2.1, x.2.2.2.2.2.2.2.2.2.2.2.2.2.2.2.2.2.2.2.2.2.2)
abbrev ms_upper (x : MdS) (v : Int64) : MdS := (x.1, x.2.1, x.2.2.1, x.2.2.2.1, x.2.2.2.2.1, x.2.2.2.2.2.1, x.2.2.2.2.2.2.1, x.2.2.2.2.2.2.2.1, v, x.2.2.2.2.2.2.2.2.2.1, x.2.2.2.2.2.2.2.2.2.2.1, x.2.2.2.2.2.2.2.2.2.2.2.1, x.2.2.2.2.2.2.2.2.2.2.2.2.1, x.2.2.2.2.2.2.2.2.2.2.2.2.2.1, x.2.2.2.2.2.2.2.2.2.2.2.2.2.2.1, x.2.2.2.2.2.2.2.2.2.2.2.2.2.2.2.1, x.2.2.2.2.2.2.2.2.2.2.2.2.2.2.2.2.1, x.2.2.2.2.2.2.2.2.2.2.2.2.2.2.2.2.2.1, x.2.2.2.2.2.2.2.2.2.2.2.2.2.2.2.2.2.2.1, x.2.2.2.2.2.2.2.2.2.2.2.2.2.2.2.2.2.2.2.1, x.2.2.2.2.2.2.2.2.2.2.2.2.2.2.2.2.2.2.2.2.1, x.2.2.2.2.2.2.2.2.2.2.2.2.2.2.2.2.2.2.2.2.2.1, x.2.2.2.2.2.2.2.2.2.2.2.2.2.2.2.2.2.2.2.2.2.2)
abbrev ms_lower (x : MdS) (v : Int64) : MdS := (x.1, x.2.1, x.2.2.1, x.2.2.2.1, x.2.2.2.2.1, x.2.2.2.2.2.1, x.2.2.2.2.2.2.1, x.2.2.2.2.2.2.2.1, x.2.2.2.2.2.2.2.2.1, v, x.2.2.2.2.2.2.2.2.2.2.1, x.2.2.2.2.2.2.2.2.2.2.2.1, x.2.2.2.2.2.2.2.2.2.2.2.2.1, x.2.2.2.2.2.2.2.2.2.2.2.2.2.1, x.2.2.2.2.2.2.2.2.2.2.2.2.2.2.1, x.2.2.2.2.2.2.2.2.2.2.2.2.2.2.2.1, x.2.2.2.2.2.2.2.2.2.2.2.2.2.2.2.2.1, x.2.2.2.2.2.2.2.2.2.2.2.2.2.2.2.2.2.1, x.2.2.2.2.2.2.2.2.2.2.2.2.2.2.2.2.2.2.1, x.2.2.2.2.2.2.2.2.2.2.2.2.2.2.2.2.2.2.2.1, x.2.2.2.2.2.2.2.2.2.2.2.2.2.2.2.2.2.2.2.2.1, x.2.2.2.2.2.2.2.2.2.2.2.2.2.2.2.2.2.2.2.2.2.1, x.2.2.2.2.2.2.2.2.2.2.2.2.2.2.2.2.2.2.2.2.2.2)
abbrev ms_finding (x : MdS) (v : Int32) : MdS := (x.1, x.2.1, x.2.2.1, x.2.2.2.1, x.2.2.2.2.1, x.2.2.2.2.2.1, x.2.2.2.2.2.2.1, x.2.2.2.2.2.2.2.1, x.2.2.2.2.2.2.2.2.1, x.2.2.2.2.2.2.2.2.2.1, v, x.2.2.2.2.2.2.2.2.2.2.2.1, x.2.2.2.2.2.2.2.2.2.2.2.2.1, x.2.2.2.2.2.2.2.2.2.2.2.2.2.1, x.2.2.2.2.2.2.2.2.2.2.2.2.2.2.1, x.2.2.2.2.2.2.2.2.2.2.2.2.2.2.2.1, x.2.2.2.2.2.2.2.2.2.2.2.2.2.2.2.2.1, x.2.2.2.2.2.2.2.2.2.2.2.2.2.2.2.2.2.1, x.2.2.2.2.2.2.2.2.2.2.2.2.2.2.2.2.2.2.1, x.2.2.2.2.2.2.2.2.2.2.2.2.2.2.2.2.2.2.2.1, x.2.2.2.2.2.2.2.2.2.2.2.2.2.2.2.2.2.2.2.2.1, x.2.2.2.2.2.2.2.2.2.2.2.2.2.2.2.2.2.2.2.2.2.1, x.2.2.2.2.2.2.2.2.2.2.2.2.2.2.2.2.2.2.2.2.2.2)
abbrev ms_findings (x : MdS) (v : (Nat → Int32)) : MdS := (x.1, x.2.1, x.2.2.1, x.2.2.2.1, x.2.2.2.2.1, x.2.2.2.2.2.1, x.2.2.2.2.2.2.1, x.2.2.2.2.2.2.2.1, x.2.2.2.2.2.2.2.2.1, x.2.2.2.2.2.2.2.2.2.1, x.2.2.2.2.2.2.2.2.2.2.1, v, x.2.2.2.2.2.2.2.2.2.2.2.2.1, x.2.2.2.2.2.2.2.2.2.2.2.2.2.1, x.2.2.2.2.2.2.2.2.2.2.2.2.2.2.1, x.2.2.2.2.2.2.2.2.2.2.2.2.2.2.2.1, x.2.2.2.2.2.2.2.2.2.2.2.2.2.2.2.2.1, x.2.2.2.2.2.2.2.2.2.2.2.2.2.2.2.2.2.1, x.2.2.2.2.2.2.2.2.2.2.2.2.2.2.2.2.2.2.1, x.2.2.2.2.2.2.2.2.2.2.2.2.2.2.2.2.2.2.2.1, x.2.2.2.2.2.2.2.2.2.2.2.2.2.2.2.2.2.2.2.2.1, x.2.2.2.2.2.2.2.2.2.2.2.2.2.2.2.2.2.2.2.2.2.1, x.2.2.2.2.2.2.2.2.2.2.2.2.2.2.2.2.2.2.2.2.2.2)
abbrev ms_from (x : MdS) (v : Int32) : MdS := (x.1, x.2.1, x.2.2.1, x.2.2.2.1, x.2.2.2.2.1, x.2.2.2.2.2.1, x.2.2.2.2.2.2.1, x.2.2.2.2.2.2.2.1, x.2.2.2.2.2.2.2.2.1, x.2.2.2.2.2.2.2.2.2.1, x.2.2.2.2.2.2.2.2.2.2.1, x.2.2.2.2.2.2.2.2.2.2.2.1, v, x.2.2.2.2.2.2.2.2.2.2.2.2.2.1, x.2.2.2.2.2.2.2.2.2.2.2.2.2.2.1, x.2.2.2.2.2.2.2.2.2.2.2.2.2.2.2.1, x.2.2.2.2.2.2.2.2.2.2.2.2.2.2.2.2.1, x.2.2.2.2.2.2.2.2.2.2.2.2.2.2.2.2.2.1, x.2.2.2.2.2.2.2.2.2.2.2.2.2.2.2.2.2.2.1, x.2.2.2.2.2.2.2.2.2.2.2.2.2.2.2.2.2.2.2.1, x.2.2.2.2.2.2.2.2.2.2.2.2.2.2.2.2.2.2.2.2.1, x.2.2.2.2.2.2.2.2.2.2.2.2.2.2.2.2.2.2.2.2.2.1, x.2.2.2.2.2.2.2.2.2.2.2.2.2.2.2.2.2.2.2.2.2.2)
abbrev ms_place (x : MdS) (v : Int32) : MdS := (x.1, x.2.1, x.2.2.1, x.2.2.2.1, x.2.2.2.2.1, x.2.2.2.2.2.1, x.2.2.2.2.2.2.1, x.2.2.2.2.2.2.2.1, x.2.2.2.2.2.2.2.2.1, x.2.2.2.2.2.2.2.2.2.1, x.2.2.2.2.2.2.2.2.2.2.1, x.2.2.2.2.2.2.2.2.2.2.2.1, x.2.2.2.2.2.2.2.2.2.2.2.2.1, v, x.2.2.2.2.2.2.2.2.2.2.2.2.2.2.1, x.2.2.2.2.2.2.2.2.2.2.2.2.2.2.2.1, x.2.2.2.2.2.2.2.2.2.2.2.2.2.2.2.2.1, x.2.2.2.2.2.2.2.2.2.2.2.2.2.2.2.2.2.1, x.2.2.2.2.2.2.2.2.2.2.2.2.2.2.2.2.2.2.1, x.2.2.2.2.2.2.2.2.2.2.2.2.2.2.2.2.2.2.2.1, x.2.2.2.2.2.2.2.2.2.2.2.2.2.2.2.2.2.2.2.2.1, x.2.2.2.2.2.2.2.2.2.2.2.2.2.2.2.2.2.2.2.2.2.1, x.2.2.2.2.2.2.2.2.2.2.2.2.2.2.2.2.2.2.2.2.2.2)
abbrev ms_stop (x : MdS) (v : Int32) : MdS := (x.1, x.2.1, x.2.2.1, x.2.2.2.1, x.2.2.2.2.1, x.2.2.2.2.2.1, x.2.2.2.2.2.2.1, x.2.2.2.2.2.2.2.1, x.2.2.2.2.2.2.2.2.1, x.2.2.2.2.2.2.2.2.2.1, x.2.2.2.2.2.2.2.2.2.2.1, x.2.2.2.2.2.2.2.2.2.2.2.1, x.2.2.2.2.2.2.2.2.2.2.2.2.1, x.2.2.2.2.2.2.2.2.2.2.2.2.2.1, v, x.2.2.2.2.2.2.2.2.2.2.2.2.2.2.2.1, x.2.2.2.2.2.2.2.2.2.2.2.2.2.2.2.2.1, x.2.2.2.2.2.2.2.2.2.2.2.2.2.2.2.2.2.1, x.2.2.2.2.2.2.2.2.2.2.2.2.2.2.2.2.2.2.1, x.2.2.2.2.2.2.2.2.2.2.2.2.2.2.2.2.2.2.2.1, x.2.2.2.2.2.2.2.2.2.2.2.2.2.2.2.2.2.2.2.2.1, x.2.2.2.2.2.2.2.2.2.2.2.2.2.2.2.2.2.2.2.2.2.1, x.2.2.2.2.2.2.2.2.2.2.2.2.2.2.2.2.2.2.2.2.2.2)
abbrev ms_readRule (x : MdS) (v : Int32) : MdS := (x.1, x.2.1, x.2.2.1, x.2.2.2.1, x.2.2.2.2.1, x.2.2.2.2.2.1, x.2.2.2.2.2.2.1, x.2.2.2.2.2.2.2.1, x.2.2.2.2.2.2.2.2.1, x.2.2.2.2.2.2.2.2.2.1, x.2.2.2.2.2.2.2.2.2.2.1, x.2.2.2.2.2.2.2.2.2.2.2.1, x.2.2.2.2.2.2.2.2.2.2.2.2.1, x.2.2.2.2.2.2.2.2.2.2.2.2.2.1, x.2.2.2.2.2.2.2.2.2.2.2.2.2.2.1, v, x.2.2.2.2.2.2.2.2.2.2.2.2.2.2.2.2.1, x.2.2.2.2.2.2.2.2.2.2.2.2.2.2.2.2.2.1, x.2.2.2.2.2.2.2.2.2.2.2.2.2.2.2.2.2.2.1, x.2.2.2.2.2.2.2.2.2.2.2.2.2.2.2.2.2.2.2.1, x.2.2.2.2.2.2.2.2.2.2.2.2.2.2.2.2.2.2.2.2.1, x.2.2.2.2.2.2.2.2.2.2.2.2.2.2.2.2.2.2.2.2.2.1, x.2.2.2.2.2.2.2.2.2.2.2.2.2.2.2.2.2.2.2.2.2.2)
abbrev ms_readChildren (x : MdS) (v : (Nat → Int32)) : MdS := (x.1, x.2.1, x.2.2.1, x.2.2.2.1, x.2.2.2.2.1, x.2.2.2.2.2.1, x.2.2.2.2.2.2.1, x.2.2.2.2.2.2.2.1, x.2.2.2.2.2.2.2.2.1, x.2.2.2.2.2.2.2.2.2.1, x.2.2.2.2.2.2.2.2.2.2.1, x.2.2.2.2.2.2.2.2.2.2.2.1, x.2.2.2.2.2.2.2.2.2.2.2.2.1, x.2.2.2.2.2.2.2.2.2.2.2.2.2.1, x.2.2.2.2.2.2.2.2.2.2.2.2.2.2.1, x.2.2.2.2.2.2.2.2.2.2.2.2.2.2.2.1, v, x.2.2.2.2.2.2.2.2.2.2.2.2.2.2.2.2.2.1, x.2.2.2.2.2.2.2.2.2.2.2.2.2.2.2.2.2.2.1, x.2.2.2.2.2.2.2.2.2.2.2.2.2.2.2.2.2.2.2.1, x.2.2.2.2.2.2.2.2.2.2.2.2.2.2.2.2.2.2.2.2.1, x.2.2.2.2.2.2.2.2.2.2.2.2.2.2.2.2.2.2.2.2.2.1, x.2.2.2.2.2.2.2.2.2.2.2.2.2.2.2.2.2.2.2.2.2.2)
abbrev ms_readMany (x : MdS) (v : Int32) : MdS := (x.1, x.2.1, x.2.2.1, x.2.2.2.1, x.2.2.2.2.1, x.2.2.2.2.2.1, x.2.2.2.2.2.2.1, x.2.2.2.2.2.2.2.1, x.2.2.2.2.2.2.2.2.1, x.2.2.2.2.2.2.2.2.2.1, x.2.2.2.2.2.2.2.2.2.2.1, x.2.2.2.2.2.2.2.2.2.2.2.1, x.2.2.2.2.2.2.2.2.2.2.2.2.1, x.2.2.2.2.2.2.2.2.2.2.2.2.2.1, x.2.2.2.2.2.2.2.2.2.2.2.2.2.2.1, x.2.2.2.2.2.2.2.2.2.2.2.2.2.2.2.1, x.2.2.2.2.2.2.2.2.2.2.2.2.2.2.2.2.1, v, x.2.2.2.2.2.2.2.2.2.2.2.2.2.2.2.2.2.2.1, x.2.2.2.2.2.2.2.2.2.2.2.2.2.2.2.2.2.2.2.1, x.2.2.2.2.2.2.2.2.2.2.2.2.2.2.2.2.2.2.2.2.1, x.2.2.2.2.2.2.2.2.2.2.2.2.2.2.2.2.2.2.2.2.2.1, x.2.2.2.2.2.2.2.2.2.2.2.2.2.2.2.2.2.2.2.2.2.2)
abbrev ms_readLikes (x : MdS) (v : (Nat → Int32)) : MdS := (x.1, x.2.1, x.2.2.1, x.2.2.2.1, x.2.2.2.2.1, x.2.2.2.2.2.1, x.2.2.2.2.2.2.1, x.2.2.2.2.2.2.2.1, x.2.2.2.2.2.2.2.2.1, x.2.2.2.2.2.2.2.2.2.1, x.2.2.2.2.2.2.2.2.2.2.1, x.2.2.2.2.2.2.2.2.2.2.2.1, x.2.2.2.2.2.2.2.2.2.2.2.2.1, x.2.2.2.2.2.2.2.2.2.2.2.2.2.1, x.2.2.2.2.2.2.2.2.2.2.2.2.2.2.1, x.2.2.2.2.2.2.2.2.2.2.2.2.2.2.2.1, x.2.2.2.2.2.2.2.2.2.2.2.2.2.2.2.2.1, x.2.2.2.2.2.2.2.2.2.2.2.2.2.2.2.2.2.1, v, x.2.2.2.2.2.2.2.2.2.2.2.2.2.2.2.2.2.2.2.1, x.2.2.2.2.2.2.2.2.2.2.2.2.2.2.2.2.2.2.2.2.1, x.2.2.2.2.2.2.2.2.2.2.2.2.2.2.2.2.2.2.2.2.2.1, x.2.2.2.2.2.2.2.2.2.2.2.2.2.2.2.2.2.2.2.2.2.2)
abbrev ms_readPairs (x : MdS) (v : Int32) : MdS := (x.1, x.2.1, x.2.2.1, x.2.2.2.1, x.2.2.2.2.1, x.2.2.2.2.2.1, x.2.2.2.2.2.2.1, x.2.2.2.2.2.2.2.1, x.2.2.2.2.2.2.2.2.1, x.2.2.2.2.2.2.2.2.2.1, x.2.2.2.2.2.2.2.2.2.2.1, x.2.2.2.2.2.2.2.2.2.2.2.1, x.2.2.2.2.2.2.2.2.2.2.2.2.1, x.2.2.2.2.2.2.2.2.2.2.2.2.2.1, x.2.2.2.2.2.2.2.2.2.2.2.2.2.2.1, x.2.2.2.2.2.2.2.2.2.2.2.2.2.2.2.1, x.2.2.2.2.2.2.2.2.2.2.2.2.2.2.2.2.1, x.2.2.2.2.2.2.2.2.2.2.2.2.2.2.2.2.2.1, x.2.2.2.2.2.2.2.2.2.2.2.2.2.2.2.2.2.2.1, v, x.2.2.2.2.2.2.2.2.2.2.2.2.2.2.2.2.2.2.2.2.1, x.2.2.2.2.2.2.2.2.2.2.2.2.2.2.2.2.2.2.2.2.2.1, x.2.2.2.2.2.2.2.2.2.2.2.2.2.2.2.2.2.2.2.2.2.2)
abbrev ms_outOf (x : MdS) (v : (Nat → Int32)) : MdS := (x.1, x.2.1, x.2.2.1, x.2.2.2.1, x.2.2.2.2.1, x.2.2.2.2.2.1, x.2.2.2.2.2.2.1, x.2.2.2.2.2.2.2.1, x.2.2.2.2.2.2.2.2.1, x.2.2.2.2.2.2.2.2.2.1, x.2.2.2.2.2.2.2.2.2.2.1, x.2.2.2.2.2.2.2.2.2.2.2.1, x.2.2.2.2.2.2.2.2.2.2.2.2.1, x.2.2.2.2.2.2.2.2.2.2.2.2.2.1, x.2.2.2.2.2.2.2.2.2.2.2.2.2.2.1, x.2.2.2.2.2.2.2.2.2.2.2.2.2.2.2.1, x.2.2.2.2.2.2.2.2.2.2.2.2.2.2.2.2.1, x.2.2.2.2.2.2.2.2.2.2.2.2.2.2.2.2.2.1, x.2.2.2.2.2.2.2.2.2.2.2.2.2.2.2.2.2.2.1, x.2.2.2.2.2.2.2.2.2.2.2.2.2.2.2.2.2.2.2.1, v, x.2.2.2.2.2.2.2.2.2.2.2.2.2.2.2.2.2.2.2.2.2.1, x.2.2.2.2.2.2.2.2.2.2.2.2.2.2.2.2.2.2.2.2.2.2)
abbrev ms_longer (x : MdS) (v : (Nat → Int32)) : MdS := (x.1, x.2.1, x.2.2.1, x.2.2.2.1, x.2.2.2.2.1, x.2.2.2.2.2.1, x.2.2.2.2.2.2.1, x.2.2.2.2.2.2.2.1, x.2.2.2.2.2.2.2.2.1, x.2.2.2.2.2.2.2.2.2.1, x.2.2.2.2.2.2.2.2.2.2.1, x.2.2.2.2.2.2.2.2.2.2.2.1, x.2.2.2.2.2.2.2.2.2.2.2.2.1, x.2.2.2.2.2.2.2.2.2.2.2.2.2.1, x.2.2.2.2.2.2.2.2.2.2.2.2.2.2.1, x.2.2.2.2.2.2.2.2.2.2.2.2.2.2.2.1, x.2.2.2.2.2.2.2.2.2.2.2.2.2.2.2.2.1, x.2.2.2.2.2.2.2.2.2.2.2.2.2.2.2.2.2.1, x.2.2.2.2.2.2.2.2.2.2.2.2.2.2.2.2.2.2.1, x.2.2.2.2.2.2.2.2.2.2.2.2.2.2.2.2.2.2.2.1, x.2.2.2.2.2.2.2.2.2.2.2.2.2.2.2.2.2.2.2.2.1, v, x.2.2.2.2.2.2.2.2.2.2.2.2.2.2.2.2.2.2.2.2.2.2)
abbrev ms_ways (x : MdS) (v : (Nat → Int64)) : MdS := (x.1, x.2.1, x.2.2.1, x.2.2.2.1, x.2.2.2.2.1, x.2.2.2.2.2.1, x.2.2.2.2.2.2.1, x.2.2.2.2.2.2.2.1, x.2.2.2.2.2.2.2.2.1, x.2.2.2.2.2.2.2.2.2.1, x.2.2.2.2.2.2.2.2.2.2.1, x.2.2.2.2.2.2.2.2.2.2.2.1, x.2.2.2.2.2.2.2.2.2.2.2.2.1, x.2.2.2.2.2.2.2.2.2.2.2.2.2.1, x.2.2.2.2.2.2.2.2.2.2.2.2.2.2.1, x.2.2.2.2.2.2.2.2.2.2.2.2.2.2.2.1, x.2.2.2.2.2.2.2.2.2.2.2.2.2.2.2.2.1, x.2.2.2.2.2.2.2.2.2.2.2.2.2.2.2.2.2.1, x.2.2.2.2.2.2.2.2.2.2.2.2.2.2.2.2.2.2.1, x.2.2.2.2.2.2.2.2.2.2.2.2.2.2.2.2.2.2.2.1, x.2.2.2.2.2.2.2.2.2.2.2.2.2.2.2.2.2.2.2.2.1, x.2.2.2.2.2.2.2.2.2.2.2.2.2.2.2.2.2.2.2.2.2.1, v)
def ra_Row (k : Nat) : Option Nat := some (2 + 2 * k)
def ra_Text (k : Nat) : Option Nat := some (15 + 2 * k)
def ra_Kept (k : Nat) : Option Nat := some (34 + 5 * k)
def rp_Row (r : RowS) : List va_E := [.inr (3, [.ref 1, .int (ro_size r)]),
  .inl (0, 40, .inl (ro_places r))]
theorem at_Row_0 (r : RowS) : (rp_Row r)[0]? = some (.inr (3, [.ref 1, .int (ro_size r)])) := rfl
theorem st_Row_0_1 (r : RowS) (v : Int32) : (rp_Row r).set 0 (.inr (3, [.ref 1, .int (ro_size r)].set 1 (.int v))) = rp_Row (rs_size r v) := rfl
theorem at_Row_1 (r : RowS) : (rp_Row r)[1]? = some (.inl (0, 40, .inl (ro_places r))) := rfl
theorem st_Row_1 (r : RowS) (v : Nat → Int32) : (rp_Row r).set 1 (.inl (0, 40, .inl v)) = rp_Row (rs_places r v) := rfl
def rp_Tex (t : TexS) : List va_E := [.inr (4, [.ref 1, .int (te_size t)]),
  .inl (2, 60, .inl (te_bytes t))]
theorem at_Tex_0 (t : TexS) : (rp_Tex t)[0]? = some (.inr (4, [.ref 1, .int (te_size t)])) := rfl
theorem st_Tex_0_1 (t : TexS) (v : Int32) : (rp_Tex t).set 0 (.inr (4, [.ref 1, .int (te_size t)].set 1 (.int v))) = rp_Tex (ts_size t v) := rfl
theorem at_Tex_1 (t : TexS) : (rp_Tex t)[1]? = some (.inl (2, 60, .inl (te_bytes t))) := rfl
theorem st_Tex_1 (t : TexS) (v : Nat → Int32) : (rp_Tex t).set 1 (.inl (2, 60, .inl v)) = rp_Tex (ts_bytes t v) := rfl
def rp_Club (c : CluS) : List va_E := [.inr (0, [.ref 1, .ref 2, .ref 3, .ref 4, .int (cl_children c), .int (cl_rule c), .int (cl_inn c), .int (cl_tin c), .int (cl_dc c)]),
  .inl (0, 6, .inl (cl_kinds c)),
  .inl (0, 6, .inl (cl_pence c)),
  .inl (0, 6, .inl (cl_liked c)),
  .inl (0, 40, .inl (cl_deeds c))]
theorem at_Club_0 (c : CluS) : (rp_Club c)[0]? = some (.inr (0, [.ref 1, .ref 2, .ref 3, .ref 4, .int (cl_children c), .int (cl_rule c), .int (cl_inn c), .int (cl_tin c), .int (cl_dc c)])) := rfl
theorem st_Club_0_4 (c : CluS) (v : Int32) : (rp_Club c).set 0 (.inr (0, [.ref 1, .ref 2, .ref 3, .ref 4, .int (cl_children c), .int (cl_rule c), .int (cl_inn c), .int (cl_tin c), .int (cl_dc c)].set 4 (.int v))) = rp_Club (cs_children c v) := rfl
theorem st_Club_0_5 (c : CluS) (v : Int32) : (rp_Club c).set 0 (.inr (0, [.ref 1, .ref 2, .ref 3, .ref 4, .int (cl_children c), .int (cl_rule c), .int (cl_inn c), .int (cl_tin c), .int (cl_dc c)].set 5 (.int v))) = rp_Club (cs_rule c v) := rfl
theorem st_Club_0_6 (c : CluS) (v : Int32) : (rp_Club c).set 0 (.inr (0, [.ref 1, .ref 2, .ref 3, .ref 4, .int (cl_children c), .int (cl_rule c), .int (cl_inn c), .int (cl_tin c), .int (cl_dc c)].set 6 (.int v))) = rp_Club (cs_inn c v) := rfl
theorem st_Club_0_7 (c : CluS) (v : Int32) : (rp_Club c).set 0 (.inr (0, [.ref 1, .ref 2, .ref 3, .ref 4, .int (cl_children c), .int (cl_rule c), .int (cl_inn c), .int (cl_tin c), .int (cl_dc c)].set 7 (.int v))) = rp_Club (cs_tin c v) := rfl
theorem st_Club_0_8 (c : CluS) (v : Int32) : (rp_Club c).set 0 (.inr (0, [.ref 1, .ref 2, .ref 3, .ref 4, .int (cl_children c), .int (cl_rule c), .int (cl_inn c), .int (cl_tin c), .int (cl_dc c)].set 8 (.int v))) = rp_Club (cs_dc c v) := rfl
theorem at_Club_1 (c : CluS) : (rp_Club c)[1]? = some (.inl (0, 6, .inl (cl_kinds c))) := rfl
theorem st_Club_1 (c : CluS) (v : Nat → Int32) : (rp_Club c).set 1 (.inl (0, 6, .inl v)) = rp_Club (cs_kinds c v) := rfl
theorem at_Club_2 (c : CluS) : (rp_Club c)[2]? = some (.inl (0, 6, .inl (cl_pence c))) := rfl
theorem st_Club_2 (c : CluS) (v : Nat → Int32) : (rp_Club c).set 2 (.inl (0, 6, .inl v)) = rp_Club (cs_pence c v) := rfl
theorem at_Club_3 (c : CluS) : (rp_Club c)[3]? = some (.inl (0, 6, .inl (cl_liked c))) := rfl
theorem st_Club_3 (c : CluS) (v : Nat → Int32) : (rp_Club c).set 3 (.inl (0, 6, .inl v)) = rp_Club (cs_liked c v) := rfl
theorem at_Club_4 (c : CluS) : (rp_Club c)[4]? = some (.inl (0, 40, .inl (cl_deeds c))) := rfl
theorem st_Club_4 (c : CluS) (v : Nat → Int32) : (rp_Club c).set 4 (.inl (0, 40, .inl v)) = rp_Club (cs_deeds c v) := rfl
def rp_Club2 (c : CluS) (d : CluS) : List va_E := [.inr (0, [.ref 1, .ref 2, .ref 3, .ref 4, .int (cl_children c), .int (cl_rule c), .int (cl_inn c), .int (cl_tin c), .int (cl_dc c)]),
  .inl (0, 6, .inl (cl_kinds c)),
  .inl (0, 6, .inl (cl_pence c)),
  .inl (0, 6, .inl (cl_liked c)),
  .inl (0, 40, .inl (cl_deeds c)),
  .inr (0, [.ref 6, .ref 7, .ref 8, .ref 9, .int (cl_children d), .int (cl_rule d), .int (cl_inn d), .int (cl_tin d), .int (cl_dc d)]),
  .inl (0, 6, .inl (cl_kinds d)),
  .inl (0, 6, .inl (cl_pence d)),
  .inl (0, 6, .inl (cl_liked d)),
  .inl (0, 40, .inl (cl_deeds d))]
theorem at_Club2_0 (c : CluS) (d : CluS) : (rp_Club2 c d)[0]? = some (.inr (0, [.ref 1, .ref 2, .ref 3, .ref 4, .int (cl_children c), .int (cl_rule c), .int (cl_inn c), .int (cl_tin c), .int (cl_dc c)])) := rfl
theorem st_Club2_0_4 (c : CluS) (d : CluS) (v : Int32) : (rp_Club2 c d).set 0 (.inr (0, [.ref 1, .ref 2, .ref 3, .ref 4, .int (cl_children c), .int (cl_rule c), .int (cl_inn c), .int (cl_tin c), .int (cl_dc c)].set 4 (.int v))) = rp_Club2 (cs_children c v) d := rfl
theorem st_Club2_0_5 (c : CluS) (d : CluS) (v : Int32) : (rp_Club2 c d).set 0 (.inr (0, [.ref 1, .ref 2, .ref 3, .ref 4, .int (cl_children c), .int (cl_rule c), .int (cl_inn c), .int (cl_tin c), .int (cl_dc c)].set 5 (.int v))) = rp_Club2 (cs_rule c v) d := rfl
theorem st_Club2_0_6 (c : CluS) (d : CluS) (v : Int32) : (rp_Club2 c d).set 0 (.inr (0, [.ref 1, .ref 2, .ref 3, .ref 4, .int (cl_children c), .int (cl_rule c), .int (cl_inn c), .int (cl_tin c), .int (cl_dc c)].set 6 (.int v))) = rp_Club2 (cs_inn c v) d := rfl
theorem st_Club2_0_7 (c : CluS) (d : CluS) (v : Int32) : (rp_Club2 c d).set 0 (.inr (0, [.ref 1, .ref 2, .ref 3, .ref 4, .int (cl_children c), .int (cl_rule c), .int (cl_inn c), .int (cl_tin c), .int (cl_dc c)].set 7 (.int v))) = rp_Club2 (cs_tin c v) d := rfl
theorem st_Club2_0_8 (c : CluS) (d : CluS) (v : Int32) : (rp_Club2 c d).set 0 (.inr (0, [.ref 1, .ref 2, .ref 3, .ref 4, .int (cl_children c), .int (cl_rule c), .int (cl_inn c), .int (cl_tin c), .int (cl_dc c)].set 8 (.int v))) = rp_Club2 (cs_dc c v) d := rfl
theorem at_Club2_1 (c : CluS) (d : CluS) : (rp_Club2 c d)[1]? = some (.inl (0, 6, .inl (cl_kinds c))) := rfl
theorem st_Club2_1 (c : CluS) (d : CluS) (v : Nat → Int32) : (rp_Club2 c d).set 1 (.inl (0, 6, .inl v)) = rp_Club2 (cs_kinds c v) d := rfl
theorem at_Club2_2 (c : CluS) (d : CluS) : (rp_Club2 c d)[2]? = some (.inl (0, 6, .inl (cl_pence c))) := rfl
theorem st_Club2_2 (c : CluS) (d : CluS) (v : Nat → Int32) : (rp_Club2 c d).set 2 (.inl (0, 6, .inl v)) = rp_Club2 (cs_pence c v) d := rfl
theorem at_Club2_3 (c : CluS) (d : CluS) : (rp_Club2 c d)[3]? = some (.inl (0, 6, .inl (cl_liked c))) := rfl
theorem st_Club2_3 (c : CluS) (d : CluS) (v : Nat → Int32) : (rp_Club2 c d).set 3 (.inl (0, 6, .inl v)) = rp_Club2 (cs_liked c v) d := rfl
theorem at_Club2_4 (c : CluS) (d : CluS) : (rp_Club2 c d)[4]? = some (.inl (0, 40, .inl (cl_deeds c))) := rfl
theorem st_Club2_4 (c : CluS) (d : CluS) (v : Nat → Int32) : (rp_Club2 c d).set 4 (.inl (0, 40, .inl v)) = rp_Club2 (cs_deeds c v) d := rfl
theorem at_Club2_5 (c : CluS) (d : CluS) : (rp_Club2 c d)[5]? = some (.inr (0, [.ref 6, .ref 7, .ref 8, .ref 9, .int (cl_children d), .int (cl_rule d), .int (cl_inn d), .int (cl_tin d), .int (cl_dc d)])) := rfl
theorem st_Club2_5_4 (c : CluS) (d : CluS) (v : Int32) : (rp_Club2 c d).set 5 (.inr (0, [.ref 6, .ref 7, .ref 8, .ref 9, .int (cl_children d), .int (cl_rule d), .int (cl_inn d), .int (cl_tin d), .int (cl_dc d)].set 4 (.int v))) = rp_Club2 c (cs_children d v) := rfl
theorem st_Club2_5_5 (c : CluS) (d : CluS) (v : Int32) : (rp_Club2 c d).set 5 (.inr (0, [.ref 6, .ref 7, .ref 8, .ref 9, .int (cl_children d), .int (cl_rule d), .int (cl_inn d), .int (cl_tin d), .int (cl_dc d)].set 5 (.int v))) = rp_Club2 c (cs_rule d v) := rfl
theorem st_Club2_5_6 (c : CluS) (d : CluS) (v : Int32) : (rp_Club2 c d).set 5 (.inr (0, [.ref 6, .ref 7, .ref 8, .ref 9, .int (cl_children d), .int (cl_rule d), .int (cl_inn d), .int (cl_tin d), .int (cl_dc d)].set 6 (.int v))) = rp_Club2 c (cs_inn d v) := rfl
theorem st_Club2_5_7 (c : CluS) (d : CluS) (v : Int32) : (rp_Club2 c d).set 5 (.inr (0, [.ref 6, .ref 7, .ref 8, .ref 9, .int (cl_children d), .int (cl_rule d), .int (cl_inn d), .int (cl_tin d), .int (cl_dc d)].set 7 (.int v))) = rp_Club2 c (cs_tin d v) := rfl
theorem st_Club2_5_8 (c : CluS) (d : CluS) (v : Int32) : (rp_Club2 c d).set 5 (.inr (0, [.ref 6, .ref 7, .ref 8, .ref 9, .int (cl_children d), .int (cl_rule d), .int (cl_inn d), .int (cl_tin d), .int (cl_dc d)].set 8 (.int v))) = rp_Club2 c (cs_dc d v) := rfl
theorem at_Club2_6 (c : CluS) (d : CluS) : (rp_Club2 c d)[6]? = some (.inl (0, 6, .inl (cl_kinds d))) := rfl
theorem st_Club2_6 (c : CluS) (d : CluS) (v : Nat → Int32) : (rp_Club2 c d).set 6 (.inl (0, 6, .inl v)) = rp_Club2 c (cs_kinds d v) := rfl
theorem at_Club2_7 (c : CluS) (d : CluS) : (rp_Club2 c d)[7]? = some (.inl (0, 6, .inl (cl_pence d))) := rfl
theorem st_Club2_7 (c : CluS) (d : CluS) (v : Nat → Int32) : (rp_Club2 c d).set 7 (.inl (0, 6, .inl v)) = rp_Club2 c (cs_pence d v) := rfl
theorem at_Club2_8 (c : CluS) (d : CluS) : (rp_Club2 c d)[8]? = some (.inl (0, 6, .inl (cl_liked d))) := rfl
theorem st_Club2_8 (c : CluS) (d : CluS) (v : Nat → Int32) : (rp_Club2 c d).set 8 (.inl (0, 6, .inl v)) = rp_Club2 c (cs_liked d v) := rfl
theorem at_Club2_9 (c : CluS) (d : CluS) : (rp_Club2 c d)[9]? = some (.inl (0, 40, .inl (cl_deeds d))) := rfl
theorem st_Club2_9 (c : CluS) (d : CluS) (v : Nat → Int32) : (rp_Club2 c d).set 9 (.inl (0, 40, .inl v)) = rp_Club2 c (cs_deeds d v) := rfl
def rp_Ord (o : (Nat → Int32)) (c : CluS) : List va_E := [.inr (1, [.ref 1]),
  .inl (0, 64, .inl o),
  .inr (0, [.ref 3, .ref 4, .ref 5, .ref 6, .int (cl_children c), .int (cl_rule c), .int (cl_inn c), .int (cl_tin c), .int (cl_dc c)]),
  .inl (0, 6, .inl (cl_kinds c)),
  .inl (0, 6, .inl (cl_pence c)),
  .inl (0, 6, .inl (cl_liked c)),
  .inl (0, 40, .inl (cl_deeds c))]
theorem at_Ord_0 (o : (Nat → Int32)) (c : CluS) : (rp_Ord o c)[0]? = some (.inr (1, [.ref 1])) := rfl
theorem at_Ord_1 (o : (Nat → Int32)) (c : CluS) : (rp_Ord o c)[1]? = some (.inl (0, 64, .inl o)) := rfl
theorem st_Ord_1 (o : (Nat → Int32)) (c : CluS) (v : Nat → Int32) : (rp_Ord o c).set 1 (.inl (0, 64, .inl v)) = rp_Ord v c := rfl
theorem at_Ord_2 (o : (Nat → Int32)) (c : CluS) : (rp_Ord o c)[2]? = some (.inr (0, [.ref 3, .ref 4, .ref 5, .ref 6, .int (cl_children c), .int (cl_rule c), .int (cl_inn c), .int (cl_tin c), .int (cl_dc c)])) := rfl
theorem st_Ord_2_4 (o : (Nat → Int32)) (c : CluS) (v : Int32) : (rp_Ord o c).set 2 (.inr (0, [.ref 3, .ref 4, .ref 5, .ref 6, .int (cl_children c), .int (cl_rule c), .int (cl_inn c), .int (cl_tin c), .int (cl_dc c)].set 4 (.int v))) = rp_Ord o (cs_children c v) := rfl
theorem st_Ord_2_5 (o : (Nat → Int32)) (c : CluS) (v : Int32) : (rp_Ord o c).set 2 (.inr (0, [.ref 3, .ref 4, .ref 5, .ref 6, .int (cl_children c), .int (cl_rule c), .int (cl_inn c), .int (cl_tin c), .int (cl_dc c)].set 5 (.int v))) = rp_Ord o (cs_rule c v) := rfl
theorem st_Ord_2_6 (o : (Nat → Int32)) (c : CluS) (v : Int32) : (rp_Ord o c).set 2 (.inr (0, [.ref 3, .ref 4, .ref 5, .ref 6, .int (cl_children c), .int (cl_rule c), .int (cl_inn c), .int (cl_tin c), .int (cl_dc c)].set 6 (.int v))) = rp_Ord o (cs_inn c v) := rfl
theorem st_Ord_2_7 (o : (Nat → Int32)) (c : CluS) (v : Int32) : (rp_Ord o c).set 2 (.inr (0, [.ref 3, .ref 4, .ref 5, .ref 6, .int (cl_children c), .int (cl_rule c), .int (cl_inn c), .int (cl_tin c), .int (cl_dc c)].set 7 (.int v))) = rp_Ord o (cs_tin c v) := rfl
theorem st_Ord_2_8 (o : (Nat → Int32)) (c : CluS) (v : Int32) : (rp_Ord o c).set 2 (.inr (0, [.ref 3, .ref 4, .ref 5, .ref 6, .int (cl_children c), .int (cl_rule c), .int (cl_inn c), .int (cl_tin c), .int (cl_dc c)].set 8 (.int v))) = rp_Ord o (cs_dc c v) := rfl
theorem at_Ord_3 (o : (Nat → Int32)) (c : CluS) : (rp_Ord o c)[3]? = some (.inl (0, 6, .inl (cl_kinds c))) := rfl
theorem st_Ord_3 (o : (Nat → Int32)) (c : CluS) (v : Nat → Int32) : (rp_Ord o c).set 3 (.inl (0, 6, .inl v)) = rp_Ord o (cs_kinds c v) := rfl
theorem at_Ord_4 (o : (Nat → Int32)) (c : CluS) : (rp_Ord o c)[4]? = some (.inl (0, 6, .inl (cl_pence c))) := rfl
theorem st_Ord_4 (o : (Nat → Int32)) (c : CluS) (v : Nat → Int32) : (rp_Ord o c).set 4 (.inl (0, 6, .inl v)) = rp_Ord o (cs_pence c v) := rfl
theorem at_Ord_5 (o : (Nat → Int32)) (c : CluS) : (rp_Ord o c)[5]? = some (.inl (0, 6, .inl (cl_liked c))) := rfl
theorem st_Ord_5 (o : (Nat → Int32)) (c : CluS) (v : Nat → Int32) : (rp_Ord o c).set 5 (.inl (0, 6, .inl v)) = rp_Ord o (cs_liked c v) := rfl
theorem at_Ord_6 (o : (Nat → Int32)) (c : CluS) : (rp_Ord o c)[6]? = some (.inl (0, 40, .inl (cl_deeds c))) := rfl
theorem st_Ord_6 (o : (Nat → Int32)) (c : CluS) (v : Nat → Int32) : (rp_Ord o c).set 6 (.inl (0, 40, .inl v)) = rp_Ord o (cs_deeds c v) := rfl
def rp_OrdR (o : (Nat → Int32)) (c : CluS) (r : RowS) : List va_E := [.inr (1, [.ref 1]),
  .inl (0, 64, .inl o),
  .inr (0, [.ref 3, .ref 4, .ref 5, .ref 6, .int (cl_children c), .int (cl_rule c), .int (cl_inn c), .int (cl_tin c), .int (cl_dc c)]),
  .inl (0, 6, .inl (cl_kinds c)),
  .inl (0, 6, .inl (cl_pence c)),
  .inl (0, 6, .inl (cl_liked c)),
  .inl (0, 40, .inl (cl_deeds c)),
  .inr (3, [.ref 8, .int (ro_size r)]),
  .inl (0, 40, .inl (ro_places r))]
theorem at_OrdR_0 (o : (Nat → Int32)) (c : CluS) (r : RowS) : (rp_OrdR o c r)[0]? = some (.inr (1, [.ref 1])) := rfl
theorem at_OrdR_1 (o : (Nat → Int32)) (c : CluS) (r : RowS) : (rp_OrdR o c r)[1]? = some (.inl (0, 64, .inl o)) := rfl
theorem st_OrdR_1 (o : (Nat → Int32)) (c : CluS) (r : RowS) (v : Nat → Int32) : (rp_OrdR o c r).set 1 (.inl (0, 64, .inl v)) = rp_OrdR v c r := rfl
theorem at_OrdR_2 (o : (Nat → Int32)) (c : CluS) (r : RowS) : (rp_OrdR o c r)[2]? = some (.inr (0, [.ref 3, .ref 4, .ref 5, .ref 6, .int (cl_children c), .int (cl_rule c), .int (cl_inn c), .int (cl_tin c), .int (cl_dc c)])) := rfl
theorem st_OrdR_2_4 (o : (Nat → Int32)) (c : CluS) (r : RowS) (v : Int32) : (rp_OrdR o c r).set 2 (.inr (0, [.ref 3, .ref 4, .ref 5, .ref 6, .int (cl_children c), .int (cl_rule c), .int (cl_inn c), .int (cl_tin c), .int (cl_dc c)].set 4 (.int v))) = rp_OrdR o (cs_children c v) r := rfl
theorem st_OrdR_2_5 (o : (Nat → Int32)) (c : CluS) (r : RowS) (v : Int32) : (rp_OrdR o c r).set 2 (.inr (0, [.ref 3, .ref 4, .ref 5, .ref 6, .int (cl_children c), .int (cl_rule c), .int (cl_inn c), .int (cl_tin c), .int (cl_dc c)].set 5 (.int v))) = rp_OrdR o (cs_rule c v) r := rfl
theorem st_OrdR_2_6 (o : (Nat → Int32)) (c : CluS) (r : RowS) (v : Int32) : (rp_OrdR o c r).set 2 (.inr (0, [.ref 3, .ref 4, .ref 5, .ref 6, .int (cl_children c), .int (cl_rule c), .int (cl_inn c), .int (cl_tin c), .int (cl_dc c)].set 6 (.int v))) = rp_OrdR o (cs_inn c v) r := rfl
theorem st_OrdR_2_7 (o : (Nat → Int32)) (c : CluS) (r : RowS) (v : Int32) : (rp_OrdR o c r).set 2 (.inr (0, [.ref 3, .ref 4, .ref 5, .ref 6, .int (cl_children c), .int (cl_rule c), .int (cl_inn c), .int (cl_tin c), .int (cl_dc c)].set 7 (.int v))) = rp_OrdR o (cs_tin c v) r := rfl
theorem st_OrdR_2_8 (o : (Nat → Int32)) (c : CluS) (r : RowS) (v : Int32) : (rp_OrdR o c r).set 2 (.inr (0, [.ref 3, .ref 4, .ref 5, .ref 6, .int (cl_children c), .int (cl_rule c), .int (cl_inn c), .int (cl_tin c), .int (cl_dc c)].set 8 (.int v))) = rp_OrdR o (cs_dc c v) r := rfl
theorem at_OrdR_3 (o : (Nat → Int32)) (c : CluS) (r : RowS) : (rp_OrdR o c r)[3]? = some (.inl (0, 6, .inl (cl_kinds c))) := rfl
theorem st_OrdR_3 (o : (Nat → Int32)) (c : CluS) (r : RowS) (v : Nat → Int32) : (rp_OrdR o c r).set 3 (.inl (0, 6, .inl v)) = rp_OrdR o (cs_kinds c v) r := rfl
theorem at_OrdR_4 (o : (Nat → Int32)) (c : CluS) (r : RowS) : (rp_OrdR o c r)[4]? = some (.inl (0, 6, .inl (cl_pence c))) := rfl
theorem st_OrdR_4 (o : (Nat → Int32)) (c : CluS) (r : RowS) (v : Nat → Int32) : (rp_OrdR o c r).set 4 (.inl (0, 6, .inl v)) = rp_OrdR o (cs_pence c v) r := rfl
theorem at_OrdR_5 (o : (Nat → Int32)) (c : CluS) (r : RowS) : (rp_OrdR o c r)[5]? = some (.inl (0, 6, .inl (cl_liked c))) := rfl
theorem st_OrdR_5 (o : (Nat → Int32)) (c : CluS) (r : RowS) (v : Nat → Int32) : (rp_OrdR o c r).set 5 (.inl (0, 6, .inl v)) = rp_OrdR o (cs_liked c v) r := rfl
theorem at_OrdR_6 (o : (Nat → Int32)) (c : CluS) (r : RowS) : (rp_OrdR o c r)[6]? = some (.inl (0, 40, .inl (cl_deeds c))) := rfl
theorem st_OrdR_6 (o : (Nat → Int32)) (c : CluS) (r : RowS) (v : Nat → Int32) : (rp_OrdR o c r).set 6 (.inl (0, 40, .inl v)) = rp_OrdR o (cs_deeds c v) r := rfl
theorem at_OrdR_7 (o : (Nat → Int32)) (c : CluS) (r : RowS) : (rp_OrdR o c r)[7]? = some (.inr (3, [.ref 8, .int (ro_size r)])) := rfl
theorem st_OrdR_7_1 (o : (Nat → Int32)) (c : CluS) (r : RowS) (v : Int32) : (rp_OrdR o c r).set 7 (.inr (3, [.ref 8, .int (ro_size r)].set 1 (.int v))) = rp_OrdR o c (rs_size r v) := rfl
theorem at_OrdR_8 (o : (Nat → Int32)) (c : CluS) (r : RowS) : (rp_OrdR o c r)[8]? = some (.inl (0, 40, .inl (ro_places r))) := rfl
theorem st_OrdR_8 (o : (Nat → Int32)) (c : CluS) (r : RowS) (v : Nat → Int32) : (rp_OrdR o c r).set 8 (.inl (0, 40, .inl v)) = rp_OrdR o c (rs_places r v) := rfl
def rp_Rdr (d : RdS) (t : TexS) (c : CluS) : List va_E := [.inr (2, [.int (rd_place d), .int (rd_pairs d)]),
  .inr (4, [.ref 2, .int (te_size t)]),
  .inl (2, 60, .inl (te_bytes t)),
  .inr (0, [.ref 4, .ref 5, .ref 6, .ref 7, .int (cl_children c), .int (cl_rule c), .int (cl_inn c), .int (cl_tin c), .int (cl_dc c)]),
  .inl (0, 6, .inl (cl_kinds c)),
  .inl (0, 6, .inl (cl_pence c)),
  .inl (0, 6, .inl (cl_liked c)),
  .inl (0, 40, .inl (cl_deeds c))]
theorem at_Rdr_0 (d : RdS) (t : TexS) (c : CluS) : (rp_Rdr d t c)[0]? = some (.inr (2, [.int (rd_place d), .int (rd_pairs d)])) := rfl
theorem st_Rdr_0_0 (d : RdS) (t : TexS) (c : CluS) (v : Int32) : (rp_Rdr d t c).set 0 (.inr (2, [.int (rd_place d), .int (rd_pairs d)].set 0 (.int v))) = rp_Rdr (ds_place d v) t c := rfl
theorem st_Rdr_0_1 (d : RdS) (t : TexS) (c : CluS) (v : Int32) : (rp_Rdr d t c).set 0 (.inr (2, [.int (rd_place d), .int (rd_pairs d)].set 1 (.int v))) = rp_Rdr (ds_pairs d v) t c := rfl
theorem at_Rdr_1 (d : RdS) (t : TexS) (c : CluS) : (rp_Rdr d t c)[1]? = some (.inr (4, [.ref 2, .int (te_size t)])) := rfl
theorem st_Rdr_1_1 (d : RdS) (t : TexS) (c : CluS) (v : Int32) : (rp_Rdr d t c).set 1 (.inr (4, [.ref 2, .int (te_size t)].set 1 (.int v))) = rp_Rdr d (ts_size t v) c := rfl
theorem at_Rdr_2 (d : RdS) (t : TexS) (c : CluS) : (rp_Rdr d t c)[2]? = some (.inl (2, 60, .inl (te_bytes t))) := rfl
theorem st_Rdr_2 (d : RdS) (t : TexS) (c : CluS) (v : Nat → Int32) : (rp_Rdr d t c).set 2 (.inl (2, 60, .inl v)) = rp_Rdr d (ts_bytes t v) c := rfl
theorem at_Rdr_3 (d : RdS) (t : TexS) (c : CluS) : (rp_Rdr d t c)[3]? = some (.inr (0, [.ref 4, .ref 5, .ref 6, .ref 7, .int (cl_children c), .int (cl_rule c), .int (cl_inn c), .int (cl_tin c), .int (cl_dc c)])) := rfl
theorem st_Rdr_3_4 (d : RdS) (t : TexS) (c : CluS) (v : Int32) : (rp_Rdr d t c).set 3 (.inr (0, [.ref 4, .ref 5, .ref 6, .ref 7, .int (cl_children c), .int (cl_rule c), .int (cl_inn c), .int (cl_tin c), .int (cl_dc c)].set 4 (.int v))) = rp_Rdr d t (cs_children c v) := rfl
theorem st_Rdr_3_5 (d : RdS) (t : TexS) (c : CluS) (v : Int32) : (rp_Rdr d t c).set 3 (.inr (0, [.ref 4, .ref 5, .ref 6, .ref 7, .int (cl_children c), .int (cl_rule c), .int (cl_inn c), .int (cl_tin c), .int (cl_dc c)].set 5 (.int v))) = rp_Rdr d t (cs_rule c v) := rfl
theorem st_Rdr_3_6 (d : RdS) (t : TexS) (c : CluS) (v : Int32) : (rp_Rdr d t c).set 3 (.inr (0, [.ref 4, .ref 5, .ref 6, .ref 7, .int (cl_children c), .int (cl_rule c), .int (cl_inn c), .int (cl_tin c), .int (cl_dc c)].set 6 (.int v))) = rp_Rdr d t (cs_inn c v) := rfl
theorem st_Rdr_3_7 (d : RdS) (t : TexS) (c : CluS) (v : Int32) : (rp_Rdr d t c).set 3 (.inr (0, [.ref 4, .ref 5, .ref 6, .ref 7, .int (cl_children c), .int (cl_rule c), .int (cl_inn c), .int (cl_tin c), .int (cl_dc c)].set 7 (.int v))) = rp_Rdr d t (cs_tin c v) := rfl
theorem st_Rdr_3_8 (d : RdS) (t : TexS) (c : CluS) (v : Int32) : (rp_Rdr d t c).set 3 (.inr (0, [.ref 4, .ref 5, .ref 6, .ref 7, .int (cl_children c), .int (cl_rule c), .int (cl_inn c), .int (cl_tin c), .int (cl_dc c)].set 8 (.int v))) = rp_Rdr d t (cs_dc c v) := rfl
theorem at_Rdr_4 (d : RdS) (t : TexS) (c : CluS) : (rp_Rdr d t c)[4]? = some (.inl (0, 6, .inl (cl_kinds c))) := rfl
theorem st_Rdr_4 (d : RdS) (t : TexS) (c : CluS) (v : Nat → Int32) : (rp_Rdr d t c).set 4 (.inl (0, 6, .inl v)) = rp_Rdr d t (cs_kinds c v) := rfl
theorem at_Rdr_5 (d : RdS) (t : TexS) (c : CluS) : (rp_Rdr d t c)[5]? = some (.inl (0, 6, .inl (cl_pence c))) := rfl
theorem st_Rdr_5 (d : RdS) (t : TexS) (c : CluS) (v : Nat → Int32) : (rp_Rdr d t c).set 5 (.inl (0, 6, .inl v)) = rp_Rdr d t (cs_pence c v) := rfl
theorem at_Rdr_6 (d : RdS) (t : TexS) (c : CluS) : (rp_Rdr d t c)[6]? = some (.inl (0, 6, .inl (cl_liked c))) := rfl
theorem st_Rdr_6 (d : RdS) (t : TexS) (c : CluS) (v : Nat → Int32) : (rp_Rdr d t c).set 6 (.inl (0, 6, .inl v)) = rp_Rdr d t (cs_liked c v) := rfl
theorem at_Rdr_7 (d : RdS) (t : TexS) (c : CluS) : (rp_Rdr d t c)[7]? = some (.inl (0, 40, .inl (cl_deeds c))) := rfl
theorem st_Rdr_7 (d : RdS) (t : TexS) (c : CluS) (v : Nat → Int32) : (rp_Rdr d t c).set 7 (.inl (0, 40, .inl v)) = rp_Rdr d t (cs_deeds c v) := rfl
def rp_RoC (r : RowS) (c : CluS) : List va_E := [.inr (3, [.ref 1, .int (ro_size r)]),
  .inl (0, 40, .inl (ro_places r)),
  .inr (0, [.ref 3, .ref 4, .ref 5, .ref 6, .int (cl_children c), .int (cl_rule c), .int (cl_inn c), .int (cl_tin c), .int (cl_dc c)]),
  .inl (0, 6, .inl (cl_kinds c)),
  .inl (0, 6, .inl (cl_pence c)),
  .inl (0, 6, .inl (cl_liked c)),
  .inl (0, 40, .inl (cl_deeds c))]
theorem at_RoC_0 (r : RowS) (c : CluS) : (rp_RoC r c)[0]? = some (.inr (3, [.ref 1, .int (ro_size r)])) := rfl
theorem st_RoC_0_1 (r : RowS) (c : CluS) (v : Int32) : (rp_RoC r c).set 0 (.inr (3, [.ref 1, .int (ro_size r)].set 1 (.int v))) = rp_RoC (rs_size r v) c := rfl
theorem at_RoC_1 (r : RowS) (c : CluS) : (rp_RoC r c)[1]? = some (.inl (0, 40, .inl (ro_places r))) := rfl
theorem st_RoC_1 (r : RowS) (c : CluS) (v : Nat → Int32) : (rp_RoC r c).set 1 (.inl (0, 40, .inl v)) = rp_RoC (rs_places r v) c := rfl
theorem at_RoC_2 (r : RowS) (c : CluS) : (rp_RoC r c)[2]? = some (.inr (0, [.ref 3, .ref 4, .ref 5, .ref 6, .int (cl_children c), .int (cl_rule c), .int (cl_inn c), .int (cl_tin c), .int (cl_dc c)])) := rfl
theorem st_RoC_2_4 (r : RowS) (c : CluS) (v : Int32) : (rp_RoC r c).set 2 (.inr (0, [.ref 3, .ref 4, .ref 5, .ref 6, .int (cl_children c), .int (cl_rule c), .int (cl_inn c), .int (cl_tin c), .int (cl_dc c)].set 4 (.int v))) = rp_RoC r (cs_children c v) := rfl
theorem st_RoC_2_5 (r : RowS) (c : CluS) (v : Int32) : (rp_RoC r c).set 2 (.inr (0, [.ref 3, .ref 4, .ref 5, .ref 6, .int (cl_children c), .int (cl_rule c), .int (cl_inn c), .int (cl_tin c), .int (cl_dc c)].set 5 (.int v))) = rp_RoC r (cs_rule c v) := rfl
theorem st_RoC_2_6 (r : RowS) (c : CluS) (v : Int32) : (rp_RoC r c).set 2 (.inr (0, [.ref 3, .ref 4, .ref 5, .ref 6, .int (cl_children c), .int (cl_rule c), .int (cl_inn c), .int (cl_tin c), .int (cl_dc c)].set 6 (.int v))) = rp_RoC r (cs_inn c v) := rfl
theorem st_RoC_2_7 (r : RowS) (c : CluS) (v : Int32) : (rp_RoC r c).set 2 (.inr (0, [.ref 3, .ref 4, .ref 5, .ref 6, .int (cl_children c), .int (cl_rule c), .int (cl_inn c), .int (cl_tin c), .int (cl_dc c)].set 7 (.int v))) = rp_RoC r (cs_tin c v) := rfl
theorem st_RoC_2_8 (r : RowS) (c : CluS) (v : Int32) : (rp_RoC r c).set 2 (.inr (0, [.ref 3, .ref 4, .ref 5, .ref 6, .int (cl_children c), .int (cl_rule c), .int (cl_inn c), .int (cl_tin c), .int (cl_dc c)].set 8 (.int v))) = rp_RoC r (cs_dc c v) := rfl
theorem at_RoC_3 (r : RowS) (c : CluS) : (rp_RoC r c)[3]? = some (.inl (0, 6, .inl (cl_kinds c))) := rfl
theorem st_RoC_3 (r : RowS) (c : CluS) (v : Nat → Int32) : (rp_RoC r c).set 3 (.inl (0, 6, .inl v)) = rp_RoC r (cs_kinds c v) := rfl
theorem at_RoC_4 (r : RowS) (c : CluS) : (rp_RoC r c)[4]? = some (.inl (0, 6, .inl (cl_pence c))) := rfl
theorem st_RoC_4 (r : RowS) (c : CluS) (v : Nat → Int32) : (rp_RoC r c).set 4 (.inl (0, 6, .inl v)) = rp_RoC r (cs_pence c v) := rfl
theorem at_RoC_5 (r : RowS) (c : CluS) : (rp_RoC r c)[5]? = some (.inl (0, 6, .inl (cl_liked c))) := rfl
theorem st_RoC_5 (r : RowS) (c : CluS) (v : Nat → Int32) : (rp_RoC r c).set 5 (.inl (0, 6, .inl v)) = rp_RoC r (cs_liked c v) := rfl
theorem at_RoC_6 (r : RowS) (c : CluS) : (rp_RoC r c)[6]? = some (.inl (0, 40, .inl (cl_deeds c))) := rfl
theorem st_RoC_6 (r : RowS) (c : CluS) (v : Nat → Int32) : (rp_RoC r c).set 6 (.inl (0, 40, .inl v)) = rp_RoC r (cs_deeds c v) := rfl
def rp_Nj (s : NjS) : List va_E := [.inr (5, [.ref 1, .ref 14, .ref 23, .ref 28, .ref 33, .ref 49, .ref 50, .ref 52, .int (nj_lf s), .int (nj_an s), .long (nj_up s), .long (nj_lo s)]),
  .inl (3, 6, .inr (.inr (.inr (.inr ra_Row)))),
  .inr (3, [.ref 3, .int (ro_size ((nj_rows s) 0))]),
  .inl (0, 40, .inl (ro_places ((nj_rows s) 0))),
  .inr (3, [.ref 5, .int (ro_size ((nj_rows s) 1))]),
  .inl (0, 40, .inl (ro_places ((nj_rows s) 1))),
  .inr (3, [.ref 7, .int (ro_size ((nj_rows s) 2))]),
  .inl (0, 40, .inl (ro_places ((nj_rows s) 2))),
  .inr (3, [.ref 9, .int (ro_size ((nj_rows s) 3))]),
  .inl (0, 40, .inl (ro_places ((nj_rows s) 3))),
  .inr (3, [.ref 11, .int (ro_size ((nj_rows s) 4))]),
  .inl (0, 40, .inl (ro_places ((nj_rows s) 4))),
  .inr (3, [.ref 13, .int (ro_size ((nj_rows s) 5))]),
  .inl (0, 40, .inl (ro_places ((nj_rows s) 5))),
  .inl (4, 4, .inr (.inr (.inr (.inr ra_Text)))),
  .inr (4, [.ref 16, .int (te_size ((nj_texts s) 0))]),
  .inl (2, 60, .inl (te_bytes ((nj_texts s) 0))),
  .inr (4, [.ref 18, .int (te_size ((nj_texts s) 1))]),
  .inl (2, 60, .inl (te_bytes ((nj_texts s) 1))),
  .inr (4, [.ref 20, .int (te_size ((nj_texts s) 2))]),
  .inl (2, 60, .inl (te_bytes ((nj_texts s) 2))),
  .inr (4, [.ref 22, .int (te_size ((nj_texts s) 3))]),
  .inl (2, 60, .inl (te_bytes ((nj_texts s) 3))),
  .inr (0, [.ref 24, .ref 25, .ref 26, .ref 27, .int (cl_children (nj_club s)), .int (cl_rule (nj_club s)), .int (cl_inn (nj_club s)), .int (cl_tin (nj_club s)), .int (cl_dc (nj_club s))]),
  .inl (0, 6, .inl (cl_kinds (nj_club s))),
  .inl (0, 6, .inl (cl_pence (nj_club s))),
  .inl (0, 6, .inl (cl_liked (nj_club s))),
  .inl (0, 40, .inl (cl_deeds (nj_club s))),
  .inr (0, [.ref 29, .ref 30, .ref 31, .ref 32, .int (cl_children (nj_draft s)), .int (cl_rule (nj_draft s)), .int (cl_inn (nj_draft s)), .int (cl_tin (nj_draft s)), .int (cl_dc (nj_draft s))]),
  .inl (0, 6, .inl (cl_kinds (nj_draft s))),
  .inl (0, 6, .inl (cl_pence (nj_draft s))),
  .inl (0, 6, .inl (cl_liked (nj_draft s))),
  .inl (0, 40, .inl (cl_deeds (nj_draft s))),
  .inl (5, 3, .inr (.inr (.inr (.inr ra_Kept)))),
  .inr (0, [.ref 35, .ref 36, .ref 37, .ref 38, .int (cl_children ((nj_kept s) 0)), .int (cl_rule ((nj_kept s) 0)), .int (cl_inn ((nj_kept s) 0)), .int (cl_tin ((nj_kept s) 0)), .int (cl_dc ((nj_kept s) 0))]),
  .inl (0, 6, .inl (cl_kinds ((nj_kept s) 0))),
  .inl (0, 6, .inl (cl_pence ((nj_kept s) 0))),
  .inl (0, 6, .inl (cl_liked ((nj_kept s) 0))),
  .inl (0, 40, .inl (cl_deeds ((nj_kept s) 0))),
  .inr (0, [.ref 40, .ref 41, .ref 42, .ref 43, .int (cl_children ((nj_kept s) 1)), .int (cl_rule ((nj_kept s) 1)), .int (cl_inn ((nj_kept s) 1)), .int (cl_tin ((nj_kept s) 1)), .int (cl_dc ((nj_kept s) 1))]),
  .inl (0, 6, .inl (cl_kinds ((nj_kept s) 1))),
  .inl (0, 6, .inl (cl_pence ((nj_kept s) 1))),
  .inl (0, 6, .inl (cl_liked ((nj_kept s) 1))),
  .inl (0, 40, .inl (cl_deeds ((nj_kept s) 1))),
  .inr (0, [.ref 45, .ref 46, .ref 47, .ref 48, .int (cl_children ((nj_kept s) 2)), .int (cl_rule ((nj_kept s) 2)), .int (cl_inn ((nj_kept s) 2)), .int (cl_tin ((nj_kept s) 2)), .int (cl_dc ((nj_kept s) 2))]),
  .inl (0, 6, .inl (cl_kinds ((nj_kept s) 2))),
  .inl (0, 6, .inl (cl_pence ((nj_kept s) 2))),
  .inl (0, 6, .inl (cl_liked ((nj_kept s) 2))),
  .inl (0, 40, .inl (cl_deeds ((nj_kept s) 2))),
  .inr (2, [.int (rd_place (nj_rd s)), .int (rd_pairs (nj_rd s))]),
  .inr (1, [.ref 51]),
  .inl (0, 64, .inl (nj_os s)),
  .inl (0, 6, .inl (nj_fc s))]
theorem at_Nj_0 (s : NjS) : (rp_Nj s)[0]? = some (.inr (5, [.ref 1, .ref 14, .ref 23, .ref 28, .ref 33, .ref 49, .ref 50, .ref 52, .int (nj_lf s), .int (nj_an s), .long (nj_up s), .long (nj_lo s)])) := rfl
theorem st_Nj_0_8 (s : NjS) (v : Int32) : (rp_Nj s).set 0 (.inr (5, [.ref 1, .ref 14, .ref 23, .ref 28, .ref 33, .ref 49, .ref 50, .ref 52, .int (nj_lf s), .int (nj_an s), .long (nj_up s), .long (nj_lo s)].set 8 (.int v))) = rp_Nj (ns_lf s v) := rfl
theorem st_Nj_0_9 (s : NjS) (v : Int32) : (rp_Nj s).set 0 (.inr (5, [.ref 1, .ref 14, .ref 23, .ref 28, .ref 33, .ref 49, .ref 50, .ref 52, .int (nj_lf s), .int (nj_an s), .long (nj_up s), .long (nj_lo s)].set 9 (.int v))) = rp_Nj (ns_an s v) := rfl
theorem st_Nj_0_10 (s : NjS) (v : Int64) : (rp_Nj s).set 0 (.inr (5, [.ref 1, .ref 14, .ref 23, .ref 28, .ref 33, .ref 49, .ref 50, .ref 52, .int (nj_lf s), .int (nj_an s), .long (nj_up s), .long (nj_lo s)].set 10 (.long v))) = rp_Nj (ns_up s v) := rfl
theorem st_Nj_0_11 (s : NjS) (v : Int64) : (rp_Nj s).set 0 (.inr (5, [.ref 1, .ref 14, .ref 23, .ref 28, .ref 33, .ref 49, .ref 50, .ref 52, .int (nj_lf s), .int (nj_an s), .long (nj_up s), .long (nj_lo s)].set 11 (.long v))) = rp_Nj (ns_lo s v) := rfl
theorem at_Nj_1 (s : NjS) : (rp_Nj s)[1]? = some (.inl (3, 6, .inr (.inr (.inr (.inr ra_Row))))) := rfl
theorem at_Nj_14 (s : NjS) : (rp_Nj s)[14]? = some (.inl (4, 4, .inr (.inr (.inr (.inr ra_Text))))) := rfl
theorem at_Nj_23 (s : NjS) : (rp_Nj s)[23]? = some (.inr (0, [.ref 24, .ref 25, .ref 26, .ref 27, .int (cl_children (nj_club s)), .int (cl_rule (nj_club s)), .int (cl_inn (nj_club s)), .int (cl_tin (nj_club s)), .int (cl_dc (nj_club s))])) := rfl
theorem st_Nj_23_4 (s : NjS) (v : Int32) : (rp_Nj s).set 23 (.inr (0, [.ref 24, .ref 25, .ref 26, .ref 27, .int (cl_children (nj_club s)), .int (cl_rule (nj_club s)), .int (cl_inn (nj_club s)), .int (cl_tin (nj_club s)), .int (cl_dc (nj_club s))].set 4 (.int v))) = rp_Nj (ns_club s (cs_children (nj_club s) v)) := rfl
theorem st_Nj_23_5 (s : NjS) (v : Int32) : (rp_Nj s).set 23 (.inr (0, [.ref 24, .ref 25, .ref 26, .ref 27, .int (cl_children (nj_club s)), .int (cl_rule (nj_club s)), .int (cl_inn (nj_club s)), .int (cl_tin (nj_club s)), .int (cl_dc (nj_club s))].set 5 (.int v))) = rp_Nj (ns_club s (cs_rule (nj_club s) v)) := rfl
theorem st_Nj_23_6 (s : NjS) (v : Int32) : (rp_Nj s).set 23 (.inr (0, [.ref 24, .ref 25, .ref 26, .ref 27, .int (cl_children (nj_club s)), .int (cl_rule (nj_club s)), .int (cl_inn (nj_club s)), .int (cl_tin (nj_club s)), .int (cl_dc (nj_club s))].set 6 (.int v))) = rp_Nj (ns_club s (cs_inn (nj_club s) v)) := rfl
theorem st_Nj_23_7 (s : NjS) (v : Int32) : (rp_Nj s).set 23 (.inr (0, [.ref 24, .ref 25, .ref 26, .ref 27, .int (cl_children (nj_club s)), .int (cl_rule (nj_club s)), .int (cl_inn (nj_club s)), .int (cl_tin (nj_club s)), .int (cl_dc (nj_club s))].set 7 (.int v))) = rp_Nj (ns_club s (cs_tin (nj_club s) v)) := rfl
theorem st_Nj_23_8 (s : NjS) (v : Int32) : (rp_Nj s).set 23 (.inr (0, [.ref 24, .ref 25, .ref 26, .ref 27, .int (cl_children (nj_club s)), .int (cl_rule (nj_club s)), .int (cl_inn (nj_club s)), .int (cl_tin (nj_club s)), .int (cl_dc (nj_club s))].set 8 (.int v))) = rp_Nj (ns_club s (cs_dc (nj_club s) v)) := rfl
theorem at_Nj_24 (s : NjS) : (rp_Nj s)[24]? = some (.inl (0, 6, .inl (cl_kinds (nj_club s)))) := rfl
theorem st_Nj_24 (s : NjS) (v : Nat → Int32) : (rp_Nj s).set 24 (.inl (0, 6, .inl v)) = rp_Nj (ns_club s (cs_kinds (nj_club s) v)) := rfl
theorem at_Nj_25 (s : NjS) : (rp_Nj s)[25]? = some (.inl (0, 6, .inl (cl_pence (nj_club s)))) := rfl
theorem st_Nj_25 (s : NjS) (v : Nat → Int32) : (rp_Nj s).set 25 (.inl (0, 6, .inl v)) = rp_Nj (ns_club s (cs_pence (nj_club s) v)) := rfl
theorem at_Nj_26 (s : NjS) : (rp_Nj s)[26]? = some (.inl (0, 6, .inl (cl_liked (nj_club s)))) := rfl
theorem st_Nj_26 (s : NjS) (v : Nat → Int32) : (rp_Nj s).set 26 (.inl (0, 6, .inl v)) = rp_Nj (ns_club s (cs_liked (nj_club s) v)) := rfl
theorem at_Nj_27 (s : NjS) : (rp_Nj s)[27]? = some (.inl (0, 40, .inl (cl_deeds (nj_club s)))) := rfl
theorem st_Nj_27 (s : NjS) (v : Nat → Int32) : (rp_Nj s).set 27 (.inl (0, 40, .inl v)) = rp_Nj (ns_club s (cs_deeds (nj_club s) v)) := rfl
theorem at_Nj_28 (s : NjS) : (rp_Nj s)[28]? = some (.inr (0, [.ref 29, .ref 30, .ref 31, .ref 32, .int (cl_children (nj_draft s)), .int (cl_rule (nj_draft s)), .int (cl_inn (nj_draft s)), .int (cl_tin (nj_draft s)), .int (cl_dc (nj_draft s))])) := rfl
theorem st_Nj_28_4 (s : NjS) (v : Int32) : (rp_Nj s).set 28 (.inr (0, [.ref 29, .ref 30, .ref 31, .ref 32, .int (cl_children (nj_draft s)), .int (cl_rule (nj_draft s)), .int (cl_inn (nj_draft s)), .int (cl_tin (nj_draft s)), .int (cl_dc (nj_draft s))].set 4 (.int v))) = rp_Nj (ns_draft s (cs_children (nj_draft s) v)) := rfl
theorem st_Nj_28_5 (s : NjS) (v : Int32) : (rp_Nj s).set 28 (.inr (0, [.ref 29, .ref 30, .ref 31, .ref 32, .int (cl_children (nj_draft s)), .int (cl_rule (nj_draft s)), .int (cl_inn (nj_draft s)), .int (cl_tin (nj_draft s)), .int (cl_dc (nj_draft s))].set 5 (.int v))) = rp_Nj (ns_draft s (cs_rule (nj_draft s) v)) := rfl
theorem st_Nj_28_6 (s : NjS) (v : Int32) : (rp_Nj s).set 28 (.inr (0, [.ref 29, .ref 30, .ref 31, .ref 32, .int (cl_children (nj_draft s)), .int (cl_rule (nj_draft s)), .int (cl_inn (nj_draft s)), .int (cl_tin (nj_draft s)), .int (cl_dc (nj_draft s))].set 6 (.int v))) = rp_Nj (ns_draft s (cs_inn (nj_draft s) v)) := rfl
theorem st_Nj_28_7 (s : NjS) (v : Int32) : (rp_Nj s).set 28 (.inr (0, [.ref 29, .ref 30, .ref 31, .ref 32, .int (cl_children (nj_draft s)), .int (cl_rule (nj_draft s)), .int (cl_inn (nj_draft s)), .int (cl_tin (nj_draft s)), .int (cl_dc (nj_draft s))].set 7 (.int v))) = rp_Nj (ns_draft s (cs_tin (nj_draft s) v)) := rfl
theorem st_Nj_28_8 (s : NjS) (v : Int32) : (rp_Nj s).set 28 (.inr (0, [.ref 29, .ref 30, .ref 31, .ref 32, .int (cl_children (nj_draft s)), .int (cl_rule (nj_draft s)), .int (cl_inn (nj_draft s)), .int (cl_tin (nj_draft s)), .int (cl_dc (nj_draft s))].set 8 (.int v))) = rp_Nj (ns_draft s (cs_dc (nj_draft s) v)) := rfl
theorem at_Nj_29 (s : NjS) : (rp_Nj s)[29]? = some (.inl (0, 6, .inl (cl_kinds (nj_draft s)))) := rfl
theorem st_Nj_29 (s : NjS) (v : Nat → Int32) : (rp_Nj s).set 29 (.inl (0, 6, .inl v)) = rp_Nj (ns_draft s (cs_kinds (nj_draft s) v)) := rfl
theorem at_Nj_30 (s : NjS) : (rp_Nj s)[30]? = some (.inl (0, 6, .inl (cl_pence (nj_draft s)))) := rfl
theorem st_Nj_30 (s : NjS) (v : Nat → Int32) : (rp_Nj s).set 30 (.inl (0, 6, .inl v)) = rp_Nj (ns_draft s (cs_pence (nj_draft s) v)) := rfl
theorem at_Nj_31 (s : NjS) : (rp_Nj s)[31]? = some (.inl (0, 6, .inl (cl_liked (nj_draft s)))) := rfl
theorem st_Nj_31 (s : NjS) (v : Nat → Int32) : (rp_Nj s).set 31 (.inl (0, 6, .inl v)) = rp_Nj (ns_draft s (cs_liked (nj_draft s) v)) := rfl
theorem at_Nj_32 (s : NjS) : (rp_Nj s)[32]? = some (.inl (0, 40, .inl (cl_deeds (nj_draft s)))) := rfl
theorem st_Nj_32 (s : NjS) (v : Nat → Int32) : (rp_Nj s).set 32 (.inl (0, 40, .inl v)) = rp_Nj (ns_draft s (cs_deeds (nj_draft s) v)) := rfl
theorem at_Nj_33 (s : NjS) : (rp_Nj s)[33]? = some (.inl (5, 3, .inr (.inr (.inr (.inr ra_Kept))))) := rfl
theorem at_Nj_49 (s : NjS) : (rp_Nj s)[49]? = some (.inr (2, [.int (rd_place (nj_rd s)), .int (rd_pairs (nj_rd s))])) := rfl
theorem st_Nj_49_0 (s : NjS) (v : Int32) : (rp_Nj s).set 49 (.inr (2, [.int (rd_place (nj_rd s)), .int (rd_pairs (nj_rd s))].set 0 (.int v))) = rp_Nj (ns_rd s (ds_place (nj_rd s) v)) := rfl
theorem st_Nj_49_1 (s : NjS) (v : Int32) : (rp_Nj s).set 49 (.inr (2, [.int (rd_place (nj_rd s)), .int (rd_pairs (nj_rd s))].set 1 (.int v))) = rp_Nj (ns_rd s (ds_pairs (nj_rd s) v)) := rfl
theorem at_Nj_50 (s : NjS) : (rp_Nj s)[50]? = some (.inr (1, [.ref 51])) := rfl
theorem at_Nj_51 (s : NjS) : (rp_Nj s)[51]? = some (.inl (0, 64, .inl (nj_os s))) := rfl
theorem st_Nj_51 (s : NjS) (v : Nat → Int32) : (rp_Nj s).set 51 (.inl (0, 64, .inl v)) = rp_Nj (ns_os s v) := rfl
theorem at_Nj_52 (s : NjS) : (rp_Nj s)[52]? = some (.inl (0, 6, .inl (nj_fc s))) := rfl
theorem st_Nj_52 (s : NjS) (v : Nat → Int32) : (rp_Nj s).set 52 (.inl (0, 6, .inl v)) = rp_Nj (ns_fc s v) := rfl
def rp_Md (m : MdS) : List va_E := [.inr (6, [.ref 1, .int (md_children m), .ref 2, .ref 3, .ref 4, .ref 5, .ref 6, .int (md_asked m), .long (md_upper m), .long (md_lower m), .int (md_finding m), .ref 7, .int (md_from m), .int (md_place m), .int (md_stop m), .int (md_readRule m), .ref 8, .int (md_readMany m), .ref 9, .int (md_readPairs m), .ref 10, .ref 11, .ref 12]),
  .inl (0, 2304, .inl (md_row m)),
  .inl (0, 6, .inl (md_kinds m)),
  .inl (0, 6, .inl (md_sizes m)),
  .inl (0, 240, .inl (md_items m)),
  .inl (0, 4, .inl (md_lengths m)),
  .inl (0, 240, .inl (md_bytes m)),
  .inl (0, 6, .inl (md_findings m)),
  .inl (0, 12, .inl (md_readChildren m)),
  .inl (0, 6, .inl (md_readLikes m)),
  .inl (0, 64, .inl (md_outOf m)),
  .inl (0, 64, .inl (md_longer m)),
  .inl (1, 64, .inr (.inl (md_ways m)))]
theorem at_Md_0 (m : MdS) : (rp_Md m)[0]? = some (.inr (6, [.ref 1, .int (md_children m), .ref 2, .ref 3, .ref 4, .ref 5, .ref 6, .int (md_asked m), .long (md_upper m), .long (md_lower m), .int (md_finding m), .ref 7, .int (md_from m), .int (md_place m), .int (md_stop m), .int (md_readRule m), .ref 8, .int (md_readMany m), .ref 9, .int (md_readPairs m), .ref 10, .ref 11, .ref 12])) := rfl
theorem st_Md_0_1 (m : MdS) (v : Int32) : (rp_Md m).set 0 (.inr (6, [.ref 1, .int (md_children m), .ref 2, .ref 3, .ref 4, .ref 5, .ref 6, .int (md_asked m), .long (md_upper m), .long (md_lower m), .int (md_finding m), .ref 7, .int (md_from m), .int (md_place m), .int (md_stop m), .int (md_readRule m), .ref 8, .int (md_readMany m), .ref 9, .int (md_readPairs m), .ref 10, .ref 11, .ref 12].set 1 (.int v))) = rp_Md (ms_children m v) := rfl
theorem st_Md_0_7 (m : MdS) (v : Int32) : (rp_Md m).set 0 (.inr (6, [.ref 1, .int (md_children m), .ref 2, .ref 3, .ref 4, .ref 5, .ref 6, .int (md_asked m), .long (md_upper m), .long (md_lower m), .int (md_finding m), .ref 7, .int (md_from m), .int (md_place m), .int (md_stop m), .int (md_readRule m), .ref 8, .int (md_readMany m), .ref 9, .int (md_readPairs m), .ref 10, .ref 11, .ref 12].set 7 (.int v))) = rp_Md (ms_asked m v) := rfl
theorem st_Md_0_8 (m : MdS) (v : Int64) : (rp_Md m).set 0 (.inr (6, [.ref 1, .int (md_children m), .ref 2, .ref 3, .ref 4, .ref 5, .ref 6, .int (md_asked m), .long (md_upper m), .long (md_lower m), .int (md_finding m), .ref 7, .int (md_from m), .int (md_place m), .int (md_stop m), .int (md_readRule m), .ref 8, .int (md_readMany m), .ref 9, .int (md_readPairs m), .ref 10, .ref 11, .ref 12].set 8 (.long v))) = rp_Md (ms_upper m v) := rfl
theorem st_Md_0_9 (m : MdS) (v : Int64) : (rp_Md m).set 0 (.inr (6, [.ref 1, .int (md_children m), .ref 2, .ref 3, .ref 4, .ref 5, .ref 6, .int (md_asked m), .long (md_upper m), .long (md_lower m), .int (md_finding m), .ref 7, .int (md_from m), .int (md_place m), .int (md_stop m), .int (md_readRule m), .ref 8, .int (md_readMany m), .ref 9, .int (md_readPairs m), .ref 10, .ref 11, .ref 12].set 9 (.long v))) = rp_Md (ms_lower m v) := rfl
theorem st_Md_0_10 (m : MdS) (v : Int32) : (rp_Md m).set 0 (.inr (6, [.ref 1, .int (md_children m), .ref 2, .ref 3, .ref 4, .ref 5, .ref 6, .int (md_asked m), .long (md_upper m), .long (md_lower m), .int (md_finding m), .ref 7, .int (md_from m), .int (md_place m), .int (md_stop m), .int (md_readRule m), .ref 8, .int (md_readMany m), .ref 9, .int (md_readPairs m), .ref 10, .ref 11, .ref 12].set 10 (.int v))) = rp_Md (ms_finding m v) := rfl
theorem st_Md_0_12 (m : MdS) (v : Int32) : (rp_Md m).set 0 (.inr (6, [.ref 1, .int (md_children m), .ref 2, .ref 3, .ref 4, .ref 5, .ref 6, .int (md_asked m), .long (md_upper m), .long (md_lower m), .int (md_finding m), .ref 7, .int (md_from m), .int (md_place m), .int (md_stop m), .int (md_readRule m), .ref 8, .int (md_readMany m), .ref 9, .int (md_readPairs m), .ref 10, .ref 11, .ref 12].set 12 (.int v))) = rp_Md (ms_from m v) := rfl
theorem st_Md_0_13 (m : MdS) (v : Int32) : (rp_Md m).set 0 (.inr (6, [.ref 1, .int (md_children m), .ref 2, .ref 3, .ref 4, .ref 5, .ref 6, .int (md_asked m), .long (md_upper m), .long (md_lower m), .int (md_finding m), .ref 7, .int (md_from m), .int (md_place m), .int (md_stop m), .int (md_readRule m), .ref 8, .int (md_readMany m), .ref 9, .int (md_readPairs m), .ref 10, .ref 11, .ref 12].set 13 (.int v))) = rp_Md (ms_place m v) := rfl
theorem st_Md_0_14 (m : MdS) (v : Int32) : (rp_Md m).set 0 (.inr (6, [.ref 1, .int (md_children m), .ref 2, .ref 3, .ref 4, .ref 5, .ref 6, .int (md_asked m), .long (md_upper m), .long (md_lower m), .int (md_finding m), .ref 7, .int (md_from m), .int (md_place m), .int (md_stop m), .int (md_readRule m), .ref 8, .int (md_readMany m), .ref 9, .int (md_readPairs m), .ref 10, .ref 11, .ref 12].set 14 (.int v))) = rp_Md (ms_stop m v) := rfl
theorem st_Md_0_15 (m : MdS) (v : Int32) : (rp_Md m).set 0 (.inr (6, [.ref 1, .int (md_children m), .ref 2, .ref 3, .ref 4, .ref 5, .ref 6, .int (md_asked m), .long (md_upper m), .long (md_lower m), .int (md_finding m), .ref 7, .int (md_from m), .int (md_place m), .int (md_stop m), .int (md_readRule m), .ref 8, .int (md_readMany m), .ref 9, .int (md_readPairs m), .ref 10, .ref 11, .ref 12].set 15 (.int v))) = rp_Md (ms_readRule m v) := rfl
theorem st_Md_0_17 (m : MdS) (v : Int32) : (rp_Md m).set 0 (.inr (6, [.ref 1, .int (md_children m), .ref 2, .ref 3, .ref 4, .ref 5, .ref 6, .int (md_asked m), .long (md_upper m), .long (md_lower m), .int (md_finding m), .ref 7, .int (md_from m), .int (md_place m), .int (md_stop m), .int (md_readRule m), .ref 8, .int (md_readMany m), .ref 9, .int (md_readPairs m), .ref 10, .ref 11, .ref 12].set 17 (.int v))) = rp_Md (ms_readMany m v) := rfl
theorem st_Md_0_19 (m : MdS) (v : Int32) : (rp_Md m).set 0 (.inr (6, [.ref 1, .int (md_children m), .ref 2, .ref 3, .ref 4, .ref 5, .ref 6, .int (md_asked m), .long (md_upper m), .long (md_lower m), .int (md_finding m), .ref 7, .int (md_from m), .int (md_place m), .int (md_stop m), .int (md_readRule m), .ref 8, .int (md_readMany m), .ref 9, .int (md_readPairs m), .ref 10, .ref 11, .ref 12].set 19 (.int v))) = rp_Md (ms_readPairs m v) := rfl
theorem at_Md_1 (m : MdS) : (rp_Md m)[1]? = some (.inl (0, 2304, .inl (md_row m))) := rfl
theorem st_Md_1 (m : MdS) (v : Nat → Int32) : (rp_Md m).set 1 (.inl (0, 2304, .inl v)) = rp_Md (ms_row m v) := rfl
theorem at_Md_2 (m : MdS) : (rp_Md m)[2]? = some (.inl (0, 6, .inl (md_kinds m))) := rfl
theorem st_Md_2 (m : MdS) (v : Nat → Int32) : (rp_Md m).set 2 (.inl (0, 6, .inl v)) = rp_Md (ms_kinds m v) := rfl
theorem at_Md_3 (m : MdS) : (rp_Md m)[3]? = some (.inl (0, 6, .inl (md_sizes m))) := rfl
theorem st_Md_3 (m : MdS) (v : Nat → Int32) : (rp_Md m).set 3 (.inl (0, 6, .inl v)) = rp_Md (ms_sizes m v) := rfl
theorem at_Md_4 (m : MdS) : (rp_Md m)[4]? = some (.inl (0, 240, .inl (md_items m))) := rfl
theorem st_Md_4 (m : MdS) (v : Nat → Int32) : (rp_Md m).set 4 (.inl (0, 240, .inl v)) = rp_Md (ms_items m v) := rfl
theorem at_Md_5 (m : MdS) : (rp_Md m)[5]? = some (.inl (0, 4, .inl (md_lengths m))) := rfl
theorem st_Md_5 (m : MdS) (v : Nat → Int32) : (rp_Md m).set 5 (.inl (0, 4, .inl v)) = rp_Md (ms_lengths m v) := rfl
theorem at_Md_6 (m : MdS) : (rp_Md m)[6]? = some (.inl (0, 240, .inl (md_bytes m))) := rfl
theorem st_Md_6 (m : MdS) (v : Nat → Int32) : (rp_Md m).set 6 (.inl (0, 240, .inl v)) = rp_Md (ms_bytes m v) := rfl
theorem at_Md_7 (m : MdS) : (rp_Md m)[7]? = some (.inl (0, 6, .inl (md_findings m))) := rfl
theorem st_Md_7 (m : MdS) (v : Nat → Int32) : (rp_Md m).set 7 (.inl (0, 6, .inl v)) = rp_Md (ms_findings m v) := rfl
theorem at_Md_8 (m : MdS) : (rp_Md m)[8]? = some (.inl (0, 12, .inl (md_readChildren m))) := rfl
theorem st_Md_8 (m : MdS) (v : Nat → Int32) : (rp_Md m).set 8 (.inl (0, 12, .inl v)) = rp_Md (ms_readChildren m v) := rfl
theorem at_Md_9 (m : MdS) : (rp_Md m)[9]? = some (.inl (0, 6, .inl (md_readLikes m))) := rfl
theorem st_Md_9 (m : MdS) (v : Nat → Int32) : (rp_Md m).set 9 (.inl (0, 6, .inl v)) = rp_Md (ms_readLikes m v) := rfl
theorem at_Md_10 (m : MdS) : (rp_Md m)[10]? = some (.inl (0, 64, .inl (md_outOf m))) := rfl
theorem st_Md_10 (m : MdS) (v : Nat → Int32) : (rp_Md m).set 10 (.inl (0, 64, .inl v)) = rp_Md (ms_outOf m v) := rfl
theorem at_Md_11 (m : MdS) : (rp_Md m)[11]? = some (.inl (0, 64, .inl (md_longer m))) := rfl
theorem st_Md_11 (m : MdS) (v : Nat → Int32) : (rp_Md m).set 11 (.inl (0, 64, .inl v)) = rp_Md (ms_longer m v) := rfl
theorem at_Md_12 (m : MdS) : (rp_Md m)[12]? = some (.inl (1, 64, .inr (.inl (md_ways m)))) := rfl
theorem st_Md_12 (m : MdS) (v : Nat → Int64) : (rp_Md m).set 12 (.inl (1, 64, .inr (.inl v))) = rp_Md (ms_ways m v) := rfl
theorem at_Nj_Row_0 (s : NjS) (i : Nat) (hi : i < 6) : (rp_Nj s)[(2 + 2 * i)]? = some (.inr (3, [.ref (3 + 2 * i), .int (ro_size ((nj_rows s) i))])) :=
  match i, hi with
  | 0, _ => rfl
  | 1, _ => rfl
  | 2, _ => rfl
  | 3, _ => rfl
  | 4, _ => rfl
  | 5, _ => rfl
theorem st_Nj_Row_0_1 (s : NjS) (i : Nat) (hi : i < 6) (v : Int32) : (rp_Nj s).set (2 + 2 * i) (.inr (3, [.ref (3 + 2 * i), .int (ro_size ((nj_rows s) i))].set 1 (.int v))) = rp_Nj (ns_rows s (va_up (nj_rows s) i (rs_size ((nj_rows s) i) v))) :=
  match i, hi with
  | 0, _ => rfl
  | 1, _ => rfl
  | 2, _ => rfl
  | 3, _ => rfl
  | 4, _ => rfl
  | 5, _ => rfl
theorem at_Nj_Row_1 (s : NjS) (i : Nat) (hi : i < 6) : (rp_Nj s)[(3 + 2 * i)]? = some (.inl (0, 40, .inl (ro_places ((nj_rows s) i)))) :=
  match i, hi with
  | 0, _ => rfl
  | 1, _ => rfl
  | 2, _ => rfl
  | 3, _ => rfl
  | 4, _ => rfl
  | 5, _ => rfl
theorem st_Nj_Row_1 (s : NjS) (i : Nat) (hi : i < 6) (v : Nat → Int32) : (rp_Nj s).set (3 + 2 * i) (.inl (0, 40, .inl v)) = rp_Nj (ns_rows s (va_up (nj_rows s) i (rs_places ((nj_rows s) i) v))) :=
  match i, hi with
  | 0, _ => rfl
  | 1, _ => rfl
  | 2, _ => rfl
  | 3, _ => rfl
  | 4, _ => rfl
  | 5, _ => rfl
theorem at_Nj_Text_0 (s : NjS) (i : Nat) (hi : i < 4) : (rp_Nj s)[(15 + 2 * i)]? = some (.inr (4, [.ref (16 + 2 * i), .int (te_size ((nj_texts s) i))])) :=
  match i, hi with
  | 0, _ => rfl
  | 1, _ => rfl
  | 2, _ => rfl
  | 3, _ => rfl
theorem st_Nj_Text_0_1 (s : NjS) (i : Nat) (hi : i < 4) (v : Int32) : (rp_Nj s).set (15 + 2 * i) (.inr (4, [.ref (16 + 2 * i), .int (te_size ((nj_texts s) i))].set 1 (.int v))) = rp_Nj (ns_texts s (va_up (nj_texts s) i (ts_size ((nj_texts s) i) v))) :=
  match i, hi with
  | 0, _ => rfl
  | 1, _ => rfl
  | 2, _ => rfl
  | 3, _ => rfl
theorem at_Nj_Text_1 (s : NjS) (i : Nat) (hi : i < 4) : (rp_Nj s)[(16 + 2 * i)]? = some (.inl (2, 60, .inl (te_bytes ((nj_texts s) i)))) :=
  match i, hi with
  | 0, _ => rfl
  | 1, _ => rfl
  | 2, _ => rfl
  | 3, _ => rfl
theorem st_Nj_Text_1 (s : NjS) (i : Nat) (hi : i < 4) (v : Nat → Int32) : (rp_Nj s).set (16 + 2 * i) (.inl (2, 60, .inl v)) = rp_Nj (ns_texts s (va_up (nj_texts s) i (ts_bytes ((nj_texts s) i) v))) :=
  match i, hi with
  | 0, _ => rfl
  | 1, _ => rfl
  | 2, _ => rfl
  | 3, _ => rfl
theorem at_Nj_Kept_0 (s : NjS) (i : Nat) (hi : i < 3) : (rp_Nj s)[(34 + 5 * i)]? = some (.inr (0, [.ref (35 + 5 * i), .ref (36 + 5 * i), .ref (37 + 5 * i), .ref (38 + 5 * i), .int (cl_children ((nj_kept s) i)), .int (cl_rule ((nj_kept s) i)), .int (cl_inn ((nj_kept s) i)), .int (cl_tin ((nj_kept s) i)), .int (cl_dc ((nj_kept s) i))])) :=
  match i, hi with
  | 0, _ => rfl
  | 1, _ => rfl
  | 2, _ => rfl
theorem st_Nj_Kept_0_4 (s : NjS) (i : Nat) (hi : i < 3) (v : Int32) : (rp_Nj s).set (34 + 5 * i) (.inr (0, [.ref (35 + 5 * i), .ref (36 + 5 * i), .ref (37 + 5 * i), .ref (38 + 5 * i), .int (cl_children ((nj_kept s) i)), .int (cl_rule ((nj_kept s) i)), .int (cl_inn ((nj_kept s) i)), .int (cl_tin ((nj_kept s) i)), .int (cl_dc ((nj_kept s) i))].set 4 (.int v))) = rp_Nj (ns_kept s (va_up (nj_kept s) i (cs_children ((nj_kept s) i) v))) :=
  match i, hi with
  | 0, _ => rfl
  | 1, _ => rfl
  | 2, _ => rfl
theorem st_Nj_Kept_0_5 (s : NjS) (i : Nat) (hi : i < 3) (v : Int32) : (rp_Nj s).set (34 + 5 * i) (.inr (0, [.ref (35 + 5 * i), .ref (36 + 5 * i), .ref (37 + 5 * i), .ref (38 + 5 * i), .int (cl_children ((nj_kept s) i)), .int (cl_rule ((nj_kept s) i)), .int (cl_inn ((nj_kept s) i)), .int (cl_tin ((nj_kept s) i)), .int (cl_dc ((nj_kept s) i))].set 5 (.int v))) = rp_Nj (ns_kept s (va_up (nj_kept s) i (cs_rule ((nj_kept s) i) v))) :=
  match i, hi with
  | 0, _ => rfl
  | 1, _ => rfl
  | 2, _ => rfl
theorem st_Nj_Kept_0_6 (s : NjS) (i : Nat) (hi : i < 3) (v : Int32) : (rp_Nj s).set (34 + 5 * i) (.inr (0, [.ref (35 + 5 * i), .ref (36 + 5 * i), .ref (37 + 5 * i), .ref (38 + 5 * i), .int (cl_children ((nj_kept s) i)), .int (cl_rule ((nj_kept s) i)), .int (cl_inn ((nj_kept s) i)), .int (cl_tin ((nj_kept s) i)), .int (cl_dc ((nj_kept s) i))].set 6 (.int v))) = rp_Nj (ns_kept s (va_up (nj_kept s) i (cs_inn ((nj_kept s) i) v))) :=
  match i, hi with
  | 0, _ => rfl
  | 1, _ => rfl
  | 2, _ => rfl
theorem st_Nj_Kept_0_7 (s : NjS) (i : Nat) (hi : i < 3) (v : Int32) : (rp_Nj s).set (34 + 5 * i) (.inr (0, [.ref (35 + 5 * i), .ref (36 + 5 * i), .ref (37 + 5 * i), .ref (38 + 5 * i), .int (cl_children ((nj_kept s) i)), .int (cl_rule ((nj_kept s) i)), .int (cl_inn ((nj_kept s) i)), .int (cl_tin ((nj_kept s) i)), .int (cl_dc ((nj_kept s) i))].set 7 (.int v))) = rp_Nj (ns_kept s (va_up (nj_kept s) i (cs_tin ((nj_kept s) i) v))) :=
  match i, hi with
  | 0, _ => rfl
  | 1, _ => rfl
  | 2, _ => rfl
theorem st_Nj_Kept_0_8 (s : NjS) (i : Nat) (hi : i < 3) (v : Int32) : (rp_Nj s).set (34 + 5 * i) (.inr (0, [.ref (35 + 5 * i), .ref (36 + 5 * i), .ref (37 + 5 * i), .ref (38 + 5 * i), .int (cl_children ((nj_kept s) i)), .int (cl_rule ((nj_kept s) i)), .int (cl_inn ((nj_kept s) i)), .int (cl_tin ((nj_kept s) i)), .int (cl_dc ((nj_kept s) i))].set 8 (.int v))) = rp_Nj (ns_kept s (va_up (nj_kept s) i (cs_dc ((nj_kept s) i) v))) :=
  match i, hi with
  | 0, _ => rfl
  | 1, _ => rfl
  | 2, _ => rfl
theorem at_Nj_Kept_1 (s : NjS) (i : Nat) (hi : i < 3) : (rp_Nj s)[(35 + 5 * i)]? = some (.inl (0, 6, .inl (cl_kinds ((nj_kept s) i)))) :=
  match i, hi with
  | 0, _ => rfl
  | 1, _ => rfl
  | 2, _ => rfl
theorem st_Nj_Kept_1 (s : NjS) (i : Nat) (hi : i < 3) (v : Nat → Int32) : (rp_Nj s).set (35 + 5 * i) (.inl (0, 6, .inl v)) = rp_Nj (ns_kept s (va_up (nj_kept s) i (cs_kinds ((nj_kept s) i) v))) :=
  match i, hi with
  | 0, _ => rfl
  | 1, _ => rfl
  | 2, _ => rfl
theorem at_Nj_Kept_2 (s : NjS) (i : Nat) (hi : i < 3) : (rp_Nj s)[(36 + 5 * i)]? = some (.inl (0, 6, .inl (cl_pence ((nj_kept s) i)))) :=
  match i, hi with
  | 0, _ => rfl
  | 1, _ => rfl
  | 2, _ => rfl
theorem st_Nj_Kept_2 (s : NjS) (i : Nat) (hi : i < 3) (v : Nat → Int32) : (rp_Nj s).set (36 + 5 * i) (.inl (0, 6, .inl v)) = rp_Nj (ns_kept s (va_up (nj_kept s) i (cs_pence ((nj_kept s) i) v))) :=
  match i, hi with
  | 0, _ => rfl
  | 1, _ => rfl
  | 2, _ => rfl
theorem at_Nj_Kept_3 (s : NjS) (i : Nat) (hi : i < 3) : (rp_Nj s)[(37 + 5 * i)]? = some (.inl (0, 6, .inl (cl_liked ((nj_kept s) i)))) :=
  match i, hi with
  | 0, _ => rfl
  | 1, _ => rfl
  | 2, _ => rfl
theorem st_Nj_Kept_3 (s : NjS) (i : Nat) (hi : i < 3) (v : Nat → Int32) : (rp_Nj s).set (37 + 5 * i) (.inl (0, 6, .inl v)) = rp_Nj (ns_kept s (va_up (nj_kept s) i (cs_liked ((nj_kept s) i) v))) :=
  match i, hi with
  | 0, _ => rfl
  | 1, _ => rfl
  | 2, _ => rfl
theorem at_Nj_Kept_4 (s : NjS) (i : Nat) (hi : i < 3) : (rp_Nj s)[(38 + 5 * i)]? = some (.inl (0, 40, .inl (cl_deeds ((nj_kept s) i)))) :=
  match i, hi with
  | 0, _ => rfl
  | 1, _ => rfl
  | 2, _ => rfl
theorem st_Nj_Kept_4 (s : NjS) (i : Nat) (hi : i < 3) (v : Nat → Int32) : (rp_Nj s).set (38 + 5 * i) (.inl (0, 40, .inl v)) = rp_Nj (ns_kept s (va_up (nj_kept s) i (cs_deeds ((nj_kept s) i) v))) :=
  match i, hi with
  | 0, _ => rfl
  | 1, _ => rfl
  | 2, _ => rfl
theorem em_E (hp : List va_E) : nj_Em hp [] [] := ⟨rfl, rfl, rfl⟩
theorem em_Ord_Club (o : (Nat → Int32)) (c : CluS) : nj_Em (rp_Ord o c) [2, 3, 4, 5, 6] (rp_Club c) := ⟨rfl, rfl, rfl⟩
theorem pa_Ord_Club (o : (Nat → Int32)) (c : CluS) (c' : CluS) : nj_patch (rp_Ord o c) [2, 3, 4, 5, 6] ((rp_Club c').map (nj_re [2, 3, 4, 5, 6])) = rp_Ord o c' := rfl
theorem em_OrdR_Club (o : (Nat → Int32)) (c : CluS) (r : RowS) : nj_Em (rp_OrdR o c r) [2, 3, 4, 5, 6] (rp_Club c) := ⟨rfl, rfl, rfl⟩
theorem pa_OrdR_Club (o : (Nat → Int32)) (c : CluS) (r : RowS) (c' : CluS) : nj_patch (rp_OrdR o c r) [2, 3, 4, 5, 6] ((rp_Club c').map (nj_re [2, 3, 4, 5, 6])) = rp_OrdR o c' r := rfl
theorem em_OrdR_Ord (o : (Nat → Int32)) (c : CluS) (r : RowS) : nj_Em (rp_OrdR o c r) [0, 1, 2, 3, 4, 5, 6] (rp_Ord o c) := ⟨rfl, rfl, rfl⟩
theorem pa_OrdR_Ord (o : (Nat → Int32)) (c : CluS) (r : RowS) (o' : (Nat → Int32)) (c' : CluS) : nj_patch (rp_OrdR o c r) [0, 1, 2, 3, 4, 5, 6] ((rp_Ord o' c').map (nj_re [0, 1, 2, 3, 4, 5, 6])) = rp_OrdR o' c' r := rfl
theorem em_OrdR_Row (o : (Nat → Int32)) (c : CluS) (r : RowS) : nj_Em (rp_OrdR o c r) [7, 8] (rp_Row r) := ⟨rfl, rfl, rfl⟩
theorem pa_OrdR_Row (o : (Nat → Int32)) (c : CluS) (r : RowS) (r' : RowS) : nj_patch (rp_OrdR o c r) [7, 8] ((rp_Row r').map (nj_re [7, 8])) = rp_OrdR o c r' := rfl
theorem em_Rdr_Text (d : RdS) (t : TexS) (c : CluS) : nj_Em (rp_Rdr d t c) [1, 2] (rp_Tex t) := ⟨rfl, rfl, rfl⟩
theorem pa_Rdr_Text (d : RdS) (t : TexS) (c : CluS) (t' : TexS) : nj_patch (rp_Rdr d t c) [1, 2] ((rp_Tex t').map (nj_re [1, 2])) = rp_Rdr d t' c := rfl
theorem em_Rdr_Club (d : RdS) (t : TexS) (c : CluS) : nj_Em (rp_Rdr d t c) [3, 4, 5, 6, 7] (rp_Club c) := ⟨rfl, rfl, rfl⟩
theorem pa_Rdr_Club (d : RdS) (t : TexS) (c : CluS) (c' : CluS) : nj_patch (rp_Rdr d t c) [3, 4, 5, 6, 7] ((rp_Club c').map (nj_re [3, 4, 5, 6, 7])) = rp_Rdr d t c' := rfl
theorem em_RoC_Row (r : RowS) (c : CluS) : nj_Em (rp_RoC r c) [0, 1] (rp_Row r) := ⟨rfl, rfl, rfl⟩
theorem pa_RoC_Row (r : RowS) (c : CluS) (r' : RowS) : nj_patch (rp_RoC r c) [0, 1] ((rp_Row r').map (nj_re [0, 1])) = rp_RoC r' c := rfl
theorem em_RoC_Club (r : RowS) (c : CluS) : nj_Em (rp_RoC r c) [2, 3, 4, 5, 6] (rp_Club c) := ⟨rfl, rfl, rfl⟩
theorem pa_RoC_Club (r : RowS) (c : CluS) (c' : CluS) : nj_patch (rp_RoC r c) [2, 3, 4, 5, 6] ((rp_Club c').map (nj_re [2, 3, 4, 5, 6])) = rp_RoC r c' := rfl
theorem em_Nj_Row (s : NjS) (i : Nat) (hi : i < 6) : nj_Em (rp_Nj s) [(2 + 2 * i), (3 + 2 * i)] (rp_Row ((nj_rows s) i)) :=
  match i, hi with
  | 0, _ => ⟨rfl, rfl, rfl⟩
  | 1, _ => ⟨rfl, rfl, rfl⟩
  | 2, _ => ⟨rfl, rfl, rfl⟩
  | 3, _ => ⟨rfl, rfl, rfl⟩
  | 4, _ => ⟨rfl, rfl, rfl⟩
  | 5, _ => ⟨rfl, rfl, rfl⟩
theorem pa_Nj_Row (s : NjS) (i : Nat) (hi : i < 6) (r' : RowS) : nj_patch (rp_Nj s) [(2 + 2 * i), (3 + 2 * i)] ((rp_Row r').map (nj_re [(2 + 2 * i), (3 + 2 * i)])) = rp_Nj (ns_rows s (va_up (nj_rows s) i r')) :=
  match i, hi with
  | 0, _ => rfl
  | 1, _ => rfl
  | 2, _ => rfl
  | 3, _ => rfl
  | 4, _ => rfl
  | 5, _ => rfl
theorem em_Nj_Text (s : NjS) (i : Nat) (hi : i < 4) : nj_Em (rp_Nj s) [(15 + 2 * i), (16 + 2 * i)] (rp_Tex ((nj_texts s) i)) :=
  match i, hi with
  | 0, _ => ⟨rfl, rfl, rfl⟩
  | 1, _ => ⟨rfl, rfl, rfl⟩
  | 2, _ => ⟨rfl, rfl, rfl⟩
  | 3, _ => ⟨rfl, rfl, rfl⟩
theorem pa_Nj_Text (s : NjS) (i : Nat) (hi : i < 4) (t' : TexS) : nj_patch (rp_Nj s) [(15 + 2 * i), (16 + 2 * i)] ((rp_Tex t').map (nj_re [(15 + 2 * i), (16 + 2 * i)])) = rp_Nj (ns_texts s (va_up (nj_texts s) i t')) :=
  match i, hi with
  | 0, _ => rfl
  | 1, _ => rfl
  | 2, _ => rfl
  | 3, _ => rfl
theorem em_Nj_Club (s : NjS) : nj_Em (rp_Nj s) [23, 24, 25, 26, 27] (rp_Club (nj_club s)) := ⟨rfl, rfl, rfl⟩
theorem pa_Nj_Club (s : NjS) (c' : CluS) : nj_patch (rp_Nj s) [23, 24, 25, 26, 27] ((rp_Club c').map (nj_re [23, 24, 25, 26, 27])) = rp_Nj (ns_club s c') := rfl
theorem em_Nj_Kept (s : NjS) (i : Nat) (hi : i < 3) : nj_Em (rp_Nj s) [(34 + 5 * i), (35 + 5 * i), (36 + 5 * i), (37 + 5 * i), (38 + 5 * i)] (rp_Club ((nj_kept s) i)) :=
  match i, hi with
  | 0, _ => ⟨rfl, rfl, rfl⟩
  | 1, _ => ⟨rfl, rfl, rfl⟩
  | 2, _ => ⟨rfl, rfl, rfl⟩
theorem pa_Nj_Kept (s : NjS) (i : Nat) (hi : i < 3) (c' : CluS) : nj_patch (rp_Nj s) [(34 + 5 * i), (35 + 5 * i), (36 + 5 * i), (37 + 5 * i), (38 + 5 * i)] ((rp_Club c').map (nj_re [(34 + 5 * i), (35 + 5 * i), (36 + 5 * i), (37 + 5 * i), (38 + 5 * i)])) = rp_Nj (ns_kept s (va_up (nj_kept s) i c')) :=
  match i, hi with
  | 0, _ => rfl
  | 1, _ => rfl
  | 2, _ => rfl
theorem em_Nj_ClubDraft (s : NjS) : nj_Em (rp_Nj s) [23, 24, 25, 26, 27, 28, 29, 30, 31, 32] (rp_Club2 (nj_club s) (nj_draft s)) := ⟨rfl, rfl, rfl⟩
theorem pa_Nj_ClubDraft (s : NjS) (c' : CluS) : nj_patch (rp_Nj s) [23, 24, 25, 26, 27, 28, 29, 30, 31, 32] ((rp_Club2 c' (nj_draft s)).map (nj_re [23, 24, 25, 26, 27, 28, 29, 30, 31, 32])) = rp_Nj (ns_club s c') := rfl
theorem em_Nj_ClubKept (s : NjS) (i : Nat) (hi : i < 3) : nj_Em (rp_Nj s) [23, 24, 25, 26, 27, (34 + 5 * i), (35 + 5 * i), (36 + 5 * i), (37 + 5 * i), (38 + 5 * i)] (rp_Club2 (nj_club s) ((nj_kept s) i)) :=
  match i, hi with
  | 0, _ => ⟨rfl, rfl, rfl⟩
  | 1, _ => ⟨rfl, rfl, rfl⟩
  | 2, _ => ⟨rfl, rfl, rfl⟩
theorem pa_Nj_ClubKept (s : NjS) (i : Nat) (hi : i < 3) (c' : CluS) : nj_patch (rp_Nj s) [23, 24, 25, 26, 27, (34 + 5 * i), (35 + 5 * i), (36 + 5 * i), (37 + 5 * i), (38 + 5 * i)] ((rp_Club2 c' ((nj_kept s) i)).map (nj_re [23, 24, 25, 26, 27, (34 + 5 * i), (35 + 5 * i), (36 + 5 * i), (37 + 5 * i), (38 + 5 * i)])) = rp_Nj (ns_club s c') :=
  match i, hi with
  | 0, _ => rfl
  | 1, _ => rfl
  | 2, _ => rfl
theorem em_Nj_KeptClub (s : NjS) (i : Nat) (hi : i < 3) : nj_Em (rp_Nj s) [(34 + 5 * i), (35 + 5 * i), (36 + 5 * i), (37 + 5 * i), (38 + 5 * i), 23, 24, 25, 26, 27] (rp_Club2 ((nj_kept s) i) (nj_club s)) :=
  match i, hi with
  | 0, _ => ⟨rfl, rfl, rfl⟩
  | 1, _ => ⟨rfl, rfl, rfl⟩
  | 2, _ => ⟨rfl, rfl, rfl⟩
theorem pa_Nj_KeptClub (s : NjS) (i : Nat) (hi : i < 3) (c' : CluS) : nj_patch (rp_Nj s) [(34 + 5 * i), (35 + 5 * i), (36 + 5 * i), (37 + 5 * i), (38 + 5 * i), 23, 24, 25, 26, 27] ((rp_Club2 c' (nj_club s)).map (nj_re [(34 + 5 * i), (35 + 5 * i), (36 + 5 * i), (37 + 5 * i), (38 + 5 * i), 23, 24, 25, 26, 27])) = rp_Nj (ns_kept s (va_up (nj_kept s) i c')) :=
  match i, hi with
  | 0, _ => rfl
  | 1, _ => rfl
  | 2, _ => rfl
theorem em_Nj_Ord (s : NjS) : nj_Em (rp_Nj s) [50, 51, 23, 24, 25, 26, 27] (rp_Ord (nj_os s) (nj_club s)) := ⟨rfl, rfl, rfl⟩
theorem pa_Nj_Ord (s : NjS) (o' : (Nat → Int32)) (c' : CluS) : nj_patch (rp_Nj s) [50, 51, 23, 24, 25, 26, 27] ((rp_Ord o' c').map (nj_re [50, 51, 23, 24, 25, 26, 27])) = rp_Nj (ns_os (ns_club s c') o') := rfl
theorem em_Nj_OrdR (s : NjS) (i : Nat) (hi : i < 6) : nj_Em (rp_Nj s) [50, 51, 23, 24, 25, 26, 27, (2 + 2 * i), (3 + 2 * i)] (rp_OrdR (nj_os s) (nj_club s) ((nj_rows s) i)) :=
  match i, hi with
  | 0, _ => ⟨rfl, rfl, rfl⟩
  | 1, _ => ⟨rfl, rfl, rfl⟩
  | 2, _ => ⟨rfl, rfl, rfl⟩
  | 3, _ => ⟨rfl, rfl, rfl⟩
  | 4, _ => ⟨rfl, rfl, rfl⟩
  | 5, _ => ⟨rfl, rfl, rfl⟩
theorem pa_Nj_OrdR (s : NjS) (i : Nat) (hi : i < 6) (o' : (Nat → Int32)) (r' : RowS) : nj_patch (rp_Nj s) [50, 51, 23, 24, 25, 26, 27, (2 + 2 * i), (3 + 2 * i)] ((rp_OrdR o' (nj_club s) r').map (nj_re [50, 51, 23, 24, 25, 26, 27, (2 + 2 * i), (3 + 2 * i)])) = rp_Nj (ns_os (ns_rows s (va_up (nj_rows s) i r')) o') :=
  match i, hi with
  | 0, _ => rfl
  | 1, _ => rfl
  | 2, _ => rfl
  | 3, _ => rfl
  | 4, _ => rfl
  | 5, _ => rfl
theorem em_Nj_Rdr (s : NjS) (i : Nat) (hi : i < 4) : nj_Em (rp_Nj s) [49, (15 + 2 * i), (16 + 2 * i), 28, 29, 30, 31, 32] (rp_Rdr (nj_rd s) ((nj_texts s) i) (nj_draft s)) :=
  match i, hi with
  | 0, _ => ⟨rfl, rfl, rfl⟩
  | 1, _ => ⟨rfl, rfl, rfl⟩
  | 2, _ => ⟨rfl, rfl, rfl⟩
  | 3, _ => ⟨rfl, rfl, rfl⟩
theorem pa_Nj_Rdr (s : NjS) (i : Nat) (hi : i < 4) (d' : RdS) (c' : CluS) : nj_patch (rp_Nj s) [49, (15 + 2 * i), (16 + 2 * i), 28, 29, 30, 31, 32] ((rp_Rdr d' ((nj_texts s) i) c').map (nj_re [49, (15 + 2 * i), (16 + 2 * i), 28, 29, 30, 31, 32])) = rp_Nj (ns_draft (ns_rd s d') c') :=
  match i, hi with
  | 0, _ => rfl
  | 1, _ => rfl
  | 2, _ => rfl
  | 3, _ => rfl
theorem em_Nj_RoC (s : NjS) (i : Nat) (hi : i < 6) : nj_Em (rp_Nj s) [(2 + 2 * i), (3 + 2 * i), 23, 24, 25, 26, 27] (rp_RoC ((nj_rows s) i) (nj_club s)) :=
  match i, hi with
  | 0, _ => ⟨rfl, rfl, rfl⟩
  | 1, _ => ⟨rfl, rfl, rfl⟩
  | 2, _ => ⟨rfl, rfl, rfl⟩
  | 3, _ => ⟨rfl, rfl, rfl⟩
  | 4, _ => ⟨rfl, rfl, rfl⟩
  | 5, _ => ⟨rfl, rfl, rfl⟩
theorem em_RoC_RoC (r : RowS) (c : CluS) : nj_Em (rp_RoC r c) [0, 1, 2, 3, 4, 5, 6] (rp_RoC r c) := ⟨rfl, rfl, rfl⟩
theorem em_Club_Club (c : CluS) : nj_Em (rp_Club c) [0, 1, 2, 3, 4] (rp_Club c) := ⟨rfl, rfl, rfl⟩
theorem pa_Club_Club (c : CluS) (c' : CluS) : nj_patch (rp_Club c) [0, 1, 2, 3, 4] ((rp_Club c').map (nj_re [0, 1, 2, 3, 4])) = rp_Club c' := rfl
