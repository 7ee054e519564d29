theorem co_X6_hunt : Cond.code yX6_hunt cX6_hunt 3 none ∈ lw_gd := xm (i := 542) (by decide +kernel) (by decide +kernel)
theorem mi_X6_hunt : xMi yX6_hunt cX6_hunt 3 none 1 := ⟨co_X6_hunt, xm (i := 64) (by decide +kernel) (by decide +kernel), by decide +kernel, by decide +kernel, by decide⟩
abbrev C_X6_hunt (d N : Nat) (av : List Value) (σ : XW) (r : Option Value) (τ : XW) : Prop := Ct yX6_hunt cX6_hunt 3 none d N (0, 0) av σ (xq N r τ)
theorem im_X6_hunt : Cond.instanceMethod yX6_hunt ∈ lw_gd := xm (i := 541) (by decide +kernel) (by decide +kernel)
theorem se_X6_hunt : Cond.selects yX6_hunt.cls yX6_hunt yX6_hunt ∈ lw_gd := xm (i := 6) (by decide +kernel) (by decide +kernel)
theorem co_X6_carry : Cond.code yX6_carry cX6_carry 4 none ∈ lw_gd := xm (i := 562) (by decide +kernel) (by decide +kernel)
theorem mi_X6_carry : xMi yX6_carry cX6_carry 4 none 1 := ⟨co_X6_carry, xm (i := 64) (by decide +kernel) (by decide +kernel), by decide +kernel, by decide +kernel, by decide⟩
abbrev C_X6_carry (d N : Nat) (av : List Value) (σ : XW) (r : Option Value) (τ : XW) : Prop := Ct yX6_carry cX6_carry 4 none d N (0, 0) av σ (xq N r τ)
theorem im_X6_carry : Cond.instanceMethod yX6_carry ∈ lw_gd := xm (i := 561) (by decide +kernel) (by decide +kernel)
theorem se_X6_carry : Cond.selects yX6_carry.cls yX6_carry yX6_carry ∈ lw_gd := xm (i := 9) (by decide +kernel) (by decide +kernel)
theorem co_X6_endLoad : Cond.code yX6_endLoad cX6_endLoad 1 none ∈ lw_gd := xm (i := 568) (by decide +kernel) (by decide +kernel)
theorem mi_X6_endLoad : xMi yX6_endLoad cX6_endLoad 1 none 0 := ⟨co_X6_endLoad, xm (i := 64) (by decide +kernel) (by decide +kernel), by decide +kernel, by decide +kernel, by decide⟩
abbrev C_X6_endLoad (d N : Nat) (av : List Value) (σ : XW) (r : Option Value) (τ : XW) : Prop := Ct yX6_endLoad cX6_endLoad 1 none d N (0, 0) av σ (xq N r τ)
theorem im_X6_endLoad : Cond.instanceMethod yX6_endLoad ∈ lw_gd := xm (i := 567) (by decide +kernel) (by decide +kernel)
theorem se_X6_endLoad : Cond.selects yX6_endLoad.cls yX6_endLoad yX6_endLoad ∈ lw_gd := xm (i := 10) (by decide +kernel) (by decide +kernel)
theorem co_X6_judge : Cond.code yX6_judge cX6_judge 4 none ∈ lw_gd := xm (i := 586) (by decide +kernel) (by decide +kernel)
theorem mi_X6_judge : xMi yX6_judge cX6_judge 4 none 1 := ⟨co_X6_judge, xm (i := 64) (by decide +kernel) (by decide +kernel), by decide +kernel, by decide +kernel, by decide⟩
abbrev C_X6_judge (d N : Nat) (av : List Value) (σ : XW) (r : Option Value) (τ : XW) : Prop := Ct yX6_judge cX6_judge 4 none d N (0, 0) av σ (xq N r τ)
theorem im_X6_judge : Cond.instanceMethod yX6_judge ∈ lw_gd := xm (i := 585) (by decide +kernel) (by decide +kernel)
theorem se_X6_judge : Cond.selects yX6_judge.cls yX6_judge yX6_judge ∈ lw_gd := xm (i := 12) (by decide +kernel) (by decide +kernel)
theorem co_X6_acceptRight : Cond.code yX6_acceptRight cX6_acceptRight 2 (some .int) ∈ lw_gd := xm (i := 598) (by decide +kernel) (by decide +kernel)
theorem mi_X6_acceptRight : xMi yX6_acceptRight cX6_acceptRight 2 (some .int) 1 := ⟨co_X6_acceptRight, xm (i := 64) (by decide +kernel) (by decide +kernel), by decide +kernel, by decide +kernel, by decide⟩
abbrev C_X6_acceptRight (d N : Nat) (av : List Value) (σ : XW) (r : Option Value) (τ : XW) : Prop := Ct yX6_acceptRight cX6_acceptRight 2 (some .int) d N (0, 0) av σ (xq N r τ)
theorem im_X6_acceptRight : Cond.instanceMethod yX6_acceptRight ∈ lw_gd := xm (i := 597) (by decide +kernel) (by decide +kernel)
theorem se_X6_acceptRight : Cond.selects yX6_acceptRight.cls yX6_acceptRight yX6_acceptRight ∈ lw_gd := xm (i := 13) (by decide +kernel) (by decide +kernel)
theorem co_X6_faceWrong : Cond.code yX6_faceWrong cX6_faceWrong 5 (some .int) ∈ lw_gd := xm (i := 602) (by decide +kernel) (by decide +kernel)
theorem mi_X6_faceWrong : xMi yX6_faceWrong cX6_faceWrong 5 (some .int) 2 := ⟨co_X6_faceWrong, xm (i := 64) (by decide +kernel) (by decide +kernel), by decide +kernel, by decide +kernel, by decide⟩
abbrev C_X6_faceWrong (d N : Nat) (av : List Value) (σ : XW) (r : Option Value) (τ : XW) : Prop := Ct yX6_faceWrong cX6_faceWrong 5 (some .int) d N (0, 0) av σ (xq N r τ)
theorem im_X6_faceWrong : Cond.instanceMethod yX6_faceWrong ∈ lw_gd := xm (i := 601) (by decide +kernel) (by decide +kernel)
theorem se_X6_faceWrong : Cond.selects yX6_faceWrong.cls yX6_faceWrong yX6_faceWrong ∈ lw_gd := xm (i := 14) (by decide +kernel) (by decide +kernel)
theorem co_X6_become : Cond.code yX6_become cX6_become 3 none ∈ lw_gd := xm (i := 550) (by decide +kernel) (by decide +kernel)
theorem mi_X6_become : xMi yX6_become cX6_become 3 none 2 := ⟨co_X6_become, xm (i := 64) (by decide +kernel) (by decide +kernel), by decide +kernel, by decide +kernel, by decide⟩
abbrev C_X6_become (d N : Nat) (av : List Value) (σ : XW) (r : Option Value) (τ : XW) : Prop := Ct yX6_become cX6_become 3 none d N (0, 0) av σ (xq N r τ)
theorem im_X6_become : Cond.instanceMethod yX6_become ∈ lw_gd := xm (i := 549) (by decide +kernel) (by decide +kernel)
theorem se_X6_become : Cond.selects yX6_become.cls yX6_become yX6_become ∈ lw_gd := xm (i := 7) (by decide +kernel) (by decide +kernel)
theorem co_X6_watch : Cond.code yX6_watch cX6_watch 3 none ∈ lw_gd := xm (i := 612) (by decide +kernel) (by decide +kernel)
theorem mi_X6_watch : xMi yX6_watch cX6_watch 3 none 1 := ⟨co_X6_watch, xm (i := 64) (by decide +kernel) (by decide +kernel), by decide +kernel, by decide +kernel, by decide⟩
abbrev C_X6_watch (d N : Nat) (av : List Value) (σ : XW) (r : Option Value) (τ : XW) : Prop := Ct yX6_watch cX6_watch 3 none d N (0, 0) av σ (xq N r τ)
theorem im_X6_watch : Cond.instanceMethod yX6_watch ∈ lw_gd := xm (i := 611) (by decide +kernel) (by decide +kernel)
theorem se_X6_watch : Cond.selects yX6_watch.cls yX6_watch yX6_watch ∈ lw_gd := xm (i := 15) (by decide +kernel) (by decide +kernel)
theorem co_X7_init : Cond.code yX7_init cX7_init 2 none ∈ lw_gd := xm (i := 153) (by decide +kernel) (by decide +kernel)
theorem mi_X7_init : xMi yX7_init cX7_init 2 none 1 := ⟨co_X7_init, xm (i := 62) (by decide +kernel) (by decide +kernel), by decide +kernel, by decide +kernel, by decide⟩
abbrev C_X7_init (d N : Nat) (av : List Value) (σ : XW) (r : Option Value) (τ : XW) : Prop := Ct yX7_init cX7_init 2 none d N (0, 0) av σ (xq N r τ)
theorem im_X7_init : Cond.instanceMethod yX7_init ∈ lw_gd := xm (i := 152) (by decide +kernel) (by decide +kernel)
theorem co_X7_clear : Cond.code yX7_clear cX7_clear 1 none ∈ lw_gd := xm (i := 636) (by decide +kernel) (by decide +kernel)
theorem mi_X7_clear : xMi yX7_clear cX7_clear 1 none 0 := ⟨co_X7_clear, xm (i := 62) (by decide +kernel) (by decide +kernel), by decide +kernel, by decide +kernel, by decide⟩
abbrev C_X7_clear (d N : Nat) (av : List Value) (σ : XW) (r : Option Value) (τ : XW) : Prop := Ct yX7_clear cX7_clear 1 none d N (0, 0) av σ (xq N r τ)
theorem im_X7_clear : Cond.instanceMethod yX7_clear ∈ lw_gd := xm (i := 634) (by decide +kernel) (by decide +kernel)
theorem se_X7_clear : Cond.selects yX7_clear.cls yX7_clear yX7_clear ∈ lw_gd := xm (i := 635) (by decide +kernel) (by decide +kernel)
theorem co_X7_firstKept : Cond.code yX7_firstKept cX7_firstKept 1 (some .int) ∈ lw_gd := xm (i := 696) (by decide +kernel) (by decide +kernel)
theorem mi_X7_firstKept : xMi yX7_firstKept cX7_firstKept 1 (some .int) 0 := ⟨co_X7_firstKept, xm (i := 62) (by decide +kernel) (by decide +kernel), by decide +kernel, by decide +kernel, by decide⟩
abbrev C_X7_firstKept (d N : Nat) (av : List Value) (σ : XW) (r : Option Value) (τ : XW) : Prop := Ct yX7_firstKept cX7_firstKept 1 (some .int) d N (0, 0) av σ (xq N r τ)
theorem im_X7_firstKept : Cond.instanceMethod yX7_firstKept ∈ lw_gd := xm (i := 694) (by decide +kernel) (by decide +kernel)
theorem se_X7_firstKept : Cond.selects yX7_firstKept.cls yX7_firstKept yX7_firstKept ∈ lw_gd := xm (i := 695) (by decide +kernel) (by decide +kernel)
theorem co_X7_keeps : Cond.code yX7_keeps cX7_keeps 2 (some .boolean) ∈ lw_gd := xm (i := 692) (by decide +kernel) (by decide +kernel)
theorem mi_X7_keeps : xMi yX7_keeps cX7_keeps 2 (some .boolean) 1 := ⟨co_X7_keeps, xm (i := 62) (by decide +kernel) (by decide +kernel), by decide +kernel, by decide +kernel, by decide⟩
abbrev C_X7_keeps (d N : Nat) (av : List Value) (σ : XW) (r : Option Value) (τ : XW) : Prop := Ct yX7_keeps cX7_keeps 2 (some .boolean) d N (0, 0) av σ (xq N r τ)
theorem im_X7_keeps : Cond.instanceMethod yX7_keeps ∈ lw_gd := xm (i := 690) (by decide +kernel) (by decide +kernel)
theorem se_X7_keeps : Cond.selects yX7_keeps.cls yX7_keeps yX7_keeps ∈ lw_gd := xm (i := 691) (by decide +kernel) (by decide +kernel)
theorem co_X7_slotOf : Cond.code yX7_slotOf cX7_slotOf 2 (some .int) ∈ lw_gd := xm (i := 708) (by decide +kernel) (by decide +kernel)
theorem mi_X7_slotOf : xMi yX7_slotOf cX7_slotOf 2 (some .int) 1 := ⟨co_X7_slotOf, xm (i := 62) (by decide +kernel) (by decide +kernel), by decide +kernel, by decide +kernel, by decide⟩
abbrev C_X7_slotOf (d N : Nat) (av : List Value) (σ : XW) (r : Option Value) (τ : XW) : Prop := Ct yX7_slotOf cX7_slotOf 2 (some .int) d N (0, 0) av σ (xq N r τ)
theorem im_X7_slotOf : Cond.instanceMethod yX7_slotOf ∈ lw_gd := xm (i := 706) (by decide +kernel) (by decide +kernel)
theorem se_X7_slotOf : Cond.selects yX7_slotOf.cls yX7_slotOf yX7_slotOf ∈ lw_gd := xm (i := 707) (by decide +kernel) (by decide +kernel)
theorem co_X7_entry : Cond.code yX7_entry cX7_entry 4 (some .int) ∈ lw_gd := xm (i := 704) (by decide +kernel) (by decide +kernel)
theorem mi_X7_entry : xMi yX7_entry cX7_entry 4 (some .int) 2 := ⟨co_X7_entry, xm (i := 62) (by decide +kernel) (by decide +kernel), by decide +kernel, by decide +kernel, by decide⟩
abbrev C_X7_entry (d N : Nat) (av : List Value) (σ : XW) (r : Option Value) (τ : XW) : Prop := Ct yX7_entry cX7_entry 4 (some .int) d N (0, 0) av σ (xq N r τ)
theorem im_X7_entry : Cond.instanceMethod yX7_entry ∈ lw_gd := xm (i := 702) (by decide +kernel) (by decide +kernel)
theorem se_X7_entry : Cond.selects yX7_entry.cls yX7_entry yX7_entry ∈ lw_gd := xm (i := 703) (by decide +kernel) (by decide +kernel)
theorem co_X7_add : Cond.code yX7_add cX7_add 5 none ∈ lw_gd := xm (i := 554) (by decide +kernel) (by decide +kernel)
theorem mi_X7_add : xMi yX7_add cX7_add 5 none 3 := ⟨co_X7_add, xm (i := 62) (by decide +kernel) (by decide +kernel), by decide +kernel, by decide +kernel, by decide⟩
abbrev C_X7_add (d N : Nat) (av : List Value) (σ : XW) (r : Option Value) (τ : XW) : Prop := Ct yX7_add cX7_add 5 none d N (0, 0) av σ (xq N r τ)
theorem im_X7_add : Cond.instanceMethod yX7_add ∈ lw_gd := xm (i := 552) (by decide +kernel) (by decide +kernel)
theorem se_X7_add : Cond.selects yX7_add.cls yX7_add yX7_add ∈ lw_gd := xm (i := 553) (by decide +kernel) (by decide +kernel)
theorem co_X8_init : Cond.code yX8_init cX8_init 1 none ∈ lw_gd := xm (i := 116) (by decide +kernel) (by decide +kernel)
theorem mi_X8_init : xMi yX8_init cX8_init 1 none 0 := ⟨co_X8_init, xm (i := 59) (by decide +kernel) (by decide +kernel), by decide +kernel, by decide +kernel, by decide⟩
abbrev C_X8_init (d N : Nat) (av : List Value) (σ : XW) (r : Option Value) (τ : XW) : Prop := Ct yX8_init cX8_init 1 none d N (0, 0) av σ (xq N r τ)
theorem im_X8_init : Cond.instanceMethod yX8_init ∈ lw_gd := xm (i := 115) (by decide +kernel) (by decide +kernel)
theorem co_X8_restart : Cond.code yX8_restart cX8_restart 1 none ∈ lw_gd := xm (i := 497) (by decide +kernel) (by decide +kernel)
theorem mi_X8_restart : xMi yX8_restart cX8_restart 1 none 0 := ⟨co_X8_restart, xm (i := 59) (by decide +kernel) (by decide +kernel), by decide +kernel, by decide +kernel, by decide⟩
abbrev C_X8_restart (d N : Nat) (av : List Value) (σ : XW) (r : Option Value) (τ : XW) : Prop := Ct yX8_restart cX8_restart 1 none d N (0, 0) av σ (xq N r τ)
theorem im_X8_restart : Cond.instanceMethod yX8_restart ∈ lw_gd := xm (i := 495) (by decide +kernel) (by decide +kernel)
theorem se_X8_restart : Cond.selects yX8_restart.cls yX8_restart yX8_restart ∈ lw_gd := xm (i := 496) (by decide +kernel) (by decide +kernel)
theorem co_X8_following : Cond.code yX8_following cX8_following 1 (some .int) ∈ lw_gd := xm (i := 410) (by decide +kernel) (by decide +kernel)
theorem mi_X8_following : xMi yX8_following cX8_following 1 (some .int) 1 := ⟨co_X8_following, xm (i := 59) (by decide +kernel) (by decide +kernel), by decide +kernel, by decide +kernel, by decide⟩
abbrev C_X8_following (d N : Nat) (av : List Value) (σ : XW) (r : Option Value) (τ : XW) : Prop := Ct yX8_following cX8_following 1 (some .int) d N (0, 0) av σ (xq N r τ)
theorem st_X8_following : Cond.static yX8_following ∈ lw_gd := xm (i := 409) (by decide +kernel) (by decide +kernel)
theorem co_X8_fillBySeed : Cond.code yX8_fillBySeed cX8_fillBySeed 6 none ∈ lw_gd := xm (i := 407) (by decide +kernel) (by decide +kernel)
theorem mi_X8_fillBySeed : xMi yX8_fillBySeed cX8_fillBySeed 6 none 2 := ⟨co_X8_fillBySeed, xm (i := 59) (by decide +kernel) (by decide +kernel), by decide +kernel, by decide +kernel, by decide⟩
abbrev C_X8_fillBySeed (d N : Nat) (av : List Value) (σ : XW) (r : Option Value) (τ : XW) : Prop := Ct yX8_fillBySeed cX8_fillBySeed 6 none d N (0, 0) av σ (xq N r τ)
theorem im_X8_fillBySeed : Cond.instanceMethod yX8_fillBySeed ∈ lw_gd := xm (i := 405) (by decide +kernel) (by decide +kernel)
theorem se_X8_fillBySeed : Cond.selects yX8_fillBySeed.cls yX8_fillBySeed yX8_fillBySeed ∈ lw_gd := xm (i := 406) (by decide +kernel) (by decide +kernel)
theorem co_X8_fillIdle : Cond.code yX8_fillIdle cX8_fillIdle 4 none ∈ lw_gd := xm (i := 440) (by decide +kernel) (by decide +kernel)
theorem mi_X8_fillIdle : xMi yX8_fillIdle cX8_fillIdle 4 none 1 := ⟨co_X8_fillIdle, xm (i := 59) (by decide +kernel) (by decide +kernel), by decide +kernel, by decide +kernel, by decide⟩
abbrev C_X8_fillIdle (d N : Nat) (av : List Value) (σ : XW) (r : Option Value) (τ : XW) : Prop := Ct yX8_fillIdle cX8_fillIdle 4 none d N (0, 0) av σ (xq N r τ)
theorem im_X8_fillIdle : Cond.instanceMethod yX8_fillIdle ∈ lw_gd := xm (i := 438) (by decide +kernel) (by decide +kernel)
theorem se_X8_fillIdle : Cond.selects yX8_fillIdle.cls yX8_fillIdle yX8_fillIdle ∈ lw_gd := xm (i := 439) (by decide +kernel) (by decide +kernel)
theorem co_X8_putCell : Cond.code yX8_putCell cX8_putCell 6 none ∈ lw_gd := xm (i := 415) (by decide +kernel) (by decide +kernel)
theorem mi_X8_putCell : xMi yX8_putCell cX8_putCell 6 none 3 := ⟨co_X8_putCell, xm (i := 59) (by decide +kernel) (by decide +kernel), by decide +kernel, by decide +kernel, by decide⟩
abbrev C_X8_putCell (d N : Nat) (av : List Value) (σ : XW) (r : Option Value) (τ : XW) : Prop := Ct yX8_putCell cX8_putCell 6 none d N (0, 0) av σ (xq N r τ)
theorem im_X8_putCell : Cond.instanceMethod yX8_putCell ∈ lw_gd := xm (i := 413) (by decide +kernel) (by decide +kernel)
theorem se_X8_putCell : Cond.selects yX8_putCell.cls yX8_putCell yX8_putCell ∈ lw_gd := xm (i := 414) (by decide +kernel) (by decide +kernel)
theorem co_X8_scrambled : Cond.code yX8_scrambled cX8_scrambled 5 (some .int) ∈ lw_gd := xm (i := 423) (by decide +kernel) (by decide +kernel)
theorem mi_X8_scrambled : xMi yX8_scrambled cX8_scrambled 5 (some .int) 1 := ⟨co_X8_scrambled, xm (i := 59) (by decide +kernel) (by decide +kernel), by decide +kernel, by decide +kernel, by decide⟩
abbrev C_X8_scrambled (d N : Nat) (av : List Value) (σ : XW) (r : Option Value) (τ : XW) : Prop := Ct yX8_scrambled cX8_scrambled 5 (some .int) d N (0, 0) av σ (xq N r τ)
theorem im_X8_scrambled : Cond.instanceMethod yX8_scrambled ∈ lw_gd := xm (i := 422) (by decide +kernel) (by decide +kernel)
theorem se_X8_scrambled : Cond.selects yX8_scrambled.cls yX8_scrambled yX8_scrambled ∈ lw_gd := xm (i := 2) (by decide +kernel) (by decide +kernel)
theorem co_X8_firstLike : Cond.code yX8_firstLike cX8_firstLike 6 (some .int) ∈ lw_gd := xm (i := 572) (by decide +kernel) (by decide +kernel)
theorem mi_X8_firstLike : xMi yX8_firstLike cX8_firstLike 6 (some .int) 4 := ⟨co_X8_firstLike, xm (i := 59) (by decide +kernel) (by decide +kernel), by decide +kernel, by decide +kernel, by decide⟩
abbrev C_X8_firstLike (d N : Nat) (av : List Value) (σ : XW) (r : Option Value) (τ : XW) : Prop := Ct yX8_firstLike cX8_firstLike 6 (some .int) d N (0, 0) av σ (xq N r τ)
theorem im_X8_firstLike : Cond.instanceMethod yX8_firstLike ∈ lw_gd := xm (i := 570) (by decide +kernel) (by decide +kernel)
theorem se_X8_firstLike : Cond.selects yX8_firstLike.cls yX8_firstLike yX8_firstLike ∈ lw_gd := xm (i := 571) (by decide +kernel) (by decide +kernel)
theorem co_X8_isLoadLike : Cond.code yX8_isLoadLike cX8_isLoadLike 7 (some .boolean) ∈ lw_gd := xm (i := 576) (by decide +kernel) (by decide +kernel)
theorem mi_X8_isLoadLike : xMi yX8_isLoadLike cX8_isLoadLike 7 (some .boolean) 4 := ⟨co_X8_isLoadLike, xm (i := 59) (by decide +kernel) (by decide +kernel), by decide +kernel, by decide +kernel, by decide⟩
abbrev C_X8_isLoadLike (d N : Nat) (av : List Value) (σ : XW) (r : Option Value) (τ : XW) : Prop := Ct yX8_isLoadLike cX8_isLoadLike 7 (some .boolean) d N (0, 0) av σ (xq N r τ)
theorem im_X8_isLoadLike : Cond.instanceMethod yX8_isLoadLike ∈ lw_gd := xm (i := 575) (by decide +kernel) (by decide +kernel)
theorem se_X8_isLoadLike : Cond.selects yX8_isLoadLike.cls yX8_isLoadLike yX8_isLoadLike ∈ lw_gd := xm (i := 11) (by decide +kernel) (by decide +kernel)
theorem co_X9_init : Cond.code yX9_init cX9_init 1 none ∈ lw_gd := xm (i := 308) (by decide +kernel) (by decide +kernel)
theorem mi_X9_init : xMi yX9_init cX9_init 1 none 0 := ⟨co_X9_init, xm (i := 67) (by decide +kernel) (by decide +kernel), by decide +kernel, by decide +kernel, by decide⟩
abbrev C_X9_init (d N : Nat) (av : List Value) (σ : XW) (r : Option Value) (τ : XW) : Prop := Ct yX9_init cX9_init 1 none d N (0, 0) av σ (xq N r τ)
theorem im_X9_init : Cond.instanceMethod yX9_init ∈ lw_gd := xm (i := 307) (by decide +kernel) (by decide +kernel)
theorem co_X9_rowsOf : Cond.code yX9_rowsOf cX9_rowsOf 4 (some .long) ∈ lw_gd := xm (i := 918) (by decide +kernel) (by decide +kernel)
theorem mi_X9_rowsOf : xMi yX9_rowsOf cX9_rowsOf 4 (some .long) 1 := ⟨co_X9_rowsOf, xm (i := 67) (by decide +kernel) (by decide +kernel), by decide +kernel, by decide +kernel, by decide⟩
abbrev C_X9_rowsOf (d N : Nat) (av : List Value) (σ : XW) (r : Option Value) (τ : XW) : Prop := Ct yX9_rowsOf cX9_rowsOf 4 (some .long) d N (0, 0) av σ (xq N r τ)
theorem st_X9_rowsOf : Cond.static yX9_rowsOf ∈ lw_gd := xm (i := 917) (by decide +kernel) (by decide +kernel)
theorem co_X9_wordsOf : Cond.code yX9_wordsOf cX9_wordsOf 2 (some .long) ∈ lw_gd := xm (i := 881) (by decide +kernel) (by decide +kernel)
theorem mi_X9_wordsOf : xMi yX9_wordsOf cX9_wordsOf 2 (some .long) 1 := ⟨co_X9_wordsOf, xm (i := 67) (by decide +kernel) (by decide +kernel), by decide +kernel, by decide +kernel, by decide⟩
abbrev C_X9_wordsOf (d N : Nat) (av : List Value) (σ : XW) (r : Option Value) (τ : XW) : Prop := Ct yX9_wordsOf cX9_wordsOf 2 (some .long) d N (0, 0) av σ (xq N r τ)
theorem im_X9_wordsOf : Cond.instanceMethod yX9_wordsOf ∈ lw_gd := xm (i := 879) (by decide +kernel) (by decide +kernel)
theorem se_X9_wordsOf : Cond.selects yX9_wordsOf.cls yX9_wordsOf yX9_wordsOf ∈ lw_gd := xm (i := 880) (by decide +kernel) (by decide +kernel)
theorem co_X9_oneBitOff : Cond.code yX9_oneBitOff cX9_oneBitOff 2 (some .long) ∈ lw_gd := xm (i := 914) (by decide +kernel) (by decide +kernel)
theorem mi_X9_oneBitOff : xMi yX9_oneBitOff cX9_oneBitOff 2 (some .long) 1 := ⟨co_X9_oneBitOff, xm (i := 67) (by decide +kernel) (by decide +kernel), by decide +kernel, by decide +kernel, by decide⟩
abbrev C_X9_oneBitOff (d N : Nat) (av : List Value) (σ : XW) (r : Option Value) (τ : XW) : Prop := Ct yX9_oneBitOff cX9_oneBitOff 2 (some .long) d N (0, 0) av σ (xq N r τ)
theorem im_X9_oneBitOff : Cond.instanceMethod yX9_oneBitOff ∈ lw_gd := xm (i := 912) (by decide +kernel) (by decide +kernel)
theorem se_X9_oneBitOff : Cond.selects yX9_oneBitOff.cls yX9_oneBitOff yX9_oneBitOff ∈ lw_gd := xm (i := 913) (by decide +kernel) (by decide +kernel)
theorem co_X9_countWords : Cond.code yX9_countWords cX9_countWords 3 none ∈ lw_gd := xm (i := 885) (by decide +kernel) (by decide +kernel)
theorem mi_X9_countWords : xMi yX9_countWords cX9_countWords 3 none 0 := ⟨co_X9_countWords, xm (i := 67) (by decide +kernel) (by decide +kernel), by decide +kernel, by decide +kernel, by decide⟩
abbrev C_X9_countWords (d N : Nat) (av : List Value) (σ : XW) (r : Option Value) (τ : XW) : Prop := Ct yX9_countWords cX9_countWords 3 none d N (0, 0) av σ (xq N r τ)
theorem im_X9_countWords : Cond.instanceMethod yX9_countWords ∈ lw_gd := xm (i := 884) (by decide +kernel) (by decide +kernel)
theorem se_X9_countWords : Cond.selects yX9_countWords.cls yX9_countWords yX9_countWords ∈ lw_gd := xm (i := 20) (by decide +kernel) (by decide +kernel)
theorem co_X9_countMasks : Cond.code yX9_countMasks cX9_countMasks 5 none ∈ lw_gd := xm (i := 889) (by decide +kernel) (by decide +kernel)
theorem mi_X9_countMasks : xMi yX9_countMasks cX9_countMasks 5 none 0 := ⟨co_X9_countMasks, xm (i := 67) (by decide +kernel) (by decide +kernel), by decide +kernel, by decide +kernel, by decide⟩
abbrev C_X9_countMasks (d N : Nat) (av : List Value) (σ : XW) (r : Option Value) (τ : XW) : Prop := Ct yX9_countMasks cX9_countMasks 5 none d N (0, 0) av σ (xq N r τ)
theorem im_X9_countMasks : Cond.instanceMethod yX9_countMasks ∈ lw_gd := xm (i := 888) (by decide +kernel) (by decide +kernel)
theorem se_X9_countMasks : Cond.selects yX9_countMasks.cls yX9_countMasks yX9_countMasks ∈ lw_gd := xm (i := 21) (by decide +kernel) (by decide +kernel)
theorem co_X9_addUpSigns : Cond.code yX9_addUpSigns cX9_addUpSigns 4 none ∈ lw_gd := xm (i := 900) (by decide +kernel) (by decide +kernel)
theorem mi_X9_addUpSigns : xMi yX9_addUpSigns cX9_addUpSigns 4 none 1 := ⟨co_X9_addUpSigns, xm (i := 67) (by decide +kernel) (by decide +kernel), by decide +kernel, by decide +kernel, by decide⟩
abbrev C_X9_addUpSigns (d N : Nat) (av : List Value) (σ : XW) (r : Option Value) (τ : XW) : Prop := Ct yX9_addUpSigns cX9_addUpSigns 4 none d N (0, 0) av σ (xq N r τ)
theorem im_X9_addUpSigns : Cond.instanceMethod yX9_addUpSigns ∈ lw_gd := xm (i := 899) (by decide +kernel) (by decide +kernel)
theorem se_X9_addUpSigns : Cond.selects yX9_addUpSigns.cls yX9_addUpSigns yX9_addUpSigns ∈ lw_gd := xm (i := 22) (by decide +kernel) (by decide +kernel)
theorem co_X10_init : Cond.code yX10_init cX10_init 1 none ∈ lw_gd := xm (i := 202) (by decide +kernel) (by decide +kernel)
theorem mi_X10_init : xMi yX10_init cX10_init 1 none 0 := ⟨co_X10_init, xm (i := 65) (by decide +kernel) (by decide +kernel), by decide +kernel, by decide +kernel, by decide⟩
abbrev C_X10_init (d N : Nat) (av : List Value) (σ : XW) (r : Option Value) (τ : XW) : Prop := Ct yX10_init cX10_init 1 none d N (0, 0) av σ (xq N r τ)
theorem im_X10_init : Cond.instanceMethod yX10_init ∈ lw_gd := xm (i := 201) (by decide +kernel) (by decide +kernel)
theorem co_X10_clear : Cond.code yX10_clear cX10_clear 1 none ∈ lw_gd := xm (i := 627) (by decide +kernel) (by decide +kernel)
theorem mi_X10_clear : xMi yX10_clear cX10_clear 1 none 0 := ⟨co_X10_clear, xm (i := 65) (by decide +kernel) (by decide +kernel), by decide +kernel, by decide +kernel, by decide⟩
abbrev C_X10_clear (d N : Nat) (av : List Value) (σ : XW) (r : Option Value) (τ : XW) : Prop := Ct yX10_clear cX10_clear 1 none d N (0, 0) av σ (xq N r τ)
theorem im_X10_clear : Cond.instanceMethod yX10_clear ∈ lw_gd := xm (i := 625) (by decide +kernel) (by decide +kernel)
theorem se_X10_clear : Cond.selects yX10_clear.cls yX10_clear yX10_clear ∈ lw_gd := xm (i := 626) (by decide +kernel) (by decide +kernel)
theorem co_X10_mirror : Cond.code yX10_mirror cX10_mirror 2 none ∈ lw_gd := xm (i := 755) (by decide +kernel) (by decide +kernel)
theorem mi_X10_mirror : xMi yX10_mirror cX10_mirror 2 none 1 := ⟨co_X10_mirror, xm (i := 65) (by decide +kernel) (by decide +kernel), by decide +kernel, by decide +kernel, by decide⟩
abbrev C_X10_mirror (d N : Nat) (av : List Value) (σ : XW) (r : Option Value) (τ : XW) : Prop := Ct yX10_mirror cX10_mirror 2 none d N (0, 0) av σ (xq N r τ)
theorem im_X10_mirror : Cond.instanceMethod yX10_mirror ∈ lw_gd := xm (i := 753) (by decide +kernel) (by decide +kernel)
theorem se_X10_mirror : Cond.selects yX10_mirror.cls yX10_mirror yX10_mirror ∈ lw_gd := xm (i := 754) (by decide +kernel) (by decide +kernel)
theorem co_X10_push : Cond.code yX10_push cX10_push 3 none ∈ lw_gd := xm (i := 536) (by decide +kernel) (by decide +kernel)
theorem mi_X10_push : xMi yX10_push cX10_push 3 none 1 := ⟨co_X10_push, xm (i := 65) (by decide +kernel) (by decide +kernel), by decide +kernel, by decide +kernel, by decide⟩
abbrev C_X10_push (d N : Nat) (av : List Value) (σ : XW) (r : Option Value) (τ : XW) : Prop := Ct yX10_push cX10_push 3 none d N (0, 0) av σ (xq N r τ)
theorem im_X10_push : Cond.instanceMethod yX10_push ∈ lw_gd := xm (i := 534) (by decide +kernel) (by decide +kernel)
theorem se_X10_push : Cond.selects yX10_push.cls yX10_push yX10_push ∈ lw_gd := xm (i := 535) (by decide +kernel) (by decide +kernel)
theorem co_X10_isFull : Cond.code yX10_isFull cX10_isFull 1 (some .boolean) ∈ lw_gd := xm (i := 679) (by decide +kernel) (by decide +kernel)
theorem mi_X10_isFull : xMi yX10_isFull cX10_isFull 1 (some .boolean) 0 := ⟨co_X10_isFull, xm (i := 65) (by decide +kernel) (by decide +kernel), by decide +kernel, by decide +kernel, by decide⟩
abbrev C_X10_isFull (d N : Nat) (av : List Value) (σ : XW) (r : Option Value) (τ : XW) : Prop := Ct yX10_isFull cX10_isFull 1 (some .boolean) d N (0, 0) av σ (xq N r τ)
theorem im_X10_isFull : Cond.instanceMethod yX10_isFull ∈ lw_gd := xm (i := 677) (by decide +kernel) (by decide +kernel)
theorem se_X10_isFull : Cond.selects yX10_isFull.cls yX10_isFull yX10_isFull ∈ lw_gd := xm (i := 678) (by decide +kernel) (by decide +kernel)
theorem co_X10_looksRight : Cond.code yX10_looksRight cX10_looksRight 1 (some .boolean) ∈ lw_gd := xm (i := 546) (by decide +kernel) (by decide +kernel)
theorem mi_X10_looksRight : xMi yX10_looksRight cX10_looksRight 1 (some .boolean) 0 := ⟨co_X10_looksRight, xm (i := 65) (by decide +kernel) (by decide +kernel), by decide +kernel, by decide +kernel, by decide⟩
abbrev C_X10_looksRight (d N : Nat) (av : List Value) (σ : XW) (r : Option Value) (τ : XW) : Prop := Ct yX10_looksRight cX10_looksRight 1 (some .boolean) d N (0, 0) av σ (xq N r τ)
theorem im_X10_looksRight : Cond.instanceMethod yX10_looksRight ∈ lw_gd := xm (i := 544) (by decide +kernel) (by decide +kernel)
theorem se_X10_looksRight : Cond.selects yX10_looksRight.cls yX10_looksRight yX10_looksRight ∈ lw_gd := xm (i := 545) (by decide +kernel) (by decide +kernel)
theorem co_X10_syndromeNow : Cond.code yX10_syndromeNow cX10_syndromeNow 1 (some .int) ∈ lw_gd := xm (i := 590) (by decide +kernel) (by decide +kernel)
theorem mi_X10_syndromeNow : xMi yX10_syndromeNow cX10_syndromeNow 1 (some .int) 0 := ⟨co_X10_syndromeNow, xm (i := 65) (by decide +kernel) (by decide +kernel), by decide +kernel, by decide +kernel, by decide⟩
abbrev C_X10_syndromeNow (d N : Nat) (av : List Value) (σ : XW) (r : Option Value) (τ : XW) : Prop := Ct yX10_syndromeNow cX10_syndromeNow 1 (some .int) d N (0, 0) av σ (xq N r τ)
theorem im_X10_syndromeNow : Cond.instanceMethod yX10_syndromeNow ∈ lw_gd := xm (i := 588) (by decide +kernel) (by decide +kernel)
theorem se_X10_syndromeNow : Cond.selects yX10_syndromeNow.cls yX10_syndromeNow yX10_syndromeNow ∈ lw_gd := xm (i := 589) (by decide +kernel) (by decide +kernel)
theorem co_X10_headerNow : Cond.code yX10_headerNow cX10_headerNow 1 (some .int) ∈ lw_gd := xm (i := 594) (by decide +kernel) (by decide +kernel)
theorem mi_X10_headerNow : xMi yX10_headerNow cX10_headerNow 1 (some .int) 0 := ⟨co_X10_headerNow, xm (i := 65) (by decide +kernel) (by decide +kernel), by decide +kernel, by decide +kernel, by decide⟩
abbrev C_X10_headerNow (d N : Nat) (av : List Value) (σ : XW) (r : Option Value) (τ : XW) : Prop := Ct yX10_headerNow cX10_headerNow 1 (some .int) d N (0, 0) av σ (xq N r τ)
theorem im_X10_headerNow : Cond.instanceMethod yX10_headerNow ∈ lw_gd := xm (i := 592) (by decide +kernel) (by decide +kernel)
theorem se_X10_headerNow : Cond.selects yX10_headerNow.cls yX10_headerNow yX10_headerNow ∈ lw_gd := xm (i := 593) (by decide +kernel) (by decide +kernel)
theorem co_X11_init : Cond.code yX11_init cX11_init 1 none ∈ lw_gd := xm (i := 79) (by decide +kernel) (by decide +kernel)
theorem mi_X11_init : xMi yX11_init cX11_init 1 none 0 := ⟨co_X11_init, xm (i := 57) (by decide +kernel) (by decide +kernel), by decide +kernel, by decide +kernel, by decide⟩
abbrev C_X11_init (d N : Nat) (av : List Value) (σ : XW) (r : Option Value) (τ : XW) : Prop := Ct yX11_init cX11_init 1 none d N (0, 0) av σ (xq N r τ)
theorem im_X11_init : Cond.instanceMethod yX11_init ∈ lw_gd := xm (i := 78) (by decide +kernel) (by decide +kernel)
theorem co_X11_feed : Cond.code yX11_feed cX11_feed 6 (some .int) ∈ lw_gd := xm (i := 374) (by decide +kernel) (by decide +kernel)
theorem mi_X11_feed : xMi yX11_feed cX11_feed 6 (some .int) 5 := ⟨co_X11_feed, xm (i := 57) (by decide +kernel) (by decide +kernel), by decide +kernel, by decide +kernel, by decide⟩
abbrev C_X11_feed (d N : Nat) (av : List Value) (σ : XW) (r : Option Value) (τ : XW) : Prop := Ct yX11_feed cX11_feed 6 (some .int) d N (0, 0) av σ (xq N r τ)
theorem im_X11_feed : Cond.instanceMethod yX11_feed ∈ lw_gd := xm (i := 372) (by decide +kernel) (by decide +kernel)
theorem se_X11_feed : Cond.selects yX11_feed.cls yX11_feed yX11_feed ∈ lw_gd := xm (i := 373) (by decide +kernel) (by decide +kernel)
theorem co_X11_bits : Cond.code yX11_bits cX11_bits 3 (some .int) ∈ lw_gd := xm (i := 391) (by decide +kernel) (by decide +kernel)
theorem mi_X11_bits : xMi yX11_bits cX11_bits 3 (some .int) 2 := ⟨co_X11_bits, xm (i := 57) (by decide +kernel) (by decide +kernel), by decide +kernel, by decide +kernel, by decide⟩
abbrev C_X11_bits (d N : Nat) (av : List Value) (σ : XW) (r : Option Value) (τ : XW) : Prop := Ct yX11_bits cX11_bits 3 (some .int) d N (0, 0) av σ (xq N r τ)
theorem im_X11_bits : Cond.instanceMethod yX11_bits ∈ lw_gd := xm (i := 389) (by decide +kernel) (by decide +kernel)
theorem se_X11_bits : Cond.selects yX11_bits.cls yX11_bits yX11_bits ∈ lw_gd := xm (i := 390) (by decide +kernel) (by decide +kernel)
theorem co_X11_send : Cond.code yX11_send cX11_send 3 (some .int) ∈ lw_gd := xm (i := 398) (by decide +kernel) (by decide +kernel)
theorem mi_X11_send : xMi yX11_send cX11_send 3 (some .int) 2 := ⟨co_X11_send, xm (i := 57) (by decide +kernel) (by decide +kernel), by decide +kernel, by decide +kernel, by decide⟩
abbrev C_X11_send (d N : Nat) (av : List Value) (σ : XW) (r : Option Value) (τ : XW) : Prop := Ct yX11_send cX11_send 3 (some .int) d N (0, 0) av σ (xq N r τ)
theorem im_X11_send : Cond.instanceMethod yX11_send ∈ lw_gd := xm (i := 396) (by decide +kernel) (by decide +kernel)
theorem se_X11_send : Cond.selects yX11_send.cls yX11_send yX11_send ∈ lw_gd := xm (i := 397) (by decide +kernel) (by decide +kernel)
theorem co_X11_rest : Cond.code yX11_rest cX11_rest 3 (some .int) ∈ lw_gd := xm (i := 436) (by decide +kernel) (by decide +kernel)
theorem mi_X11_rest : xMi yX11_rest cX11_rest 3 (some .int) 1 := ⟨co_X11_rest, xm (i := 57) (by decide +kernel) (by decide +kernel), by decide +kernel, by decide +kernel, by decide⟩
abbrev C_X11_rest (d N : Nat) (av : List Value) (σ : XW) (r : Option Value) (τ : XW) : Prop := Ct yX11_rest cX11_rest 3 (some .int) d N (0, 0) av σ (xq N r τ)
theorem im_X11_rest : Cond.instanceMethod yX11_rest ∈ lw_gd := xm (i := 434) (by decide +kernel) (by decide +kernel)
theorem se_X11_rest : Cond.selects yX11_rest.cls yX11_rest yX11_rest ∈ lw_gd := xm (i := 435) (by decide +kernel) (by decide +kernel)
theorem co_X11_flip : Cond.code yX11_flip cX11_flip 2 (some .int) ∈ lw_gd := xm (i := 444) (by decide +kernel) (by decide +kernel)
theorem mi_X11_flip : xMi yX11_flip cX11_flip 2 (some .int) 1 := ⟨co_X11_flip, xm (i := 57) (by decide +kernel) (by decide +kernel), by decide +kernel, by decide +kernel, by decide⟩
abbrev C_X11_flip (d N : Nat) (av : List Value) (σ : XW) (r : Option Value) (τ : XW) : Prop := Ct yX11_flip cX11_flip 2 (some .int) d N (0, 0) av σ (xq N r τ)
theorem im_X11_flip : Cond.instanceMethod yX11_flip ∈ lw_gd := xm (i := 442) (by decide +kernel) (by decide +kernel)
theorem se_X11_flip : Cond.selects yX11_flip.cls yX11_flip yX11_flip ∈ lw_gd := xm (i := 443) (by decide +kernel) (by decide +kernel)
theorem co_X11_drop : Cond.code yX11_drop cX11_drop 3 (some .int) ∈ lw_gd := xm (i := 461) (by decide +kernel) (by decide +kernel)
theorem mi_X11_drop : xMi yX11_drop cX11_drop 3 (some .int) 2 := ⟨co_X11_drop, xm (i := 57) (by decide +kernel) (by decide +kernel), by decide +kernel, by decide +kernel, by decide⟩
abbrev C_X11_drop (d N : Nat) (av : List Value) (σ : XW) (r : Option Value) (τ : XW) : Prop := Ct yX11_drop cX11_drop 3 (some .int) d N (0, 0) av σ (xq N r τ)
theorem im_X11_drop : Cond.instanceMethod yX11_drop ∈ lw_gd := xm (i := 459) (by decide +kernel) (by decide +kernel)
theorem se_X11_drop : Cond.selects yX11_drop.cls yX11_drop yX11_drop ∈ lw_gd := xm (i := 460) (by decide +kernel) (by decide +kernel)
theorem co_X11_slip : Cond.code yX11_slip cX11_slip 4 (some .int) ∈ lw_gd := xm (i := 472) (by decide +kernel) (by decide +kernel)
theorem mi_X11_slip : xMi yX11_slip cX11_slip 4 (some .int) 3 := ⟨co_X11_slip, xm (i := 57) (by decide +kernel) (by decide +kernel), by decide +kernel, by decide +kernel, by decide⟩
abbrev C_X11_slip (d N : Nat) (av : List Value) (σ : XW) (r : Option Value) (τ : XW) : Prop := Ct yX11_slip cX11_slip 4 (some .int) d N (0, 0) av σ (xq N r τ)
theorem im_X11_slip : Cond.instanceMethod yX11_slip ∈ lw_gd := xm (i := 470) (by decide +kernel) (by decide +kernel)
theorem se_X11_slip : Cond.selects yX11_slip.cls yX11_slip yX11_slip ∈ lw_gd := xm (i := 471) (by decide +kernel) (by decide +kernel)
theorem co_X11_disturb : Cond.code yX11_disturb cX11_disturb 8 (some .int) ∈ lw_gd := xm (i := 480) (by decide +kernel) (by decide +kernel)
theorem mi_X11_disturb : xMi yX11_disturb cX11_disturb 8 (some .int) 4 := ⟨co_X11_disturb, xm (i := 57) (by decide +kernel) (by decide +kernel), by decide +kernel, by decide +kernel, by decide⟩
abbrev C_X11_disturb (d N : Nat) (av : List Value) (σ : XW) (r : Option Value) (τ : XW) : Prop := Ct yX11_disturb cX11_disturb 8 (some .int) d N (0, 0) av σ (xq N r τ)
theorem im_X11_disturb : Cond.instanceMethod yX11_disturb ∈ lw_gd := xm (i := 478) (by decide +kernel) (by decide +kernel)
theorem se_X11_disturb : Cond.selects yX11_disturb.cls yX11_disturb yX11_disturb ∈ lw_gd := xm (i := 479) (by decide +kernel) (by decide +kernel)
theorem co_X11_bit : Cond.code yX11_bit cX11_bit 2 (some .int) ∈ lw_gd := xm (i := 485) (by decide +kernel) (by decide +kernel)
theorem mi_X11_bit : xMi yX11_bit cX11_bit 2 (some .int) 1 := ⟨co_X11_bit, xm (i := 57) (by decide +kernel) (by decide +kernel), by decide +kernel, by decide +kernel, by decide⟩
abbrev C_X11_bit (d N : Nat) (av : List Value) (σ : XW) (r : Option Value) (τ : XW) : Prop := Ct yX11_bit cX11_bit 2 (some .int) d N (0, 0) av σ (xq N r τ)
theorem im_X11_bit : Cond.instanceMethod yX11_bit ∈ lw_gd := xm (i := 483) (by decide +kernel) (by decide +kernel)
theorem se_X11_bit : Cond.selects yX11_bit.cls yX11_bit yX11_bit ∈ lw_gd := xm (i := 484) (by decide +kernel) (by decide +kernel)
theorem co_X11_empty : Cond.code yX11_empty cX11_empty 2 (some .int) ∈ lw_gd := xm (i := 489) (by decide +kernel) (by decide +kernel)
theorem mi_X11_empty : xMi yX11_empty cX11_empty 2 (some .int) 0 := ⟨co_X11_empty, xm (i := 57) (by decide +kernel) (by decide +kernel), by decide +kernel, by decide +kernel, by decide⟩
abbrev C_X11_empty (d N : Nat) (av : List Value) (σ : XW) (r : Option Value) (τ : XW) : Prop := Ct yX11_empty cX11_empty 2 (some .int) d N (0, 0) av σ (xq N r τ)
theorem im_X11_empty : Cond.instanceMethod yX11_empty ∈ lw_gd := xm (i := 487) (by decide +kernel) (by decide +kernel)
theorem se_X11_empty : Cond.selects yX11_empty.cls yX11_empty yX11_empty ∈ lw_gd := xm (i := 488) (by decide +kernel) (by decide +kernel)
theorem co_X11_terms : Cond.code yX11_terms cX11_terms 4 (some .int) ∈ lw_gd := xm (i := 505) (by decide +kernel) (by decide +kernel)
theorem mi_X11_terms : xMi yX11_terms cX11_terms 4 (some .int) 2 := ⟨co_X11_terms, xm (i := 57) (by decide +kernel) (by decide +kernel), by decide +kernel, by decide +kernel, by decide⟩
abbrev C_X11_terms (d N : Nat) (av : List Value) (σ : XW) (r : Option Value) (τ : XW) : Prop := Ct yX11_terms cX11_terms 4 (some .int) d N (0, 0) av σ (xq N r τ)
theorem im_X11_terms : Cond.instanceMethod yX11_terms ∈ lw_gd := xm (i := 503) (by decide +kernel) (by decide +kernel)
theorem se_X11_terms : Cond.selects yX11_terms.cls yX11_terms yX11_terms ∈ lw_gd := xm (i := 504) (by decide +kernel) (by decide +kernel)
theorem co_X11_take : Cond.code yX11_take cX11_take 3 (some .int) ∈ lw_gd := xm (i := 517) (by decide +kernel) (by decide +kernel)
theorem mi_X11_take : xMi yX11_take cX11_take 3 (some .int) 1 := ⟨co_X11_take, xm (i := 57) (by decide +kernel) (by decide +kernel), by decide +kernel, by decide +kernel, by decide⟩
abbrev C_X11_take (d N : Nat) (av : List Value) (σ : XW) (r : Option Value) (τ : XW) : Prop := Ct yX11_take cX11_take 3 (some .int) d N (0, 0) av σ (xq N r τ)
theorem im_X11_take : Cond.instanceMethod yX11_take ∈ lw_gd := xm (i := 515) (by decide +kernel) (by decide +kernel)
theorem se_X11_take : Cond.selects yX11_take.cls yX11_take yX11_take ∈ lw_gd := xm (i := 516) (by decide +kernel) (by decide +kernel)
theorem co_X11_fresh : Cond.code yX11_fresh cX11_fresh 2 (some .int) ∈ lw_gd := xm (i := 616) (by decide +kernel) (by decide +kernel)
theorem mi_X11_fresh : xMi yX11_fresh cX11_fresh 2 (some .int) 0 := ⟨co_X11_fresh, xm (i := 57) (by decide +kernel) (by decide +kernel), by decide +kernel, by decide +kernel, by decide⟩
abbrev C_X11_fresh (d N : Nat) (av : List Value) (σ : XW) (r : Option Value) (τ : XW) : Prop := Ct yX11_fresh cX11_fresh 2 (some .int) d N (0, 0) av σ (xq N r τ)
theorem im_X11_fresh : Cond.instanceMethod yX11_fresh ∈ lw_gd := xm (i := 614) (by decide +kernel) (by decide +kernel)
theorem se_X11_fresh : Cond.selects yX11_fresh.cls yX11_fresh yX11_fresh ∈ lw_gd := xm (i := 615) (by decide +kernel) (by decide +kernel)
theorem co_X11_stage : Cond.code yX11_stage cX11_stage 3 (some .int) ∈ lw_gd := xm (i := 640) (by decide +kernel) (by decide +kernel)
theorem mi_X11_stage : xMi yX11_stage cX11_stage 3 (some .int) 2 := ⟨co_X11_stage, xm (i := 57) (by decide +kernel) (by decide +kernel), by decide +kernel, by decide +kernel, by decide⟩
abbrev C_X11_stage (d N : Nat) (av : List Value) (σ : XW) (r : Option Value) (τ : XW) : Prop := Ct yX11_stage cX11_stage 3 (some .int) d N (0, 0) av σ (xq N r τ)
theorem im_X11_stage : Cond.instanceMethod yX11_stage ∈ lw_gd := xm (i := 638) (by decide +kernel) (by decide +kernel)
theorem se_X11_stage : Cond.selects yX11_stage.cls yX11_stage yX11_stage ∈ lw_gd := xm (i := 639) (by decide +kernel) (by decide +kernel)
theorem co_X11_stages : Cond.code yX11_stages cX11_stages 3 (some .int) ∈ lw_gd := xm (i := 648) (by decide +kernel) (by decide +kernel)
theorem mi_X11_stages : xMi yX11_stages cX11_stages 3 (some .int) 2 := ⟨co_X11_stages, xm (i := 57) (by decide +kernel) (by decide +kernel), by decide +kernel, by decide +kernel, by decide⟩
abbrev C_X11_stages (d N : Nat) (av : List Value) (σ : XW) (r : Option Value) (τ : XW) : Prop := Ct yX11_stages cX11_stages 3 (some .int) d N (0, 0) av σ (xq N r τ)
theorem im_X11_stages : Cond.instanceMethod yX11_stages ∈ lw_gd := xm (i := 646) (by decide +kernel) (by decide +kernel)
theorem se_X11_stages : Cond.selects yX11_stages.cls yX11_stages yX11_stages ∈ lw_gd := xm (i := 647) (by decide +kernel) (by decide +kernel)
theorem co_X11_state : Cond.code yX11_state cX11_state 2 (some .int) ∈ lw_gd := xm (i := 667) (by decide +kernel) (by decide +kernel)
theorem mi_X11_state : xMi yX11_state cX11_state 2 (some .int) 1 := ⟨co_X11_state, xm (i := 57) (by decide +kernel) (by decide +kernel), by decide +kernel, by decide +kernel, by decide⟩
abbrev C_X11_state (d N : Nat) (av : List Value) (σ : XW) (r : Option Value) (τ : XW) : Prop := Ct yX11_state cX11_state 2 (some .int) d N (0, 0) av σ (xq N r τ)
theorem im_X11_state : Cond.instanceMethod yX11_state ∈ lw_gd := xm (i := 665) (by decide +kernel) (by decide +kernel)
theorem se_X11_state : Cond.selects yX11_state.cls yX11_state yX11_state ∈ lw_gd := xm (i := 666) (by decide +kernel) (by decide +kernel)
theorem co_X11_count : Cond.code yX11_count cX11_count 2 (some .int) ∈ lw_gd := xm (i := 684) (by decide +kernel) (by decide +kernel)
theorem mi_X11_count : xMi yX11_count cX11_count 2 (some .int) 1 := ⟨co_X11_count, xm (i := 57) (by decide +kernel) (by decide +kernel), by decide +kernel, by decide +kernel, by decide⟩
abbrev C_X11_count (d N : Nat) (av : List Value) (σ : XW) (r : Option Value) (τ : XW) : Prop := Ct yX11_count cX11_count 2 (some .int) d N (0, 0) av σ (xq N r τ)
theorem im_X11_count : Cond.instanceMethod yX11_count ∈ lw_gd := xm (i := 682) (by decide +kernel) (by decide +kernel)
theorem se_X11_count : Cond.selects yX11_count.cls yX11_count yX11_count ∈ lw_gd := xm (i := 683) (by decide +kernel) (by decide +kernel)
theorem co_X11_delivered : Cond.code yX11_delivered cX11_delivered 3 (some .int) ∈ lw_gd := xm (i := 688) (by decide +kernel) (by decide +kernel)
theorem mi_X11_delivered : xMi yX11_delivered cX11_delivered 3 (some .int) 2 := ⟨co_X11_delivered, xm (i := 57) (by decide +kernel) (by decide +kernel), by decide +kernel, by decide +kernel, by decide⟩
abbrev C_X11_delivered (d N : Nat) (av : List Value) (σ : XW) (r : Option Value) (τ : XW) : Prop := Ct yX11_delivered cX11_delivered 3 (some .int) d N (0, 0) av σ (xq N r τ)
theorem im_X11_delivered : Cond.instanceMethod yX11_delivered ∈ lw_gd := xm (i := 686) (by decide +kernel) (by decide +kernel)
theorem se_X11_delivered : Cond.selects yX11_delivered.cls yX11_delivered yX11_delivered ∈ lw_gd := xm (i := 687) (by decide +kernel) (by decide +kernel)
theorem co_X11_load : Cond.code yX11_load cX11_load 3 (some .int) ∈ lw_gd := xm (i := 718) (by decide +kernel) (by decide +kernel)
theorem mi_X11_load : xMi yX11_load cX11_load 3 (some .int) 2 := ⟨co_X11_load, xm (i := 57) (by decide +kernel) (by decide +kernel), by decide +kernel, by decide +kernel, by decide⟩
abbrev C_X11_load (d N : Nat) (av : List Value) (σ : XW) (r : Option Value) (τ : XW) : Prop := Ct yX11_load cX11_load 3 (some .int) d N (0, 0) av σ (xq N r τ)
theorem im_X11_load : Cond.instanceMethod yX11_load ∈ lw_gd := xm (i := 716) (by decide +kernel) (by decide +kernel)
theorem se_X11_load : Cond.selects yX11_load.cls yX11_load yX11_load ∈ lw_gd := xm (i := 717) (by decide +kernel) (by decide +kernel)
theorem co_X11_field : Cond.code yX11_field cX11_field 4 (some .int) ∈ lw_gd := xm (i := 727) (by decide +kernel) (by decide +kernel)
theorem mi_X11_field : xMi yX11_field cX11_field 4 (some .int) 2 := ⟨co_X11_field, xm (i := 57) (by decide +kernel) (by decide +kernel), by decide +kernel, by decide +kernel, by decide⟩
abbrev C_X11_field (d N : Nat) (av : List Value) (σ : XW) (r : Option Value) (τ : XW) : Prop := Ct yX11_field cX11_field 4 (some .int) d N (0, 0) av σ (xq N r τ)
theorem im_X11_field : Cond.instanceMethod yX11_field ∈ lw_gd := xm (i := 725) (by decide +kernel) (by decide +kernel)
theorem se_X11_field : Cond.selects yX11_field.cls yX11_field yX11_field ∈ lw_gd := xm (i := 726) (by decide +kernel) (by decide +kernel)
theorem co_X11_judged : Cond.code yX11_judged cX11_judged 3 (some .int) ∈ lw_gd := xm (i := 732) (by decide +kernel) (by decide +kernel)
theorem mi_X11_judged : xMi yX11_judged cX11_judged 3 (some .int) 2 := ⟨co_X11_judged, xm (i := 57) (by decide +kernel) (by decide +kernel), by decide +kernel, by decide +kernel, by decide⟩
abbrev C_X11_judged (d N : Nat) (av : List Value) (σ : XW) (r : Option Value) (τ : XW) : Prop := Ct yX11_judged cX11_judged 3 (some .int) d N (0, 0) av σ (xq N r τ)
theorem im_X11_judged : Cond.instanceMethod yX11_judged ∈ lw_gd := xm (i := 730) (by decide +kernel) (by decide +kernel)
theorem se_X11_judged : Cond.selects yX11_judged.cls yX11_judged yX11_judged ∈ lw_gd := xm (i := 731) (by decide +kernel) (by decide +kernel)
theorem co_X11_turn : Cond.code yX11_turn cX11_turn 3 (some .int) ∈ lw_gd := xm (i := 736) (by decide +kernel) (by decide +kernel)
theorem mi_X11_turn : xMi yX11_turn cX11_turn 3 (some .int) 2 := ⟨co_X11_turn, xm (i := 57) (by decide +kernel) (by decide +kernel), by decide +kernel, by decide +kernel, by decide⟩
abbrev C_X11_turn (d N : Nat) (av : List Value) (σ : XW) (r : Option Value) (τ : XW) : Prop := Ct yX11_turn cX11_turn 3 (some .int) d N (0, 0) av σ (xq N r τ)
theorem im_X11_turn : Cond.instanceMethod yX11_turn ∈ lw_gd := xm (i := 734) (by decide +kernel) (by decide +kernel)
theorem se_X11_turn : Cond.selects yX11_turn.cls yX11_turn yX11_turn ∈ lw_gd := xm (i := 735) (by decide +kernel) (by decide +kernel)
theorem co_X11_lost : Cond.code yX11_lost cX11_lost 5 (some .int) ∈ lw_gd := xm (i := 740) (by decide +kernel) (by decide +kernel)
theorem mi_X11_lost : xMi yX11_lost cX11_lost 5 (some .int) 0 := ⟨co_X11_lost, xm (i := 57) (by decide +kernel) (by decide +kernel), by decide +kernel, by decide +kernel, by decide⟩
abbrev C_X11_lost (d N : Nat) (av : List Value) (σ : XW) (r : Option Value) (τ : XW) : Prop := Ct yX11_lost cX11_lost 5 (some .int) d N (0, 0) av σ (xq N r τ)
theorem im_X11_lost : Cond.instanceMethod yX11_lost ∈ lw_gd := xm (i := 738) (by decide +kernel) (by decide +kernel)
theorem se_X11_lost : Cond.selects yX11_lost.cls yX11_lost yX11_lost ∈ lw_gd := xm (i := 739) (by decide +kernel) (by decide +kernel)
theorem co_X11_look : Cond.code yX11_look cX11_look 2 (some .int) ∈ lw_gd := xm (i := 746) (by decide +kernel) (by decide +kernel)
theorem mi_X11_look : xMi yX11_look cX11_look 2 (some .int) 1 := ⟨co_X11_look, xm (i := 57) (by decide +kernel) (by decide +kernel), by decide +kernel, by decide +kernel, by decide⟩
abbrev C_X11_look (d N : Nat) (av : List Value) (σ : XW) (r : Option Value) (τ : XW) : Prop := Ct yX11_look cX11_look 2 (some .int) d N (0, 0) av σ (xq N r τ)
theorem im_X11_look : Cond.instanceMethod yX11_look ∈ lw_gd := xm (i := 744) (by decide +kernel) (by decide +kernel)
theorem se_X11_look : Cond.selects yX11_look.cls yX11_look yX11_look ∈ lw_gd := xm (i := 745) (by decide +kernel) (by decide +kernel)
theorem co_X11_until : Cond.code yX11_until cX11_until 3 (some .int) ∈ lw_gd := xm (i := 763) (by decide +kernel) (by decide +kernel)
theorem mi_X11_until : xMi yX11_until cX11_until 3 (some .int) 1 := ⟨co_X11_until, xm (i := 57) (by decide +kernel) (by decide +kernel), by decide +kernel, by decide +kernel, by decide⟩
abbrev C_X11_until (d N : Nat) (av : List Value) (σ : XW) (r : Option Value) (τ : XW) : Prop := Ct yX11_until cX11_until 3 (some .int) d N (0, 0) av σ (xq N r τ)
theorem im_X11_until : Cond.instanceMethod yX11_until ∈ lw_gd := xm (i := 761) (by decide +kernel) (by decide +kernel)
theorem se_X11_until : Cond.selects yX11_until.cls yX11_until yX11_until ∈ lw_gd := xm (i := 762) (by decide +kernel) (by decide +kernel)
theorem co_X11_would : Cond.code yX11_would cX11_would 3 (some .int) ∈ lw_gd := xm (i := 767) (by decide +kernel) (by decide +kernel)
theorem mi_X11_would : xMi yX11_would cX11_would 3 (some .int) 2 := ⟨co_X11_would, xm (i := 57) (by decide +kernel) (by decide +kernel), by decide +kernel, by decide +kernel, by decide⟩
abbrev C_X11_would (d N : Nat) (av : List Value) (σ : XW) (r : Option Value) (τ : XW) : Prop := Ct yX11_would cX11_would 3 (some .int) d N (0, 0) av σ (xq N r τ)
theorem im_X11_would : Cond.instanceMethod yX11_would ∈ lw_gd := xm (i := 765) (by decide +kernel) (by decide +kernel)
theorem se_X11_would : Cond.selects yX11_would.cls yX11_would yX11_would ∈ lw_gd := xm (i := 766) (by decide +kernel) (by decide +kernel)
theorem co_X11_worst : Cond.code yX11_worst cX11_worst 6 (some .int) ∈ lw_gd := xm (i := 771) (by decide +kernel) (by decide +kernel)
theorem mi_X11_worst : xMi yX11_worst cX11_worst 6 (some .int) 0 := ⟨co_X11_worst, xm (i := 57) (by decide +kernel) (by decide +kernel), by decide +kernel, by decide +kernel, by decide⟩
abbrev C_X11_worst (d N : Nat) (av : List Value) (σ : XW) (r : Option Value) (τ : XW) : Prop := Ct yX11_worst cX11_worst 6 (some .int) d N (0, 0) av σ (xq N r τ)
theorem im_X11_worst : Cond.instanceMethod yX11_worst ∈ lw_gd := xm (i := 769) (by decide +kernel) (by decide +kernel)
theorem se_X11_worst : Cond.selects yX11_worst.cls yX11_worst yX11_worst ∈ lw_gd := xm (i := 770) (by decide +kernel) (by decide +kernel)
theorem co_X11_regained : Cond.code yX11_regained cX11_regained 2 (some .int) ∈ lw_gd := xm (i := 775) (by decide +kernel) (by decide +kernel)
theorem mi_X11_regained : xMi yX11_regained cX11_regained 2 (some .int) 1 := ⟨co_X11_regained, xm (i := 57) (by decide +kernel) (by decide +kernel), by decide +kernel, by decide +kernel, by decide⟩
abbrev C_X11_regained (d N : Nat) (av : List Value) (σ : XW) (r : Option Value) (τ : XW) : Prop := Ct yX11_regained cX11_regained 2 (some .int) d N (0, 0) av σ (xq N r τ)
theorem im_X11_regained : Cond.instanceMethod yX11_regained ∈ lw_gd := xm (i := 773) (by decide +kernel) (by decide +kernel)
theorem se_X11_regained : Cond.selects yX11_regained.cls yX11_regained yX11_regained ∈ lw_gd := xm (i := 774) (by decide +kernel) (by decide +kernel)
theorem co_X11_spread : Cond.code yX11_spread cX11_spread 9 (some .int) ∈ lw_gd := xm (i := 787) (by decide +kernel) (by decide +kernel)
theorem mi_X11_spread : xMi yX11_spread cX11_spread 9 (some .int) 2 := ⟨co_X11_spread, xm (i := 57) (by decide +kernel) (by decide +kernel), by decide +kernel, by decide +kernel, by decide⟩
abbrev C_X11_spread (d N : Nat) (av : List Value) (σ : XW) (r : Option Value) (τ : XW) : Prop := Ct yX11_spread cX11_spread 9 (some .int) d N (0, 0) av σ (xq N r τ)
theorem im_X11_spread : Cond.instanceMethod yX11_spread ∈ lw_gd := xm (i := 785) (by decide +kernel) (by decide +kernel)
theorem se_X11_spread : Cond.selects yX11_spread.cls yX11_spread yX11_spread ∈ lw_gd := xm (i := 786) (by decide +kernel) (by decide +kernel)
theorem co_X11_rights : Cond.code yX11_rights cX11_rights 7 (some .int) ∈ lw_gd := xm (i := 795) (by decide +kernel) (by decide +kernel)
theorem mi_X11_rights : xMi yX11_rights cX11_rights 7 (some .int) 3 := ⟨co_X11_rights, xm (i := 57) (by decide +kernel) (by decide +kernel), by decide +kernel, by decide +kernel, by decide⟩
abbrev C_X11_rights (d N : Nat) (av : List Value) (σ : XW) (r : Option Value) (τ : XW) : Prop := Ct yX11_rights cX11_rights 7 (some .int) d N (0, 0) av σ (xq N r τ)
theorem im_X11_rights : Cond.instanceMethod yX11_rights ∈ lw_gd := xm (i := 793) (by decide +kernel) (by decide +kernel)
theorem se_X11_rights : Cond.selects yX11_rights.cls yX11_rights yX11_rights ∈ lw_gd := xm (i := 794) (by decide +kernel) (by decide +kernel)
theorem co_X11_phase : Cond.code yX11_phase cX11_phase 5 (some .int) ∈ lw_gd := xm (i := 802) (by decide +kernel) (by decide +kernel)
theorem mi_X11_phase : xMi yX11_phase cX11_phase 5 (some .int) 1 := ⟨co_X11_phase, xm (i := 57) (by decide +kernel) (by decide +kernel), by decide +kernel, by decide +kernel, by decide⟩
abbrev C_X11_phase (d N : Nat) (av : List Value) (σ : XW) (r : Option Value) (τ : XW) : Prop := Ct yX11_phase cX11_phase 5 (some .int) d N (0, 0) av σ (xq N r τ)
theorem im_X11_phase : Cond.instanceMethod yX11_phase ∈ lw_gd := xm (i := 800) (by decide +kernel) (by decide +kernel)
theorem se_X11_phase : Cond.selects yX11_phase.cls yX11_phase yX11_phase ∈ lw_gd := xm (i := 801) (by decide +kernel) (by decide +kernel)
theorem co_X11_tuned : Cond.code yX11_tuned cX11_tuned 6 (some .int) ∈ lw_gd := xm (i := 811) (by decide +kernel) (by decide +kernel)
theorem mi_X11_tuned : xMi yX11_tuned cX11_tuned 6 (some .int) 1 := ⟨co_X11_tuned, xm (i := 57) (by decide +kernel) (by decide +kernel), by decide +kernel, by decide +kernel, by decide⟩
abbrev C_X11_tuned (d N : Nat) (av : List Value) (σ : XW) (r : Option Value) (τ : XW) : Prop := Ct yX11_tuned cX11_tuned 6 (some .int) d N (0, 0) av σ (xq N r τ)
theorem im_X11_tuned : Cond.instanceMethod yX11_tuned ∈ lw_gd := xm (i := 809) (by decide +kernel) (by decide +kernel)
theorem se_X11_tuned : Cond.selects yX11_tuned.cls yX11_tuned yX11_tuned ∈ lw_gd := xm (i := 810) (by decide +kernel) (by decide +kernel)
theorem co_X11_starts : Cond.code yX11_starts cX11_starts 8 (some .int) ∈ lw_gd := xm (i := 815) (by decide +kernel) (by decide +kernel)
theorem mi_X11_starts : xMi yX11_starts cX11_starts 8 (some .int) 1 := ⟨co_X11_starts, xm (i := 57) (by decide +kernel) (by decide +kernel), by decide +kernel, by decide +kernel, by decide⟩
abbrev C_X11_starts (d N : Nat) (av : List Value) (σ : XW) (r : Option Value) (τ : XW) : Prop := Ct yX11_starts cX11_starts 8 (some .int) d N (0, 0) av σ (xq N r τ)
theorem im_X11_starts : Cond.instanceMethod yX11_starts ∈ lw_gd := xm (i := 813) (by decide +kernel) (by decide +kernel)
theorem se_X11_starts : Cond.selects yX11_starts.cls yX11_starts yX11_starts ∈ lw_gd := xm (i := 814) (by decide +kernel) (by decide +kernel)
theorem co_X11_check : Cond.code yX11_check cX11_check 2 (some .int) ∈ lw_gd := xm (i := 820) (by decide +kernel) (by decide +kernel)
theorem mi_X11_check : xMi yX11_check cX11_check 2 (some .int) 1 := ⟨co_X11_check, xm (i := 57) (by decide +kernel) (by decide +kernel), by decide +kernel, by decide +kernel, by decide⟩
abbrev C_X11_check (d N : Nat) (av : List Value) (σ : XW) (r : Option Value) (τ : XW) : Prop := Ct yX11_check cX11_check 2 (some .int) d N (0, 0) av σ (xq N r τ)
theorem im_X11_check : Cond.instanceMethod yX11_check ∈ lw_gd := xm (i := 818) (by decide +kernel) (by decide +kernel)
theorem se_X11_check : Cond.selects yX11_check.cls yX11_check yX11_check ∈ lw_gd := xm (i := 819) (by decide +kernel) (by decide +kernel)
theorem co_X11_syndrome : Cond.code yX11_syndrome cX11_syndrome 3 (some .int) ∈ lw_gd := xm (i := 825) (by decide +kernel) (by decide +kernel)
theorem mi_X11_syndrome : xMi yX11_syndrome cX11_syndrome 3 (some .int) 2 := ⟨co_X11_syndrome, xm (i := 57) (by decide +kernel) (by decide +kernel), by decide +kernel, by decide +kernel, by decide⟩
abbrev C_X11_syndrome (d N : Nat) (av : List Value) (σ : XW) (r : Option Value) (τ : XW) : Prop := Ct yX11_syndrome cX11_syndrome 3 (some .int) d N (0, 0) av σ (xq N r τ)
theorem im_X11_syndrome : Cond.instanceMethod yX11_syndrome ∈ lw_gd := xm (i := 823) (by decide +kernel) (by decide +kernel)
theorem se_X11_syndrome : Cond.selects yX11_syndrome.cls yX11_syndrome yX11_syndrome ∈ lw_gd := xm (i := 824) (by decide +kernel) (by decide +kernel)
theorem co_X11_single : Cond.code yX11_single cX11_single 2 (some .int) ∈ lw_gd := xm (i := 832) (by decide +kernel) (by decide +kernel)
theorem mi_X11_single : xMi yX11_single cX11_single 2 (some .int) 1 := ⟨co_X11_single, xm (i := 57) (by decide +kernel) (by decide +kernel), by decide +kernel, by decide +kernel, by decide⟩
abbrev C_X11_single (d N : Nat) (av : List Value) (σ : XW) (r : Option Value) (τ : XW) : Prop := Ct yX11_single cX11_single 2 (some .int) d N (0, 0) av σ (xq N r τ)
theorem im_X11_single : Cond.instanceMethod yX11_single ∈ lw_gd := xm (i := 830) (by decide +kernel) (by decide +kernel)
theorem se_X11_single : Cond.selects yX11_single.cls yX11_single yX11_single ∈ lw_gd := xm (i := 831) (by decide +kernel) (by decide +kernel)
theorem co_X11_latest : Cond.code yX11_latest cX11_latest 8 (some .int) ∈ lw_gd := xm (i := 837) (by decide +kernel) (by decide +kernel)
theorem mi_X11_latest : xMi yX11_latest cX11_latest 8 (some .int) 1 := ⟨co_X11_latest, xm (i := 57) (by decide +kernel) (by decide +kernel), by decide +kernel, by decide +kernel, by decide⟩
abbrev C_X11_latest (d N : Nat) (av : List Value) (σ : XW) (r : Option Value) (τ : XW) : Prop := Ct yX11_latest cX11_latest 8 (some .int) d N (0, 0) av σ (xq N r τ)
theorem im_X11_latest : Cond.instanceMethod yX11_latest ∈ lw_gd := xm (i := 835) (by decide +kernel) (by decide +kernel)
theorem se_X11_latest : Cond.selects yX11_latest.cls yX11_latest yX11_latest ∈ lw_gd := xm (i := 836) (by decide +kernel) (by decide +kernel)
theorem co_X11_pairs : Cond.code yX11_pairs cX11_pairs 3 (some .int) ∈ lw_gd := xm (i := 841) (by decide +kernel) (by decide +kernel)
theorem mi_X11_pairs : xMi yX11_pairs cX11_pairs 3 (some .int) 2 := ⟨co_X11_pairs, xm (i := 57) (by decide +kernel) (by decide +kernel), by decide +kernel, by decide +kernel, by decide⟩
abbrev C_X11_pairs (d N : Nat) (av : List Value) (σ : XW) (r : Option Value) (τ : XW) : Prop := Ct yX11_pairs cX11_pairs 3 (some .int) d N (0, 0) av σ (xq N r τ)
theorem im_X11_pairs : Cond.instanceMethod yX11_pairs ∈ lw_gd := xm (i := 839) (by decide +kernel) (by decide +kernel)
theorem se_X11_pairs : Cond.selects yX11_pairs.cls yX11_pairs yX11_pairs ∈ lw_gd := xm (i := 840) (by decide +kernel) (by decide +kernel)
theorem co_X11_nearest : Cond.code yX11_nearest cX11_nearest 4 (some .int) ∈ lw_gd := xm (i := 853) (by decide +kernel) (by decide +kernel)
theorem mi_X11_nearest : xMi yX11_nearest cX11_nearest 4 (some .int) 2 := ⟨co_X11_nearest, xm (i := 57) (by decide +kernel) (by decide +kernel), by decide +kernel, by decide +kernel, by decide⟩
abbrev C_X11_nearest (d N : Nat) (av : List Value) (σ : XW) (r : Option Value) (τ : XW) : Prop := Ct yX11_nearest cX11_nearest 4 (some .int) d N (0, 0) av σ (xq N r τ)
theorem im_X11_nearest : Cond.instanceMethod yX11_nearest ∈ lw_gd := xm (i := 851) (by decide +kernel) (by decide +kernel)
theorem se_X11_nearest : Cond.selects yX11_nearest.cls yX11_nearest yX11_nearest ∈ lw_gd := xm (i := 852) (by decide +kernel) (by decide +kernel)
theorem co_X11_mending : Cond.code yX11_mending cX11_mending 6 (some .int) ∈ lw_gd := xm (i := 869) (by decide +kernel) (by decide +kernel)
theorem mi_X11_mending : xMi yX11_mending cX11_mending 6 (some .int) 3 := ⟨co_X11_mending, xm (i := 57) (by decide +kernel) (by decide +kernel), by decide +kernel, by decide +kernel, by decide⟩
abbrev C_X11_mending (d N : Nat) (av : List Value) (σ : XW) (r : Option Value) (τ : XW) : Prop := Ct yX11_mending cX11_mending 6 (some .int) d N (0, 0) av σ (xq N r τ)
theorem im_X11_mending : Cond.instanceMethod yX11_mending ∈ lw_gd := xm (i := 867) (by decide +kernel) (by decide +kernel)
theorem se_X11_mending : Cond.selects yX11_mending.cls yX11_mending yX11_mending ∈ lw_gd := xm (i := 868) (by decide +kernel) (by decide +kernel)
theorem co_X11_words : Cond.code yX11_words cX11_words 2 (some .long) ∈ lw_gd := xm (i := 877) (by decide +kernel) (by decide +kernel)
theorem mi_X11_words : xMi yX11_words cX11_words 2 (some .long) 1 := ⟨co_X11_words, xm (i := 57) (by decide +kernel) (by decide +kernel), by decide +kernel, by decide +kernel, by decide⟩
abbrev C_X11_words (d N : Nat) (av : List Value) (σ : XW) (r : Option Value) (τ : XW) : Prop := Ct yX11_words cX11_words 2 (some .long) d N (0, 0) av σ (xq N r τ)
theorem im_X11_words : Cond.instanceMethod yX11_words ∈ lw_gd := xm (i := 875) (by decide +kernel) (by decide +kernel)
theorem se_X11_words : Cond.selects yX11_words.cls yX11_words yX11_words ∈ lw_gd := xm (i := 876) (by decide +kernel) (by decide +kernel)
theorem co_X11_cases : Cond.code yX11_cases cX11_cases 7 (some .long) ∈ lw_gd := xm (i := 909) (by decide +kernel) (by decide +kernel)
theorem mi_X11_cases : xMi yX11_cases cX11_cases 7 (some .long) 2 := ⟨co_X11_cases, xm (i := 57) (by decide +kernel) (by decide +kernel), by decide +kernel, by decide +kernel, by decide⟩
abbrev C_X11_cases (d N : Nat) (av : List Value) (σ : XW) (r : Option Value) (τ : XW) : Prop := Ct yX11_cases cX11_cases 7 (some .long) d N (0, 0) av σ (xq N r τ)
theorem im_X11_cases : Cond.instanceMethod yX11_cases ∈ lw_gd := xm (i := 907) (by decide +kernel) (by decide +kernel)
theorem se_X11_cases : Cond.selects yX11_cases.cls yX11_cases yX11_cases ∈ lw_gd := xm (i := 908) (by decide +kernel) (by decide +kernel)
theorem co_X11_unseen : Cond.code yX11_unseen cX11_unseen 3 (some .long) ∈ lw_gd := xm (i := 922) (by decide +kernel) (by decide +kernel)
theorem mi_X11_unseen : xMi yX11_unseen cX11_unseen 3 (some .long) 2 := ⟨co_X11_unseen, xm (i := 57) (by decide +kernel) (by decide +kernel), by decide +kernel, by decide +kernel, by decide⟩
abbrev C_X11_unseen (d N : Nat) (av : List Value) (σ : XW) (r : Option Value) (τ : XW) : Prop := Ct yX11_unseen cX11_unseen 3 (some .long) d N (0, 0) av σ (xq N r τ)
theorem im_X11_unseen : Cond.instanceMethod yX11_unseen ∈ lw_gd := xm (i := 920) (by decide +kernel) (by decide +kernel)
theorem se_X11_unseen : Cond.selects yX11_unseen.cls yX11_unseen yX11_unseen ∈ lw_gd := xm (i := 921) (by decide +kernel) (by decide +kernel)
theorem co_X11_odds : Cond.code yX11_odds cX11_odds 5 (some .long) ∈ lw_gd := xm (i := 945) (by decide +kernel) (by decide +kernel)
theorem mi_X11_odds : xMi yX11_odds cX11_odds 5 (some .long) 4 := ⟨co_X11_odds, xm (i := 57) (by decide +kernel) (by decide +kernel), by decide +kernel, by decide +kernel, by decide⟩
abbrev C_X11_odds (d N : Nat) (av : List Value) (σ : XW) (r : Option Value) (τ : XW) : Prop := Ct yX11_odds cX11_odds 5 (some .long) d N (0, 0) av σ (xq N r τ)
theorem im_X11_odds : Cond.instanceMethod yX11_odds ∈ lw_gd := xm (i := 943) (by decide +kernel) (by decide +kernel)
theorem se_X11_odds : Cond.selects yX11_odds.cls yX11_odds yX11_odds ∈ lw_gd := xm (i := 944) (by decide +kernel) (by decide +kernel)
theorem co_X11_mean : Cond.code yX11_mean cX11_mean 7 (some .long) ∈ lw_gd := xm (i := 966) (by decide +kernel) (by decide +kernel)
theorem mi_X11_mean : xMi yX11_mean cX11_mean 7 (some .long) 3 := ⟨co_X11_mean, xm (i := 57) (by decide +kernel) (by decide +kernel), by decide +kernel, by decide +kernel, by decide⟩
abbrev C_X11_mean (d N : Nat) (av : List Value) (σ : XW) (r : Option Value) (τ : XW) : Prop := Ct yX11_mean cX11_mean 7 (some .long) d N (0, 0) av σ (xq N r τ)
theorem im_X11_mean : Cond.instanceMethod yX11_mean ∈ lw_gd := xm (i := 964) (by decide +kernel) (by decide +kernel)
theorem se_X11_mean : Cond.selects yX11_mean.cls yX11_mean yX11_mean ∈ lw_gd := xm (i := 965) (by decide +kernel) (by decide +kernel)
theorem co_X11_half : Cond.code yX11_half cX11_half 4 (some .int) ∈ lw_gd := xm (i := 978) (by decide +kernel) (by decide +kernel)
theorem mi_X11_half : xMi yX11_half cX11_half 4 (some .int) 2 := ⟨co_X11_half, xm (i := 57) (by decide +kernel) (by decide +kernel), by decide +kernel, by decide +kernel, by decide⟩
abbrev C_X11_half (d N : Nat) (av : List Value) (σ : XW) (r : Option Value) (τ : XW) : Prop := Ct yX11_half cX11_half 4 (some .int) d N (0, 0) av σ (xq N r τ)
theorem im_X11_half : Cond.instanceMethod yX11_half ∈ lw_gd := xm (i := 976) (by decide +kernel) (by decide +kernel)
theorem se_X11_half : Cond.selects yX11_half.cls yX11_half yX11_half ∈ lw_gd := xm (i := 977) (by decide +kernel) (by decide +kernel)
theorem co_X11_told : Cond.code yX11_told cX11_told 2 (some .int) ∈ lw_gd := xm (i := 983) (by decide +kernel) (by decide +kernel)
theorem mi_X11_told : xMi yX11_told cX11_told 2 (some .int) 1 := ⟨co_X11_told, xm (i := 57) (by decide +kernel) (by decide +kernel), by decide +kernel, by decide +kernel, by decide⟩
abbrev C_X11_told (d N : Nat) (av : List Value) (σ : XW) (r : Option Value) (τ : XW) : Prop := Ct yX11_told cX11_told 2 (some .int) d N (0, 0) av σ (xq N r τ)
theorem im_X11_told : Cond.instanceMethod yX11_told ∈ lw_gd := xm (i := 981) (by decide +kernel) (by decide +kernel)
theorem se_X11_told : Cond.selects yX11_told.cls yX11_told yX11_told ∈ lw_gd := xm (i := 982) (by decide +kernel) (by decide +kernel)
theorem co_X11_isWithin : Cond.code yX11_isWithin cX11_isWithin 3 (some .boolean) ∈ lw_gd := xm (i := 394) (by decide +kernel) (by decide +kernel)
theorem mi_X11_isWithin : xMi yX11_isWithin cX11_isWithin 3 (some .boolean) 3 := ⟨co_X11_isWithin, xm (i := 57) (by decide +kernel) (by decide +kernel), by decide +kernel, by decide +kernel, by decide⟩
abbrev C_X11_isWithin (d N : Nat) (av : List Value) (σ : XW) (r : Option Value) (τ : XW) : Prop := Ct yX11_isWithin cX11_isWithin 3 (some .boolean) d N (0, 0) av σ (xq N r τ)
theorem st_X11_isWithin : Cond.static yX11_isWithin ∈ lw_gd := xm (i := 393) (by decide +kernel) (by decide +kernel)
theorem co_X11_isByte : Cond.code yX11_isByte cX11_isByte 1 (some .boolean) ∈ lw_gd := xm (i := 828) (by decide +kernel) (by decide +kernel)
theorem mi_X11_isByte : xMi yX11_isByte cX11_isByte 1 (some .boolean) 1 := ⟨co_X11_isByte, xm (i := 57) (by decide +kernel) (by decide +kernel), by decide +kernel, by decide +kernel, by decide⟩
abbrev C_X11_isByte (d N : Nat) (av : List Value) (σ : XW) (r : Option Value) (τ : XW) : Prop := Ct yX11_isByte cX11_isByte 1 (some .boolean) d N (0, 0) av σ (xq N r τ)
theorem st_X11_isByte : Cond.static yX11_isByte ∈ lw_gd := xm (i := 827) (by decide +kernel) (by decide +kernel)
theorem co_X11_hasRoomForCells : Cond.code yX11_hasRoomForCells cX11_hasRoomForCells 3 (some .boolean) ∈ lw_gd := xm (i := 403) (by decide +kernel) (by decide +kernel)
theorem mi_X11_hasRoomForCells : xMi yX11_hasRoomForCells cX11_hasRoomForCells 3 (some .boolean) 1 := ⟨co_X11_hasRoomForCells, xm (i := 57) (by decide +kernel) (by decide +kernel), by decide +kernel, by decide +kernel, by decide⟩
abbrev C_X11_hasRoomForCells (d N : Nat) (av : List Value) (σ : XW) (r : Option Value) (τ : XW) : Prop := Ct yX11_hasRoomForCells cX11_hasRoomForCells 3 (some .boolean) d N (0, 0) av σ (xq N r τ)
theorem im_X11_hasRoomForCells : Cond.instanceMethod yX11_hasRoomForCells ∈ lw_gd := xm (i := 402) (by decide +kernel) (by decide +kernel)
theorem se_X11_hasRoomForCells : Cond.selects yX11_hasRoomForCells.cls yX11_hasRoomForCells yX11_hasRoomForCells ∈ lw_gd := xm (i := 1) (by decide +kernel) (by decide +kernel)
theorem co_X11_isLoadHeld : Cond.code yX11_isLoadHeld cX11_isLoadHeld 1 (some .boolean) ∈ lw_gd := xm (i := 513) (by decide +kernel) (by decide +kernel)
theorem mi_X11_isLoadHeld : xMi yX11_isLoadHeld cX11_isLoadHeld 1 (some .boolean) 0 := ⟨co_X11_isLoadHeld, xm (i := 57) (by decide +kernel) (by decide +kernel), by decide +kernel, by decide +kernel, by decide⟩
abbrev C_X11_isLoadHeld (d N : Nat) (av : List Value) (σ : XW) (r : Option Value) (τ : XW) : Prop := Ct yX11_isLoadHeld cX11_isLoadHeld 1 (some .boolean) d N (0, 0) av σ (xq N r τ)
theorem im_X11_isLoadHeld : Cond.instanceMethod yX11_isLoadHeld ∈ lw_gd := xm (i := 512) (by decide +kernel) (by decide +kernel)
theorem se_X11_isLoadHeld : Cond.selects yX11_isLoadHeld.cls yX11_isLoadHeld yX11_isLoadHeld ∈ lw_gd := xm (i := 3) (by decide +kernel) (by decide +kernel)
theorem co_X11_endOf : Cond.code yX11_endOf cX11_endOf 2 (some .int) ∈ lw_gd := xm (i := 521) (by decide +kernel) (by decide +kernel)
theorem mi_X11_endOf : xMi yX11_endOf cX11_endOf 2 (some .int) 1 := ⟨co_X11_endOf, xm (i := 57) (by decide +kernel) (by decide +kernel), by decide +kernel, by decide +kernel, by decide⟩
abbrev C_X11_endOf (d N : Nat) (av : List Value) (σ : XW) (r : Option Value) (τ : XW) : Prop := Ct yX11_endOf cX11_endOf 2 (some .int) d N (0, 0) av σ (xq N r τ)
theorem im_X11_endOf : Cond.instanceMethod yX11_endOf ∈ lw_gd := xm (i := 520) (by decide +kernel) (by decide +kernel)
theorem se_X11_endOf : Cond.selects yX11_endOf.cls yX11_endOf yX11_endOf ∈ lw_gd := xm (i := 4) (by decide +kernel) (by decide +kernel)
theorem co_X11_advance : Cond.code yX11_advance cX11_advance 6 none ∈ lw_gd := xm (i := 528) (by decide +kernel) (by decide +kernel)
theorem mi_X11_advance : xMi yX11_advance cX11_advance 6 none 3 := ⟨co_X11_advance, xm (i := 57) (by decide +kernel) (by decide +kernel), by decide +kernel, by decide +kernel, by decide⟩
abbrev C_X11_advance (d N : Nat) (av : List Value) (σ : XW) (r : Option Value) (τ : XW) : Prop := Ct yX11_advance cX11_advance 6 none d N (0, 0) av σ (xq N r τ)
theorem im_X11_advance : Cond.instanceMethod yX11_advance ∈ lw_gd := xm (i := 527) (by decide +kernel) (by decide +kernel)
theorem se_X11_advance : Cond.selects yX11_advance.cls yX11_advance yX11_advance ∈ lw_gd := xm (i := 5) (by decide +kernel) (by decide +kernel)
theorem co_X11_foundOf : Cond.code yX11_foundOf cX11_foundOf 2 (some .int) ∈ lw_gd := xm (i := 700) (by decide +kernel) (by decide +kernel)
theorem mi_X11_foundOf : xMi yX11_foundOf cX11_foundOf 2 (some .int) 1 := ⟨co_X11_foundOf, xm (i := 57) (by decide +kernel) (by decide +kernel), by decide +kernel, by decide +kernel, by decide⟩
abbrev C_X11_foundOf (d N : Nat) (av : List Value) (σ : XW) (r : Option Value) (τ : XW) : Prop := Ct yX11_foundOf cX11_foundOf 2 (some .int) d N (0, 0) av σ (xq N r τ)
theorem im_X11_foundOf : Cond.instanceMethod yX11_foundOf ∈ lw_gd := xm (i := 699) (by decide +kernel) (by decide +kernel)
theorem se_X11_foundOf : Cond.selects yX11_foundOf.cls yX11_foundOf yX11_foundOf ∈ lw_gd := xm (i := 16) (by decide +kernel) (by decide +kernel)
theorem co_X11_bitsTillSure : Cond.code yX11_bitsTillSure cX11_bitsTillSure 4 (some .int) ∈ lw_gd := xm (i := 783) (by decide +kernel) (by decide +kernel)
theorem mi_X11_bitsTillSure : xMi yX11_bitsTillSure cX11_bitsTillSure 4 (some .int) 1 := ⟨co_X11_bitsTillSure, xm (i := 57) (by decide +kernel) (by decide +kernel), by decide +kernel, by decide +kernel, by decide⟩
abbrev C_X11_bitsTillSure (d N : Nat) (av : List Value) (σ : XW) (r : Option Value) (τ : XW) : Prop := Ct yX11_bitsTillSure cX11_bitsTillSure 4 (some .int) d N (0, 0) av σ (xq N r τ)
theorem im_X11_bitsTillSure : Cond.instanceMethod yX11_bitsTillSure ∈ lw_gd := xm (i := 782) (by decide +kernel) (by decide +kernel)
theorem se_X11_bitsTillSure : Cond.selects yX11_bitsTillSure.cls yX11_bitsTillSure yX11_bitsTillSure ∈ lw_gd := xm (i := 17) (by decide +kernel) (by decide +kernel)
theorem co_X11_tallyPhases : Cond.code yX11_tallyPhases cX11_tallyPhases 4 none ∈ lw_gd := xm (i := 806) (by decide +kernel) (by decide +kernel)
theorem mi_X11_tallyPhases : xMi yX11_tallyPhases cX11_tallyPhases 4 none 1 := ⟨co_X11_tallyPhases, xm (i := 57) (by decide +kernel) (by decide +kernel), by decide +kernel, by decide +kernel, by decide⟩
abbrev C_X11_tallyPhases (d N : Nat) (av : List Value) (σ : XW) (r : Option Value) (τ : XW) : Prop := Ct yX11_tallyPhases cX11_tallyPhases 4 none d N (0, 0) av σ (xq N r τ)
theorem im_X11_tallyPhases : Cond.instanceMethod yX11_tallyPhases ∈ lw_gd := xm (i := 805) (by decide +kernel) (by decide +kernel)
theorem se_X11_tallyPhases : Cond.selects yX11_tallyPhases.cls yX11_tallyPhases yX11_tallyPhases ∈ lw_gd := xm (i := 18) (by decide +kernel) (by decide +kernel)
theorem co_X11_oddsOf : Cond.code yX11_oddsOf cX11_oddsOf 5 (some .long) ∈ lw_gd := xm (i := 949) (by decide +kernel) (by decide +kernel)
theorem mi_X11_oddsOf : xMi yX11_oddsOf cX11_oddsOf 5 (some .long) 3 := ⟨co_X11_oddsOf, xm (i := 57) (by decide +kernel) (by decide +kernel), by decide +kernel, by decide +kernel, by decide⟩
abbrev C_X11_oddsOf (d N : Nat) (av : List Value) (σ : XW) (r : Option Value) (τ : XW) : Prop := Ct yX11_oddsOf cX11_oddsOf 5 (some .long) d N (0, 0) av σ (xq N r τ)
theorem im_X11_oddsOf : Cond.instanceMethod yX11_oddsOf ∈ lw_gd := xm (i := 948) (by decide +kernel) (by decide +kernel)
theorem se_X11_oddsOf : Cond.selects yX11_oddsOf.cls yX11_oddsOf yX11_oddsOf ∈ lw_gd := xm (i := 23) (by decide +kernel) (by decide +kernel)
theorem co_X11_rungsOf : Cond.code yX11_rungsOf cX11_rungsOf 2 (some .int) ∈ lw_gd := xm (i := 953) (by decide +kernel) (by decide +kernel)
theorem mi_X11_rungsOf : xMi yX11_rungsOf cX11_rungsOf 2 (some .int) 1 := ⟨co_X11_rungsOf, xm (i := 57) (by decide +kernel) (by decide +kernel), by decide +kernel, by decide +kernel, by decide⟩
abbrev C_X11_rungsOf (d N : Nat) (av : List Value) (σ : XW) (r : Option Value) (τ : XW) : Prop := Ct yX11_rungsOf cX11_rungsOf 2 (some .int) d N (0, 0) av σ (xq N r τ)
theorem im_X11_rungsOf : Cond.instanceMethod yX11_rungsOf ∈ lw_gd := xm (i := 952) (by decide +kernel) (by decide +kernel)
theorem se_X11_rungsOf : Cond.selects yX11_rungsOf.cls yX11_rungsOf yX11_rungsOf ∈ lw_gd := xm (i := 24) (by decide +kernel) (by decide +kernel)
theorem co_X11_climbsOf : Cond.code yX11_climbsOf cX11_climbsOf 2 (some .int) ∈ lw_gd := xm (i := 956) (by decide +kernel) (by decide +kernel)
theorem mi_X11_climbsOf : xMi yX11_climbsOf cX11_climbsOf 2 (some .int) 2 := ⟨co_X11_climbsOf, xm (i := 57) (by decide +kernel) (by decide +kernel), by decide +kernel, by decide +kernel, by decide⟩
abbrev C_X11_climbsOf (d N : Nat) (av : List Value) (σ : XW) (r : Option Value) (τ : XW) : Prop := Ct yX11_climbsOf cX11_climbsOf 2 (some .int) d N (0, 0) av σ (xq N r τ)
theorem st_X11_climbsOf : Cond.static yX11_climbsOf ∈ lw_gd := xm (i := 955) (by decide +kernel) (by decide +kernel)
theorem co_X12_isIn : Cond.code yX12_isIn cX12_isIn 6 (some .boolean) ∈ lw_gd := xm (i := 1077) (by decide +kernel) (by decide +kernel)
theorem mi_X12_isIn : xMi yX12_isIn cX12_isIn 6 (some .boolean) 3 := ⟨co_X12_isIn, xm (i := 69) (by decide +kernel) (by decide +kernel), by decide +kernel, by decide +kernel, by decide⟩
abbrev C_X12_isIn (d N : Nat) (av : List Value) (σ : XW) (r : Option Value) (τ : XW) : Prop := Ct yX12_isIn cX12_isIn 6 (some .boolean) d N (0, 0) av σ (xq N r τ)
theorem st_X12_isIn : Cond.static yX12_isIn ∈ lw_gd := xm (i := 1076) (by decide +kernel) (by decide +kernel)
theorem co_X12_copies : Cond.code yX12_copies cX12_copies 6 none ∈ lw_gd := xm (i := 1245) (by decide +kernel) (by decide +kernel)
theorem mi_X12_copies : xMi yX12_copies cX12_copies 6 none 5 := ⟨co_X12_copies, xm (i := 69) (by decide +kernel) (by decide +kernel), by decide +kernel, by decide +kernel, by decide⟩
abbrev C_X12_copies (d N : Nat) (av : List Value) (σ : XW) (r : Option Value) (τ : XW) : Prop := Ct yX12_copies cX12_copies 6 none d N (0, 0) av σ (xq N r τ)
theorem st_X12_copies : Cond.static yX12_copies ∈ lw_gd := xm (i := 1244) (by decide +kernel) (by decide +kernel)
theorem co_X12_init : Cond.code yX12_init cX12_init 1 none ∈ lw_gd := xm (i := 988) (by decide +kernel) (by decide +kernel)
theorem mi_X12_init : xMi yX12_init cX12_init 1 none 0 := ⟨co_X12_init, xm (i := 69) (by decide +kernel) (by decide +kernel), by decide +kernel, by decide +kernel, by decide⟩
abbrev C_X12_init (d N : Nat) (av : List Value) (σ : XW) (r : Option Value) (τ : XW) : Prop := Ct yX12_init cX12_init 1 none d N (0, 0) av σ (xq N r τ)
theorem im_X12_init : Cond.instanceMethod yX12_init ∈ lw_gd := xm (i := 987) (by decide +kernel) (by decide +kernel)
theorem co_X12_lays : Cond.code yX12_lays cX12_lays 2 none ∈ lw_gd := xm (i := 1069) (by decide +kernel) (by decide +kernel)
theorem mi_X12_lays : xMi yX12_lays cX12_lays 2 none 1 := ⟨co_X12_lays, xm (i := 69) (by decide +kernel) (by decide +kernel), by decide +kernel, by decide +kernel, by decide⟩
abbrev C_X12_lays (d N : Nat) (av : List Value) (σ : XW) (r : Option Value) (τ : XW) : Prop := Ct yX12_lays cX12_lays 2 none d N (0, 0) av σ (xq N r τ)
theorem im_X12_lays : Cond.instanceMethod yX12_lays ∈ lw_gd := xm (i := 1068) (by decide +kernel) (by decide +kernel)
theorem se_X12_lays : Cond.selects yX12_lays.cls yX12_lays yX12_lays ∈ lw_gd := xm (i := 26) (by decide +kernel) (by decide +kernel)
theorem co_X12_laysBits : Cond.code yX12_laysBits cX12_laysBits 4 none ∈ lw_gd := xm (i := 1065) (by decide +kernel) (by decide +kernel)
theorem mi_X12_laysBits : xMi yX12_laysBits cX12_laysBits 4 none 2 := ⟨co_X12_laysBits, xm (i := 69) (by decide +kernel) (by decide +kernel), by decide +kernel, by decide +kernel, by decide⟩
abbrev C_X12_laysBits (d N : Nat) (av : List Value) (σ : XW) (r : Option Value) (τ : XW) : Prop := Ct yX12_laysBits cX12_laysBits 4 none d N (0, 0) av σ (xq N r τ)
theorem im_X12_laysBits : Cond.instanceMethod yX12_laysBits ∈ lw_gd := xm (i := 1064) (by decide +kernel) (by decide +kernel)
theorem se_X12_laysBits : Cond.selects yX12_laysBits.cls yX12_laysBits yX12_laysBits ∈ lw_gd := xm (i := 25) (by decide +kernel) (by decide +kernel)
theorem co_X12_feed : Cond.code yX12_feed cX12_feed 6 (some .int) ∈ lw_gd := xm (i := 1061) (by decide +kernel) (by decide +kernel)
theorem mi_X12_feed : xMi yX12_feed cX12_feed 6 (some .int) 5 := ⟨co_X12_feed, xm (i := 69) (by decide +kernel) (by decide +kernel), by decide +kernel, by decide +kernel, by decide⟩
abbrev C_X12_feed (d N : Nat) (av : List Value) (σ : XW) (r : Option Value) (τ : XW) : Prop := Ct yX12_feed cX12_feed 6 (some .int) d N (0, 0) av σ (xq N r τ)
theorem im_X12_feed : Cond.instanceMethod yX12_feed ∈ lw_gd := xm (i := 1059) (by decide +kernel) (by decide +kernel)
theorem se_X12_feed : Cond.selects yX12_feed.cls yX12_feed yX12_feed ∈ lw_gd := xm (i := 1060) (by decide +kernel) (by decide +kernel)
theorem co_X12_bits : Cond.code yX12_bits cX12_bits 3 (some .int) ∈ lw_gd := xm (i := 1073) (by decide +kernel) (by decide +kernel)
theorem mi_X12_bits : xMi yX12_bits cX12_bits 3 (some .int) 2 := ⟨co_X12_bits, xm (i := 69) (by decide +kernel) (by decide +kernel), by decide +kernel, by decide +kernel, by decide⟩
abbrev C_X12_bits (d N : Nat) (av : List Value) (σ : XW) (r : Option Value) (τ : XW) : Prop := Ct yX12_bits cX12_bits 3 (some .int) d N (0, 0) av σ (xq N r τ)
theorem im_X12_bits : Cond.instanceMethod yX12_bits ∈ lw_gd := xm (i := 1071) (by decide +kernel) (by decide +kernel)
theorem se_X12_bits : Cond.selects yX12_bits.cls yX12_bits yX12_bits ∈ lw_gd := xm (i := 1072) (by decide +kernel) (by decide +kernel)
theorem co_X12_restOf : Cond.code yX12_restOf cX12_restOf 4 (some .int) ∈ lw_gd := xm (i := 1087) (by decide +kernel) (by decide +kernel)
theorem mi_X12_restOf : xMi yX12_restOf cX12_restOf 4 (some .int) 1 := ⟨co_X12_restOf, xm (i := 69) (by decide +kernel) (by decide +kernel), by decide +kernel, by decide +kernel, by decide⟩
abbrev C_X12_restOf (d N : Nat) (av : List Value) (σ : XW) (r : Option Value) (τ : XW) : Prop := Ct yX12_restOf cX12_restOf 4 (some .int) d N (0, 0) av σ (xq N r τ)
theorem st_X12_restOf : Cond.static yX12_restOf ∈ lw_gd := xm (i := 1086) (by decide +kernel) (by decide +kernel)
theorem co_X12_checkOf : Cond.code yX12_checkOf cX12_checkOf 1 (some .int) ∈ lw_gd := xm (i := 1084) (by decide +kernel) (by decide +kernel)
theorem mi_X12_checkOf : xMi yX12_checkOf cX12_checkOf 1 (some .int) 1 := ⟨co_X12_checkOf, xm (i := 69) (by decide +kernel) (by decide +kernel), by decide +kernel, by decide +kernel, by decide⟩
abbrev C_X12_checkOf (d N : Nat) (av : List Value) (σ : XW) (r : Option Value) (τ : XW) : Prop := Ct yX12_checkOf cX12_checkOf 1 (some .int) d N (0, 0) av σ (xq N r τ)
theorem st_X12_checkOf : Cond.static yX12_checkOf ∈ lw_gd := xm (i := 1083) (by decide +kernel) (by decide +kernel)
theorem co_X12_markOf : Cond.code yX12_markOf cX12_markOf 1 (some .int) ∈ lw_gd := xm (i := 1102) (by decide +kernel) (by decide +kernel)
theorem mi_X12_markOf : xMi yX12_markOf cX12_markOf 1 (some .int) 1 := ⟨co_X12_markOf, xm (i := 69) (by decide +kernel) (by decide +kernel), by decide +kernel, by decide +kernel, by decide⟩
abbrev C_X12_markOf (d N : Nat) (av : List Value) (σ : XW) (r : Option Value) (τ : XW) : Prop := Ct yX12_markOf cX12_markOf 1 (some .int) d N (0, 0) av σ (xq N r τ)
theorem st_X12_markOf : Cond.static yX12_markOf ∈ lw_gd := xm (i := 1101) (by decide +kernel) (by decide +kernel)
theorem co_X12_singleOf : Cond.code yX12_singleOf cX12_singleOf 2 (some .int) ∈ lw_gd := xm (i := 1099) (by decide +kernel) (by decide +kernel)
theorem mi_X12_singleOf : xMi yX12_singleOf cX12_singleOf 2 (some .int) 1 := ⟨co_X12_singleOf, xm (i := 69) (by decide +kernel) (by decide +kernel), by decide +kernel, by decide +kernel, by decide⟩
abbrev C_X12_singleOf (d N : Nat) (av : List Value) (σ : XW) (r : Option Value) (τ : XW) : Prop := Ct yX12_singleOf cX12_singleOf 2 (some .int) d N (0, 0) av σ (xq N r τ)
theorem st_X12_singleOf : Cond.static yX12_singleOf ∈ lw_gd := xm (i := 1098) (by decide +kernel) (by decide +kernel)
theorem co_X12_check : Cond.code yX12_check cX12_check 2 (some .int) ∈ lw_gd := xm (i := 1081) (by decide +kernel) (by decide +kernel)
theorem mi_X12_check : xMi yX12_check cX12_check 2 (some .int) 1 := ⟨co_X12_check, xm (i := 69) (by decide +kernel) (by decide +kernel), by decide +kernel, by decide +kernel, by decide⟩
abbrev C_X12_check (d N : Nat) (av : List Value) (σ : XW) (r : Option Value) (τ : XW) : Prop := Ct yX12_check cX12_check 2 (some .int) d N (0, 0) av σ (xq N r τ)
theorem im_X12_check : Cond.instanceMethod yX12_check ∈ lw_gd := xm (i := 1079) (by decide +kernel) (by decide +kernel)
theorem se_X12_check : Cond.selects yX12_check.cls yX12_check yX12_check ∈ lw_gd := xm (i := 1080) (by decide +kernel) (by decide +kernel)
theorem co_X12_syndrome : Cond.code yX12_syndrome cX12_syndrome 3 (some .int) ∈ lw_gd := xm (i := 1091) (by decide +kernel) (by decide +kernel)
theorem mi_X12_syndrome : xMi yX12_syndrome cX12_syndrome 3 (some .int) 2 := ⟨co_X12_syndrome, xm (i := 69) (by decide +kernel) (by decide +kernel), by decide +kernel, by decide +kernel, by decide⟩
abbrev C_X12_syndrome (d N : Nat) (av : List Value) (σ : XW) (r : Option Value) (τ : XW) : Prop := Ct yX12_syndrome cX12_syndrome 3 (some .int) d N (0, 0) av σ (xq N r τ)
theorem im_X12_syndrome : Cond.instanceMethod yX12_syndrome ∈ lw_gd := xm (i := 1089) (by decide +kernel) (by decide +kernel)
theorem se_X12_syndrome : Cond.selects yX12_syndrome.cls yX12_syndrome yX12_syndrome ∈ lw_gd := xm (i := 1090) (by decide +kernel) (by decide +kernel)
theorem co_X12_single : Cond.code yX12_single cX12_single 2 (some .int) ∈ lw_gd := xm (i := 1096) (by decide +kernel) (by decide +kernel)
theorem mi_X12_single : xMi yX12_single cX12_single 2 (some .int) 1 := ⟨co_X12_single, xm (i := 69) (by decide +kernel) (by decide +kernel), by decide +kernel, by decide +kernel, by decide⟩
abbrev C_X12_single (d N : Nat) (av : List Value) (σ : XW) (r : Option Value) (τ : XW) : Prop := Ct yX12_single cX12_single 2 (some .int) d N (0, 0) av σ (xq N r τ)
theorem im_X12_single : Cond.instanceMethod yX12_single ∈ lw_gd := xm (i := 1094) (by decide +kernel) (by decide +kernel)
theorem se_X12_single : Cond.selects yX12_single.cls yX12_single yX12_single ∈ lw_gd := xm (i := 1095) (by decide +kernel) (by decide +kernel)
theorem co_X12_pairs : Cond.code yX12_pairs cX12_pairs 6 (some .int) ∈ lw_gd := xm (i := 1106) (by decide +kernel) (by decide +kernel)
theorem mi_X12_pairs : xMi yX12_pairs cX12_pairs 6 (some .int) 2 := ⟨co_X12_pairs, xm (i := 69) (by decide +kernel) (by decide +kernel), by decide +kernel, by decide +kernel, by decide⟩
abbrev C_X12_pairs (d N : Nat) (av : List Value) (σ : XW) (r : Option Value) (τ : XW) : Prop := Ct yX12_pairs cX12_pairs 6 (some .int) d N (0, 0) av σ (xq N r τ)
theorem im_X12_pairs : Cond.instanceMethod yX12_pairs ∈ lw_gd := xm (i := 1104) (by decide +kernel) (by decide +kernel)
theorem se_X12_pairs : Cond.selects yX12_pairs.cls yX12_pairs yX12_pairs ∈ lw_gd := xm (i := 1105) (by decide +kernel) (by decide +kernel)
theorem co_X12_laysFewest : Cond.code yX12_laysFewest cX12_laysFewest 5 none ∈ lw_gd := xm (i := 1114) (by decide +kernel) (by decide +kernel)
theorem mi_X12_laysFewest : xMi yX12_laysFewest cX12_laysFewest 5 none 0 := ⟨co_X12_laysFewest, xm (i := 69) (by decide +kernel) (by decide +kernel), by decide +kernel, by decide +kernel, by decide⟩
abbrev C_X12_laysFewest (d N : Nat) (av : List Value) (σ : XW) (r : Option Value) (τ : XW) : Prop := Ct yX12_laysFewest cX12_laysFewest 5 none d N (0, 0) av σ (xq N r τ)
theorem im_X12_laysFewest : Cond.instanceMethod yX12_laysFewest ∈ lw_gd := xm (i := 1113) (by decide +kernel) (by decide +kernel)
theorem se_X12_laysFewest : Cond.selects yX12_laysFewest.cls yX12_laysFewest yX12_laysFewest ∈ lw_gd := xm (i := 27) (by decide +kernel) (by decide +kernel)
theorem co_X12_nearest : Cond.code yX12_nearest cX12_nearest 7 (some .int) ∈ lw_gd := xm (i := 1110) (by decide +kernel) (by decide +kernel)
theorem mi_X12_nearest : xMi yX12_nearest cX12_nearest 7 (some .int) 2 := ⟨co_X12_nearest, xm (i := 69) (by decide +kernel) (by decide +kernel), by decide +kernel, by decide +kernel, by decide⟩
abbrev C_X12_nearest (d N : Nat) (av : List Value) (σ : XW) (r : Option Value) (τ : XW) : Prop := Ct yX12_nearest cX12_nearest 7 (some .int) d N (0, 0) av σ (xq N r τ)
theorem im_X12_nearest : Cond.instanceMethod yX12_nearest ∈ lw_gd := xm (i := 1108) (by decide +kernel) (by decide +kernel)
theorem se_X12_nearest : Cond.selects yX12_nearest.cls yX12_nearest yX12_nearest ∈ lw_gd := xm (i := 1109) (by decide +kernel) (by decide +kernel)
theorem co_X12_mending : Cond.code yX12_mending cX12_mending 6 (some .int) ∈ lw_gd := xm (i := 1118) (by decide +kernel) (by decide +kernel)
theorem mi_X12_mending : xMi yX12_mending cX12_mending 6 (some .int) 3 := ⟨co_X12_mending, xm (i := 69) (by decide +kernel) (by decide +kernel), by decide +kernel, by decide +kernel, by decide⟩
abbrev C_X12_mending (d N : Nat) (av : List Value) (σ : XW) (r : Option Value) (τ : XW) : Prop := Ct yX12_mending cX12_mending 6 (some .int) d N (0, 0) av σ (xq N r τ)
theorem im_X12_mending : Cond.instanceMethod yX12_mending ∈ lw_gd := xm (i := 1116) (by decide +kernel) (by decide +kernel)
theorem se_X12_mending : Cond.selects yX12_mending.cls yX12_mending yX12_mending ∈ lw_gd := xm (i := 1117) (by decide +kernel) (by decide +kernel)
theorem co_X12_cellLong : Cond.code yX12_cellLong cX12_cellLong 1 (some .int) ∈ lw_gd := xm (i := 1133) (by decide +kernel) (by decide +kernel)
theorem mi_X12_cellLong : xMi yX12_cellLong cX12_cellLong 1 (some .int) 0 := ⟨co_X12_cellLong, xm (i := 69) (by decide +kernel) (by decide +kernel), by decide +kernel, by decide +kernel, by decide⟩
abbrev C_X12_cellLong (d N : Nat) (av : List Value) (σ : XW) (r : Option Value) (τ : XW) : Prop := Ct yX12_cellLong cX12_cellLong 1 (some .int) d N (0, 0) av σ (xq N r τ)
theorem im_X12_cellLong : Cond.instanceMethod yX12_cellLong ∈ lw_gd := xm (i := 1132) (by decide +kernel) (by decide +kernel)
theorem se_X12_cellLong : Cond.selects yX12_cellLong.cls yX12_cellLong yX12_cellLong ∈ lw_gd := xm (i := 29) (by decide +kernel) (by decide +kernel)
theorem co_X12_scrambles : Cond.code yX12_scrambles cX12_scrambles 3 none ∈ lw_gd := xm (i := 1142) (by decide +kernel) (by decide +kernel)
theorem mi_X12_scrambles : xMi yX12_scrambles cX12_scrambles 3 none 1 := ⟨co_X12_scrambles, xm (i := 69) (by decide +kernel) (by decide +kernel), by decide +kernel, by decide +kernel, by decide⟩
abbrev C_X12_scrambles (d N : Nat) (av : List Value) (σ : XW) (r : Option Value) (τ : XW) : Prop := Ct yX12_scrambles cX12_scrambles 3 none d N (0, 0) av σ (xq N r τ)
theorem im_X12_scrambles : Cond.instanceMethod yX12_scrambles ∈ lw_gd := xm (i := 1141) (by decide +kernel) (by decide +kernel)
theorem se_X12_scrambles : Cond.selects yX12_scrambles.cls yX12_scrambles yX12_scrambles ∈ lw_gd := xm (i := 31) (by decide +kernel) (by decide +kernel)
theorem co_X12_sends : Cond.code yX12_sends cX12_sends 5 none ∈ lw_gd := xm (i := 1138) (by decide +kernel) (by decide +kernel)
theorem mi_X12_sends : xMi yX12_sends cX12_sends 5 none 1 := ⟨co_X12_sends, xm (i := 69) (by decide +kernel) (by decide +kernel), by decide +kernel, by decide +kernel, by decide⟩
abbrev C_X12_sends (d N : Nat) (av : List Value) (σ : XW) (r : Option Value) (τ : XW) : Prop := Ct yX12_sends cX12_sends 5 none d N (0, 0) av σ (xq N r τ)
theorem im_X12_sends : Cond.instanceMethod yX12_sends ∈ lw_gd := xm (i := 1137) (by decide +kernel) (by decide +kernel)
theorem se_X12_sends : Cond.selects yX12_sends.cls yX12_sends yX12_sends ∈ lw_gd := xm (i := 30) (by decide +kernel) (by decide +kernel)
theorem co_X12_hasRoom : Cond.code yX12_hasRoom cX12_hasRoom 2 (some .boolean) ∈ lw_gd := xm (i := 1129) (by decide +kernel) (by decide +kernel)
theorem mi_X12_hasRoom : xMi yX12_hasRoom cX12_hasRoom 2 (some .boolean) 1 := ⟨co_X12_hasRoom, xm (i := 69) (by decide +kernel) (by decide +kernel), by decide +kernel, by decide +kernel, by decide⟩
abbrev C_X12_hasRoom (d N : Nat) (av : List Value) (σ : XW) (r : Option Value) (τ : XW) : Prop := Ct yX12_hasRoom cX12_hasRoom 2 (some .boolean) d N (0, 0) av σ (xq N r τ)
theorem im_X12_hasRoom : Cond.instanceMethod yX12_hasRoom ∈ lw_gd := xm (i := 1128) (by decide +kernel) (by decide +kernel)
theorem se_X12_hasRoom : Cond.selects yX12_hasRoom.cls yX12_hasRoom yX12_hasRoom ∈ lw_gd := xm (i := 28) (by decide +kernel) (by decide +kernel)
theorem co_X12_send : Cond.code yX12_send cX12_send 5 (some .int) ∈ lw_gd := xm (i := 1124) (by decide +kernel) (by decide +kernel)
theorem mi_X12_send : xMi yX12_send cX12_send 5 (some .int) 2 := ⟨co_X12_send, xm (i := 69) (by decide +kernel) (by decide +kernel), by decide +kernel, by decide +kernel, by decide⟩
abbrev C_X12_send (d N : Nat) (av : List Value) (σ : XW) (r : Option Value) (τ : XW) : Prop := Ct yX12_send cX12_send 5 (some .int) d N (0, 0) av σ (xq N r τ)
theorem im_X12_send : Cond.instanceMethod yX12_send ∈ lw_gd := xm (i := 1122) (by decide +kernel) (by decide +kernel)
theorem se_X12_send : Cond.selects yX12_send.cls yX12_send yX12_send ∈ lw_gd := xm (i := 1123) (by decide +kernel) (by decide +kernel)
theorem co_X12_rest : Cond.code yX12_rest cX12_rest 4 (some .int) ∈ lw_gd := xm (i := 1146) (by decide +kernel) (by decide +kernel)
theorem mi_X12_rest : xMi yX12_rest cX12_rest 4 (some .int) 1 := ⟨co_X12_rest, xm (i := 69) (by decide +kernel) (by decide +kernel), by decide +kernel, by decide +kernel, by decide⟩
abbrev C_X12_rest (d N : Nat) (av : List Value) (σ : XW) (r : Option Value) (τ : XW) : Prop := Ct yX12_rest cX12_rest 4 (some .int) d N (0, 0) av σ (xq N r τ)
theorem im_X12_rest : Cond.instanceMethod yX12_rest ∈ lw_gd := xm (i := 1144) (by decide +kernel) (by decide +kernel)
theorem se_X12_rest : Cond.selects yX12_rest.cls yX12_rest yX12_rest ∈ lw_gd := xm (i := 1145) (by decide +kernel) (by decide +kernel)
theorem co_X12_isBit : Cond.code yX12_isBit cX12_isBit 2 (some .boolean) ∈ lw_gd := xm (i := 1155) (by decide +kernel) (by decide +kernel)
theorem mi_X12_isBit : xMi yX12_isBit cX12_isBit 2 (some .boolean) 1 := ⟨co_X12_isBit, xm (i := 69) (by decide +kernel) (by decide +kernel), by decide +kernel, by decide +kernel, by decide⟩
abbrev C_X12_isBit (d N : Nat) (av : List Value) (σ : XW) (r : Option Value) (τ : XW) : Prop := Ct yX12_isBit cX12_isBit 2 (some .boolean) d N (0, 0) av σ (xq N r τ)
theorem im_X12_isBit : Cond.instanceMethod yX12_isBit ∈ lw_gd := xm (i := 1154) (by decide +kernel) (by decide +kernel)
theorem se_X12_isBit : Cond.selects yX12_isBit.cls yX12_isBit yX12_isBit ∈ lw_gd := xm (i := 32) (by decide +kernel) (by decide +kernel)
theorem co_X12_flip : Cond.code yX12_flip cX12_flip 2 (some .int) ∈ lw_gd := xm (i := 1151) (by decide +kernel) (by decide +kernel)
theorem mi_X12_flip : xMi yX12_flip cX12_flip 2 (some .int) 1 := ⟨co_X12_flip, xm (i := 69) (by decide +kernel) (by decide +kernel), by decide +kernel, by decide +kernel, by decide⟩
abbrev C_X12_flip (d N : Nat) (av : List Value) (σ : XW) (r : Option Value) (τ : XW) : Prop := Ct yX12_flip cX12_flip 2 (some .int) d N (0, 0) av σ (xq N r τ)
theorem im_X12_flip : Cond.instanceMethod yX12_flip ∈ lw_gd := xm (i := 1149) (by decide +kernel) (by decide +kernel)
theorem se_X12_flip : Cond.selects yX12_flip.cls yX12_flip yX12_flip ∈ lw_gd := xm (i := 1150) (by decide +kernel) (by decide +kernel)
theorem co_X12_drop : Cond.code yX12_drop cX12_drop 4 (some .int) ∈ lw_gd := xm (i := 1159) (by decide +kernel) (by decide +kernel)
theorem mi_X12_drop : xMi yX12_drop cX12_drop 4 (some .int) 2 := ⟨co_X12_drop, xm (i := 69) (by decide +kernel) (by decide +kernel), by decide +kernel, by decide +kernel, by decide⟩
abbrev C_X12_drop (d N : Nat) (av : List Value) (σ : XW) (r : Option Value) (τ : XW) : Prop := Ct yX12_drop cX12_drop 4 (some .int) d N (0, 0) av σ (xq N r τ)
theorem im_X12_drop : Cond.instanceMethod yX12_drop ∈ lw_gd := xm (i := 1157) (by decide +kernel) (by decide +kernel)
theorem se_X12_drop : Cond.selects yX12_drop.cls yX12_drop yX12_drop ∈ lw_gd := xm (i := 1158) (by decide +kernel) (by decide +kernel)
theorem co_X12_slip : Cond.code yX12_slip cX12_slip 5 (some .int) ∈ lw_gd := xm (i := 1164) (by decide +kernel) (by decide +kernel)
theorem mi_X12_slip : xMi yX12_slip cX12_slip 5 (some .int) 3 := ⟨co_X12_slip, xm (i := 69) (by decide +kernel) (by decide +kernel), by decide +kernel, by decide +kernel, by decide⟩
abbrev C_X12_slip (d N : Nat) (av : List Value) (σ : XW) (r : Option Value) (τ : XW) : Prop := Ct yX12_slip cX12_slip 5 (some .int) d N (0, 0) av σ (xq N r τ)
theorem im_X12_slip : Cond.instanceMethod yX12_slip ∈ lw_gd := xm (i := 1162) (by decide +kernel) (by decide +kernel)
theorem se_X12_slip : Cond.selects yX12_slip.cls yX12_slip yX12_slip ∈ lw_gd := xm (i := 1163) (by decide +kernel) (by decide +kernel)
