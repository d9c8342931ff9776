/-! THE PURE MACHINE: its methods and links (by program) -/
def mX0_init : PMe := (0, yX0_init, cX0_init, 2, none)
theorem okX0_init : okM mX0_init 0 := ⟨rfl, ⟨by decide, by decide, by decide +kernel⟩, by decide, plainFor_of_name (by decide), pt_tab (i := 37) (by decide +kernel) rfl, pt_tab (i := 3) (by decide +kernel) rfl⟩
theorem siX0_init : Cond.instanceMethod (my mX0_init) ∈ PT := pt_tab (i := 36) (by decide +kernel) rfl
def mX0_clear : PMe := (0, yX0_clear, cX0_clear, 2, none)
theorem okX0_clear : okM mX0_clear 0 := ⟨rfl, ⟨by decide, by decide, by decide +kernel⟩, by decide, plainFor_of_name (by decide), pt_tab (i := 514) (by decide +kernel) rfl, pt_tab (i := 3) (by decide +kernel) rfl⟩
theorem siX0_clear : Cond.instanceMethod (my mX0_clear) ∈ PT := pt_tab (i := 512) (by decide +kernel) rfl
theorem seX0_clear : Cond.selects (my mX0_clear).cls (my mX0_clear) (my mX0_clear) ∈ PT := pt_tab (i := 513) (by decide +kernel) rfl
def mX0_copyFrom : PMe := (0, yX0_copyFrom, cX0_copyFrom, 3, none)
theorem okX0_copyFrom : okM mX0_copyFrom 1 := ⟨rfl, ⟨by decide, by decide, by decide +kernel⟩, by decide, plainFor_of_name (by decide), pt_tab (i := 692) (by decide +kernel) rfl, pt_tab (i := 3) (by decide +kernel) rfl⟩
theorem siX0_copyFrom : Cond.instanceMethod (my mX0_copyFrom) ∈ PT := pt_tab (i := 690) (by decide +kernel) rfl
theorem seX0_copyFrom : Cond.selects (my mX0_copyFrom).cls (my mX0_copyFrom) (my mX0_copyFrom) ∈ PT := pt_tab (i := 691) (by decide +kernel) rfl
def mX0_find : PMe := (0, yX0_find, cX0_find, 3, (some (.object "FormDesigner$Node")))
theorem okX0_find : okM mX0_find 1 := ⟨rfl, ⟨by decide, by decide, by decide +kernel⟩, by decide, plainFor_of_name (by decide), pt_tab (i := 559) (by decide +kernel) rfl, pt_tab (i := 3) (by decide +kernel) rfl⟩
theorem siX0_find : Cond.instanceMethod (my mX0_find) ∈ PT := pt_tab (i := 557) (by decide +kernel) rfl
theorem seX0_find : Cond.selects (my mX0_find).cls (my mX0_find) (my mX0_find) ∈ PT := pt_tab (i := 558) (by decide +kernel) rfl
def mX0_findField : PMe := (0, yX0_findField, cX0_findField, 2, (some (.object "FormDesigner$Node")))
theorem okX0_findField : okM mX0_findField 1 := ⟨rfl, ⟨by decide, by decide, by decide +kernel⟩, by decide, plainFor_of_name (by decide), pt_tab (i := 658) (by decide +kernel) rfl, pt_tab (i := 3) (by decide +kernel) rfl⟩
theorem siX0_findField : Cond.instanceMethod (my mX0_findField) ∈ PT := pt_tab (i := 656) (by decide +kernel) rfl
theorem seX0_findField : Cond.selects (my mX0_findField).cls (my mX0_findField) (my mX0_findField) ∈ PT := pt_tab (i := 657) (by decide +kernel) rfl
def mX0_findGroup : PMe := (0, yX0_findGroup, cX0_findGroup, 3, (some (.object "FormDesigner$Node")))
theorem okX0_findGroup : okM mX0_findGroup 1 := ⟨rfl, ⟨by decide, by decide, by decide +kernel⟩, by decide, plainFor_of_name (by decide), pt_tab (i := 547) (by decide +kernel) rfl, pt_tab (i := 3) (by decide +kernel) rfl⟩
theorem siX0_findGroup : Cond.instanceMethod (my mX0_findGroup) ∈ PT := pt_tab (i := 545) (by decide +kernel) rfl
theorem seX0_findGroup : Cond.selects (my mX0_findGroup).cls (my mX0_findGroup) (my mX0_findGroup) ∈ PT := pt_tab (i := 546) (by decide +kernel) rfl
def mX0_takesGroup : PMe := (0, yX0_takesGroup, cX0_takesGroup, 2, (some .boolean))
theorem okX0_takesGroup : okM mX0_takesGroup 1 := ⟨rfl, ⟨by decide, by decide, by decide +kernel⟩, by decide, plainFor_of_name (by decide), pt_tab (i := 704) (by decide +kernel) rfl, pt_tab (i := 3) (by decide +kernel) rfl⟩
theorem siX0_takesGroup : Cond.instanceMethod (my mX0_takesGroup) ∈ PT := pt_tab (i := 702) (by decide +kernel) rfl
theorem seX0_takesGroup : Cond.selects (my mX0_takesGroup).cls (my mX0_takesGroup) (my mX0_takesGroup) ∈ PT := pt_tab (i := 703) (by decide +kernel) rfl
def mX0_findName : PMe := (0, yX0_findName, cX0_findName, 5, (some .int))
theorem okX0_findName : okM mX0_findName 1 := ⟨rfl, ⟨by decide, by decide, by decide +kernel⟩, by decide, plainFor_of_name (by decide), pt_tab (i := 555) (by decide +kernel) rfl, pt_tab (i := 3) (by decide +kernel) rfl⟩
theorem siX0_findName : Cond.instanceMethod (my mX0_findName) ∈ PT := pt_tab (i := 553) (by decide +kernel) rfl
theorem seX0_findName : Cond.selects (my mX0_findName).cls (my mX0_findName) (my mX0_findName) ∈ PT := pt_tab (i := 554) (by decide +kernel) rfl
def mX0_conditions : PMe := (0, yX0_conditions, cX0_conditions, 4, (some .int))
theorem okX0_conditions : okM mX0_conditions 0 := ⟨rfl, ⟨by decide, by decide, by decide +kernel⟩, by decide, plainFor_of_name (by decide), pt_tab (i := 911) (by decide +kernel) rfl, pt_tab (i := 3) (by decide +kernel) rfl⟩
theorem siX0_conditions : Cond.instanceMethod (my mX0_conditions) ∈ PT := pt_tab (i := 909) (by decide +kernel) rfl
theorem seX0_conditions : Cond.selects (my mX0_conditions).cls (my mX0_conditions) (my mX0_conditions) ∈ PT := pt_tab (i := 910) (by decide +kernel) rfl
def mX0_at : PMe := (0, yX0_at, cX0_at, 2, (some .int))
theorem okX0_at : okM mX0_at 1 := ⟨rfl, ⟨by decide, by decide, by decide +kernel⟩, by decide, plainFor_of_name (by decide), pt_tab (i := 576) (by decide +kernel) rfl, pt_tab (i := 3) (by decide +kernel) rfl⟩
theorem siX0_at : Cond.instanceMethod (my mX0_at) ∈ PT := pt_tab (i := 574) (by decide +kernel) rfl
theorem seX0_at : Cond.selects (my mX0_at).cls (my mX0_at) (my mX0_at) ∈ PT := pt_tab (i := 575) (by decide +kernel) rfl
def mX0_put : PMe := (0, yX0_put, cX0_put, 3, none)
theorem okX0_put : okM mX0_put 2 := ⟨rfl, ⟨by decide, by decide, by decide +kernel⟩, by decide, plainFor_of_name (by decide), pt_tab (i := 580) (by decide +kernel) rfl, pt_tab (i := 3) (by decide +kernel) rfl⟩
theorem siX0_put : Cond.instanceMethod (my mX0_put) ∈ PT := pt_tab (i := 579) (by decide +kernel) rfl
theorem seX0_put : Cond.selects (my mX0_put).cls (my mX0_put) (my mX0_put) ∈ PT := pt_sel (q := (yX0_put, 9)) (i := 11) (by decide +kernel)
def mX0_placeOf : PMe := (0, yX0_placeOf, cX0_placeOf, 3, (some .int))
theorem okX0_placeOf : okM mX0_placeOf 1 := ⟨rfl, ⟨by decide, by decide, by decide +kernel⟩, by decide, plainFor_of_name (by decide), pt_tab (i := 572) (by decide +kernel) rfl, pt_tab (i := 3) (by decide +kernel) rfl⟩
theorem siX0_placeOf : Cond.instanceMethod (my mX0_placeOf) ∈ PT := pt_tab (i := 571) (by decide +kernel) rfl
theorem seX0_placeOf : Cond.selects (my mX0_placeOf).cls (my mX0_placeOf) (my mX0_placeOf) ∈ PT := pt_sel (q := (yX0_placeOf, 9)) (i := 10) (by decide +kernel)
def mX0_levelOf : PMe := (0, yX0_levelOf, cX0_levelOf, 5, (some .int))
theorem okX0_levelOf : okM mX0_levelOf 1 := ⟨rfl, ⟨by decide, by decide, by decide +kernel⟩, by decide, plainFor_of_name (by decide), pt_tab (i := 543) (by decide +kernel) rfl, pt_tab (i := 3) (by decide +kernel) rfl⟩
theorem siX0_levelOf : Cond.instanceMethod (my mX0_levelOf) ∈ PT := pt_tab (i := 541) (by decide +kernel) rfl
theorem seX0_levelOf : Cond.selects (my mX0_levelOf).cls (my mX0_levelOf) (my mX0_levelOf) ∈ PT := pt_tab (i := 542) (by decide +kernel) rfl
def mX0_isAround : PMe := (0, yX0_isAround, cX0_isAround, 6, (some .boolean))
theorem okX0_isAround : okM mX0_isAround 2 := ⟨rfl, ⟨by decide, by decide, by decide +kernel⟩, by decide, plainFor_of_name (by decide), pt_tab (i := 684) (by decide +kernel) rfl, pt_tab (i := 3) (by decide +kernel) rfl⟩
theorem siX0_isAround : Cond.instanceMethod (my mX0_isAround) ∈ PT := pt_tab (i := 682) (by decide +kernel) rfl
theorem seX0_isAround : Cond.selects (my mX0_isAround).cls (my mX0_isAround) (my mX0_isAround) ∈ PT := pt_tab (i := 683) (by decide +kernel) rfl
def mX0_endOf : PMe := (0, yX0_endOf, cX0_endOf, 6, (some .int))
theorem okX0_endOf : okM mX0_endOf 1 := ⟨rfl, ⟨by decide, by decide, by decide +kernel⟩, by decide, plainFor_of_name (by decide), pt_tab (i := 567) (by decide +kernel) rfl, pt_tab (i := 3) (by decide +kernel) rfl⟩
theorem siX0_endOf : Cond.instanceMethod (my mX0_endOf) ∈ PT := pt_tab (i := 566) (by decide +kernel) rfl
theorem seX0_endOf : Cond.selects (my mX0_endOf).cls (my mX0_endOf) (my mX0_endOf) ∈ PT := pt_sel (q := (yX0_endOf, 9)) (i := 9) (by decide +kernel)
def mX0_listSize : PMe := (0, yX0_listSize, cX0_listSize, 5, (some .int))
theorem okX0_listSize : okM mX0_listSize 1 := ⟨rfl, ⟨by decide, by decide, by decide +kernel⟩, by decide, plainFor_of_name (by decide), pt_tab (i := 790) (by decide +kernel) rfl, pt_tab (i := 3) (by decide +kernel) rfl⟩
theorem siX0_listSize : Cond.instanceMethod (my mX0_listSize) ∈ PT := pt_tab (i := 788) (by decide +kernel) rfl
theorem seX0_listSize : Cond.selects (my mX0_listSize).cls (my mX0_listSize) (my mX0_listSize) ∈ PT := pt_tab (i := 789) (by decide +kernel) rfl
def mX0_indexOf : PMe := (0, yX0_indexOf, cX0_indexOf, 6, (some .int))
theorem okX0_indexOf : okM mX0_indexOf 1 := ⟨rfl, ⟨by decide, by decide, by decide +kernel⟩, by decide, plainFor_of_name (by decide), pt_tab (i := 794) (by decide +kernel) rfl, pt_tab (i := 3) (by decide +kernel) rfl⟩
theorem siX0_indexOf : Cond.instanceMethod (my mX0_indexOf) ∈ PT := pt_tab (i := 792) (by decide +kernel) rfl
theorem seX0_indexOf : Cond.selects (my mX0_indexOf).cls (my mX0_indexOf) (my mX0_indexOf) ∈ PT := pt_tab (i := 793) (by decide +kernel) rfl
def mX0_placeFor : PMe := (0, yX0_placeFor, cX0_placeFor, 7, (some .int))
theorem okX0_placeFor : okM mX0_placeFor 2 := ⟨rfl, ⟨by decide, by decide, by decide +kernel⟩, by decide, plainFor_of_name (by decide), pt_tab (i := 802) (by decide +kernel) rfl, pt_tab (i := 3) (by decide +kernel) rfl⟩
theorem siX0_placeFor : Cond.instanceMethod (my mX0_placeFor) ∈ PT := pt_tab (i := 801) (by decide +kernel) rfl
theorem seX0_placeFor : Cond.selects (my mX0_placeFor).cls (my mX0_placeFor) (my mX0_placeFor) ∈ PT := pt_sel (q := (yX0_placeFor, 9)) (i := 25) (by decide +kernel)
def mX0_fieldsOf : PMe := (0, yX0_fieldsOf, cX0_fieldsOf, 5, (some .int))
theorem okX0_fieldsOf : okM mX0_fieldsOf 1 := ⟨rfl, ⟨by decide, by decide, by decide +kernel⟩, by decide, plainFor_of_name (by decide), pt_tab (i := 680) (by decide +kernel) rfl, pt_tab (i := 3) (by decide +kernel) rfl⟩
theorem siX0_fieldsOf : Cond.instanceMethod (my mX0_fieldsOf) ∈ PT := pt_tab (i := 678) (by decide +kernel) rfl
theorem seX0_fieldsOf : Cond.selects (my mX0_fieldsOf).cls (my mX0_fieldsOf) (my mX0_fieldsOf) ∈ PT := pt_tab (i := 679) (by decide +kernel) rfl
def mX0_add : PMe := (0, yX0_add, cX0_add, 5, (some (.object "FormDesigner$Node")))
theorem okX0_add : okM mX0_add 2 := ⟨rfl, ⟨by decide, by decide, by decide +kernel⟩, by decide, plainFor_of_name (by decide), pt_tab (i := 563) (by decide +kernel) rfl, pt_tab (i := 3) (by decide +kernel) rfl⟩
theorem siX0_add : Cond.instanceMethod (my mX0_add) ∈ PT := pt_tab (i := 561) (by decide +kernel) rfl
theorem seX0_add : Cond.selects (my mX0_add).cls (my mX0_add) (my mX0_add) ∈ PT := pt_tab (i := 562) (by decide +kernel) rfl
def mX0_takeAway : PMe := (0, yX0_takeAway, cX0_takeAway, 6, none)
theorem okX0_takeAway : okM mX0_takeAway 1 := ⟨rfl, ⟨by decide, by decide, by decide +kernel⟩, by decide, plainFor_of_name (by decide), pt_tab (i := 763) (by decide +kernel) rfl, pt_tab (i := 3) (by decide +kernel) rfl⟩
theorem siX0_takeAway : Cond.instanceMethod (my mX0_takeAway) ∈ PT := pt_tab (i := 761) (by decide +kernel) rfl
theorem seX0_takeAway : Cond.selects (my mX0_takeAway).cls (my mX0_takeAway) (my mX0_takeAway) ∈ PT := pt_tab (i := 762) (by decide +kernel) rfl
def mX0_transfer : PMe := (0, yX0_transfer, cX0_transfer, 9, none)
theorem okX0_transfer : okM mX0_transfer 3 := ⟨rfl, ⟨by decide, by decide, by decide +kernel⟩, by decide, plainFor_of_name (by decide), pt_tab (i := 798) (by decide +kernel) rfl, pt_tab (i := 3) (by decide +kernel) rfl⟩
theorem siX0_transfer : Cond.instanceMethod (my mX0_transfer) ∈ PT := pt_tab (i := 796) (by decide +kernel) rfl
theorem seX0_transfer : Cond.selects (my mX0_transfer).cls (my mX0_transfer) (my mX0_transfer) ∈ PT := pt_tab (i := 797) (by decide +kernel) rfl
def mX0_hold : PMe := (0, yX0_hold, cX0_hold, 3, none)
theorem okX0_hold : okM mX0_hold 2 := ⟨rfl, ⟨by decide, by decide, by decide +kernel⟩, by decide, plainFor_of_name (by decide), pt_tab (i := 767) (by decide +kernel) rfl, pt_tab (i := 3) (by decide +kernel) rfl⟩
theorem siX0_hold : Cond.instanceMethod (my mX0_hold) ∈ PT := pt_tab (i := 766) (by decide +kernel) rfl
theorem seX0_hold : Cond.selects (my mX0_hold).cls (my mX0_hold) (my mX0_hold) ∈ PT := pt_sel (q := (yX0_hold, 9)) (i := 22) (by decide +kernel)
def mX0_heldAt : PMe := (0, yX0_heldAt, cX0_heldAt, 2, (some .int))
theorem okX0_heldAt : okM mX0_heldAt 1 := ⟨rfl, ⟨by decide, by decide, by decide +kernel⟩, by decide, plainFor_of_name (by decide), pt_tab (i := 775) (by decide +kernel) rfl, pt_tab (i := 3) (by decide +kernel) rfl⟩
theorem siX0_heldAt : Cond.instanceMethod (my mX0_heldAt) ∈ PT := pt_tab (i := 774) (by decide +kernel) rfl
theorem seX0_heldAt : Cond.selects (my mX0_heldAt).cls (my mX0_heldAt) (my mX0_heldAt) ∈ PT := pt_sel (q := (yX0_heldAt, 9)) (i := 24) (by decide +kernel)
def mX0_cut : PMe := (0, yX0_cut, cX0_cut, 5, none)
theorem okX0_cut : okM mX0_cut 2 := ⟨rfl, ⟨by decide, by decide, by decide +kernel⟩, by decide, plainFor_of_name (by decide), pt_tab (i := 771) (by decide +kernel) rfl, pt_tab (i := 3) (by decide +kernel) rfl⟩
theorem siX0_cut : Cond.instanceMethod (my mX0_cut) ∈ PT := pt_tab (i := 770) (by decide +kernel) rfl
theorem seX0_cut : Cond.selects (my mX0_cut).cls (my mX0_cut) (my mX0_cut) ∈ PT := pt_sel (q := (yX0_cut, 9)) (i := 23) (by decide +kernel)
def mX0_isTooDeep : PMe := (0, yX0_isTooDeep, cX0_isTooDeep, 2, (some .boolean))
theorem okX0_isTooDeep : okM mX0_isTooDeep 0 := ⟨rfl, ⟨by decide, by decide, by decide +kernel⟩, by decide, plainFor_of_name (by decide), pt_tab (i := 806) (by decide +kernel) rfl, pt_tab (i := 3) (by decide +kernel) rfl⟩
theorem siX0_isTooDeep : Cond.instanceMethod (my mX0_isTooDeep) ∈ PT := pt_tab (i := 804) (by decide +kernel) rfl
theorem seX0_isTooDeep : Cond.selects (my mX0_isTooDeep).cls (my mX0_isTooDeep) (my mX0_isTooDeep) ∈ PT := pt_tab (i := 805) (by decide +kernel) rfl
def mX0_needs : PMe := (0, yX0_needs, cX0_needs, 5, (some .int))
theorem okX0_needs : okM mX0_needs 1 := ⟨rfl, ⟨by decide, by decide, by decide +kernel⟩, by decide, plainFor_of_name (by decide), pt_tab (i := 671) (by decide +kernel) rfl, pt_tab (i := 3) (by decide +kernel) rfl⟩
theorem siX0_needs : Cond.instanceMethod (my mX0_needs) ∈ PT := pt_tab (i := 669) (by decide +kernel) rfl
theorem seX0_needs : Cond.selects (my mX0_needs).cls (my mX0_needs) (my mX0_needs) ∈ PT := pt_tab (i := 670) (by decide +kernel) rfl
def mX0_allNeeds : PMe := (0, yX0_allNeeds, cX0_allNeeds, 6, (some .int))
theorem okX0_allNeeds : okM mX0_allNeeds 1 := ⟨rfl, ⟨by decide, by decide, by decide +kernel⟩, by decide, plainFor_of_name (by decide), pt_tab (i := 667) (by decide +kernel) rfl, pt_tab (i := 3) (by decide +kernel) rfl⟩
theorem siX0_allNeeds : Cond.instanceMethod (my mX0_allNeeds) ∈ PT := pt_tab (i := 665) (by decide +kernel) rfl
theorem seX0_allNeeds : Cond.selects (my mX0_allNeeds).cls (my mX0_allNeeds) (my mX0_allNeeds) ∈ PT := pt_tab (i := 666) (by decide +kernel) rfl
def mX0_refuses : PMe := (0, yX0_refuses, cX0_refuses, 4, (some .boolean))
theorem okX0_refuses : okM mX0_refuses 2 := ⟨rfl, ⟨by decide, by decide, by decide +kernel⟩, by decide, plainFor_of_name (by decide), pt_tab (i := 663) (by decide +kernel) rfl, pt_tab (i := 3) (by decide +kernel) rfl⟩
theorem siX0_refuses : Cond.instanceMethod (my mX0_refuses) ∈ PT := pt_tab (i := 661) (by decide +kernel) rfl
theorem seX0_refuses : Cond.selects (my mX0_refuses).cls (my mX0_refuses) (my mX0_refuses) ∈ PT := pt_tab (i := 662) (by decide +kernel) rfl
def mX0_isCircular : PMe := (0, yX0_isCircular, cX0_isCircular, 2, (some .boolean))
theorem okX0_isCircular : okM mX0_isCircular 0 := ⟨rfl, ⟨by decide, by decide, by decide +kernel⟩, by decide, plainFor_of_name (by decide), pt_tab (i := 810) (by decide +kernel) rfl, pt_tab (i := 3) (by decide +kernel) rfl⟩
theorem siX0_isCircular : Cond.instanceMethod (my mX0_isCircular) ∈ PT := pt_tab (i := 808) (by decide +kernel) rfl
theorem seX0_isCircular : Cond.selects (my mX0_isCircular).cls (my mX0_isCircular) (my mX0_isCircular) ∈ PT := pt_tab (i := 809) (by decide +kernel) rfl
def mX0_isNeededOutside : PMe := (0, yX0_isNeededOutside, cX0_isNeededOutside, 5, (some .boolean))
theorem okX0_isNeededOutside : okM mX0_isNeededOutside 2 := ⟨rfl, ⟨by decide, by decide, by decide +kernel⟩, by decide, plainFor_of_name (by decide), pt_tab (i := 759) (by decide +kernel) rfl, pt_tab (i := 3) (by decide +kernel) rfl⟩
theorem siX0_isNeededOutside : Cond.instanceMethod (my mX0_isNeededOutside) ∈ PT := pt_tab (i := 757) (by decide +kernel) rfl
theorem seX0_isNeededOutside : Cond.selects (my mX0_isNeededOutside).cls (my mX0_isNeededOutside) (my mX0_isNeededOutside) ∈ PT := pt_tab (i := 758) (by decide +kernel) rfl
def mX0_nextField : PMe := (0, yX0_nextField, cX0_nextField, 3, (some .int))
theorem okX0_nextField : okM mX0_nextField 1 := ⟨rfl, ⟨by decide, by decide, by decide +kernel⟩, by decide, plainFor_of_name (by decide), pt_tab (i := 858) (by decide +kernel) rfl, pt_tab (i := 3) (by decide +kernel) rfl⟩
theorem siX0_nextField : Cond.instanceMethod (my mX0_nextField) ∈ PT := pt_tab (i := 856) (by decide +kernel) rfl
theorem seX0_nextField : Cond.selects (my mX0_nextField).cls (my mX0_nextField) (my mX0_nextField) ∈ PT := pt_tab (i := 857) (by decide +kernel) rfl
def mX1_init : PMe := (1, yX1_init, cX1_init, 1, none)
theorem okX1_init : okM mX1_init 0 := ⟨rfl, ⟨by decide, by decide, by decide +kernel⟩, by decide, plainFor_of_name (by decide), pt_tab (i := 366) (by decide +kernel) rfl, pt_tab (i := 13) (by decide +kernel) rfl⟩
theorem siX1_init : Cond.instanceMethod (my mX1_init) ∈ PT := pt_tab (i := 365) (by decide +kernel) rfl
def mX1_arrange : PMe := (1, yX1_arrange, cX1_arrange, 10, none)
theorem okX1_arrange : okM mX1_arrange 2 := ⟨rfl, ⟨by decide, by decide, by decide +kernel⟩, by decide, plainFor_of_name (by decide), pt_tab (i := 1008) (by decide +kernel) rfl, pt_tab (i := 13) (by decide +kernel) rfl⟩
theorem siX1_arrange : Cond.instanceMethod (my mX1_arrange) ∈ PT := pt_tab (i := 1006) (by decide +kernel) rfl
theorem seX1_arrange : Cond.selects (my mX1_arrange).cls (my mX1_arrange) (my mX1_arrange) ∈ PT := pt_tab (i := 1007) (by decide +kernel) rfl
def mX1_rowOf : PMe := (1, yX1_rowOf, cX1_rowOf, 2, (some .int))
theorem okX1_rowOf : okM mX1_rowOf 1 := ⟨rfl, ⟨by decide, by decide, by decide +kernel⟩, by decide, plainFor_of_name (by decide), pt_tab (i := 1040) (by decide +kernel) rfl, pt_tab (i := 13) (by decide +kernel) rfl⟩
theorem siX1_rowOf : Cond.instanceMethod (my mX1_rowOf) ∈ PT := pt_tab (i := 1038) (by decide +kernel) rfl
theorem seX1_rowOf : Cond.selects (my mX1_rowOf).cls (my mX1_rowOf) (my mX1_rowOf) ∈ PT := pt_tab (i := 1039) (by decide +kernel) rfl
def mX1_columnOf : PMe := (1, yX1_columnOf, cX1_columnOf, 2, (some .int))
theorem okX1_columnOf : okM mX1_columnOf 1 := ⟨rfl, ⟨by decide, by decide, by decide +kernel⟩, by decide, plainFor_of_name (by decide), pt_tab (i := 1036) (by decide +kernel) rfl, pt_tab (i := 13) (by decide +kernel) rfl⟩
theorem siX1_columnOf : Cond.instanceMethod (my mX1_columnOf) ∈ PT := pt_tab (i := 1034) (by decide +kernel) rfl
theorem seX1_columnOf : Cond.selects (my mX1_columnOf).cls (my mX1_columnOf) (my mX1_columnOf) ∈ PT := pt_tab (i := 1035) (by decide +kernel) rfl
def mX1_start : PMe := (1, yX1_start, cX1_start, 2, none)
theorem okX1_start : okM mX1_start 0 := ⟨rfl, ⟨by decide, by decide, by decide +kernel⟩, by decide, plainFor_of_name (by decide), pt_tab (i := 1012) (by decide +kernel) rfl, pt_tab (i := 13) (by decide +kernel) rfl⟩
theorem siX1_start : Cond.instanceMethod (my mX1_start) ∈ PT := pt_tab (i := 1011) (by decide +kernel) rfl
theorem seX1_start : Cond.selects (my mX1_start).cls (my mX1_start) (my mX1_start) ∈ PT := pt_sel (q := (yX1_start, 6)) (i := 33) (by decide +kernel)
def mX1_arrangeGroup : PMe := (1, yX1_arrangeGroup, cX1_arrangeGroup, 4, none)
theorem okX1_arrangeGroup : okM mX1_arrangeGroup 3 := ⟨rfl, ⟨by decide, by decide, by decide +kernel⟩, by decide, plainFor_of_name (by decide), pt_tab (i := 1024) (by decide +kernel) rfl, pt_tab (i := 13) (by decide +kernel) rfl⟩
theorem siX1_arrangeGroup : Cond.instanceMethod (my mX1_arrangeGroup) ∈ PT := pt_tab (i := 1023) (by decide +kernel) rfl
theorem seX1_arrangeGroup : Cond.selects (my mX1_arrangeGroup).cls (my mX1_arrangeGroup) (my mX1_arrangeGroup) ∈ PT := pt_sel (q := (yX1_arrangeGroup, 6)) (i := 35) (by decide +kernel)
def mX1_beginRow : PMe := (1, yX1_beginRow, cX1_beginRow, 2, none)
theorem okX1_beginRow : okM mX1_beginRow 1 := ⟨rfl, ⟨by decide, by decide, by decide +kernel⟩, by decide, plainFor_of_name (by decide), pt_tab (i := 1020) (by decide +kernel) rfl, pt_tab (i := 13) (by decide +kernel) rfl⟩
theorem siX1_beginRow : Cond.instanceMethod (my mX1_beginRow) ∈ PT := pt_tab (i := 1019) (by decide +kernel) rfl
theorem seX1_beginRow : Cond.selects (my mX1_beginRow).cls (my mX1_beginRow) (my mX1_beginRow) ∈ PT := pt_sel (q := (yX1_beginRow, 6)) (i := 34) (by decide +kernel)
def mX1_stand : PMe := (1, yX1_stand, cX1_stand, 2, none)
theorem okX1_stand : okM mX1_stand 1 := ⟨rfl, ⟨by decide, by decide, by decide +kernel⟩, by decide, plainFor_of_name (by decide), pt_tab (i := 1028) (by decide +kernel) rfl, pt_tab (i := 13) (by decide +kernel) rfl⟩
theorem siX1_stand : Cond.instanceMethod (my mX1_stand) ∈ PT := pt_tab (i := 1027) (by decide +kernel) rfl
theorem seX1_stand : Cond.selects (my mX1_stand).cls (my mX1_stand) (my mX1_stand) ∈ PT := pt_sel (q := (yX1_stand, 6)) (i := 36) (by decide +kernel)
def mX2_init : PMe := (2, yX2_init, cX2_init, 1, none)
theorem okX2_init : okM mX2_init 0 := ⟨rfl, ⟨by decide, by decide, by decide +kernel⟩, by decide, plainFor_of_name (by decide), pt_tab (i := 44) (by decide +kernel) rfl, pt_tab (i := 4) (by decide +kernel) rfl⟩
theorem siX2_init : Cond.instanceMethod (my mX2_init) ∈ PT := pt_tab (i := 43) (by decide +kernel) rfl
def mX2_clear : PMe := (2, yX2_clear, cX2_clear, 1, none)
theorem okX2_clear : okM mX2_clear 0 := ⟨rfl, ⟨by decide, by decide, by decide +kernel⟩, by decide, plainFor_of_name (by decide), pt_tab (i := 518) (by decide +kernel) rfl, pt_tab (i := 4) (by decide +kernel) rfl⟩
theorem siX2_clear : Cond.instanceMethod (my mX2_clear) ∈ PT := pt_tab (i := 516) (by decide +kernel) rfl
theorem seX2_clear : Cond.selects (my mX2_clear).cls (my mX2_clear) (my mX2_clear) ∈ PT := pt_tab (i := 517) (by decide +kernel) rfl
def mX2_copyFrom : PMe := (2, yX2_copyFrom, cX2_copyFrom, 2, none)
theorem okX2_copyFrom : okM mX2_copyFrom 1 := ⟨rfl, ⟨by decide, by decide, by decide +kernel⟩, by decide, plainFor_of_name (by decide), pt_tab (i := 696) (by decide +kernel) rfl, pt_tab (i := 4) (by decide +kernel) rfl⟩
theorem siX2_copyFrom : Cond.instanceMethod (my mX2_copyFrom) ∈ PT := pt_tab (i := 694) (by decide +kernel) rfl
theorem seX2_copyFrom : Cond.selects (my mX2_copyFrom).cls (my mX2_copyFrom) (my mX2_copyFrom) ∈ PT := pt_tab (i := 695) (by decide +kernel) rfl
def mX2_allows : PMe := (2, yX2_allows, cX2_allows, 2, (some .boolean))
theorem okX2_allows : okM mX2_allows 1 := ⟨rfl, ⟨by decide, by decide, by decide +kernel⟩, by decide, plainFor_of_name (by decide), pt_tab (i := 850) (by decide +kernel) rfl, pt_tab (i := 4) (by decide +kernel) rfl⟩
theorem siX2_allows : Cond.instanceMethod (my mX2_allows) ∈ PT := pt_tab (i := 848) (by decide +kernel) rfl
theorem seX2_allows : Cond.selects (my mX2_allows).cls (my mX2_allows) (my mX2_allows) ∈ PT := pt_tab (i := 849) (by decide +kernel) rfl
def mX3_init : PMe := (3, yX3_init, cX3_init, 1, none)
theorem okX3_init : okM mX3_init 0 := ⟨rfl, ⟨by decide, by decide, by decide +kernel⟩, by decide, plainFor_of_name (by decide), pt_tab (i := 199) (by decide +kernel) rfl, pt_tab (i := 6) (by decide +kernel) rfl⟩
theorem siX3_init : Cond.instanceMethod (my mX3_init) ∈ PT := pt_tab (i := 198) (by decide +kernel) rfl
def mX3_isKeyword : PMe := (3, yX3_isKeyword, cX3_isKeyword, 3, (some .boolean))
theorem okX3_isKeyword : okM mX3_isKeyword 1 := ⟨rfl, ⟨by decide, by decide, by decide +kernel⟩, by decide, plainFor_of_name (by decide), pt_tab (i := 748) (by decide +kernel) rfl, pt_tab (i := 6) (by decide +kernel) rfl⟩
theorem siX3_isKeyword : Cond.instanceMethod (my mX3_isKeyword) ∈ PT := pt_tab (i := 746) (by decide +kernel) rfl
theorem seX3_isKeyword : Cond.selects (my mX3_isKeyword).cls (my mX3_isKeyword) (my mX3_isKeyword) ∈ PT := pt_tab (i := 747) (by decide +kernel) rfl
def mX3_start : PMe := (3, yX3_start, cX3_start, 3, none)
theorem okX3_start : okM mX3_start 2 := ⟨rfl, ⟨by decide, by decide, by decide +kernel⟩, by decide, plainFor_of_name (by decide), pt_tab (i := 470) (by decide +kernel) rfl, pt_tab (i := 6) (by decide +kernel) rfl⟩
theorem siX3_start : Cond.instanceMethod (my mX3_start) ∈ PT := pt_tab (i := 468) (by decide +kernel) rfl
theorem seX3_start : Cond.selects (my mX3_start).cls (my mX3_start) (my mX3_start) ∈ PT := pt_tab (i := 469) (by decide +kernel) rfl
def mX3_readHead : PMe := (3, yX3_readHead, cX3_readHead, 1, (some .boolean))
theorem okX3_readHead : okM mX3_readHead 0 := ⟨rfl, ⟨by decide, by decide, by decide +kernel⟩, by decide, plainFor_of_name (by decide), pt_tab (i := 510) (by decide +kernel) rfl, pt_tab (i := 6) (by decide +kernel) rfl⟩
theorem siX3_readHead : Cond.instanceMethod (my mX3_readHead) ∈ PT := pt_tab (i := 508) (by decide +kernel) rfl
theorem seX3_readHead : Cond.selects (my mX3_readHead).cls (my mX3_readHead) (my mX3_readHead) ∈ PT := pt_tab (i := 509) (by decide +kernel) rfl
def mX3_readNodes : PMe := (3, yX3_readNodes, cX3_readNodes, 6, (some .boolean))
theorem okX3_readNodes : okM mX3_readNodes 1 := ⟨rfl, ⟨by decide, by decide, by decide +kernel⟩, by decide, plainFor_of_name (by decide), pt_tab (i := 535) (by decide +kernel) rfl, pt_tab (i := 6) (by decide +kernel) rfl⟩
theorem siX3_readNodes : Cond.instanceMethod (my mX3_readNodes) ∈ PT := pt_tab (i := 533) (by decide +kernel) rfl
theorem seX3_readNodes : Cond.selects (my mX3_readNodes).cls (my mX3_readNodes) (my mX3_readNodes) ∈ PT := pt_tab (i := 534) (by decide +kernel) rfl
def mX3_readCondition : PMe := (3, yX3_readCondition, cX3_readCondition, 3, (some .boolean))
theorem okX3_readCondition : okM mX3_readCondition 2 := ⟨rfl, ⟨by decide, by decide, by decide +kernel⟩, by decide, plainFor_of_name (by decide), pt_tab (i := 732) (by decide +kernel) rfl, pt_tab (i := 6) (by decide +kernel) rfl⟩
theorem siX3_readCondition : Cond.instanceMethod (my mX3_readCondition) ∈ PT := pt_tab (i := 730) (by decide +kernel) rfl
theorem seX3_readCondition : Cond.selects (my mX3_readCondition).cls (my mX3_readCondition) (my mX3_readCondition) ∈ PT := pt_tab (i := 731) (by decide +kernel) rfl
def mX3_settle : PMe := (3, yX3_settle, cX3_settle, 4, (some .boolean))
theorem okX3_settle : okM mX3_settle 0 := ⟨rfl, ⟨by decide, by decide, by decide +kernel⟩, by decide, plainFor_of_name (by decide), pt_tab (i := 654) (by decide +kernel) rfl, pt_tab (i := 6) (by decide +kernel) rfl⟩
theorem siX3_settle : Cond.instanceMethod (my mX3_settle) ∈ PT := pt_tab (i := 652) (by decide +kernel) rfl
theorem seX3_settle : Cond.selects (my mX3_settle).cls (my mX3_settle) (my mX3_settle) ∈ PT := pt_tab (i := 653) (by decide +kernel) rfl
def mX3_fail : PMe := (3, yX3_fail, cX3_fail, 1, (some .boolean))
theorem okX3_fail : okM mX3_fail 0 := ⟨rfl, ⟨by decide, by decide, by decide +kernel⟩, by decide, plainFor_of_name (by decide), pt_tab (i := 526) (by decide +kernel) rfl, pt_tab (i := 6) (by decide +kernel) rfl⟩
theorem siX3_fail : Cond.instanceMethod (my mX3_fail) ∈ PT := pt_tab (i := 525) (by decide +kernel) rfl
theorem seX3_fail : Cond.selects (my mX3_fail).cls (my mX3_fail) (my mX3_fail) ∈ PT := pt_sel (q := (yX3_fail, 9)) (i := 5) (by decide +kernel)
def mX3_take : PMe := (3, yX3_take, cX3_take, 2, (some .boolean))
theorem okX3_take : okM mX3_take 1 := ⟨rfl, ⟨by decide, by decide, by decide +kernel⟩, by decide, plainFor_of_name (by decide), pt_tab (i := 522) (by decide +kernel) rfl, pt_tab (i := 6) (by decide +kernel) rfl⟩
theorem siX3_take : Cond.instanceMethod (my mX3_take) ∈ PT := pt_tab (i := 521) (by decide +kernel) rfl
theorem seX3_take : Cond.selects (my mX3_take).cls (my mX3_take) (my mX3_take) ∈ PT := pt_sel (q := (yX3_take, 9)) (i := 4) (by decide +kernel)
def mX3_takeInt : PMe := (3, yX3_takeInt, cX3_takeInt, 5, (some .int))
theorem okX3_takeInt : okM mX3_takeInt 2 := ⟨rfl, ⟨by decide, by decide, by decide +kernel⟩, by decide, plainFor_of_name (by decide), pt_tab (i := 531) (by decide +kernel) rfl, pt_tab (i := 6) (by decide +kernel) rfl⟩
theorem siX3_takeInt : Cond.instanceMethod (my mX3_takeInt) ∈ PT := pt_tab (i := 530) (by decide +kernel) rfl
theorem seX3_takeInt : Cond.selects (my mX3_takeInt).cls (my mX3_takeInt) (my mX3_takeInt) ∈ PT := pt_sel (q := (yX3_takeInt, 9)) (i := 6) (by decide +kernel)
def mX3_takeNewName : PMe := (3, yX3_takeNewName, cX3_takeNewName, 3, (some .long))
theorem okX3_takeNewName : okM mX3_takeNewName 0 := ⟨rfl, ⟨by decide, by decide, by decide +kernel⟩, by decide, plainFor_of_name (by decide), pt_tab (i := 551) (by decide +kernel) rfl, pt_tab (i := 6) (by decide +kernel) rfl⟩
theorem siX3_takeNewName : Cond.instanceMethod (my mX3_takeNewName) ∈ PT := pt_tab (i := 550) (by decide +kernel) rfl
theorem seX3_takeNewName : Cond.selects (my mX3_takeNewName).cls (my mX3_takeNewName) (my mX3_takeNewName) ∈ PT := pt_sel (q := (yX3_takeNewName, 9)) (i := 8) (by decide +kernel)
def mX3_groupHead : PMe := (3, yX3_groupHead, cX3_groupHead, 6, (some .int))
theorem okX3_groupHead : okM mX3_groupHead 1 := ⟨rfl, ⟨by decide, by decide, by decide +kernel⟩, by decide, plainFor_of_name (by decide), pt_tab (i := 539) (by decide +kernel) rfl, pt_tab (i := 6) (by decide +kernel) rfl⟩
theorem siX3_groupHead : Cond.instanceMethod (my mX3_groupHead) ∈ PT := pt_tab (i := 538) (by decide +kernel) rfl
theorem seX3_groupHead : Cond.selects (my mX3_groupHead).cls (my mX3_groupHead) (my mX3_groupHead) ∈ PT := pt_sel (q := (yX3_groupHead, 9)) (i := 7) (by decide +kernel)
def mX3_field : PMe := (3, yX3_field, cX3_field, 9, (some .boolean))
theorem okX3_field : okM mX3_field 1 := ⟨rfl, ⟨by decide, by decide, by decide +kernel⟩, by decide, plainFor_of_name (by decide), pt_tab (i := 645) (by decide +kernel) rfl, pt_tab (i := 6) (by decide +kernel) rfl⟩
theorem siX3_field : Cond.instanceMethod (my mX3_field) ∈ PT := pt_tab (i := 644) (by decide +kernel) rfl
theorem seX3_field : Cond.selects (my mX3_field).cls (my mX3_field) (my mX3_field) ∈ PT := pt_sel (q := (yX3_field, 9)) (i := 18) (by decide +kernel)
def mX3_takeHighest : PMe := (3, yX3_takeHighest, cX3_takeHighest, 3, (some .int))
theorem okX3_takeHighest : okM mX3_takeHighest 2 := ⟨rfl, ⟨by decide, by decide, by decide +kernel⟩, by decide, plainFor_of_name (by decide), pt_tab (i := 649) (by decide +kernel) rfl, pt_tab (i := 6) (by decide +kernel) rfl⟩
theorem siX3_takeHighest : Cond.instanceMethod (my mX3_takeHighest) ∈ PT := pt_tab (i := 648) (by decide +kernel) rfl
theorem seX3_takeHighest : Cond.selects (my mX3_takeHighest).cls (my mX3_takeHighest) (my mX3_takeHighest) ∈ PT := pt_sel (q := (yX3_takeHighest, 9)) (i := 19) (by decide +kernel)
def mX3_condition : PMe := (3, yX3_condition, cX3_condition, 4, (some .boolean))
theorem okX3_condition : okM mX3_condition 2 := ⟨rfl, ⟨by decide, by decide, by decide +kernel⟩, by decide, plainFor_of_name (by decide), pt_tab (i := 584) (by decide +kernel) rfl, pt_tab (i := 6) (by decide +kernel) rfl⟩
theorem siX3_condition : Cond.instanceMethod (my mX3_condition) ∈ PT := pt_tab (i := 583) (by decide +kernel) rfl
theorem seX3_condition : Cond.selects (my mX3_condition).cls (my mX3_condition) (my mX3_condition) ∈ PT := pt_sel (q := (yX3_condition, 9)) (i := 12) (by decide +kernel)
def mX3_disjunction : PMe := (3, yX3_disjunction, cX3_disjunction, 6, (some (.object "FormDesigner$Term")))
theorem okX3_disjunction : okM mX3_disjunction 1 := ⟨rfl, ⟨by decide, by decide, by decide +kernel⟩, by decide, plainFor_of_name (by decide), pt_tab (i := 588) (by decide +kernel) rfl, pt_tab (i := 6) (by decide +kernel) rfl⟩
theorem siX3_disjunction : Cond.instanceMethod (my mX3_disjunction) ∈ PT := pt_tab (i := 587) (by decide +kernel) rfl
theorem seX3_disjunction : Cond.selects (my mX3_disjunction).cls (my mX3_disjunction) (my mX3_disjunction) ∈ PT := pt_sel (q := (yX3_disjunction, 9)) (i := 13) (by decide +kernel)
def mX3_conjunction : PMe := (3, yX3_conjunction, cX3_conjunction, 6, (some (.object "FormDesigner$Term")))
theorem okX3_conjunction : okM mX3_conjunction 1 := ⟨rfl, ⟨by decide, by decide, by decide +kernel⟩, by decide, plainFor_of_name (by decide), pt_tab (i := 592) (by decide +kernel) rfl, pt_tab (i := 6) (by decide +kernel) rfl⟩
theorem siX3_conjunction : Cond.instanceMethod (my mX3_conjunction) ∈ PT := pt_tab (i := 591) (by decide +kernel) rfl
theorem seX3_conjunction : Cond.selects (my mX3_conjunction).cls (my mX3_conjunction) (my mX3_conjunction) ∈ PT := pt_sel (q := (yX3_conjunction, 9)) (i := 14) (by decide +kernel)
def mX3_test : PMe := (3, yX3_test, cX3_test, 4, (some (.object "FormDesigner$Term")))
theorem okX3_test : okM mX3_test 1 := ⟨rfl, ⟨by decide, by decide, by decide +kernel⟩, by decide, plainFor_of_name (by decide), pt_tab (i := 596) (by decide +kernel) rfl, pt_tab (i := 6) (by decide +kernel) rfl⟩
theorem siX3_test : Cond.instanceMethod (my mX3_test) ∈ PT := pt_tab (i := 595) (by decide +kernel) rfl
theorem seX3_test : Cond.selects (my mX3_test).cls (my mX3_test) (my mX3_test) ∈ PT := pt_sel (q := (yX3_test, 9)) (i := 15) (by decide +kernel)
def mX3_negation : PMe := (3, yX3_negation, cX3_negation, 4, (some (.object "FormDesigner$Term")))
theorem okX3_negation : okM mX3_negation 1 := ⟨rfl, ⟨by decide, by decide, by decide +kernel⟩, by decide, plainFor_of_name (by decide), pt_tab (i := 641) (by decide +kernel) rfl, pt_tab (i := 6) (by decide +kernel) rfl⟩
theorem siX3_negation : Cond.instanceMethod (my mX3_negation) ∈ PT := pt_tab (i := 640) (by decide +kernel) rfl
theorem seX3_negation : Cond.selects (my mX3_negation).cls (my mX3_negation) (my mX3_negation) ∈ PT := pt_sel (q := (yX3_negation, 9)) (i := 17) (by decide +kernel)
def mX3_nameTest : PMe := (3, yX3_nameTest, cX3_nameTest, 3, (some (.object "FormDesigner$Term")))
theorem okX3_nameTest : okM mX3_nameTest 0 := ⟨rfl, ⟨by decide, by decide, by decide +kernel⟩, by decide, plainFor_of_name (by decide), pt_tab (i := 600) (by decide +kernel) rfl, pt_tab (i := 6) (by decide +kernel) rfl⟩
theorem siX3_nameTest : Cond.instanceMethod (my mX3_nameTest) ∈ PT := pt_tab (i := 599) (by decide +kernel) rfl
theorem seX3_nameTest : Cond.selects (my mX3_nameTest).cls (my mX3_nameTest) (my mX3_nameTest) ∈ PT := pt_sel (q := (yX3_nameTest, 9)) (i := 16) (by decide +kernel)
def mX4_init : PMe := (4, yX4_init, cX4_init, 1, none)
theorem okX4_init : okM mX4_init 0 := ⟨rfl, ⟨by decide, by decide, by decide +kernel⟩, by decide, plainFor_of_name (by decide), pt_tab (i := 165) (by decide +kernel) rfl, pt_tab (i := 5) (by decide +kernel) rfl⟩
theorem siX4_init : Cond.instanceMethod (my mX4_init) ∈ PT := pt_tab (i := 164) (by decide +kernel) rfl
def mX4_clear : PMe := (4, yX4_clear, cX4_clear, 3, none)
theorem okX4_clear : okM mX4_clear 1 := ⟨rfl, ⟨by decide, by decide, by decide +kernel⟩, by decide, plainFor_of_name (by decide), pt_tab (i := 830) (by decide +kernel) rfl, pt_tab (i := 5) (by decide +kernel) rfl⟩
theorem siX4_clear : Cond.instanceMethod (my mX4_clear) ∈ PT := pt_tab (i := 828) (by decide +kernel) rfl
theorem seX4_clear : Cond.selects (my mX4_clear).cls (my mX4_clear) (my mX4_clear) ∈ PT := pt_tab (i := 829) (by decide +kernel) rfl
def mX4_copyFrom : PMe := (4, yX4_copyFrom, cX4_copyFrom, 3, none)
theorem okX4_copyFrom : okM mX4_copyFrom 1 := ⟨rfl, ⟨by decide, by decide, by decide +kernel⟩, by decide, plainFor_of_name (by decide), pt_tab (i := 717) (by decide +kernel) rfl, pt_tab (i := 5) (by decide +kernel) rfl⟩
theorem siX4_copyFrom : Cond.instanceMethod (my mX4_copyFrom) ∈ PT := pt_tab (i := 715) (by decide +kernel) rfl
theorem seX4_copyFrom : Cond.selects (my mX4_copyFrom).cls (my mX4_copyFrom) (my mX4_copyFrom) ∈ PT := pt_tab (i := 716) (by decide +kernel) rfl
def mX4_given : PMe := (4, yX4_given, cX4_given, 2, (some .int))
theorem okX4_given : okM mX4_given 1 := ⟨rfl, ⟨by decide, by decide, by decide +kernel⟩, by decide, plainFor_of_name (by decide), pt_tab (i := 884) (by decide +kernel) rfl, pt_tab (i := 5) (by decide +kernel) rfl⟩
theorem siX4_given : Cond.instanceMethod (my mX4_given) ∈ PT := pt_tab (i := 882) (by decide +kernel) rfl
theorem seX4_given : Cond.selects (my mX4_given).cls (my mX4_given) (my mX4_given) ∈ PT := pt_tab (i := 883) (by decide +kernel) rfl
def mX4_give : PMe := (4, yX4_give, cX4_give, 3, none)
theorem okX4_give : okM mX4_give 2 := ⟨rfl, ⟨by decide, by decide, by decide +kernel⟩, by decide, plainFor_of_name (by decide), pt_tab (i := 895) (by decide +kernel) rfl, pt_tab (i := 5) (by decide +kernel) rfl⟩
theorem siX4_give : Cond.instanceMethod (my mX4_give) ∈ PT := pt_tab (i := 893) (by decide +kernel) rfl
theorem seX4_give : Cond.selects (my mX4_give).cls (my mX4_give) (my mX4_give) ∈ PT := pt_tab (i := 894) (by decide +kernel) rfl
def mX5_init : PMe := (5, yX5_init, cX5_init, 2, none)
theorem okX5_init : okM mX5_init 0 := ⟨rfl, ⟨by decide, by decide, by decide +kernel⟩, by decide, plainFor_of_name (by decide), pt_tab (i := 31) (by decide +kernel) rfl, pt_tab (i := 2) (by decide +kernel) rfl⟩
theorem siX5_init : Cond.instanceMethod (my mX5_init) ∈ PT := pt_tab (i := 30) (by decide +kernel) rfl
def mX5_copyFrom : PMe := (5, yX5_copyFrom, cX5_copyFrom, 3, none)
theorem okX5_copyFrom : okM mX5_copyFrom 1 := ⟨rfl, ⟨by decide, by decide, by decide +kernel⟩, by decide, plainFor_of_name (by decide), pt_tab (i := 712) (by decide +kernel) rfl, pt_tab (i := 2) (by decide +kernel) rfl⟩
theorem siX5_copyFrom : Cond.instanceMethod (my mX5_copyFrom) ∈ PT := pt_tab (i := 710) (by decide +kernel) rfl
theorem seX5_copyFrom : Cond.selects (my mX5_copyFrom).cls (my mX5_copyFrom) (my mX5_copyFrom) ∈ PT := pt_tab (i := 711) (by decide +kernel) rfl
def mX5_findSheet : PMe := (5, yX5_findSheet, cX5_findSheet, 2, (some (.object "FormDesigner$Sheet")))
theorem okX5_findSheet : okM mX5_findSheet 1 := ⟨rfl, ⟨by decide, by decide, by decide +kernel⟩, by decide, plainFor_of_name (by decide), pt_tab (i := 838) (by decide +kernel) rfl, pt_tab (i := 2) (by decide +kernel) rfl⟩
theorem siX5_findSheet : Cond.instanceMethod (my mX5_findSheet) ∈ PT := pt_tab (i := 836) (by decide +kernel) rfl
theorem seX5_findSheet : Cond.selects (my mX5_findSheet).cls (my mX5_findSheet) (my mX5_findSheet) ∈ PT := pt_tab (i := 837) (by decide +kernel) rfl
def mX6_init : PMe := (6, yX6_init, cX6_init, 2, none)
theorem okX6_init : okM mX6_init 1 := ⟨rfl, ⟨by decide, by decide, by decide +kernel⟩, by decide, plainFor_of_name (by decide), pt_tab (i := 604) (by decide +kernel) rfl, pt_tab (i := 16) (by decide +kernel) rfl⟩
theorem siX6_init : Cond.instanceMethod (my mX6_init) ∈ PT := pt_tab (i := 603) (by decide +kernel) rfl
def mX7_init : PMe := (7, yX7_init, cX7_init, 2, none)
theorem okX7_init : okM mX7_init 0 := ⟨rfl, ⟨by decide, by decide, by decide +kernel⟩, by decide, plainFor_of_name (by decide), pt_tab (i := 207) (by decide +kernel) rfl, pt_tab (i := 7) (by decide +kernel) rfl⟩
theorem siX7_init : Cond.instanceMethod (my mX7_init) ∈ PT := pt_tab (i := 206) (by decide +kernel) rfl
def mX7_read : PMe := (7, yX7_read, cX7_read, 6, none)
theorem okX7_read : okM mX7_read 2 := ⟨rfl, ⟨by decide, by decide, by decide +kernel⟩, by decide, plainFor_of_name (by decide), pt_tab (i := 474) (by decide +kernel) rfl, pt_tab (i := 7) (by decide +kernel) rfl⟩
theorem siX7_read : Cond.instanceMethod (my mX7_read) ∈ PT := pt_tab (i := 472) (by decide +kernel) rfl
theorem seX7_read : Cond.selects (my mX7_read).cls (my mX7_read) (my mX7_read) ∈ PT := pt_tab (i := 473) (by decide +kernel) rfl
def mX7_step : PMe := (7, yX7_step, cX7_step, 2, none)
theorem okX7_step : okM mX7_step 0 := ⟨rfl, ⟨by decide, by decide, by decide +kernel⟩, by decide, plainFor_of_name (by decide), pt_tab (i := 506) (by decide +kernel) rfl, pt_tab (i := 7) (by decide +kernel) rfl⟩
theorem siX7_step : Cond.instanceMethod (my mX7_step) ∈ PT := pt_tab (i := 504) (by decide +kernel) rfl
theorem seX7_step : Cond.selects (my mX7_step).cls (my mX7_step) (my mX7_step) ∈ PT := pt_tab (i := 505) (by decide +kernel) rfl
def mX7_wordOf : PMe := (7, yX7_wordOf, cX7_wordOf, 4, (some .int))
theorem okX7_wordOf : okM mX7_wordOf 1 := ⟨rfl, ⟨by decide, by decide, by decide +kernel⟩, by decide, plainFor_of_name (by decide), pt_tab (i := 494) (by decide +kernel) rfl, pt_tab (i := 7) (by decide +kernel) rfl⟩
theorem siX7_wordOf : Cond.instanceMethod (my mX7_wordOf) ∈ PT := pt_tab (i := 492) (by decide +kernel) rfl
theorem seX7_wordOf : Cond.selects (my mX7_wordOf).cls (my mX7_wordOf) (my mX7_wordOf) ∈ PT := pt_tab (i := 493) (by decide +kernel) rfl
def mX7_beginToken : PMe := (7, yX7_beginToken, cX7_beginToken, 3, none)
theorem okX7_beginToken : okM mX7_beginToken 2 := ⟨rfl, ⟨by decide, by decide, by decide +kernel⟩, by decide, plainFor_of_name (by decide), pt_tab (i := 481) (by decide +kernel) rfl, pt_tab (i := 7) (by decide +kernel) rfl⟩
theorem siX7_beginToken : Cond.instanceMethod (my mX7_beginToken) ∈ PT := pt_tab (i := 480) (by decide +kernel) rfl
theorem seX7_beginToken : Cond.selects (my mX7_beginToken).cls (my mX7_beginToken) (my mX7_beginToken) ∈ PT := pt_sel (q := (yX7_beginToken, 11)) (i := 1) (by decide +kernel)
def mX7_extend : PMe := (7, yX7_extend, cX7_extend, 4, none)
theorem okX7_extend : okM mX7_extend 1 := ⟨rfl, ⟨by decide, by decide, by decide +kernel⟩, by decide, plainFor_of_name (by decide), pt_tab (i := 485) (by decide +kernel) rfl, pt_tab (i := 7) (by decide +kernel) rfl⟩
theorem siX7_extend : Cond.instanceMethod (my mX7_extend) ∈ PT := pt_tab (i := 484) (by decide +kernel) rfl
theorem seX7_extend : Cond.selects (my mX7_extend).cls (my mX7_extend) (my mX7_extend) ∈ PT := pt_sel (q := (yX7_extend, 11)) (i := 2) (by decide +kernel)
def mX7_kindOf : PMe := (7, yX7_kindOf, cX7_kindOf, 6, (some .int))
theorem okX7_kindOf : okM mX7_kindOf 3 := ⟨rfl, ⟨by decide, by decide, by decide +kernel⟩, by decide, plainFor_of_name (by decide), pt_tab (i := 490) (by decide +kernel) rfl, pt_tab (i := 7) (by decide +kernel) rfl⟩
theorem siX7_kindOf : Cond.instanceMethod (my mX7_kindOf) ∈ PT := pt_tab (i := 489) (by decide +kernel) rfl
theorem seX7_kindOf : Cond.selects (my mX7_kindOf).cls (my mX7_kindOf) (my mX7_kindOf) ∈ PT := pt_sel (q := (yX7_kindOf, 11)) (i := 3) (by decide +kernel)
def mX7_sortOf : PMe := (7, yX7_sortOf, cX7_sortOf, 1, (some .int))
theorem okX7_sortOf : okM mX7_sortOf 1 := ⟨rfl, ⟨by decide, by decide, by decide +kernel⟩, by decide, plainFor_of_name (by decide), pt_tab (i := 477) (by decide +kernel) rfl, pt_tab (i := 7) (by decide +kernel) rfl⟩
theorem siX7_sortOf : Cond.static (my mX7_sortOf) ∈ PT := pt_tab (i := 476) (by decide +kernel) rfl
def mX7_packed : PMe := (7, yX7_packed, cX7_packed, 4, (some .long))
theorem okX7_packed : okM mX7_packed 1 := ⟨rfl, ⟨by decide, by decide, by decide +kernel⟩, by decide, plainFor_of_name (by decide), pt_tab (i := 225) (by decide +kernel) rfl, pt_tab (i := 7) (by decide +kernel) rfl⟩
theorem siX7_packed : Cond.static (my mX7_packed) ∈ PT := pt_tab (i := 224) (by decide +kernel) rfl
def mX8_init : PMe := (8, yX8_init, cX8_init, 1, none)
theorem okX8_init : okM mX8_init 0 := ⟨rfl, ⟨by decide, by decide, by decide +kernel⟩, by decide, plainFor_of_name (by decide), pt_tab (i := 348) (by decide +kernel) rfl, pt_tab (i := 12) (by decide +kernel) rfl⟩
theorem siX8_init : Cond.instanceMethod (my mX8_init) ∈ PT := pt_tab (i := 347) (by decide +kernel) rfl
def mX8_look : PMe := (8, yX8_look, cX8_look, 6, none)
theorem okX8_look : okM mX8_look 2 := ⟨rfl, ⟨by decide, by decide, by decide +kernel⟩, by decide, plainFor_of_name (by decide), pt_tab (i := 854) (by decide +kernel) rfl, pt_tab (i := 12) (by decide +kernel) rfl⟩
theorem siX8_look : Cond.instanceMethod (my mX8_look) ∈ PT := pt_tab (i := 852) (by decide +kernel) rfl
theorem seX8_look : Cond.selects (my mX8_look).cls (my mX8_look) (my mX8_look) ∈ PT := pt_tab (i := 853) (by decide +kernel) rfl
def mX8_shows : PMe := (8, yX8_shows, cX8_shows, 2, (some .boolean))
theorem okX8_shows : okM mX8_shows 1 := ⟨rfl, ⟨by decide, by decide, by decide +kernel⟩, by decide, plainFor_of_name (by decide), pt_tab (i := 889) (by decide +kernel) rfl, pt_tab (i := 12) (by decide +kernel) rfl⟩
theorem siX8_shows : Cond.instanceMethod (my mX8_shows) ∈ PT := pt_tab (i := 887) (by decide +kernel) rfl
theorem seX8_shows : Cond.selects (my mX8_shows).cls (my mX8_shows) (my mX8_shows) ∈ PT := pt_tab (i := 888) (by decide +kernel) rfl
def mX8_force : PMe := (8, yX8_force, cX8_force, 2, (some .int))
theorem okX8_force : okM mX8_force 1 := ⟨rfl, ⟨by decide, by decide, by decide +kernel⟩, by decide, plainFor_of_name (by decide), pt_tab (i := 879) (by decide +kernel) rfl, pt_tab (i := 12) (by decide +kernel) rfl⟩
theorem siX8_force : Cond.instanceMethod (my mX8_force) ∈ PT := pt_tab (i := 877) (by decide +kernel) rfl
theorem seX8_force : Cond.selects (my mX8_force).cls (my mX8_force) (my mX8_force) ∈ PT := pt_tab (i := 878) (by decide +kernel) rfl
def mX8_lookAtField : PMe := (8, yX8_lookAtField, cX8_lookAtField, 6, none)
theorem okX8_lookAtField : okM mX8_lookAtField 3 := ⟨rfl, ⟨by decide, by decide, by decide +kernel⟩, by decide, plainFor_of_name (by decide), pt_tab (i := 862) (by decide +kernel) rfl, pt_tab (i := 12) (by decide +kernel) rfl⟩
theorem siX8_lookAtField : Cond.instanceMethod (my mX8_lookAtField) ∈ PT := pt_tab (i := 861) (by decide +kernel) rfl
theorem seX8_lookAtField : Cond.selects (my mX8_lookAtField).cls (my mX8_lookAtField) (my mX8_lookAtField) ∈ PT := pt_sel (q := (yX8_lookAtField, 3)) (i := 28) (by decide +kernel)
def mX8_isVisible : PMe := (8, yX8_isVisible, cX8_isVisible, 5, (some .boolean))
theorem okX8_isVisible : okM mX8_isVisible 2 := ⟨rfl, ⟨by decide, by decide, by decide +kernel⟩, by decide, plainFor_of_name (by decide), pt_tab (i := 867) (by decide +kernel) rfl, pt_tab (i := 12) (by decide +kernel) rfl⟩
theorem siX8_isVisible : Cond.instanceMethod (my mX8_isVisible) ∈ PT := pt_tab (i := 866) (by decide +kernel) rfl
theorem seX8_isVisible : Cond.selects (my mX8_isVisible).cls (my mX8_isVisible) (my mX8_isVisible) ∈ PT := pt_sel (q := (yX8_isVisible, 3)) (i := 29) (by decide +kernel)
def mX8_holds : PMe := (8, yX8_holds, cX8_holds, 5, (some .boolean))
theorem okX8_holds : okM mX8_holds 3 := ⟨rfl, ⟨by decide, by decide, by decide +kernel⟩, by decide, plainFor_of_name (by decide), pt_tab (i := 871) (by decide +kernel) rfl, pt_tab (i := 12) (by decide +kernel) rfl⟩
theorem siX8_holds : Cond.static (my mX8_holds) ∈ PT := pt_tab (i := 870) (by decide +kernel) rfl
def mX8_passes : PMe := (8, yX8_passes, cX8_passes, 3, (some .boolean))
theorem okX8_passes : okM mX8_passes 1 := ⟨rfl, ⟨by decide, by decide, by decide +kernel⟩, by decide, plainFor_of_name (by decide), pt_tab (i := 875) (by decide +kernel) rfl, pt_tab (i := 12) (by decide +kernel) rfl⟩
theorem siX8_passes : Cond.instanceMethod (my mX8_passes) ∈ PT := pt_tab (i := 874) (by decide +kernel) rfl
theorem seX8_passes : Cond.selects (my mX8_passes).cls (my mX8_passes) (my mX8_passes) ∈ PT := pt_sel (q := (yX8_passes, 3)) (i := 30) (by decide +kernel)
def mX9_init : PMe := (9, yX9_init, cX9_init, 1, none)
theorem okX9_init : okM mX9_init 0 := ⟨rfl, ⟨by decide, by decide, by decide +kernel⟩, by decide, plainFor_of_name (by decide), pt_tab (i := 393) (by decide +kernel) rfl, pt_tab (i := 14) (by decide +kernel) rfl⟩
theorem siX9_init : Cond.instanceMethod (my mX9_init) ∈ PT := pt_tab (i := 392) (by decide +kernel) rfl
def mX9_start : PMe := (9, yX9_start, cX9_start, 2, none)
theorem okX9_start : okM mX9_start 1 := ⟨rfl, ⟨by decide, by decide, by decide +kernel⟩, by decide, plainFor_of_name (by decide), pt_tab (i := 1052) (by decide +kernel) rfl, pt_tab (i := 14) (by decide +kernel) rfl⟩
theorem siX9_start : Cond.instanceMethod (my mX9_start) ∈ PT := pt_tab (i := 1050) (by decide +kernel) rfl
theorem seX9_start : Cond.selects (my mX9_start).cls (my mX9_start) (my mX9_start) ∈ PT := pt_tab (i := 1051) (by decide +kernel) rfl
def mX9_put : PMe := (9, yX9_put, cX9_put, 2, none)
theorem okX9_put : okM mX9_put 1 := ⟨rfl, ⟨by decide, by decide, by decide +kernel⟩, by decide, plainFor_of_name (by decide), pt_tab (i := 1063) (by decide +kernel) rfl, pt_tab (i := 14) (by decide +kernel) rfl⟩
theorem siX9_put : Cond.instanceMethod (my mX9_put) ∈ PT := pt_tab (i := 1062) (by decide +kernel) rfl
theorem seX9_put : Cond.selects (my mX9_put).cls (my mX9_put) (my mX9_put) ∈ PT := pt_sel (q := (yX9_put, 4)) (i := 37) (by decide +kernel)
def mX9_putName : PMe := (9, yX9_putName, cX9_putName, 4, none)
theorem okX9_putName : okM mX9_putName 1 := ⟨rfl, ⟨by decide, by decide, by decide +kernel⟩, by decide, plainFor_of_name (by decide), pt_tab (i := 1068) (by decide +kernel) rfl, pt_tab (i := 14) (by decide +kernel) rfl⟩
theorem siX9_putName : Cond.instanceMethod (my mX9_putName) ∈ PT := pt_tab (i := 1067) (by decide +kernel) rfl
theorem seX9_putName : Cond.selects (my mX9_putName).cls (my mX9_putName) (my mX9_putName) ∈ PT := pt_sel (q := (yX9_putName, 4)) (i := 38) (by decide +kernel)
def mX9_writeLayout : PMe := (9, yX9_writeLayout, cX9_writeLayout, 10, none)
theorem okX9_writeLayout : okM mX9_writeLayout 3 := ⟨rfl, ⟨by decide, by decide, by decide +kernel⟩, by decide, plainFor_of_name (by decide), pt_tab (i := 1056) (by decide +kernel) rfl, pt_tab (i := 14) (by decide +kernel) rfl⟩
theorem siX9_writeLayout : Cond.instanceMethod (my mX9_writeLayout) ∈ PT := pt_tab (i := 1054) (by decide +kernel) rfl
theorem seX9_writeLayout : Cond.selects (my mX9_writeLayout).cls (my mX9_writeLayout) (my mX9_writeLayout) ∈ PT := pt_tab (i := 1055) (by decide +kernel) rfl
def mX9_putField : PMe := (9, yX9_putField, cX9_putField, 5, none)
theorem okX9_putField : okM mX9_putField 2 := ⟨rfl, ⟨by decide, by decide, by decide +kernel⟩, by decide, plainFor_of_name (by decide), pt_tab (i := 1074) (by decide +kernel) rfl, pt_tab (i := 14) (by decide +kernel) rfl⟩
theorem siX9_putField : Cond.instanceMethod (my mX9_putField) ∈ PT := pt_tab (i := 1073) (by decide +kernel) rfl
theorem seX9_putField : Cond.selects (my mX9_putField).cls (my mX9_putField) (my mX9_putField) ∈ PT := pt_sel (q := (yX9_putField, 4)) (i := 39) (by decide +kernel)
def mX9_nameLength : PMe := (9, yX9_nameLength, cX9_nameLength, 4, (some .int))
theorem okX9_nameLength : okM mX9_nameLength 1 := ⟨rfl, ⟨by decide, by decide, by decide +kernel⟩, by decide, plainFor_of_name (by decide), pt_tab (i := 1077) (by decide +kernel) rfl, pt_tab (i := 14) (by decide +kernel) rfl⟩
theorem siX9_nameLength : Cond.static (my mX9_nameLength) ∈ PT := pt_tab (i := 1076) (by decide +kernel) rfl
def mX9_digits : PMe := (9, yX9_digits, cX9_digits, 1, (some .int))
theorem okX9_digits : okM mX9_digits 1 := ⟨rfl, ⟨by decide, by decide, by decide +kernel⟩, by decide, plainFor_of_name (by decide), pt_tab (i := 1080) (by decide +kernel) rfl, pt_tab (i := 14) (by decide +kernel) rfl⟩
theorem siX9_digits : Cond.static (my mX9_digits) ∈ PT := pt_tab (i := 1079) (by decide +kernel) rfl
def mX9_digit : PMe := (9, yX9_digit, cX9_digit, 4, (some .int))
theorem okX9_digit : okM mX9_digit 2 := ⟨rfl, ⟨by decide, by decide, by decide +kernel⟩, by decide, plainFor_of_name (by decide), pt_tab (i := 1083) (by decide +kernel) rfl, pt_tab (i := 14) (by decide +kernel) rfl⟩
theorem siX9_digit : Cond.static (my mX9_digit) ∈ PT := pt_tab (i := 1082) (by decide +kernel) rfl
def mX9_writeSetup : PMe := (9, yX9_writeSetup, cX9_writeSetup, 5, none)
theorem okX9_writeSetup : okM mX9_writeSetup 1 := ⟨rfl, ⟨by decide, by decide, by decide +kernel⟩, by decide, plainFor_of_name (by decide), pt_tab (i := 1095) (by decide +kernel) rfl, pt_tab (i := 14) (by decide +kernel) rfl⟩
theorem siX9_writeSetup : Cond.instanceMethod (my mX9_writeSetup) ∈ PT := pt_tab (i := 1093) (by decide +kernel) rfl
theorem seX9_writeSetup : Cond.selects (my mX9_writeSetup).cls (my mX9_writeSetup) (my mX9_writeSetup) ∈ PT := pt_tab (i := 1094) (by decide +kernel) rfl
def mX9_closeGroups : PMe := (9, yX9_closeGroups, cX9_closeGroups, 4, none)
theorem okX9_closeGroups : okM mX9_closeGroups 2 := ⟨rfl, ⟨by decide, by decide, by decide +kernel⟩, by decide, plainFor_of_name (by decide), pt_tab (i := 1119) (by decide +kernel) rfl, pt_tab (i := 14) (by decide +kernel) rfl⟩
theorem siX9_closeGroups : Cond.instanceMethod (my mX9_closeGroups) ∈ PT := pt_tab (i := 1118) (by decide +kernel) rfl
theorem seX9_closeGroups : Cond.selects (my mX9_closeGroups).cls (my mX9_closeGroups) (my mX9_closeGroups) ∈ PT := pt_sel (q := (yX9_closeGroups, 4)) (i := 44) (by decide +kernel)
def mX9_putNode : PMe := (9, yX9_putNode, cX9_putNode, 4, none)
theorem okX9_putNode : okM mX9_putNode 2 := ⟨rfl, ⟨by decide, by decide, by decide +kernel⟩, by decide, plainFor_of_name (by decide), pt_tab (i := 1123) (by decide +kernel) rfl, pt_tab (i := 14) (by decide +kernel) rfl⟩
theorem siX9_putNode : Cond.instanceMethod (my mX9_putNode) ∈ PT := pt_tab (i := 1122) (by decide +kernel) rfl
theorem seX9_putNode : Cond.selects (my mX9_putNode).cls (my mX9_putNode) (my mX9_putNode) ∈ PT := pt_sel (q := (yX9_putNode, 4)) (i := 45) (by decide +kernel)
def mX9_putTerm : PMe := (9, yX9_putTerm, cX9_putTerm, 6, none)
theorem okX9_putTerm : okM mX9_putTerm 4 := ⟨rfl, ⟨by decide, by decide, by decide +kernel⟩, by decide, plainFor_of_name (by decide), pt_tab (i := 1126) (by decide +kernel) rfl, pt_tab (i := 14) (by decide +kernel) rfl⟩
theorem siX9_putTerm : Cond.static (my mX9_putTerm) ∈ PT := pt_tab (i := 1125) (by decide +kernel) rfl
def mX9_putTest : PMe := (9, yX9_putTest, cX9_putTest, 4, none)
theorem okX9_putTest : okM mX9_putTest 2 := ⟨rfl, ⟨by decide, by decide, by decide +kernel⟩, by decide, plainFor_of_name (by decide), pt_tab (i := 1130) (by decide +kernel) rfl, pt_tab (i := 14) (by decide +kernel) rfl⟩
theorem siX9_putTest : Cond.instanceMethod (my mX9_putTest) ∈ PT := pt_tab (i := 1129) (by decide +kernel) rfl
theorem seX9_putTest : Cond.selects (my mX9_putTest).cls (my mX9_putTest) (my mX9_putTest) ∈ PT := pt_sel (q := (yX9_putTest, 4)) (i := 46) (by decide +kernel)
def mX9_putSpace : PMe := (9, yX9_putSpace, cX9_putSpace, 1, none)
theorem okX9_putSpace : okM mX9_putSpace 0 := ⟨rfl, ⟨by decide, by decide, by decide +kernel⟩, by decide, plainFor_of_name (by decide), pt_tab (i := 1104) (by decide +kernel) rfl, pt_tab (i := 14) (by decide +kernel) rfl⟩
theorem siX9_putSpace : Cond.instanceMethod (my mX9_putSpace) ∈ PT := pt_tab (i := 1103) (by decide +kernel) rfl
theorem seX9_putSpace : Cond.selects (my mX9_putSpace).cls (my mX9_putSpace) (my mX9_putSpace) ∈ PT := pt_sel (q := (yX9_putSpace, 4)) (i := 41) (by decide +kernel)
def mX9_putKeyword : PMe := (9, yX9_putKeyword, cX9_putKeyword, 4, none)
theorem okX9_putKeyword : okM mX9_putKeyword 1 := ⟨rfl, ⟨by decide, by decide, by decide +kernel⟩, by decide, plainFor_of_name (by decide), pt_tab (i := 1099) (by decide +kernel) rfl, pt_tab (i := 14) (by decide +kernel) rfl⟩
theorem siX9_putKeyword : Cond.instanceMethod (my mX9_putKeyword) ∈ PT := pt_tab (i := 1098) (by decide +kernel) rfl
theorem seX9_putKeyword : Cond.selects (my mX9_putKeyword).cls (my mX9_putKeyword) (my mX9_putKeyword) ∈ PT := pt_sel (q := (yX9_putKeyword, 4)) (i := 40) (by decide +kernel)
def mX9_putNumber : PMe := (9, yX9_putNumber, cX9_putNumber, 3, none)
theorem okX9_putNumber : okM mX9_putNumber 1 := ⟨rfl, ⟨by decide, by decide, by decide +kernel⟩, by decide, plainFor_of_name (by decide), pt_tab (i := 1110) (by decide +kernel) rfl, pt_tab (i := 14) (by decide +kernel) rfl⟩
theorem siX9_putNumber : Cond.instanceMethod (my mX9_putNumber) ∈ PT := pt_tab (i := 1109) (by decide +kernel) rfl
theorem seX9_putNumber : Cond.selects (my mX9_putNumber).cls (my mX9_putNumber) (my mX9_putNumber) ∈ PT := pt_sel (q := (yX9_putNumber, 4)) (i := 42) (by decide +kernel)
def mX9_putSign : PMe := (9, yX9_putSign, cX9_putSign, 2, none)
theorem okX9_putSign : okM mX9_putSign 1 := ⟨rfl, ⟨by decide, by decide, by decide +kernel⟩, by decide, plainFor_of_name (by decide), pt_tab (i := 1134) (by decide +kernel) rfl, pt_tab (i := 14) (by decide +kernel) rfl⟩
theorem siX9_putSign : Cond.instanceMethod (my mX9_putSign) ∈ PT := pt_tab (i := 1133) (by decide +kernel) rfl
theorem seX9_putSign : Cond.selects (my mX9_putSign).cls (my mX9_putSign) (my mX9_putSign) ∈ PT := pt_sel (q := (yX9_putSign, 4)) (i := 47) (by decide +kernel)
def mX9_putMark : PMe := (9, yX9_putMark, cX9_putMark, 2, none)
theorem okX9_putMark : okM mX9_putMark 1 := ⟨rfl, ⟨by decide, by decide, by decide +kernel⟩, by decide, plainFor_of_name (by decide), pt_tab (i := 1114) (by decide +kernel) rfl, pt_tab (i := 14) (by decide +kernel) rfl⟩
theorem siX9_putMark : Cond.instanceMethod (my mX9_putMark) ∈ PT := pt_tab (i := 1113) (by decide +kernel) rfl
theorem seX9_putMark : Cond.selects (my mX9_putMark).cls (my mX9_putMark) (my mX9_putMark) ∈ PT := pt_sel (q := (yX9_putMark, 4)) (i := 43) (by decide +kernel)
def mX10_init : PMe := (10, yX10_init, cX10_init, 2, none)
theorem okX10_init : okM mX10_init 0 := ⟨rfl, ⟨by decide, by decide, by decide +kernel⟩, by decide, plainFor_of_name (by decide), pt_tab (i := 23) (by decide +kernel) rfl, pt_tab (i := 1) (by decide +kernel) rfl⟩
theorem siX10_init : Cond.instanceMethod (my mX10_init) ∈ PT := pt_tab (i := 22) (by decide +kernel) rfl
def mX10_append : PMe := (10, yX10_append, cX10_append, 6, (some .int))
theorem okX10_append : okM mX10_append 5 := ⟨rfl, ⟨by decide, by decide, by decide +kernel⟩, by decide, plainFor_of_name (by decide), pt_tab (i := 454) (by decide +kernel) rfl, pt_tab (i := 1) (by decide +kernel) rfl⟩
theorem siX10_append : Cond.instanceMethod (my mX10_append) ∈ PT := pt_tab (i := 452) (by decide +kernel) rfl
theorem seX10_append : Cond.selects (my mX10_append).cls (my mX10_append) (my mX10_append) ∈ PT := pt_tab (i := 453) (by decide +kernel) rfl
def mX10_truncate : PMe := (10, yX10_truncate, cX10_truncate, 2, (some .int))
theorem okX10_truncate : okM mX10_truncate 1 := ⟨rfl, ⟨by decide, by decide, by decide +kernel⟩, by decide, plainFor_of_name (by decide), pt_tab (i := 462) (by decide +kernel) rfl, pt_tab (i := 1) (by decide +kernel) rfl⟩
theorem siX10_truncate : Cond.instanceMethod (my mX10_truncate) ∈ PT := pt_tab (i := 460) (by decide +kernel) rfl
theorem seX10_truncate : Cond.selects (my mX10_truncate).cls (my mX10_truncate) (my mX10_truncate) ∈ PT := pt_tab (i := 461) (by decide +kernel) rfl
def mX10_load : PMe := (10, yX10_load, cX10_load, 2, (some .int))
theorem okX10_load : okM mX10_load 0 := ⟨rfl, ⟨by decide, by decide, by decide +kernel⟩, by decide, plainFor_of_name (by decide), pt_tab (i := 466) (by decide +kernel) rfl, pt_tab (i := 1) (by decide +kernel) rfl⟩
theorem siX10_load : Cond.instanceMethod (my mX10_load) ∈ PT := pt_tab (i := 464) (by decide +kernel) rfl
theorem seX10_load : Cond.selects (my mX10_load).cls (my mX10_load) (my mX10_load) ∈ PT := pt_tab (i := 465) (by decide +kernel) rfl
def mX10_insert : PMe := (10, yX10_insert, cX10_insert, 4, (some .int))
theorem okX10_insert : okM mX10_insert 1 := ⟨rfl, ⟨by decide, by decide, by decide +kernel⟩, by decide, plainFor_of_name (by decide), pt_tab (i := 700) (by decide +kernel) rfl, pt_tab (i := 1) (by decide +kernel) rfl⟩
theorem siX10_insert : Cond.instanceMethod (my mX10_insert) ∈ PT := pt_tab (i := 698) (by decide +kernel) rfl
theorem seX10_insert : Cond.selects (my mX10_insert).cls (my mX10_insert) (my mX10_insert) ∈ PT := pt_tab (i := 699) (by decide +kernel) rfl
def mX10_setCondition : PMe := (10, yX10_setCondition, cX10_setCondition, 4, (some .int))
theorem okX10_setCondition : okM mX10_setCondition 1 := ⟨rfl, ⟨by decide, by decide, by decide +kernel⟩, by decide, plainFor_of_name (by decide), pt_tab (i := 727) (by decide +kernel) rfl, pt_tab (i := 1) (by decide +kernel) rfl⟩
theorem siX10_setCondition : Cond.instanceMethod (my mX10_setCondition) ∈ PT := pt_tab (i := 725) (by decide +kernel) rfl
theorem seX10_setCondition : Cond.selects (my mX10_setCondition).cls (my mX10_setCondition) (my mX10_setCondition) ∈ PT := pt_tab (i := 726) (by decide +kernel) rfl
def mX10_errorPosition : PMe := (10, yX10_errorPosition, cX10_errorPosition, 1, (some .int))
theorem okX10_errorPosition : okM mX10_errorPosition 0 := ⟨rfl, ⟨by decide, by decide, by decide +kernel⟩, by decide, plainFor_of_name (by decide), pt_tab (i := 736) (by decide +kernel) rfl, pt_tab (i := 1) (by decide +kernel) rfl⟩
theorem siX10_errorPosition : Cond.instanceMethod (my mX10_errorPosition) ∈ PT := pt_tab (i := 734) (by decide +kernel) rfl
theorem seX10_errorPosition : Cond.selects (my mX10_errorPosition).cls (my mX10_errorPosition) (my mX10_errorPosition) ∈ PT := pt_tab (i := 735) (by decide +kernel) rfl
def mX10_rename : PMe := (10, yX10_rename, cX10_rename, 6, (some .boolean))
theorem okX10_rename : okM mX10_rename 2 := ⟨rfl, ⟨by decide, by decide, by decide +kernel⟩, by decide, plainFor_of_name (by decide), pt_tab (i := 740) (by decide +kernel) rfl, pt_tab (i := 1) (by decide +kernel) rfl⟩
theorem siX10_rename : Cond.instanceMethod (my mX10_rename) ∈ PT := pt_tab (i := 738) (by decide +kernel) rfl
theorem seX10_rename : Cond.selects (my mX10_rename).cls (my mX10_rename) (my mX10_rename) ∈ PT := pt_tab (i := 739) (by decide +kernel) rfl
def mX10_remove : PMe := (10, yX10_remove, cX10_remove, 4, (some .int))
theorem okX10_remove : okM mX10_remove 1 := ⟨rfl, ⟨by decide, by decide, by decide +kernel⟩, by decide, plainFor_of_name (by decide), pt_tab (i := 754) (by decide +kernel) rfl, pt_tab (i := 1) (by decide +kernel) rfl⟩
theorem siX10_remove : Cond.instanceMethod (my mX10_remove) ∈ PT := pt_tab (i := 752) (by decide +kernel) rfl
theorem seX10_remove : Cond.selects (my mX10_remove).cls (my mX10_remove) (my mX10_remove) ∈ PT := pt_tab (i := 753) (by decide +kernel) rfl
def mX10_move : PMe := (10, yX10_move, cX10_move, 7, (some .boolean))
theorem okX10_move : okM mX10_move 3 := ⟨rfl, ⟨by decide, by decide, by decide +kernel⟩, by decide, plainFor_of_name (by decide), pt_tab (i := 785) (by decide +kernel) rfl, pt_tab (i := 1) (by decide +kernel) rfl⟩
theorem siX10_move : Cond.instanceMethod (my mX10_move) ∈ PT := pt_tab (i := 783) (by decide +kernel) rfl
theorem seX10_move : Cond.selects (my mX10_move).cls (my mX10_move) (my mX10_move) ∈ PT := pt_tab (i := 784) (by decide +kernel) rfl
def mX10_setKind : PMe := (10, yX10_setKind, cX10_setKind, 8, (some .int))
theorem okX10_setKind : okM mX10_setKind 4 := ⟨rfl, ⟨by decide, by decide, by decide +kernel⟩, by decide, plainFor_of_name (by decide), pt_tab (i := 814) (by decide +kernel) rfl, pt_tab (i := 1) (by decide +kernel) rfl⟩
theorem siX10_setKind : Cond.instanceMethod (my mX10_setKind) ∈ PT := pt_tab (i := 812) (by decide +kernel) rfl
theorem seX10_setKind : Cond.selects (my mX10_setKind).cls (my mX10_setKind) (my mX10_setKind) ∈ PT := pt_tab (i := 813) (by decide +kernel) rfl
def mX10_publish : PMe := (10, yX10_publish, cX10_publish, 2, (some .int))
theorem okX10_publish : okM mX10_publish 0 := ⟨rfl, ⟨by decide, by decide, by decide +kernel⟩, by decide, plainFor_of_name (by decide), pt_tab (i := 822) (by decide +kernel) rfl, pt_tab (i := 1) (by decide +kernel) rfl⟩
theorem siX10_publish : Cond.instanceMethod (my mX10_publish) ∈ PT := pt_tab (i := 820) (by decide +kernel) rfl
theorem seX10_publish : Cond.selects (my mX10_publish).cls (my mX10_publish) (my mX10_publish) ∈ PT := pt_tab (i := 821) (by decide +kernel) rfl
def mX10_begin : PMe := (10, yX10_begin, cX10_begin, 2, (some .int))
theorem okX10_begin : okM mX10_begin 0 := ⟨rfl, ⟨by decide, by decide, by decide +kernel⟩, by decide, plainFor_of_name (by decide), pt_tab (i := 826) (by decide +kernel) rfl, pt_tab (i := 1) (by decide +kernel) rfl⟩
theorem siX10_begin : Cond.instanceMethod (my mX10_begin) ∈ PT := pt_tab (i := 824) (by decide +kernel) rfl
theorem seX10_begin : Cond.selects (my mX10_begin).cls (my mX10_begin) (my mX10_begin) ∈ PT := pt_tab (i := 825) (by decide +kernel) rfl
def mX10_answer : PMe := (10, yX10_answer, cX10_answer, 8, (some .int))
theorem okX10_answer : okM mX10_answer 3 := ⟨rfl, ⟨by decide, by decide, by decide +kernel⟩, by decide, plainFor_of_name (by decide), pt_tab (i := 834) (by decide +kernel) rfl, pt_tab (i := 1) (by decide +kernel) rfl⟩
theorem siX10_answer : Cond.instanceMethod (my mX10_answer) ∈ PT := pt_tab (i := 832) (by decide +kernel) rfl
theorem seX10_answer : Cond.selects (my mX10_answer).cls (my mX10_answer) (my mX10_answer) ∈ PT := pt_tab (i := 833) (by decide +kernel) rfl
def mX10_advance : PMe := (10, yX10_advance, cX10_advance, 6, (some .int))
theorem okX10_advance : okM mX10_advance 1 := ⟨rfl, ⟨by decide, by decide, by decide +kernel⟩, by decide, plainFor_of_name (by decide), pt_tab (i := 899) (by decide +kernel) rfl, pt_tab (i := 1) (by decide +kernel) rfl⟩
theorem siX10_advance : Cond.instanceMethod (my mX10_advance) ∈ PT := pt_tab (i := 897) (by decide +kernel) rfl
theorem seX10_advance : Cond.selects (my mX10_advance).cls (my mX10_advance) (my mX10_advance) ∈ PT := pt_tab (i := 898) (by decide +kernel) rfl
def mX10_undo : PMe := (10, yX10_undo, cX10_undo, 1, (some .int))
theorem okX10_undo : okM mX10_undo 0 := ⟨rfl, ⟨by decide, by decide, by decide +kernel⟩, by decide, plainFor_of_name (by decide), pt_tab (i := 903) (by decide +kernel) rfl, pt_tab (i := 1) (by decide +kernel) rfl⟩
theorem siX10_undo : Cond.instanceMethod (my mX10_undo) ∈ PT := pt_tab (i := 901) (by decide +kernel) rfl
theorem seX10_undo : Cond.selects (my mX10_undo).cls (my mX10_undo) (my mX10_undo) ∈ PT := pt_tab (i := 902) (by decide +kernel) rfl
def mX10_value : PMe := (10, yX10_value, cX10_value, 3, (some .int))
theorem okX10_value : okM mX10_value 1 := ⟨rfl, ⟨by decide, by decide, by decide +kernel⟩, by decide, plainFor_of_name (by decide), pt_tab (i := 907) (by decide +kernel) rfl, pt_tab (i := 1) (by decide +kernel) rfl⟩
theorem siX10_value : Cond.instanceMethod (my mX10_value) ∈ PT := pt_tab (i := 905) (by decide +kernel) rfl
theorem seX10_value : Cond.selects (my mX10_value).cls (my mX10_value) (my mX10_value) ∈ PT := pt_tab (i := 906) (by decide +kernel) rfl
def mX10_node : PMe := (10, yX10_node, cX10_node, 5, (some .int))
theorem okX10_node : okM mX10_node 2 := ⟨rfl, ⟨by decide, by decide, by decide +kernel⟩, by decide, plainFor_of_name (by decide), pt_tab (i := 915) (by decide +kernel) rfl, pt_tab (i := 1) (by decide +kernel) rfl⟩
theorem siX10_node : Cond.instanceMethod (my mX10_node) ∈ PT := pt_tab (i := 913) (by decide +kernel) rfl
theorem seX10_node : Cond.selects (my mX10_node).cls (my mX10_node) (my mX10_node) ∈ PT := pt_tab (i := 914) (by decide +kernel) rfl
def mX10_letter : PMe := (10, yX10_letter, cX10_letter, 4, (some .int))
theorem okX10_letter : okM mX10_letter 2 := ⟨rfl, ⟨by decide, by decide, by decide +kernel⟩, by decide, plainFor_of_name (by decide), pt_tab (i := 920) (by decide +kernel) rfl, pt_tab (i := 1) (by decide +kernel) rfl⟩
theorem siX10_letter : Cond.instanceMethod (my mX10_letter) ∈ PT := pt_tab (i := 918) (by decide +kernel) rfl
theorem seX10_letter : Cond.selects (my mX10_letter).cls (my mX10_letter) (my mX10_letter) ∈ PT := pt_tab (i := 919) (by decide +kernel) rfl
def mX10_named : PMe := (10, yX10_named, cX10_named, 4, (some .int))
theorem okX10_named : okM mX10_named 1 := ⟨rfl, ⟨by decide, by decide, by decide +kernel⟩, by decide, plainFor_of_name (by decide), pt_tab (i := 927) (by decide +kernel) rfl, pt_tab (i := 1) (by decide +kernel) rfl⟩
theorem siX10_named : Cond.instanceMethod (my mX10_named) ∈ PT := pt_tab (i := 925) (by decide +kernel) rfl
theorem seX10_named : Cond.selects (my mX10_named).cls (my mX10_named) (my mX10_named) ∈ PT := pt_tab (i := 926) (by decide +kernel) rfl
def mX10_nodeAt : PMe := (10, yX10_nodeAt, cX10_nodeAt, 2, (some .int))
theorem okX10_nodeAt : okM mX10_nodeAt 1 := ⟨rfl, ⟨by decide, by decide, by decide +kernel⟩, by decide, plainFor_of_name (by decide), pt_tab (i := 931) (by decide +kernel) rfl, pt_tab (i := 1) (by decide +kernel) rfl⟩
theorem siX10_nodeAt : Cond.instanceMethod (my mX10_nodeAt) ∈ PT := pt_tab (i := 929) (by decide +kernel) rfl
theorem seX10_nodeAt : Cond.selects (my mX10_nodeAt).cls (my mX10_nodeAt) (my mX10_nodeAt) ∈ PT := pt_tab (i := 930) (by decide +kernel) rfl
def mX10_dependsOn : PMe := (10, yX10_dependsOn, cX10_dependsOn, 2, (some .int))
theorem okX10_dependsOn : okM mX10_dependsOn 1 := ⟨rfl, ⟨by decide, by decide, by decide +kernel⟩, by decide, plainFor_of_name (by decide), pt_tab (i := 936) (by decide +kernel) rfl, pt_tab (i := 1) (by decide +kernel) rfl⟩
theorem siX10_dependsOn : Cond.instanceMethod (my mX10_dependsOn) ∈ PT := pt_tab (i := 934) (by decide +kernel) rfl
theorem seX10_dependsOn : Cond.selects (my mX10_dependsOn).cls (my mX10_dependsOn) (my mX10_dependsOn) ∈ PT := pt_tab (i := 935) (by decide +kernel) rfl
def mX10_dependents : PMe := (10, yX10_dependents, cX10_dependents, 4, (some .int))
theorem okX10_dependents : okM mX10_dependents 1 := ⟨rfl, ⟨by decide, by decide, by decide +kernel⟩, by decide, plainFor_of_name (by decide), pt_tab (i := 941) (by decide +kernel) rfl, pt_tab (i := 1) (by decide +kernel) rfl⟩
theorem siX10_dependents : Cond.instanceMethod (my mX10_dependents) ∈ PT := pt_tab (i := 939) (by decide +kernel) rfl
theorem seX10_dependents : Cond.selects (my mX10_dependents).cls (my mX10_dependents) (my mX10_dependents) ∈ PT := pt_tab (i := 940) (by decide +kernel) rfl
def mX10_inOrder : PMe := (10, yX10_inOrder, cX10_inOrder, 5, (some .int))
theorem okX10_inOrder : okM mX10_inOrder 1 := ⟨rfl, ⟨by decide, by decide, by decide +kernel⟩, by decide, plainFor_of_name (by decide), pt_tab (i := 947) (by decide +kernel) rfl, pt_tab (i := 1) (by decide +kernel) rfl⟩
theorem siX10_inOrder : Cond.instanceMethod (my mX10_inOrder) ∈ PT := pt_tab (i := 945) (by decide +kernel) rfl
theorem seX10_inOrder : Cond.selects (my mX10_inOrder).cls (my mX10_inOrder) (my mX10_inOrder) ∈ PT := pt_tab (i := 946) (by decide +kernel) rfl
def mX10_wouldRefuse : PMe := (10, yX10_wouldRefuse, cX10_wouldRefuse, 4, (some .boolean))
theorem okX10_wouldRefuse : okM mX10_wouldRefuse 2 := ⟨rfl, ⟨by decide, by decide, by decide +kernel⟩, by decide, plainFor_of_name (by decide), pt_tab (i := 952) (by decide +kernel) rfl, pt_tab (i := 1) (by decide +kernel) rfl⟩
theorem siX10_wouldRefuse : Cond.instanceMethod (my mX10_wouldRefuse) ∈ PT := pt_tab (i := 950) (by decide +kernel) rfl
theorem seX10_wouldRefuse : Cond.selects (my mX10_wouldRefuse).cls (my mX10_wouldRefuse) (my mX10_wouldRefuse) ∈ PT := pt_tab (i := 951) (by decide +kernel) rfl
def mX10_exists : PMe := (10, yX10_exists, cX10_exists, 4, (some .boolean))
theorem okX10_exists : okM mX10_exists 2 := ⟨rfl, ⟨by decide, by decide, by decide +kernel⟩, by decide, plainFor_of_name (by decide), pt_tab (i := 957) (by decide +kernel) rfl, pt_tab (i := 1) (by decide +kernel) rfl⟩
theorem siX10_exists : Cond.instanceMethod (my mX10_exists) ∈ PT := pt_tab (i := 955) (by decide +kernel) rfl
theorem seX10_exists : Cond.selects (my mX10_exists).cls (my mX10_exists) (my mX10_exists) ∈ PT := pt_tab (i := 956) (by decide +kernel) rfl
def mX10_revisionOf : PMe := (10, yX10_revisionOf, cX10_revisionOf, 3, (some .int))
theorem okX10_revisionOf : okM mX10_revisionOf 1 := ⟨rfl, ⟨by decide, by decide, by decide +kernel⟩, by decide, plainFor_of_name (by decide), pt_tab (i := 961) (by decide +kernel) rfl, pt_tab (i := 1) (by decide +kernel) rfl⟩
theorem siX10_revisionOf : Cond.instanceMethod (my mX10_revisionOf) ∈ PT := pt_tab (i := 959) (by decide +kernel) rfl
theorem seX10_revisionOf : Cond.selects (my mX10_revisionOf).cls (my mX10_revisionOf) (my mX10_revisionOf) ∈ PT := pt_tab (i := 960) (by decide +kernel) rfl
def mX10_answers : PMe := (10, yX10_answers, cX10_answers, 5, (some .int))
theorem okX10_answers : okM mX10_answers 1 := ⟨rfl, ⟨by decide, by decide, by decide +kernel⟩, by decide, plainFor_of_name (by decide), pt_tab (i := 965) (by decide +kernel) rfl, pt_tab (i := 1) (by decide +kernel) rfl⟩
theorem siX10_answers : Cond.instanceMethod (my mX10_answers) ∈ PT := pt_tab (i := 963) (by decide +kernel) rfl
theorem seX10_answers : Cond.selects (my mX10_answers).cls (my mX10_answers) (my mX10_answers) ∈ PT := pt_tab (i := 964) (by decide +kernel) rfl
def mX10_isShown : PMe := (10, yX10_isShown, cX10_isShown, 6, (some .boolean))
theorem okX10_isShown : okM mX10_isShown 3 := ⟨rfl, ⟨by decide, by decide, by decide +kernel⟩, by decide, plainFor_of_name (by decide), pt_tab (i := 969) (by decide +kernel) rfl, pt_tab (i := 1) (by decide +kernel) rfl⟩
theorem siX10_isShown : Cond.instanceMethod (my mX10_isShown) ∈ PT := pt_tab (i := 967) (by decide +kernel) rfl
theorem seX10_isShown : Cond.selects (my mX10_isShown).cls (my mX10_isShown) (my mX10_isShown) ∈ PT := pt_tab (i := 968) (by decide +kernel) rfl
def mX10_inForce : PMe := (10, yX10_inForce, cX10_inForce, 6, (some .int))
theorem okX10_inForce : okM mX10_inForce 3 := ⟨rfl, ⟨by decide, by decide, by decide +kernel⟩, by decide, plainFor_of_name (by decide), pt_tab (i := 973) (by decide +kernel) rfl, pt_tab (i := 1) (by decide +kernel) rfl⟩
theorem siX10_inForce : Cond.instanceMethod (my mX10_inForce) ∈ PT := pt_tab (i := 971) (by decide +kernel) rfl
theorem seX10_inForce : Cond.selects (my mX10_inForce).cls (my mX10_inForce) (my mX10_inForce) ∈ PT := pt_tab (i := 972) (by decide +kernel) rfl
def mX10_open : PMe := (10, yX10_open, cX10_open, 2, (some .int))
theorem okX10_open : okM mX10_open 1 := ⟨rfl, ⟨by decide, by decide, by decide +kernel⟩, by decide, plainFor_of_name (by decide), pt_tab (i := 978) (by decide +kernel) rfl, pt_tab (i := 1) (by decide +kernel) rfl⟩
theorem siX10_open : Cond.instanceMethod (my mX10_open) ∈ PT := pt_tab (i := 976) (by decide +kernel) rfl
theorem seX10_open : Cond.selects (my mX10_open).cls (my mX10_open) (my mX10_open) ∈ PT := pt_tab (i := 977) (by decide +kernel) rfl
def mX10_completeness : PMe := (10, yX10_completeness, cX10_completeness, 3, (some .float))
theorem okX10_completeness : okM mX10_completeness 1 := ⟨rfl, ⟨by decide, by decide, by decide +kernel⟩, by decide, plainFor_of_name (by decide), pt_tab (i := 987) (by decide +kernel) rfl, pt_tab (i := 1) (by decide +kernel) rfl⟩
theorem siX10_completeness : Cond.instanceMethod (my mX10_completeness) ∈ PT := pt_tab (i := 985) (by decide +kernel) rfl
theorem seX10_completeness : Cond.selects (my mX10_completeness).cls (my mX10_completeness) (my mX10_completeness) ∈ PT := pt_tab (i := 986) (by decide +kernel) rfl
def mX10_average : PMe := (10, yX10_average, cX10_average, 5, (some .float))
theorem okX10_average : okM mX10_average 1 := ⟨rfl, ⟨by decide, by decide, by decide +kernel⟩, by decide, plainFor_of_name (by decide), pt_tab (i := 992) (by decide +kernel) rfl, pt_tab (i := 1) (by decide +kernel) rfl⟩
theorem siX10_average : Cond.instanceMethod (my mX10_average) ∈ PT := pt_tab (i := 990) (by decide +kernel) rfl
theorem seX10_average : Cond.selects (my mX10_average).cls (my mX10_average) (my mX10_average) ∈ PT := pt_tab (i := 991) (by decide +kernel) rfl
def mX10_tally : PMe := (10, yX10_tally, cX10_tally, 5, (some .int))
theorem okX10_tally : okM mX10_tally 2 := ⟨rfl, ⟨by decide, by decide, by decide +kernel⟩, by decide, plainFor_of_name (by decide), pt_tab (i := 996) (by decide +kernel) rfl, pt_tab (i := 1) (by decide +kernel) rfl⟩
theorem siX10_tally : Cond.instanceMethod (my mX10_tally) ∈ PT := pt_tab (i := 994) (by decide +kernel) rfl
theorem seX10_tally : Cond.selects (my mX10_tally).cls (my mX10_tally) (my mX10_tally) ∈ PT := pt_tab (i := 995) (by decide +kernel) rfl
def mX10_rows : PMe := (10, yX10_rows, cX10_rows, 3, (some .int))
theorem okX10_rows : okM mX10_rows 2 := ⟨rfl, ⟨by decide, by decide, by decide +kernel⟩, by decide, plainFor_of_name (by decide), pt_tab (i := 1000) (by decide +kernel) rfl, pt_tab (i := 1) (by decide +kernel) rfl⟩
theorem siX10_rows : Cond.instanceMethod (my mX10_rows) ∈ PT := pt_tab (i := 998) (by decide +kernel) rfl
theorem seX10_rows : Cond.selects (my mX10_rows).cls (my mX10_rows) (my mX10_rows) ∈ PT := pt_tab (i := 999) (by decide +kernel) rfl
def mX10_place : PMe := (10, yX10_place, cX10_place, 6, (some .int))
theorem okX10_place : okM mX10_place 4 := ⟨rfl, ⟨by decide, by decide, by decide +kernel⟩, by decide, plainFor_of_name (by decide), pt_tab (i := 1032) (by decide +kernel) rfl, pt_tab (i := 1) (by decide +kernel) rfl⟩
theorem siX10_place : Cond.instanceMethod (my mX10_place) ∈ PT := pt_tab (i := 1030) (by decide +kernel) rfl
theorem seX10_place : Cond.selects (my mX10_place).cls (my mX10_place) (my mX10_place) ∈ PT := pt_tab (i := 1031) (by decide +kernel) rfl
def mX10_pages : PMe := (10, yX10_pages, cX10_pages, 3, (some .int))
theorem okX10_pages : okM mX10_pages 1 := ⟨rfl, ⟨by decide, by decide, by decide +kernel⟩, by decide, plainFor_of_name (by decide), pt_tab (i := 1044) (by decide +kernel) rfl, pt_tab (i := 1) (by decide +kernel) rfl⟩
theorem siX10_pages : Cond.instanceMethod (my mX10_pages) ∈ PT := pt_tab (i := 1042) (by decide +kernel) rfl
theorem seX10_pages : Cond.selects (my mX10_pages).cls (my mX10_pages) (my mX10_pages) ∈ PT := pt_tab (i := 1043) (by decide +kernel) rfl
def mX10_textLength : PMe := (10, yX10_textLength, cX10_textLength, 4, (some .int))
theorem okX10_textLength : okM mX10_textLength 2 := ⟨rfl, ⟨by decide, by decide, by decide +kernel⟩, by decide, plainFor_of_name (by decide), pt_tab (i := 1048) (by decide +kernel) rfl, pt_tab (i := 1) (by decide +kernel) rfl⟩
theorem siX10_textLength : Cond.instanceMethod (my mX10_textLength) ∈ PT := pt_tab (i := 1046) (by decide +kernel) rfl
theorem seX10_textLength : Cond.selects (my mX10_textLength).cls (my mX10_textLength) (my mX10_textLength) ∈ PT := pt_tab (i := 1047) (by decide +kernel) rfl
def mX10_textByte : PMe := (10, yX10_textByte, cX10_textByte, 5, (some .int))
theorem okX10_textByte : okM mX10_textByte 3 := ⟨rfl, ⟨by decide, by decide, by decide +kernel⟩, by decide, plainFor_of_name (by decide), pt_tab (i := 1087) (by decide +kernel) rfl, pt_tab (i := 1) (by decide +kernel) rfl⟩
theorem siX10_textByte : Cond.instanceMethod (my mX10_textByte) ∈ PT := pt_tab (i := 1085) (by decide +kernel) rfl
theorem seX10_textByte : Cond.selects (my mX10_textByte).cls (my mX10_textByte) (my mX10_textByte) ∈ PT := pt_tab (i := 1086) (by decide +kernel) rfl
def mX10_setupLength : PMe := (10, yX10_setupLength, cX10_setupLength, 1, (some .int))
theorem okX10_setupLength : okM mX10_setupLength 0 := ⟨rfl, ⟨by decide, by decide, by decide +kernel⟩, by decide, plainFor_of_name (by decide), pt_tab (i := 1091) (by decide +kernel) rfl, pt_tab (i := 1) (by decide +kernel) rfl⟩
theorem siX10_setupLength : Cond.instanceMethod (my mX10_setupLength) ∈ PT := pt_tab (i := 1089) (by decide +kernel) rfl
theorem seX10_setupLength : Cond.selects (my mX10_setupLength).cls (my mX10_setupLength) (my mX10_setupLength) ∈ PT := pt_tab (i := 1090) (by decide +kernel) rfl
def mX10_setupByte : PMe := (10, yX10_setupByte, cX10_setupByte, 2, (some .int))
theorem okX10_setupByte : okM mX10_setupByte 1 := ⟨rfl, ⟨by decide, by decide, by decide +kernel⟩, by decide, plainFor_of_name (by decide), pt_tab (i := 1138) (by decide +kernel) rfl, pt_tab (i := 1) (by decide +kernel) rfl⟩
theorem siX10_setupByte : Cond.instanceMethod (my mX10_setupByte) ∈ PT := pt_tab (i := 1136) (by decide +kernel) rfl
theorem seX10_setupByte : Cond.selects (my mX10_setupByte).cls (my mX10_setupByte) (my mX10_setupByte) ∈ PT := pt_tab (i := 1137) (by decide +kernel) rfl
def mX10_tapeLength : PMe := (10, yX10_tapeLength, cX10_tapeLength, 1, (some .int))
theorem okX10_tapeLength : okM mX10_tapeLength 0 := ⟨rfl, ⟨by decide, by decide, by decide +kernel⟩, by decide, plainFor_of_name (by decide), pt_tab (i := 1142) (by decide +kernel) rfl, pt_tab (i := 1) (by decide +kernel) rfl⟩
theorem siX10_tapeLength : Cond.instanceMethod (my mX10_tapeLength) ∈ PT := pt_tab (i := 1140) (by decide +kernel) rfl
theorem seX10_tapeLength : Cond.selects (my mX10_tapeLength).cls (my mX10_tapeLength) (my mX10_tapeLength) ∈ PT := pt_tab (i := 1141) (by decide +kernel) rfl
def mX10_putWord : PMe := (10, yX10_putWord, cX10_putWord, 3, none)
theorem okX10_putWord : okM mX10_putWord 1 := ⟨rfl, ⟨by decide, by decide, by decide +kernel⟩, by decide, plainFor_of_name (by decide), pt_tab (i := 458) (by decide +kernel) rfl, pt_tab (i := 1) (by decide +kernel) rfl⟩
theorem siX10_putWord : Cond.instanceMethod (my mX10_putWord) ∈ PT := pt_tab (i := 457) (by decide +kernel) rfl
theorem seX10_putWord : Cond.selects (my mX10_putWord).cls (my mX10_putWord) (my mX10_putWord) ∈ PT := pt_sel (q := (yX10_putWord, 13)) (i := 0) (by decide +kernel)
def mX10_endText : PMe := (10, yX10_endText, cX10_endText, 1, none)
theorem okX10_endText : okM mX10_endText 0 := ⟨rfl, ⟨by decide, by decide, by decide +kernel⟩, by decide, plainFor_of_name (by decide), pt_tab (i := 688) (by decide +kernel) rfl, pt_tab (i := 1) (by decide +kernel) rfl⟩
theorem siX10_endText : Cond.instanceMethod (my mX10_endText) ∈ PT := pt_tab (i := 687) (by decide +kernel) rfl
theorem seX10_endText : Cond.selects (my mX10_endText).cls (my mX10_endText) (my mX10_endText) ∈ PT := pt_sel (q := (yX10_endText, 13)) (i := 20) (by decide +kernel)
def mX10_remember : PMe := (10, yX10_remember, cX10_remember, 1, none)
theorem okX10_remember : okM mX10_remember 0 := ⟨rfl, ⟨by decide, by decide, by decide +kernel⟩, by decide, plainFor_of_name (by decide), pt_tab (i := 708) (by decide +kernel) rfl, pt_tab (i := 1) (by decide +kernel) rfl⟩
theorem siX10_remember : Cond.instanceMethod (my mX10_remember) ∈ PT := pt_tab (i := 707) (by decide +kernel) rfl
theorem seX10_remember : Cond.selects (my mX10_remember).cls (my mX10_remember) (my mX10_remember) ∈ PT := pt_sel (q := (yX10_remember, 13)) (i := 21) (by decide +kernel)
def mX10_findRevision : PMe := (10, yX10_findRevision, cX10_findRevision, 3, (some (.object "FormDesigner$Form")))
theorem okX10_findRevision : okM mX10_findRevision 1 := ⟨rfl, ⟨by decide, by decide, by decide +kernel⟩, by decide, plainFor_of_name (by decide), pt_tab (i := 846) (by decide +kernel) rfl, pt_tab (i := 1) (by decide +kernel) rfl⟩
theorem siX10_findRevision : Cond.instanceMethod (my mX10_findRevision) ∈ PT := pt_tab (i := 845) (by decide +kernel) rfl
theorem seX10_findRevision : Cond.selects (my mX10_findRevision).cls (my mX10_findRevision) (my mX10_findRevision) ∈ PT := pt_sel (q := (yX10_findRevision, 13)) (i := 27) (by decide +kernel)
def mX10_formOf : PMe := (10, yX10_formOf, cX10_formOf, 2, (some (.object "FormDesigner$Form")))
theorem okX10_formOf : okM mX10_formOf 1 := ⟨rfl, ⟨by decide, by decide, by decide +kernel⟩, by decide, plainFor_of_name (by decide), pt_tab (i := 842) (by decide +kernel) rfl, pt_tab (i := 1) (by decide +kernel) rfl⟩
theorem siX10_formOf : Cond.instanceMethod (my mX10_formOf) ∈ PT := pt_tab (i := 841) (by decide +kernel) rfl
theorem seX10_formOf : Cond.selects (my mX10_formOf).cls (my mX10_formOf) (my mX10_formOf) ∈ PT := pt_sel (q := (yX10_formOf, 13)) (i := 26) (by decide +kernel)
def mX10_lookAt : PMe := (10, yX10_lookAt, cX10_lookAt, 4, (some .boolean))
theorem okX10_lookAt : okM mX10_lookAt 1 := ⟨rfl, ⟨by decide, by decide, by decide +kernel⟩, by decide, plainFor_of_name (by decide), pt_tab (i := 982) (by decide +kernel) rfl, pt_tab (i := 1) (by decide +kernel) rfl⟩
theorem siX10_lookAt : Cond.instanceMethod (my mX10_lookAt) ∈ PT := pt_tab (i := 981) (by decide +kernel) rfl
theorem seX10_lookAt : Cond.selects (my mX10_lookAt).cls (my mX10_lookAt) (my mX10_lookAt) ∈ PT := pt_sel (q := (yX10_lookAt, 13)) (i := 31) (by decide +kernel)
def mX10_arranged : PMe := (10, yX10_arranged, cX10_arranged, 5, (some (.object "FormDesigner$Form")))
theorem okX10_arranged : okM mX10_arranged 2 := ⟨rfl, ⟨by decide, by decide, by decide +kernel⟩, by decide, plainFor_of_name (by decide), pt_tab (i := 1004) (by decide +kernel) rfl, pt_tab (i := 1) (by decide +kernel) rfl⟩
theorem siX10_arranged : Cond.instanceMethod (my mX10_arranged) ∈ PT := pt_tab (i := 1003) (by decide +kernel) rfl
theorem seX10_arranged : Cond.selects (my mX10_arranged).cls (my mX10_arranged) (my mX10_arranged) ∈ PT := pt_sel (q := (yX10_arranged, 13)) (i := 32) (by decide +kernel)
def mX10_isKind : PMe := (10, yX10_isKind, cX10_isKind, 3, (some .boolean))
theorem okX10_isKind : okM mX10_isKind 3 := ⟨rfl, ⟨by decide, by decide, by decide +kernel⟩, by decide, plainFor_of_name (by decide), pt_tab (i := 818) (by decide +kernel) rfl, pt_tab (i := 1) (by decide +kernel) rfl⟩
theorem siX10_isKind : Cond.static (my mX10_isKind) ∈ PT := pt_tab (i := 817) (by decide +kernel) rfl
def mX10_hasBit : PMe := (10, yX10_hasBit, cX10_hasBit, 2, (some .boolean))
theorem okX10_hasBit : okM mX10_hasBit 2 := ⟨rfl, ⟨by decide, by decide, by decide +kernel⟩, by decide, plainFor_of_name (by decide), pt_tab (i := 675) (by decide +kernel) rfl, pt_tab (i := 1) (by decide +kernel) rfl⟩
theorem siX10_hasBit : Cond.static (my mX10_hasBit) ∈ PT := pt_tab (i := 674) (by decide +kernel) rfl
def mX10_nameOf : PMe := (10, yX10_nameOf, cX10_nameOf, 4, (some .long))
theorem okX10_nameOf : okM mX10_nameOf 1 := ⟨rfl, ⟨by decide, by decide, by decide +kernel⟩, by decide, plainFor_of_name (by decide), pt_tab (i := 743) (by decide +kernel) rfl, pt_tab (i := 1) (by decide +kernel) rfl⟩
theorem siX10_nameOf : Cond.static (my mX10_nameOf) ∈ PT := pt_tab (i := 742) (by decide +kernel) rfl
def mX10_letterOf : PMe := (10, yX10_letterOf, cX10_letterOf, 4, (some .int))
theorem okX10_letterOf : okM mX10_letterOf 2 := ⟨rfl, ⟨by decide, by decide, by decide +kernel⟩, by decide, plainFor_of_name (by decide), pt_tab (i := 923) (by decide +kernel) rfl, pt_tab (i := 1) (by decide +kernel) rfl⟩
theorem siX10_letterOf : Cond.static (my mX10_letterOf) ∈ PT := pt_tab (i := 922) (by decide +kernel) rfl
def mX10_keyword : PMe := (10, yX10_keyword, cX10_keyword, 1, (some (.object "java/lang/String")))
theorem okX10_keyword : okM mX10_keyword 1 := ⟨rfl, ⟨by decide, by decide, by decide +kernel⟩, by decide, plainFor_of_name (by decide), pt_tab (i := 211) (by decide +kernel) rfl, pt_tab (i := 1) (by decide +kernel) rfl⟩
theorem siX10_keyword : Cond.static (my mX10_keyword) ∈ PT := pt_tab (i := 210) (by decide +kernel) rfl
def mX11_init : PMe := (11, yX11_init, cX11_init, 2, none)
theorem okX11_init : okM mX11_init 0 := ⟨rfl, ⟨by decide, by decide, by decide +kernel⟩, by decide, plainFor_of_name (by decide), pt_tab (i := 1147) (by decide +kernel) rfl, pt_tab (i := 15) (by decide +kernel) rfl⟩
theorem siX11_init : Cond.instanceMethod (my mX11_init) ∈ PT := pt_tab (i := 1146) (by decide +kernel) rfl
def mX11_in : PMe := (11, yX11_in, cX11_in, 3, (some .boolean))
theorem okX11_in : okM mX11_in 3 := ⟨rfl, ⟨by decide, by decide, by decide +kernel⟩, by decide, plainFor_of_name (by decide), pt_tab (i := 1317) (by decide +kernel) rfl, pt_tab (i := 15) (by decide +kernel) rfl⟩
theorem siX11_in : Cond.static (my mX11_in) ∈ PT := pt_tab (i := 1316) (by decide +kernel) rfl
def mX11_most : PMe := (11, yX11_most, cX11_most, 2, (some .int))
theorem okX11_most : okM mX11_most 2 := ⟨rfl, ⟨by decide, by decide, by decide +kernel⟩, by decide, plainFor_of_name (by decide), pt_tab (i := 1580) (by decide +kernel) rfl, pt_tab (i := 15) (by decide +kernel) rfl⟩
theorem siX11_most : Cond.static (my mX11_most) ∈ PT := pt_tab (i := 1579) (by decide +kernel) rfl
def mX11_clearForm : PMe := (11, yX11_clearForm, cX11_clearForm, 3, none)
theorem okX11_clearForm : okM mX11_clearForm 1 := ⟨rfl, ⟨by decide, by decide, by decide +kernel⟩, by decide, plainFor_of_name (by decide), pt_tab (i := 1152) (by decide +kernel) rfl, pt_tab (i := 15) (by decide +kernel) rfl⟩
theorem siX11_clearForm : Cond.instanceMethod (my mX11_clearForm) ∈ PT := pt_tab (i := 1151) (by decide +kernel) rfl
theorem seX11_clearForm : Cond.selects (my mX11_clearForm).cls (my mX11_clearForm) (my mX11_clearForm) ∈ PT := pt_sel (q := (yX11_clearForm, 49)) (i := 48) (by decide +kernel)
def mX11_of : PMe := (11, yX11_of, cX11_of, 4, (some .int))
theorem okX11_of : okM mX11_of 3 := ⟨rfl, ⟨by decide, by decide, by decide +kernel⟩, by decide, plainFor_of_name (by decide), pt_tab (i := 1391) (by decide +kernel) rfl, pt_tab (i := 15) (by decide +kernel) rfl⟩
theorem siX11_of : Cond.instanceMethod (my mX11_of) ∈ PT := pt_tab (i := 1390) (by decide +kernel) rfl
theorem seX11_of : Cond.selects (my mX11_of).cls (my mX11_of) (my mX11_of) ∈ PT := pt_sel (q := (yX11_of, 49)) (i := 62) (by decide +kernel)
def mX11_formOf : PMe := (11, yX11_formOf, cX11_formOf, 1, (some .int))
theorem okX11_formOf : okM mX11_formOf 1 := ⟨rfl, ⟨by decide, by decide, by decide +kernel⟩, by decide, plainFor_of_name (by decide), pt_tab (i := 1611) (by decide +kernel) rfl, pt_tab (i := 15) (by decide +kernel) rfl⟩
theorem siX11_formOf : Cond.static (my mX11_formOf) ∈ PT := pt_tab (i := 1610) (by decide +kernel) rfl
def mX11_has : PMe := (11, yX11_has, cX11_has, 3, (some .boolean))
theorem okX11_has : okM mX11_has 2 := ⟨rfl, ⟨by decide, by decide, by decide +kernel⟩, by decide, plainFor_of_name (by decide), pt_tab (i := 1479) (by decide +kernel) rfl, pt_tab (i := 15) (by decide +kernel) rfl⟩
theorem siX11_has : Cond.instanceMethod (my mX11_has) ∈ PT := pt_tab (i := 1478) (by decide +kernel) rfl
theorem seX11_has : Cond.selects (my mX11_has).cls (my mX11_has) (my mX11_has) ∈ PT := pt_sel (q := (yX11_has, 49)) (i := 80) (by decide +kernel)
def mX11_isNode : PMe := (11, yX11_isNode, cX11_isNode, 2, (some .boolean))
theorem okX11_isNode : okM mX11_isNode 1 := ⟨rfl, ⟨by decide, by decide, by decide +kernel⟩, by decide, plainFor_of_name (by decide), pt_tab (i := 1515) (by decide +kernel) rfl, pt_tab (i := 15) (by decide +kernel) rfl⟩
theorem siX11_isNode : Cond.instanceMethod (my mX11_isNode) ∈ PT := pt_tab (i := 1514) (by decide +kernel) rfl
theorem seX11_isNode : Cond.selects (my mX11_isNode).cls (my mX11_isNode) (my mX11_isNode) ∈ PT := pt_sel (q := (yX11_isNode, 49)) (i := 88) (by decide +kernel)
def mX11_isField : PMe := (11, yX11_isField, cX11_isField, 1, (some .boolean))
theorem okX11_isField : okM mX11_isField 1 := ⟨rfl, ⟨by decide, by decide, by decide +kernel⟩, by decide, plainFor_of_name (by decide), pt_tab (i := 1457) (by decide +kernel) rfl, pt_tab (i := 15) (by decide +kernel) rfl⟩
theorem siX11_isField : Cond.static (my mX11_isField) ∈ PT := pt_tab (i := 1456) (by decide +kernel) rfl
def mX11_isDraftField : PMe := (11, yX11_isDraftField, cX11_isDraftField, 2, (some .boolean))
theorem okX11_isDraftField : okM mX11_isDraftField 1 := ⟨rfl, ⟨by decide, by decide, by decide +kernel⟩, by decide, plainFor_of_name (by decide), pt_tab (i := 1600) (by decide +kernel) rfl, pt_tab (i := 15) (by decide +kernel) rfl⟩
theorem siX11_isDraftField : Cond.instanceMethod (my mX11_isDraftField) ∈ PT := pt_tab (i := 1599) (by decide +kernel) rfl
theorem seX11_isDraftField : Cond.selects (my mX11_isDraftField).cls (my mX11_isDraftField) (my mX11_isDraftField) ∈ PT := pt_sel (q := (yX11_isDraftField, 49)) (i := 100) (by decide +kernel)
def mX11_many : PMe := (11, yX11_many, cX11_many, 2, (some .int))
theorem okX11_many : okM mX11_many 1 := ⟨rfl, ⟨by decide, by decide, by decide +kernel⟩, by decide, plainFor_of_name (by decide), pt_tab (i := 1379) (by decide +kernel) rfl, pt_tab (i := 15) (by decide +kernel) rfl⟩
theorem siX11_many : Cond.instanceMethod (my mX11_many) ∈ PT := pt_tab (i := 1378) (by decide +kernel) rfl
theorem seX11_many : Cond.selects (my mX11_many).cls (my mX11_many) (my mX11_many) ∈ PT := pt_sel (q := (yX11_many, 49)) (i := 59) (by decide +kernel)
def mX11_ordered : PMe := (11, yX11_ordered, cX11_ordered, 3, (some .int))
theorem okX11_ordered : okM mX11_ordered 2 := ⟨rfl, ⟨by decide, by decide, by decide +kernel⟩, by decide, plainFor_of_name (by decide), pt_tab (i := 1387) (by decide +kernel) rfl, pt_tab (i := 15) (by decide +kernel) rfl⟩
theorem siX11_ordered : Cond.instanceMethod (my mX11_ordered) ∈ PT := pt_tab (i := 1386) (by decide +kernel) rfl
theorem seX11_ordered : Cond.selects (my mX11_ordered).cls (my mX11_ordered) (my mX11_ordered) ∈ PT := pt_sel (q := (yX11_ordered, 49)) (i := 61) (by decide +kernel)
def mX11_depth : PMe := (11, yX11_depth, cX11_depth, 5, (some .int))
theorem okX11_depth : okM mX11_depth 2 := ⟨rfl, ⟨by decide, by decide, by decide +kernel⟩, by decide, plainFor_of_name (by decide), pt_tab (i := 1450) (by decide +kernel) rfl, pt_tab (i := 15) (by decide +kernel) rfl⟩
theorem siX11_depth : Cond.instanceMethod (my mX11_depth) ∈ PT := pt_tab (i := 1449) (by decide +kernel) rfl
theorem seX11_depth : Cond.selects (my mX11_depth).cls (my mX11_depth) (my mX11_depth) ∈ PT := pt_sel (q := (yX11_depth, 49)) (i := 75) (by decide +kernel)
def mX11_isIn : PMe := (11, yX11_isIn, cX11_isIn, 5, (some .boolean))
theorem okX11_isIn : okM mX11_isIn 3 := ⟨rfl, ⟨by decide, by decide, by decide +kernel⟩, by decide, plainFor_of_name (by decide), pt_tab (i := 1395) (by decide +kernel) rfl, pt_tab (i := 15) (by decide +kernel) rfl⟩
theorem siX11_isIn : Cond.instanceMethod (my mX11_isIn) ∈ PT := pt_tab (i := 1394) (by decide +kernel) rfl
theorem seX11_isIn : Cond.selects (my mX11_isIn).cls (my mX11_isIn) (my mX11_isIn) ∈ PT := pt_sel (q := (yX11_isIn, 49)) (i := 63) (by decide +kernel)
def mX11_placeOf : PMe := (11, yX11_placeOf, cX11_placeOf, 4, (some .int))
theorem okX11_placeOf : okM mX11_placeOf 2 := ⟨rfl, ⟨by decide, by decide, by decide +kernel⟩, by decide, plainFor_of_name (by decide), pt_tab (i := 1383) (by decide +kernel) rfl, pt_tab (i := 15) (by decide +kernel) rfl⟩
theorem siX11_placeOf : Cond.instanceMethod (my mX11_placeOf) ∈ PT := pt_tab (i := 1382) (by decide +kernel) rfl
theorem seX11_placeOf : Cond.selects (my mX11_placeOf).cls (my mX11_placeOf) (my mX11_placeOf) ∈ PT := pt_sel (q := (yX11_placeOf, 49)) (i := 60) (by decide +kernel)
def mX11_behind : PMe := (11, yX11_behind, cX11_behind, 4, (some .int))
theorem okX11_behind : okM mX11_behind 2 := ⟨rfl, ⟨by decide, by decide, by decide +kernel⟩, by decide, plainFor_of_name (by decide), pt_tab (i := 1375) (by decide +kernel) rfl, pt_tab (i := 15) (by decide +kernel) rfl⟩
theorem siX11_behind : Cond.instanceMethod (my mX11_behind) ∈ PT := pt_tab (i := 1374) (by decide +kernel) rfl
theorem seX11_behind : Cond.selects (my mX11_behind).cls (my mX11_behind) (my mX11_behind) ∈ PT := pt_sel (q := (yX11_behind, 49)) (i := 58) (by decide +kernel)
def mX11_height : PMe := (11, yX11_height, cX11_height, 6, (some .int))
theorem okX11_height : okM mX11_height 2 := ⟨rfl, ⟨by decide, by decide, by decide +kernel⟩, by decide, plainFor_of_name (by decide), pt_tab (i := 1577) (by decide +kernel) rfl, pt_tab (i := 15) (by decide +kernel) rfl⟩
theorem siX11_height : Cond.instanceMethod (my mX11_height) ∈ PT := pt_tab (i := 1576) (by decide +kernel) rfl
theorem seX11_height : Cond.selects (my mX11_height).cls (my mX11_height) (my mX11_height) ∈ PT := pt_sel (q := (yX11_height, 49)) (i := 96) (by decide +kernel)
def mX11_test : PMe := (11, yX11_test, cX11_test, 3, (some .int))
theorem okX11_test : okM mX11_test 3 := ⟨rfl, ⟨by decide, by decide, by decide +kernel⟩, by decide, plainFor_of_name (by decide), pt_tab (i := 1430) (by decide +kernel) rfl, pt_tab (i := 15) (by decide +kernel) rfl⟩
theorem siX11_test : Cond.static (my mX11_test) ∈ PT := pt_tab (i := 1429) (by decide +kernel) rfl
def mX11_sortOf : PMe := (11, yX11_sortOf, cX11_sortOf, 1, (some .int))
theorem okX11_sortOf : okM mX11_sortOf 1 := ⟨rfl, ⟨by decide, by decide, by decide +kernel⟩, by decide, plainFor_of_name (by decide), pt_tab (i := 1468) (by decide +kernel) rfl, pt_tab (i := 15) (by decide +kernel) rfl⟩
theorem siX11_sortOf : Cond.static (my mX11_sortOf) ∈ PT := pt_tab (i := 1467) (by decide +kernel) rfl
def mX11_fieldOf : PMe := (11, yX11_fieldOf, cX11_fieldOf, 1, (some .int))
theorem okX11_fieldOf : okM mX11_fieldOf 1 := ⟨rfl, ⟨by decide, by decide, by decide +kernel⟩, by decide, plainFor_of_name (by decide), pt_tab (i := 1471) (by decide +kernel) rfl, pt_tab (i := 15) (by decide +kernel) rfl⟩
theorem siX11_fieldOf : Cond.static (my mX11_fieldOf) ∈ PT := pt_tab (i := 1470) (by decide +kernel) rfl
def mX11_tests : PMe := (11, yX11_tests, cX11_tests, 5, (some .int))
theorem okX11_tests : okM mX11_tests 2 := ⟨rfl, ⟨by decide, by decide, by decide +kernel⟩, by decide, plainFor_of_name (by decide), pt_tab (i := 1534) (by decide +kernel) rfl, pt_tab (i := 15) (by decide +kernel) rfl⟩
theorem siX11_tests : Cond.instanceMethod (my mX11_tests) ∈ PT := pt_tab (i := 1533) (by decide +kernel) rfl
theorem seX11_tests : Cond.selects (my mX11_tests).cls (my mX11_tests) (my mX11_tests) ∈ PT := pt_sel (q := (yX11_tests, 49)) (i := 91) (by decide +kernel)
def mX11_asked : PMe := (11, yX11_asked, cX11_asked, 6, (some .int))
theorem okX11_asked : okM mX11_asked 2 := ⟨rfl, ⟨by decide, by decide, by decide +kernel⟩, by decide, plainFor_of_name (by decide), pt_tab (i := 1465) (by decide +kernel) rfl, pt_tab (i := 15) (by decide +kernel) rfl⟩
theorem siX11_asked : Cond.instanceMethod (my mX11_asked) ∈ PT := pt_tab (i := 1464) (by decide +kernel) rfl
theorem seX11_asked : Cond.selects (my mX11_asked).cls (my mX11_asked) (my mX11_asked) ∈ PT := pt_sel (q := (yX11_asked, 49)) (i := 78) (by decide +kernel)
def mX11_laysNeeds : PMe := (11, yX11_laysNeeds, cX11_laysNeeds, 4, none)
theorem okX11_laysNeeds : okM mX11_laysNeeds 1 := ⟨rfl, ⟨by decide, by decide, by decide +kernel⟩, by decide, plainFor_of_name (by decide), pt_tab (i := 1592) (by decide +kernel) rfl, pt_tab (i := 15) (by decide +kernel) rfl⟩
theorem siX11_laysNeeds : Cond.instanceMethod (my mX11_laysNeeds) ∈ PT := pt_tab (i := 1591) (by decide +kernel) rfl
theorem seX11_laysNeeds : Cond.selects (my mX11_laysNeeds).cls (my mX11_laysNeeds) (my mX11_laysNeeds) ∈ PT := pt_sel (q := (yX11_laysNeeds, 49)) (i := 99) (by decide +kernel)
def mX11_needed : PMe := (11, yX11_needed, cX11_needed, 4, none)
theorem okX11_needed : okM mX11_needed 2 := ⟨rfl, ⟨by decide, by decide, by decide +kernel⟩, by decide, plainFor_of_name (by decide), pt_tab (i := 1475) (by decide +kernel) rfl, pt_tab (i := 15) (by decide +kernel) rfl⟩
theorem siX11_needed : Cond.instanceMethod (my mX11_needed) ∈ PT := pt_tab (i := 1474) (by decide +kernel) rfl
theorem seX11_needed : Cond.selects (my mX11_needed).cls (my mX11_needed) (my mX11_needed) ∈ PT := pt_sel (q := (yX11_needed, 49)) (i := 79) (by decide +kernel)
def mX11_reached : PMe := (11, yX11_reached, cX11_reached, 5, (some .int))
theorem okX11_reached : okM mX11_reached 1 := ⟨rfl, ⟨by decide, by decide, by decide +kernel⟩, by decide, plainFor_of_name (by decide), pt_tab (i := 1487) (by decide +kernel) rfl, pt_tab (i := 15) (by decide +kernel) rfl⟩
theorem siX11_reached : Cond.instanceMethod (my mX11_reached) ∈ PT := pt_tab (i := 1486) (by decide +kernel) rfl
theorem seX11_reached : Cond.selects (my mX11_reached).cls (my mX11_reached) (my mX11_reached) ∈ PT := pt_sel (q := (yX11_reached, 49)) (i := 82) (by decide +kernel)
def mX11_fieldsIn : PMe := (11, yX11_fieldsIn, cX11_fieldsIn, 4, (some .int))
theorem okX11_fieldsIn : okM mX11_fieldsIn 1 := ⟨rfl, ⟨by decide, by decide, by decide +kernel⟩, by decide, plainFor_of_name (by decide), pt_tab (i := 1491) (by decide +kernel) rfl, pt_tab (i := 15) (by decide +kernel) rfl⟩
theorem siX11_fieldsIn : Cond.instanceMethod (my mX11_fieldsIn) ∈ PT := pt_tab (i := 1490) (by decide +kernel) rfl
theorem seX11_fieldsIn : Cond.selects (my mX11_fieldsIn).cls (my mX11_fieldsIn) (my mX11_fieldsIn) ∈ PT := pt_sel (q := (yX11_fieldsIn, 49)) (i := 83) (by decide +kernel)
def mX11_circles : PMe := (11, yX11_circles, cX11_circles, 3, (some .boolean))
theorem okX11_circles : okM mX11_circles 2 := ⟨rfl, ⟨by decide, by decide, by decide +kernel⟩, by decide, plainFor_of_name (by decide), pt_tab (i := 1483) (by decide +kernel) rfl, pt_tab (i := 15) (by decide +kernel) rfl⟩
theorem siX11_circles : Cond.instanceMethod (my mX11_circles) ∈ PT := pt_tab (i := 1482) (by decide +kernel) rfl
theorem seX11_circles : Cond.selects (my mX11_circles).cls (my mX11_circles) (my mX11_circles) ∈ PT := pt_sel (q := (yX11_circles, 49)) (i := 81) (by decide +kernel)
def mX11_isSound : PMe := (11, yX11_isSound, cX11_isSound, 4, (some .boolean))
theorem okX11_isSound : okM mX11_isSound 0 := ⟨rfl, ⟨by decide, by decide, by decide +kernel⟩, by decide, plainFor_of_name (by decide), pt_tab (i := 1588) (by decide +kernel) rfl, pt_tab (i := 15) (by decide +kernel) rfl⟩
theorem siX11_isSound : Cond.instanceMethod (my mX11_isSound) ∈ PT := pt_tab (i := 1587) (by decide +kernel) rfl
theorem seX11_isSound : Cond.selects (my mX11_isSound).cls (my mX11_isSound) (my mX11_isSound) ∈ PT := pt_sel (q := (yX11_isSound, 49)) (i := 98) (by decide +kernel)
def mX11_isAt : PMe := (11, yX11_isAt, cX11_isAt, 3, (some .boolean))
theorem okX11_isAt : okM mX11_isAt 2 := ⟨rfl, ⟨by decide, by decide, by decide +kernel⟩, by decide, plainFor_of_name (by decide), pt_tab (i := 1333) (by decide +kernel) rfl, pt_tab (i := 15) (by decide +kernel) rfl⟩
theorem siX11_isAt : Cond.instanceMethod (my mX11_isAt) ∈ PT := pt_tab (i := 1332) (by decide +kernel) rfl
theorem seX11_isAt : Cond.selects (my mX11_isAt).cls (my mX11_isAt) (my mX11_isAt) ∈ PT := pt_sel (q := (yX11_isAt, 49)) (i := 52) (by decide +kernel)
def mX11_isKeyword : PMe := (11, yX11_isKeyword, cX11_isKeyword, 2, (some .boolean))
theorem okX11_isKeyword : okM mX11_isKeyword 1 := ⟨rfl, ⟨by decide, by decide, by decide +kernel⟩, by decide, plainFor_of_name (by decide), pt_tab (i := 1338) (by decide +kernel) rfl, pt_tab (i := 15) (by decide +kernel) rfl⟩
theorem siX11_isKeyword : Cond.static (my mX11_isKeyword) ∈ PT := pt_tab (i := 1337) (by decide +kernel) rfl
def mX11_isSign : PMe := (11, yX11_isSign, cX11_isSign, 1, (some .boolean))
theorem okX11_isSign : okM mX11_isSign 1 := ⟨rfl, ⟨by decide, by decide, by decide +kernel⟩, by decide, plainFor_of_name (by decide), pt_tab (i := 1351) (by decide +kernel) rfl, pt_tab (i := 15) (by decide +kernel) rfl⟩
theorem siX11_isSign : Cond.static (my mX11_isSign) ∈ PT := pt_tab (i := 1350) (by decide +kernel) rfl
def mX11_next : PMe := (11, yX11_next, cX11_next, 1, none)
theorem okX11_next : okM mX11_next 0 := ⟨rfl, ⟨by decide, by decide, by decide +kernel⟩, by decide, plainFor_of_name (by decide), pt_tab (i := 1329) (by decide +kernel) rfl, pt_tab (i := 15) (by decide +kernel) rfl⟩
theorem siX11_next : Cond.instanceMethod (my mX11_next) ∈ PT := pt_tab (i := 1328) (by decide +kernel) rfl
theorem seX11_next : Cond.selects (my mX11_next).cls (my mX11_next) (my mX11_next) ∈ PT := pt_sel (q := (yX11_next, 49)) (i := 51) (by decide +kernel)
def mX11_takes : PMe := (11, yX11_takes, cX11_takes, 2, none)
theorem okX11_takes : okM mX11_takes 1 := ⟨rfl, ⟨by decide, by decide, by decide +kernel⟩, by decide, plainFor_of_name (by decide), pt_tab (i := 1359) (by decide +kernel) rfl, pt_tab (i := 15) (by decide +kernel) rfl⟩
theorem siX11_takes : Cond.instanceMethod (my mX11_takes) ∈ PT := pt_tab (i := 1358) (by decide +kernel) rfl
theorem seX11_takes : Cond.selects (my mX11_takes).cls (my mX11_takes) (my mX11_takes) ∈ PT := pt_sel (q := (yX11_takes, 49)) (i := 54) (by decide +kernel)
def mX11_isWord : PMe := (11, yX11_isWord, cX11_isWord, 3, (some .boolean))
theorem okX11_isWord : okM mX11_isWord 1 := ⟨rfl, ⟨by decide, by decide, by decide +kernel⟩, by decide, plainFor_of_name (by decide), pt_tab (i := 1355) (by decide +kernel) rfl, pt_tab (i := 15) (by decide +kernel) rfl⟩
theorem siX11_isWord : Cond.instanceMethod (my mX11_isWord) ∈ PT := pt_tab (i := 1354) (by decide +kernel) rfl
theorem seX11_isWord : Cond.selects (my mX11_isWord).cls (my mX11_isWord) (my mX11_isWord) ∈ PT := pt_sel (q := (yX11_isWord, 49)) (i := 53) (by decide +kernel)
def mX11_isHere : PMe := (11, yX11_isHere, cX11_isHere, 2, (some .boolean))
theorem okX11_isHere : okM mX11_isHere 1 := ⟨rfl, ⟨by decide, by decide, by decide +kernel⟩, by decide, plainFor_of_name (by decide), pt_tab (i := 1367) (by decide +kernel) rfl, pt_tab (i := 15) (by decide +kernel) rfl⟩
theorem siX11_isHere : Cond.instanceMethod (my mX11_isHere) ∈ PT := pt_tab (i := 1366) (by decide +kernel) rfl
theorem seX11_isHere : Cond.selects (my mX11_isHere).cls (my mX11_isHere) (my mX11_isHere) ∈ PT := pt_sel (q := (yX11_isHere, 49)) (i := 56) (by decide +kernel)
def mX11_number : PMe := (11, yX11_number, cX11_number, 4, (some .int))
theorem okX11_number : okM mX11_number 2 := ⟨rfl, ⟨by decide, by decide, by decide +kernel⟩, by decide, plainFor_of_name (by decide), pt_tab (i := 1363) (by decide +kernel) rfl, pt_tab (i := 15) (by decide +kernel) rfl⟩
theorem siX11_number : Cond.instanceMethod (my mX11_number) ∈ PT := pt_tab (i := 1362) (by decide +kernel) rfl
theorem seX11_number : Cond.selects (my mX11_number).cls (my mX11_number) (my mX11_number) ∈ PT := pt_sel (q := (yX11_number, 49)) (i := 55) (by decide +kernel)
def mX11_emits : PMe := (11, yX11_emits, cX11_emits, 2, none)
theorem okX11_emits : okM mX11_emits 1 := ⟨rfl, ⟨by decide, by decide, by decide +kernel⟩, by decide, plainFor_of_name (by decide), pt_tab (i := 1434) (by decide +kernel) rfl, pt_tab (i := 15) (by decide +kernel) rfl⟩
theorem siX11_emits : Cond.instanceMethod (my mX11_emits) ∈ PT := pt_tab (i := 1433) (by decide +kernel) rfl
theorem seX11_emits : Cond.selects (my mX11_emits).cls (my mX11_emits) (my mX11_emits) ∈ PT := pt_sel (q := (yX11_emits, 49)) (i := 72) (by decide +kernel)
def mX11_settles : PMe := (11, yX11_settles, cX11_settles, 2, none)
theorem okX11_settles : okM mX11_settles 1 := ⟨rfl, ⟨by decide, by decide, by decide +kernel⟩, by decide, plainFor_of_name (by decide), pt_tab (i := 1438) (by decide +kernel) rfl, pt_tab (i := 15) (by decide +kernel) rfl⟩
theorem siX11_settles : Cond.instanceMethod (my mX11_settles) ∈ PT := pt_tab (i := 1437) (by decide +kernel) rfl
theorem seX11_settles : Cond.selects (my mX11_settles).cls (my mX11_settles) (my mX11_settles) ∈ PT := pt_sel (q := (yX11_settles, 49)) (i := 73) (by decide +kernel)
def mX11_rankOf : PMe := (11, yX11_rankOf, cX11_rankOf, 1, (some .int))
theorem okX11_rankOf : okM mX11_rankOf 1 := ⟨rfl, ⟨by decide, by decide, by decide +kernel⟩, by decide, plainFor_of_name (by decide), pt_tab (i := 1441) (by decide +kernel) rfl, pt_tab (i := 15) (by decide +kernel) rfl⟩
theorem siX11_rankOf : Cond.static (my mX11_rankOf) ∈ PT := pt_tab (i := 1440) (by decide +kernel) rfl
def mX11_waitsFor : PMe := (11, yX11_waitsFor, cX11_waitsFor, 2, none)
theorem okX11_waitsFor : okM mX11_waitsFor 1 := ⟨rfl, ⟨by decide, by decide, by decide +kernel⟩, by decide, plainFor_of_name (by decide), pt_tab (i := 1427) (by decide +kernel) rfl, pt_tab (i := 15) (by decide +kernel) rfl⟩
theorem siX11_waitsFor : Cond.instanceMethod (my mX11_waitsFor) ∈ PT := pt_tab (i := 1426) (by decide +kernel) rfl
theorem seX11_waitsFor : Cond.selects (my mX11_waitsFor).cls (my mX11_waitsFor) (my mX11_waitsFor) ∈ PT := pt_sel (q := (yX11_waitsFor, 49)) (i := 71) (by decide +kernel)
def mX11_readTest : PMe := (11, yX11_readTest, cX11_readTest, 4, none)
theorem okX11_readTest : okM mX11_readTest 1 := ⟨rfl, ⟨by decide, by decide, by decide +kernel⟩, by decide, plainFor_of_name (by decide), pt_tab (i := 1423) (by decide +kernel) rfl, pt_tab (i := 15) (by decide +kernel) rfl⟩
theorem siX11_readTest : Cond.instanceMethod (my mX11_readTest) ∈ PT := pt_tab (i := 1422) (by decide +kernel) rfl
theorem seX11_readTest : Cond.selects (my mX11_readTest).cls (my mX11_readTest) (my mX11_readTest) ∈ PT := pt_sel (q := (yX11_readTest, 49)) (i := 70) (by decide +kernel)
def mX11_readCondition : PMe := (11, yX11_readCondition, cX11_readCondition, 5, none)
theorem okX11_readCondition : okM mX11_readCondition 1 := ⟨rfl, ⟨by decide, by decide, by decide +kernel⟩, by decide, plainFor_of_name (by decide), pt_tab (i := 1419) (by decide +kernel) rfl, pt_tab (i := 15) (by decide +kernel) rfl⟩
theorem siX11_readCondition : Cond.instanceMethod (my mX11_readCondition) ∈ PT := pt_tab (i := 1418) (by decide +kernel) rfl
theorem seX11_readCondition : Cond.selects (my mX11_readCondition).cls (my mX11_readCondition) (my mX11_readCondition) ∈ PT := pt_sel (q := (yX11_readCondition, 49)) (i := 69) (by decide +kernel)
def mX11_takes1 : PMe := (11, yX11_takes1, cX11_takes1, 2, none)
theorem okX11_takes1 : okM mX11_takes1 1 := ⟨rfl, ⟨by decide, by decide, by decide +kernel⟩, by decide, plainFor_of_name (by decide), pt_tab (i := 1445) (by decide +kernel) rfl, pt_tab (i := 15) (by decide +kernel) rfl⟩
theorem siX11_takes1 : Cond.instanceMethod (my mX11_takes1) ∈ PT := pt_tab (i := 1444) (by decide +kernel) rfl
theorem seX11_takes1 : Cond.selects (my mX11_takes1).cls (my mX11_takes1) (my mX11_takes1) ∈ PT := pt_sel (q := (yX11_takes1, 49)) (i := 74) (by decide +kernel)
def mX11_nodeNamed : PMe := (11, yX11_nodeNamed, cX11_nodeNamed, 6, (some .int))
theorem okX11_nodeNamed : okM mX11_nodeNamed 2 := ⟨rfl, ⟨by decide, by decide, by decide +kernel⟩, by decide, plainFor_of_name (by decide), pt_tab (i := 1411) (by decide +kernel) rfl, pt_tab (i := 15) (by decide +kernel) rfl⟩
theorem siX11_nodeNamed : Cond.instanceMethod (my mX11_nodeNamed) ∈ PT := pt_tab (i := 1410) (by decide +kernel) rfl
theorem seX11_nodeNamed : Cond.selects (my mX11_nodeNamed).cls (my mX11_nodeNamed) (my mX11_nodeNamed) ∈ PT := pt_sel (q := (yX11_nodeNamed, 49)) (i := 67) (by decide +kernel)
def mX11_begins : PMe := (11, yX11_begins, cX11_begins, 7, none)
theorem okX11_begins : okM mX11_begins 3 := ⟨rfl, ⟨by decide, by decide, by decide +kernel⟩, by decide, plainFor_of_name (by decide), pt_tab (i := 1407) (by decide +kernel) rfl, pt_tab (i := 15) (by decide +kernel) rfl⟩
theorem siX11_begins : Cond.instanceMethod (my mX11_begins) ∈ PT := pt_tab (i := 1406) (by decide +kernel) rfl
theorem seX11_begins : Cond.selects (my mX11_begins).cls (my mX11_begins) (my mX11_begins) ∈ PT := pt_sel (q := (yX11_begins, 49)) (i := 66) (by decide +kernel)
def mX11_readField : PMe := (11, yX11_readField, cX11_readField, 6, none)
theorem okX11_readField : okM mX11_readField 1 := ⟨rfl, ⟨by decide, by decide, by decide +kernel⟩, by decide, plainFor_of_name (by decide), pt_tab (i := 1403) (by decide +kernel) rfl, pt_tab (i := 15) (by decide +kernel) rfl⟩
theorem siX11_readField : Cond.instanceMethod (my mX11_readField) ∈ PT := pt_tab (i := 1402) (by decide +kernel) rfl
theorem seX11_readField : Cond.selects (my mX11_readField).cls (my mX11_readField) (my mX11_readField) ∈ PT := pt_sel (q := (yX11_readField, 49)) (i := 65) (by decide +kernel)
def mX11_readIf : PMe := (11, yX11_readIf, cX11_readIf, 2, none)
theorem okX11_readIf : okM mX11_readIf 1 := ⟨rfl, ⟨by decide, by decide, by decide +kernel⟩, by decide, plainFor_of_name (by decide), pt_tab (i := 1415) (by decide +kernel) rfl, pt_tab (i := 15) (by decide +kernel) rfl⟩
theorem siX11_readIf : Cond.instanceMethod (my mX11_readIf) ∈ PT := pt_tab (i := 1414) (by decide +kernel) rfl
theorem seX11_readIf : Cond.selects (my mX11_readIf).cls (my mX11_readIf) (my mX11_readIf) ∈ PT := pt_sel (q := (yX11_readIf, 49)) (i := 68) (by decide +kernel)
def mX11_isFieldHere : PMe := (11, yX11_isFieldHere, cX11_isFieldHere, 1, (some .boolean))
theorem okX11_isFieldHere : okM mX11_isFieldHere 0 := ⟨rfl, ⟨by decide, by decide, by decide +kernel⟩, by decide, plainFor_of_name (by decide), pt_tab (i := 1399) (by decide +kernel) rfl, pt_tab (i := 15) (by decide +kernel) rfl⟩
theorem siX11_isFieldHere : Cond.instanceMethod (my mX11_isFieldHere) ∈ PT := pt_tab (i := 1398) (by decide +kernel) rfl
theorem seX11_isFieldHere : Cond.selects (my mX11_isFieldHere).cls (my mX11_isFieldHere) (my mX11_isFieldHere) ∈ PT := pt_sel (q := (yX11_isFieldHere, 49)) (i := 64) (by decide +kernel)
def mX11_readNodes : PMe := (11, yX11_readNodes, cX11_readNodes, 6, none)
theorem okX11_readNodes : okM mX11_readNodes 1 := ⟨rfl, ⟨by decide, by decide, by decide +kernel⟩, by decide, plainFor_of_name (by decide), pt_tab (i := 1371) (by decide +kernel) rfl, pt_tab (i := 15) (by decide +kernel) rfl⟩
theorem siX11_readNodes : Cond.instanceMethod (my mX11_readNodes) ∈ PT := pt_tab (i := 1370) (by decide +kernel) rfl
theorem seX11_readNodes : Cond.selects (my mX11_readNodes).cls (my mX11_readNodes) (my mX11_readNodes) ∈ PT := pt_sel (q := (yX11_readNodes, 49)) (i := 57) (by decide +kernel)
def mX11_resolves : PMe := (11, yX11_resolves, cX11_resolves, 3, none)
theorem okX11_resolves : okM mX11_resolves 0 := ⟨rfl, ⟨by decide, by decide, by decide +kernel⟩, by decide, plainFor_of_name (by decide), pt_tab (i := 1454) (by decide +kernel) rfl, pt_tab (i := 15) (by decide +kernel) rfl⟩
theorem siX11_resolves : Cond.instanceMethod (my mX11_resolves) ∈ PT := pt_tab (i := 1453) (by decide +kernel) rfl
theorem seX11_resolves : Cond.selects (my mX11_resolves).cls (my mX11_resolves) (my mX11_resolves) ∈ PT := pt_sel (q := (yX11_resolves, 49)) (i := 76) (by decide +kernel)
def mX11_isRead : PMe := (11, yX11_isRead, cX11_isRead, 3, (some .boolean))
theorem okX11_isRead : okM mX11_isRead 1 := ⟨rfl, ⟨by decide, by decide, by decide +kernel⟩, by decide, plainFor_of_name (by decide), pt_tab (i := 1461) (by decide +kernel) rfl, pt_tab (i := 15) (by decide +kernel) rfl⟩
theorem siX11_isRead : Cond.instanceMethod (my mX11_isRead) ∈ PT := pt_tab (i := 1460) (by decide +kernel) rfl
theorem seX11_isRead : Cond.selects (my mX11_isRead).cls (my mX11_isRead) (my mX11_isRead) ∈ PT := pt_sel (q := (yX11_isRead, 49)) (i := 77) (by decide +kernel)
def mX11_startsText : PMe := (11, yX11_startsText, cX11_startsText, 2, none)
theorem okX11_startsText : okM mX11_startsText 0 := ⟨rfl, ⟨by decide, by decide, by decide +kernel⟩, by decide, plainFor_of_name (by decide), pt_tab (i := 1325) (by decide +kernel) rfl, pt_tab (i := 15) (by decide +kernel) rfl⟩
theorem siX11_startsText : Cond.instanceMethod (my mX11_startsText) ∈ PT := pt_tab (i := 1324) (by decide +kernel) rfl
theorem seX11_startsText : Cond.selects (my mX11_startsText).cls (my mX11_startsText) (my mX11_startsText) ∈ PT := pt_sel (q := (yX11_startsText, 49)) (i := 50) (by decide +kernel)
def mX11_swaps : PMe := (11, yX11_swaps, cX11_swaps, 4, none)
theorem okX11_swaps : okM mX11_swaps 0 := ⟨rfl, ⟨by decide, by decide, by decide +kernel⟩, by decide, plainFor_of_name (by decide), pt_tab (i := 1522) (by decide +kernel) rfl, pt_tab (i := 15) (by decide +kernel) rfl⟩
theorem siX11_swaps : Cond.instanceMethod (my mX11_swaps) ∈ PT := pt_tab (i := 1521) (by decide +kernel) rfl
theorem seX11_swaps : Cond.selects (my mX11_swaps).cls (my mX11_swaps) (my mX11_swaps) ∈ PT := pt_sel (q := (yX11_swaps, 49)) (i := 89) (by decide +kernel)
def mX11_takesMade : PMe := (11, yX11_takesMade, cX11_takesMade, 2, none)
theorem okX11_takesMade : okM mX11_takesMade 0 := ⟨rfl, ⟨by decide, by decide, by decide +kernel⟩, by decide, plainFor_of_name (by decide), pt_tab (i := 1495) (by decide +kernel) rfl, pt_tab (i := 15) (by decide +kernel) rfl⟩
theorem siX11_takesMade : Cond.instanceMethod (my mX11_takesMade) ∈ PT := pt_tab (i := 1494) (by decide +kernel) rfl
theorem seX11_takesMade : Cond.selects (my mX11_takesMade).cls (my mX11_takesMade) (my mX11_takesMade) ∈ PT := pt_sel (q := (yX11_takesMade, 49)) (i := 84) (by decide +kernel)
def mX11_puts : PMe := (11, yX11_puts, cX11_puts, 3, none)
theorem okX11_puts : okM mX11_puts 1 := ⟨rfl, ⟨by decide, by decide, by decide +kernel⟩, by decide, plainFor_of_name (by decide), pt_tab (i := 1310) (by decide +kernel) rfl, pt_tab (i := 15) (by decide +kernel) rfl⟩
theorem siX11_puts : Cond.instanceMethod (my mX11_puts) ∈ PT := pt_tab (i := 1309) (by decide +kernel) rfl
theorem seX11_puts : Cond.selects (my mX11_puts).cls (my mX11_puts) (my mX11_puts) ∈ PT := pt_sel (q := (yX11_puts, 49)) (i := 49) (by decide +kernel)
def mX11_append : PMe := (11, yX11_append, cX11_append, 6, (some .int))
theorem okX11_append : okM mX11_append 5 := ⟨rfl, ⟨by decide, by decide, by decide +kernel⟩, by decide, plainFor_of_name (by decide), pt_tab (i := 1306) (by decide +kernel) rfl, pt_tab (i := 15) (by decide +kernel) rfl⟩
theorem siX11_append : Cond.instanceMethod (my mX11_append) ∈ PT := pt_tab (i := 1304) (by decide +kernel) rfl
theorem seX11_append : Cond.selects (my mX11_append).cls (my mX11_append) (my mX11_append) ∈ PT := pt_tab (i := 1305) (by decide +kernel) rfl
def mX11_truncate : PMe := (11, yX11_truncate, cX11_truncate, 2, (some .int))
theorem okX11_truncate : okM mX11_truncate 1 := ⟨rfl, ⟨by decide, by decide, by decide +kernel⟩, by decide, plainFor_of_name (by decide), pt_tab (i := 1314) (by decide +kernel) rfl, pt_tab (i := 15) (by decide +kernel) rfl⟩
theorem siX11_truncate : Cond.instanceMethod (my mX11_truncate) ∈ PT := pt_tab (i := 1312) (by decide +kernel) rfl
theorem seX11_truncate : Cond.selects (my mX11_truncate).cls (my mX11_truncate) (my mX11_truncate) ∈ PT := pt_tab (i := 1313) (by decide +kernel) rfl
def mX11_load : PMe := (11, yX11_load, cX11_load, 3, (some .int))
theorem okX11_load : okM mX11_load 0 := ⟨rfl, ⟨by decide, by decide, by decide +kernel⟩, by decide, plainFor_of_name (by decide), pt_tab (i := 1321) (by decide +kernel) rfl, pt_tab (i := 15) (by decide +kernel) rfl⟩
theorem siX11_load : Cond.instanceMethod (my mX11_load) ∈ PT := pt_tab (i := 1319) (by decide +kernel) rfl
theorem seX11_load : Cond.selects (my mX11_load).cls (my mX11_load) (my mX11_load) ∈ PT := pt_tab (i := 1320) (by decide +kernel) rfl
def mX11_packs : PMe := (11, yX11_packs, cX11_packs, 3, none)
theorem okX11_packs : okM mX11_packs 1 := ⟨rfl, ⟨by decide, by decide, by decide +kernel⟩, by decide, plainFor_of_name (by decide), pt_tab (i := 1499) (by decide +kernel) rfl, pt_tab (i := 15) (by decide +kernel) rfl⟩
theorem siX11_packs : Cond.instanceMethod (my mX11_packs) ∈ PT := pt_tab (i := 1498) (by decide +kernel) rfl
theorem seX11_packs : Cond.selects (my mX11_packs).cls (my mX11_packs) (my mX11_packs) ∈ PT := pt_sel (q := (yX11_packs, 49)) (i := 85) (by decide +kernel)
def mX11_fieldMany : PMe := (11, yX11_fieldMany, cX11_fieldMany, 3, (some .int))
theorem okX11_fieldMany : okM mX11_fieldMany 0 := ⟨rfl, ⟨by decide, by decide, by decide +kernel⟩, by decide, plainFor_of_name (by decide), pt_tab (i := 1503) (by decide +kernel) rfl, pt_tab (i := 15) (by decide +kernel) rfl⟩
theorem siX11_fieldMany : Cond.instanceMethod (my mX11_fieldMany) ∈ PT := pt_tab (i := 1502) (by decide +kernel) rfl
theorem seX11_fieldMany : Cond.selects (my mX11_fieldMany).cls (my mX11_fieldMany) (my mX11_fieldMany) ∈ PT := pt_sel (q := (yX11_fieldMany, 49)) (i := 86) (by decide +kernel)
def mX11_isGroup : PMe := (11, yX11_isGroup, cX11_isGroup, 2, (some .boolean))
theorem okX11_isGroup : okM mX11_isGroup 1 := ⟨rfl, ⟨by decide, by decide, by decide +kernel⟩, by decide, plainFor_of_name (by decide), pt_tab (i := 1511) (by decide +kernel) rfl, pt_tab (i := 15) (by decide +kernel) rfl⟩
theorem siX11_isGroup : Cond.instanceMethod (my mX11_isGroup) ∈ PT := pt_tab (i := 1510) (by decide +kernel) rfl
theorem seX11_isGroup : Cond.selects (my mX11_isGroup).cls (my mX11_isGroup) (my mX11_isGroup) ∈ PT := pt_sel (q := (yX11_isGroup, 49)) (i := 87) (by decide +kernel)
def mX11_insert : PMe := (11, yX11_insert, cX11_insert, 7, (some .int))
theorem okX11_insert : okM mX11_insert 1 := ⟨rfl, ⟨by decide, by decide, by decide +kernel⟩, by decide, plainFor_of_name (by decide), pt_tab (i := 1507) (by decide +kernel) rfl, pt_tab (i := 15) (by decide +kernel) rfl⟩
theorem siX11_insert : Cond.instanceMethod (my mX11_insert) ∈ PT := pt_tab (i := 1505) (by decide +kernel) rfl
theorem seX11_insert : Cond.selects (my mX11_insert).cls (my mX11_insert) (my mX11_insert) ∈ PT := pt_tab (i := 1506) (by decide +kernel) rfl
def mX11_setCondition : PMe := (11, yX11_setCondition, cX11_setCondition, 3, (some .int))
theorem okX11_setCondition : okM mX11_setCondition 1 := ⟨rfl, ⟨by decide, by decide, by decide +kernel⟩, by decide, plainFor_of_name (by decide), pt_tab (i := 1530) (by decide +kernel) rfl, pt_tab (i := 15) (by decide +kernel) rfl⟩
theorem siX11_setCondition : Cond.instanceMethod (my mX11_setCondition) ∈ PT := pt_tab (i := 1528) (by decide +kernel) rfl
theorem seX11_setCondition : Cond.selects (my mX11_setCondition).cls (my mX11_setCondition) (my mX11_setCondition) ∈ PT := pt_tab (i := 1529) (by decide +kernel) rfl
def mX11_errorPosition : PMe := (11, yX11_errorPosition, cX11_errorPosition, 1, (some .int))
theorem okX11_errorPosition : okM mX11_errorPosition 0 := ⟨rfl, ⟨by decide, by decide, by decide +kernel⟩, by decide, plainFor_of_name (by decide), pt_tab (i := 1538) (by decide +kernel) rfl, pt_tab (i := 15) (by decide +kernel) rfl⟩
theorem siX11_errorPosition : Cond.instanceMethod (my mX11_errorPosition) ∈ PT := pt_tab (i := 1536) (by decide +kernel) rfl
theorem seX11_errorPosition : Cond.selects (my mX11_errorPosition).cls (my mX11_errorPosition) (my mX11_errorPosition) ∈ PT := pt_tab (i := 1537) (by decide +kernel) rfl
def mX11_keeps : PMe := (11, yX11_keeps, cX11_keeps, 2, none)
theorem okX11_keeps : okM mX11_keeps 0 := ⟨rfl, ⟨by decide, by decide, by decide +kernel⟩, by decide, plainFor_of_name (by decide), pt_tab (i := 1526) (by decide +kernel) rfl, pt_tab (i := 15) (by decide +kernel) rfl⟩
theorem siX11_keeps : Cond.instanceMethod (my mX11_keeps) ∈ PT := pt_tab (i := 1525) (by decide +kernel) rfl
theorem seX11_keeps : Cond.selects (my mX11_keeps).cls (my mX11_keeps) (my mX11_keeps) ∈ PT := pt_sel (q := (yX11_keeps, 49)) (i := 90) (by decide +kernel)
def mX11_undo : PMe := (11, yX11_undo, cX11_undo, 2, (some .int))
theorem okX11_undo : okM mX11_undo 0 := ⟨rfl, ⟨by decide, by decide, by decide +kernel⟩, by decide, plainFor_of_name (by decide), pt_tab (i := 1542) (by decide +kernel) rfl, pt_tab (i := 15) (by decide +kernel) rfl⟩
theorem siX11_undo : Cond.instanceMethod (my mX11_undo) ∈ PT := pt_tab (i := 1540) (by decide +kernel) rfl
theorem seX11_undo : Cond.selects (my mX11_undo).cls (my mX11_undo) (my mX11_undo) ∈ PT := pt_tab (i := 1541) (by decide +kernel) rfl
def mX11_nameOf : PMe := (11, yX11_nameOf, cX11_nameOf, 7, (some .long))
theorem okX11_nameOf : okM mX11_nameOf 1 := ⟨rfl, ⟨by decide, by decide, by decide +kernel⟩, by decide, plainFor_of_name (by decide), pt_tab (i := 1549) (by decide +kernel) rfl, pt_tab (i := 15) (by decide +kernel) rfl⟩
theorem siX11_nameOf : Cond.static (my mX11_nameOf) ∈ PT := pt_tab (i := 1548) (by decide +kernel) rfl
def mX11_rename : PMe := (11, yX11_rename, cX11_rename, 5, (some .boolean))
theorem okX11_rename : okM mX11_rename 2 := ⟨rfl, ⟨by decide, by decide, by decide +kernel⟩, by decide, plainFor_of_name (by decide), pt_tab (i := 1546) (by decide +kernel) rfl, pt_tab (i := 15) (by decide +kernel) rfl⟩
theorem siX11_rename : Cond.instanceMethod (my mX11_rename) ∈ PT := pt_tab (i := 1544) (by decide +kernel) rfl
theorem seX11_rename : Cond.selects (my mX11_rename).cls (my mX11_rename) (my mX11_rename) ∈ PT := pt_tab (i := 1545) (by decide +kernel) rfl
def mX11_closes : PMe := (11, yX11_closes, cX11_closes, 4, none)
theorem okX11_closes : okM mX11_closes 2 := ⟨rfl, ⟨by decide, by decide, by decide +kernel⟩, by decide, plainFor_of_name (by decide), pt_tab (i := 1561) (by decide +kernel) rfl, pt_tab (i := 15) (by decide +kernel) rfl⟩
theorem siX11_closes : Cond.instanceMethod (my mX11_closes) ∈ PT := pt_tab (i := 1560) (by decide +kernel) rfl
theorem seX11_closes : Cond.selects (my mX11_closes).cls (my mX11_closes) (my mX11_closes) ∈ PT := pt_sel (q := (yX11_closes, 49)) (i := 93) (by decide +kernel)
def mX11_rest : PMe := (11, yX11_rest, cX11_rest, 2, (some .int))
theorem okX11_rest : okM mX11_rest 1 := ⟨rfl, ⟨by decide, by decide, by decide +kernel⟩, by decide, plainFor_of_name (by decide), pt_tab (i := 1557) (by decide +kernel) rfl, pt_tab (i := 15) (by decide +kernel) rfl⟩
theorem siX11_rest : Cond.instanceMethod (my mX11_rest) ∈ PT := pt_tab (i := 1556) (by decide +kernel) rfl
theorem seX11_rest : Cond.selects (my mX11_rest).cls (my mX11_rest) (my mX11_rest) ∈ PT := pt_sel (q := (yX11_rest, 49)) (i := 92) (by decide +kernel)
def mX11_remove : PMe := (11, yX11_remove, cX11_remove, 7, (some .int))
theorem okX11_remove : okM mX11_remove 1 := ⟨rfl, ⟨by decide, by decide, by decide +kernel⟩, by decide, plainFor_of_name (by decide), pt_tab (i := 1553) (by decide +kernel) rfl, pt_tab (i := 15) (by decide +kernel) rfl⟩
theorem siX11_remove : Cond.instanceMethod (my mX11_remove) ∈ PT := pt_tab (i := 1551) (by decide +kernel) rfl
theorem seX11_remove : Cond.selects (my mX11_remove).cls (my mX11_remove) (my mX11_remove) ∈ PT := pt_tab (i := 1552) (by decide +kernel) rfl
def mX11_sons : PMe := (11, yX11_sons, cX11_sons, 4, (some .int))
theorem okX11_sons : okM mX11_sons 1 := ⟨rfl, ⟨by decide, by decide, by decide +kernel⟩, by decide, plainFor_of_name (by decide), pt_tab (i := 1569) (by decide +kernel) rfl, pt_tab (i := 15) (by decide +kernel) rfl⟩
theorem siX11_sons : Cond.instanceMethod (my mX11_sons) ∈ PT := pt_tab (i := 1568) (by decide +kernel) rfl
theorem seX11_sons : Cond.selects (my mX11_sons).cls (my mX11_sons) (my mX11_sons) ∈ PT := pt_sel (q := (yX11_sons, 49)) (i := 94) (by decide +kernel)
def mX11_indexOf : PMe := (11, yX11_indexOf, cX11_indexOf, 4, (some .int))
theorem okX11_indexOf : okM mX11_indexOf 1 := ⟨rfl, ⟨by decide, by decide, by decide +kernel⟩, by decide, plainFor_of_name (by decide), pt_tab (i := 1573) (by decide +kernel) rfl, pt_tab (i := 15) (by decide +kernel) rfl⟩
theorem siX11_indexOf : Cond.instanceMethod (my mX11_indexOf) ∈ PT := pt_tab (i := 1572) (by decide +kernel) rfl
theorem seX11_indexOf : Cond.selects (my mX11_indexOf).cls (my mX11_indexOf) (my mX11_indexOf) ∈ PT := pt_sel (q := (yX11_indexOf, 49)) (i := 95) (by decide +kernel)
def mX11_placeFor : PMe := (11, yX11_placeFor, cX11_placeFor, 5, (some .int))
theorem okX11_placeFor : okM mX11_placeFor 2 := ⟨rfl, ⟨by decide, by decide, by decide +kernel⟩, by decide, plainFor_of_name (by decide), pt_tab (i := 1584) (by decide +kernel) rfl, pt_tab (i := 15) (by decide +kernel) rfl⟩
theorem siX11_placeFor : Cond.instanceMethod (my mX11_placeFor) ∈ PT := pt_tab (i := 1583) (by decide +kernel) rfl
theorem seX11_placeFor : Cond.selects (my mX11_placeFor).cls (my mX11_placeFor) (my mX11_placeFor) ∈ PT := pt_sel (q := (yX11_placeFor, 49)) (i := 97) (by decide +kernel)
def mX11_nodeOf : PMe := (11, yX11_nodeOf, cX11_nodeOf, 1, (some .int))
theorem okX11_nodeOf : okM mX11_nodeOf 1 := ⟨rfl, ⟨by decide, by decide, by decide +kernel⟩, by decide, plainFor_of_name (by decide), pt_tab (i := 1518) (by decide +kernel) rfl, pt_tab (i := 15) (by decide +kernel) rfl⟩
theorem siX11_nodeOf : Cond.static (my mX11_nodeOf) ∈ PT := pt_tab (i := 1517) (by decide +kernel) rfl
def mX11_move : PMe := (11, yX11_move, cX11_move, 10, (some .boolean))
theorem okX11_move : okM mX11_move 3 := ⟨rfl, ⟨by decide, by decide, by decide +kernel⟩, by decide, plainFor_of_name (by decide), pt_tab (i := 1565) (by decide +kernel) rfl, pt_tab (i := 15) (by decide +kernel) rfl⟩
theorem siX11_move : Cond.instanceMethod (my mX11_move) ∈ PT := pt_tab (i := 1563) (by decide +kernel) rfl
theorem seX11_move : Cond.selects (my mX11_move).cls (my mX11_move) (my mX11_move) ∈ PT := pt_tab (i := 1564) (by decide +kernel) rfl
def mX11_setKind : PMe := (11, yX11_setKind, cX11_setKind, 8, (some .int))
theorem okX11_setKind : okM mX11_setKind 4 := ⟨rfl, ⟨by decide, by decide, by decide +kernel⟩, by decide, plainFor_of_name (by decide), pt_tab (i := 1596) (by decide +kernel) rfl, pt_tab (i := 15) (by decide +kernel) rfl⟩
theorem siX11_setKind : Cond.instanceMethod (my mX11_setKind) ∈ PT := pt_tab (i := 1594) (by decide +kernel) rfl
theorem seX11_setKind : Cond.selects (my mX11_setKind).cls (my mX11_setKind) (my mX11_setKind) ∈ PT := pt_tab (i := 1595) (by decide +kernel) rfl
def mX11_revisions : PMe := (11, yX11_revisions, cX11_revisions, 1, (some .int))
theorem okX11_revisions : okM mX11_revisions 0 := ⟨rfl, ⟨by decide, by decide, by decide +kernel⟩, by decide, plainFor_of_name (by decide), pt_tab (i := 1608) (by decide +kernel) rfl, pt_tab (i := 15) (by decide +kernel) rfl⟩
theorem siX11_revisions : Cond.instanceMethod (my mX11_revisions) ∈ PT := pt_tab (i := 1607) (by decide +kernel) rfl
theorem seX11_revisions : Cond.selects (my mX11_revisions).cls (my mX11_revisions) (my mX11_revisions) ∈ PT := pt_sel (q := (yX11_revisions, 49)) (i := 101) (by decide +kernel)
def mX11_sheets : PMe := (11, yX11_sheets, cX11_sheets, 1, (some .int))
theorem okX11_sheets : okM mX11_sheets 0 := ⟨rfl, ⟨by decide, by decide, by decide +kernel⟩, by decide, plainFor_of_name (by decide), pt_tab (i := 1619) (by decide +kernel) rfl, pt_tab (i := 15) (by decide +kernel) rfl⟩
theorem siX11_sheets : Cond.instanceMethod (my mX11_sheets) ∈ PT := pt_tab (i := 1618) (by decide +kernel) rfl
theorem seX11_sheets : Cond.selects (my mX11_sheets).cls (my mX11_sheets) (my mX11_sheets) ∈ PT := pt_sel (q := (yX11_sheets, 49)) (i := 102) (by decide +kernel)
def mX11_isRevision : PMe := (11, yX11_isRevision, cX11_isRevision, 2, (some .boolean))
theorem okX11_isRevision : okM mX11_isRevision 1 := ⟨rfl, ⟨by decide, by decide, by decide +kernel⟩, by decide, plainFor_of_name (by decide), pt_tab (i := 1711) (by decide +kernel) rfl, pt_tab (i := 15) (by decide +kernel) rfl⟩
theorem siX11_isRevision : Cond.instanceMethod (my mX11_isRevision) ∈ PT := pt_tab (i := 1710) (by decide +kernel) rfl
theorem seX11_isRevision : Cond.selects (my mX11_isRevision).cls (my mX11_isRevision) (my mX11_isRevision) ∈ PT := pt_sel (q := (yX11_isRevision, 49)) (i := 111) (by decide +kernel)
def mX11_isSheet : PMe := (11, yX11_isSheet, cX11_isSheet, 2, (some .boolean))
theorem okX11_isSheet : okM mX11_isSheet 1 := ⟨rfl, ⟨by decide, by decide, by decide +kernel⟩, by decide, plainFor_of_name (by decide), pt_tab (i := 1628) (by decide +kernel) rfl, pt_tab (i := 15) (by decide +kernel) rfl⟩
theorem siX11_isSheet : Cond.instanceMethod (my mX11_isSheet) ∈ PT := pt_tab (i := 1627) (by decide +kernel) rfl
theorem seX11_isSheet : Cond.selects (my mX11_isSheet).cls (my mX11_isSheet) (my mX11_isSheet) ∈ PT := pt_sel (q := (yX11_isSheet, 49)) (i := 103) (by decide +kernel)
def mX11_publish : PMe := (11, yX11_publish, cX11_publish, 3, (some .int))
theorem okX11_publish : okM mX11_publish 0 := ⟨rfl, ⟨by decide, by decide, by decide +kernel⟩, by decide, plainFor_of_name (by decide), pt_tab (i := 1604) (by decide +kernel) rfl, pt_tab (i := 15) (by decide +kernel) rfl⟩
theorem siX11_publish : Cond.instanceMethod (my mX11_publish) ∈ PT := pt_tab (i := 1602) (by decide +kernel) rfl
theorem seX11_publish : Cond.selects (my mX11_publish).cls (my mX11_publish) (my mX11_publish) ∈ PT := pt_tab (i := 1603) (by decide +kernel) rfl
def mX11_begin : PMe := (11, yX11_begin, cX11_begin, 3, (some .int))
theorem okX11_begin : okM mX11_begin 0 := ⟨rfl, ⟨by decide, by decide, by decide +kernel⟩, by decide, plainFor_of_name (by decide), pt_tab (i := 1615) (by decide +kernel) rfl, pt_tab (i := 15) (by decide +kernel) rfl⟩
theorem siX11_begin : Cond.instanceMethod (my mX11_begin) ∈ PT := pt_tab (i := 1613) (by decide +kernel) rfl
theorem seX11_begin : Cond.selects (my mX11_begin).cls (my mX11_begin) (my mX11_begin) ∈ PT := pt_tab (i := 1614) (by decide +kernel) rfl
def mX11_revisionBy : PMe := (11, yX11_revisionBy, cX11_revisionBy, 2, (some .int))
theorem okX11_revisionBy : okM mX11_revisionBy 1 := ⟨rfl, ⟨by decide, by decide, by decide +kernel⟩, by decide, plainFor_of_name (by decide), pt_tab (i := 1636) (by decide +kernel) rfl, pt_tab (i := 15) (by decide +kernel) rfl⟩
theorem siX11_revisionBy : Cond.instanceMethod (my mX11_revisionBy) ∈ PT := pt_tab (i := 1635) (by decide +kernel) rfl
theorem seX11_revisionBy : Cond.selects (my mX11_revisionBy).cls (my mX11_revisionBy) (my mX11_revisionBy) ∈ PT := pt_sel (q := (yX11_revisionBy, 49)) (i := 105) (by decide +kernel)
def mX11_formBy : PMe := (11, yX11_formBy, cX11_formBy, 2, (some .int))
theorem okX11_formBy : okM mX11_formBy 1 := ⟨rfl, ⟨by decide, by decide, by decide +kernel⟩, by decide, plainFor_of_name (by decide), pt_tab (i := 1632) (by decide +kernel) rfl, pt_tab (i := 15) (by decide +kernel) rfl⟩
theorem siX11_formBy : Cond.instanceMethod (my mX11_formBy) ∈ PT := pt_tab (i := 1631) (by decide +kernel) rfl
theorem seX11_formBy : Cond.selects (my mX11_formBy).cls (my mX11_formBy) (my mX11_formBy) ∈ PT := pt_sel (q := (yX11_formBy, 49)) (i := 104) (by decide +kernel)
def mX11_answerAt : PMe := (11, yX11_answerAt, cX11_answerAt, 3, (some .int))
theorem okX11_answerAt : okM mX11_answerAt 2 := ⟨rfl, ⟨by decide, by decide, by decide +kernel⟩, by decide, plainFor_of_name (by decide), pt_tab (i := 1656) (by decide +kernel) rfl, pt_tab (i := 15) (by decide +kernel) rfl⟩
theorem siX11_answerAt : Cond.instanceMethod (my mX11_answerAt) ∈ PT := pt_tab (i := 1655) (by decide +kernel) rfl
theorem seX11_answerAt : Cond.selects (my mX11_answerAt).cls (my mX11_answerAt) (my mX11_answerAt) ∈ PT := pt_sel (q := (yX11_answerAt, 49)) (i := 110) (by decide +kernel)
def mX11_holds : PMe := (11, yX11_holds, cX11_holds, 7, (some .boolean))
theorem okX11_holds : okM mX11_holds 2 := ⟨rfl, ⟨by decide, by decide, by decide +kernel⟩, by decide, plainFor_of_name (by decide), pt_tab (i := 1652) (by decide +kernel) rfl, pt_tab (i := 15) (by decide +kernel) rfl⟩
theorem siX11_holds : Cond.instanceMethod (my mX11_holds) ∈ PT := pt_tab (i := 1651) (by decide +kernel) rfl
theorem seX11_holds : Cond.selects (my mX11_holds).cls (my mX11_holds) (my mX11_holds) ∈ PT := pt_sel (q := (yX11_holds, 49)) (i := 109) (by decide +kernel)
def mX11_isMet : PMe := (11, yX11_isMet, cX11_isMet, 10, (some .boolean))
theorem okX11_isMet : okM mX11_isMet 3 := ⟨rfl, ⟨by decide, by decide, by decide +kernel⟩, by decide, plainFor_of_name (by decide), pt_tab (i := 1648) (by decide +kernel) rfl, pt_tab (i := 15) (by decide +kernel) rfl⟩
theorem siX11_isMet : Cond.instanceMethod (my mX11_isMet) ∈ PT := pt_tab (i := 1647) (by decide +kernel) rfl
theorem seX11_isMet : Cond.selects (my mX11_isMet).cls (my mX11_isMet) (my mX11_isMet) ∈ PT := pt_sel (q := (yX11_isMet, 49)) (i := 108) (by decide +kernel)
def mX11_areKnown : PMe := (11, yX11_areKnown, cX11_areKnown, 3, (some .boolean))
theorem okX11_areKnown : okM mX11_areKnown 1 := ⟨rfl, ⟨by decide, by decide, by decide +kernel⟩, by decide, plainFor_of_name (by decide), pt_tab (i := 1644) (by decide +kernel) rfl, pt_tab (i := 15) (by decide +kernel) rfl⟩
theorem siX11_areKnown : Cond.instanceMethod (my mX11_areKnown) ∈ PT := pt_tab (i := 1643) (by decide +kernel) rfl
theorem seX11_areKnown : Cond.selects (my mX11_areKnown).cls (my mX11_areKnown) (my mX11_areKnown) ∈ PT := pt_sel (q := (yX11_areKnown, 49)) (i := 107) (by decide +kernel)
def mX11_laysShown : PMe := (11, yX11_laysShown, cX11_laysShown, 7, none)
theorem okX11_laysShown : okM mX11_laysShown 2 := ⟨rfl, ⟨by decide, by decide, by decide +kernel⟩, by decide, plainFor_of_name (by decide), pt_tab (i := 1640) (by decide +kernel) rfl, pt_tab (i := 15) (by decide +kernel) rfl⟩
theorem siX11_laysShown : Cond.instanceMethod (my mX11_laysShown) ∈ PT := pt_tab (i := 1639) (by decide +kernel) rfl
theorem seX11_laysShown : Cond.selects (my mX11_laysShown).cls (my mX11_laysShown) (my mX11_laysShown) ∈ PT := pt_sel (q := (yX11_laysShown, 49)) (i := 106) (by decide +kernel)
def mX11_answer : PMe := (11, yX11_answer, cX11_answer, 7, (some .int))
theorem okX11_answer : okM mX11_answer 3 := ⟨rfl, ⟨by decide, by decide, by decide +kernel⟩, by decide, plainFor_of_name (by decide), pt_tab (i := 1624) (by decide +kernel) rfl, pt_tab (i := 15) (by decide +kernel) rfl⟩
theorem siX11_answer : Cond.instanceMethod (my mX11_answer) ∈ PT := pt_tab (i := 1622) (by decide +kernel) rfl
theorem seX11_answer : Cond.selects (my mX11_answer).cls (my mX11_answer) (my mX11_answer) ∈ PT := pt_tab (i := 1623) (by decide +kernel) rfl
def mX11_advance : PMe := (11, yX11_advance, cX11_advance, 5, (some .int))
theorem okX11_advance : okM mX11_advance 1 := ⟨rfl, ⟨by decide, by decide, by decide +kernel⟩, by decide, plainFor_of_name (by decide), pt_tab (i := 1660) (by decide +kernel) rfl, pt_tab (i := 15) (by decide +kernel) rfl⟩
theorem siX11_advance : Cond.instanceMethod (my mX11_advance) ∈ PT := pt_tab (i := 1658) (by decide +kernel) rfl
theorem seX11_advance : Cond.selects (my mX11_advance).cls (my mX11_advance) (my mX11_advance) ∈ PT := pt_tab (i := 1659) (by decide +kernel) rfl
def mX11_value : PMe := (11, yX11_value, cX11_value, 4, (some .int))
theorem okX11_value : okM mX11_value 1 := ⟨rfl, ⟨by decide, by decide, by decide +kernel⟩, by decide, plainFor_of_name (by decide), pt_tab (i := 1664) (by decide +kernel) rfl, pt_tab (i := 15) (by decide +kernel) rfl⟩
theorem siX11_value : Cond.instanceMethod (my mX11_value) ∈ PT := pt_tab (i := 1662) (by decide +kernel) rfl
theorem seX11_value : Cond.selects (my mX11_value).cls (my mX11_value) (my mX11_value) ∈ PT := pt_tab (i := 1663) (by decide +kernel) rfl
def mX11_node : PMe := (11, yX11_node, cX11_node, 3, (some .int))
theorem okX11_node : okM mX11_node 2 := ⟨rfl, ⟨by decide, by decide, by decide +kernel⟩, by decide, plainFor_of_name (by decide), pt_tab (i := 1668) (by decide +kernel) rfl, pt_tab (i := 15) (by decide +kernel) rfl⟩
theorem siX11_node : Cond.instanceMethod (my mX11_node) ∈ PT := pt_tab (i := 1666) (by decide +kernel) rfl
theorem seX11_node : Cond.selects (my mX11_node).cls (my mX11_node) (my mX11_node) ∈ PT := pt_tab (i := 1667) (by decide +kernel) rfl
def mX11_lengthOf : PMe := (11, yX11_lengthOf, cX11_lengthOf, 3, (some .int))
theorem okX11_lengthOf : okM mX11_lengthOf 1 := ⟨rfl, ⟨by decide, by decide, by decide +kernel⟩, by decide, plainFor_of_name (by decide), pt_tab (i := 1675) (by decide +kernel) rfl, pt_tab (i := 15) (by decide +kernel) rfl⟩
theorem siX11_lengthOf : Cond.static (my mX11_lengthOf) ∈ PT := pt_tab (i := 1674) (by decide +kernel) rfl
def mX11_letterOf : PMe := (11, yX11_letterOf, cX11_letterOf, 3, (some .int))
theorem okX11_letterOf : okM mX11_letterOf 2 := ⟨rfl, ⟨by decide, by decide, by decide +kernel⟩, by decide, plainFor_of_name (by decide), pt_tab (i := 1678) (by decide +kernel) rfl, pt_tab (i := 15) (by decide +kernel) rfl⟩
theorem siX11_letterOf : Cond.static (my mX11_letterOf) ∈ PT := pt_tab (i := 1677) (by decide +kernel) rfl
def mX11_letter : PMe := (11, yX11_letter, cX11_letter, 5, (some .int))
theorem okX11_letter : okM mX11_letter 2 := ⟨rfl, ⟨by decide, by decide, by decide +kernel⟩, by decide, plainFor_of_name (by decide), pt_tab (i := 1672) (by decide +kernel) rfl, pt_tab (i := 15) (by decide +kernel) rfl⟩
theorem siX11_letter : Cond.instanceMethod (my mX11_letter) ∈ PT := pt_tab (i := 1670) (by decide +kernel) rfl
theorem seX11_letter : Cond.selects (my mX11_letter).cls (my mX11_letter) (my mX11_letter) ∈ PT := pt_tab (i := 1671) (by decide +kernel) rfl
def mX11_named : PMe := (11, yX11_named, cX11_named, 4, (some .int))
theorem okX11_named : okM mX11_named 1 := ⟨rfl, ⟨by decide, by decide, by decide +kernel⟩, by decide, plainFor_of_name (by decide), pt_tab (i := 1683) (by decide +kernel) rfl, pt_tab (i := 15) (by decide +kernel) rfl⟩
theorem siX11_named : Cond.instanceMethod (my mX11_named) ∈ PT := pt_tab (i := 1681) (by decide +kernel) rfl
theorem seX11_named : Cond.selects (my mX11_named).cls (my mX11_named) (my mX11_named) ∈ PT := pt_tab (i := 1682) (by decide +kernel) rfl
def mX11_nodeAt : PMe := (11, yX11_nodeAt, cX11_nodeAt, 2, (some .int))
theorem okX11_nodeAt : okM mX11_nodeAt 1 := ⟨rfl, ⟨by decide, by decide, by decide +kernel⟩, by decide, plainFor_of_name (by decide), pt_tab (i := 1687) (by decide +kernel) rfl, pt_tab (i := 15) (by decide +kernel) rfl⟩
theorem siX11_nodeAt : Cond.instanceMethod (my mX11_nodeAt) ∈ PT := pt_tab (i := 1685) (by decide +kernel) rfl
theorem seX11_nodeAt : Cond.selects (my mX11_nodeAt).cls (my mX11_nodeAt) (my mX11_nodeAt) ∈ PT := pt_tab (i := 1686) (by decide +kernel) rfl
def mX11_dependsOn : PMe := (11, yX11_dependsOn, cX11_dependsOn, 2, (some .int))
theorem okX11_dependsOn : okM mX11_dependsOn 1 := ⟨rfl, ⟨by decide, by decide, by decide +kernel⟩, by decide, plainFor_of_name (by decide), pt_tab (i := 1691) (by decide +kernel) rfl, pt_tab (i := 15) (by decide +kernel) rfl⟩
theorem siX11_dependsOn : Cond.instanceMethod (my mX11_dependsOn) ∈ PT := pt_tab (i := 1689) (by decide +kernel) rfl
theorem seX11_dependsOn : Cond.selects (my mX11_dependsOn).cls (my mX11_dependsOn) (my mX11_dependsOn) ∈ PT := pt_tab (i := 1690) (by decide +kernel) rfl
def mX11_dependents : PMe := (11, yX11_dependents, cX11_dependents, 4, (some .int))
theorem okX11_dependents : okM mX11_dependents 1 := ⟨rfl, ⟨by decide, by decide, by decide +kernel⟩, by decide, plainFor_of_name (by decide), pt_tab (i := 1695) (by decide +kernel) rfl, pt_tab (i := 15) (by decide +kernel) rfl⟩
theorem siX11_dependents : Cond.instanceMethod (my mX11_dependents) ∈ PT := pt_tab (i := 1693) (by decide +kernel) rfl
theorem seX11_dependents : Cond.selects (my mX11_dependents).cls (my mX11_dependents) (my mX11_dependents) ∈ PT := pt_tab (i := 1694) (by decide +kernel) rfl
def mX11_inOrder : PMe := (11, yX11_inOrder, cX11_inOrder, 5, (some .int))
theorem okX11_inOrder : okM mX11_inOrder 1 := ⟨rfl, ⟨by decide, by decide, by decide +kernel⟩, by decide, plainFor_of_name (by decide), pt_tab (i := 1699) (by decide +kernel) rfl, pt_tab (i := 15) (by decide +kernel) rfl⟩
theorem siX11_inOrder : Cond.instanceMethod (my mX11_inOrder) ∈ PT := pt_tab (i := 1697) (by decide +kernel) rfl
theorem seX11_inOrder : Cond.selects (my mX11_inOrder).cls (my mX11_inOrder) (my mX11_inOrder) ∈ PT := pt_tab (i := 1698) (by decide +kernel) rfl
def mX11_wouldRefuse : PMe := (11, yX11_wouldRefuse, cX11_wouldRefuse, 3, (some .boolean))
theorem okX11_wouldRefuse : okM mX11_wouldRefuse 2 := ⟨rfl, ⟨by decide, by decide, by decide +kernel⟩, by decide, plainFor_of_name (by decide), pt_tab (i := 1703) (by decide +kernel) rfl, pt_tab (i := 15) (by decide +kernel) rfl⟩
theorem siX11_wouldRefuse : Cond.instanceMethod (my mX11_wouldRefuse) ∈ PT := pt_tab (i := 1701) (by decide +kernel) rfl
theorem seX11_wouldRefuse : Cond.selects (my mX11_wouldRefuse).cls (my mX11_wouldRefuse) (my mX11_wouldRefuse) ∈ PT := pt_tab (i := 1702) (by decide +kernel) rfl
def mX11_exists : PMe := (11, yX11_exists, cX11_exists, 3, (some .boolean))
theorem okX11_exists : okM mX11_exists 2 := ⟨rfl, ⟨by decide, by decide, by decide +kernel⟩, by decide, plainFor_of_name (by decide), pt_tab (i := 1707) (by decide +kernel) rfl, pt_tab (i := 15) (by decide +kernel) rfl⟩
theorem siX11_exists : Cond.instanceMethod (my mX11_exists) ∈ PT := pt_tab (i := 1705) (by decide +kernel) rfl
theorem seX11_exists : Cond.selects (my mX11_exists).cls (my mX11_exists) (my mX11_exists) ∈ PT := pt_tab (i := 1706) (by decide +kernel) rfl
def mX11_revisionOf : PMe := (11, yX11_revisionOf, cX11_revisionOf, 2, (some .int))
theorem okX11_revisionOf : okM mX11_revisionOf 1 := ⟨rfl, ⟨by decide, by decide, by decide +kernel⟩, by decide, plainFor_of_name (by decide), pt_tab (i := 1715) (by decide +kernel) rfl, pt_tab (i := 15) (by decide +kernel) rfl⟩
theorem siX11_revisionOf : Cond.instanceMethod (my mX11_revisionOf) ∈ PT := pt_tab (i := 1713) (by decide +kernel) rfl
theorem seX11_revisionOf : Cond.selects (my mX11_revisionOf).cls (my mX11_revisionOf) (my mX11_revisionOf) ∈ PT := pt_tab (i := 1714) (by decide +kernel) rfl
def mX11_answers : PMe := (11, yX11_answers, cX11_answers, 4, (some .int))
theorem okX11_answers : okM mX11_answers 1 := ⟨rfl, ⟨by decide, by decide, by decide +kernel⟩, by decide, plainFor_of_name (by decide), pt_tab (i := 1719) (by decide +kernel) rfl, pt_tab (i := 15) (by decide +kernel) rfl⟩
theorem siX11_answers : Cond.instanceMethod (my mX11_answers) ∈ PT := pt_tab (i := 1717) (by decide +kernel) rfl
theorem seX11_answers : Cond.selects (my mX11_answers).cls (my mX11_answers) (my mX11_answers) ∈ PT := pt_tab (i := 1718) (by decide +kernel) rfl
def mX11_isShown : PMe := (11, yX11_isShown, cX11_isShown, 4, (some .boolean))
theorem okX11_isShown : okM mX11_isShown 3 := ⟨rfl, ⟨by decide, by decide, by decide +kernel⟩, by decide, plainFor_of_name (by decide), pt_tab (i := 1723) (by decide +kernel) rfl, pt_tab (i := 15) (by decide +kernel) rfl⟩
theorem siX11_isShown : Cond.instanceMethod (my mX11_isShown) ∈ PT := pt_tab (i := 1721) (by decide +kernel) rfl
theorem seX11_isShown : Cond.selects (my mX11_isShown).cls (my mX11_isShown) (my mX11_isShown) ∈ PT := pt_tab (i := 1722) (by decide +kernel) rfl
def mX11_inForce : PMe := (11, yX11_inForce, cX11_inForce, 4, (some .int))
theorem okX11_inForce : okM mX11_inForce 3 := ⟨rfl, ⟨by decide, by decide, by decide +kernel⟩, by decide, plainFor_of_name (by decide), pt_tab (i := 1727) (by decide +kernel) rfl, pt_tab (i := 15) (by decide +kernel) rfl⟩
theorem siX11_inForce : Cond.instanceMethod (my mX11_inForce) ∈ PT := pt_tab (i := 1725) (by decide +kernel) rfl
theorem seX11_inForce : Cond.selects (my mX11_inForce).cls (my mX11_inForce) (my mX11_inForce) ∈ PT := pt_tab (i := 1726) (by decide +kernel) rfl
def mX11_open : PMe := (11, yX11_open, cX11_open, 4, (some .int))
theorem okX11_open : okM mX11_open 1 := ⟨rfl, ⟨by decide, by decide, by decide +kernel⟩, by decide, plainFor_of_name (by decide), pt_tab (i := 1731) (by decide +kernel) rfl, pt_tab (i := 15) (by decide +kernel) rfl⟩
theorem siX11_open : Cond.instanceMethod (my mX11_open) ∈ PT := pt_tab (i := 1729) (by decide +kernel) rfl
theorem seX11_open : Cond.selects (my mX11_open).cls (my mX11_open) (my mX11_open) ∈ PT := pt_tab (i := 1730) (by decide +kernel) rfl
def mX11_completeness : PMe := (11, yX11_completeness, cX11_completeness, 5, (some .float))
theorem okX11_completeness : okM mX11_completeness 1 := ⟨rfl, ⟨by decide, by decide, by decide +kernel⟩, by decide, plainFor_of_name (by decide), pt_tab (i := 1735) (by decide +kernel) rfl, pt_tab (i := 15) (by decide +kernel) rfl⟩
theorem siX11_completeness : Cond.instanceMethod (my mX11_completeness) ∈ PT := pt_tab (i := 1733) (by decide +kernel) rfl
theorem seX11_completeness : Cond.selects (my mX11_completeness).cls (my mX11_completeness) (my mX11_completeness) ∈ PT := pt_tab (i := 1734) (by decide +kernel) rfl
def mX11_average : PMe := (11, yX11_average, cX11_average, 5, (some .float))
theorem okX11_average : okM mX11_average 1 := ⟨rfl, ⟨by decide, by decide, by decide +kernel⟩, by decide, plainFor_of_name (by decide), pt_tab (i := 1740) (by decide +kernel) rfl, pt_tab (i := 15) (by decide +kernel) rfl⟩
theorem siX11_average : Cond.instanceMethod (my mX11_average) ∈ PT := pt_tab (i := 1738) (by decide +kernel) rfl
theorem seX11_average : Cond.selects (my mX11_average).cls (my mX11_average) (my mX11_average) ∈ PT := pt_tab (i := 1739) (by decide +kernel) rfl
def mX11_tally : PMe := (11, yX11_tally, cX11_tally, 5, (some .int))
theorem okX11_tally : okM mX11_tally 2 := ⟨rfl, ⟨by decide, by decide, by decide +kernel⟩, by decide, plainFor_of_name (by decide), pt_tab (i := 1744) (by decide +kernel) rfl, pt_tab (i := 15) (by decide +kernel) rfl⟩
theorem siX11_tally : Cond.instanceMethod (my mX11_tally) ∈ PT := pt_tab (i := 1742) (by decide +kernel) rfl
theorem seX11_tally : Cond.selects (my mX11_tally).cls (my mX11_tally) (my mX11_tally) ∈ PT := pt_tab (i := 1743) (by decide +kernel) rfl
def mX11_rowAt : PMe := (11, yX11_rowAt, cX11_rowAt, 2, none)
theorem okX11_rowAt : okM mX11_rowAt 1 := ⟨rfl, ⟨by decide, by decide, by decide +kernel⟩, by decide, plainFor_of_name (by decide), pt_tab (i := 1767) (by decide +kernel) rfl, pt_tab (i := 15) (by decide +kernel) rfl⟩
theorem siX11_rowAt : Cond.instanceMethod (my mX11_rowAt) ∈ PT := pt_tab (i := 1766) (by decide +kernel) rfl
theorem seX11_rowAt : Cond.selects (my mX11_rowAt).cls (my mX11_rowAt) (my mX11_rowAt) ∈ PT := pt_sel (q := (yX11_rowAt, 49)) (i := 115) (by decide +kernel)
def mX11_stands : PMe := (11, yX11_stands, cX11_stands, 2, none)
theorem okX11_stands : okM mX11_stands 1 := ⟨rfl, ⟨by decide, by decide, by decide +kernel⟩, by decide, plainFor_of_name (by decide), pt_tab (i := 1775) (by decide +kernel) rfl, pt_tab (i := 15) (by decide +kernel) rfl⟩
theorem siX11_stands : Cond.instanceMethod (my mX11_stands) ∈ PT := pt_tab (i := 1774) (by decide +kernel) rfl
theorem seX11_stands : Cond.selects (my mX11_stands).cls (my mX11_stands) (my mX11_stands) ∈ PT := pt_sel (q := (yX11_stands, 49)) (i := 117) (by decide +kernel)
def mX11_isThere : PMe := (11, yX11_isThere, cX11_isThere, 2, (some .boolean))
theorem okX11_isThere : okM mX11_isThere 2 := ⟨rfl, ⟨by decide, by decide, by decide +kernel⟩, by decide, plainFor_of_name (by decide), pt_tab (i := 1763) (by decide +kernel) rfl, pt_tab (i := 15) (by decide +kernel) rfl⟩
theorem siX11_isThere : Cond.static (my mX11_isThere) ∈ PT := pt_tab (i := 1762) (by decide +kernel) rfl
def mX11_laysOut : PMe := (11, yX11_laysOut, cX11_laysOut, 7, none)
theorem okX11_laysOut : okM mX11_laysOut 2 := ⟨rfl, ⟨by decide, by decide, by decide +kernel⟩, by decide, plainFor_of_name (by decide), pt_tab (i := 1760) (by decide +kernel) rfl, pt_tab (i := 15) (by decide +kernel) rfl⟩
theorem siX11_laysOut : Cond.instanceMethod (my mX11_laysOut) ∈ PT := pt_tab (i := 1759) (by decide +kernel) rfl
theorem seX11_laysOut : Cond.selects (my mX11_laysOut).cls (my mX11_laysOut) (my mX11_laysOut) ∈ PT := pt_sel (q := (yX11_laysOut, 49)) (i := 114) (by decide +kernel)
def mX11_placesField : PMe := (11, yX11_placesField, cX11_placesField, 5, none)
theorem okX11_placesField : okM mX11_placesField 4 := ⟨rfl, ⟨by decide, by decide, by decide +kernel⟩, by decide, plainFor_of_name (by decide), pt_tab (i := 1771) (by decide +kernel) rfl, pt_tab (i := 15) (by decide +kernel) rfl⟩
theorem siX11_placesField : Cond.instanceMethod (my mX11_placesField) ∈ PT := pt_tab (i := 1770) (by decide +kernel) rfl
theorem seX11_placesField : Cond.selects (my mX11_placesField).cls (my mX11_placesField) (my mX11_placesField) ∈ PT := pt_sel (q := (yX11_placesField, 49)) (i := 116) (by decide +kernel)
def mX11_isLaid : PMe := (11, yX11_isLaid, cX11_isLaid, 3, (some .boolean))
theorem okX11_isLaid : okM mX11_isLaid 2 := ⟨rfl, ⟨by decide, by decide, by decide +kernel⟩, by decide, plainFor_of_name (by decide), pt_tab (i := 1752) (by decide +kernel) rfl, pt_tab (i := 15) (by decide +kernel) rfl⟩
theorem siX11_isLaid : Cond.instanceMethod (my mX11_isLaid) ∈ PT := pt_tab (i := 1751) (by decide +kernel) rfl
theorem seX11_isLaid : Cond.selects (my mX11_isLaid).cls (my mX11_isLaid) (my mX11_isLaid) ∈ PT := pt_sel (q := (yX11_isLaid, 49)) (i := 112) (by decide +kernel)
def mX11_formLaid : PMe := (11, yX11_formLaid, cX11_formLaid, 3, (some .int))
theorem okX11_formLaid : okM mX11_formLaid 2 := ⟨rfl, ⟨by decide, by decide, by decide +kernel⟩, by decide, plainFor_of_name (by decide), pt_tab (i := 1756) (by decide +kernel) rfl, pt_tab (i := 15) (by decide +kernel) rfl⟩
theorem siX11_formLaid : Cond.instanceMethod (my mX11_formLaid) ∈ PT := pt_tab (i := 1755) (by decide +kernel) rfl
theorem seX11_formLaid : Cond.selects (my mX11_formLaid).cls (my mX11_formLaid) (my mX11_formLaid) ∈ PT := pt_sel (q := (yX11_formLaid, 49)) (i := 113) (by decide +kernel)
def mX11_rows : PMe := (11, yX11_rows, cX11_rows, 3, (some .int))
theorem okX11_rows : okM mX11_rows 2 := ⟨rfl, ⟨by decide, by decide, by decide +kernel⟩, by decide, plainFor_of_name (by decide), pt_tab (i := 1748) (by decide +kernel) rfl, pt_tab (i := 15) (by decide +kernel) rfl⟩
theorem siX11_rows : Cond.instanceMethod (my mX11_rows) ∈ PT := pt_tab (i := 1746) (by decide +kernel) rfl
theorem seX11_rows : Cond.selects (my mX11_rows).cls (my mX11_rows) (my mX11_rows) ∈ PT := pt_tab (i := 1747) (by decide +kernel) rfl
def mX11_place : PMe := (11, yX11_place, cX11_place, 5, (some .int))
theorem okX11_place : okM mX11_place 4 := ⟨rfl, ⟨by decide, by decide, by decide +kernel⟩, by decide, plainFor_of_name (by decide), pt_tab (i := 1779) (by decide +kernel) rfl, pt_tab (i := 15) (by decide +kernel) rfl⟩
theorem siX11_place : Cond.instanceMethod (my mX11_place) ∈ PT := pt_tab (i := 1777) (by decide +kernel) rfl
theorem seX11_place : Cond.selects (my mX11_place).cls (my mX11_place) (my mX11_place) ∈ PT := pt_tab (i := 1778) (by decide +kernel) rfl
def mX11_pages : PMe := (11, yX11_pages, cX11_pages, 2, (some .int))
theorem okX11_pages : okM mX11_pages 1 := ⟨rfl, ⟨by decide, by decide, by decide +kernel⟩, by decide, plainFor_of_name (by decide), pt_tab (i := 1783) (by decide +kernel) rfl, pt_tab (i := 15) (by decide +kernel) rfl⟩
theorem siX11_pages : Cond.instanceMethod (my mX11_pages) ∈ PT := pt_tab (i := 1781) (by decide +kernel) rfl
theorem seX11_pages : Cond.selects (my mX11_pages).cls (my mX11_pages) (my mX11_pages) ∈ PT := pt_tab (i := 1782) (by decide +kernel) rfl
def mX11_startsOut : PMe := (11, yX11_startsOut, cX11_startsOut, 2, none)
theorem okX11_startsOut : okM mX11_startsOut 1 := ⟨rfl, ⟨by decide, by decide, by decide +kernel⟩, by decide, plainFor_of_name (by decide), pt_tab (i := 1795) (by decide +kernel) rfl, pt_tab (i := 15) (by decide +kernel) rfl⟩
theorem siX11_startsOut : Cond.instanceMethod (my mX11_startsOut) ∈ PT := pt_tab (i := 1794) (by decide +kernel) rfl
theorem seX11_startsOut : Cond.selects (my mX11_startsOut).cls (my mX11_startsOut) (my mX11_startsOut) ∈ PT := pt_sel (q := (yX11_startsOut, 49)) (i := 119) (by decide +kernel)
def mX11_says : PMe := (11, yX11_says, cX11_says, 2, none)
theorem okX11_says : okM mX11_says 1 := ⟨rfl, ⟨by decide, by decide, by decide +kernel⟩, by decide, plainFor_of_name (by decide), pt_tab (i := 1804) (by decide +kernel) rfl, pt_tab (i := 15) (by decide +kernel) rfl⟩
theorem siX11_says : Cond.instanceMethod (my mX11_says) ∈ PT := pt_tab (i := 1803) (by decide +kernel) rfl
theorem seX11_says : Cond.selects (my mX11_says).cls (my mX11_says) (my mX11_says) ∈ PT := pt_sel (q := (yX11_says, 49)) (i := 121) (by decide +kernel)
def mX11_saysWord : PMe := (11, yX11_saysWord, cX11_saysWord, 4, none)
theorem okX11_saysWord : okM mX11_saysWord 1 := ⟨rfl, ⟨by decide, by decide, by decide +kernel⟩, by decide, plainFor_of_name (by decide), pt_tab (i := 1808) (by decide +kernel) rfl, pt_tab (i := 15) (by decide +kernel) rfl⟩
theorem siX11_saysWord : Cond.instanceMethod (my mX11_saysWord) ∈ PT := pt_tab (i := 1807) (by decide +kernel) rfl
theorem seX11_saysWord : Cond.selects (my mX11_saysWord).cls (my mX11_saysWord) (my mX11_saysWord) ∈ PT := pt_sel (q := (yX11_saysWord, 49)) (i := 122) (by decide +kernel)
def mX11_saysNumber : PMe := (11, yX11_saysNumber, cX11_saysNumber, 3, none)
theorem okX11_saysNumber : okM mX11_saysNumber 1 := ⟨rfl, ⟨by decide, by decide, by decide +kernel⟩, by decide, plainFor_of_name (by decide), pt_tab (i := 1812) (by decide +kernel) rfl, pt_tab (i := 15) (by decide +kernel) rfl⟩
theorem siX11_saysNumber : Cond.instanceMethod (my mX11_saysNumber) ∈ PT := pt_tab (i := 1811) (by decide +kernel) rfl
theorem seX11_saysNumber : Cond.selects (my mX11_saysNumber).cls (my mX11_saysNumber) (my mX11_saysNumber) ∈ PT := pt_sel (q := (yX11_saysNumber, 49)) (i := 123) (by decide +kernel)
def mX11_saysNode : PMe := (11, yX11_saysNode, cX11_saysNode, 6, none)
theorem okX11_saysNode : okM mX11_saysNode 4 := ⟨rfl, ⟨by decide, by decide, by decide +kernel⟩, by decide, plainFor_of_name (by decide), pt_tab (i := 1800) (by decide +kernel) rfl, pt_tab (i := 15) (by decide +kernel) rfl⟩
theorem siX11_saysNode : Cond.instanceMethod (my mX11_saysNode) ∈ PT := pt_tab (i := 1799) (by decide +kernel) rfl
theorem seX11_saysNode : Cond.selects (my mX11_saysNode).cls (my mX11_saysNode) (my mX11_saysNode) ∈ PT := pt_sel (q := (yX11_saysNode, 49)) (i := 120) (by decide +kernel)
def mX11_saysLayout : PMe := (11, yX11_saysLayout, cX11_saysLayout, 7, none)
theorem okX11_saysLayout : okM mX11_saysLayout 3 := ⟨rfl, ⟨by decide, by decide, by decide +kernel⟩, by decide, plainFor_of_name (by decide), pt_tab (i := 1791) (by decide +kernel) rfl, pt_tab (i := 15) (by decide +kernel) rfl⟩
theorem siX11_saysLayout : Cond.instanceMethod (my mX11_saysLayout) ∈ PT := pt_tab (i := 1790) (by decide +kernel) rfl
theorem seX11_saysLayout : Cond.selects (my mX11_saysLayout).cls (my mX11_saysLayout) (my mX11_saysLayout) ∈ PT := pt_sel (q := (yX11_saysLayout, 49)) (i := 118) (by decide +kernel)
def mX11_textLength : PMe := (11, yX11_textLength, cX11_textLength, 3, (some .int))
theorem okX11_textLength : okM mX11_textLength 2 := ⟨rfl, ⟨by decide, by decide, by decide +kernel⟩, by decide, plainFor_of_name (by decide), pt_tab (i := 1787) (by decide +kernel) rfl, pt_tab (i := 15) (by decide +kernel) rfl⟩
theorem siX11_textLength : Cond.instanceMethod (my mX11_textLength) ∈ PT := pt_tab (i := 1785) (by decide +kernel) rfl
theorem seX11_textLength : Cond.selects (my mX11_textLength).cls (my mX11_textLength) (my mX11_textLength) ∈ PT := pt_tab (i := 1786) (by decide +kernel) rfl
def mX11_textByte : PMe := (11, yX11_textByte, cX11_textByte, 4, (some .int))
theorem okX11_textByte : okM mX11_textByte 3 := ⟨rfl, ⟨by decide, by decide, by decide +kernel⟩, by decide, plainFor_of_name (by decide), pt_tab (i := 1816) (by decide +kernel) rfl, pt_tab (i := 15) (by decide +kernel) rfl⟩
theorem siX11_textByte : Cond.instanceMethod (my mX11_textByte) ∈ PT := pt_tab (i := 1814) (by decide +kernel) rfl
theorem seX11_textByte : Cond.selects (my mX11_textByte).cls (my mX11_textByte) (my mX11_textByte) ∈ PT := pt_tab (i := 1815) (by decide +kernel) rfl
def mX11_plans : PMe := (11, yX11_plans, cX11_plans, 3, none)
theorem okX11_plans : okM mX11_plans 2 := ⟨rfl, ⟨by decide, by decide, by decide +kernel⟩, by decide, plainFor_of_name (by decide), pt_tab (i := 1844) (by decide +kernel) rfl, pt_tab (i := 15) (by decide +kernel) rfl⟩
theorem siX11_plans : Cond.instanceMethod (my mX11_plans) ∈ PT := pt_tab (i := 1843) (by decide +kernel) rfl
theorem seX11_plans : Cond.selects (my mX11_plans).cls (my mX11_plans) (my mX11_plans) ∈ PT := pt_sel (q := (yX11_plans, 49)) (i := 129) (by decide +kernel)
def mX11_saysCondition : PMe := (11, yX11_saysCondition, cX11_saysCondition, 6, none)
theorem okX11_saysCondition : okM mX11_saysCondition 1 := ⟨rfl, ⟨by decide, by decide, by decide +kernel⟩, by decide, plainFor_of_name (by decide), pt_tab (i := 1840) (by decide +kernel) rfl, pt_tab (i := 15) (by decide +kernel) rfl⟩
theorem siX11_saysCondition : Cond.instanceMethod (my mX11_saysCondition) ∈ PT := pt_tab (i := 1839) (by decide +kernel) rfl
theorem seX11_saysCondition : Cond.selects (my mX11_saysCondition).cls (my mX11_saysCondition) (my mX11_saysCondition) ∈ PT := pt_sel (q := (yX11_saysCondition, 49)) (i := 128) (by decide +kernel)
def mX11_saysPart : PMe := (11, yX11_saysPart, cX11_saysPart, 7, none)
theorem okX11_saysPart : okM mX11_saysPart 3 := ⟨rfl, ⟨by decide, by decide, by decide +kernel⟩, by decide, plainFor_of_name (by decide), pt_tab (i := 1848) (by decide +kernel) rfl, pt_tab (i := 15) (by decide +kernel) rfl⟩
theorem siX11_saysPart : Cond.instanceMethod (my mX11_saysPart) ∈ PT := pt_tab (i := 1847) (by decide +kernel) rfl
theorem seX11_saysPart : Cond.selects (my mX11_saysPart).cls (my mX11_saysPart) (my mX11_saysPart) ∈ PT := pt_sel (q := (yX11_saysPart, 49)) (i := 130) (by decide +kernel)
def mX11_saysTest : PMe := (11, yX11_saysTest, cX11_saysTest, 3, none)
theorem okX11_saysTest : okM mX11_saysTest 1 := ⟨rfl, ⟨by decide, by decide, by decide +kernel⟩, by decide, plainFor_of_name (by decide), pt_tab (i := 1852) (by decide +kernel) rfl, pt_tab (i := 15) (by decide +kernel) rfl⟩
theorem siX11_saysTest : Cond.instanceMethod (my mX11_saysTest) ∈ PT := pt_tab (i := 1851) (by decide +kernel) rfl
theorem seX11_saysTest : Cond.selects (my mX11_saysTest).cls (my mX11_saysTest) (my mX11_saysTest) ∈ PT := pt_sel (q := (yX11_saysTest, 49)) (i := 131) (by decide +kernel)
def mX11_saysBoth : PMe := (11, yX11_saysBoth, cX11_saysBoth, 4, none)
theorem okX11_saysBoth : okM mX11_saysBoth 2 := ⟨rfl, ⟨by decide, by decide, by decide +kernel⟩, by decide, plainFor_of_name (by decide), pt_tab (i := 1828) (by decide +kernel) rfl, pt_tab (i := 15) (by decide +kernel) rfl⟩
theorem siX11_saysBoth : Cond.instanceMethod (my mX11_saysBoth) ∈ PT := pt_tab (i := 1827) (by decide +kernel) rfl
theorem seX11_saysBoth : Cond.selects (my mX11_saysBoth).cls (my mX11_saysBoth) (my mX11_saysBoth) ∈ PT := pt_sel (q := (yX11_saysBoth, 49)) (i := 125) (by decide +kernel)
def mX11_saysIf : PMe := (11, yX11_saysIf, cX11_saysIf, 2, none)
theorem okX11_saysIf : okM mX11_saysIf 1 := ⟨rfl, ⟨by decide, by decide, by decide +kernel⟩, by decide, plainFor_of_name (by decide), pt_tab (i := 1836) (by decide +kernel) rfl, pt_tab (i := 15) (by decide +kernel) rfl⟩
theorem siX11_saysIf : Cond.instanceMethod (my mX11_saysIf) ∈ PT := pt_tab (i := 1835) (by decide +kernel) rfl
theorem seX11_saysIf : Cond.selects (my mX11_saysIf).cls (my mX11_saysIf) (my mX11_saysIf) ∈ PT := pt_sel (q := (yX11_saysIf, 49)) (i := 127) (by decide +kernel)
def mX11_saysField : PMe := (11, yX11_saysField, cX11_saysField, 3, none)
theorem okX11_saysField : okM mX11_saysField 1 := ⟨rfl, ⟨by decide, by decide, by decide +kernel⟩, by decide, plainFor_of_name (by decide), pt_tab (i := 1832) (by decide +kernel) rfl, pt_tab (i := 15) (by decide +kernel) rfl⟩
theorem siX11_saysField : Cond.instanceMethod (my mX11_saysField) ∈ PT := pt_tab (i := 1831) (by decide +kernel) rfl
theorem seX11_saysField : Cond.selects (my mX11_saysField).cls (my mX11_saysField) (my mX11_saysField) ∈ PT := pt_sel (q := (yX11_saysField, 49)) (i := 126) (by decide +kernel)
def mX11_saysSetup : PMe := (11, yX11_saysSetup, cX11_saysSetup, 5, none)
theorem okX11_saysSetup : okM mX11_saysSetup 1 := ⟨rfl, ⟨by decide, by decide, by decide +kernel⟩, by decide, plainFor_of_name (by decide), pt_tab (i := 1824) (by decide +kernel) rfl, pt_tab (i := 15) (by decide +kernel) rfl⟩
theorem siX11_saysSetup : Cond.instanceMethod (my mX11_saysSetup) ∈ PT := pt_tab (i := 1823) (by decide +kernel) rfl
theorem seX11_saysSetup : Cond.selects (my mX11_saysSetup).cls (my mX11_saysSetup) (my mX11_saysSetup) ∈ PT := pt_sel (q := (yX11_saysSetup, 49)) (i := 124) (by decide +kernel)
def mX11_setupLength : PMe := (11, yX11_setupLength, cX11_setupLength, 1, (some .int))
theorem okX11_setupLength : okM mX11_setupLength 0 := ⟨rfl, ⟨by decide, by decide, by decide +kernel⟩, by decide, plainFor_of_name (by decide), pt_tab (i := 1820) (by decide +kernel) rfl, pt_tab (i := 15) (by decide +kernel) rfl⟩
theorem siX11_setupLength : Cond.instanceMethod (my mX11_setupLength) ∈ PT := pt_tab (i := 1818) (by decide +kernel) rfl
theorem seX11_setupLength : Cond.selects (my mX11_setupLength).cls (my mX11_setupLength) (my mX11_setupLength) ∈ PT := pt_tab (i := 1819) (by decide +kernel) rfl
def mX11_setupByte : PMe := (11, yX11_setupByte, cX11_setupByte, 2, (some .int))
theorem okX11_setupByte : okM mX11_setupByte 1 := ⟨rfl, ⟨by decide, by decide, by decide +kernel⟩, by decide, plainFor_of_name (by decide), pt_tab (i := 1856) (by decide +kernel) rfl, pt_tab (i := 15) (by decide +kernel) rfl⟩
theorem siX11_setupByte : Cond.instanceMethod (my mX11_setupByte) ∈ PT := pt_tab (i := 1854) (by decide +kernel) rfl
theorem seX11_setupByte : Cond.selects (my mX11_setupByte).cls (my mX11_setupByte) (my mX11_setupByte) ∈ PT := pt_tab (i := 1855) (by decide +kernel) rfl
def mX11_tapeLength : PMe := (11, yX11_tapeLength, cX11_tapeLength, 1, (some .int))
theorem okX11_tapeLength : okM mX11_tapeLength 0 := ⟨rfl, ⟨by decide, by decide, by decide +kernel⟩, by decide, plainFor_of_name (by decide), pt_tab (i := 1860) (by decide +kernel) rfl, pt_tab (i := 15) (by decide +kernel) rfl⟩
theorem siX11_tapeLength : Cond.instanceMethod (my mX11_tapeLength) ∈ PT := pt_tab (i := 1858) (by decide +kernel) rfl
theorem seX11_tapeLength : Cond.selects (my mX11_tapeLength).cls (my mX11_tapeLength) (my mX11_tapeLength) ∈ PT := pt_tab (i := 1859) (by decide +kernel) rfl
def mJ6_bitCount_0f7a4 : PMe := (13, yJ6_bitCount_0f7a4, cJ6_bitCount_0f7a4, 1, (some .int))
theorem okJ6_bitCount_0f7a4 : okM mJ6_bitCount_0f7a4 1 := ⟨rfl, ⟨by decide, by decide, by decide +kernel⟩, by decide, plainFor_of_name (by decide), pt_tab (i := 778) (by decide +kernel) rfl, pt_tab (i := 18) (by decide +kernel) rfl⟩
theorem siJ6_bitCount_0f7a4 : Cond.static (my mJ6_bitCount_0f7a4) ∈ PT := pt_tab (i := 777) (by decide +kernel) rfl
def mJ9_floorMod_7cf53 : PMe := (14, yJ9_floorMod_7cf53, cJ9_floorMod_7cf53, 3, (some .int))
theorem okJ9_floorMod_7cf53 : okM mJ9_floorMod_7cf53 2 := ⟨rfl, ⟨by decide, by decide, by decide +kernel⟩, by decide, (by decide +kernel), pt_tab (i := 720) (by decide +kernel) rfl, pt_tab (i := 17) (by decide +kernel) rfl⟩
theorem siJ9_floorMod_7cf53 : Cond.static (my mJ9_floorMod_7cf53) ∈ PT := pt_tab (i := 719) (by decide +kernel) rfl
def mJ9_min_7cf53 : PMe := (14, yJ9_min_7cf53, cJ9_min_7cf53, 2, (some .int))
theorem okJ9_min_7cf53 : okM mJ9_min_7cf53 2 := ⟨rfl, ⟨by decide, by decide, by decide +kernel⟩, by decide, (by decide +kernel), pt_tab (i := 723) (by decide +kernel) rfl, pt_tab (i := 17) (by decide +kernel) rfl⟩
theorem siJ9_min_7cf53 : Cond.static (my mJ9_min_7cf53) ∈ PT := pt_tab (i := 722) (by decide +kernel) rfl
def mJ0_length_8abf5 : PMe := (15, yJ0_length_8abf5, cJ0_length_8abf5, 1, (some .int))
theorem okJ0_length_8abf5 : okM mJ0_length_8abf5 0 := ⟨rfl, ⟨by decide, by decide, by decide +kernel⟩, by decide, plainFor_of_name (by decide), pt_tab (i := 229) (by decide +kernel) rfl, pt_tab (i := 8) (by decide +kernel) rfl⟩
theorem siJ0_length_8abf5 : Cond.instanceMethod (my mJ0_length_8abf5) ∈ PT := pt_tab (i := 227) (by decide +kernel) rfl
theorem seJ0_length_8abf5 : Cond.selects (my mJ0_length_8abf5).cls (my mJ0_length_8abf5) (my mJ0_length_8abf5) ∈ PT := pt_tab (i := 228) (by decide +kernel) rfl
def mJ0_charAt_5068e : PMe := (15, yJ0_charAt_5068e, cJ0_charAt_5068e, 2, (some .char))
theorem okJ0_charAt_5068e : okM mJ0_charAt_5068e 1 := ⟨rfl, ⟨by decide, by decide, by decide +kernel⟩, by decide, plainFor_of_name (by decide), pt_tab (i := 239) (by decide +kernel) rfl, pt_tab (i := 8) (by decide +kernel) rfl⟩
theorem siJ0_charAt_5068e : Cond.instanceMethod (my mJ0_charAt_5068e) ∈ PT := pt_tab (i := 237) (by decide +kernel) rfl
theorem seJ0_charAt_5068e : Cond.selects (my mJ0_charAt_5068e).cls (my mJ0_charAt_5068e) (my mJ0_charAt_5068e) ∈ PT := pt_tab (i := 238) (by decide +kernel) rfl
def mJ0_coder_7d493 : PMe := (15, yJ0_coder_7d493, cJ0_coder_7d493, 1, (some .byte))
theorem okJ0_coder_7d493 : okM mJ0_coder_7d493 0 := ⟨rfl, ⟨by decide, by decide, by decide +kernel⟩, by decide, plainFor_of_name (by decide), pt_tab (i := 233) (by decide +kernel) rfl, pt_tab (i := 8) (by decide +kernel) rfl⟩
theorem siJ0_coder_7d493 : Cond.instanceMethod (my mJ0_coder_7d493) ∈ PT := pt_tab (i := 231) (by decide +kernel) rfl
theorem seJ0_coder_7d493 : Cond.selects (my mJ0_coder_7d493).cls (my mJ0_coder_7d493) (my mJ0_coder_7d493) ∈ PT := pt_tab (i := 232) (by decide +kernel) rfl
def mJ0_isLatin1_aae02 : PMe := (15, yJ0_isLatin1_aae02, cJ0_isLatin1_aae02, 1, (some .boolean))
theorem okJ0_isLatin1_aae02 : okM mJ0_isLatin1_aae02 0 := ⟨rfl, ⟨by decide, by decide, by decide +kernel⟩, by decide, plainFor_of_name (by decide), pt_tab (i := 243) (by decide +kernel) rfl, pt_tab (i := 8) (by decide +kernel) rfl⟩
theorem siJ0_isLatin1_aae02 : Cond.instanceMethod (my mJ0_isLatin1_aae02) ∈ PT := pt_tab (i := 241) (by decide +kernel) rfl
theorem seJ0_isLatin1_aae02 : Cond.selects (my mJ0_isLatin1_aae02).cls (my mJ0_isLatin1_aae02) (my mJ0_isLatin1_aae02) ∈ PT := pt_tab (i := 242) (by decide +kernel) rfl
def mJ0_checkIndex_df160 : PMe := (15, yJ0_checkIndex_df160, cJ0_checkIndex_df160, 2, none)
theorem okJ0_checkIndex_df160 : okM mJ0_checkIndex_df160 2 := ⟨rfl, ⟨by decide, by decide, by decide +kernel⟩, by decide, plainFor_of_name (by decide), pt_tab (i := 249) (by decide +kernel) rfl, pt_tab (i := 8) (by decide +kernel) rfl⟩
theorem siJ0_checkIndex_df160 : Cond.static (my mJ0_checkIndex_df160) ∈ PT := pt_tab (i := 248) (by decide +kernel) rfl
def mJ1_charAt_3b067 : PMe := (16, yJ1_charAt_3b067, cJ1_charAt_3b067, 2, (some .char))
theorem okJ1_charAt_3b067 : okM mJ1_charAt_3b067 2 := ⟨rfl, ⟨by decide, by decide, by decide +kernel⟩, by decide, plainFor_of_name (by decide), pt_tab (i := 246) (by decide +kernel) rfl, pt_tab (i := 9) (by decide +kernel) rfl⟩
theorem siJ1_charAt_3b067 : Cond.static (my mJ1_charAt_3b067) ∈ PT := pt_tab (i := 245) (by decide +kernel) rfl
def mJ3_checkIndex_8e157 : PMe := (17, yJ3_checkIndex_8e157, cJ3_checkIndex_8e157, 3, (some .int))
theorem okJ3_checkIndex_8e157 : okM mJ3_checkIndex_8e157 3 := ⟨rfl, ⟨by decide, by decide, by decide +kernel⟩, by decide, plainFor_of_name (by decide), pt_tab (i := 254) (by decide +kernel) rfl, pt_tab (i := 10) (by decide +kernel) rfl⟩
theorem siJ3_checkIndex_8e157 : Cond.static (my mJ3_checkIndex_8e157) ∈ PT := pt_tab (i := 253) (by decide +kernel) rfl
theorem lk12_9 : Cond.methodLink (cnm 12) 9 (my mX10_init) ∈ PT := pt_tab (i := 21) (by decide +kernel) rfl
theorem lk10_1 : Cond.methodLink (cnm 10) 1 objectInit ∈ PT := pt_tab (i := 24) (by decide +kernel) rfl
theorem lk10_19 : Cond.methodLink (cnm 10) 19 (my mX5_init) ∈ PT := pt_tab (i := 29) (by decide +kernel) rfl
theorem lk5_3 : Cond.methodLink (cnm 5) 3 objectInit ∈ PT := pt_tab (i := 32) (by decide +kernel) rfl
theorem lk5_11 : Cond.methodLink (cnm 5) 11 (my mX0_init) ∈ PT := pt_tab (i := 35) (by decide +kernel) rfl
theorem lk0_3 : Cond.methodLink (cnm 0) 3 objectInit ∈ PT := pt_tab (i := 38) (by decide +kernel) rfl
theorem lk2_3 : Cond.methodLink (cnm 2) 3 objectInit ∈ PT := pt_tab (i := 45) (by decide +kernel) rfl
theorem lk4_3 : Cond.methodLink (cnm 4) 3 objectInit ∈ PT := pt_tab (i := 166) (by decide +kernel) rfl
theorem lk3_3 : Cond.methodLink (cnm 3) 3 objectInit ∈ PT := pt_tab (i := 200) (by decide +kernel) rfl
theorem lk3_17 : Cond.methodLink (cnm 3) 17 (my mX0_init) ∈ PT := pt_tab (i := 202) (by decide +kernel) rfl
theorem lk3_24 : Cond.methodLink (cnm 3) 24 (my mX7_init) ∈ PT := pt_tab (i := 205) (by decide +kernel) rfl
theorem lk7_3 : Cond.methodLink (cnm 7) 3 objectInit ∈ PT := pt_tab (i := 208) (by decide +kernel) rfl
theorem lk7_32 : Cond.methodLink (cnm 7) 32 (my mX7_packed) ∈ PT := pt_tab (i := 223) (by decide +kernel) rfl
theorem lk7_97 : Cond.methodLink (cnm 7) 97 (my mJ0_length_8abf5) ∈ PT := pt_tab (i := 226) (by decide +kernel) rfl
theorem lk15_335 : Cond.methodLink (cnm 15) 335 (my mJ0_coder_7d493) ∈ PT := pt_tab (i := 230) (by decide +kernel) rfl
theorem lk7_102 : Cond.methodLink (cnm 7) 102 (my mJ0_charAt_5068e) ∈ PT := pt_tab (i := 236) (by decide +kernel) rfl
theorem lk15_492 : Cond.methodLink (cnm 15) 492 (my mJ0_isLatin1_aae02) ∈ PT := pt_tab (i := 240) (by decide +kernel) rfl
theorem lk15_495 : Cond.methodLink (cnm 15) 495 (my mJ1_charAt_3b067) ∈ PT := pt_tab (i := 244) (by decide +kernel) rfl
theorem lk16_9 : Cond.methodLink (cnm 16) 9 (my mJ0_checkIndex_df160) ∈ PT := pt_tab (i := 247) (by decide +kernel) rfl
theorem lk15_1059 : Cond.methodLink (cnm 15) 1059 (my mJ3_checkIndex_8e157) ∈ PT := pt_tab (i := 252) (by decide +kernel) rfl
theorem lk8_3 : Cond.methodLink (cnm 8) 3 objectInit ∈ PT := pt_tab (i := 349) (by decide +kernel) rfl
theorem lk1_3 : Cond.methodLink (cnm 1) 3 objectInit ∈ PT := pt_tab (i := 367) (by decide +kernel) rfl
theorem lk9_3 : Cond.methodLink (cnm 9) 3 objectInit ∈ PT := pt_tab (i := 394) (by decide +kernel) rfl
theorem lk10_69 : Cond.methodLink (cnm 10) 69 (my mX0_init) ∈ PT := pt_tab (i := 410) (by decide +kernel) rfl
theorem lk12_13 : Cond.methodLink (cnm 12) 13 (my mX10_append) ∈ PT := pt_tab (i := 451) (by decide +kernel) rfl
theorem lk10_73 : Cond.methodLink (cnm 10) 73 (my mX10_putWord) ∈ PT := pt_tab (i := 455) (by decide +kernel) rfl
theorem lk12_18 : Cond.methodLink (cnm 12) 18 (my mX10_truncate) ∈ PT := pt_tab (i := 459) (by decide +kernel) rfl
theorem lk12_23 : Cond.methodLink (cnm 12) 23 (my mX10_load) ∈ PT := pt_tab (i := 463) (by decide +kernel) rfl
theorem lk10_77 : Cond.methodLink (cnm 10) 77 (my mX3_start) ∈ PT := pt_tab (i := 467) (by decide +kernel) rfl
theorem lk3_50 : Cond.methodLink (cnm 3) 50 (my mX7_read) ∈ PT := pt_tab (i := 471) (by decide +kernel) rfl
theorem lk7_43 : Cond.methodLink (cnm 7) 43 (my mX7_sortOf) ∈ PT := pt_tab (i := 475) (by decide +kernel) rfl
theorem lk7_47 : Cond.methodLink (cnm 7) 47 (my mX7_beginToken) ∈ PT := pt_tab (i := 478) (by decide +kernel) rfl
theorem lk7_51 : Cond.methodLink (cnm 7) 51 (my mX7_extend) ∈ PT := pt_tab (i := 482) (by decide +kernel) rfl
theorem lk7_55 : Cond.methodLink (cnm 7) 55 (my mX7_kindOf) ∈ PT := pt_tab (i := 487) (by decide +kernel) rfl
theorem lk7_77 : Cond.methodLink (cnm 7) 77 (my mX7_wordOf) ∈ PT := pt_tab (i := 491) (by decide +kernel) rfl
theorem lk7_62 : Cond.methodLink (cnm 7) 62 (my mX7_step) ∈ PT := pt_tab (i := 503) (by decide +kernel) rfl
theorem lk10_81 : Cond.methodLink (cnm 10) 81 (my mX3_readHead) ∈ PT := pt_tab (i := 507) (by decide +kernel) rfl
theorem lk3_60 : Cond.methodLink (cnm 3) 60 (my mX0_clear) ∈ PT := pt_tab (i := 511) (by decide +kernel) rfl
theorem lk0_44 : Cond.methodLink (cnm 0) 44 (my mX2_clear) ∈ PT := pt_tab (i := 515) (by decide +kernel) rfl
theorem lk3_63 : Cond.methodLink (cnm 3) 63 (my mX3_take) ∈ PT := pt_tab (i := 519) (by decide +kernel) rfl
theorem lk3_102 : Cond.methodLink (cnm 3) 102 (my mX3_fail) ∈ PT := pt_tab (i := 523) (by decide +kernel) rfl
theorem lk3_99 : Cond.methodLink (cnm 3) 99 (my mX7_step) ∈ PT := pt_tab (i := 527) (by decide +kernel) rfl
theorem lk3_67 : Cond.methodLink (cnm 3) 67 (my mX3_takeInt) ∈ PT := pt_tab (i := 528) (by decide +kernel) rfl
theorem lk10_85 : Cond.methodLink (cnm 10) 85 (my mX3_readNodes) ∈ PT := pt_tab (i := 532) (by decide +kernel) rfl
theorem lk3_83 : Cond.methodLink (cnm 3) 83 (my mX3_groupHead) ∈ PT := pt_tab (i := 536) (by decide +kernel) rfl
theorem lk3_142 : Cond.methodLink (cnm 3) 142 (my mX0_levelOf) ∈ PT := pt_tab (i := 540) (by decide +kernel) rfl
theorem lk0_59 : Cond.methodLink (cnm 0) 59 (my mX0_findGroup) ∈ PT := pt_tab (i := 544) (by decide +kernel) rfl
theorem lk3_145 : Cond.methodLink (cnm 3) 145 (my mX3_takeNewName) ∈ PT := pt_tab (i := 548) (by decide +kernel) rfl
theorem lk3_117 : Cond.methodLink (cnm 3) 117 (my mX0_findName) ∈ PT := pt_tab (i := 552) (by decide +kernel) rfl
theorem lk0_55 : Cond.methodLink (cnm 0) 55 (my mX0_find) ∈ PT := pt_tab (i := 556) (by decide +kernel) rfl
theorem lk3_149 : Cond.methodLink (cnm 3) 149 (my mX0_add) ∈ PT := pt_tab (i := 560) (by decide +kernel) rfl
theorem lk0_83 : Cond.methodLink (cnm 0) 83 (my mX0_endOf) ∈ PT := pt_tab (i := 564) (by decide +kernel) rfl
theorem lk0_77 : Cond.methodLink (cnm 0) 77 (my mX0_levelOf) ∈ PT := pt_tab (i := 568) (by decide +kernel) rfl
theorem lk0_80 : Cond.methodLink (cnm 0) 80 (my mX0_placeOf) ∈ PT := pt_tab (i := 569) (by decide +kernel) rfl
theorem lk0_70 : Cond.methodLink (cnm 0) 70 (my mX0_at) ∈ PT := pt_tab (i := 573) (by decide +kernel) rfl
theorem lk0_90 : Cond.methodLink (cnm 0) 90 (my mX0_put) ∈ PT := pt_tab (i := 577) (by decide +kernel) rfl
theorem lk3_114 : Cond.methodLink (cnm 3) 114 (my mX3_condition) ∈ PT := pt_tab (i := 581) (by decide +kernel) rfl
theorem lk3_172 : Cond.methodLink (cnm 3) 172 (my mX3_disjunction) ∈ PT := pt_tab (i := 585) (by decide +kernel) rfl
theorem lk3_176 : Cond.methodLink (cnm 3) 176 (my mX3_conjunction) ∈ PT := pt_tab (i := 589) (by decide +kernel) rfl
theorem lk3_188 : Cond.methodLink (cnm 3) 188 (my mX3_test) ∈ PT := pt_tab (i := 593) (by decide +kernel) rfl
theorem lk3_191 : Cond.methodLink (cnm 3) 191 (my mX3_nameTest) ∈ PT := pt_tab (i := 597) (by decide +kernel) rfl
theorem lk3_179 : Cond.methodLink (cnm 3) 179 (my mX6_init) ∈ PT := pt_tab (i := 602) (by decide +kernel) rfl
theorem lk6_3 : Cond.methodLink (cnm 6) 3 objectInit ∈ PT := pt_tab (i := 605) (by decide +kernel) rfl
theorem lk3_195 : Cond.methodLink (cnm 3) 195 (my mX3_negation) ∈ PT := pt_tab (i := 638) (by decide +kernel) rfl
theorem lk3_87 : Cond.methodLink (cnm 3) 87 (my mX3_field) ∈ PT := pt_tab (i := 642) (by decide +kernel) rfl
theorem lk3_160 : Cond.methodLink (cnm 3) 160 (my mX3_takeHighest) ∈ PT := pt_tab (i := 646) (by decide +kernel) rfl
theorem lk3_90 : Cond.methodLink (cnm 3) 90 (my mX0_findGroup) ∈ PT := pt_tab (i := 650) (by decide +kernel) rfl
theorem lk10_89 : Cond.methodLink (cnm 10) 89 (my mX3_settle) ∈ PT := pt_tab (i := 651) (by decide +kernel) rfl
theorem lk3_120 : Cond.methodLink (cnm 3) 120 (my mX0_findField) ∈ PT := pt_tab (i := 655) (by decide +kernel) rfl
theorem lk3_125 : Cond.methodLink (cnm 3) 125 (my mX0_find) ∈ PT := pt_tab (i := 659) (by decide +kernel) rfl
theorem lk3_128 : Cond.methodLink (cnm 3) 128 (my mX0_refuses) ∈ PT := pt_tab (i := 660) (by decide +kernel) rfl
theorem lk0_119 : Cond.methodLink (cnm 0) 119 (my mX0_allNeeds) ∈ PT := pt_tab (i := 664) (by decide +kernel) rfl
theorem lk0_113 : Cond.methodLink (cnm 0) 113 (my mX0_needs) ∈ PT := pt_tab (i := 668) (by decide +kernel) rfl
theorem lk0_107 : Cond.methodLink (cnm 0) 107 (my mX0_findField) ∈ PT := pt_tab (i := 672) (by decide +kernel) rfl
theorem lk0_123 : Cond.methodLink (cnm 0) 123 (my mX0_fieldsOf) ∈ PT := pt_tab (i := 677) (by decide +kernel) rfl
theorem lk0_86 : Cond.methodLink (cnm 0) 86 (my mX0_isAround) ∈ PT := pt_tab (i := 681) (by decide +kernel) rfl
theorem lk10_92 : Cond.methodLink (cnm 10) 92 (my mX10_endText) ∈ PT := pt_tab (i := 685) (by decide +kernel) rfl
theorem lk10_98 : Cond.methodLink (cnm 10) 98 (my mX0_copyFrom) ∈ PT := pt_tab (i := 689) (by decide +kernel) rfl
theorem lk0_47 : Cond.methodLink (cnm 0) 47 (my mX2_copyFrom) ∈ PT := pt_tab (i := 693) (by decide +kernel) rfl
theorem lk12_28 : Cond.methodLink (cnm 12) 28 (my mX10_insert) ∈ PT := pt_tab (i := 697) (by decide +kernel) rfl
theorem lk10_114 : Cond.methodLink (cnm 10) 114 (my mX0_takesGroup) ∈ PT := pt_tab (i := 701) (by decide +kernel) rfl
theorem lk10_120 : Cond.methodLink (cnm 10) 120 (my mX10_remember) ∈ PT := pt_tab (i := 705) (by decide +kernel) rfl
theorem lk10_259 : Cond.methodLink (cnm 10) 259 (my mX5_copyFrom) ∈ PT := pt_tab (i := 709) (by decide +kernel) rfl
theorem lk5_25 : Cond.methodLink (cnm 5) 25 (my mX0_copyFrom) ∈ PT := pt_tab (i := 713) (by decide +kernel) rfl
theorem lk5_36 : Cond.methodLink (cnm 5) 36 (my mX4_copyFrom) ∈ PT := pt_tab (i := 714) (by decide +kernel) rfl
theorem lk10_253 : Cond.methodLink (cnm 10) 253 (my mJ9_floorMod_7cf53) ∈ PT := pt_tab (i := 718) (by decide +kernel) rfl
theorem lk10_348 : Cond.methodLink (cnm 10) 348 (my mJ9_min_7cf53) ∈ PT := pt_tab (i := 721) (by decide +kernel) rfl
theorem lk12_32 : Cond.methodLink (cnm 12) 32 (my mX10_setCondition) ∈ PT := pt_tab (i := 724) (by decide +kernel) rfl
theorem lk10_123 : Cond.methodLink (cnm 10) 123 (my mX0_find) ∈ PT := pt_tab (i := 728) (by decide +kernel) rfl
theorem lk10_127 : Cond.methodLink (cnm 10) 127 (my mX3_readCondition) ∈ PT := pt_tab (i := 729) (by decide +kernel) rfl
theorem lk12_36 : Cond.methodLink (cnm 12) 36 (my mX10_errorPosition) ∈ PT := pt_tab (i := 733) (by decide +kernel) rfl
theorem lk12_40 : Cond.methodLink (cnm 12) 40 (my mX10_rename) ∈ PT := pt_tab (i := 737) (by decide +kernel) rfl
theorem lk10_136 : Cond.methodLink (cnm 10) 136 (my mX10_nameOf) ∈ PT := pt_tab (i := 741) (by decide +kernel) rfl
theorem lk10_140 : Cond.methodLink (cnm 10) 140 (my mX3_isKeyword) ∈ PT := pt_tab (i := 745) (by decide +kernel) rfl
theorem lk3_46 : Cond.methodLink (cnm 3) 46 (my mX7_wordOf) ∈ PT := pt_tab (i := 749) (by decide +kernel) rfl
theorem lk10_144 : Cond.methodLink (cnm 10) 144 (my mX0_findName) ∈ PT := pt_tab (i := 750) (by decide +kernel) rfl
theorem lk12_45 : Cond.methodLink (cnm 12) 45 (my mX10_remove) ∈ PT := pt_tab (i := 751) (by decide +kernel) rfl
theorem lk10_152 : Cond.methodLink (cnm 10) 152 (my mX0_fieldsOf) ∈ PT := pt_tab (i := 755) (by decide +kernel) rfl
theorem lk10_156 : Cond.methodLink (cnm 10) 156 (my mX0_isNeededOutside) ∈ PT := pt_tab (i := 756) (by decide +kernel) rfl
theorem lk10_160 : Cond.methodLink (cnm 10) 160 (my mX0_takeAway) ∈ PT := pt_tab (i := 760) (by decide +kernel) rfl
theorem lk0_94 : Cond.methodLink (cnm 0) 94 (my mX0_hold) ∈ PT := pt_tab (i := 764) (by decide +kernel) rfl
theorem lk0_97 : Cond.methodLink (cnm 0) 97 (my mX0_cut) ∈ PT := pt_tab (i := 768) (by decide +kernel) rfl
theorem lk0_100 : Cond.methodLink (cnm 0) 100 (my mX0_heldAt) ∈ PT := pt_tab (i := 772) (by decide +kernel) rfl
theorem lk10_163 : Cond.methodLink (cnm 10) 163 (my mJ6_bitCount_0f7a4) ∈ PT := pt_tab (i := 776) (by decide +kernel) rfl
theorem lk12_49 : Cond.methodLink (cnm 12) 49 (my mX10_move) ∈ PT := pt_tab (i := 782) (by decide +kernel) rfl
theorem lk10_168 : Cond.methodLink (cnm 10) 168 (my mX0_isAround) ∈ PT := pt_tab (i := 786) (by decide +kernel) rfl
theorem lk10_171 : Cond.methodLink (cnm 10) 171 (my mX0_listSize) ∈ PT := pt_tab (i := 787) (by decide +kernel) rfl
theorem lk10_177 : Cond.methodLink (cnm 10) 177 (my mX0_indexOf) ∈ PT := pt_tab (i := 791) (by decide +kernel) rfl
theorem lk10_180 : Cond.methodLink (cnm 10) 180 (my mX0_transfer) ∈ PT := pt_tab (i := 795) (by decide +kernel) rfl
theorem lk0_103 : Cond.methodLink (cnm 0) 103 (my mX0_placeFor) ∈ PT := pt_tab (i := 799) (by decide +kernel) rfl
theorem lk10_184 : Cond.methodLink (cnm 10) 184 (my mX0_isTooDeep) ∈ PT := pt_tab (i := 803) (by decide +kernel) rfl
theorem lk10_187 : Cond.methodLink (cnm 10) 187 (my mX0_isCircular) ∈ PT := pt_tab (i := 807) (by decide +kernel) rfl
theorem lk12_54 : Cond.methodLink (cnm 12) 54 (my mX10_setKind) ∈ PT := pt_tab (i := 811) (by decide +kernel) rfl
theorem lk10_190 : Cond.methodLink (cnm 10) 190 (my mX0_findField) ∈ PT := pt_tab (i := 815) (by decide +kernel) rfl
theorem lk10_193 : Cond.methodLink (cnm 10) 193 (my mX10_isKind) ∈ PT := pt_tab (i := 816) (by decide +kernel) rfl
theorem lk12_59 : Cond.methodLink (cnm 12) 59 (my mX10_publish) ∈ PT := pt_tab (i := 819) (by decide +kernel) rfl
theorem lk12_63 : Cond.methodLink (cnm 12) 63 (my mX10_begin) ∈ PT := pt_tab (i := 823) (by decide +kernel) rfl
theorem lk10_210 : Cond.methodLink (cnm 10) 210 (my mX4_clear) ∈ PT := pt_tab (i := 827) (by decide +kernel) rfl
theorem lk12_67 : Cond.methodLink (cnm 12) 67 (my mX10_answer) ∈ PT := pt_tab (i := 831) (by decide +kernel) rfl
theorem lk10_215 : Cond.methodLink (cnm 10) 215 (my mX5_findSheet) ∈ PT := pt_tab (i := 835) (by decide +kernel) rfl
theorem lk10_219 : Cond.methodLink (cnm 10) 219 (my mX10_formOf) ∈ PT := pt_tab (i := 839) (by decide +kernel) rfl
theorem lk10_243 : Cond.methodLink (cnm 10) 243 (my mX10_findRevision) ∈ PT := pt_tab (i := 843) (by decide +kernel) rfl
theorem lk10_223 : Cond.methodLink (cnm 10) 223 (my mX2_allows) ∈ PT := pt_tab (i := 847) (by decide +kernel) rfl
theorem lk10_226 : Cond.methodLink (cnm 10) 226 (my mX8_look) ∈ PT := pt_tab (i := 851) (by decide +kernel) rfl
theorem lk8_22 : Cond.methodLink (cnm 8) 22 (my mX0_nextField) ∈ PT := pt_tab (i := 855) (by decide +kernel) rfl
theorem lk8_28 : Cond.methodLink (cnm 8) 28 (my mX8_lookAtField) ∈ PT := pt_tab (i := 859) (by decide +kernel) rfl
theorem lk8_40 : Cond.methodLink (cnm 8) 40 (my mX0_findField) ∈ PT := pt_tab (i := 863) (by decide +kernel) rfl
theorem lk8_32 : Cond.methodLink (cnm 8) 32 (my mX8_isVisible) ∈ PT := pt_tab (i := 864) (by decide +kernel) rfl
theorem lk8_55 : Cond.methodLink (cnm 8) 55 (my mX0_find) ∈ PT := pt_tab (i := 868) (by decide +kernel) rfl
theorem lk8_62 : Cond.methodLink (cnm 8) 62 (my mX8_holds) ∈ PT := pt_tab (i := 869) (by decide +kernel) rfl
theorem lk8_80 : Cond.methodLink (cnm 8) 80 (my mX8_passes) ∈ PT := pt_tab (i := 872) (by decide +kernel) rfl
theorem lk8_90 : Cond.methodLink (cnm 8) 90 (my mX8_force) ∈ PT := pt_tab (i := 876) (by decide +kernel) rfl
theorem lk8_69 : Cond.methodLink (cnm 8) 69 (my mX0_findGroup) ∈ PT := pt_tab (i := 880) (by decide +kernel) rfl
theorem lk8_44 : Cond.methodLink (cnm 8) 44 (my mX4_given) ∈ PT := pt_tab (i := 881) (by decide +kernel) rfl
theorem lk8_49 : Cond.methodLink (cnm 8) 49 (my mX2_allows) ∈ PT := pt_tab (i := 885) (by decide +kernel) rfl
theorem lk10_230 : Cond.methodLink (cnm 10) 230 (my mX8_shows) ∈ PT := pt_tab (i := 886) (by decide +kernel) rfl
theorem lk10_233 : Cond.methodLink (cnm 10) 233 (my mX4_given) ∈ PT := pt_tab (i := 891) (by decide +kernel) rfl
theorem lk10_239 : Cond.methodLink (cnm 10) 239 (my mX4_give) ∈ PT := pt_tab (i := 892) (by decide +kernel) rfl
theorem lk12_72 : Cond.methodLink (cnm 12) 72 (my mX10_advance) ∈ PT := pt_tab (i := 896) (by decide +kernel) rfl
theorem lk12_76 : Cond.methodLink (cnm 12) 76 (my mX10_undo) ∈ PT := pt_tab (i := 900) (by decide +kernel) rfl
theorem lk12_80 : Cond.methodLink (cnm 12) 80 (my mX10_value) ∈ PT := pt_tab (i := 904) (by decide +kernel) rfl
theorem lk10_274 : Cond.methodLink (cnm 10) 274 (my mX0_conditions) ∈ PT := pt_tab (i := 908) (by decide +kernel) rfl
theorem lk12_84 : Cond.methodLink (cnm 12) 84 (my mX10_node) ∈ PT := pt_tab (i := 912) (by decide +kernel) rfl
theorem lk10_281 : Cond.methodLink (cnm 10) 281 (my mX0_levelOf) ∈ PT := pt_tab (i := 916) (by decide +kernel) rfl
theorem lk12_89 : Cond.methodLink (cnm 12) 89 (my mX10_letter) ∈ PT := pt_tab (i := 917) (by decide +kernel) rfl
theorem lk10_284 : Cond.methodLink (cnm 10) 284 (my mX10_letterOf) ∈ PT := pt_tab (i := 921) (by decide +kernel) rfl
theorem lk12_93 : Cond.methodLink (cnm 12) 93 (my mX10_named) ∈ PT := pt_tab (i := 924) (by decide +kernel) rfl
theorem lk12_97 : Cond.methodLink (cnm 12) 97 (my mX10_nodeAt) ∈ PT := pt_tab (i := 928) (by decide +kernel) rfl
theorem lk10_288 : Cond.methodLink (cnm 10) 288 (my mX0_at) ∈ PT := pt_tab (i := 932) (by decide +kernel) rfl
theorem lk12_101 : Cond.methodLink (cnm 12) 101 (my mX10_dependsOn) ∈ PT := pt_tab (i := 933) (by decide +kernel) rfl
theorem lk10_291 : Cond.methodLink (cnm 10) 291 (my mX0_needs) ∈ PT := pt_tab (i := 937) (by decide +kernel) rfl
theorem lk12_105 : Cond.methodLink (cnm 12) 105 (my mX10_dependents) ∈ PT := pt_tab (i := 938) (by decide +kernel) rfl
theorem lk10_294 : Cond.methodLink (cnm 10) 294 (my mX0_allNeeds) ∈ PT := pt_tab (i := 942) (by decide +kernel) rfl
theorem lk10_297 : Cond.methodLink (cnm 10) 297 (my mX10_hasBit) ∈ PT := pt_tab (i := 943) (by decide +kernel) rfl
theorem lk12_109 : Cond.methodLink (cnm 12) 109 (my mX10_inOrder) ∈ PT := pt_tab (i := 944) (by decide +kernel) rfl
theorem lk10_300 : Cond.methodLink (cnm 10) 300 (my mX0_nextField) ∈ PT := pt_tab (i := 948) (by decide +kernel) rfl
theorem lk12_113 : Cond.methodLink (cnm 12) 113 (my mX10_wouldRefuse) ∈ PT := pt_tab (i := 949) (by decide +kernel) rfl
theorem lk10_303 : Cond.methodLink (cnm 10) 303 (my mX0_refuses) ∈ PT := pt_tab (i := 953) (by decide +kernel) rfl
theorem lk12_117 : Cond.methodLink (cnm 12) 117 (my mX10_exists) ∈ PT := pt_tab (i := 954) (by decide +kernel) rfl
theorem lk12_121 : Cond.methodLink (cnm 12) 121 (my mX10_revisionOf) ∈ PT := pt_tab (i := 958) (by decide +kernel) rfl
theorem lk12_125 : Cond.methodLink (cnm 12) 125 (my mX10_answers) ∈ PT := pt_tab (i := 962) (by decide +kernel) rfl
theorem lk12_129 : Cond.methodLink (cnm 12) 129 (my mX10_isShown) ∈ PT := pt_tab (i := 966) (by decide +kernel) rfl
theorem lk12_133 : Cond.methodLink (cnm 12) 133 (my mX10_inForce) ∈ PT := pt_tab (i := 970) (by decide +kernel) rfl
theorem lk10_306 : Cond.methodLink (cnm 10) 306 (my mX8_force) ∈ PT := pt_tab (i := 974) (by decide +kernel) rfl
theorem lk12_137 : Cond.methodLink (cnm 12) 137 (my mX10_open) ∈ PT := pt_tab (i := 975) (by decide +kernel) rfl
theorem lk10_309 : Cond.methodLink (cnm 10) 309 (my mX10_lookAt) ∈ PT := pt_tab (i := 979) (by decide +kernel) rfl
theorem lk12_141 : Cond.methodLink (cnm 12) 141 (my mX10_completeness) ∈ PT := pt_tab (i := 984) (by decide +kernel) rfl
theorem lk12_146 : Cond.methodLink (cnm 12) 146 (my mX10_average) ∈ PT := pt_tab (i := 989) (by decide +kernel) rfl
theorem lk12_150 : Cond.methodLink (cnm 12) 150 (my mX10_tally) ∈ PT := pt_tab (i := 993) (by decide +kernel) rfl
theorem lk12_154 : Cond.methodLink (cnm 12) 154 (my mX10_rows) ∈ PT := pt_tab (i := 997) (by decide +kernel) rfl
theorem lk10_317 : Cond.methodLink (cnm 10) 317 (my mX10_arranged) ∈ PT := pt_tab (i := 1001) (by decide +kernel) rfl
theorem lk10_351 : Cond.methodLink (cnm 10) 351 (my mX1_arrange) ∈ PT := pt_tab (i := 1005) (by decide +kernel) rfl
theorem lk1_18 : Cond.methodLink (cnm 1) 18 (my mX1_start) ∈ PT := pt_tab (i := 1009) (by decide +kernel) rfl
theorem lk1_27 : Cond.methodLink (cnm 1) 27 (my mX0_at) ∈ PT := pt_tab (i := 1013) (by decide +kernel) rfl
theorem lk1_31 : Cond.methodLink (cnm 1) 31 (my mX0_find) ∈ PT := pt_tab (i := 1014) (by decide +kernel) rfl
theorem lk1_35 : Cond.methodLink (cnm 1) 35 (my mX8_shows) ∈ PT := pt_tab (i := 1015) (by decide +kernel) rfl
theorem lk1_46 : Cond.methodLink (cnm 1) 46 (my mX0_levelOf) ∈ PT := pt_tab (i := 1016) (by decide +kernel) rfl
theorem lk1_49 : Cond.methodLink (cnm 1) 49 (my mX1_beginRow) ∈ PT := pt_tab (i := 1017) (by decide +kernel) rfl
theorem lk1_59 : Cond.methodLink (cnm 1) 59 (my mX1_arrangeGroup) ∈ PT := pt_tab (i := 1021) (by decide +kernel) rfl
theorem lk1_79 : Cond.methodLink (cnm 1) 79 (my mX1_stand) ∈ PT := pt_tab (i := 1025) (by decide +kernel) rfl
theorem lk12_159 : Cond.methodLink (cnm 12) 159 (my mX10_place) ∈ PT := pt_tab (i := 1029) (by decide +kernel) rfl
theorem lk10_324 : Cond.methodLink (cnm 10) 324 (my mX1_columnOf) ∈ PT := pt_tab (i := 1033) (by decide +kernel) rfl
theorem lk10_327 : Cond.methodLink (cnm 10) 327 (my mX1_rowOf) ∈ PT := pt_tab (i := 1037) (by decide +kernel) rfl
theorem lk12_164 : Cond.methodLink (cnm 12) 164 (my mX10_pages) ∈ PT := pt_tab (i := 1041) (by decide +kernel) rfl
theorem lk12_168 : Cond.methodLink (cnm 12) 168 (my mX10_textLength) ∈ PT := pt_tab (i := 1045) (by decide +kernel) rfl
theorem lk10_330 : Cond.methodLink (cnm 10) 330 (my mX9_start) ∈ PT := pt_tab (i := 1049) (by decide +kernel) rfl
theorem lk10_332 : Cond.methodLink (cnm 10) 332 (my mX9_writeLayout) ∈ PT := pt_tab (i := 1053) (by decide +kernel) rfl
theorem lk9_38 : Cond.methodLink (cnm 9) 38 (my mX0_at) ∈ PT := pt_tab (i := 1057) (by decide +kernel) rfl
theorem lk9_42 : Cond.methodLink (cnm 9) 42 (my mX0_find) ∈ PT := pt_tab (i := 1058) (by decide +kernel) rfl
theorem lk9_46 : Cond.methodLink (cnm 9) 46 (my mX1_rowOf) ∈ PT := pt_tab (i := 1059) (by decide +kernel) rfl
theorem lk9_29 : Cond.methodLink (cnm 9) 29 (my mX9_put) ∈ PT := pt_tab (i := 1060) (by decide +kernel) rfl
theorem lk9_51 : Cond.methodLink (cnm 9) 51 (my mX1_columnOf) ∈ PT := pt_tab (i := 1064) (by decide +kernel) rfl
theorem lk9_63 : Cond.methodLink (cnm 9) 63 (my mX9_putName) ∈ PT := pt_tab (i := 1065) (by decide +kernel) rfl
theorem lk9_67 : Cond.methodLink (cnm 9) 67 (my mX8_force) ∈ PT := pt_tab (i := 1070) (by decide +kernel) rfl
theorem lk9_72 : Cond.methodLink (cnm 9) 72 (my mX9_putField) ∈ PT := pt_tab (i := 1071) (by decide +kernel) rfl
theorem lk9_79 : Cond.methodLink (cnm 9) 79 (my mX9_nameLength) ∈ PT := pt_tab (i := 1075) (by decide +kernel) rfl
theorem lk9_86 : Cond.methodLink (cnm 9) 86 (my mX9_digits) ∈ PT := pt_tab (i := 1078) (by decide +kernel) rfl
theorem lk9_89 : Cond.methodLink (cnm 9) 89 (my mX9_digit) ∈ PT := pt_tab (i := 1081) (by decide +kernel) rfl
theorem lk12_172 : Cond.methodLink (cnm 12) 172 (my mX10_textByte) ∈ PT := pt_tab (i := 1084) (by decide +kernel) rfl
theorem lk12_177 : Cond.methodLink (cnm 12) 177 (my mX10_setupLength) ∈ PT := pt_tab (i := 1088) (by decide +kernel) rfl
theorem lk10_342 : Cond.methodLink (cnm 10) 342 (my mX9_writeSetup) ∈ PT := pt_tab (i := 1092) (by decide +kernel) rfl
theorem lk9_93 : Cond.methodLink (cnm 9) 93 (my mX9_putKeyword) ∈ PT := pt_tab (i := 1096) (by decide +kernel) rfl
theorem lk9_131 : Cond.methodLink (cnm 9) 131 (my mX9_putSpace) ∈ PT := pt_tab (i := 1101) (by decide +kernel) rfl
theorem lk9_171 : Cond.methodLink (cnm 9) 171 (my mJ0_length_8abf5) ∈ PT := pt_tab (i := 1105) (by decide +kernel) rfl
theorem lk9_176 : Cond.methodLink (cnm 9) 176 (my mJ0_charAt_5068e) ∈ PT := pt_tab (i := 1106) (by decide +kernel) rfl
theorem lk9_99 : Cond.methodLink (cnm 9) 99 (my mX9_putNumber) ∈ PT := pt_tab (i := 1107) (by decide +kernel) rfl
theorem lk9_108 : Cond.methodLink (cnm 9) 108 (my mX9_putMark) ∈ PT := pt_tab (i := 1111) (by decide +kernel) rfl
theorem lk9_114 : Cond.methodLink (cnm 9) 114 (my mX0_levelOf) ∈ PT := pt_tab (i := 1115) (by decide +kernel) rfl
theorem lk9_117 : Cond.methodLink (cnm 9) 117 (my mX9_closeGroups) ∈ PT := pt_tab (i := 1116) (by decide +kernel) rfl
theorem lk9_121 : Cond.methodLink (cnm 9) 121 (my mX9_putNode) ∈ PT := pt_tab (i := 1120) (by decide +kernel) rfl
theorem lk9_138 : Cond.methodLink (cnm 9) 138 (my mX9_putTerm) ∈ PT := pt_tab (i := 1124) (by decide +kernel) rfl
theorem lk9_145 : Cond.methodLink (cnm 9) 145 (my mX9_putTest) ∈ PT := pt_tab (i := 1127) (by decide +kernel) rfl
theorem lk9_152 : Cond.methodLink (cnm 9) 152 (my mX9_putSign) ∈ PT := pt_tab (i := 1131) (by decide +kernel) rfl
theorem lk12_181 : Cond.methodLink (cnm 12) 181 (my mX10_setupByte) ∈ PT := pt_tab (i := 1135) (by decide +kernel) rfl
theorem lk12_185 : Cond.methodLink (cnm 12) 185 (my mX10_tapeLength) ∈ PT := pt_tab (i := 1139) (by decide +kernel) rfl
theorem lk12_12 : Cond.methodLink (cnm 12) 12 (my mX11_init) ∈ PT := pt_tab (i := 1145) (by decide +kernel) rfl
theorem lk11_1 : Cond.methodLink (cnm 11) 1 objectInit ∈ PT := pt_tab (i := 1148) (by decide +kernel) rfl
theorem lk11_89 : Cond.methodLink (cnm 11) 89 (my mX11_clearForm) ∈ PT := pt_tab (i := 1149) (by decide +kernel) rfl
theorem lk12_17 : Cond.methodLink (cnm 12) 17 (my mX11_append) ∈ PT := pt_tab (i := 1303) (by decide +kernel) rfl
theorem lk11_300 : Cond.methodLink (cnm 11) 300 (my mX11_puts) ∈ PT := pt_tab (i := 1307) (by decide +kernel) rfl
theorem lk12_22 : Cond.methodLink (cnm 12) 22 (my mX11_truncate) ∈ PT := pt_tab (i := 1311) (by decide +kernel) rfl
theorem lk11_95 : Cond.methodLink (cnm 11) 95 (my mX11_in) ∈ PT := pt_tab (i := 1315) (by decide +kernel) rfl
theorem lk12_27 : Cond.methodLink (cnm 12) 27 (my mX11_load) ∈ PT := pt_tab (i := 1318) (by decide +kernel) rfl
theorem lk11_303 : Cond.methodLink (cnm 11) 303 (my mX11_startsText) ∈ PT := pt_tab (i := 1322) (by decide +kernel) rfl
theorem lk11_213 : Cond.methodLink (cnm 11) 213 (my mX11_next) ∈ PT := pt_tab (i := 1326) (by decide +kernel) rfl
theorem lk11_195 : Cond.methodLink (cnm 11) 195 (my mX11_isAt) ∈ PT := pt_tab (i := 1330) (by decide +kernel) rfl
theorem lk11_202 : Cond.methodLink (cnm 11) 202 (my mX11_isKeyword) ∈ PT := pt_tab (i := 1336) (by decide +kernel) rfl
theorem lk11_206 : Cond.methodLink (cnm 11) 206 (my mX11_isSign) ∈ PT := pt_tab (i := 1349) (by decide +kernel) rfl
theorem lk11_235 : Cond.methodLink (cnm 11) 235 (my mX11_isWord) ∈ PT := pt_tab (i := 1352) (by decide +kernel) rfl
theorem lk11_216 : Cond.methodLink (cnm 11) 216 (my mX11_takes) ∈ PT := pt_tab (i := 1356) (by decide +kernel) rfl
theorem lk11_250 : Cond.methodLink (cnm 11) 250 (my mX11_number) ∈ PT := pt_tab (i := 1360) (by decide +kernel) rfl
theorem lk11_238 : Cond.methodLink (cnm 11) 238 (my mX11_isHere) ∈ PT := pt_tab (i := 1364) (by decide +kernel) rfl
theorem lk11_306 : Cond.methodLink (cnm 11) 306 (my mX11_readNodes) ∈ PT := pt_tab (i := 1368) (by decide +kernel) rfl
theorem lk11_282 : Cond.methodLink (cnm 11) 282 (my mX11_behind) ∈ PT := pt_tab (i := 1372) (by decide +kernel) rfl
theorem lk11_118 : Cond.methodLink (cnm 11) 118 (my mX11_many) ∈ PT := pt_tab (i := 1376) (by decide +kernel) rfl
theorem lk11_122 : Cond.methodLink (cnm 11) 122 (my mX11_placeOf) ∈ PT := pt_tab (i := 1380) (by decide +kernel) rfl
theorem lk11_114 : Cond.methodLink (cnm 11) 114 (my mX11_ordered) ∈ PT := pt_tab (i := 1384) (by decide +kernel) rfl
theorem lk11_110 : Cond.methodLink (cnm 11) 110 (my mX11_of) ∈ PT := pt_tab (i := 1388) (by decide +kernel) rfl
theorem lk11_125 : Cond.methodLink (cnm 11) 125 (my mX11_isIn) ∈ PT := pt_tab (i := 1392) (by decide +kernel) rfl
theorem lk11_285 : Cond.methodLink (cnm 11) 285 (my mX11_isFieldHere) ∈ PT := pt_tab (i := 1396) (by decide +kernel) rfl
theorem lk11_289 : Cond.methodLink (cnm 11) 289 (my mX11_readField) ∈ PT := pt_tab (i := 1400) (by decide +kernel) rfl
theorem lk11_272 : Cond.methodLink (cnm 11) 272 (my mX11_begins) ∈ PT := pt_tab (i := 1404) (by decide +kernel) rfl
theorem lk11_265 : Cond.methodLink (cnm 11) 265 (my mX11_nodeNamed) ∈ PT := pt_tab (i := 1408) (by decide +kernel) rfl
theorem lk11_276 : Cond.methodLink (cnm 11) 276 (my mX11_readIf) ∈ PT := pt_tab (i := 1412) (by decide +kernel) rfl
theorem lk11_279 : Cond.methodLink (cnm 11) 279 (my mX11_readCondition) ∈ PT := pt_tab (i := 1416) (by decide +kernel) rfl
theorem lk11_256 : Cond.methodLink (cnm 11) 256 (my mX11_readTest) ∈ PT := pt_tab (i := 1420) (by decide +kernel) rfl
theorem lk11_244 : Cond.methodLink (cnm 11) 244 (my mX11_waitsFor) ∈ PT := pt_tab (i := 1424) (by decide +kernel) rfl
theorem lk11_253 : Cond.methodLink (cnm 11) 253 (my mX11_test) ∈ PT := pt_tab (i := 1428) (by decide +kernel) rfl
theorem lk11_232 : Cond.methodLink (cnm 11) 232 (my mX11_emits) ∈ PT := pt_tab (i := 1431) (by decide +kernel) rfl
theorem lk11_259 : Cond.methodLink (cnm 11) 259 (my mX11_settles) ∈ PT := pt_tab (i := 1435) (by decide +kernel) rfl
theorem lk11_226 : Cond.methodLink (cnm 11) 226 (my mX11_rankOf) ∈ PT := pt_tab (i := 1439) (by decide +kernel) rfl
theorem lk11_262 : Cond.methodLink (cnm 11) 262 (my mX11_takes1) ∈ PT := pt_tab (i := 1442) (by decide +kernel) rfl
theorem lk11_128 : Cond.methodLink (cnm 11) 128 (my mX11_depth) ∈ PT := pt_tab (i := 1447) (by decide +kernel) rfl
theorem lk11_309 : Cond.methodLink (cnm 11) 309 (my mX11_resolves) ∈ PT := pt_tab (i := 1451) (by decide +kernel) rfl
theorem lk11_107 : Cond.methodLink (cnm 11) 107 (my mX11_isField) ∈ PT := pt_tab (i := 1455) (by decide +kernel) rfl
theorem lk11_294 : Cond.methodLink (cnm 11) 294 (my mX11_isRead) ∈ PT := pt_tab (i := 1458) (by decide +kernel) rfl
theorem lk11_140 : Cond.methodLink (cnm 11) 140 (my mX11_asked) ∈ PT := pt_tab (i := 1462) (by decide +kernel) rfl
theorem lk11_134 : Cond.methodLink (cnm 11) 134 (my mX11_sortOf) ∈ PT := pt_tab (i := 1466) (by decide +kernel) rfl
theorem lk11_137 : Cond.methodLink (cnm 11) 137 (my mX11_fieldOf) ∈ PT := pt_tab (i := 1469) (by decide +kernel) rfl
theorem lk11_143 : Cond.methodLink (cnm 11) 143 (my mX11_needed) ∈ PT := pt_tab (i := 1472) (by decide +kernel) rfl
theorem lk11_99 : Cond.methodLink (cnm 11) 99 (my mX11_has) ∈ PT := pt_tab (i := 1476) (by decide +kernel) rfl
theorem lk11_297 : Cond.methodLink (cnm 11) 297 (my mX11_circles) ∈ PT := pt_tab (i := 1480) (by decide +kernel) rfl
theorem lk11_147 : Cond.methodLink (cnm 11) 147 (my mX11_reached) ∈ PT := pt_tab (i := 1484) (by decide +kernel) rfl
theorem lk11_150 : Cond.methodLink (cnm 11) 150 (my mX11_fieldsIn) ∈ PT := pt_tab (i := 1488) (by decide +kernel) rfl
theorem lk11_312 : Cond.methodLink (cnm 11) 312 (my mX11_takesMade) ∈ PT := pt_tab (i := 1492) (by decide +kernel) rfl
theorem lk11_318 : Cond.methodLink (cnm 11) 318 (my mX11_packs) ∈ PT := pt_tab (i := 1496) (by decide +kernel) rfl
theorem lk11_321 : Cond.methodLink (cnm 11) 321 (my mX11_fieldMany) ∈ PT := pt_tab (i := 1500) (by decide +kernel) rfl
theorem lk12_31 : Cond.methodLink (cnm 12) 31 (my mX11_insert) ∈ PT := pt_tab (i := 1504) (by decide +kernel) rfl
theorem lk11_325 : Cond.methodLink (cnm 11) 325 (my mX11_isGroup) ∈ PT := pt_tab (i := 1508) (by decide +kernel) rfl
theorem lk11_103 : Cond.methodLink (cnm 11) 103 (my mX11_isNode) ∈ PT := pt_tab (i := 1512) (by decide +kernel) rfl
theorem lk11_328 : Cond.methodLink (cnm 11) 328 (my mX11_nodeOf) ∈ PT := pt_tab (i := 1516) (by decide +kernel) rfl
theorem lk11_331 : Cond.methodLink (cnm 11) 331 (my mX11_swaps) ∈ PT := pt_tab (i := 1519) (by decide +kernel) rfl
theorem lk11_334 : Cond.methodLink (cnm 11) 334 (my mX11_keeps) ∈ PT := pt_tab (i := 1523) (by decide +kernel) rfl
theorem lk12_35 : Cond.methodLink (cnm 12) 35 (my mX11_setCondition) ∈ PT := pt_tab (i := 1527) (by decide +kernel) rfl
theorem lk11_337 : Cond.methodLink (cnm 11) 337 (my mX11_tests) ∈ PT := pt_tab (i := 1531) (by decide +kernel) rfl
theorem lk12_39 : Cond.methodLink (cnm 12) 39 (my mX11_errorPosition) ∈ PT := pt_tab (i := 1535) (by decide +kernel) rfl
theorem lk12_79 : Cond.methodLink (cnm 12) 79 (my mX11_undo) ∈ PT := pt_tab (i := 1539) (by decide +kernel) rfl
theorem lk12_44 : Cond.methodLink (cnm 12) 44 (my mX11_rename) ∈ PT := pt_tab (i := 1543) (by decide +kernel) rfl
theorem lk11_340 : Cond.methodLink (cnm 11) 340 (my mX11_nameOf) ∈ PT := pt_tab (i := 1547) (by decide +kernel) rfl
theorem lk12_48 : Cond.methodLink (cnm 12) 48 (my mX11_remove) ∈ PT := pt_tab (i := 1550) (by decide +kernel) rfl
theorem lk11_344 : Cond.methodLink (cnm 11) 344 (my mX11_rest) ∈ PT := pt_tab (i := 1554) (by decide +kernel) rfl
theorem lk11_347 : Cond.methodLink (cnm 11) 347 (my mX11_closes) ∈ PT := pt_tab (i := 1558) (by decide +kernel) rfl
theorem lk12_53 : Cond.methodLink (cnm 12) 53 (my mX11_move) ∈ PT := pt_tab (i := 1562) (by decide +kernel) rfl
theorem lk11_350 : Cond.methodLink (cnm 11) 350 (my mX11_sons) ∈ PT := pt_tab (i := 1566) (by decide +kernel) rfl
theorem lk11_353 : Cond.methodLink (cnm 11) 353 (my mX11_indexOf) ∈ PT := pt_tab (i := 1570) (by decide +kernel) rfl
theorem lk11_356 : Cond.methodLink (cnm 11) 356 (my mX11_height) ∈ PT := pt_tab (i := 1574) (by decide +kernel) rfl
theorem lk11_131 : Cond.methodLink (cnm 11) 131 (my mX11_most) ∈ PT := pt_tab (i := 1578) (by decide +kernel) rfl
theorem lk11_359 : Cond.methodLink (cnm 11) 359 (my mX11_placeFor) ∈ PT := pt_tab (i := 1581) (by decide +kernel) rfl
theorem lk11_362 : Cond.methodLink (cnm 11) 362 (my mX11_isSound) ∈ PT := pt_tab (i := 1585) (by decide +kernel) rfl
theorem lk11_153 : Cond.methodLink (cnm 11) 153 (my mX11_laysNeeds) ∈ PT := pt_tab (i := 1589) (by decide +kernel) rfl
theorem lk12_58 : Cond.methodLink (cnm 12) 58 (my mX11_setKind) ∈ PT := pt_tab (i := 1593) (by decide +kernel) rfl
theorem lk11_365 : Cond.methodLink (cnm 11) 365 (my mX11_isDraftField) ∈ PT := pt_tab (i := 1597) (by decide +kernel) rfl
theorem lk12_62 : Cond.methodLink (cnm 12) 62 (my mX11_publish) ∈ PT := pt_tab (i := 1601) (by decide +kernel) rfl
theorem lk11_368 : Cond.methodLink (cnm 11) 368 (my mX11_revisions) ∈ PT := pt_tab (i := 1605) (by decide +kernel) rfl
theorem lk11_374 : Cond.methodLink (cnm 11) 374 (my mX11_formOf) ∈ PT := pt_tab (i := 1609) (by decide +kernel) rfl
theorem lk12_66 : Cond.methodLink (cnm 12) 66 (my mX11_begin) ∈ PT := pt_tab (i := 1612) (by decide +kernel) rfl
theorem lk11_371 : Cond.methodLink (cnm 11) 371 (my mX11_sheets) ∈ PT := pt_tab (i := 1616) (by decide +kernel) rfl
theorem lk12_71 : Cond.methodLink (cnm 12) 71 (my mX11_answer) ∈ PT := pt_tab (i := 1621) (by decide +kernel) rfl
theorem lk11_394 : Cond.methodLink (cnm 11) 394 (my mX11_isSheet) ∈ PT := pt_tab (i := 1625) (by decide +kernel) rfl
theorem lk11_397 : Cond.methodLink (cnm 11) 397 (my mX11_formBy) ∈ PT := pt_tab (i := 1629) (by decide +kernel) rfl
theorem lk11_379 : Cond.methodLink (cnm 11) 379 (my mX11_revisionBy) ∈ PT := pt_tab (i := 1633) (by decide +kernel) rfl
theorem lk11_400 : Cond.methodLink (cnm 11) 400 (my mX11_laysShown) ∈ PT := pt_tab (i := 1637) (by decide +kernel) rfl
theorem lk11_388 : Cond.methodLink (cnm 11) 388 (my mX11_areKnown) ∈ PT := pt_tab (i := 1641) (by decide +kernel) rfl
theorem lk11_391 : Cond.methodLink (cnm 11) 391 (my mX11_isMet) ∈ PT := pt_tab (i := 1645) (by decide +kernel) rfl
theorem lk11_385 : Cond.methodLink (cnm 11) 385 (my mX11_holds) ∈ PT := pt_tab (i := 1649) (by decide +kernel) rfl
theorem lk11_382 : Cond.methodLink (cnm 11) 382 (my mX11_answerAt) ∈ PT := pt_tab (i := 1653) (by decide +kernel) rfl
theorem lk12_75 : Cond.methodLink (cnm 12) 75 (my mX11_advance) ∈ PT := pt_tab (i := 1657) (by decide +kernel) rfl
theorem lk12_83 : Cond.methodLink (cnm 12) 83 (my mX11_value) ∈ PT := pt_tab (i := 1661) (by decide +kernel) rfl
theorem lk12_88 : Cond.methodLink (cnm 12) 88 (my mX11_node) ∈ PT := pt_tab (i := 1665) (by decide +kernel) rfl
theorem lk12_92 : Cond.methodLink (cnm 12) 92 (my mX11_letter) ∈ PT := pt_tab (i := 1669) (by decide +kernel) rfl
theorem lk11_403 : Cond.methodLink (cnm 11) 403 (my mX11_lengthOf) ∈ PT := pt_tab (i := 1673) (by decide +kernel) rfl
theorem lk11_409 : Cond.methodLink (cnm 11) 409 (my mX11_letterOf) ∈ PT := pt_tab (i := 1676) (by decide +kernel) rfl
theorem lk12_96 : Cond.methodLink (cnm 12) 96 (my mX11_named) ∈ PT := pt_tab (i := 1680) (by decide +kernel) rfl
theorem lk12_100 : Cond.methodLink (cnm 12) 100 (my mX11_nodeAt) ∈ PT := pt_tab (i := 1684) (by decide +kernel) rfl
theorem lk12_104 : Cond.methodLink (cnm 12) 104 (my mX11_dependsOn) ∈ PT := pt_tab (i := 1688) (by decide +kernel) rfl
theorem lk12_108 : Cond.methodLink (cnm 12) 108 (my mX11_dependents) ∈ PT := pt_tab (i := 1692) (by decide +kernel) rfl
theorem lk12_112 : Cond.methodLink (cnm 12) 112 (my mX11_inOrder) ∈ PT := pt_tab (i := 1696) (by decide +kernel) rfl
theorem lk12_116 : Cond.methodLink (cnm 12) 116 (my mX11_wouldRefuse) ∈ PT := pt_tab (i := 1700) (by decide +kernel) rfl
theorem lk12_120 : Cond.methodLink (cnm 12) 120 (my mX11_exists) ∈ PT := pt_tab (i := 1704) (by decide +kernel) rfl
theorem lk11_413 : Cond.methodLink (cnm 11) 413 (my mX11_isRevision) ∈ PT := pt_tab (i := 1708) (by decide +kernel) rfl
theorem lk12_124 : Cond.methodLink (cnm 12) 124 (my mX11_revisionOf) ∈ PT := pt_tab (i := 1712) (by decide +kernel) rfl
theorem lk12_128 : Cond.methodLink (cnm 12) 128 (my mX11_answers) ∈ PT := pt_tab (i := 1716) (by decide +kernel) rfl
theorem lk12_132 : Cond.methodLink (cnm 12) 132 (my mX11_isShown) ∈ PT := pt_tab (i := 1720) (by decide +kernel) rfl
theorem lk12_136 : Cond.methodLink (cnm 12) 136 (my mX11_inForce) ∈ PT := pt_tab (i := 1724) (by decide +kernel) rfl
theorem lk12_140 : Cond.methodLink (cnm 12) 140 (my mX11_open) ∈ PT := pt_tab (i := 1728) (by decide +kernel) rfl
theorem lk12_145 : Cond.methodLink (cnm 12) 145 (my mX11_completeness) ∈ PT := pt_tab (i := 1732) (by decide +kernel) rfl
theorem lk12_149 : Cond.methodLink (cnm 12) 149 (my mX11_average) ∈ PT := pt_tab (i := 1737) (by decide +kernel) rfl
theorem lk12_153 : Cond.methodLink (cnm 12) 153 (my mX11_tally) ∈ PT := pt_tab (i := 1741) (by decide +kernel) rfl
theorem lk12_158 : Cond.methodLink (cnm 12) 158 (my mX11_rows) ∈ PT := pt_tab (i := 1745) (by decide +kernel) rfl
theorem lk11_451 : Cond.methodLink (cnm 11) 451 (my mX11_isLaid) ∈ PT := pt_tab (i := 1749) (by decide +kernel) rfl
theorem lk11_443 : Cond.methodLink (cnm 11) 443 (my mX11_formLaid) ∈ PT := pt_tab (i := 1753) (by decide +kernel) rfl
theorem lk11_447 : Cond.methodLink (cnm 11) 447 (my mX11_laysOut) ∈ PT := pt_tab (i := 1757) (by decide +kernel) rfl
theorem lk11_429 : Cond.methodLink (cnm 11) 429 (my mX11_isThere) ∈ PT := pt_tab (i := 1761) (by decide +kernel) rfl
theorem lk11_433 : Cond.methodLink (cnm 11) 433 (my mX11_rowAt) ∈ PT := pt_tab (i := 1764) (by decide +kernel) rfl
theorem lk11_436 : Cond.methodLink (cnm 11) 436 (my mX11_placesField) ∈ PT := pt_tab (i := 1768) (by decide +kernel) rfl
theorem lk11_440 : Cond.methodLink (cnm 11) 440 (my mX11_stands) ∈ PT := pt_tab (i := 1772) (by decide +kernel) rfl
theorem lk12_163 : Cond.methodLink (cnm 12) 163 (my mX11_place) ∈ PT := pt_tab (i := 1776) (by decide +kernel) rfl
theorem lk12_167 : Cond.methodLink (cnm 12) 167 (my mX11_pages) ∈ PT := pt_tab (i := 1780) (by decide +kernel) rfl
theorem lk12_171 : Cond.methodLink (cnm 12) 171 (my mX11_textLength) ∈ PT := pt_tab (i := 1784) (by decide +kernel) rfl
theorem lk11_487 : Cond.methodLink (cnm 11) 487 (my mX11_saysLayout) ∈ PT := pt_tab (i := 1788) (by decide +kernel) rfl
theorem lk11_481 : Cond.methodLink (cnm 11) 481 (my mX11_startsOut) ∈ PT := pt_tab (i := 1792) (by decide +kernel) rfl
theorem lk11_484 : Cond.methodLink (cnm 11) 484 (my mX11_saysNode) ∈ PT := pt_tab (i := 1797) (by decide +kernel) rfl
theorem lk11_468 : Cond.methodLink (cnm 11) 468 (my mX11_says) ∈ PT := pt_tab (i := 1801) (by decide +kernel) rfl
theorem lk11_474 : Cond.methodLink (cnm 11) 474 (my mX11_saysWord) ∈ PT := pt_tab (i := 1805) (by decide +kernel) rfl
theorem lk11_478 : Cond.methodLink (cnm 11) 478 (my mX11_saysNumber) ∈ PT := pt_tab (i := 1809) (by decide +kernel) rfl
theorem lk12_176 : Cond.methodLink (cnm 12) 176 (my mX11_textByte) ∈ PT := pt_tab (i := 1813) (by decide +kernel) rfl
theorem lk12_180 : Cond.methodLink (cnm 12) 180 (my mX11_setupLength) ∈ PT := pt_tab (i := 1817) (by decide +kernel) rfl
theorem lk11_516 : Cond.methodLink (cnm 11) 516 (my mX11_saysSetup) ∈ PT := pt_tab (i := 1821) (by decide +kernel) rfl
theorem lk11_506 : Cond.methodLink (cnm 11) 506 (my mX11_saysBoth) ∈ PT := pt_tab (i := 1825) (by decide +kernel) rfl
theorem lk11_513 : Cond.methodLink (cnm 11) 513 (my mX11_saysField) ∈ PT := pt_tab (i := 1829) (by decide +kernel) rfl
theorem lk11_510 : Cond.methodLink (cnm 11) 510 (my mX11_saysIf) ∈ PT := pt_tab (i := 1833) (by decide +kernel) rfl
theorem lk11_503 : Cond.methodLink (cnm 11) 503 (my mX11_saysCondition) ∈ PT := pt_tab (i := 1837) (by decide +kernel) rfl
theorem lk11_494 : Cond.methodLink (cnm 11) 494 (my mX11_plans) ∈ PT := pt_tab (i := 1841) (by decide +kernel) rfl
theorem lk11_497 : Cond.methodLink (cnm 11) 497 (my mX11_saysPart) ∈ PT := pt_tab (i := 1845) (by decide +kernel) rfl
theorem lk11_500 : Cond.methodLink (cnm 11) 500 (my mX11_saysTest) ∈ PT := pt_tab (i := 1849) (by decide +kernel) rfl
theorem lk12_184 : Cond.methodLink (cnm 12) 184 (my mX11_setupByte) ∈ PT := pt_tab (i := 1853) (by decide +kernel) rfl
theorem lk12_188 : Cond.methodLink (cnm 12) 188 (my mX11_tapeLength) ∈ PT := pt_tab (i := 1857) (by decide +kernel) rfl
theorem lk0_34 : Cond.methodLinkNest (cnm 0) 34 (my mX2_init) "FormDesigner" ∈ lw_tbl := lw_tab (i := 42) (by decide +kernel)
theorem lk5_24 : Cond.methodLinkNest (cnm 5) 24 (my mX4_init) "FormDesigner" ∈ lw_tbl := lw_tab (i := 163) (by decide +kernel)
theorem lk10_36 : Cond.methodLinkNest (cnm 10) 36 (my mX3_init) "FormDesigner" ∈ lw_tbl := lw_tab (i := 197) (by decide +kernel)
theorem lk7_28 : Cond.methodLinkNest (cnm 7) 28 (my mX10_keyword) "FormDesigner" ∈ lw_tbl := lw_tab (i := 209) (by decide +kernel)
theorem lk10_50 : Cond.methodLinkNest (cnm 10) 50 (my mX8_init) "FormDesigner" ∈ lw_tbl := lw_tab (i := 346) (by decide +kernel)
theorem lk10_57 : Cond.methodLinkNest (cnm 10) 57 (my mX1_init) "FormDesigner" ∈ lw_tbl := lw_tab (i := 364) (by decide +kernel)
theorem lk10_64 : Cond.methodLinkNest (cnm 10) 64 (my mX9_init) "FormDesigner" ∈ lw_tbl := lw_tab (i := 391) (by decide +kernel)
theorem lk0_116 : Cond.methodLinkNest (cnm 0) 116 (my mX10_hasBit) "FormDesigner" ∈ lw_tbl := lw_tab (i := 673) (by decide +kernel)
theorem lk8_36 : Cond.methodLinkNest (cnm 8) 36 (my mX10_hasBit) "FormDesigner" ∈ lw_tbl := lw_tab (i := 890) (by decide +kernel)
theorem lk9_25 : Cond.methodLinkNest (cnm 9) 25 (my mX10_letterOf) "FormDesigner" ∈ lw_tbl := lw_tab (i := 1069) (by decide +kernel)
theorem lk9_167 : Cond.methodLinkNest (cnm 9) 167 (my mX10_keyword) "FormDesigner" ∈ lw_tbl := lw_tab (i := 1100) (by decide +kernel)
theorem fl2_15 : Cond.fieldLink (cnm 2) 15 (cnm 2) (tC 2 0).2.1 (tC 2 0).2.2.1 ∈ PT := pt_tab (i := 46) (by decide +kernel) rfl
theorem fl0_51 : Cond.fieldLink (cnm 0) 51 (cnm 2) (tC 2 0).2.1 (tC 2 0).2.2.1 ∈ PT := pt_tab (i := 47) (by decide +kernel) rfl
theorem fl2_19 : Cond.fieldLink (cnm 2) 19 (cnm 2) (tC 2 1).2.1 (tC 2 1).2.2.1 ∈ PT := pt_tab (i := 48) (by decide +kernel) rfl
theorem fl9_59 : Cond.fieldLink (cnm 9) 59 (cnm 2) (tC 2 1).2.1 (tC 2 1).2.2.1 ∈ PT := pt_tab (i := 49) (by decide +kernel) rfl
theorem fl0_62 : Cond.fieldLink (cnm 0) 62 (cnm 2) (tC 2 1).2.1 (tC 2 1).2.2.1 ∈ PT := pt_tab (i := 50) (by decide +kernel) rfl
theorem fl10_148 : Cond.fieldLink (cnm 10) 148 (cnm 2) (tC 2 1).2.1 (tC 2 1).2.2.1 ∈ PT := pt_tab (i := 51) (by decide +kernel) rfl
theorem fl3_153 : Cond.fieldLink (cnm 3) 153 (cnm 2) (tC 2 1).2.1 (tC 2 1).2.2.1 ∈ PT := pt_tab (i := 52) (by decide +kernel) rfl
theorem fl2_23 : Cond.fieldLink (cnm 2) 23 (cnm 2) (tC 2 2).2.1 (tC 2 2).2.2.1 ∈ PT := pt_tab (i := 53) (by decide +kernel) rfl
theorem fl1_53 : Cond.fieldLink (cnm 1) 53 (cnm 2) (tC 2 2).2.1 (tC 2 2).2.2.1 ∈ PT := pt_tab (i := 54) (by decide +kernel) rfl
theorem fl9_54 : Cond.fieldLink (cnm 9) 54 (cnm 2) (tC 2 2).2.1 (tC 2 2).2.2.1 ∈ PT := pt_tab (i := 55) (by decide +kernel) rfl
theorem fl10_197 : Cond.fieldLink (cnm 10) 197 (cnm 2) (tC 2 2).2.1 (tC 2 2).2.2.1 ∈ PT := pt_tab (i := 56) (by decide +kernel) rfl
theorem fl3_156 : Cond.fieldLink (cnm 3) 156 (cnm 2) (tC 2 2).2.1 (tC 2 2).2.2.1 ∈ PT := pt_tab (i := 57) (by decide +kernel) rfl
theorem fl2_26 : Cond.fieldLink (cnm 2) 26 (cnm 2) (tC 2 3).2.1 (tC 2 3).2.2.1 ∈ PT := pt_tab (i := 58) (by decide +kernel) rfl
theorem fl10_200 : Cond.fieldLink (cnm 10) 200 (cnm 2) (tC 2 3).2.1 (tC 2 3).2.2.1 ∈ PT := pt_tab (i := 59) (by decide +kernel) rfl
theorem fl9_125 : Cond.fieldLink (cnm 9) 125 (cnm 2) (tC 2 3).2.1 (tC 2 3).2.2.1 ∈ PT := pt_tab (i := 60) (by decide +kernel) rfl
theorem fl3_163 : Cond.fieldLink (cnm 3) 163 (cnm 2) (tC 2 3).2.1 (tC 2 3).2.2.1 ∈ PT := pt_tab (i := 61) (by decide +kernel) rfl
theorem fl2_29 : Cond.fieldLink (cnm 2) 29 (cnm 2) (tC 2 4).2.1 (tC 2 4).2.2.1 ∈ PT := pt_tab (i := 62) (by decide +kernel) rfl
theorem fl10_203 : Cond.fieldLink (cnm 10) 203 (cnm 2) (tC 2 4).2.1 (tC 2 4).2.2.1 ∈ PT := pt_tab (i := 63) (by decide +kernel) rfl
theorem fl9_128 : Cond.fieldLink (cnm 9) 128 (cnm 2) (tC 2 4).2.1 (tC 2 4).2.2.1 ∈ PT := pt_tab (i := 64) (by decide +kernel) rfl
theorem fl3_166 : Cond.fieldLink (cnm 3) 166 (cnm 2) (tC 2 4).2.1 (tC 2 4).2.2.1 ∈ PT := pt_tab (i := 65) (by decide +kernel) rfl
theorem fl2_32 : Cond.fieldLink (cnm 2) 32 (cnm 2) (tC 2 5).2.1 (tC 2 5).2.2.1 ∈ PT := pt_tab (i := 66) (by decide +kernel) rfl
theorem fl1_76 : Cond.fieldLink (cnm 1) 76 (cnm 2) (tC 2 5).2.1 (tC 2 5).2.2.1 ∈ PT := pt_tab (i := 67) (by decide +kernel) rfl
theorem fl9_83 : Cond.fieldLink (cnm 9) 83 (cnm 2) (tC 2 5).2.1 (tC 2 5).2.2.1 ∈ PT := pt_tab (i := 68) (by decide +kernel) rfl
theorem fl3_169 : Cond.fieldLink (cnm 3) 169 (cnm 2) (tC 2 5).2.1 (tC 2 5).2.2.1 ∈ PT := pt_tab (i := 69) (by decide +kernel) rfl
theorem fl10_278 : Cond.fieldLink (cnm 10) 278 (cnm 2) (tC 2 5).2.1 (tC 2 5).2.2.1 ∈ PT := pt_tab (i := 70) (by decide +kernel) rfl
theorem fl2_9 : Cond.fieldLink (cnm 2) 9 (cnm 2) (tC 2 6).2.1 (tC 2 6).2.2.1 ∈ PT := pt_tab (i := 71) (by decide +kernel) rfl
theorem fl1_41 : Cond.fieldLink (cnm 1) 41 (cnm 2) (tC 2 6).2.1 (tC 2 6).2.2.1 ∈ PT := pt_tab (i := 72) (by decide +kernel) rfl
theorem fl3_94 : Cond.fieldLink (cnm 3) 94 (cnm 2) (tC 2 6).2.1 (tC 2 6).2.2.1 ∈ PT := pt_tab (i := 73) (by decide +kernel) rfl
theorem fl8_66 : Cond.fieldLink (cnm 8) 66 (cnm 2) (tC 2 6).2.1 (tC 2 6).2.2.1 ∈ PT := pt_tab (i := 74) (by decide +kernel) rfl
theorem fl10_174 : Cond.fieldLink (cnm 10) 174 (cnm 2) (tC 2 6).2.1 (tC 2 6).2.2.1 ∈ PT := pt_tab (i := 75) (by decide +kernel) rfl
theorem fl9_111 : Cond.fieldLink (cnm 9) 111 (cnm 2) (tC 2 6).2.1 (tC 2 6).2.2.1 ∈ PT := pt_tab (i := 76) (by decide +kernel) rfl
theorem fl0_74 : Cond.fieldLink (cnm 0) 74 (cnm 2) (tC 2 6).2.1 (tC 2 6).2.2.1 ∈ PT := pt_tab (i := 77) (by decide +kernel) rfl
theorem fl2_35 : Cond.fieldLink (cnm 2) 35 (cnm 2) (tC 2 7).2.1 (tC 2 7).2.2.1 ∈ PT := pt_tab (i := 78) (by decide +kernel) rfl
theorem fl1_63 : Cond.fieldLink (cnm 1) 63 (cnm 2) (tC 2 7).2.1 (tC 2 7).2.2.1 ∈ PT := pt_tab (i := 79) (by decide +kernel) rfl
theorem fl3_106 : Cond.fieldLink (cnm 3) 106 (cnm 2) (tC 2 7).2.1 (tC 2 7).2.2.1 ∈ PT := pt_tab (i := 80) (by decide +kernel) rfl
theorem fl8_58 : Cond.fieldLink (cnm 8) 58 (cnm 2) (tC 2 7).2.1 (tC 2 7).2.2.1 ∈ PT := pt_tab (i := 81) (by decide +kernel) rfl
theorem fl0_66 : Cond.fieldLink (cnm 0) 66 (cnm 2) (tC 2 7).2.1 (tC 2 7).2.2.1 ∈ PT := pt_tab (i := 82) (by decide +kernel) rfl
theorem fl9_134 : Cond.fieldLink (cnm 9) 134 (cnm 2) (tC 2 7).2.1 (tC 2 7).2.2.1 ∈ PT := pt_tab (i := 83) (by decide +kernel) rfl
theorem fl2_39 : Cond.fieldLink (cnm 2) 39 (cnm 2) (tC 2 8).2.1 (tC 2 8).2.2.1 ∈ PT := pt_tab (i := 84) (by decide +kernel) rfl
theorem fl3_110 : Cond.fieldLink (cnm 3) 110 (cnm 2) (tC 2 8).2.1 (tC 2 8).2.2.1 ∈ PT := pt_tab (i := 85) (by decide +kernel) rfl
theorem fl10_131 : Cond.fieldLink (cnm 10) 131 (cnm 2) (tC 2 8).2.1 (tC 2 8).2.2.1 ∈ PT := pt_tab (i := 86) (by decide +kernel) rfl
theorem fl2_42 : Cond.fieldLink (cnm 2) 42 (cnm 2) (tC 2 9).2.1 (tC 2 9).2.2.1 ∈ PT := pt_tab (i := 87) (by decide +kernel) rfl
theorem fl3_111 : Cond.fieldLink (cnm 3) 111 (cnm 2) (tC 2 9).2.1 (tC 2 9).2.2.1 ∈ PT := pt_tab (i := 88) (by decide +kernel) rfl
theorem fl0_110 : Cond.fieldLink (cnm 0) 110 (cnm 2) (tC 2 9).2.1 (tC 2 9).2.2.1 ∈ PT := pt_tab (i := 89) (by decide +kernel) rfl
theorem fl0_9 : Cond.fieldLink (cnm 0) 9 (cnm 0) (tC 0 0).2.1 (tC 0 0).2.2.1 ∈ PT := pt_tab (i := 113) (by decide +kernel) rfl
theorem fl1_70 : Cond.fieldLink (cnm 1) 70 (cnm 0) (tC 0 0).2.1 (tC 0 0).2.2.1 ∈ PT := pt_tab (i := 114) (by decide +kernel) rfl
theorem fl3_71 : Cond.fieldLink (cnm 3) 71 (cnm 0) (tC 0 0).2.1 (tC 0 0).2.2.1 ∈ PT := pt_tab (i := 115) (by decide +kernel) rfl
theorem fl9_96 : Cond.fieldLink (cnm 9) 96 (cnm 0) (tC 0 0).2.1 (tC 0 0).2.2.1 ∈ PT := pt_tab (i := 116) (by decide +kernel) rfl
theorem fl10_262 : Cond.fieldLink (cnm 10) 262 (cnm 0) (tC 0 0).2.1 (tC 0 0).2.2.1 ∈ PT := pt_tab (i := 117) (by decide +kernel) rfl
theorem fl0_15 : Cond.fieldLink (cnm 0) 15 (cnm 0) (tC 0 1).2.1 (tC 0 1).2.2.1 ∈ PT := pt_tab (i := 118) (by decide +kernel) rfl
theorem fl1_67 : Cond.fieldLink (cnm 1) 67 (cnm 0) (tC 0 1).2.1 (tC 0 1).2.2.1 ∈ PT := pt_tab (i := 119) (by decide +kernel) rfl
theorem fl3_74 : Cond.fieldLink (cnm 3) 74 (cnm 0) (tC 0 1).2.1 (tC 0 1).2.2.1 ∈ PT := pt_tab (i := 120) (by decide +kernel) rfl
theorem fl9_102 : Cond.fieldLink (cnm 9) 102 (cnm 0) (tC 0 1).2.1 (tC 0 1).2.2.1 ∈ PT := pt_tab (i := 121) (by decide +kernel) rfl
theorem fl10_265 : Cond.fieldLink (cnm 10) 265 (cnm 0) (tC 0 1).2.1 (tC 0 1).2.2.1 ∈ PT := pt_tab (i := 122) (by decide +kernel) rfl
theorem fl0_18 : Cond.fieldLink (cnm 0) 18 (cnm 0) (tC 0 2).2.1 (tC 0 2).2.2.1 ∈ PT := pt_tab (i := 123) (by decide +kernel) rfl
theorem fl1_56 : Cond.fieldLink (cnm 1) 56 (cnm 0) (tC 0 2).2.1 (tC 0 2).2.2.1 ∈ PT := pt_tab (i := 124) (by decide +kernel) rfl
theorem fl3_77 : Cond.fieldLink (cnm 3) 77 (cnm 0) (tC 0 2).2.1 (tC 0 2).2.2.1 ∈ PT := pt_tab (i := 125) (by decide +kernel) rfl
theorem fl9_105 : Cond.fieldLink (cnm 9) 105 (cnm 0) (tC 0 2).2.1 (tC 0 2).2.2.1 ∈ PT := pt_tab (i := 126) (by decide +kernel) rfl
theorem fl10_268 : Cond.fieldLink (cnm 10) 268 (cnm 0) (tC 0 2).2.1 (tC 0 2).2.2.1 ∈ PT := pt_tab (i := 127) (by decide +kernel) rfl
theorem fl0_35 : Cond.fieldLink (cnm 0) 35 (cnm 0) (tC 0 3).2.1 (tC 0 3).2.2.1 ∈ PT := pt_tab (i := 128) (by decide +kernel) rfl
theorem fl10_111 : Cond.fieldLink (cnm 10) 111 (cnm 0) (tC 0 3).2.1 (tC 0 3).2.2.1 ∈ PT := pt_tab (i := 129) (by decide +kernel) rfl
theorem fl3_157 : Cond.fieldLink (cnm 3) 157 (cnm 0) (tC 0 3).2.1 (tC 0 3).2.2.1 ∈ PT := pt_tab (i := 130) (by decide +kernel) rfl
theorem fl0_38 : Cond.fieldLink (cnm 0) 38 (cnm 0) (tC 0 4).2.1 (tC 0 4).2.2.1 ∈ PT := pt_tab (i := 131) (by decide +kernel) rfl
theorem fl3_139 : Cond.fieldLink (cnm 3) 139 (cnm 0) (tC 0 4).2.1 (tC 0 4).2.2.1 ∈ PT := pt_tab (i := 132) (by decide +kernel) rfl
theorem fl10_271 : Cond.fieldLink (cnm 10) 271 (cnm 0) (tC 0 4).2.1 (tC 0 4).2.2.1 ∈ PT := pt_tab (i := 133) (by decide +kernel) rfl
theorem fl0_41 : Cond.fieldLink (cnm 0) 41 (cnm 0) (tC 0 5).2.1 (tC 0 5).2.2.1 ∈ PT := pt_tab (i := 134) (by decide +kernel) rfl
theorem fl1_21 : Cond.fieldLink (cnm 1) 21 (cnm 0) (tC 0 5).2.1 (tC 0 5).2.2.1 ∈ PT := pt_tab (i := 135) (by decide +kernel) rfl
theorem fl9_33 : Cond.fieldLink (cnm 9) 33 (cnm 0) (tC 0 5).2.1 (tC 0 5).2.2.1 ∈ PT := pt_tab (i := 136) (by decide +kernel) rfl
theorem fl10_117 : Cond.fieldLink (cnm 10) 117 (cnm 0) (tC 0 5).2.1 (tC 0 5).2.2.1 ∈ PT := pt_tab (i := 137) (by decide +kernel) rfl
theorem fl0_21 : Cond.fieldLink (cnm 0) 21 (cnm 0) (tC 0 6).2.1 (tC 0 6).2.2.1 ∈ PT := pt_tab (i := 138) (by decide +kernel) rfl
theorem fl0_25 : Cond.fieldLink (cnm 0) 25 (cnm 0) (tC 0 7).2.1 (tC 0 7).2.2.1 ∈ PT := pt_tab (i := 139) (by decide +kernel) rfl
theorem fl0_30 : Cond.fieldLink (cnm 0) 30 (cnm 0) (tC 0 8).2.1 (tC 0 8).2.2.1 ∈ PT := pt_tab (i := 140) (by decide +kernel) rfl
theorem fl4_15 : Cond.fieldLink (cnm 4) 15 (cnm 4) (tC 4 0).2.1 (tC 4 0).2.2.1 ∈ PT := pt_tab (i := 167) (by decide +kernel) rfl
theorem fl10_247 : Cond.fieldLink (cnm 10) 247 (cnm 4) (tC 4 0).2.1 (tC 4 0).2.2.1 ∈ PT := pt_tab (i := 168) (by decide +kernel) rfl
theorem fl4_9 : Cond.fieldLink (cnm 4) 9 (cnm 4) (tC 4 1).2.1 (tC 4 1).2.2.1 ∈ PT := pt_tab (i := 169) (by decide +kernel) rfl
theorem fl5_12 : Cond.fieldLink (cnm 5) 12 (cnm 5) (tC 5 0).2.1 (tC 5 0).2.2.1 ∈ PT := pt_tab (i := 175) (by decide +kernel) rfl
theorem fl10_95 : Cond.fieldLink (cnm 10) 95 (cnm 5) (tC 5 0).2.1 (tC 5 0).2.2.1 ∈ PT := pt_tab (i := 176) (by decide +kernel) rfl
theorem fl5_29 : Cond.fieldLink (cnm 5) 29 (cnm 5) (tC 5 1).2.1 (tC 5 1).2.2.1 ∈ PT := pt_tab (i := 177) (by decide +kernel) rfl
theorem fl10_102 : Cond.fieldLink (cnm 10) 102 (cnm 5) (tC 5 1).2.1 (tC 5 1).2.2.1 ∈ PT := pt_tab (i := 178) (by decide +kernel) rfl
theorem fl5_33 : Cond.fieldLink (cnm 5) 33 (cnm 5) (tC 5 2).2.1 (tC 5 2).2.2.1 ∈ PT := pt_tab (i := 179) (by decide +kernel) rfl
theorem fl10_105 : Cond.fieldLink (cnm 10) 105 (cnm 5) (tC 5 2).2.1 (tC 5 2).2.2.1 ∈ PT := pt_tab (i := 180) (by decide +kernel) rfl
theorem fl5_20 : Cond.fieldLink (cnm 5) 20 (cnm 5) (tC 5 3).2.1 (tC 5 3).2.2.1 ∈ PT := pt_tab (i := 181) (by decide +kernel) rfl
theorem fl10_206 : Cond.fieldLink (cnm 10) 206 (cnm 5) (tC 5 3).2.1 (tC 5 3).2.2.1 ∈ PT := pt_tab (i := 182) (by decide +kernel) rfl
theorem fl7_65 : Cond.fieldLink (cnm 7) 65 (cnm 7) (tC 7 0).2.1 (tC 7 0).2.2.1 ∈ PT := pt_tab (i := 274) (by decide +kernel) rfl
theorem fl3_80 : Cond.fieldLink (cnm 3) 80 (cnm 7) (tC 7 0).2.1 (tC 7 0).2.2.1 ∈ PT := pt_tab (i := 275) (by decide +kernel) rfl
theorem fl7_68 : Cond.fieldLink (cnm 7) 68 (cnm 7) (tC 7 1).2.1 (tC 7 1).2.2.1 ∈ PT := pt_tab (i := 276) (by decide +kernel) rfl
theorem fl3_132 : Cond.fieldLink (cnm 3) 132 (cnm 7) (tC 7 1).2.1 (tC 7 1).2.2.1 ∈ PT := pt_tab (i := 277) (by decide +kernel) rfl
theorem fl7_71 : Cond.fieldLink (cnm 7) 71 (cnm 7) (tC 7 2).2.1 (tC 7 2).2.2.1 ∈ PT := pt_tab (i := 278) (by decide +kernel) rfl
theorem fl3_135 : Cond.fieldLink (cnm 3) 135 (cnm 7) (tC 7 2).2.1 (tC 7 2).2.2.1 ∈ PT := pt_tab (i := 279) (by decide +kernel) rfl
theorem fl7_59 : Cond.fieldLink (cnm 7) 59 (cnm 7) (tC 7 3).2.1 (tC 7 3).2.2.1 ∈ PT := pt_tab (i := 280) (by decide +kernel) rfl
theorem fl7_36 : Cond.fieldLink (cnm 7) 36 (cnm 7) (tC 7 4).2.1 (tC 7 4).2.2.1 ∈ PT := pt_tab (i := 281) (by decide +kernel) rfl
theorem fl7_40 : Cond.fieldLink (cnm 7) 40 (cnm 7) (tC 7 5).2.1 (tC 7 5).2.2.1 ∈ PT := pt_tab (i := 282) (by decide +kernel) rfl
theorem fl7_9 : Cond.fieldLink (cnm 7) 9 (cnm 7) (tC 7 6).2.1 (tC 7 6).2.2.1 ∈ PT := pt_tab (i := 283) (by decide +kernel) rfl
theorem fl7_15 : Cond.fieldLink (cnm 7) 15 (cnm 7) (tC 7 7).2.1 (tC 7 7).2.2.1 ∈ PT := pt_tab (i := 284) (by decide +kernel) rfl
theorem fl7_18 : Cond.fieldLink (cnm 7) 18 (cnm 7) (tC 7 8).2.1 (tC 7 8).2.2.1 ∈ PT := pt_tab (i := 285) (by decide +kernel) rfl
theorem fl7_21 : Cond.fieldLink (cnm 7) 21 (cnm 7) (tC 7 9).2.1 (tC 7 9).2.2.1 ∈ PT := pt_tab (i := 286) (by decide +kernel) rfl
theorem fl7_25 : Cond.fieldLink (cnm 7) 25 (cnm 7) (tC 7 10).2.1 (tC 7 10).2.2.1 ∈ PT := pt_tab (i := 287) (by decide +kernel) rfl
theorem fl3_9 : Cond.fieldLink (cnm 3) 9 (cnm 3) (tC 3 0).2.1 (tC 3 0).2.2.1 ∈ PT := pt_tab (i := 314) (by decide +kernel) rfl
theorem fl10_345 : Cond.fieldLink (cnm 10) 345 (cnm 3) (tC 3 0).2.1 (tC 3 0).2.2.1 ∈ PT := pt_tab (i := 315) (by decide +kernel) rfl
theorem fl3_18 : Cond.fieldLink (cnm 3) 18 (cnm 3) (tC 3 1).2.1 (tC 3 1).2.2.1 ∈ PT := pt_tab (i := 316) (by decide +kernel) rfl
theorem fl10_41 : Cond.fieldLink (cnm 10) 41 (cnm 3) (tC 3 1).2.1 (tC 3 1).2.2.1 ∈ PT := pt_tab (i := 317) (by decide +kernel) rfl
theorem fl3_25 : Cond.fieldLink (cnm 3) 25 (cnm 3) (tC 3 2).2.1 (tC 3 2).2.2.1 ∈ PT := pt_tab (i := 318) (by decide +kernel) rfl
theorem fl3_54 : Cond.fieldLink (cnm 3) 54 (cnm 3) (tC 3 3).2.1 (tC 3 3).2.2.1 ∈ PT := pt_tab (i := 319) (by decide +kernel) rfl
theorem fl3_57 : Cond.fieldLink (cnm 3) 57 (cnm 3) (tC 3 4).2.1 (tC 3 4).2.2.1 ∈ PT := pt_tab (i := 320) (by decide +kernel) rfl
theorem fl3_31 : Cond.fieldLink (cnm 3) 31 (cnm 3) (tC 3 5).2.1 (tC 3 5).2.2.1 ∈ PT := pt_tab (i := 321) (by decide +kernel) rfl
theorem fl3_35 : Cond.fieldLink (cnm 3) 35 (cnm 3) (tC 3 6).2.1 (tC 3 6).2.2.1 ∈ PT := pt_tab (i := 322) (by decide +kernel) rfl
theorem fl3_39 : Cond.fieldLink (cnm 3) 39 (cnm 3) (tC 3 7).2.1 (tC 3 7).2.2.1 ∈ PT := pt_tab (i := 323) (by decide +kernel) rfl
theorem fl3_43 : Cond.fieldLink (cnm 3) 43 (cnm 3) (tC 3 8).2.1 (tC 3 8).2.2.1 ∈ PT := pt_tab (i := 324) (by decide +kernel) rfl
theorem fl8_15 : Cond.fieldLink (cnm 8) 15 (cnm 8) (tC 8 0).2.1 (tC 8 0).2.2.1 ∈ PT := pt_tab (i := 350) (by decide +kernel) rfl
theorem fl10_236 : Cond.fieldLink (cnm 10) 236 (cnm 8) (tC 8 0).2.1 (tC 8 0).2.2.1 ∈ PT := pt_tab (i := 351) (by decide +kernel) rfl
theorem fl8_19 : Cond.fieldLink (cnm 8) 19 (cnm 8) (tC 8 1).2.1 (tC 8 1).2.2.1 ∈ PT := pt_tab (i := 352) (by decide +kernel) rfl
theorem fl10_313 : Cond.fieldLink (cnm 10) 313 (cnm 8) (tC 8 1).2.1 (tC 8 1).2.2.1 ∈ PT := pt_tab (i := 353) (by decide +kernel) rfl
theorem fl8_9 : Cond.fieldLink (cnm 8) 9 (cnm 8) (tC 8 2).2.1 (tC 8 2).2.2.1 ∈ PT := pt_tab (i := 354) (by decide +kernel) rfl
theorem fl1_82 : Cond.fieldLink (cnm 1) 82 (cnm 1) (tC 1 0).2.1 (tC 1 0).2.2.1 ∈ PT := pt_tab (i := 368) (by decide +kernel) rfl
theorem fl9_76 : Cond.fieldLink (cnm 9) 76 (cnm 1) (tC 1 0).2.1 (tC 1 0).2.2.1 ∈ PT := pt_tab (i := 369) (by decide +kernel) rfl
theorem fl10_321 : Cond.fieldLink (cnm 10) 321 (cnm 1) (tC 1 0).2.1 (tC 1 0).2.2.1 ∈ PT := pt_tab (i := 370) (by decide +kernel) rfl
theorem fl1_85 : Cond.fieldLink (cnm 1) 85 (cnm 1) (tC 1 1).2.1 (tC 1 1).2.2.1 ∈ PT := pt_tab (i := 371) (by decide +kernel) rfl
theorem fl1_73 : Cond.fieldLink (cnm 1) 73 (cnm 1) (tC 1 2).2.1 (tC 1 2).2.2.1 ∈ PT := pt_tab (i := 372) (by decide +kernel) rfl
theorem fl1_88 : Cond.fieldLink (cnm 1) 88 (cnm 1) (tC 1 3).2.1 (tC 1 3).2.2.1 ∈ PT := pt_tab (i := 373) (by decide +kernel) rfl
theorem fl1_9 : Cond.fieldLink (cnm 1) 9 (cnm 1) (tC 1 4).2.1 (tC 1 4).2.2.1 ∈ PT := pt_tab (i := 374) (by decide +kernel) rfl
theorem fl1_15 : Cond.fieldLink (cnm 1) 15 (cnm 1) (tC 1 5).2.1 (tC 1 5).2.2.1 ∈ PT := pt_tab (i := 375) (by decide +kernel) rfl
theorem fl9_9 : Cond.fieldLink (cnm 9) 9 (cnm 9) (tC 9 0).2.1 (tC 9 0).2.2.1 ∈ PT := pt_tab (i := 395) (by decide +kernel) rfl
theorem fl10_336 : Cond.fieldLink (cnm 10) 336 (cnm 9) (tC 9 0).2.1 (tC 9 0).2.2.1 ∈ PT := pt_tab (i := 396) (by decide +kernel) rfl
theorem fl9_15 : Cond.fieldLink (cnm 9) 15 (cnm 9) (tC 9 1).2.1 (tC 9 1).2.2.1 ∈ PT := pt_tab (i := 397) (by decide +kernel) rfl
theorem fl10_339 : Cond.fieldLink (cnm 10) 339 (cnm 9) (tC 9 1).2.1 (tC 9 1).2.2.1 ∈ PT := pt_tab (i := 398) (by decide +kernel) rfl
theorem fl9_18 : Cond.fieldLink (cnm 9) 18 (cnm 9) (tC 9 2).2.1 (tC 9 2).2.2.1 ∈ PT := pt_tab (i := 399) (by decide +kernel) rfl
theorem fl9_21 : Cond.fieldLink (cnm 9) 21 (cnm 9) (tC 9 3).2.1 (tC 9 3).2.2.1 ∈ PT := pt_tab (i := 400) (by decide +kernel) rfl
theorem fl10_9 : Cond.fieldLink (cnm 10) 9 (cnm 10) (tC 10 0).2.1 (tC 10 0).2.2.1 ∈ PT := pt_tab (i := 411) (by decide +kernel) rfl
theorem fl10_70 : Cond.fieldLink (cnm 10) 70 (cnm 10) (tC 10 1).2.1 (tC 10 1).2.2.1 ∈ PT := pt_tab (i := 412) (by decide +kernel) rfl
theorem fl10_13 : Cond.fieldLink (cnm 10) 13 (cnm 10) (tC 10 2).2.1 (tC 10 2).2.2.1 ∈ PT := pt_tab (i := 413) (by decide +kernel) rfl
theorem fl10_20 : Cond.fieldLink (cnm 10) 20 (cnm 10) (tC 10 3).2.1 (tC 10 3).2.2.1 ∈ PT := pt_tab (i := 414) (by decide +kernel) rfl
theorem fl10_26 : Cond.fieldLink (cnm 10) 26 (cnm 10) (tC 10 4).2.1 (tC 10 4).2.2.1 ∈ PT := pt_tab (i := 415) (by decide +kernel) rfl
theorem fl10_30 : Cond.fieldLink (cnm 10) 30 (cnm 10) (tC 10 5).2.1 (tC 10 5).2.2.1 ∈ PT := pt_tab (i := 416) (by decide +kernel) rfl
theorem fl10_108 : Cond.fieldLink (cnm 10) 108 (cnm 10) (tC 10 6).2.1 (tC 10 6).2.2.1 ∈ PT := pt_tab (i := 417) (by decide +kernel) rfl
theorem fl10_250 : Cond.fieldLink (cnm 10) 250 (cnm 10) (tC 10 7).2.1 (tC 10 7).2.2.1 ∈ PT := pt_tab (i := 418) (by decide +kernel) rfl
theorem fl10_37 : Cond.fieldLink (cnm 10) 37 (cnm 10) (tC 10 8).2.1 (tC 10 8).2.2.1 ∈ PT := pt_tab (i := 419) (by decide +kernel) rfl
theorem fl10_45 : Cond.fieldLink (cnm 10) 45 (cnm 10) (tC 10 9).2.1 (tC 10 9).2.2.1 ∈ PT := pt_tab (i := 420) (by decide +kernel) rfl
theorem fl10_51 : Cond.fieldLink (cnm 10) 51 (cnm 10) (tC 10 10).2.1 (tC 10 10).2.2.1 ∈ PT := pt_tab (i := 421) (by decide +kernel) rfl
theorem fl10_58 : Cond.fieldLink (cnm 10) 58 (cnm 10) (tC 10 11).2.1 (tC 10 11).2.2.1 ∈ PT := pt_tab (i := 422) (by decide +kernel) rfl
theorem fl10_65 : Cond.fieldLink (cnm 10) 65 (cnm 10) (tC 10 12).2.1 (tC 10 12).2.2.1 ∈ PT := pt_tab (i := 423) (by decide +kernel) rfl
theorem fl6_15 : Cond.fieldLink (cnm 6) 15 (cnm 6) (tC 6 0).2.1 (tC 6 0).2.2.1 ∈ PT := pt_tab (i := 606) (by decide +kernel) rfl
theorem fl8_72 : Cond.fieldLink (cnm 8) 72 (cnm 6) (tC 6 0).2.1 (tC 6 0).2.2.1 ∈ PT := pt_tab (i := 607) (by decide +kernel) rfl
theorem fl9_142 : Cond.fieldLink (cnm 9) 142 (cnm 6) (tC 6 0).2.1 (tC 6 0).2.2.1 ∈ PT := pt_tab (i := 608) (by decide +kernel) rfl
theorem fl8_77 : Cond.fieldLink (cnm 8) 77 (cnm 6) (tC 6 1).2.1 (tC 6 1).2.2.1 ∈ PT := pt_tab (i := 609) (by decide +kernel) rfl
theorem fl9_149 : Cond.fieldLink (cnm 9) 149 (cnm 6) (tC 6 1).2.1 (tC 6 1).2.2.1 ∈ PT := pt_tab (i := 610) (by decide +kernel) rfl
theorem fl3_182 : Cond.fieldLink (cnm 3) 182 (cnm 6) (tC 6 1).2.1 (tC 6 1).2.2.1 ∈ PT := pt_tab (i := 611) (by decide +kernel) rfl
theorem fl8_84 : Cond.fieldLink (cnm 8) 84 (cnm 6) (tC 6 2).2.1 (tC 6 2).2.2.1 ∈ PT := pt_tab (i := 612) (by decide +kernel) rfl
theorem fl9_155 : Cond.fieldLink (cnm 9) 155 (cnm 6) (tC 6 2).2.1 (tC 6 2).2.2.1 ∈ PT := pt_tab (i := 613) (by decide +kernel) rfl
theorem fl3_185 : Cond.fieldLink (cnm 3) 185 (cnm 6) (tC 6 2).2.1 (tC 6 2).2.2.1 ∈ PT := pt_tab (i := 614) (by decide +kernel) rfl
theorem fl6_9 : Cond.fieldLink (cnm 6) 9 (cnm 6) (tC 6 3).2.1 (tC 6 3).2.2.1 ∈ PT := pt_tab (i := 615) (by decide +kernel) rfl
theorem fl3_123 : Cond.fieldLink (cnm 3) 123 (cnm 6) (tC 6 3).2.1 (tC 6 3).2.2.1 ∈ PT := pt_tab (i := 616) (by decide +kernel) rfl
theorem fl8_87 : Cond.fieldLink (cnm 8) 87 (cnm 6) (tC 6 3).2.1 (tC 6 3).2.2.1 ∈ PT := pt_tab (i := 617) (by decide +kernel) rfl
theorem fl9_158 : Cond.fieldLink (cnm 9) 158 (cnm 6) (tC 6 3).2.1 (tC 6 3).2.2.1 ∈ PT := pt_tab (i := 618) (by decide +kernel) rfl
theorem fl8_93 : Cond.fieldLink (cnm 8) 93 (cnm 6) (tC 6 4).2.1 (tC 6 4).2.2.1 ∈ PT := pt_tab (i := 619) (by decide +kernel) rfl
theorem fl9_161 : Cond.fieldLink (cnm 9) 161 (cnm 6) (tC 6 4).2.1 (tC 6 4).2.2.1 ∈ PT := pt_tab (i := 620) (by decide +kernel) rfl
theorem fl3_198 : Cond.fieldLink (cnm 3) 198 (cnm 6) (tC 6 4).2.1 (tC 6 4).2.2.1 ∈ PT := pt_tab (i := 621) (by decide +kernel) rfl
theorem fl8_96 : Cond.fieldLink (cnm 8) 96 (cnm 6) (tC 6 5).2.1 (tC 6 5).2.2.1 ∈ PT := pt_tab (i := 622) (by decide +kernel) rfl
theorem fl9_164 : Cond.fieldLink (cnm 9) 164 (cnm 6) (tC 6 5).2.1 (tC 6 5).2.2.1 ∈ PT := pt_tab (i := 623) (by decide +kernel) rfl
theorem fl3_201 : Cond.fieldLink (cnm 3) 201 (cnm 6) (tC 6 5).2.1 (tC 6 5).2.2.1 ∈ PT := pt_tab (i := 624) (by decide +kernel) rfl
theorem fl11_7 : Cond.fieldLink (cnm 11) 7 (cnm 11) (tC 11 0).2.1 (tC 11 0).2.2.1 ∈ PT := pt_tab (i := 1154) (by decide +kernel) rfl
theorem fl11_159 : Cond.fieldLink (cnm 11) 159 (cnm 11) (tC 11 1).2.1 (tC 11 1).2.2.1 ∈ PT := pt_tab (i := 1155) (by decide +kernel) rfl
theorem fl11_13 : Cond.fieldLink (cnm 11) 13 (cnm 11) (tC 11 2).2.1 (tC 11 2).2.2.1 ∈ PT := pt_tab (i := 1156) (by decide +kernel) rfl
theorem fl11_17 : Cond.fieldLink (cnm 11) 17 (cnm 11) (tC 11 3).2.1 (tC 11 3).2.2.1 ∈ PT := pt_tab (i := 1157) (by decide +kernel) rfl
theorem fl11_21 : Cond.fieldLink (cnm 11) 21 (cnm 11) (tC 11 4).2.1 (tC 11 4).2.2.1 ∈ PT := pt_tab (i := 1158) (by decide +kernel) rfl
theorem fl11_24 : Cond.fieldLink (cnm 11) 24 (cnm 11) (tC 11 5).2.1 (tC 11 5).2.2.1 ∈ PT := pt_tab (i := 1159) (by decide +kernel) rfl
theorem fl11_28 : Cond.fieldLink (cnm 11) 28 (cnm 11) (tC 11 6).2.1 (tC 11 6).2.2.1 ∈ PT := pt_tab (i := 1160) (by decide +kernel) rfl
theorem fl11_31 : Cond.fieldLink (cnm 11) 31 (cnm 11) (tC 11 7).2.1 (tC 11 7).2.2.1 ∈ PT := pt_tab (i := 1161) (by decide +kernel) rfl
theorem fl11_315 : Cond.fieldLink (cnm 11) 315 (cnm 11) (tC 11 8).2.1 (tC 11 8).2.2.1 ∈ PT := pt_tab (i := 1162) (by decide +kernel) rfl
theorem fl11_34 : Cond.fieldLink (cnm 11) 34 (cnm 11) (tC 11 9).2.1 (tC 11 9).2.2.1 ∈ PT := pt_tab (i := 1163) (by decide +kernel) rfl
theorem fl11_220 : Cond.fieldLink (cnm 11) 220 (cnm 11) (tC 11 10).2.1 (tC 11 10).2.2.1 ∈ PT := pt_tab (i := 1164) (by decide +kernel) rfl
theorem fl11_37 : Cond.fieldLink (cnm 11) 37 (cnm 11) (tC 11 11).2.1 (tC 11 11).2.2.1 ∈ PT := pt_tab (i := 1165) (by decide +kernel) rfl
theorem fl11_156 : Cond.fieldLink (cnm 11) 156 (cnm 11) (tC 11 12).2.1 (tC 11 12).2.2.1 ∈ PT := pt_tab (i := 1166) (by decide +kernel) rfl
theorem fl11_182 : Cond.fieldLink (cnm 11) 182 (cnm 11) (tC 11 13).2.1 (tC 11 13).2.2.1 ∈ PT := pt_tab (i := 1167) (by decide +kernel) rfl
theorem fl11_192 : Cond.fieldLink (cnm 11) 192 (cnm 11) (tC 11 14).2.1 (tC 11 14).2.2.1 ∈ PT := pt_tab (i := 1168) (by decide +kernel) rfl
theorem fl11_185 : Cond.fieldLink (cnm 11) 185 (cnm 11) (tC 11 15).2.1 (tC 11 15).2.2.1 ∈ PT := pt_tab (i := 1169) (by decide +kernel) rfl
theorem fl11_188 : Cond.fieldLink (cnm 11) 188 (cnm 11) (tC 11 16).2.1 (tC 11 16).2.2.1 ∈ PT := pt_tab (i := 1170) (by decide +kernel) rfl
theorem fl11_209 : Cond.fieldLink (cnm 11) 209 (cnm 11) (tC 11 17).2.1 (tC 11 17).2.2.1 ∈ PT := pt_tab (i := 1171) (by decide +kernel) rfl
theorem fl11_40 : Cond.fieldLink (cnm 11) 40 (cnm 11) (tC 11 18).2.1 (tC 11 18).2.2.1 ∈ PT := pt_tab (i := 1172) (by decide +kernel) rfl
theorem fl11_43 : Cond.fieldLink (cnm 11) 43 (cnm 11) (tC 11 19).2.1 (tC 11 19).2.2.1 ∈ PT := pt_tab (i := 1173) (by decide +kernel) rfl
theorem fl11_46 : Cond.fieldLink (cnm 11) 46 (cnm 11) (tC 11 20).2.1 (tC 11 20).2.2.1 ∈ PT := pt_tab (i := 1174) (by decide +kernel) rfl
theorem fl11_49 : Cond.fieldLink (cnm 11) 49 (cnm 11) (tC 11 21).2.1 (tC 11 21).2.2.1 ∈ PT := pt_tab (i := 1175) (by decide +kernel) rfl
theorem fl11_247 : Cond.fieldLink (cnm 11) 247 (cnm 11) (tC 11 22).2.1 (tC 11 22).2.2.1 ∈ PT := pt_tab (i := 1176) (by decide +kernel) rfl
theorem fl11_52 : Cond.fieldLink (cnm 11) 52 (cnm 11) (tC 11 23).2.1 (tC 11 23).2.2.1 ∈ PT := pt_tab (i := 1177) (by decide +kernel) rfl
theorem fl11_223 : Cond.fieldLink (cnm 11) 223 (cnm 11) (tC 11 24).2.1 (tC 11 24).2.2.1 ∈ PT := pt_tab (i := 1178) (by decide +kernel) rfl
theorem fl11_229 : Cond.fieldLink (cnm 11) 229 (cnm 11) (tC 11 25).2.1 (tC 11 25).2.2.1 ∈ PT := pt_tab (i := 1179) (by decide +kernel) rfl
theorem fl11_241 : Cond.fieldLink (cnm 11) 241 (cnm 11) (tC 11 26).2.1 (tC 11 26).2.2.1 ∈ PT := pt_tab (i := 1180) (by decide +kernel) rfl
theorem fl11_269 : Cond.fieldLink (cnm 11) 269 (cnm 11) (tC 11 27).2.1 (tC 11 27).2.2.1 ∈ PT := pt_tab (i := 1181) (by decide +kernel) rfl
theorem fl11_55 : Cond.fieldLink (cnm 11) 55 (cnm 11) (tC 11 28).2.1 (tC 11 28).2.2.1 ∈ PT := pt_tab (i := 1182) (by decide +kernel) rfl
theorem fl11_58 : Cond.fieldLink (cnm 11) 58 (cnm 11) (tC 11 29).2.1 (tC 11 29).2.2.1 ∈ PT := pt_tab (i := 1183) (by decide +kernel) rfl
theorem fl11_62 : Cond.fieldLink (cnm 11) 62 (cnm 11) (tC 11 30).2.1 (tC 11 30).2.2.1 ∈ PT := pt_tab (i := 1184) (by decide +kernel) rfl
theorem fl11_65 : Cond.fieldLink (cnm 11) 65 (cnm 11) (tC 11 31).2.1 (tC 11 31).2.2.1 ∈ PT := pt_tab (i := 1185) (by decide +kernel) rfl
theorem fl11_68 : Cond.fieldLink (cnm 11) 68 (cnm 11) (tC 11 32).2.1 (tC 11 32).2.2.1 ∈ PT := pt_tab (i := 1186) (by decide +kernel) rfl
theorem fl11_71 : Cond.fieldLink (cnm 11) 71 (cnm 11) (tC 11 33).2.1 (tC 11 33).2.2.1 ∈ PT := pt_tab (i := 1187) (by decide +kernel) rfl
theorem fl11_74 : Cond.fieldLink (cnm 11) 74 (cnm 11) (tC 11 34).2.1 (tC 11 34).2.2.1 ∈ PT := pt_tab (i := 1188) (by decide +kernel) rfl
theorem fl11_77 : Cond.fieldLink (cnm 11) 77 (cnm 11) (tC 11 35).2.1 (tC 11 35).2.2.1 ∈ PT := pt_tab (i := 1189) (by decide +kernel) rfl
theorem fl11_417 : Cond.fieldLink (cnm 11) 417 (cnm 11) (tC 11 36).2.1 (tC 11 36).2.2.1 ∈ PT := pt_tab (i := 1190) (by decide +kernel) rfl
theorem fl11_423 : Cond.fieldLink (cnm 11) 423 (cnm 11) (tC 11 37).2.1 (tC 11 37).2.2.1 ∈ PT := pt_tab (i := 1191) (by decide +kernel) rfl
theorem fl11_420 : Cond.fieldLink (cnm 11) 420 (cnm 11) (tC 11 38).2.1 (tC 11 38).2.2.1 ∈ PT := pt_tab (i := 1192) (by decide +kernel) rfl
theorem fl11_426 : Cond.fieldLink (cnm 11) 426 (cnm 11) (tC 11 39).2.1 (tC 11 39).2.2.1 ∈ PT := pt_tab (i := 1193) (by decide +kernel) rfl
theorem fl11_455 : Cond.fieldLink (cnm 11) 455 (cnm 11) (tC 11 40).2.1 (tC 11 40).2.2.1 ∈ PT := pt_tab (i := 1194) (by decide +kernel) rfl
theorem fl11_458 : Cond.fieldLink (cnm 11) 458 (cnm 11) (tC 11 41).2.1 (tC 11 41).2.2.1 ∈ PT := pt_tab (i := 1195) (by decide +kernel) rfl
theorem fl11_461 : Cond.fieldLink (cnm 11) 461 (cnm 11) (tC 11 42).2.1 (tC 11 42).2.2.1 ∈ PT := pt_tab (i := 1196) (by decide +kernel) rfl
theorem fl11_471 : Cond.fieldLink (cnm 11) 471 (cnm 11) (tC 11 43).2.1 (tC 11 43).2.2.1 ∈ PT := pt_tab (i := 1197) (by decide +kernel) rfl
theorem fl11_465 : Cond.fieldLink (cnm 11) 465 (cnm 11) (tC 11 44).2.1 (tC 11 44).2.2.1 ∈ PT := pt_tab (i := 1198) (by decide +kernel) rfl
theorem fl11_80 : Cond.fieldLink (cnm 11) 80 (cnm 11) (tC 11 45).2.1 (tC 11 45).2.2.1 ∈ PT := pt_tab (i := 1199) (by decide +kernel) rfl
theorem fl11_83 : Cond.fieldLink (cnm 11) 83 (cnm 11) (tC 11 46).2.1 (tC 11 46).2.2.1 ∈ PT := pt_tab (i := 1200) (by decide +kernel) rfl
theorem fl11_86 : Cond.fieldLink (cnm 11) 86 (cnm 11) (tC 11 47).2.1 (tC 11 47).2.2.1 ∈ PT := pt_tab (i := 1201) (by decide +kernel) rfl
theorem fl11_491 : Cond.fieldLink (cnm 11) 491 (cnm 11) (tC 11 48).2.1 (tC 11 48).2.2.1 ∈ PT := pt_tab (i := 1202) (by decide +kernel) rfl
theorem cl12_7 : Cond.classLink (cnm 12) 7 (cnm 10) ∈ PT := pt_tab (i := 19) (by decide +kernel) rfl
theorem cl10_17 : Cond.classLink (cnm 10) 17 (cnm 5) ∈ PT := pt_tab (i := 27) (by decide +kernel) rfl
theorem cl5_9 : Cond.classLink (cnm 5) 9 (cnm 0) ∈ PT := pt_tab (i := 33) (by decide +kernel) rfl
theorem cl0_28 : Cond.classLink (cnm 0) 28 (cnm 2) ∈ PT := pt_tab (i := 39) (by decide +kernel) rfl
theorem cl5_18 : Cond.classLink (cnm 5) 18 (cnm 4) ∈ PT := pt_tab (i := 160) (by decide +kernel) rfl
theorem cl10_24 : Cond.classLink (cnm 10) 24 (cnm 0) ∈ PT := pt_tab (i := 192) (by decide +kernel) rfl
theorem cl10_34 : Cond.classLink (cnm 10) 34 (cnm 3) ∈ PT := pt_tab (i := 195) (by decide +kernel) rfl
theorem cl3_15 : Cond.classLink (cnm 3) 15 (cnm 0) ∈ PT := pt_tab (i := 201) (by decide +kernel) rfl
theorem cl3_22 : Cond.classLink (cnm 3) 22 (cnm 7) ∈ PT := pt_tab (i := 203) (by decide +kernel) rfl
theorem cl3_29 : Cond.classLink (cnm 3) 29 (cnm 6) ∈ PT := pt_tab (i := 312) (by decide +kernel) rfl
theorem cl10_48 : Cond.classLink (cnm 10) 48 (cnm 8) ∈ PT := pt_tab (i := 344) (by decide +kernel) rfl
theorem cl10_55 : Cond.classLink (cnm 10) 55 (cnm 1) ∈ PT := pt_tab (i := 362) (by decide +kernel) rfl
theorem cl10_62 : Cond.classLink (cnm 10) 62 (cnm 9) ∈ PT := pt_tab (i := 389) (by decide +kernel) rfl
theorem cl12_10 : Cond.classLink (cnm 12) 10 (cnm 11) ∈ PT := pt_tab (i := 1143) (by decide +kernel) rfl
theorem ib10 : Cond.instantiable (cnm 10) (nfC 10) ∈ PT := pt_tab (i := 20) (by decide +kernel) rfl
theorem ib5 : Cond.instantiable (cnm 5) (nfC 5) ∈ PT := pt_tab (i := 28) (by decide +kernel) rfl
theorem ib0 : Cond.instantiable (cnm 0) (nfC 0) ∈ PT := pt_tab (i := 34) (by decide +kernel) rfl
theorem ib2 : Cond.instantiable (cnm 2) (nfC 2) ∈ PT := pt_tab (i := 41) (by decide +kernel) rfl
theorem ib4 : Cond.instantiable (cnm 4) (nfC 4) ∈ PT := pt_tab (i := 162) (by decide +kernel) rfl
theorem ib3 : Cond.instantiable (cnm 3) (nfC 3) ∈ PT := pt_tab (i := 196) (by decide +kernel) rfl
theorem ib7 : Cond.instantiable (cnm 7) (nfC 7) ∈ PT := pt_tab (i := 204) (by decide +kernel) rfl
theorem ib8 : Cond.instantiable (cnm 8) (nfC 8) ∈ PT := pt_tab (i := 345) (by decide +kernel) rfl
theorem ib1 : Cond.instantiable (cnm 1) (nfC 1) ∈ PT := pt_tab (i := 363) (by decide +kernel) rfl
theorem ib9 : Cond.instantiable (cnm 9) (nfC 9) ∈ PT := pt_tab (i := 390) (by decide +kernel) rfl
theorem ib6 : Cond.instantiable (cnm 6) (nfC 6) ∈ PT := pt_tab (i := 601) (by decide +kernel) rfl
theorem ib11 : Cond.instantiable (cnm 11) (nfC 11) ∈ PT := pt_tab (i := 1144) (by decide +kernel) rfl
theorem in12 : Cond.initialized (cnm 12) ∈ PT := pt_tab (i := 0) (by decide +kernel) rfl
theorem in10 : Cond.initialized (cnm 10) ∈ PT := pt_tab (i := 1) (by decide +kernel) rfl
theorem in5 : Cond.initialized (cnm 5) ∈ PT := pt_tab (i := 2) (by decide +kernel) rfl
theorem in0 : Cond.initialized (cnm 0) ∈ PT := pt_tab (i := 3) (by decide +kernel) rfl
theorem in2 : Cond.initialized (cnm 2) ∈ PT := pt_tab (i := 4) (by decide +kernel) rfl
theorem in4 : Cond.initialized (cnm 4) ∈ PT := pt_tab (i := 5) (by decide +kernel) rfl
theorem in3 : Cond.initialized (cnm 3) ∈ PT := pt_tab (i := 6) (by decide +kernel) rfl
theorem in7 : Cond.initialized (cnm 7) ∈ PT := pt_tab (i := 7) (by decide +kernel) rfl
theorem in15 : Cond.initialized (cnm 15) ∈ PT := pt_tab (i := 8) (by decide +kernel) rfl
theorem in16 : Cond.initialized (cnm 16) ∈ PT := pt_tab (i := 9) (by decide +kernel) rfl
theorem in17 : Cond.initialized (cnm 17) ∈ PT := pt_tab (i := 10) (by decide +kernel) rfl
theorem in8 : Cond.initialized (cnm 8) ∈ PT := pt_tab (i := 12) (by decide +kernel) rfl
theorem in1 : Cond.initialized (cnm 1) ∈ PT := pt_tab (i := 13) (by decide +kernel) rfl
theorem in9 : Cond.initialized (cnm 9) ∈ PT := pt_tab (i := 14) (by decide +kernel) rfl
theorem in11 : Cond.initialized (cnm 11) ∈ PT := pt_tab (i := 15) (by decide +kernel) rfl
theorem in6 : Cond.initialized (cnm 6) ∈ PT := pt_tab (i := 16) (by decide +kernel) rfl
theorem in14 : Cond.initialized (cnm 14) ∈ PT := pt_tab (i := 17) (by decide +kernel) rfl
theorem in13 : Cond.initialized (cnm 13) ∈ PT := pt_tab (i := 18) (by decide +kernel) rfl
theorem ao2 : Cond.arrayOver (.object (cnm 2)) ∈ lw_tbl := lw_tab (i := 40) (by decide +kernel)
theorem ao4 : Cond.arrayOver (.object (cnm 4)) ∈ lw_tbl := lw_tab (i := 161) (by decide +kernel)
theorem ao0 : Cond.arrayOver (.object (cnm 0)) ∈ lw_tbl := lw_tab (i := 193) (by decide +kernel)
theorem ao5 : Cond.arrayOver (.object (cnm 5)) ∈ lw_tbl := lw_tab (i := 194) (by decide +kernel)
theorem ao6 : Cond.arrayOver (.object (cnm 6)) ∈ lw_tbl := lw_tab (i := 313) (by decide +kernel)
theorem ac_byte : Cond.arrayClass (newarray.typeOf .byte) ∈ PT := pt_tab (i := 111) (by decide +kernel) rfl
theorem ac_int : Cond.arrayClass (newarray.typeOf .int) ∈ PT := pt_tab (i := 112) (by decide +kernel) rfl
theorem ac_long : Cond.arrayClass (newarray.typeOf .long) ∈ PT := pt_tab (i := 311) (by decide +kernel) rfl
theorem ac_boolean : Cond.arrayClass (newarray.typeOf .boolean) ∈ PT := pt_tab (i := 1302) (by decide +kernel) rfl
theorem kc7_75 : Cond.constantLong (cnm 7) 75 (10 : Int64) ∈ PT := pt_tab (i := 486) (by decide +kernel) rfl
theorem kc7_81 : Cond.constantLong (cnm 7) 81 (59 : Int64) ∈ PT := pt_tab (i := 495) (by decide +kernel) rfl
theorem kc7_83 : Cond.constantLong (cnm 7) 83 (123 : Int64) ∈ PT := pt_tab (i := 496) (by decide +kernel) rfl
theorem kc7_85 : Cond.constantLong (cnm 7) 85 (125 : Int64) ∈ PT := pt_tab (i := 497) (by decide +kernel) rfl
theorem kc7_87 : Cond.constantLong (cnm 7) 87 (40 : Int64) ∈ PT := pt_tab (i := 498) (by decide +kernel) rfl
theorem kc7_89 : Cond.constantLong (cnm 7) 89 (41 : Int64) ∈ PT := pt_tab (i := 499) (by decide +kernel) rfl
theorem kc7_91 : Cond.constantLong (cnm 7) 91 (61 : Int64) ∈ PT := pt_tab (i := 500) (by decide +kernel) rfl
theorem kc7_93 : Cond.constantLong (cnm 7) 93 (60 : Int64) ∈ PT := pt_tab (i := 501) (by decide +kernel) rfl
theorem kc7_95 : Cond.constantLong (cnm 7) 95 (62 : Int64) ∈ PT := pt_tab (i := 502) (by decide +kernel) rfl
theorem kc0_122 : Cond.constant (cnm 0) 122 (16777215 : Int32) ∈ PT := pt_tab (i := 676) (by decide +kernel) rfl
theorem kc10_355 : Cond.constant (cnm 10) 355 (1073741824 : Int32) ∈ PT := pt_tab (i := 744) (by decide +kernel) rfl
theorem kc13_265 : Cond.constant (cnm 13) 265 (1431655765 : Int32) ∈ PT := pt_tab (i := 779) (by decide +kernel) rfl
theorem kc13_266 : Cond.constant (cnm 13) 266 (858993459 : Int32) ∈ PT := pt_tab (i := 780) (by decide +kernel) rfl
theorem kc13_267 : Cond.constant (cnm 13) 267 (252645135 : Int32) ∈ PT := pt_tab (i := 781) (by decide +kernel) rfl
theorem kc10_312 : Cond.constant (cnm 10) 312 (16777215 : Int32) ∈ PT := pt_tab (i := 983) (by decide +kernel) rfl
theorem kc10_316 : Cond.constantFloat (cnm 10) 316 (3212836864 : UInt32) ∈ PT := pt_tab (i := 988) (by decide +kernel) rfl
theorem kc11_93 : Cond.constantLong (cnm 11) 93 (-1 : Int64) ∈ PT := pt_tab (i := 1153) (by decide +kernel) rfl
theorem kc11_198 : Cond.constantLong (cnm 11) 198 (32 : Int64) ∈ PT := pt_tab (i := 1334) (by decide +kernel) rfl
theorem kc11_200 : Cond.constantLong (cnm 11) 200 (96 : Int64) ∈ PT := pt_tab (i := 1335) (by decide +kernel) rfl
theorem kc11_162 : Cond.constantLong (cnm 11) 162 (212557 : Int64) ∈ PT := pt_tab (i := 1339) (by decide +kernel) rfl
theorem kc11_164 : Cond.constantLong (cnm 11) 164 (7945904 : Int64) ∈ PT := pt_tab (i := 1340) (by decide +kernel) rfl
theorem kc11_166 : Cond.constantLong (cnm 11) 166 (294 : Int64) ∈ PT := pt_tab (i := 1341) (by decide +kernel) rfl
theorem kc11_168 : Cond.constantLong (cnm 11) 168 (24416904 : Int64) ∈ PT := pt_tab (i := 1342) (by decide +kernel) rfl
theorem kc11_170 : Cond.constantLong (cnm 11) 170 (492210354 : Int64) ∈ PT := pt_tab (i := 1343) (by decide +kernel) rfl
theorem kc11_172 : Cond.constantLong (cnm 11) 172 (109552741 : Int64) ∈ PT := pt_tab (i := 1344) (by decide +kernel) rfl
theorem kc11_174 : Cond.constantLong (cnm 11) 174 (26398159 : Int64) ∈ PT := pt_tab (i := 1345) (by decide +kernel) rfl
theorem kc11_176 : Cond.constantLong (cnm 11) 176 (498 : Int64) ∈ PT := pt_tab (i := 1346) (by decide +kernel) rfl
theorem kc11_178 : Cond.constantLong (cnm 11) 178 (1476 : Int64) ∈ PT := pt_tab (i := 1347) (by decide +kernel) rfl
theorem kc11_180 : Cond.constantLong (cnm 11) 180 (14836 : Int64) ∈ PT := pt_tab (i := 1348) (by decide +kernel) rfl
theorem kc11_292 : Cond.constantLong (cnm 11) 292 (8 : Int64) ∈ PT := pt_tab (i := 1446) (by decide +kernel) rfl
theorem kc11_377 : Cond.constantLong (cnm 11) 377 (-2 : Int64) ∈ PT := pt_tab (i := 1620) (by decide +kernel) rfl
theorem kc11_407 : Cond.constantLong (cnm 11) 407 (31 : Int64) ∈ PT := pt_tab (i := 1679) (by decide +kernel) rfl
theorem kc11_416 : Cond.constantFloat (cnm 11) 416 (3212836864 : UInt32) ∈ PT := pt_tab (i := 1736) (by decide +kernel) rfl
theorem kc11_464 : Cond.constant (cnm 11) 464 (1000000 : Int32) ∈ PT := pt_tab (i := 1796) (by decide +kernel) rfl
theorem dJ3_checkIndex_8e157_0 : decode cJ3_checkIndex_8e157 0 = .ok (.iload_n 0, 1) := by decide +kernel
theorem dJ3_checkIndex_8e157_1 : decode cJ3_checkIndex_8e157 1 = .ok (.ifCond .lt 8, 3) := by decide +kernel
theorem dJ3_checkIndex_8e157_4 : decode cJ3_checkIndex_8e157 4 = .ok (.iload_n 0, 1) := by decide +kernel
theorem dJ3_checkIndex_8e157_5 : decode cJ3_checkIndex_8e157 5 = .ok (.iload_n 1, 1) := by decide +kernel
theorem dJ3_checkIndex_8e157_6 : decode cJ3_checkIndex_8e157 6 = .ok (.if_icmp .lt 10, 3) := by decide +kernel
theorem dJ3_checkIndex_8e157_9 : decode cJ3_checkIndex_8e157 9 = .ok (.aload_n 2, 1) := by decide +kernel
theorem dJ3_checkIndex_8e157_10 : decode cJ3_checkIndex_8e157 10 = .ok (.iload_n 0, 1) := by decide +kernel
theorem dJ3_checkIndex_8e157_11 : decode cJ3_checkIndex_8e157 11 = .ok (.iload_n 1, 1) := by decide +kernel
theorem dJ3_checkIndex_8e157_12 : decode cJ3_checkIndex_8e157 12 = .ok (.invokestatic 95, 3) := by decide +kernel
theorem dJ3_checkIndex_8e157_15 : decode cJ3_checkIndex_8e157 15 = .ok (.athrow, 1) := by decide +kernel
theorem dJ3_checkIndex_8e157_16 : decode cJ3_checkIndex_8e157 16 = .ok (.iload_n 0, 1) := by decide +kernel
theorem dJ3_checkIndex_8e157_17 : decode cJ3_checkIndex_8e157 17 = .ok (.ireturn, 1) := by decide +kernel
