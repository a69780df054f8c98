theorem wd73 : Cond.classLink "DummyInchesLaw" 7 "DummyInches" ∈ gtb := mg 73 (by decide +kernel) (by decide +kernel)
theorem wd74 : Cond.instantiable "DummyInches" 12 ∈ gtb := mg 74 (by decide +kernel) (by decide +kernel)
theorem wd75 : Cond.methodLink "DummyInchesLaw" 9 ⟨"DummyInches", "<init>", "()V"⟩ ∈ gtb := mg 75 (by decide +kernel) (by decide +kernel)
theorem wd76 : Cond.instanceMethod ⟨"DummyInches", "<init>", "()V"⟩ ∈ gtb := mg 76 (by decide +kernel) (by decide +kernel)
theorem wd252 : Cond.methodLink "DummyInchesLaw" 13 ⟨"DummyInches", "row", "(III)I"⟩ ∈ gtb := mg 252 (by decide +kernel) (by decide +kernel)
theorem wd253 : Cond.instanceMethod ⟨"DummyInches", "row", "(III)I"⟩ ∈ gtb := mg 253 (by decide +kernel) (by decide +kernel)
theorem wd254 : Cond.selects "DummyInches" ⟨"DummyInches", "row", "(III)I"⟩ ⟨"DummyInches", "row", "(III)I"⟩ ∈ gtb := mg 254 (by decide +kernel) (by decide +kernel)
theorem wd279 : Cond.methodLink "DummyInchesLaw" 18 ⟨"DummyInches", "set", "(III)I"⟩ ∈ gtb := mg 279 (by decide +kernel) (by decide +kernel)
theorem wd280 : Cond.instanceMethod ⟨"DummyInches", "set", "(III)I"⟩ ∈ gtb := mg 280 (by decide +kernel) (by decide +kernel)
theorem wd281 : Cond.selects "DummyInches" ⟨"DummyInches", "set", "(III)I"⟩ ⟨"DummyInches", "set", "(III)I"⟩ ∈ gtb := mg 281 (by decide +kernel) (by decide +kernel)
theorem wd302 : Cond.methodLink "DummyInchesLaw" 22 ⟨"DummyInches", "copy", "(IIIII)I"⟩ ∈ gtb := mg 302 (by decide +kernel) (by decide +kernel)
theorem wd303 : Cond.instanceMethod ⟨"DummyInches", "copy", "(IIIII)I"⟩ ∈ gtb := mg 303 (by decide +kernel) (by decide +kernel)
theorem wd304 : Cond.selects "DummyInches" ⟨"DummyInches", "copy", "(IIIII)I"⟩ ⟨"DummyInches", "copy", "(IIIII)I"⟩ ∈ gtb := mg 304 (by decide +kernel) (by decide +kernel)
theorem wd317 : Cond.methodLink "DummyInchesLaw" 27 ⟨"DummyInches", "drop", "(I)I"⟩ ∈ gtb := mg 317 (by decide +kernel) (by decide +kernel)
theorem wd318 : Cond.instanceMethod ⟨"DummyInches", "drop", "(I)I"⟩ ∈ gtb := mg 318 (by decide +kernel) (by decide +kernel)
theorem wd319 : Cond.selects "DummyInches" ⟨"DummyInches", "drop", "(I)I"⟩ ⟨"DummyInches", "drop", "(I)I"⟩ ∈ gtb := mg 319 (by decide +kernel) (by decide +kernel)
theorem wd326 : Cond.methodLink "DummyInchesLaw" 32 ⟨"DummyInches", "feed", "(I)I"⟩ ∈ gtb := mg 326 (by decide +kernel) (by decide +kernel)
theorem wd327 : Cond.instanceMethod ⟨"DummyInches", "feed", "(I)I"⟩ ∈ gtb := mg 327 (by decide +kernel) (by decide +kernel)
theorem wd328 : Cond.selects "DummyInches" ⟨"DummyInches", "feed", "(I)I"⟩ ⟨"DummyInches", "feed", "(I)I"⟩ ∈ gtb := mg 328 (by decide +kernel) (by decide +kernel)
theorem wd339 : Cond.methodLink "DummyInchesLaw" 36 ⟨"DummyInches", "street", "()I"⟩ ∈ gtb := mg 339 (by decide +kernel) (by decide +kernel)
theorem wd340 : Cond.instanceMethod ⟨"DummyInches", "street", "()I"⟩ ∈ gtb := mg 340 (by decide +kernel) (by decide +kernel)
theorem wd341 : Cond.selects "DummyInches" ⟨"DummyInches", "street", "()I"⟩ ⟨"DummyInches", "street", "()I"⟩ ∈ gtb := mg 341 (by decide +kernel) (by decide +kernel)
theorem wd466 : Cond.methodLink "DummyInchesLaw" 41 ⟨"DummyInches", "fault", "()I"⟩ ∈ gtb := mg 466 (by decide +kernel) (by decide +kernel)
theorem wd467 : Cond.instanceMethod ⟨"DummyInches", "fault", "()I"⟩ ∈ gtb := mg 467 (by decide +kernel) (by decide +kernel)
theorem wd468 : Cond.selects "DummyInches" ⟨"DummyInches", "fault", "()I"⟩ ⟨"DummyInches", "fault", "()I"⟩ ∈ gtb := mg 468 (by decide +kernel) (by decide +kernel)
theorem wd470 : Cond.methodLink "DummyInchesLaw" 45 ⟨"DummyInches", "undo", "()I"⟩ ∈ gtb := mg 470 (by decide +kernel) (by decide +kernel)
theorem wd471 : Cond.instanceMethod ⟨"DummyInches", "undo", "()I"⟩ ∈ gtb := mg 471 (by decide +kernel) (by decide +kernel)
theorem wd472 : Cond.selects "DummyInches" ⟨"DummyInches", "undo", "()I"⟩ ⟨"DummyInches", "undo", "()I"⟩ ∈ gtb := mg 472 (by decide +kernel) (by decide +kernel)
theorem wd475 : Cond.methodLink "DummyInchesLaw" 49 ⟨"DummyInches", "tell", "(IIII)I"⟩ ∈ gtb := mg 475 (by decide +kernel) (by decide +kernel)
theorem wd476 : Cond.instanceMethod ⟨"DummyInches", "tell", "(IIII)I"⟩ ∈ gtb := mg 476 (by decide +kernel) (by decide +kernel)
theorem wd477 : Cond.selects "DummyInches" ⟨"DummyInches", "tell", "(IIII)I"⟩ ⟨"DummyInches", "tell", "(IIII)I"⟩ ∈ gtb := mg 477 (by decide +kernel) (by decide +kernel)
theorem wd544 : Cond.methodLink "DummyInchesLaw" 54 ⟨"DummyInches", "year", "()I"⟩ ∈ gtb := mg 544 (by decide +kernel) (by decide +kernel)
theorem wd545 : Cond.instanceMethod ⟨"DummyInches", "year", "()I"⟩ ∈ gtb := mg 545 (by decide +kernel) (by decide +kernel)
theorem wd546 : Cond.selects "DummyInches" ⟨"DummyInches", "year", "()I"⟩ ⟨"DummyInches", "year", "()I"⟩ ∈ gtb := mg 546 (by decide +kernel) (by decide +kernel)
theorem wd557 : Cond.methodLink "DummyInchesLaw" 58 ⟨"DummyInches", "swap", "(II)I"⟩ ∈ gtb := mg 557 (by decide +kernel) (by decide +kernel)
theorem wd558 : Cond.instanceMethod ⟨"DummyInches", "swap", "(II)I"⟩ ∈ gtb := mg 558 (by decide +kernel) (by decide +kernel)
theorem wd559 : Cond.selects "DummyInches" ⟨"DummyInches", "swap", "(II)I"⟩ ⟨"DummyInches", "swap", "(II)I"⟩ ∈ gtb := mg 559 (by decide +kernel) (by decide +kernel)
theorem wd573 : Cond.methodLink "DummyInchesLaw" 63 ⟨"DummyInches", "close", "()I"⟩ ∈ gtb := mg 573 (by decide +kernel) (by decide +kernel)
theorem wd574 : Cond.instanceMethod ⟨"DummyInches", "close", "()I"⟩ ∈ gtb := mg 574 (by decide +kernel) (by decide +kernel)
theorem wd575 : Cond.selects "DummyInches" ⟨"DummyInches", "close", "()I"⟩ ⟨"DummyInches", "close", "()I"⟩ ∈ gtb := mg 575 (by decide +kernel) (by decide +kernel)
theorem wd582 : Cond.methodLink "DummyInchesLaw" 67 ⟨"DummyInches", "dummy", "(III)I"⟩ ∈ gtb := mg 582 (by decide +kernel) (by decide +kernel)
theorem wd583 : Cond.instanceMethod ⟨"DummyInches", "dummy", "(III)I"⟩ ∈ gtb := mg 583 (by decide +kernel) (by decide +kernel)
theorem wd584 : Cond.selects "DummyInches" ⟨"DummyInches", "dummy", "(III)I"⟩ ⟨"DummyInches", "dummy", "(III)I"⟩ ∈ gtb := mg 584 (by decide +kernel) (by decide +kernel)
theorem wd590 : Cond.methodLink "DummyInchesLaw" 71 ⟨"DummyInches", "line", "(II)I"⟩ ∈ gtb := mg 590 (by decide +kernel) (by decide +kernel)
theorem wd591 : Cond.instanceMethod ⟨"DummyInches", "line", "(II)I"⟩ ∈ gtb := mg 591 (by decide +kernel) (by decide +kernel)
theorem wd592 : Cond.selects "DummyInches" ⟨"DummyInches", "line", "(II)I"⟩ ⟨"DummyInches", "line", "(II)I"⟩ ∈ gtb := mg 592 (by decide +kernel) (by decide +kernel)
theorem wd598 : Cond.methodLink "DummyInchesLaw" 75 ⟨"DummyInches", "pads", "(II)I"⟩ ∈ gtb := mg 598 (by decide +kernel) (by decide +kernel)
theorem wd599 : Cond.instanceMethod ⟨"DummyInches", "pads", "(II)I"⟩ ∈ gtb := mg 599 (by decide +kernel) (by decide +kernel)
theorem wd600 : Cond.selects "DummyInches" ⟨"DummyInches", "pads", "(II)I"⟩ ⟨"DummyInches", "pads", "(II)I"⟩ ∈ gtb := mg 600 (by decide +kernel) (by decide +kernel)
theorem wd602 : Cond.methodLink "DummyInchesLaw" 79 ⟨"DummyInches", "was", "(III)I"⟩ ∈ gtb := mg 602 (by decide +kernel) (by decide +kernel)
theorem wd603 : Cond.instanceMethod ⟨"DummyInches", "was", "(III)I"⟩ ∈ gtb := mg 603 (by decide +kernel) (by decide +kernel)
theorem wd604 : Cond.selects "DummyInches" ⟨"DummyInches", "was", "(III)I"⟩ ⟨"DummyInches", "was", "(III)I"⟩ ∈ gtb := mg 604 (by decide +kernel) (by decide +kernel)
theorem wd615 : Cond.methodLink "DummyInchesLaw" 83 ⟨"DummyInches", "liars", "(IIII)I"⟩ ∈ gtb := mg 615 (by decide +kernel) (by decide +kernel)
theorem wd616 : Cond.instanceMethod ⟨"DummyInches", "liars", "(IIII)I"⟩ ∈ gtb := mg 616 (by decide +kernel) (by decide +kernel)
theorem wd617 : Cond.selects "DummyInches" ⟨"DummyInches", "liars", "(IIII)I"⟩ ⟨"DummyInches", "liars", "(IIII)I"⟩ ∈ gtb := mg 617 (by decide +kernel) (by decide +kernel)
theorem wd667 : Cond.methodLink "DummyInchesLaw" 87 ⟨"DummyInches", "blame", "(IIIII)I"⟩ ∈ gtb := mg 667 (by decide +kernel) (by decide +kernel)
theorem wd668 : Cond.instanceMethod ⟨"DummyInches", "blame", "(IIIII)I"⟩ ∈ gtb := mg 668 (by decide +kernel) (by decide +kernel)
theorem wd669 : Cond.selects "DummyInches" ⟨"DummyInches", "blame", "(IIIII)I"⟩ ⟨"DummyInches", "blame", "(IIIII)I"⟩ ∈ gtb := mg 669 (by decide +kernel) (by decide +kernel)
theorem wd681 : Cond.methodLink "DummyInchesLaw" 91 ⟨"DummyInches", "right", "(II)I"⟩ ∈ gtb := mg 681 (by decide +kernel) (by decide +kernel)
theorem wd682 : Cond.instanceMethod ⟨"DummyInches", "right", "(II)I"⟩ ∈ gtb := mg 682 (by decide +kernel) (by decide +kernel)
theorem wd683 : Cond.selects "DummyInches" ⟨"DummyInches", "right", "(II)I"⟩ ⟨"DummyInches", "right", "(II)I"⟩ ∈ gtb := mg 683 (by decide +kernel) (by decide +kernel)
theorem wd698 : Cond.methodLink "DummyInchesLaw" 95 ⟨"DummyInches", "most", "(III)I"⟩ ∈ gtb := mg 698 (by decide +kernel) (by decide +kernel)
theorem wd699 : Cond.instanceMethod ⟨"DummyInches", "most", "(III)I"⟩ ∈ gtb := mg 699 (by decide +kernel) (by decide +kernel)
theorem wd700 : Cond.selects "DummyInches" ⟨"DummyInches", "most", "(III)I"⟩ ⟨"DummyInches", "most", "(III)I"⟩ ∈ gtb := mg 700 (by decide +kernel) (by decide +kernel)
theorem wd714 : Cond.methodLink "DummyInchesLaw" 99 ⟨"DummyInches", "swaps", "(III)I"⟩ ∈ gtb := mg 714 (by decide +kernel) (by decide +kernel)
theorem wd715 : Cond.instanceMethod ⟨"DummyInches", "swaps", "(III)I"⟩ ∈ gtb := mg 715 (by decide +kernel) (by decide +kernel)
theorem wd716 : Cond.selects "DummyInches" ⟨"DummyInches", "swaps", "(III)I"⟩ ⟨"DummyInches", "swaps", "(III)I"⟩ ∈ gtb := mg 716 (by decide +kernel) (by decide +kernel)
theorem wd725 : Cond.methodLink "DummyInchesLaw" 103 ⟨"DummyInches", "lent", "(II)I"⟩ ∈ gtb := mg 725 (by decide +kernel) (by decide +kernel)
theorem wd726 : Cond.instanceMethod ⟨"DummyInches", "lent", "(II)I"⟩ ∈ gtb := mg 726 (by decide +kernel) (by decide +kernel)
theorem wd727 : Cond.selects "DummyInches" ⟨"DummyInches", "lent", "(II)I"⟩ ⟨"DummyInches", "lent", "(II)I"⟩ ∈ gtb := mg 727 (by decide +kernel) (by decide +kernel)
theorem wd740 : Cond.methodLink "DummyInchesLaw" 107 ⟨"DummyInches", "parted", "(IIII)I"⟩ ∈ gtb := mg 740 (by decide +kernel) (by decide +kernel)
theorem wd741 : Cond.instanceMethod ⟨"DummyInches", "parted", "(IIII)I"⟩ ∈ gtb := mg 741 (by decide +kernel) (by decide +kernel)
theorem wd742 : Cond.selects "DummyInches" ⟨"DummyInches", "parted", "(IIII)I"⟩ ⟨"DummyInches", "parted", "(IIII)I"⟩ ∈ gtb := mg 742 (by decide +kernel) (by decide +kernel)
theorem wd748 : Cond.methodLink "DummyInchesLaw" 111 ⟨"DummyInches", "addedUp", "(III)I"⟩ ∈ gtb := mg 748 (by decide +kernel) (by decide +kernel)
theorem wd749 : Cond.instanceMethod ⟨"DummyInches", "addedUp", "(III)I"⟩ ∈ gtb := mg 749 (by decide +kernel) (by decide +kernel)
theorem wd750 : Cond.selects "DummyInches" ⟨"DummyInches", "addedUp", "(III)I"⟩ ⟨"DummyInches", "addedUp", "(III)I"⟩ ∈ gtb := mg 750 (by decide +kernel) (by decide +kernel)
theorem wd759 : Cond.methodLink "DummyInchesLaw" 115 ⟨"DummyInches", "felt", "(III)I"⟩ ∈ gtb := mg 759 (by decide +kernel) (by decide +kernel)
theorem wd760 : Cond.instanceMethod ⟨"DummyInches", "felt", "(III)I"⟩ ∈ gtb := mg 760 (by decide +kernel) (by decide +kernel)
theorem wd761 : Cond.selects "DummyInches" ⟨"DummyInches", "felt", "(III)I"⟩ ⟨"DummyInches", "felt", "(III)I"⟩ ∈ gtb := mg 761 (by decide +kernel) (by decide +kernel)
theorem wd778 : Cond.methodLink "DummyInchesLaw" 119 ⟨"DummyInches", "twins", "(I)I"⟩ ∈ gtb := mg 778 (by decide +kernel) (by decide +kernel)
theorem wd779 : Cond.instanceMethod ⟨"DummyInches", "twins", "(I)I"⟩ ∈ gtb := mg 779 (by decide +kernel) (by decide +kernel)
theorem wd780 : Cond.selects "DummyInches" ⟨"DummyInches", "twins", "(I)I"⟩ ⟨"DummyInches", "twins", "(I)I"⟩ ∈ gtb := mg 780 (by decide +kernel) (by decide +kernel)
theorem wd802 : Cond.methodLink "DummyInchesLaw" 123 ⟨"DummyInches", "image", "(I)I"⟩ ∈ gtb := mg 802 (by decide +kernel) (by decide +kernel)
theorem wd803 : Cond.instanceMethod ⟨"DummyInches", "image", "(I)I"⟩ ∈ gtb := mg 803 (by decide +kernel) (by decide +kernel)
theorem wd804 : Cond.selects "DummyInches" ⟨"DummyInches", "image", "(I)I"⟩ ⟨"DummyInches", "image", "(I)I"⟩ ∈ gtb := mg 804 (by decide +kernel) (by decide +kernel)
theorem wd806 : Cond.methodLink "DummyInchesLaw" 127 ⟨"DummyInches", "restore", "(I)I"⟩ ∈ gtb := mg 806 (by decide +kernel) (by decide +kernel)
theorem wd807 : Cond.instanceMethod ⟨"DummyInches", "restore", "(I)I"⟩ ∈ gtb := mg 807 (by decide +kernel) (by decide +kernel)
theorem wd808 : Cond.selects "DummyInches" ⟨"DummyInches", "restore", "(I)I"⟩ ⟨"DummyInches", "restore", "(I)I"⟩ ∈ gtb := mg 808 (by decide +kernel) (by decide +kernel)
theorem wd810 : Cond.methodLink "DummyInchesLaw" 131 ⟨"DummyInches", "kind", "(I)I"⟩ ∈ gtb := mg 810 (by decide +kernel) (by decide +kernel)
theorem wd811 : Cond.instanceMethod ⟨"DummyInches", "kind", "(I)I"⟩ ∈ gtb := mg 811 (by decide +kernel) (by decide +kernel)
theorem wd812 : Cond.selects "DummyInches" ⟨"DummyInches", "kind", "(I)I"⟩ ⟨"DummyInches", "kind", "(I)I"⟩ ∈ gtb := mg 812 (by decide +kernel) (by decide +kernel)
theorem wd832 : Cond.methodLink "DummyInchesLaw" 135 ⟨"DummyInches", "as", "(II)I"⟩ ∈ gtb := mg 832 (by decide +kernel) (by decide +kernel)
theorem wd833 : Cond.instanceMethod ⟨"DummyInches", "as", "(II)I"⟩ ∈ gtb := mg 833 (by decide +kernel) (by decide +kernel)
theorem wd834 : Cond.selects "DummyInches" ⟨"DummyInches", "as", "(II)I"⟩ ⟨"DummyInches", "as", "(II)I"⟩ ∈ gtb := mg 834 (by decide +kernel) (by decide +kernel)
theorem wd844 : Cond.methodLink "DummyInchesLaw" 139 ⟨"DummyInches", "ask", "(II)I"⟩ ∈ gtb := mg 844 (by decide +kernel) (by decide +kernel)
theorem wd845 : Cond.instanceMethod ⟨"DummyInches", "ask", "(II)I"⟩ ∈ gtb := mg 845 (by decide +kernel) (by decide +kernel)
theorem wd846 : Cond.selects "DummyInches" ⟨"DummyInches", "ask", "(II)I"⟩ ⟨"DummyInches", "ask", "(II)I"⟩ ∈ gtb := mg 846 (by decide +kernel) (by decide +kernel)
theorem wd908 : Cond.methodLink "DummyInchesLaw" 143 ⟨"DummyInches", "trace", "(I)I"⟩ ∈ gtb := mg 908 (by decide +kernel) (by decide +kernel)
theorem wd909 : Cond.instanceMethod ⟨"DummyInches", "trace", "(I)I"⟩ ∈ gtb := mg 909 (by decide +kernel) (by decide +kernel)
theorem wd910 : Cond.selects "DummyInches" ⟨"DummyInches", "trace", "(I)I"⟩ ⟨"DummyInches", "trace", "(I)I"⟩ ∈ gtb := mg 910 (by decide +kernel) (by decide +kernel)
theorem wd917 : Cond.methodLink "DummyInchesLaw" 147 ⟨"DummyInches", "count", "(I)I"⟩ ∈ gtb := mg 917 (by decide +kernel) (by decide +kernel)
theorem wd918 : Cond.instanceMethod ⟨"DummyInches", "count", "(I)I"⟩ ∈ gtb := mg 918 (by decide +kernel) (by decide +kernel)
theorem wd919 : Cond.selects "DummyInches" ⟨"DummyInches", "count", "(I)I"⟩ ⟨"DummyInches", "count", "(I)I"⟩ ∈ gtb := mg 919 (by decide +kernel) (by decide +kernel)
theorem wd929 : Cond.methodLink "DummyInchesLaw" 151 ⟨"DummyInches", "status", "()I"⟩ ∈ gtb := mg 929 (by decide +kernel) (by decide +kernel)
theorem wd930 : Cond.instanceMethod ⟨"DummyInches", "status", "()I"⟩ ∈ gtb := mg 930 (by decide +kernel) (by decide +kernel)
theorem wd931 : Cond.selects "DummyInches" ⟨"DummyInches", "status", "()I"⟩ ⟨"DummyInches", "status", "()I"⟩ ∈ gtb := mg 931 (by decide +kernel) (by decide +kernel)
theorem wd933 : Cond.classLink "DummyInchesLaw" 10 "DummyInchesModel" ∈ gtb := mg 933 (by decide +kernel) (by decide +kernel)
theorem wd934 : Cond.instantiable "DummyInchesModel" 26 ∈ gtb := mg 934 (by decide +kernel) (by decide +kernel)
theorem wd935 : Cond.methodLink "DummyInchesLaw" 12 ⟨"DummyInchesModel", "<init>", "()V"⟩ ∈ gtb := mg 935 (by decide +kernel) (by decide +kernel)
theorem wd936 : Cond.instanceMethod ⟨"DummyInchesModel", "<init>", "()V"⟩ ∈ gtb := mg 936 (by decide +kernel) (by decide +kernel)
theorem wd1018 : Cond.methodLink "DummyInchesLaw" 17 ⟨"DummyInchesModel", "row", "(III)I"⟩ ∈ gtb := mg 1018 (by decide +kernel) (by decide +kernel)
theorem wd1019 : Cond.instanceMethod ⟨"DummyInchesModel", "row", "(III)I"⟩ ∈ gtb := mg 1019 (by decide +kernel) (by decide +kernel)
theorem wd1020 : Cond.selects "DummyInchesModel" ⟨"DummyInchesModel", "row", "(III)I"⟩ ⟨"DummyInchesModel", "row", "(III)I"⟩ ∈ gtb := mg 1020 (by decide +kernel) (by decide +kernel)
theorem wd1036 : Cond.methodLink "DummyInchesLaw" 21 ⟨"DummyInchesModel", "set", "(III)I"⟩ ∈ gtb := mg 1036 (by decide +kernel) (by decide +kernel)
theorem wd1037 : Cond.instanceMethod ⟨"DummyInchesModel", "set", "(III)I"⟩ ∈ gtb := mg 1037 (by decide +kernel) (by decide +kernel)
theorem wd1038 : Cond.selects "DummyInchesModel" ⟨"DummyInchesModel", "set", "(III)I"⟩ ⟨"DummyInchesModel", "set", "(III)I"⟩ ∈ gtb := mg 1038 (by decide +kernel) (by decide +kernel)
theorem wd1040 : Cond.methodLink "DummyInchesLaw" 26 ⟨"DummyInchesModel", "copy", "(IIIII)I"⟩ ∈ gtb := mg 1040 (by decide +kernel) (by decide +kernel)
theorem wd1041 : Cond.instanceMethod ⟨"DummyInchesModel", "copy", "(IIIII)I"⟩ ∈ gtb := mg 1041 (by decide +kernel) (by decide +kernel)
theorem wd1042 : Cond.selects "DummyInchesModel" ⟨"DummyInchesModel", "copy", "(IIIII)I"⟩ ⟨"DummyInchesModel", "copy", "(IIIII)I"⟩ ∈ gtb := mg 1042 (by decide +kernel) (by decide +kernel)
theorem wd1044 : Cond.methodLink "DummyInchesLaw" 31 ⟨"DummyInchesModel", "drop", "(I)I"⟩ ∈ gtb := mg 1044 (by decide +kernel) (by decide +kernel)
theorem wd1045 : Cond.instanceMethod ⟨"DummyInchesModel", "drop", "(I)I"⟩ ∈ gtb := mg 1045 (by decide +kernel) (by decide +kernel)
theorem wd1046 : Cond.selects "DummyInchesModel" ⟨"DummyInchesModel", "drop", "(I)I"⟩ ⟨"DummyInchesModel", "drop", "(I)I"⟩ ∈ gtb := mg 1046 (by decide +kernel) (by decide +kernel)
theorem wd1048 : Cond.methodLink "DummyInchesLaw" 35 ⟨"DummyInchesModel", "feed", "(I)I"⟩ ∈ gtb := mg 1048 (by decide +kernel) (by decide +kernel)
theorem wd1049 : Cond.instanceMethod ⟨"DummyInchesModel", "feed", "(I)I"⟩ ∈ gtb := mg 1049 (by decide +kernel) (by decide +kernel)
theorem wd1050 : Cond.selects "DummyInchesModel" ⟨"DummyInchesModel", "feed", "(I)I"⟩ ⟨"DummyInchesModel", "feed", "(I)I"⟩ ∈ gtb := mg 1050 (by decide +kernel) (by decide +kernel)
theorem wd1054 : Cond.methodLink "DummyInchesLaw" 44 ⟨"DummyInchesModel", "fault", "()I"⟩ ∈ gtb := mg 1054 (by decide +kernel) (by decide +kernel)
theorem wd1055 : Cond.instanceMethod ⟨"DummyInchesModel", "fault", "()I"⟩ ∈ gtb := mg 1055 (by decide +kernel) (by decide +kernel)
theorem wd1056 : Cond.selects "DummyInchesModel" ⟨"DummyInchesModel", "fault", "()I"⟩ ⟨"DummyInchesModel", "fault", "()I"⟩ ∈ gtb := mg 1056 (by decide +kernel) (by decide +kernel)
theorem wd1058 : Cond.methodLink "DummyInchesLaw" 40 ⟨"DummyInchesModel", "street", "()I"⟩ ∈ gtb := mg 1058 (by decide +kernel) (by decide +kernel)
theorem wd1059 : Cond.instanceMethod ⟨"DummyInchesModel", "street", "()I"⟩ ∈ gtb := mg 1059 (by decide +kernel) (by decide +kernel)
theorem wd1060 : Cond.selects "DummyInchesModel" ⟨"DummyInchesModel", "street", "()I"⟩ ⟨"DummyInchesModel", "street", "()I"⟩ ∈ gtb := mg 1060 (by decide +kernel) (by decide +kernel)
theorem wd1111 : Cond.methodLink "DummyInchesLaw" 53 ⟨"DummyInchesModel", "tell", "(IIII)I"⟩ ∈ gtb := mg 1111 (by decide +kernel) (by decide +kernel)
theorem wd1112 : Cond.instanceMethod ⟨"DummyInchesModel", "tell", "(IIII)I"⟩ ∈ gtb := mg 1112 (by decide +kernel) (by decide +kernel)
theorem wd1113 : Cond.selects "DummyInchesModel" ⟨"DummyInchesModel", "tell", "(IIII)I"⟩ ⟨"DummyInchesModel", "tell", "(IIII)I"⟩ ∈ gtb := mg 1113 (by decide +kernel) (by decide +kernel)
theorem wd1146 : Cond.methodLink "DummyInchesLaw" 57 ⟨"DummyInchesModel", "year", "()I"⟩ ∈ gtb := mg 1146 (by decide +kernel) (by decide +kernel)
theorem wd1147 : Cond.instanceMethod ⟨"DummyInchesModel", "year", "()I"⟩ ∈ gtb := mg 1147 (by decide +kernel) (by decide +kernel)
theorem wd1148 : Cond.selects "DummyInchesModel" ⟨"DummyInchesModel", "year", "()I"⟩ ⟨"DummyInchesModel", "year", "()I"⟩ ∈ gtb := mg 1148 (by decide +kernel) (by decide +kernel)
theorem wd1159 : Cond.methodLink "DummyInchesLaw" 62 ⟨"DummyInchesModel", "swap", "(II)I"⟩ ∈ gtb := mg 1159 (by decide +kernel) (by decide +kernel)
theorem wd1160 : Cond.instanceMethod ⟨"DummyInchesModel", "swap", "(II)I"⟩ ∈ gtb := mg 1160 (by decide +kernel) (by decide +kernel)
theorem wd1161 : Cond.selects "DummyInchesModel" ⟨"DummyInchesModel", "swap", "(II)I"⟩ ⟨"DummyInchesModel", "swap", "(II)I"⟩ ∈ gtb := mg 1161 (by decide +kernel) (by decide +kernel)
theorem wd1163 : Cond.methodLink "DummyInchesLaw" 66 ⟨"DummyInchesModel", "close", "()I"⟩ ∈ gtb := mg 1163 (by decide +kernel) (by decide +kernel)
theorem wd1164 : Cond.instanceMethod ⟨"DummyInchesModel", "close", "()I"⟩ ∈ gtb := mg 1164 (by decide +kernel) (by decide +kernel)
theorem wd1165 : Cond.selects "DummyInchesModel" ⟨"DummyInchesModel", "close", "()I"⟩ ⟨"DummyInchesModel", "close", "()I"⟩ ∈ gtb := mg 1165 (by decide +kernel) (by decide +kernel)
theorem wd1167 : Cond.methodLink "DummyInchesLaw" 48 ⟨"DummyInchesModel", "undo", "()I"⟩ ∈ gtb := mg 1167 (by decide +kernel) (by decide +kernel)
theorem wd1168 : Cond.instanceMethod ⟨"DummyInchesModel", "undo", "()I"⟩ ∈ gtb := mg 1168 (by decide +kernel) (by decide +kernel)
theorem wd1169 : Cond.selects "DummyInchesModel" ⟨"DummyInchesModel", "undo", "()I"⟩ ⟨"DummyInchesModel", "undo", "()I"⟩ ∈ gtb := mg 1169 (by decide +kernel) (by decide +kernel)
theorem wd1171 : Cond.methodLink "DummyInchesLaw" 70 ⟨"DummyInchesModel", "dummy", "(III)I"⟩ ∈ gtb := mg 1171 (by decide +kernel) (by decide +kernel)
theorem wd1172 : Cond.instanceMethod ⟨"DummyInchesModel", "dummy", "(III)I"⟩ ∈ gtb := mg 1172 (by decide +kernel) (by decide +kernel)
theorem wd1173 : Cond.selects "DummyInchesModel" ⟨"DummyInchesModel", "dummy", "(III)I"⟩ ⟨"DummyInchesModel", "dummy", "(III)I"⟩ ∈ gtb := mg 1173 (by decide +kernel) (by decide +kernel)
theorem wd1179 : Cond.methodLink "DummyInchesLaw" 74 ⟨"DummyInchesModel", "line", "(II)I"⟩ ∈ gtb := mg 1179 (by decide +kernel) (by decide +kernel)
theorem wd1180 : Cond.instanceMethod ⟨"DummyInchesModel", "line", "(II)I"⟩ ∈ gtb := mg 1180 (by decide +kernel) (by decide +kernel)
theorem wd1181 : Cond.selects "DummyInchesModel" ⟨"DummyInchesModel", "line", "(II)I"⟩ ⟨"DummyInchesModel", "line", "(II)I"⟩ ∈ gtb := mg 1181 (by decide +kernel) (by decide +kernel)
theorem wd1188 : Cond.methodLink "DummyInchesLaw" 78 ⟨"DummyInchesModel", "pads", "(II)I"⟩ ∈ gtb := mg 1188 (by decide +kernel) (by decide +kernel)
theorem wd1189 : Cond.instanceMethod ⟨"DummyInchesModel", "pads", "(II)I"⟩ ∈ gtb := mg 1189 (by decide +kernel) (by decide +kernel)
theorem wd1190 : Cond.selects "DummyInchesModel" ⟨"DummyInchesModel", "pads", "(II)I"⟩ ⟨"DummyInchesModel", "pads", "(II)I"⟩ ∈ gtb := mg 1190 (by decide +kernel) (by decide +kernel)
theorem wd1192 : Cond.methodLink "DummyInchesLaw" 82 ⟨"DummyInchesModel", "was", "(III)I"⟩ ∈ gtb := mg 1192 (by decide +kernel) (by decide +kernel)
theorem wd1193 : Cond.instanceMethod ⟨"DummyInchesModel", "was", "(III)I"⟩ ∈ gtb := mg 1193 (by decide +kernel) (by decide +kernel)
theorem wd1194 : Cond.selects "DummyInchesModel" ⟨"DummyInchesModel", "was", "(III)I"⟩ ⟨"DummyInchesModel", "was", "(III)I"⟩ ∈ gtb := mg 1194 (by decide +kernel) (by decide +kernel)
theorem wd1196 : Cond.methodLink "DummyInchesLaw" 86 ⟨"DummyInchesModel", "liars", "(IIII)I"⟩ ∈ gtb := mg 1196 (by decide +kernel) (by decide +kernel)
theorem wd1197 : Cond.instanceMethod ⟨"DummyInchesModel", "liars", "(IIII)I"⟩ ∈ gtb := mg 1197 (by decide +kernel) (by decide +kernel)
theorem wd1198 : Cond.selects "DummyInchesModel" ⟨"DummyInchesModel", "liars", "(IIII)I"⟩ ⟨"DummyInchesModel", "liars", "(IIII)I"⟩ ∈ gtb := mg 1198 (by decide +kernel) (by decide +kernel)
theorem wd1215 : Cond.methodLink "DummyInchesLaw" 90 ⟨"DummyInchesModel", "blame", "(IIIII)I"⟩ ∈ gtb := mg 1215 (by decide +kernel) (by decide +kernel)
theorem wd1216 : Cond.instanceMethod ⟨"DummyInchesModel", "blame", "(IIIII)I"⟩ ∈ gtb := mg 1216 (by decide +kernel) (by decide +kernel)
theorem wd1217 : Cond.selects "DummyInchesModel" ⟨"DummyInchesModel", "blame", "(IIIII)I"⟩ ⟨"DummyInchesModel", "blame", "(IIIII)I"⟩ ∈ gtb := mg 1217 (by decide +kernel) (by decide +kernel)
theorem wd1222 : Cond.methodLink "DummyInchesLaw" 94 ⟨"DummyInchesModel", "right", "(II)I"⟩ ∈ gtb := mg 1222 (by decide +kernel) (by decide +kernel)
theorem wd1223 : Cond.instanceMethod ⟨"DummyInchesModel", "right", "(II)I"⟩ ∈ gtb := mg 1223 (by decide +kernel) (by decide +kernel)
theorem wd1224 : Cond.selects "DummyInchesModel" ⟨"DummyInchesModel", "right", "(II)I"⟩ ⟨"DummyInchesModel", "right", "(II)I"⟩ ∈ gtb := mg 1224 (by decide +kernel) (by decide +kernel)
theorem wd1239 : Cond.methodLink "DummyInchesLaw" 98 ⟨"DummyInchesModel", "most", "(III)I"⟩ ∈ gtb := mg 1239 (by decide +kernel) (by decide +kernel)
theorem wd1240 : Cond.instanceMethod ⟨"DummyInchesModel", "most", "(III)I"⟩ ∈ gtb := mg 1240 (by decide +kernel) (by decide +kernel)
theorem wd1241 : Cond.selects "DummyInchesModel" ⟨"DummyInchesModel", "most", "(III)I"⟩ ⟨"DummyInchesModel", "most", "(III)I"⟩ ∈ gtb := mg 1241 (by decide +kernel) (by decide +kernel)
theorem wd1243 : Cond.methodLink "DummyInchesLaw" 102 ⟨"DummyInchesModel", "swaps", "(III)I"⟩ ∈ gtb := mg 1243 (by decide +kernel) (by decide +kernel)
theorem wd1244 : Cond.instanceMethod ⟨"DummyInchesModel", "swaps", "(III)I"⟩ ∈ gtb := mg 1244 (by decide +kernel) (by decide +kernel)
theorem wd1245 : Cond.selects "DummyInchesModel" ⟨"DummyInchesModel", "swaps", "(III)I"⟩ ⟨"DummyInchesModel", "swaps", "(III)I"⟩ ∈ gtb := mg 1245 (by decide +kernel) (by decide +kernel)
theorem wd1247 : Cond.methodLink "DummyInchesLaw" 106 ⟨"DummyInchesModel", "lent", "(II)I"⟩ ∈ gtb := mg 1247 (by decide +kernel) (by decide +kernel)
theorem wd1248 : Cond.instanceMethod ⟨"DummyInchesModel", "lent", "(II)I"⟩ ∈ gtb := mg 1248 (by decide +kernel) (by decide +kernel)
theorem wd1249 : Cond.selects "DummyInchesModel" ⟨"DummyInchesModel", "lent", "(II)I"⟩ ⟨"DummyInchesModel", "lent", "(II)I"⟩ ∈ gtb := mg 1249 (by decide +kernel) (by decide +kernel)
theorem wd1251 : Cond.methodLink "DummyInchesLaw" 110 ⟨"DummyInchesModel", "parted", "(IIII)I"⟩ ∈ gtb := mg 1251 (by decide +kernel) (by decide +kernel)
theorem wd1252 : Cond.instanceMethod ⟨"DummyInchesModel", "parted", "(IIII)I"⟩ ∈ gtb := mg 1252 (by decide +kernel) (by decide +kernel)
theorem wd1253 : Cond.selects "DummyInchesModel" ⟨"DummyInchesModel", "parted", "(IIII)I"⟩ ⟨"DummyInchesModel", "parted", "(IIII)I"⟩ ∈ gtb := mg 1253 (by decide +kernel) (by decide +kernel)
theorem wd1257 : Cond.methodLink "DummyInchesLaw" 114 ⟨"DummyInchesModel", "addedUp", "(III)I"⟩ ∈ gtb := mg 1257 (by decide +kernel) (by decide +kernel)
theorem wd1258 : Cond.instanceMethod ⟨"DummyInchesModel", "addedUp", "(III)I"⟩ ∈ gtb := mg 1258 (by decide +kernel) (by decide +kernel)
theorem wd1259 : Cond.selects "DummyInchesModel" ⟨"DummyInchesModel", "addedUp", "(III)I"⟩ ⟨"DummyInchesModel", "addedUp", "(III)I"⟩ ∈ gtb := mg 1259 (by decide +kernel) (by decide +kernel)
theorem wd1262 : Cond.methodLink "DummyInchesLaw" 118 ⟨"DummyInchesModel", "felt", "(III)I"⟩ ∈ gtb := mg 1262 (by decide +kernel) (by decide +kernel)
theorem wd1263 : Cond.instanceMethod ⟨"DummyInchesModel", "felt", "(III)I"⟩ ∈ gtb := mg 1263 (by decide +kernel) (by decide +kernel)
theorem wd1264 : Cond.selects "DummyInchesModel" ⟨"DummyInchesModel", "felt", "(III)I"⟩ ⟨"DummyInchesModel", "felt", "(III)I"⟩ ∈ gtb := mg 1264 (by decide +kernel) (by decide +kernel)
theorem wd1270 : Cond.methodLink "DummyInchesLaw" 122 ⟨"DummyInchesModel", "twins", "(I)I"⟩ ∈ gtb := mg 1270 (by decide +kernel) (by decide +kernel)
theorem wd1271 : Cond.instanceMethod ⟨"DummyInchesModel", "twins", "(I)I"⟩ ∈ gtb := mg 1271 (by decide +kernel) (by decide +kernel)
theorem wd1272 : Cond.selects "DummyInchesModel" ⟨"DummyInchesModel", "twins", "(I)I"⟩ ⟨"DummyInchesModel", "twins", "(I)I"⟩ ∈ gtb := mg 1272 (by decide +kernel) (by decide +kernel)
theorem wd1283 : Cond.methodLink "DummyInchesLaw" 126 ⟨"DummyInchesModel", "image", "(I)I"⟩ ∈ gtb := mg 1283 (by decide +kernel) (by decide +kernel)
theorem wd1284 : Cond.instanceMethod ⟨"DummyInchesModel", "image", "(I)I"⟩ ∈ gtb := mg 1284 (by decide +kernel) (by decide +kernel)
theorem wd1285 : Cond.selects "DummyInchesModel" ⟨"DummyInchesModel", "image", "(I)I"⟩ ⟨"DummyInchesModel", "image", "(I)I"⟩ ∈ gtb := mg 1285 (by decide +kernel) (by decide +kernel)
theorem wd1287 : Cond.methodLink "DummyInchesLaw" 130 ⟨"DummyInchesModel", "restore", "(I)I"⟩ ∈ gtb := mg 1287 (by decide +kernel) (by decide +kernel)
theorem wd1288 : Cond.instanceMethod ⟨"DummyInchesModel", "restore", "(I)I"⟩ ∈ gtb := mg 1288 (by decide +kernel) (by decide +kernel)
theorem wd1289 : Cond.selects "DummyInchesModel" ⟨"DummyInchesModel", "restore", "(I)I"⟩ ⟨"DummyInchesModel", "restore", "(I)I"⟩ ∈ gtb := mg 1289 (by decide +kernel) (by decide +kernel)
theorem wd1291 : Cond.methodLink "DummyInchesLaw" 134 ⟨"DummyInchesModel", "kind", "(I)I"⟩ ∈ gtb := mg 1291 (by decide +kernel) (by decide +kernel)
theorem wd1292 : Cond.instanceMethod ⟨"DummyInchesModel", "kind", "(I)I"⟩ ∈ gtb := mg 1292 (by decide +kernel) (by decide +kernel)
theorem wd1293 : Cond.selects "DummyInchesModel" ⟨"DummyInchesModel", "kind", "(I)I"⟩ ⟨"DummyInchesModel", "kind", "(I)I"⟩ ∈ gtb := mg 1293 (by decide +kernel) (by decide +kernel)
theorem wd1295 : Cond.methodLink "DummyInchesLaw" 138 ⟨"DummyInchesModel", "as", "(II)I"⟩ ∈ gtb := mg 1295 (by decide +kernel) (by decide +kernel)
theorem wd1296 : Cond.instanceMethod ⟨"DummyInchesModel", "as", "(II)I"⟩ ∈ gtb := mg 1296 (by decide +kernel) (by decide +kernel)
theorem wd1297 : Cond.selects "DummyInchesModel" ⟨"DummyInchesModel", "as", "(II)I"⟩ ⟨"DummyInchesModel", "as", "(II)I"⟩ ∈ gtb := mg 1297 (by decide +kernel) (by decide +kernel)
theorem wd1302 : Cond.methodLink "DummyInchesLaw" 142 ⟨"DummyInchesModel", "ask", "(II)I"⟩ ∈ gtb := mg 1302 (by decide +kernel) (by decide +kernel)
theorem wd1303 : Cond.instanceMethod ⟨"DummyInchesModel", "ask", "(II)I"⟩ ∈ gtb := mg 1303 (by decide +kernel) (by decide +kernel)
theorem wd1304 : Cond.selects "DummyInchesModel" ⟨"DummyInchesModel", "ask", "(II)I"⟩ ⟨"DummyInchesModel", "ask", "(II)I"⟩ ∈ gtb := mg 1304 (by decide +kernel) (by decide +kernel)
theorem wd1326 : Cond.methodLink "DummyInchesLaw" 146 ⟨"DummyInchesModel", "trace", "(I)I"⟩ ∈ gtb := mg 1326 (by decide +kernel) (by decide +kernel)
theorem wd1327 : Cond.instanceMethod ⟨"DummyInchesModel", "trace", "(I)I"⟩ ∈ gtb := mg 1327 (by decide +kernel) (by decide +kernel)
theorem wd1328 : Cond.selects "DummyInchesModel" ⟨"DummyInchesModel", "trace", "(I)I"⟩ ⟨"DummyInchesModel", "trace", "(I)I"⟩ ∈ gtb := mg 1328 (by decide +kernel) (by decide +kernel)
theorem wd1330 : Cond.methodLink "DummyInchesLaw" 150 ⟨"DummyInchesModel", "count", "(I)I"⟩ ∈ gtb := mg 1330 (by decide +kernel) (by decide +kernel)
theorem wd1331 : Cond.instanceMethod ⟨"DummyInchesModel", "count", "(I)I"⟩ ∈ gtb := mg 1331 (by decide +kernel) (by decide +kernel)
theorem wd1332 : Cond.selects "DummyInchesModel" ⟨"DummyInchesModel", "count", "(I)I"⟩ ⟨"DummyInchesModel", "count", "(I)I"⟩ ∈ gtb := mg 1332 (by decide +kernel) (by decide +kernel)
theorem wd1334 : Cond.methodLink "DummyInchesLaw" 154 ⟨"DummyInchesModel", "status", "()I"⟩ ∈ gtb := mg 1334 (by decide +kernel) (by decide +kernel)
theorem wd1335 : Cond.instanceMethod ⟨"DummyInchesModel", "status", "()I"⟩ ∈ gtb := mg 1335 (by decide +kernel) (by decide +kernel)
theorem wd1336 : Cond.selects "DummyInchesModel" ⟨"DummyInchesModel", "status", "()I"⟩ ⟨"DummyInchesModel", "status", "()I"⟩ ∈ gtb := mg 1336 (by decide +kernel) (by decide +kernel)
def R_law : String := "DummyInchesLaw"
def lw_P (b : Addr) (xs : List Int32) (args : Array Value) (s : State) : Prop := args = #[.ref b] ∧ s.IntsAt b xs ∧ xs.length ≤ 384 ∧ (Jvm.Cond.and given_1 narrow_1).before args s = true
def lw_Q (_ : Array Value) (s : State) (o : Outcome) (t : State) : Prop := o = .returned (some (.int 1)) ∧ Framed s o t [] 600000 7302250
def lw_Z (below : List Frame) (a : Array Value) (s : State) : State → Prop := fun t => ∃ o, t.status = .running ∧ Ended t below o ∧ lw_Q a s o t
/-- the law's own end, with 1 on the stack, nothing written that was there before, its room as the claim has it -/
theorem lw_ret {p : Program} {l : Launch} {e : Env} {s : State} {m : MethodId} {below : List Frame} {meth : Method} {c : Code} {b : Nat} (hx : p.tables.exec = Jvm.exec) (hb : c.code = code) (hr : meth.sig.returnType = ret) (hlocks : meth.locks = false) {pc : Nat} {H : Heap} {ls : Array Slot} (hdg : decode code pc = .ok (.ireturn, 1)) : W p l e room_1 s m #[Value.ref b] below meth c H [] 600000 7302250 (lw_Z below #[Value.ref b] s) (F0 m pc ls [.int 1]) := by
  intro T hT X
  obtain ⟨fs, hret, hrun, hended, hW, hframe⟩ := X.leave (v := some (.int 1)) (hlocks := hlocks) (fun h => by rw [hr] at h; cases h)
  have hmeth' : T.vm.method? m = some meth := X.method'
  refine ⟨T.setFrames fs, ?_, .returned (some (.int 1)), hrun, hended, rfl, ⟨_, rfl⟩, hW, hframe⟩
  jvm_step X.here [X.here.top, hx, hb, hdg, hmeth', hr, ret, narrow_b1]
  (try refine ⟨rfl, ?_⟩); (try refine ⟨rfl, ?_⟩)
  first | (intro acts; rw [hret _ acts rfl rfl rfl]) | rw [hret _ _ rfl rfl rfl]
  exact Steps.refl _
/-- what holds at the law's entry: the machine, the code, the tables' words (any of lw_tbl by 'hts w (by decide +kernel)'), the script of L ints xs at the cell b, what the Statement gives of the start (any of its parts by flat_of_before) -/
def lw_At (p : Program) (s : State) (m : MethodId) (meth : Method) (c : Code) (b L : Nat) (xs : Nat → Int32) : Prop :=
  p.tables.exec = Jvm.exec ∧ c.code = code ∧ meth.sig.returnType = ret ∧ c.maxLocals = 4 ∧ s.vm.findClass R_law = some m.cls ∧ (∀ w ∈ lw_tbl, w.before #[Value.ref b] s = true) ∧ va_X b L xs s s.heap ∧ b < s.heap.size ∧ meth.locks = false ∧ (Jvm.Cond.and given_1 narrow_1).before #[Value.ref b] s = true
def st_row (Rel : hp → Prop) : Prop := ∀ S : hp, Rel S → ∀ x1 x2 x3 : Int32, hK S 0 = 10 ∧ wp_X11_row (fun r S1 => hK S1 35 = 11 ∧ wp_X12_row (fun r2 S2 => r = r2 ∧ Rel S2) S1 35 x1 x2 x3) S 0 x1 x2 x3
def st_set (Rel : hp → Prop) : Prop := ∀ S : hp, Rel S → ∀ x1 x2 x3 : Int32, hK S 0 = 10 ∧ wp_X11_set (fun r S1 => hK S1 35 = 11 ∧ wp_X12_set (fun r2 S2 => r = r2 ∧ Rel S2) S1 35 x1 x2 x3) S 0 x1 x2 x3
def st_copy (Rel : hp → Prop) : Prop := ∀ S : hp, Rel S → ∀ x1 x2 x3 x4 x5 : Int32, hK S 0 = 10 ∧ wp_X11_copy (fun r S1 => hK S1 35 = 11 ∧ wp_X12_copy (fun r2 S2 => r = r2 ∧ Rel S2) S1 35 x1 x2 x3 x4 x5) S 0 x1 x2 x3 x4 x5
def st_drop (Rel : hp → Prop) : Prop := ∀ S : hp, Rel S → ∀ x1 : Int32, hK S 0 = 10 ∧ wp_X11_drop (fun r S1 => hK S1 35 = 11 ∧ wp_X12_drop (fun r2 S2 => r = r2 ∧ Rel S2) S1 35 x1) S 0 x1
def st_feed (Rel : hp → Prop) : Prop := ∀ S : hp, Rel S → ∀ x1 : Int32, hK S 0 = 10 ∧ wp_X11_feed (fun r S1 => hK S1 35 = 11 ∧ wp_X12_feed (fun r2 S2 => r = r2 ∧ Rel S2) S1 35 x1) S 0 x1
def st_street (Rel : hp → Prop) : Prop := ∀ S : hp, Rel S → hK S 0 = 10 ∧ wp_X11_street (fun r S1 => hK S1 35 = 11 ∧ wp_X12_street (fun r2 S2 => r = r2 ∧ Rel S2) S1 35 ) S 0 
def st_fault (Rel : hp → Prop) : Prop := ∀ S : hp, Rel S → hK S 0 = 10 ∧ wp_X11_fault (fun r S1 => hK S1 35 = 11 ∧ wp_X12_fault (fun r2 S2 => r = r2 ∧ Rel S2) S1 35 ) S 0 
def st_undo (Rel : hp → Prop) : Prop := ∀ S : hp, Rel S → hK S 0 = 10 ∧ wp_X11_undo (fun r S1 => hK S1 35 = 11 ∧ wp_X12_undo (fun r2 S2 => r = r2 ∧ Rel S2) S1 35 ) S 0 
def st_tell (Rel : hp → Prop) : Prop := ∀ S : hp, Rel S → ∀ x1 x2 x3 x4 : Int32, hK S 0 = 10 ∧ wp_X11_tell (fun r S1 => hK S1 35 = 11 ∧ wp_X12_tell (fun r2 S2 => r = r2 ∧ Rel S2) S1 35 x1 x2 x3 x4) S 0 x1 x2 x3 x4
def st_year (Rel : hp → Prop) : Prop := ∀ S : hp, Rel S → hK S 0 = 10 ∧ wp_X11_year (fun r S1 => hK S1 35 = 11 ∧ wp_X12_year (fun r2 S2 => r = r2 ∧ Rel S2) S1 35 ) S 0 
def st_swap (Rel : hp → Prop) : Prop := ∀ S : hp, Rel S → ∀ x1 x2 : Int32, hK S 0 = 10 ∧ wp_X11_swap (fun r S1 => hK S1 35 = 11 ∧ wp_X12_swap (fun r2 S2 => r = r2 ∧ Rel S2) S1 35 x1 x2) S 0 x1 x2
def st_close (Rel : hp → Prop) : Prop := ∀ S : hp, Rel S → hK S 0 = 10 ∧ wp_X11_close (fun r S1 => hK S1 35 = 11 ∧ wp_X12_close (fun r2 S2 => r = r2 ∧ Rel S2) S1 35 ) S 0 
def st_dummy (Rel : hp → Prop) : Prop := ∀ S : hp, Rel S → ∀ x1 x2 x3 : Int32, hK S 0 = 10 ∧ wp_X11_dummy (fun r S1 => hK S1 35 = 11 ∧ wp_X12_dummy (fun r2 S2 => r = r2 ∧ Rel S2) S1 35 x1 x2 x3) S 0 x1 x2 x3
def st_line (Rel : hp → Prop) : Prop := ∀ S : hp, Rel S → ∀ x1 x2 : Int32, hK S 0 = 10 ∧ wp_X11_line (fun r S1 => hK S1 35 = 11 ∧ wp_X12_line (fun r2 S2 => r = r2 ∧ Rel S2) S1 35 x1 x2) S 0 x1 x2
def st_pads (Rel : hp → Prop) : Prop := ∀ S : hp, Rel S → ∀ x1 x2 : Int32, hK S 0 = 10 ∧ wp_X11_pads (fun r S1 => hK S1 35 = 11 ∧ wp_X12_pads (fun r2 S2 => r = r2 ∧ Rel S2) S1 35 x1 x2) S 0 x1 x2
def st_was (Rel : hp → Prop) : Prop := ∀ S : hp, Rel S → ∀ x1 x2 x3 : Int32, hK S 0 = 10 ∧ wp_X11_was (fun r S1 => hK S1 35 = 11 ∧ wp_X12_was (fun r2 S2 => r = r2 ∧ Rel S2) S1 35 x1 x2 x3) S 0 x1 x2 x3
def st_liars (Rel : hp → Prop) : Prop := ∀ S : hp, Rel S → ∀ x1 x2 x3 x4 : Int32, hK S 0 = 10 ∧ wp_X11_liars (fun r S1 => hK S1 35 = 11 ∧ wp_X12_liars (fun r2 S2 => r = r2 ∧ Rel S2) S1 35 x1 x2 x3 x4) S 0 x1 x2 x3 x4
def st_blame (Rel : hp → Prop) : Prop := ∀ S : hp, Rel S → ∀ x1 x2 x3 x4 x5 : Int32, hK S 0 = 10 ∧ wp_X11_blame (fun r S1 => hK S1 35 = 11 ∧ wp_X12_blame (fun r2 S2 => r = r2 ∧ Rel S2) S1 35 x1 x2 x3 x4 x5) S 0 x1 x2 x3 x4 x5
def st_right (Rel : hp → Prop) : Prop := ∀ S : hp, Rel S → ∀ x1 x2 : Int32, hK S 0 = 10 ∧ wp_X11_right (fun r S1 => hK S1 35 = 11 ∧ wp_X12_right (fun r2 S2 => r = r2 ∧ Rel S2) S1 35 x1 x2) S 0 x1 x2
def st_most (Rel : hp → Prop) : Prop := ∀ S : hp, Rel S → ∀ x1 x2 x3 : Int32, hK S 0 = 10 ∧ wp_X11_most (fun r S1 => hK S1 35 = 11 ∧ wp_X12_most (fun r2 S2 => r = r2 ∧ Rel S2) S1 35 x1 x2 x3) S 0 x1 x2 x3
def st_swaps (Rel : hp → Prop) : Prop := ∀ S : hp, Rel S → ∀ x1 x2 x3 : Int32, hK S 0 = 10 ∧ wp_X11_swaps (fun r S1 => hK S1 35 = 11 ∧ wp_X12_swaps (fun r2 S2 => r = r2 ∧ Rel S2) S1 35 x1 x2 x3) S 0 x1 x2 x3
def st_lent (Rel : hp → Prop) : Prop := ∀ S : hp, Rel S → ∀ x1 x2 : Int32, hK S 0 = 10 ∧ wp_X11_lent (fun r S1 => hK S1 35 = 11 ∧ wp_X12_lent (fun r2 S2 => r = r2 ∧ Rel S2) S1 35 x1 x2) S 0 x1 x2
def st_parted (Rel : hp → Prop) : Prop := ∀ S : hp, Rel S → ∀ x1 x2 x3 x4 : Int32, hK S 0 = 10 ∧ wp_X11_parted (fun r S1 => hK S1 35 = 11 ∧ wp_X12_parted (fun r2 S2 => r = r2 ∧ Rel S2) S1 35 x1 x2 x3 x4) S 0 x1 x2 x3 x4
def st_addedUp (Rel : hp → Prop) : Prop := ∀ S : hp, Rel S → ∀ x1 x2 x3 : Int32, hK S 0 = 10 ∧ wp_X11_addedUp (fun r S1 => hK S1 35 = 11 ∧ wp_X12_addedUp (fun r2 S2 => r = r2 ∧ Rel S2) S1 35 x1 x2 x3) S 0 x1 x2 x3
def st_felt (Rel : hp → Prop) : Prop := ∀ S : hp, Rel S → ∀ x1 x2 x3 : Int32, hK S 0 = 10 ∧ wp_X11_felt (fun r S1 => hK S1 35 = 11 ∧ wp_X12_felt (fun r2 S2 => r = r2 ∧ Rel S2) S1 35 x1 x2 x3) S 0 x1 x2 x3
def st_twins (Rel : hp → Prop) : Prop := ∀ S : hp, Rel S → ∀ x1 : Int32, hK S 0 = 10 ∧ wp_X11_twins (fun r S1 => hK S1 35 = 11 ∧ wp_X12_twins (fun r2 S2 => r = r2 ∧ Rel S2) S1 35 x1) S 0 x1
def st_image (Rel : hp → Prop) : Prop := ∀ S : hp, Rel S → ∀ x1 : Int32, hK S 0 = 10 ∧ wp_X11_image (fun r S1 => hK S1 35 = 11 ∧ wp_X12_image (fun r2 S2 => r = r2 ∧ Rel S2) S1 35 x1) S 0 x1
def st_restore (Rel : hp → Prop) : Prop := ∀ S : hp, Rel S → ∀ x1 : Int32, hK S 0 = 10 ∧ wp_X11_restore (fun r S1 => hK S1 35 = 11 ∧ wp_X12_restore (fun r2 S2 => r = r2 ∧ Rel S2) S1 35 x1) S 0 x1
def st_kind (Rel : hp → Prop) : Prop := ∀ S : hp, Rel S → ∀ x1 : Int32, hK S 0 = 10 ∧ wp_X11_kind (fun r S1 => hK S1 35 = 11 ∧ wp_X12_kind (fun r2 S2 => r = r2 ∧ Rel S2) S1 35 x1) S 0 x1
def st_as (Rel : hp → Prop) : Prop := ∀ S : hp, Rel S → ∀ x1 x2 : Int32, hK S 0 = 10 ∧ wp_X11_as (fun r S1 => hK S1 35 = 11 ∧ wp_X12_as (fun r2 S2 => r = r2 ∧ Rel S2) S1 35 x1 x2) S 0 x1 x2
def st_ask (Rel : hp → Prop) : Prop := ∀ S : hp, Rel S → ∀ x1 x2 : Int32, hK S 0 = 10 ∧ wp_X11_ask (fun r S1 => hK S1 35 = 11 ∧ wp_X12_ask (fun r2 S2 => r = r2 ∧ Rel S2) S1 35 x1 x2) S 0 x1 x2
def st_trace (Rel : hp → Prop) : Prop := ∀ S : hp, Rel S → ∀ x1 : Int32, hK S 0 = 10 ∧ wp_X11_trace (fun r S1 => hK S1 35 = 11 ∧ wp_X12_trace (fun r2 S2 => r = r2 ∧ Rel S2) S1 35 x1) S 0 x1
def st_count (Rel : hp → Prop) : Prop := ∀ S : hp, Rel S → ∀ x1 : Int32, hK S 0 = 10 ∧ wp_X11_count (fun r S1 => hK S1 35 = 11 ∧ wp_X12_count (fun r2 S2 => r = r2 ∧ Rel S2) S1 35 x1) S 0 x1
def st_status (Rel : hp → Prop) : Prop := ∀ S : hp, Rel S → hK S 0 = 10 ∧ wp_X11_status (fun r S1 => hK S1 35 = 11 ∧ wp_X12_status (fun r2 S2 => r = r2 ∧ Rel S2) S1 35 ) S 0 
def emp : hp := (0, fun _ => 99, fun _ => 0, fun _ _ => 0, fun _ _ => none)
def st_init (Rel : hp → Prop) : Prop := wp_X11_init (fun S1 => hC S1 = 35 ∧ wp_X12_init (fun S2 => Rel S2) (newC S1 11 0) 35) (newC emp 10 0) 0
def st_all (Rel : hp → Prop) : Prop := st_row Rel ∧ st_set Rel ∧ st_copy Rel ∧ st_drop Rel ∧ st_feed Rel ∧ st_street Rel ∧ st_fault Rel ∧ st_undo Rel ∧ st_tell Rel ∧ st_year Rel ∧ st_swap Rel ∧ st_close Rel ∧ st_dummy Rel ∧ st_line Rel ∧ st_pads Rel ∧ st_was Rel ∧ st_liars Rel ∧ st_blame Rel ∧ st_right Rel ∧ st_most Rel ∧ st_swaps Rel ∧ st_lent Rel ∧ st_parted Rel ∧ st_addedUp Rel ∧ st_felt Rel ∧ st_twins Rel ∧ st_image Rel ∧ st_restore Rel ∧ st_kind Rel ∧ st_as Rel ∧ st_ask Rel ∧ st_trace Rel ∧ st_count Rel ∧ st_status Rel
theorem aovr_o {s : State} {A : Array Value} {C : String} (h : (Cond.arrayOver (.object C)).before A s = true) : ∃ cA : ClassId, ArrOfT s cA (.object C) ∧ va_RA s cA (.object C) := by
  obtain ⟨comp, cA, k, h1, h2, h3, h4, h5⟩ := Cond.arrayOver_spec h
  exact ⟨cA, fun n z => ⟨(fun q h => by cases h), k, h3, comp, h4⟩, k, comp, h3, h4, h1, h5⟩
theorem aovr_a {s : State} {A : Array Value} {t : FieldType} (h : (Cond.arrayOver (.array t)).before A s = true) : ∃ cA : ClassId, ArrOfT s cA (.array t) ∧ va_RA s cA (.array t) := by
  obtain ⟨comp, cA, k, h1, h3, h4, h5⟩ := Cond.arrayOver_specA h
  exact ⟨cA, fun n z => ⟨(fun q h => by cases h), k, h3, comp, h4⟩, h5⟩
theorem acls_i {s : State} {A : Array Value} (h : (Cond.arrayClass .int).before A s = true) : ∃ cA : ClassId, ArrOfT s cA .int ∧ va_RA s cA .int := by
  obtain ⟨cA, k, comp, h1, h2, h3⟩ := Cond.arrayClass_spec h
  exact ⟨cA, fun n z => ⟨(fun q h => by cases h), k, h2, comp, h3⟩, h1⟩
theorem acls_z {s : State} {A : Array Value} (h : (Cond.arrayClass .boolean).before A s = true) : ∃ cA : ClassId, ArrOfT s cA .boolean ∧ va_RA s cA .boolean := by
  obtain ⟨cA, k, comp, h1, h2, h3⟩ := Cond.arrayClass_spec h
  exact ⟨cA, fun n z => ⟨(fun q h => by cases h), k, h2, comp, h3⟩, h1⟩
set_option maxRecDepth 100000 in
theorem law_kn {p : Program} {s : State} {m : MethodId} {meth : Method} {c : Code} {b L : Nat} {xs : Nat → Int32} (C0 : lw_At p s m meth c b L xs) : ∃ (D : va_G) (cy : Nat → ClassId), KN D cy s := by
  obtain ⟨hx, hb, hr, hml, hown, hts, hX, hbl, hlocks, hgv⟩ := C0
  have hg : ∀ w ∈ gtb, w.before #[Value.ref b] s = true := fun w hw => hts w (List.mem_filter.mp hw).1
  obtain ⟨c0, i0, k0⟩ := u_known (C := RX0) (T := TX0) (N := 3) (n := 3) hg inX0 (hg _ wd198)
  obtain ⟨c1, i1, k1⟩ := u_known (C := RX1) (T := TX1) (N := 2) (n := 2) hg inX1 (hg _ wd406)
  obtain ⟨c2, i2, k2⟩ := u_known (C := RX2) (T := TX2) (N := 2) (n := 2) hg inX2 (hg _ wd185)
  obtain ⟨c3, i3, k3⟩ := u_known (C := RX3) (T := TX3) (N := 2) (n := 2) hg inX3 (hg _ wd437)
  obtain ⟨c4, i4, k4⟩ := u_known (C := RX5) (T := TX5) (N := 2) (n := 2) hg inX5 (hg _ wd428)
  obtain ⟨c5, i5, k5⟩ := u_known (C := RX6) (T := TX6) (N := 4) (n := 4) hg inX6 (hg _ wd82)
  obtain ⟨c6, i6, k6⟩ := u_known (C := RX7) (T := TX7) (N := 2) (n := 2) hg inX7 (hg _ wd446)
  obtain ⟨c7, i7, k7⟩ := u_known (C := RX8) (T := TX8) (N := 10) (n := 10) hg inX8 (hg _ wd133)
  obtain ⟨c8, i8, k8⟩ := u_known (C := RX9) (T := TX9) (N := 6) (n := 6) hg inX9 (hg _ wd105)
  obtain ⟨c9, i9, k9⟩ := u_known (C := RX10) (T := TX10) (N := 2) (n := 2) hg inX10 (hg _ wd455)
  obtain ⟨c10, i10, k10⟩ := u_known (C := RX11) (T := TX11) (N := 12) (n := 12) hg inX11 (hg _ wd74)
  obtain ⟨c11, i11, k11⟩ := u_known (C := RX12) (T := TX12) (N := 26) (n := 26) hg inX12 (hg _ wd934)
  obtain ⟨a12, h12⟩ := acls_i (hg _ wdaI)
  obtain ⟨a13, h13⟩ := acls_z (hg _ wdaZ)
  obtain ⟨a14, h14⟩ := aovr_o (C := RX4) (hts _ (List.mem_of_getElem? (i := 139) (by decide +kernel)))
  obtain ⟨a15, h15⟩ := aovr_o (C := RX8) (hts _ (List.mem_of_getElem? (i := 214) (by decide +kernel)))
  obtain ⟨a16, h16⟩ := aovr_a (t := .int) (hts _ (List.mem_of_getElem? (i := 88) (by decide +kernel)))
  refine ⟨(fun k => match k with | 0 => c0 | 1 => c1 | 2 => c2 | 3 => c3 | 4 => c4 | 5 => c5 | 6 => c6 | 7 => c7 | 8 => c8 | 9 => c9 | 10 => c10 | _ => c11, fun k => match k with | 0 => i0 | 1 => i1 | 2 => i2 | 3 => i3 | 4 => i4 | 5 => i5 | 6 => i6 | 7 => i7 | 8 => i8 | 9 => i9 | 10 => i10 | _ => i11), (fun k => match k with | 12 => a12 | 13 => a13 | 14 => a14 | 15 => a15 | _ => a16), ⟨?_, ?_⟩, ?_, ?_, ?_, ?_, ?_⟩
  · intro k q hq
    match k, hq with
    | 0, hq => cases hq; exact k0
    | 1, hq => cases hq; exact k1
    | 2, hq => cases hq; exact k2
    | 3, hq => cases hq; exact k3
    | 4, hq => cases hq; exact k4
    | 5, hq => cases hq; exact k5
    | 6, hq => cases hq; exact k6
    | 7, hq => cases hq; exact k7
    | 8, hq => cases hq; exact k8
    | 9, hq => cases hq; exact k9
    | 10, hq => cases hq; exact k10
    | 11, hq => cases hq; exact k11
    | k + 12, hq => simp [vwCl] at hq
  · intro k q hq
    match k, hq with
    | 0, hq => cases hq; exact h12
    | 1, hq => cases hq; exact h13
    | 2, hq => cases hq; exact h14
    | 3, hq => cases hq; exact h15
    | 4, hq => cases hq; exact h16
    | k + 5, hq => simp [tyl] at hq
  · have hf := flat_of_before _ hgv
    intro q hq
    simp only [ncl, List.mem_cons, List.not_mem_nil, or_false] at hq
    rcases hq with rfl | rfl | rfl | rfl | rfl | rfl | rfl | rfl | rfl | rfl | rfl | rfl | rfl | rfl | rfl | rfl | rfl
    · exact va_Nc.of (hf (Cond.not (.castable "DummyInches$Cook" "DummyInches$Rival")) (by decide +kernel))
    · exact va_Nc.of (hf (Cond.not (.castable "DummyInches$Cook" "DummyInches$Gossip")) (by decide +kernel))
    · exact va_Nc.of (hf (Cond.not (.castable "DummyInches$Cook" "DummyInches$Spy")) (by decide +kernel))
    · exact va_Nc.of (hf (Cond.not (.castable "DummyInches$Gossip" "DummyInches$Valet")) (by decide +kernel))
    · exact va_Nc.of (hf (Cond.not (.castable "DummyInches$Gossip" "DummyInches$Cook")) (by decide +kernel))
    · exact va_Nc.of (hf (Cond.not (.castable "DummyInches$Gossip" "DummyInches$Rival")) (by decide +kernel))
    · exact va_Nc.of (hf (Cond.not (.castable "DummyInches$Gossip" "DummyInches$Spy")) (by decide +kernel))
    · exact va_Nc.of (hf (Cond.not (.castable "DummyInches$Rival" "DummyInches$Cook")) (by decide +kernel))
    · exact va_Nc.of (hf (Cond.not (.castable "DummyInches$Rival" "DummyInches$Gossip")) (by decide +kernel))
    · exact va_Nc.of (hf (Cond.not (.castable "DummyInches$Rival" "DummyInches$Spy")) (by decide +kernel))
    · exact va_Nc.of (hf (Cond.not (.castable "DummyInches$Spy" "DummyInches$Valet")) (by decide +kernel))
    · exact va_Nc.of (hf (Cond.not (.castable "DummyInches$Spy" "DummyInches$Cook")) (by decide +kernel))
    · exact va_Nc.of (hf (Cond.not (.castable "DummyInches$Spy" "DummyInches$Rival")) (by decide +kernel))
    · exact va_Nc.of (hf (Cond.not (.castable "DummyInches$Valet" "DummyInches$Cook")) (by decide +kernel))
    · exact va_Nc.of (hf (Cond.not (.castable "DummyInches$Valet" "DummyInches$Rival")) (by decide +kernel))
    · exact va_Nc.of (hf (Cond.not (.castable "DummyInches$Valet" "DummyInches$Gossip")) (by decide +kernel))
    · exact va_Nc.of (hf (Cond.not (.castable "DummyInches$Valet" "DummyInches$Spy")) (by decide +kernel))
  · intro q hq
    simp only [ycl, List.mem_cons, List.not_mem_nil, or_false] at hq
    rcases hq with rfl | rfl | rfl | rfl | rfl | rfl | rfl | rfl
    · exact va_Nw.of rfl (hts _ (List.mem_of_getElem? (i := 1348) (by decide +kernel)))
    · exact va_Nw.of rfl (hts _ (List.mem_of_getElem? (i := 1349) (by decide +kernel)))
    · exact va_Nw.of rfl (hts _ (List.mem_of_getElem? (i := 1350) (by decide +kernel)))
    · exact va_Nw.of rfl (hts _ (List.mem_of_getElem? (i := 1351) (by decide +kernel)))
    · exact va_Nw.of rfl (hts _ (List.mem_of_getElem? (i := 1352) (by decide +kernel)))
    · exact va_Nw.of rfl (hts _ (List.mem_of_getElem? (i := 1353) (by decide +kernel)))
    · exact va_Nw.of rfl (hts _ (List.mem_of_getElem? (i := 1354) (by decide +kernel)))
    · exact va_Nw.of rfl (hts _ (List.mem_of_getElem? (i := 1355) (by decide +kernel)))
  · intro q hq
    simp only [nsl, List.mem_cons, List.not_mem_nil, or_false] at hq
    rcases hq with rfl | rfl | rfl | rfl | rfl
    · exact va_Nw.of rfl (hts _ (List.mem_of_getElem? (i := 83) (by decide +kernel)))
    · exact va_Nw.of rfl (hts _ (List.mem_of_getElem? (i := 106) (by decide +kernel)))
    · exact va_Nw.of rfl (hts _ (List.mem_of_getElem? (i := 134) (by decide +kernel)))
    · exact va_Nw.of rfl (hts _ (List.mem_of_getElem? (i := 186) (by decide +kernel)))
    · exact va_Nw.of rfl (hts _ (List.mem_of_getElem? (i := 199) (by decide +kernel)))
  · intro q hq
    simp only [dcl, List.mem_cons, List.not_mem_nil, or_false] at hq
    rcases hq with rfl | rfl
    · exact va_Nw.of rfl (hts _ (List.mem_of_getElem? (i := 495) (by decide +kernel)))
    · exact va_Nw.of rfl (hts _ (List.mem_of_getElem? (i := 815) (by decide +kernel)))
  · intro q hq
    simp only [aol, List.mem_cons, List.not_mem_nil, or_false] at hq
    rcases hq with rfl | rfl | rfl
    · exact (hts (Cond.arrayOver (.object RX4)) (List.mem_of_getElem? (i := 139) (by decide +kernel)) : (Cond.arrayOver (.object RX4)).before #[Value.ref b] s = true)
    · exact (hts (Cond.arrayOver (.object RX8)) (List.mem_of_getElem? (i := 214) (by decide +kernel)) : (Cond.arrayOver (.object RX8)).before #[Value.ref b] s = true)
    · exact (hts (Cond.arrayOver (.array .int)) (List.mem_of_getElem? (i := 88) (by decide +kernel)) : (Cond.arrayOver (.array .int)).before #[Value.ref b] s = true)
section VL
variable {p : Program} {l : Launch} {e : Env} {R : Room} {s : State} {m : MethodId} {args : Array Value} {below : List Frame} {meth : Method} {c : Code} {D : va_G} {cy : Nat → ClassId} {nL : Nat} {Qf : State → Prop} {S : hp} {cells slots pc : Nat} {lv : List (Nat × Value)} {st : List Value} {cc : ByteArray} {own : String}
theorem v_aloadS {b : Nat} (X : CX p s m args c cc nL own D cy) {k : Fin 4} {i : Nat} {x : Nat} (j : Nat) (hd : decode cc pc = .ok (.aload_n k, 1)) (hi : (k : Nat) = i) (hj : lv[j]? = some (i, .retAddr x)) (kk : V p l e R s m args below meth c b D cy nL Qf S cells slots (pc + 1) lv (.retAddr x :: st)) : V p l e R s m args below meth c b D cy nL Qf S cells slots pc lv st := fun H locs ls hH hF hl => lv_aload_n X.1 X.2.1 hd hi (lvk hl j hj) (kk H locs ls hH hF hl)
theorem v_sld (X : CX p s m args c cc nL own D cy) {b L : Nat} {xs : Nat → Int32} (hX : va_X b L xs s s.heap) (hbl : b < s.heap.size) {i : Int32} (hin : vp_in i L) (hd : decode cc pc = .ok (.iaload, 1)) (kk : V p l e R s m args below meth c s.heap.size D cy nL Qf S cells slots (pc + 1) lv (.int (xs i.toNatClampNeg) :: st)) : V p l e R s m args below meth c s.heap.size D cy nL Qf S cells slots pc lv (.int i :: .retAddr b :: st) := fun H locs ls hH hF hl =>
  va_sld (A := fun q : Nat => s.heap.size ≤ q) X.1 X.2.1 hX hbl (Nat.not_le.mpr hbl) ⟨by rw [hH.1]; omega, fun q hq _ => hF.1 q hq, hF.2⟩ hin hd (kk H locs ls hH hF hl)
theorem v_slen (X : CX p s m args c cc nL own D cy) {b L : Nat} {xs : Nat → Int32} (hX : va_X b L xs s s.heap) (hbl : b < s.heap.size) (hd : decode cc pc = .ok (.arraylength, 1)) (kk : V p l e R s m args below meth c s.heap.size D cy nL Qf S cells slots (pc + 1) lv (.int (nI L) :: st)) : V p l e R s m args below meth c s.heap.size D cy nL Qf S cells slots pc lv (.retAddr b :: st) := fun H locs ls hH hF hl =>
  va_slen (A := fun q : Nat => s.heap.size ≤ q) X.1 X.2.1 hX hbl (Nat.not_le.mpr hbl) ⟨by rw [hH.1]; omega, fun q hq _ => hF.1 q hq, hF.2⟩ hd (kk H locs ls hH hF hl)
theorem sidx {i k L : Nat} {z : Int32} (hz : z = nI k) (h : i + k < L) (hL : L ≤ 384) : vp_in (nI i + z) L := by
  rw [hz, nI_add]
  exact vp_in_nI h (by omega)
end VL
set_option maxRecDepth 100000 in
set_option maxHeartbeats 4000000 in
theorem law_row {p : Program} {l : Launch} {e : Env} {s : State} {m : MethodId} {below : List Frame} {meth : Method} {c : Code} {D : va_G} {cy : Nat → ClassId} {scr L : Nat} {xs : Nat → Int32} {Rel : hp → Prop} (hst : st_row Rel) (hL : L ≤ 384) (X : CX p s m #[Value.ref scr] c cL_law 4 RL D cy) (hX : va_X scr L xs s s.heap) (hbl : scr < s.heap.size) {S : hp} (hRel : Rel S) {i cells slots : Nat} (hi : i + 6 ≤ L) (hc : cells + 6 ≤ 100000) (hs : slots + 147 ≤ 1000000) (kk : ∀ S2 : hp, Rel S2 → V p l e room_1 s m #[Value.ref scr] below meth c s.heap.size D cy 4 (lw_Z below #[Value.ref scr] s) S2 (cells + 6) (slots + 147) 1306 [(0, .retAddr scr), (1, .ref 0), (2, .ref 35), (3, .int (nI i))] []) : V p l e room_1 s m #[Value.ref scr] below meth c s.heap.size D cy 4 (lw_Z below #[Value.ref scr] s) S cells slots 184 [(0, .retAddr scr), (1, .ref 0), (2, .ref 35), (3, .int (nI i))] [] := by
  refine v_aload_n X 1 dL_law_184 rfl rfl ?_
  refine v_aloadS X 0 dL_law_185 rfl rfl ?_
  refine v_iload_n X 3 dL_law_186 rfl rfl ?_
  refine v_iconst X (v := 1) dL_law_187 (by decide) ?_
  refine v_iadd X dL_law_188 ?_
  refine v_sld X hX hbl (sidx (k := 1) rfl (by omega) hL) dL_law_189 ?_
  refine v_aloadS X 0 dL_law_190 rfl rfl ?_
  refine v_iload_n X 3 dL_law_191 rfl rfl ?_
  refine v_iconst X (v := 2) dL_law_192 (by decide) ?_
  refine v_iadd X dL_law_193 ?_
  refine v_sld X hX hbl (sidx (k := 2) rfl (by omega) hL) dL_law_194 ?_
  refine v_aloadS X 0 dL_law_195 rfl rfl ?_
  refine v_iload_n X 3 dL_law_196 rfl rfl ?_
  refine v_iconst X (v := 3) dL_law_197 (by decide) ?_
  refine v_iadd X dL_law_198 ?_
  refine v_sld X hX hbl (sidx (k := 3) rfl (by omega) hL) dL_law_199 ?_
  obtain ⟨h0, h⟩ := hst S hRel (xs (nI i + (1 : Int32)).toNatClampNeg) (xs (nI i + (2 : Int32)).toNatClampNeg) (xs (nI i + (3 : Int32)).toNatClampNeg)
  refine v_callV X (av := [.int (xs (nI i + (1 : Int32)).toNatClampNeg), .int (xs (nI i + (2 : Int32)).toNatClampNeg), .int (xs (nI i + (3 : Int32)).toNatClampNeg)]) (T := TX11) (N := 12) (s_X11_row l s.heap.size D cy h) h0 (by decide) rfl wd252 wd253 wd254 wd56 k_X11_row dn_X11_row rfl ⟨Nat.le_of_ble_eq_true rfl, Nat.le_of_ble_eq_true rfl⟩ (Nat.le_of_ble_eq_true rfl) ⟨Nat.le_trans (by omega) (Nat.le_of_ble_eq_true rfl : 100000 ≤ room_1.cells), Nat.le_trans (by omega) (Nat.le_of_ble_eq_true rfl : 1000000 ≤ room_1.slots)⟩ dL_law_200 rfl (kI (fun r1 S1 h => ?_))
  obtain ⟨h0, h⟩ := h
  refine v_aload_n X 2 dL_law_203 rfl rfl ?_
  refine v_aloadS X 0 dL_law_204 rfl rfl ?_
  refine v_iload_n X 3 dL_law_205 rfl rfl ?_
  refine v_iconst X (v := 1) dL_law_206 (by decide) ?_
  refine v_iadd X dL_law_207 ?_
  refine v_sld X hX hbl (sidx (k := 1) rfl (by omega) hL) dL_law_208 ?_
  refine v_aloadS X 0 dL_law_209 rfl rfl ?_
  refine v_iload_n X 3 dL_law_210 rfl rfl ?_
  refine v_iconst X (v := 2) dL_law_211 (by decide) ?_
  refine v_iadd X dL_law_212 ?_
  refine v_sld X hX hbl (sidx (k := 2) rfl (by omega) hL) dL_law_213 ?_
  refine v_aloadS X 0 dL_law_214 rfl rfl ?_
  refine v_iload_n X 3 dL_law_215 rfl rfl ?_
  refine v_iconst X (v := 3) dL_law_216 (by decide) ?_
  refine v_iadd X dL_law_217 ?_
  refine v_sld X hX hbl (sidx (k := 3) rfl (by omega) hL) dL_law_218 ?_
  refine v_callV X (av := [.int (xs (nI i + (1 : Int32)).toNatClampNeg), .int (xs (nI i + (2 : Int32)).toNatClampNeg), .int (xs (nI i + (3 : Int32)).toNatClampNeg)]) (T := TX12) (N := 26) (s_X12_row l s.heap.size D cy h) h0 (by decide) rfl wd1018 wd1019 wd1020 wd62 k_X12_row dn_X12_row rfl ⟨Nat.le_of_ble_eq_true rfl, Nat.le_of_ble_eq_true rfl⟩ (Nat.le_of_ble_eq_true rfl) ⟨Nat.le_trans (by omega) (Nat.le_of_ble_eq_true rfl : 100000 ≤ room_1.cells), Nat.le_trans (by omega) (Nat.le_of_ble_eq_true rfl : 1000000 ≤ room_1.slots)⟩ dL_law_219 rfl (kI (fun r2 S1 h => ?_))
  obtain ⟨rfl, h⟩ := h
  refine v_icmp_eq X (tgt := 1306) dL_law_222 (by decide) (fun _ => ?_) (fun hne => absurd rfl hne)
  exact v_widen (c2 := cells + 6) (s2 := slots + 147) (by (try dsimp only); omega) (by (try dsimp only); omega) (kk S1 h)
set_option maxRecDepth 100000 in
set_option maxHeartbeats 4000000 in
theorem law_set {p : Program} {l : Launch} {e : Env} {s : State} {m : MethodId} {below : List Frame} {meth : Method} {c : Code} {D : va_G} {cy : Nat → ClassId} {scr L : Nat} {xs : Nat → Int32} {Rel : hp → Prop} (hst : st_set Rel) (hL : L ≤ 384) (X : CX p s m #[Value.ref scr] c cL_law 4 RL D cy) (hX : va_X scr L xs s s.heap) (hbl : scr < s.heap.size) {S : hp} (hRel : Rel S) {i cells slots : Nat} (hi : i + 6 ≤ L) (hc : cells + 6 ≤ 100000) (hs : slots + 147 ≤ 1000000) (kk : ∀ S2 : hp, Rel S2 → V p l e room_1 s m #[Value.ref scr] below meth c s.heap.size D cy 4 (lw_Z below #[Value.ref scr] s) S2 (cells + 6) (slots + 147) 1306 [(0, .retAddr scr), (1, .ref 0), (2, .ref 35), (3, .int (nI i))] []) : V p l e room_1 s m #[Value.ref scr] below meth c s.heap.size D cy 4 (lw_Z below #[Value.ref scr] s) S cells slots 227 [(0, .retAddr scr), (1, .ref 0), (2, .ref 35), (3, .int (nI i))] [] := by
  refine v_aload_n X 1 dL_law_227 rfl rfl ?_
  refine v_aloadS X 0 dL_law_228 rfl rfl ?_
  refine v_iload_n X 3 dL_law_229 rfl rfl ?_
  refine v_iconst X (v := 1) dL_law_230 (by decide) ?_
  refine v_iadd X dL_law_231 ?_
  refine v_sld X hX hbl (sidx (k := 1) rfl (by omega) hL) dL_law_232 ?_
  refine v_aloadS X 0 dL_law_233 rfl rfl ?_
  refine v_iload_n X 3 dL_law_234 rfl rfl ?_
  refine v_iconst X (v := 2) dL_law_235 (by decide) ?_
  refine v_iadd X dL_law_236 ?_
  refine v_sld X hX hbl (sidx (k := 2) rfl (by omega) hL) dL_law_237 ?_
  refine v_aloadS X 0 dL_law_238 rfl rfl ?_
  refine v_iload_n X 3 dL_law_239 rfl rfl ?_
  refine v_iconst X (v := 3) dL_law_240 (by decide) ?_
  refine v_iadd X dL_law_241 ?_
  refine v_sld X hX hbl (sidx (k := 3) rfl (by omega) hL) dL_law_242 ?_
  obtain ⟨h0, h⟩ := hst S hRel (xs (nI i + (1 : Int32)).toNatClampNeg) (xs (nI i + (2 : Int32)).toNatClampNeg) (xs (nI i + (3 : Int32)).toNatClampNeg)
  refine v_callV X (av := [.int (xs (nI i + (1 : Int32)).toNatClampNeg), .int (xs (nI i + (2 : Int32)).toNatClampNeg), .int (xs (nI i + (3 : Int32)).toNatClampNeg)]) (T := TX11) (N := 12) (s_X11_set l s.heap.size D cy h) h0 (by decide) rfl wd279 wd280 wd281 wd56 k_X11_set dn_X11_set rfl ⟨Nat.le_of_ble_eq_true rfl, Nat.le_of_ble_eq_true rfl⟩ (Nat.le_of_ble_eq_true rfl) ⟨Nat.le_trans (by omega) (Nat.le_of_ble_eq_true rfl : 100000 ≤ room_1.cells), Nat.le_trans (by omega) (Nat.le_of_ble_eq_true rfl : 1000000 ≤ room_1.slots)⟩ dL_law_243 rfl (kI (fun r1 S1 h => ?_))
  obtain ⟨h0, h⟩ := h
  refine v_aload_n X 2 dL_law_246 rfl rfl ?_
  refine v_aloadS X 0 dL_law_247 rfl rfl ?_
  refine v_iload_n X 3 dL_law_248 rfl rfl ?_
  refine v_iconst X (v := 1) dL_law_249 (by decide) ?_
  refine v_iadd X dL_law_250 ?_
  refine v_sld X hX hbl (sidx (k := 1) rfl (by omega) hL) dL_law_251 ?_
  refine v_aloadS X 0 dL_law_252 rfl rfl ?_
  refine v_iload_n X 3 dL_law_253 rfl rfl ?_
  refine v_iconst X (v := 2) dL_law_254 (by decide) ?_
  refine v_iadd X dL_law_255 ?_
  refine v_sld X hX hbl (sidx (k := 2) rfl (by omega) hL) dL_law_256 ?_
  refine v_aloadS X 0 dL_law_257 rfl rfl ?_
  refine v_iload_n X 3 dL_law_258 rfl rfl ?_
  refine v_iconst X (v := 3) dL_law_259 (by decide) ?_
  refine v_iadd X dL_law_260 ?_
  refine v_sld X hX hbl (sidx (k := 3) rfl (by omega) hL) dL_law_261 ?_
  refine v_callV X (av := [.int (xs (nI i + (1 : Int32)).toNatClampNeg), .int (xs (nI i + (2 : Int32)).toNatClampNeg), .int (xs (nI i + (3 : Int32)).toNatClampNeg)]) (T := TX12) (N := 26) (s_X12_set l s.heap.size D cy h) h0 (by decide) rfl wd1036 wd1037 wd1038 wd62 k_X12_set dn_X12_set rfl ⟨Nat.le_of_ble_eq_true rfl, Nat.le_of_ble_eq_true rfl⟩ (Nat.le_of_ble_eq_true rfl) ⟨Nat.le_trans (by omega) (Nat.le_of_ble_eq_true rfl : 100000 ≤ room_1.cells), Nat.le_trans (by omega) (Nat.le_of_ble_eq_true rfl : 1000000 ≤ room_1.slots)⟩ dL_law_262 rfl (kI (fun r2 S1 h => ?_))
  obtain ⟨rfl, h⟩ := h
  refine v_icmp_eq X (tgt := 1306) dL_law_265 (by decide) (fun _ => ?_) (fun hne => absurd rfl hne)
  exact v_widen (c2 := cells + 6) (s2 := slots + 147) (by (try dsimp only); omega) (by (try dsimp only); omega) (kk S1 h)
set_option maxRecDepth 100000 in
set_option maxHeartbeats 4000000 in
theorem law_copy {p : Program} {l : Launch} {e : Env} {s : State} {m : MethodId} {below : List Frame} {meth : Method} {c : Code} {D : va_G} {cy : Nat → ClassId} {scr L : Nat} {xs : Nat → Int32} {Rel : hp → Prop} (hst : st_copy Rel) (hL : L ≤ 384) (X : CX p s m #[Value.ref scr] c cL_law 4 RL D cy) (hX : va_X scr L xs s s.heap) (hbl : scr < s.heap.size) {S : hp} (hRel : Rel S) {i cells slots : Nat} (hi : i + 6 ≤ L) (hc : cells + 6 ≤ 100000) (hs : slots + 147 ≤ 1000000) (kk : ∀ S2 : hp, Rel S2 → V p l e room_1 s m #[Value.ref scr] below meth c s.heap.size D cy 4 (lw_Z below #[Value.ref scr] s) S2 (cells + 6) (slots + 147) 1306 [(0, .retAddr scr), (1, .ref 0), (2, .ref 35), (3, .int (nI i))] []) : V p l e room_1 s m #[Value.ref scr] below meth c s.heap.size D cy 4 (lw_Z below #[Value.ref scr] s) S cells slots 270 [(0, .retAddr scr), (1, .ref 0), (2, .ref 35), (3, .int (nI i))] [] := by
  refine v_aload_n X 1 dL_law_270 rfl rfl ?_
  refine v_aloadS X 0 dL_law_271 rfl rfl ?_
  refine v_iload_n X 3 dL_law_272 rfl rfl ?_
  refine v_iconst X (v := 1) dL_law_273 (by decide) ?_
  refine v_iadd X dL_law_274 ?_
  refine v_sld X hX hbl (sidx (k := 1) rfl (by omega) hL) dL_law_275 ?_
  refine v_aloadS X 0 dL_law_276 rfl rfl ?_
  refine v_iload_n X 3 dL_law_277 rfl rfl ?_
  refine v_iconst X (v := 2) dL_law_278 (by decide) ?_
  refine v_iadd X dL_law_279 ?_
  refine v_sld X hX hbl (sidx (k := 2) rfl (by omega) hL) dL_law_280 ?_
  refine v_aloadS X 0 dL_law_281 rfl rfl ?_
  refine v_iload_n X 3 dL_law_282 rfl rfl ?_
  refine v_iconst X (v := 3) dL_law_283 (by decide) ?_
  refine v_iadd X dL_law_284 ?_
  refine v_sld X hX hbl (sidx (k := 3) rfl (by omega) hL) dL_law_285 ?_
  refine v_aloadS X 0 dL_law_286 rfl rfl ?_
  refine v_iload_n X 3 dL_law_287 rfl rfl ?_
  refine v_iconst X (v := 4) dL_law_288 (by decide) ?_
  refine v_iadd X dL_law_289 ?_
  refine v_sld X hX hbl (sidx (k := 4) rfl (by omega) hL) dL_law_290 ?_
  refine v_aloadS X 0 dL_law_291 rfl rfl ?_
  refine v_iload_n X 3 dL_law_292 rfl rfl ?_
  refine v_iconst X (v := 5) dL_law_293 (by decide) ?_
  refine v_iadd X dL_law_294 ?_
  refine v_sld X hX hbl (sidx (k := 5) rfl (by omega) hL) dL_law_295 ?_
  obtain ⟨h0, h⟩ := hst S hRel (xs (nI i + (1 : Int32)).toNatClampNeg) (xs (nI i + (2 : Int32)).toNatClampNeg) (xs (nI i + (3 : Int32)).toNatClampNeg) (xs (nI i + (4 : Int32)).toNatClampNeg) (xs (nI i + (5 : Int32)).toNatClampNeg)
  refine v_callV X (av := [.int (xs (nI i + (1 : Int32)).toNatClampNeg), .int (xs (nI i + (2 : Int32)).toNatClampNeg), .int (xs (nI i + (3 : Int32)).toNatClampNeg), .int (xs (nI i + (4 : Int32)).toNatClampNeg), .int (xs (nI i + (5 : Int32)).toNatClampNeg)]) (T := TX11) (N := 12) (s_X11_copy l s.heap.size D cy h) h0 (by decide) rfl wd302 wd303 wd304 wd56 k_X11_copy dn_X11_copy rfl ⟨Nat.le_of_ble_eq_true rfl, Nat.le_of_ble_eq_true rfl⟩ (Nat.le_of_ble_eq_true rfl) ⟨Nat.le_trans (by omega) (Nat.le_of_ble_eq_true rfl : 100000 ≤ room_1.cells), Nat.le_trans (by omega) (Nat.le_of_ble_eq_true rfl : 1000000 ≤ room_1.slots)⟩ dL_law_296 rfl (kI (fun r1 S1 h => ?_))
  obtain ⟨h0, h⟩ := h
  refine v_aload_n X 2 dL_law_299 rfl rfl ?_
  refine v_aloadS X 0 dL_law_300 rfl rfl ?_
  refine v_iload_n X 3 dL_law_301 rfl rfl ?_
  refine v_iconst X (v := 1) dL_law_302 (by decide) ?_
  refine v_iadd X dL_law_303 ?_
  refine v_sld X hX hbl (sidx (k := 1) rfl (by omega) hL) dL_law_304 ?_
  refine v_aloadS X 0 dL_law_305 rfl rfl ?_
  refine v_iload_n X 3 dL_law_306 rfl rfl ?_
  refine v_iconst X (v := 2) dL_law_307 (by decide) ?_
  refine v_iadd X dL_law_308 ?_
  refine v_sld X hX hbl (sidx (k := 2) rfl (by omega) hL) dL_law_309 ?_
  refine v_aloadS X 0 dL_law_310 rfl rfl ?_
  refine v_iload_n X 3 dL_law_311 rfl rfl ?_
  refine v_iconst X (v := 3) dL_law_312 (by decide) ?_
  refine v_iadd X dL_law_313 ?_
  refine v_sld X hX hbl (sidx (k := 3) rfl (by omega) hL) dL_law_314 ?_
  refine v_aloadS X 0 dL_law_315 rfl rfl ?_
  refine v_iload_n X 3 dL_law_316 rfl rfl ?_
  refine v_iconst X (v := 4) dL_law_317 (by decide) ?_
  refine v_iadd X dL_law_318 ?_
  refine v_sld X hX hbl (sidx (k := 4) rfl (by omega) hL) dL_law_319 ?_
  refine v_aloadS X 0 dL_law_320 rfl rfl ?_
  refine v_iload_n X 3 dL_law_321 rfl rfl ?_
  refine v_iconst X (v := 5) dL_law_322 (by decide) ?_
  refine v_iadd X dL_law_323 ?_
  refine v_sld X hX hbl (sidx (k := 5) rfl (by omega) hL) dL_law_324 ?_
  refine v_callV X (av := [.int (xs (nI i + (1 : Int32)).toNatClampNeg), .int (xs (nI i + (2 : Int32)).toNatClampNeg), .int (xs (nI i + (3 : Int32)).toNatClampNeg), .int (xs (nI i + (4 : Int32)).toNatClampNeg), .int (xs (nI i + (5 : Int32)).toNatClampNeg)]) (T := TX12) (N := 26) (s_X12_copy l s.heap.size D cy h) h0 (by decide) rfl wd1040 wd1041 wd1042 wd62 k_X12_copy dn_X12_copy rfl ⟨Nat.le_of_ble_eq_true rfl, Nat.le_of_ble_eq_true rfl⟩ (Nat.le_of_ble_eq_true rfl) ⟨Nat.le_trans (by omega) (Nat.le_of_ble_eq_true rfl : 100000 ≤ room_1.cells), Nat.le_trans (by omega) (Nat.le_of_ble_eq_true rfl : 1000000 ≤ room_1.slots)⟩ dL_law_325 rfl (kI (fun r2 S1 h => ?_))
  obtain ⟨rfl, h⟩ := h
  refine v_icmp_eq X (tgt := 1306) dL_law_328 (by decide) (fun _ => ?_) (fun hne => absurd rfl hne)
  exact v_widen (c2 := cells + 6) (s2 := slots + 147) (by (try dsimp only); omega) (by (try dsimp only); omega) (kk S1 h)
set_option maxRecDepth 100000 in
set_option maxHeartbeats 4000000 in
theorem law_drop {p : Program} {l : Launch} {e : Env} {s : State} {m : MethodId} {below : List Frame} {meth : Method} {c : Code} {D : va_G} {cy : Nat → ClassId} {scr L : Nat} {xs : Nat → Int32} {Rel : hp → Prop} (hst : st_drop Rel) (hL : L ≤ 384) (X : CX p s m #[Value.ref scr] c cL_law 4 RL D cy) (hX : va_X scr L xs s s.heap) (hbl : scr < s.heap.size) {S : hp} (hRel : Rel S) {i cells slots : Nat} (hi : i + 6 ≤ L) (hc : cells + 6 ≤ 100000) (hs : slots + 147 ≤ 1000000) (kk : ∀ S2 : hp, Rel S2 → V p l e room_1 s m #[Value.ref scr] below meth c s.heap.size D cy 4 (lw_Z below #[Value.ref scr] s) S2 (cells + 6) (slots + 147) 1306 [(0, .retAddr scr), (1, .ref 0), (2, .ref 35), (3, .int (nI i))] []) : V p l e room_1 s m #[Value.ref scr] below meth c s.heap.size D cy 4 (lw_Z below #[Value.ref scr] s) S cells slots 333 [(0, .retAddr scr), (1, .ref 0), (2, .ref 35), (3, .int (nI i))] [] := by
  refine v_aload_n X 1 dL_law_333 rfl rfl ?_
  refine v_aloadS X 0 dL_law_334 rfl rfl ?_
  refine v_iload_n X 3 dL_law_335 rfl rfl ?_
  refine v_iconst X (v := 1) dL_law_336 (by decide) ?_
  refine v_iadd X dL_law_337 ?_
  refine v_sld X hX hbl (sidx (k := 1) rfl (by omega) hL) dL_law_338 ?_
  obtain ⟨h0, h⟩ := hst S hRel (xs (nI i + (1 : Int32)).toNatClampNeg)
  refine v_callV X (av := [.int (xs (nI i + (1 : Int32)).toNatClampNeg)]) (T := TX11) (N := 12) (s_X11_drop l s.heap.size D cy h) h0 (by decide) rfl wd317 wd318 wd319 wd56 k_X11_drop dn_X11_drop rfl ⟨Nat.le_of_ble_eq_true rfl, Nat.le_of_ble_eq_true rfl⟩ (Nat.le_of_ble_eq_true rfl) ⟨Nat.le_trans (by omega) (Nat.le_of_ble_eq_true rfl : 100000 ≤ room_1.cells), Nat.le_trans (by omega) (Nat.le_of_ble_eq_true rfl : 1000000 ≤ room_1.slots)⟩ dL_law_339 rfl (kI (fun r1 S1 h => ?_))
  obtain ⟨h0, h⟩ := h
  refine v_aload_n X 2 dL_law_342 rfl rfl ?_
  refine v_aloadS X 0 dL_law_343 rfl rfl ?_
  refine v_iload_n X 3 dL_law_344 rfl rfl ?_
  refine v_iconst X (v := 1) dL_law_345 (by decide) ?_
  refine v_iadd X dL_law_346 ?_
  refine v_sld X hX hbl (sidx (k := 1) rfl (by omega) hL) dL_law_347 ?_
  refine v_callV X (av := [.int (xs (nI i + (1 : Int32)).toNatClampNeg)]) (T := TX12) (N := 26) (s_X12_drop l s.heap.size D cy h) h0 (by decide) rfl wd1044 wd1045 wd1046 wd62 k_X12_drop dn_X12_drop rfl ⟨Nat.le_of_ble_eq_true rfl, Nat.le_of_ble_eq_true rfl⟩ (Nat.le_of_ble_eq_true rfl) ⟨Nat.le_trans (by omega) (Nat.le_of_ble_eq_true rfl : 100000 ≤ room_1.cells), Nat.le_trans (by omega) (Nat.le_of_ble_eq_true rfl : 1000000 ≤ room_1.slots)⟩ dL_law_348 rfl (kI (fun r2 S1 h => ?_))
  obtain ⟨rfl, h⟩ := h
  refine v_icmp_eq X (tgt := 1306) dL_law_351 (by decide) (fun _ => ?_) (fun hne => absurd rfl hne)
  exact v_widen (c2 := cells + 6) (s2 := slots + 147) (by (try dsimp only); omega) (by (try dsimp only); omega) (kk S1 h)
set_option maxRecDepth 100000 in
set_option maxHeartbeats 4000000 in
theorem law_feed {p : Program} {l : Launch} {e : Env} {s : State} {m : MethodId} {below : List Frame} {meth : Method} {c : Code} {D : va_G} {cy : Nat → ClassId} {scr L : Nat} {xs : Nat → Int32} {Rel : hp → Prop} (hst : st_feed Rel) (hL : L ≤ 384) (X : CX p s m #[Value.ref scr] c cL_law 4 RL D cy) (hX : va_X scr L xs s s.heap) (hbl : scr < s.heap.size) {S : hp} (hRel : Rel S) {i cells slots : Nat} (hi : i + 6 ≤ L) (hc : cells + 6 ≤ 100000) (hs : slots + 147 ≤ 1000000) (kk : ∀ S2 : hp, Rel S2 → V p l e room_1 s m #[Value.ref scr] below meth c s.heap.size D cy 4 (lw_Z below #[Value.ref scr] s) S2 (cells + 6) (slots + 147) 1306 [(0, .retAddr scr), (1, .ref 0), (2, .ref 35), (3, .int (nI i))] []) : V p l e room_1 s m #[Value.ref scr] below meth c s.heap.size D cy 4 (lw_Z below #[Value.ref scr] s) S cells slots 356 [(0, .retAddr scr), (1, .ref 0), (2, .ref 35), (3, .int (nI i))] [] := by
  refine v_aload_n X 1 dL_law_356 rfl rfl ?_
  refine v_aloadS X 0 dL_law_357 rfl rfl ?_
  refine v_iload_n X 3 dL_law_358 rfl rfl ?_
  refine v_iconst X (v := 1) dL_law_359 (by decide) ?_
  refine v_iadd X dL_law_360 ?_
  refine v_sld X hX hbl (sidx (k := 1) rfl (by omega) hL) dL_law_361 ?_
  obtain ⟨h0, h⟩ := hst S hRel (xs (nI i + (1 : Int32)).toNatClampNeg)
  refine v_callV X (av := [.int (xs (nI i + (1 : Int32)).toNatClampNeg)]) (T := TX11) (N := 12) (s_X11_feed l s.heap.size D cy h) h0 (by decide) rfl wd326 wd327 wd328 wd56 k_X11_feed dn_X11_feed rfl ⟨Nat.le_of_ble_eq_true rfl, Nat.le_of_ble_eq_true rfl⟩ (Nat.le_of_ble_eq_true rfl) ⟨Nat.le_trans (by omega) (Nat.le_of_ble_eq_true rfl : 100000 ≤ room_1.cells), Nat.le_trans (by omega) (Nat.le_of_ble_eq_true rfl : 1000000 ≤ room_1.slots)⟩ dL_law_362 rfl (kI (fun r1 S1 h => ?_))
  obtain ⟨h0, h⟩ := h
  refine v_aload_n X 2 dL_law_365 rfl rfl ?_
  refine v_aloadS X 0 dL_law_366 rfl rfl ?_
  refine v_iload_n X 3 dL_law_367 rfl rfl ?_
  refine v_iconst X (v := 1) dL_law_368 (by decide) ?_
  refine v_iadd X dL_law_369 ?_
  refine v_sld X hX hbl (sidx (k := 1) rfl (by omega) hL) dL_law_370 ?_
  refine v_callV X (av := [.int (xs (nI i + (1 : Int32)).toNatClampNeg)]) (T := TX12) (N := 26) (s_X12_feed l s.heap.size D cy h) h0 (by decide) rfl wd1048 wd1049 wd1050 wd62 k_X12_feed dn_X12_feed rfl ⟨Nat.le_of_ble_eq_true rfl, Nat.le_of_ble_eq_true rfl⟩ (Nat.le_of_ble_eq_true rfl) ⟨Nat.le_trans (by omega) (Nat.le_of_ble_eq_true rfl : 100000 ≤ room_1.cells), Nat.le_trans (by omega) (Nat.le_of_ble_eq_true rfl : 1000000 ≤ room_1.slots)⟩ dL_law_371 rfl (kI (fun r2 S1 h => ?_))
  obtain ⟨rfl, h⟩ := h
  refine v_icmp_eq X (tgt := 1306) dL_law_374 (by decide) (fun _ => ?_) (fun hne => absurd rfl hne)
  exact v_widen (c2 := cells + 6) (s2 := slots + 147) (by (try dsimp only); omega) (by (try dsimp only); omega) (kk S1 h)
set_option maxRecDepth 100000 in
set_option maxHeartbeats 4000000 in
theorem law_street {p : Program} {l : Launch} {e : Env} {s : State} {m : MethodId} {below : List Frame} {meth : Method} {c : Code} {D : va_G} {cy : Nat → ClassId} {scr L : Nat} {xs : Nat → Int32} {Rel : hp → Prop} (hst : st_street Rel) (hL : L ≤ 384) (X : CX p s m #[Value.ref scr] c cL_law 4 RL D cy) (hX : va_X scr L xs s s.heap) (hbl : scr < s.heap.size) {S : hp} (hRel : Rel S) {i cells slots : Nat} (hi : i + 6 ≤ L) (hc : cells + 6 ≤ 100000) (hs : slots + 147 ≤ 1000000) (kk : ∀ S2 : hp, Rel S2 → V p l e room_1 s m #[Value.ref scr] below meth c s.heap.size D cy 4 (lw_Z below #[Value.ref scr] s) S2 (cells + 6) (slots + 147) 1306 [(0, .retAddr scr), (1, .ref 0), (2, .ref 35), (3, .int (nI i))] []) : V p l e room_1 s m #[Value.ref scr] below meth c s.heap.size D cy 4 (lw_Z below #[Value.ref scr] s) S cells slots 379 [(0, .retAddr scr), (1, .ref 0), (2, .ref 35), (3, .int (nI i))] [] := by
  refine v_aload_n X 1 dL_law_379 rfl rfl ?_
  obtain ⟨h0, h⟩ := hst S hRel 
  refine v_callV X (av := []) (T := TX11) (N := 12) (s_X11_street l s.heap.size D cy h) h0 (by decide) rfl wd339 wd340 wd341 wd56 k_X11_street dn_X11_street rfl ⟨Nat.le_of_ble_eq_true rfl, Nat.le_of_ble_eq_true rfl⟩ (Nat.le_of_ble_eq_true rfl) ⟨Nat.le_trans (by omega) (Nat.le_of_ble_eq_true rfl : 100000 ≤ room_1.cells), Nat.le_trans (by omega) (Nat.le_of_ble_eq_true rfl : 1000000 ≤ room_1.slots)⟩ dL_law_380 rfl (kI (fun r1 S1 h => ?_))
  obtain ⟨h0, h⟩ := h
  refine v_aload_n X 2 dL_law_383 rfl rfl ?_
  refine v_callV X (av := []) (T := TX12) (N := 26) (s_X12_street l s.heap.size D cy h) h0 (by decide) rfl wd1058 wd1059 wd1060 wd62 k_X12_street dn_X12_street rfl ⟨Nat.le_of_ble_eq_true rfl, Nat.le_of_ble_eq_true rfl⟩ (Nat.le_of_ble_eq_true rfl) ⟨Nat.le_trans (by omega) (Nat.le_of_ble_eq_true rfl : 100000 ≤ room_1.cells), Nat.le_trans (by omega) (Nat.le_of_ble_eq_true rfl : 1000000 ≤ room_1.slots)⟩ dL_law_384 rfl (kI (fun r2 S1 h => ?_))
  obtain ⟨rfl, h⟩ := h
  refine v_icmp_eq X (tgt := 1306) dL_law_387 (by decide) (fun _ => ?_) (fun hne => absurd rfl hne)
  exact v_widen (c2 := cells + 6) (s2 := slots + 147) (by (try dsimp only); omega) (by (try dsimp only); omega) (kk S1 h)
set_option maxRecDepth 100000 in
set_option maxHeartbeats 4000000 in
theorem law_fault {p : Program} {l : Launch} {e : Env} {s : State} {m : MethodId} {below : List Frame} {meth : Method} {c : Code} {D : va_G} {cy : Nat → ClassId} {scr L : Nat} {xs : Nat → Int32} {Rel : hp → Prop} (hst : st_fault Rel) (hL : L ≤ 384) (X : CX p s m #[Value.ref scr] c cL_law 4 RL D cy) (hX : va_X scr L xs s s.heap) (hbl : scr < s.heap.size) {S : hp} (hRel : Rel S) {i cells slots : Nat} (hi : i + 6 ≤ L) (hc : cells + 6 ≤ 100000) (hs : slots + 147 ≤ 1000000) (kk : ∀ S2 : hp, Rel S2 → V p l e room_1 s m #[Value.ref scr] below meth c s.heap.size D cy 4 (lw_Z below #[Value.ref scr] s) S2 (cells + 6) (slots + 147) 1306 [(0, .retAddr scr), (1, .ref 0), (2, .ref 35), (3, .int (nI i))] []) : V p l e room_1 s m #[Value.ref scr] below meth c s.heap.size D cy 4 (lw_Z below #[Value.ref scr] s) S cells slots 392 [(0, .retAddr scr), (1, .ref 0), (2, .ref 35), (3, .int (nI i))] [] := by
  refine v_aload_n X 1 dL_law_392 rfl rfl ?_
  obtain ⟨h0, h⟩ := hst S hRel 
  refine v_callV X (av := []) (T := TX11) (N := 12) (s_X11_fault l s.heap.size D cy h) h0 (by decide) rfl wd466 wd467 wd468 wd56 k_X11_fault dn_X11_fault rfl ⟨Nat.le_of_ble_eq_true rfl, Nat.le_of_ble_eq_true rfl⟩ (Nat.le_of_ble_eq_true rfl) ⟨Nat.le_trans (by omega) (Nat.le_of_ble_eq_true rfl : 100000 ≤ room_1.cells), Nat.le_trans (by omega) (Nat.le_of_ble_eq_true rfl : 1000000 ≤ room_1.slots)⟩ dL_law_393 rfl (kI (fun r1 S1 h => ?_))
  obtain ⟨h0, h⟩ := h
  refine v_aload_n X 2 dL_law_396 rfl rfl ?_
  refine v_callV X (av := []) (T := TX12) (N := 26) (s_X12_fault l s.heap.size D cy h) h0 (by decide) rfl wd1054 wd1055 wd1056 wd62 k_X12_fault dn_X12_fault rfl ⟨Nat.le_of_ble_eq_true rfl, Nat.le_of_ble_eq_true rfl⟩ (Nat.le_of_ble_eq_true rfl) ⟨Nat.le_trans (by omega) (Nat.le_of_ble_eq_true rfl : 100000 ≤ room_1.cells), Nat.le_trans (by omega) (Nat.le_of_ble_eq_true rfl : 1000000 ≤ room_1.slots)⟩ dL_law_397 rfl (kI (fun r2 S1 h => ?_))
  obtain ⟨rfl, h⟩ := h
  refine v_icmp_eq X (tgt := 1306) dL_law_400 (by decide) (fun _ => ?_) (fun hne => absurd rfl hne)
  exact v_widen (c2 := cells + 6) (s2 := slots + 147) (by (try dsimp only); omega) (by (try dsimp only); omega) (kk S1 h)
set_option maxRecDepth 100000 in
set_option maxHeartbeats 4000000 in
theorem law_undo {p : Program} {l : Launch} {e : Env} {s : State} {m : MethodId} {below : List Frame} {meth : Method} {c : Code} {D : va_G} {cy : Nat → ClassId} {scr L : Nat} {xs : Nat → Int32} {Rel : hp → Prop} (hst : st_undo Rel) (hL : L ≤ 384) (X : CX p s m #[Value.ref scr] c cL_law 4 RL D cy) (hX : va_X scr L xs s s.heap) (hbl : scr < s.heap.size) {S : hp} (hRel : Rel S) {i cells slots : Nat} (hi : i + 6 ≤ L) (hc : cells + 6 ≤ 100000) (hs : slots + 147 ≤ 1000000) (kk : ∀ S2 : hp, Rel S2 → V p l e room_1 s m #[Value.ref scr] below meth c s.heap.size D cy 4 (lw_Z below #[Value.ref scr] s) S2 (cells + 6) (slots + 147) 1306 [(0, .retAddr scr), (1, .ref 0), (2, .ref 35), (3, .int (nI i))] []) : V p l e room_1 s m #[Value.ref scr] below meth c s.heap.size D cy 4 (lw_Z below #[Value.ref scr] s) S cells slots 405 [(0, .retAddr scr), (1, .ref 0), (2, .ref 35), (3, .int (nI i))] [] := by
  refine v_aload_n X 1 dL_law_405 rfl rfl ?_
  obtain ⟨h0, h⟩ := hst S hRel 
  refine v_callV X (av := []) (T := TX11) (N := 12) (s_X11_undo l s.heap.size D cy h) h0 (by decide) rfl wd470 wd471 wd472 wd56 k_X11_undo dn_X11_undo rfl ⟨Nat.le_of_ble_eq_true rfl, Nat.le_of_ble_eq_true rfl⟩ (Nat.le_of_ble_eq_true rfl) ⟨Nat.le_trans (by omega) (Nat.le_of_ble_eq_true rfl : 100000 ≤ room_1.cells), Nat.le_trans (by omega) (Nat.le_of_ble_eq_true rfl : 1000000 ≤ room_1.slots)⟩ dL_law_406 rfl (kI (fun r1 S1 h => ?_))
  obtain ⟨h0, h⟩ := h
  refine v_aload_n X 2 dL_law_409 rfl rfl ?_
  refine v_callV X (av := []) (T := TX12) (N := 26) (s_X12_undo l s.heap.size D cy h) h0 (by decide) rfl wd1167 wd1168 wd1169 wd62 k_X12_undo dn_X12_undo rfl ⟨Nat.le_of_ble_eq_true rfl, Nat.le_of_ble_eq_true rfl⟩ (Nat.le_of_ble_eq_true rfl) ⟨Nat.le_trans (by omega) (Nat.le_of_ble_eq_true rfl : 100000 ≤ room_1.cells), Nat.le_trans (by omega) (Nat.le_of_ble_eq_true rfl : 1000000 ≤ room_1.slots)⟩ dL_law_410 rfl (kI (fun r2 S1 h => ?_))
  obtain ⟨rfl, h⟩ := h
  refine v_icmp_eq X (tgt := 1306) dL_law_413 (by decide) (fun _ => ?_) (fun hne => absurd rfl hne)
  exact v_widen (c2 := cells + 6) (s2 := slots + 147) (by (try dsimp only); omega) (by (try dsimp only); omega) (kk S1 h)
set_option maxRecDepth 100000 in
set_option maxHeartbeats 4000000 in
theorem law_tell {p : Program} {l : Launch} {e : Env} {s : State} {m : MethodId} {below : List Frame} {meth : Method} {c : Code} {D : va_G} {cy : Nat → ClassId} {scr L : Nat} {xs : Nat → Int32} {Rel : hp → Prop} (hst : st_tell Rel) (hL : L ≤ 384) (X : CX p s m #[Value.ref scr] c cL_law 4 RL D cy) (hX : va_X scr L xs s s.heap) (hbl : scr < s.heap.size) {S : hp} (hRel : Rel S) {i cells slots : Nat} (hi : i + 6 ≤ L) (hc : cells + 6 ≤ 100000) (hs : slots + 147 ≤ 1000000) (kk : ∀ S2 : hp, Rel S2 → V p l e room_1 s m #[Value.ref scr] below meth c s.heap.size D cy 4 (lw_Z below #[Value.ref scr] s) S2 (cells + 6) (slots + 147) 1306 [(0, .retAddr scr), (1, .ref 0), (2, .ref 35), (3, .int (nI i))] []) : V p l e room_1 s m #[Value.ref scr] below meth c s.heap.size D cy 4 (lw_Z below #[Value.ref scr] s) S cells slots 418 [(0, .retAddr scr), (1, .ref 0), (2, .ref 35), (3, .int (nI i))] [] := by
  refine v_aload_n X 1 dL_law_418 rfl rfl ?_
  refine v_aloadS X 0 dL_law_419 rfl rfl ?_
  refine v_iload_n X 3 dL_law_420 rfl rfl ?_
  refine v_iconst X (v := 1) dL_law_421 (by decide) ?_
  refine v_iadd X dL_law_422 ?_
  refine v_sld X hX hbl (sidx (k := 1) rfl (by omega) hL) dL_law_423 ?_
  refine v_aloadS X 0 dL_law_424 rfl rfl ?_
  refine v_iload_n X 3 dL_law_425 rfl rfl ?_
  refine v_iconst X (v := 2) dL_law_426 (by decide) ?_
  refine v_iadd X dL_law_427 ?_
  refine v_sld X hX hbl (sidx (k := 2) rfl (by omega) hL) dL_law_428 ?_
  refine v_aloadS X 0 dL_law_429 rfl rfl ?_
  refine v_iload_n X 3 dL_law_430 rfl rfl ?_
  refine v_iconst X (v := 3) dL_law_431 (by decide) ?_
  refine v_iadd X dL_law_432 ?_
  refine v_sld X hX hbl (sidx (k := 3) rfl (by omega) hL) dL_law_433 ?_
  refine v_aloadS X 0 dL_law_434 rfl rfl ?_
  refine v_iload_n X 3 dL_law_435 rfl rfl ?_
  refine v_iconst X (v := 4) dL_law_436 (by decide) ?_
  refine v_iadd X dL_law_437 ?_
  refine v_sld X hX hbl (sidx (k := 4) rfl (by omega) hL) dL_law_438 ?_
  obtain ⟨h0, h⟩ := hst S hRel (xs (nI i + (1 : Int32)).toNatClampNeg) (xs (nI i + (2 : Int32)).toNatClampNeg) (xs (nI i + (3 : Int32)).toNatClampNeg) (xs (nI i + (4 : Int32)).toNatClampNeg)
  refine v_callV X (av := [.int (xs (nI i + (1 : Int32)).toNatClampNeg), .int (xs (nI i + (2 : Int32)).toNatClampNeg), .int (xs (nI i + (3 : Int32)).toNatClampNeg), .int (xs (nI i + (4 : Int32)).toNatClampNeg)]) (T := TX11) (N := 12) (s_X11_tell l s.heap.size D cy h) h0 (by decide) rfl wd475 wd476 wd477 wd56 k_X11_tell dn_X11_tell rfl ⟨Nat.le_of_ble_eq_true rfl, Nat.le_of_ble_eq_true rfl⟩ (Nat.le_of_ble_eq_true rfl) ⟨Nat.le_trans (by omega) (Nat.le_of_ble_eq_true rfl : 100000 ≤ room_1.cells), Nat.le_trans (by omega) (Nat.le_of_ble_eq_true rfl : 1000000 ≤ room_1.slots)⟩ dL_law_439 rfl (kI (fun r1 S1 h => ?_))
  obtain ⟨h0, h⟩ := h
  refine v_aload_n X 2 dL_law_442 rfl rfl ?_
  refine v_aloadS X 0 dL_law_443 rfl rfl ?_
  refine v_iload_n X 3 dL_law_444 rfl rfl ?_
  refine v_iconst X (v := 1) dL_law_445 (by decide) ?_
  refine v_iadd X dL_law_446 ?_
  refine v_sld X hX hbl (sidx (k := 1) rfl (by omega) hL) dL_law_447 ?_
  refine v_aloadS X 0 dL_law_448 rfl rfl ?_
  refine v_iload_n X 3 dL_law_449 rfl rfl ?_
  refine v_iconst X (v := 2) dL_law_450 (by decide) ?_
  refine v_iadd X dL_law_451 ?_
  refine v_sld X hX hbl (sidx (k := 2) rfl (by omega) hL) dL_law_452 ?_
  refine v_aloadS X 0 dL_law_453 rfl rfl ?_
  refine v_iload_n X 3 dL_law_454 rfl rfl ?_
  refine v_iconst X (v := 3) dL_law_455 (by decide) ?_
  refine v_iadd X dL_law_456 ?_
  refine v_sld X hX hbl (sidx (k := 3) rfl (by omega) hL) dL_law_457 ?_
  refine v_aloadS X 0 dL_law_458 rfl rfl ?_
  refine v_iload_n X 3 dL_law_459 rfl rfl ?_
  refine v_iconst X (v := 4) dL_law_460 (by decide) ?_
  refine v_iadd X dL_law_461 ?_
  refine v_sld X hX hbl (sidx (k := 4) rfl (by omega) hL) dL_law_462 ?_
  refine v_callV X (av := [.int (xs (nI i + (1 : Int32)).toNatClampNeg), .int (xs (nI i + (2 : Int32)).toNatClampNeg), .int (xs (nI i + (3 : Int32)).toNatClampNeg), .int (xs (nI i + (4 : Int32)).toNatClampNeg)]) (T := TX12) (N := 26) (s_X12_tell l s.heap.size D cy h) h0 (by decide) rfl wd1111 wd1112 wd1113 wd62 k_X12_tell dn_X12_tell rfl ⟨Nat.le_of_ble_eq_true rfl, Nat.le_of_ble_eq_true rfl⟩ (Nat.le_of_ble_eq_true rfl) ⟨Nat.le_trans (by omega) (Nat.le_of_ble_eq_true rfl : 100000 ≤ room_1.cells), Nat.le_trans (by omega) (Nat.le_of_ble_eq_true rfl : 1000000 ≤ room_1.slots)⟩ dL_law_463 rfl (kI (fun r2 S1 h => ?_))
  obtain ⟨rfl, h⟩ := h
  refine v_icmp_eq X (tgt := 1306) dL_law_466 (by decide) (fun _ => ?_) (fun hne => absurd rfl hne)
  exact v_widen (c2 := cells + 6) (s2 := slots + 147) (by (try dsimp only); omega) (by (try dsimp only); omega) (kk S1 h)
set_option maxRecDepth 100000 in
set_option maxHeartbeats 4000000 in
theorem law_year {p : Program} {l : Launch} {e : Env} {s : State} {m : MethodId} {below : List Frame} {meth : Method} {c : Code} {D : va_G} {cy : Nat → ClassId} {scr L : Nat} {xs : Nat → Int32} {Rel : hp → Prop} (hst : st_year Rel) (hL : L ≤ 384) (X : CX p s m #[Value.ref scr] c cL_law 4 RL D cy) (hX : va_X scr L xs s s.heap) (hbl : scr < s.heap.size) {S : hp} (hRel : Rel S) {i cells slots : Nat} (hi : i + 6 ≤ L) (hc : cells + 6 ≤ 100000) (hs : slots + 147 ≤ 1000000) (kk : ∀ S2 : hp, Rel S2 → V p l e room_1 s m #[Value.ref scr] below meth c s.heap.size D cy 4 (lw_Z below #[Value.ref scr] s) S2 (cells + 6) (slots + 147) 1306 [(0, .retAddr scr), (1, .ref 0), (2, .ref 35), (3, .int (nI i))] []) : V p l e room_1 s m #[Value.ref scr] below meth c s.heap.size D cy 4 (lw_Z below #[Value.ref scr] s) S cells slots 471 [(0, .retAddr scr), (1, .ref 0), (2, .ref 35), (3, .int (nI i))] [] := by
  refine v_aload_n X 1 dL_law_471 rfl rfl ?_
  obtain ⟨h0, h⟩ := hst S hRel 
  refine v_callV X (av := []) (T := TX11) (N := 12) (s_X11_year l s.heap.size D cy h) h0 (by decide) rfl wd544 wd545 wd546 wd56 k_X11_year dn_X11_year rfl ⟨Nat.le_of_ble_eq_true rfl, Nat.le_of_ble_eq_true rfl⟩ (Nat.le_of_ble_eq_true rfl) ⟨Nat.le_trans (by omega) (Nat.le_of_ble_eq_true rfl : 100000 ≤ room_1.cells), Nat.le_trans (by omega) (Nat.le_of_ble_eq_true rfl : 1000000 ≤ room_1.slots)⟩ dL_law_472 rfl (kI (fun r1 S1 h => ?_))
  obtain ⟨h0, h⟩ := h
  refine v_aload_n X 2 dL_law_475 rfl rfl ?_
  refine v_callV X (av := []) (T := TX12) (N := 26) (s_X12_year l s.heap.size D cy h) h0 (by decide) rfl wd1146 wd1147 wd1148 wd62 k_X12_year dn_X12_year rfl ⟨Nat.le_of_ble_eq_true rfl, Nat.le_of_ble_eq_true rfl⟩ (Nat.le_of_ble_eq_true rfl) ⟨Nat.le_trans (by omega) (Nat.le_of_ble_eq_true rfl : 100000 ≤ room_1.cells), Nat.le_trans (by omega) (Nat.le_of_ble_eq_true rfl : 1000000 ≤ room_1.slots)⟩ dL_law_476 rfl (kI (fun r2 S1 h => ?_))
  obtain ⟨rfl, h⟩ := h
  refine v_icmp_eq X (tgt := 1306) dL_law_479 (by decide) (fun _ => ?_) (fun hne => absurd rfl hne)
  exact v_widen (c2 := cells + 6) (s2 := slots + 147) (by (try dsimp only); omega) (by (try dsimp only); omega) (kk S1 h)
set_option maxRecDepth 100000 in
set_option maxHeartbeats 4000000 in
theorem law_swap {p : Program} {l : Launch} {e : Env} {s : State} {m : MethodId} {below : List Frame} {meth : Method} {c : Code} {D : va_G} {cy : Nat → ClassId} {scr L : Nat} {xs : Nat → Int32} {Rel : hp → Prop} (hst : st_swap Rel) (hL : L ≤ 384) (X : CX p s m #[Value.ref scr] c cL_law 4 RL D cy) (hX : va_X scr L xs s s.heap) (hbl : scr < s.heap.size) {S : hp} (hRel : Rel S) {i cells slots : Nat} (hi : i + 6 ≤ L) (hc : cells + 6 ≤ 100000) (hs : slots + 147 ≤ 1000000) (kk : ∀ S2 : hp, Rel S2 → V p l e room_1 s m #[Value.ref scr] below meth c s.heap.size D cy 4 (lw_Z below #[Value.ref scr] s) S2 (cells + 6) (slots + 147) 1306 [(0, .retAddr scr), (1, .ref 0), (2, .ref 35), (3, .int (nI i))] []) : V p l e room_1 s m #[Value.ref scr] below meth c s.heap.size D cy 4 (lw_Z below #[Value.ref scr] s) S cells slots 484 [(0, .retAddr scr), (1, .ref 0), (2, .ref 35), (3, .int (nI i))] [] := by
  refine v_aload_n X 1 dL_law_484 rfl rfl ?_
  refine v_aloadS X 0 dL_law_485 rfl rfl ?_
  refine v_iload_n X 3 dL_law_486 rfl rfl ?_
  refine v_iconst X (v := 1) dL_law_487 (by decide) ?_
  refine v_iadd X dL_law_488 ?_
  refine v_sld X hX hbl (sidx (k := 1) rfl (by omega) hL) dL_law_489 ?_
  refine v_aloadS X 0 dL_law_490 rfl rfl ?_
  refine v_iload_n X 3 dL_law_491 rfl rfl ?_
  refine v_iconst X (v := 2) dL_law_492 (by decide) ?_
  refine v_iadd X dL_law_493 ?_
  refine v_sld X hX hbl (sidx (k := 2) rfl (by omega) hL) dL_law_494 ?_
  obtain ⟨h0, h⟩ := hst S hRel (xs (nI i + (1 : Int32)).toNatClampNeg) (xs (nI i + (2 : Int32)).toNatClampNeg)
  refine v_callV X (av := [.int (xs (nI i + (1 : Int32)).toNatClampNeg), .int (xs (nI i + (2 : Int32)).toNatClampNeg)]) (T := TX11) (N := 12) (s_X11_swap l s.heap.size D cy h) h0 (by decide) rfl wd557 wd558 wd559 wd56 k_X11_swap dn_X11_swap rfl ⟨Nat.le_of_ble_eq_true rfl, Nat.le_of_ble_eq_true rfl⟩ (Nat.le_of_ble_eq_true rfl) ⟨Nat.le_trans (by omega) (Nat.le_of_ble_eq_true rfl : 100000 ≤ room_1.cells), Nat.le_trans (by omega) (Nat.le_of_ble_eq_true rfl : 1000000 ≤ room_1.slots)⟩ dL_law_495 rfl (kI (fun r1 S1 h => ?_))
  obtain ⟨h0, h⟩ := h
  refine v_aload_n X 2 dL_law_498 rfl rfl ?_
  refine v_aloadS X 0 dL_law_499 rfl rfl ?_
  refine v_iload_n X 3 dL_law_500 rfl rfl ?_
  refine v_iconst X (v := 1) dL_law_501 (by decide) ?_
  refine v_iadd X dL_law_502 ?_
  refine v_sld X hX hbl (sidx (k := 1) rfl (by omega) hL) dL_law_503 ?_
  refine v_aloadS X 0 dL_law_504 rfl rfl ?_
  refine v_iload_n X 3 dL_law_505 rfl rfl ?_
  refine v_iconst X (v := 2) dL_law_506 (by decide) ?_
  refine v_iadd X dL_law_507 ?_
  refine v_sld X hX hbl (sidx (k := 2) rfl (by omega) hL) dL_law_508 ?_
  refine v_callV X (av := [.int (xs (nI i + (1 : Int32)).toNatClampNeg), .int (xs (nI i + (2 : Int32)).toNatClampNeg)]) (T := TX12) (N := 26) (s_X12_swap l s.heap.size D cy h) h0 (by decide) rfl wd1159 wd1160 wd1161 wd62 k_X12_swap dn_X12_swap rfl ⟨Nat.le_of_ble_eq_true rfl, Nat.le_of_ble_eq_true rfl⟩ (Nat.le_of_ble_eq_true rfl) ⟨Nat.le_trans (by omega) (Nat.le_of_ble_eq_true rfl : 100000 ≤ room_1.cells), Nat.le_trans (by omega) (Nat.le_of_ble_eq_true rfl : 1000000 ≤ room_1.slots)⟩ dL_law_509 rfl (kI (fun r2 S1 h => ?_))
  obtain ⟨rfl, h⟩ := h
  refine v_icmp_eq X (tgt := 1306) dL_law_512 (by decide) (fun _ => ?_) (fun hne => absurd rfl hne)
  exact v_widen (c2 := cells + 6) (s2 := slots + 147) (by (try dsimp only); omega) (by (try dsimp only); omega) (kk S1 h)
set_option maxRecDepth 100000 in
set_option maxHeartbeats 4000000 in
theorem law_close {p : Program} {l : Launch} {e : Env} {s : State} {m : MethodId} {below : List Frame} {meth : Method} {c : Code} {D : va_G} {cy : Nat → ClassId} {scr L : Nat} {xs : Nat → Int32} {Rel : hp → Prop} (hst : st_close Rel) (hL : L ≤ 384) (X : CX p s m #[Value.ref scr] c cL_law 4 RL D cy) (hX : va_X scr L xs s s.heap) (hbl : scr < s.heap.size) {S : hp} (hRel : Rel S) {i cells slots : Nat} (hi : i + 6 ≤ L) (hc : cells + 6 ≤ 100000) (hs : slots + 147 ≤ 1000000) (kk : ∀ S2 : hp, Rel S2 → V p l e room_1 s m #[Value.ref scr] below meth c s.heap.size D cy 4 (lw_Z below #[Value.ref scr] s) S2 (cells + 6) (slots + 147) 1306 [(0, .retAddr scr), (1, .ref 0), (2, .ref 35), (3, .int (nI i))] []) : V p l e room_1 s m #[Value.ref scr] below meth c s.heap.size D cy 4 (lw_Z below #[Value.ref scr] s) S cells slots 517 [(0, .retAddr scr), (1, .ref 0), (2, .ref 35), (3, .int (nI i))] [] := by
  refine v_aload_n X 1 dL_law_517 rfl rfl ?_
  obtain ⟨h0, h⟩ := hst S hRel 
  refine v_callV X (av := []) (T := TX11) (N := 12) (s_X11_close l s.heap.size D cy h) h0 (by decide) rfl wd573 wd574 wd575 wd56 k_X11_close dn_X11_close rfl ⟨Nat.le_of_ble_eq_true rfl, Nat.le_of_ble_eq_true rfl⟩ (Nat.le_of_ble_eq_true rfl) ⟨Nat.le_trans (by omega) (Nat.le_of_ble_eq_true rfl : 100000 ≤ room_1.cells), Nat.le_trans (by omega) (Nat.le_of_ble_eq_true rfl : 1000000 ≤ room_1.slots)⟩ dL_law_518 rfl (kI (fun r1 S1 h => ?_))
  obtain ⟨h0, h⟩ := h
  refine v_aload_n X 2 dL_law_521 rfl rfl ?_
  refine v_callV X (av := []) (T := TX12) (N := 26) (s_X12_close l s.heap.size D cy h) h0 (by decide) rfl wd1163 wd1164 wd1165 wd62 k_X12_close dn_X12_close rfl ⟨Nat.le_of_ble_eq_true rfl, Nat.le_of_ble_eq_true rfl⟩ (Nat.le_of_ble_eq_true rfl) ⟨Nat.le_trans (by omega) (Nat.le_of_ble_eq_true rfl : 100000 ≤ room_1.cells), Nat.le_trans (by omega) (Nat.le_of_ble_eq_true rfl : 1000000 ≤ room_1.slots)⟩ dL_law_522 rfl (kI (fun r2 S1 h => ?_))
  obtain ⟨rfl, h⟩ := h
  refine v_icmp_eq X (tgt := 1306) dL_law_525 (by decide) (fun _ => ?_) (fun hne => absurd rfl hne)
  exact v_widen (c2 := cells + 6) (s2 := slots + 147) (by (try dsimp only); omega) (by (try dsimp only); omega) (kk S1 h)
set_option maxRecDepth 100000 in
set_option maxHeartbeats 4000000 in
theorem law_dummy {p : Program} {l : Launch} {e : Env} {s : State} {m : MethodId} {below : List Frame} {meth : Method} {c : Code} {D : va_G} {cy : Nat → ClassId} {scr L : Nat} {xs : Nat → Int32} {Rel : hp → Prop} (hst : st_dummy Rel) (hL : L ≤ 384) (X : CX p s m #[Value.ref scr] c cL_law 4 RL D cy) (hX : va_X scr L xs s s.heap) (hbl : scr < s.heap.size) {S : hp} (hRel : Rel S) {i cells slots : Nat} (hi : i + 6 ≤ L) (hc : cells + 6 ≤ 100000) (hs : slots + 147 ≤ 1000000) (kk : ∀ S2 : hp, Rel S2 → V p l e room_1 s m #[Value.ref scr] below meth c s.heap.size D cy 4 (lw_Z below #[Value.ref scr] s) S2 (cells + 6) (slots + 147) 1306 [(0, .retAddr scr), (1, .ref 0), (2, .ref 35), (3, .int (nI i))] []) : V p l e room_1 s m #[Value.ref scr] below meth c s.heap.size D cy 4 (lw_Z below #[Value.ref scr] s) S cells slots 530 [(0, .retAddr scr), (1, .ref 0), (2, .ref 35), (3, .int (nI i))] [] := by
  refine v_aload_n X 1 dL_law_530 rfl rfl ?_
  refine v_aloadS X 0 dL_law_531 rfl rfl ?_
  refine v_iload_n X 3 dL_law_532 rfl rfl ?_
  refine v_iconst X (v := 1) dL_law_533 (by decide) ?_
  refine v_iadd X dL_law_534 ?_
  refine v_sld X hX hbl (sidx (k := 1) rfl (by omega) hL) dL_law_535 ?_
  refine v_aloadS X 0 dL_law_536 rfl rfl ?_
  refine v_iload_n X 3 dL_law_537 rfl rfl ?_
  refine v_iconst X (v := 2) dL_law_538 (by decide) ?_
  refine v_iadd X dL_law_539 ?_
  refine v_sld X hX hbl (sidx (k := 2) rfl (by omega) hL) dL_law_540 ?_
  refine v_aloadS X 0 dL_law_541 rfl rfl ?_
  refine v_iload_n X 3 dL_law_542 rfl rfl ?_
  refine v_iconst X (v := 3) dL_law_543 (by decide) ?_
  refine v_iadd X dL_law_544 ?_
  refine v_sld X hX hbl (sidx (k := 3) rfl (by omega) hL) dL_law_545 ?_
  obtain ⟨h0, h⟩ := hst S hRel (xs (nI i + (1 : Int32)).toNatClampNeg) (xs (nI i + (2 : Int32)).toNatClampNeg) (xs (nI i + (3 : Int32)).toNatClampNeg)
  refine v_callV X (av := [.int (xs (nI i + (1 : Int32)).toNatClampNeg), .int (xs (nI i + (2 : Int32)).toNatClampNeg), .int (xs (nI i + (3 : Int32)).toNatClampNeg)]) (T := TX11) (N := 12) (s_X11_dummy l s.heap.size D cy h) h0 (by decide) rfl wd582 wd583 wd584 wd56 k_X11_dummy dn_X11_dummy rfl ⟨Nat.le_of_ble_eq_true rfl, Nat.le_of_ble_eq_true rfl⟩ (Nat.le_of_ble_eq_true rfl) ⟨Nat.le_trans (by omega) (Nat.le_of_ble_eq_true rfl : 100000 ≤ room_1.cells), Nat.le_trans (by omega) (Nat.le_of_ble_eq_true rfl : 1000000 ≤ room_1.slots)⟩ dL_law_546 rfl (kI (fun r1 S1 h => ?_))
  obtain ⟨h0, h⟩ := h
  refine v_aload_n X 2 dL_law_549 rfl rfl ?_
  refine v_aloadS X 0 dL_law_550 rfl rfl ?_
  refine v_iload_n X 3 dL_law_551 rfl rfl ?_
  refine v_iconst X (v := 1) dL_law_552 (by decide) ?_
  refine v_iadd X dL_law_553 ?_
  refine v_sld X hX hbl (sidx (k := 1) rfl (by omega) hL) dL_law_554 ?_
  refine v_aloadS X 0 dL_law_555 rfl rfl ?_
  refine v_iload_n X 3 dL_law_556 rfl rfl ?_
  refine v_iconst X (v := 2) dL_law_557 (by decide) ?_
  refine v_iadd X dL_law_558 ?_
  refine v_sld X hX hbl (sidx (k := 2) rfl (by omega) hL) dL_law_559 ?_
  refine v_aloadS X 0 dL_law_560 rfl rfl ?_
  refine v_iload_n X 3 dL_law_561 rfl rfl ?_
  refine v_iconst X (v := 3) dL_law_562 (by decide) ?_
  refine v_iadd X dL_law_563 ?_
  refine v_sld X hX hbl (sidx (k := 3) rfl (by omega) hL) dL_law_564 ?_
  refine v_callV X (av := [.int (xs (nI i + (1 : Int32)).toNatClampNeg), .int (xs (nI i + (2 : Int32)).toNatClampNeg), .int (xs (nI i + (3 : Int32)).toNatClampNeg)]) (T := TX12) (N := 26) (s_X12_dummy l s.heap.size D cy h) h0 (by decide) rfl wd1171 wd1172 wd1173 wd62 k_X12_dummy dn_X12_dummy rfl ⟨Nat.le_of_ble_eq_true rfl, Nat.le_of_ble_eq_true rfl⟩ (Nat.le_of_ble_eq_true rfl) ⟨Nat.le_trans (by omega) (Nat.le_of_ble_eq_true rfl : 100000 ≤ room_1.cells), Nat.le_trans (by omega) (Nat.le_of_ble_eq_true rfl : 1000000 ≤ room_1.slots)⟩ dL_law_565 rfl (kI (fun r2 S1 h => ?_))
  obtain ⟨rfl, h⟩ := h
  refine v_icmp_eq X (tgt := 1306) dL_law_568 (by decide) (fun _ => ?_) (fun hne => absurd rfl hne)
  exact v_widen (c2 := cells + 6) (s2 := slots + 147) (by (try dsimp only); omega) (by (try dsimp only); omega) (kk S1 h)
set_option maxRecDepth 100000 in
set_option maxHeartbeats 4000000 in
theorem law_line {p : Program} {l : Launch} {e : Env} {s : State} {m : MethodId} {below : List Frame} {meth : Method} {c : Code} {D : va_G} {cy : Nat → ClassId} {scr L : Nat} {xs : Nat → Int32} {Rel : hp → Prop} (hst : st_line Rel) (hL : L ≤ 384) (X : CX p s m #[Value.ref scr] c cL_law 4 RL D cy) (hX : va_X scr L xs s s.heap) (hbl : scr < s.heap.size) {S : hp} (hRel : Rel S) {i cells slots : Nat} (hi : i + 6 ≤ L) (hc : cells + 6 ≤ 100000) (hs : slots + 147 ≤ 1000000) (kk : ∀ S2 : hp, Rel S2 → V p l e room_1 s m #[Value.ref scr] below meth c s.heap.size D cy 4 (lw_Z below #[Value.ref scr] s) S2 (cells + 6) (slots + 147) 1306 [(0, .retAddr scr), (1, .ref 0), (2, .ref 35), (3, .int (nI i))] []) : V p l e room_1 s m #[Value.ref scr] below meth c s.heap.size D cy 4 (lw_Z below #[Value.ref scr] s) S cells slots 573 [(0, .retAddr scr), (1, .ref 0), (2, .ref 35), (3, .int (nI i))] [] := by
  refine v_aload_n X 1 dL_law_573 rfl rfl ?_
  refine v_aloadS X 0 dL_law_574 rfl rfl ?_
  refine v_iload_n X 3 dL_law_575 rfl rfl ?_
  refine v_iconst X (v := 1) dL_law_576 (by decide) ?_
  refine v_iadd X dL_law_577 ?_
  refine v_sld X hX hbl (sidx (k := 1) rfl (by omega) hL) dL_law_578 ?_
  refine v_aloadS X 0 dL_law_579 rfl rfl ?_
  refine v_iload_n X 3 dL_law_580 rfl rfl ?_
  refine v_iconst X (v := 2) dL_law_581 (by decide) ?_
  refine v_iadd X dL_law_582 ?_
  refine v_sld X hX hbl (sidx (k := 2) rfl (by omega) hL) dL_law_583 ?_
  obtain ⟨h0, h⟩ := hst S hRel (xs (nI i + (1 : Int32)).toNatClampNeg) (xs (nI i + (2 : Int32)).toNatClampNeg)
  refine v_callV X (av := [.int (xs (nI i + (1 : Int32)).toNatClampNeg), .int (xs (nI i + (2 : Int32)).toNatClampNeg)]) (T := TX11) (N := 12) (s_X11_line l s.heap.size D cy h) h0 (by decide) rfl wd590 wd591 wd592 wd56 k_X11_line dn_X11_line rfl ⟨Nat.le_of_ble_eq_true rfl, Nat.le_of_ble_eq_true rfl⟩ (Nat.le_of_ble_eq_true rfl) ⟨Nat.le_trans (by omega) (Nat.le_of_ble_eq_true rfl : 100000 ≤ room_1.cells), Nat.le_trans (by omega) (Nat.le_of_ble_eq_true rfl : 1000000 ≤ room_1.slots)⟩ dL_law_584 rfl (kI (fun r1 S1 h => ?_))
  obtain ⟨h0, h⟩ := h
  refine v_aload_n X 2 dL_law_587 rfl rfl ?_
  refine v_aloadS X 0 dL_law_588 rfl rfl ?_
  refine v_iload_n X 3 dL_law_589 rfl rfl ?_
  refine v_iconst X (v := 1) dL_law_590 (by decide) ?_
  refine v_iadd X dL_law_591 ?_
  refine v_sld X hX hbl (sidx (k := 1) rfl (by omega) hL) dL_law_592 ?_
  refine v_aloadS X 0 dL_law_593 rfl rfl ?_
  refine v_iload_n X 3 dL_law_594 rfl rfl ?_
  refine v_iconst X (v := 2) dL_law_595 (by decide) ?_
  refine v_iadd X dL_law_596 ?_
  refine v_sld X hX hbl (sidx (k := 2) rfl (by omega) hL) dL_law_597 ?_
  refine v_callV X (av := [.int (xs (nI i + (1 : Int32)).toNatClampNeg), .int (xs (nI i + (2 : Int32)).toNatClampNeg)]) (T := TX12) (N := 26) (s_X12_line l s.heap.size D cy h) h0 (by decide) rfl wd1179 wd1180 wd1181 wd62 k_X12_line dn_X12_line rfl ⟨Nat.le_of_ble_eq_true rfl, Nat.le_of_ble_eq_true rfl⟩ (Nat.le_of_ble_eq_true rfl) ⟨Nat.le_trans (by omega) (Nat.le_of_ble_eq_true rfl : 100000 ≤ room_1.cells), Nat.le_trans (by omega) (Nat.le_of_ble_eq_true rfl : 1000000 ≤ room_1.slots)⟩ dL_law_598 rfl (kI (fun r2 S1 h => ?_))
  obtain ⟨rfl, h⟩ := h
  refine v_icmp_eq X (tgt := 1306) dL_law_601 (by decide) (fun _ => ?_) (fun hne => absurd rfl hne)
  exact v_widen (c2 := cells + 6) (s2 := slots + 147) (by (try dsimp only); omega) (by (try dsimp only); omega) (kk S1 h)
set_option maxRecDepth 100000 in
set_option maxHeartbeats 4000000 in
theorem law_pads {p : Program} {l : Launch} {e : Env} {s : State} {m : MethodId} {below : List Frame} {meth : Method} {c : Code} {D : va_G} {cy : Nat → ClassId} {scr L : Nat} {xs : Nat → Int32} {Rel : hp → Prop} (hst : st_pads Rel) (hL : L ≤ 384) (X : CX p s m #[Value.ref scr] c cL_law 4 RL D cy) (hX : va_X scr L xs s s.heap) (hbl : scr < s.heap.size) {S : hp} (hRel : Rel S) {i cells slots : Nat} (hi : i + 6 ≤ L) (hc : cells + 6 ≤ 100000) (hs : slots + 147 ≤ 1000000) (kk : ∀ S2 : hp, Rel S2 → V p l e room_1 s m #[Value.ref scr] below meth c s.heap.size D cy 4 (lw_Z below #[Value.ref scr] s) S2 (cells + 6) (slots + 147) 1306 [(0, .retAddr scr), (1, .ref 0), (2, .ref 35), (3, .int (nI i))] []) : V p l e room_1 s m #[Value.ref scr] below meth c s.heap.size D cy 4 (lw_Z below #[Value.ref scr] s) S cells slots 606 [(0, .retAddr scr), (1, .ref 0), (2, .ref 35), (3, .int (nI i))] [] := by
  refine v_aload_n X 1 dL_law_606 rfl rfl ?_
  refine v_aloadS X 0 dL_law_607 rfl rfl ?_
  refine v_iload_n X 3 dL_law_608 rfl rfl ?_
  refine v_iconst X (v := 1) dL_law_609 (by decide) ?_
  refine v_iadd X dL_law_610 ?_
  refine v_sld X hX hbl (sidx (k := 1) rfl (by omega) hL) dL_law_611 ?_
  refine v_aloadS X 0 dL_law_612 rfl rfl ?_
  refine v_iload_n X 3 dL_law_613 rfl rfl ?_
  refine v_iconst X (v := 2) dL_law_614 (by decide) ?_
  refine v_iadd X dL_law_615 ?_
  refine v_sld X hX hbl (sidx (k := 2) rfl (by omega) hL) dL_law_616 ?_
  obtain ⟨h0, h⟩ := hst S hRel (xs (nI i + (1 : Int32)).toNatClampNeg) (xs (nI i + (2 : Int32)).toNatClampNeg)
  refine v_callV X (av := [.int (xs (nI i + (1 : Int32)).toNatClampNeg), .int (xs (nI i + (2 : Int32)).toNatClampNeg)]) (T := TX11) (N := 12) (s_X11_pads l s.heap.size D cy h) h0 (by decide) rfl wd598 wd599 wd600 wd56 k_X11_pads dn_X11_pads rfl ⟨Nat.le_of_ble_eq_true rfl, Nat.le_of_ble_eq_true rfl⟩ (Nat.le_of_ble_eq_true rfl) ⟨Nat.le_trans (by omega) (Nat.le_of_ble_eq_true rfl : 100000 ≤ room_1.cells), Nat.le_trans (by omega) (Nat.le_of_ble_eq_true rfl : 1000000 ≤ room_1.slots)⟩ dL_law_617 rfl (kI (fun r1 S1 h => ?_))
  obtain ⟨h0, h⟩ := h
  refine v_aload_n X 2 dL_law_620 rfl rfl ?_
  refine v_aloadS X 0 dL_law_621 rfl rfl ?_
  refine v_iload_n X 3 dL_law_622 rfl rfl ?_
  refine v_iconst X (v := 1) dL_law_623 (by decide) ?_
  refine v_iadd X dL_law_624 ?_
  refine v_sld X hX hbl (sidx (k := 1) rfl (by omega) hL) dL_law_625 ?_
  refine v_aloadS X 0 dL_law_626 rfl rfl ?_
  refine v_iload_n X 3 dL_law_627 rfl rfl ?_
  refine v_iconst X (v := 2) dL_law_628 (by decide) ?_
  refine v_iadd X dL_law_629 ?_
  refine v_sld X hX hbl (sidx (k := 2) rfl (by omega) hL) dL_law_630 ?_
  refine v_callV X (av := [.int (xs (nI i + (1 : Int32)).toNatClampNeg), .int (xs (nI i + (2 : Int32)).toNatClampNeg)]) (T := TX12) (N := 26) (s_X12_pads l s.heap.size D cy h) h0 (by decide) rfl wd1188 wd1189 wd1190 wd62 k_X12_pads dn_X12_pads rfl ⟨Nat.le_of_ble_eq_true rfl, Nat.le_of_ble_eq_true rfl⟩ (Nat.le_of_ble_eq_true rfl) ⟨Nat.le_trans (by omega) (Nat.le_of_ble_eq_true rfl : 100000 ≤ room_1.cells), Nat.le_trans (by omega) (Nat.le_of_ble_eq_true rfl : 1000000 ≤ room_1.slots)⟩ dL_law_631 rfl (kI (fun r2 S1 h => ?_))
  obtain ⟨rfl, h⟩ := h
  refine v_icmp_eq X (tgt := 1306) dL_law_634 (by decide) (fun _ => ?_) (fun hne => absurd rfl hne)
  exact v_widen (c2 := cells + 6) (s2 := slots + 147) (by (try dsimp only); omega) (by (try dsimp only); omega) (kk S1 h)
set_option maxRecDepth 100000 in
set_option maxHeartbeats 4000000 in
theorem law_was {p : Program} {l : Launch} {e : Env} {s : State} {m : MethodId} {below : List Frame} {meth : Method} {c : Code} {D : va_G} {cy : Nat → ClassId} {scr L : Nat} {xs : Nat → Int32} {Rel : hp → Prop} (hst : st_was Rel) (hL : L ≤ 384) (X : CX p s m #[Value.ref scr] c cL_law 4 RL D cy) (hX : va_X scr L xs s s.heap) (hbl : scr < s.heap.size) {S : hp} (hRel : Rel S) {i cells slots : Nat} (hi : i + 6 ≤ L) (hc : cells + 6 ≤ 100000) (hs : slots + 147 ≤ 1000000) (kk : ∀ S2 : hp, Rel S2 → V p l e room_1 s m #[Value.ref scr] below meth c s.heap.size D cy 4 (lw_Z below #[Value.ref scr] s) S2 (cells + 6) (slots + 147) 1306 [(0, .retAddr scr), (1, .ref 0), (2, .ref 35), (3, .int (nI i))] []) : V p l e room_1 s m #[Value.ref scr] below meth c s.heap.size D cy 4 (lw_Z below #[Value.ref scr] s) S cells slots 639 [(0, .retAddr scr), (1, .ref 0), (2, .ref 35), (3, .int (nI i))] [] := by
  refine v_aload_n X 1 dL_law_639 rfl rfl ?_
  refine v_aloadS X 0 dL_law_640 rfl rfl ?_
  refine v_iload_n X 3 dL_law_641 rfl rfl ?_
  refine v_iconst X (v := 1) dL_law_642 (by decide) ?_
  refine v_iadd X dL_law_643 ?_
  refine v_sld X hX hbl (sidx (k := 1) rfl (by omega) hL) dL_law_644 ?_
  refine v_aloadS X 0 dL_law_645 rfl rfl ?_
  refine v_iload_n X 3 dL_law_646 rfl rfl ?_
  refine v_iconst X (v := 2) dL_law_647 (by decide) ?_
  refine v_iadd X dL_law_648 ?_
  refine v_sld X hX hbl (sidx (k := 2) rfl (by omega) hL) dL_law_649 ?_
  refine v_aloadS X 0 dL_law_650 rfl rfl ?_
  refine v_iload_n X 3 dL_law_651 rfl rfl ?_
  refine v_iconst X (v := 3) dL_law_652 (by decide) ?_
  refine v_iadd X dL_law_653 ?_
  refine v_sld X hX hbl (sidx (k := 3) rfl (by omega) hL) dL_law_654 ?_
  obtain ⟨h0, h⟩ := hst S hRel (xs (nI i + (1 : Int32)).toNatClampNeg) (xs (nI i + (2 : Int32)).toNatClampNeg) (xs (nI i + (3 : Int32)).toNatClampNeg)
  refine v_callV X (av := [.int (xs (nI i + (1 : Int32)).toNatClampNeg), .int (xs (nI i + (2 : Int32)).toNatClampNeg), .int (xs (nI i + (3 : Int32)).toNatClampNeg)]) (T := TX11) (N := 12) (s_X11_was l s.heap.size D cy h) h0 (by decide) rfl wd602 wd603 wd604 wd56 k_X11_was dn_X11_was rfl ⟨Nat.le_of_ble_eq_true rfl, Nat.le_of_ble_eq_true rfl⟩ (Nat.le_of_ble_eq_true rfl) ⟨Nat.le_trans (by omega) (Nat.le_of_ble_eq_true rfl : 100000 ≤ room_1.cells), Nat.le_trans (by omega) (Nat.le_of_ble_eq_true rfl : 1000000 ≤ room_1.slots)⟩ dL_law_655 rfl (kI (fun r1 S1 h => ?_))
  obtain ⟨h0, h⟩ := h
  refine v_aload_n X 2 dL_law_658 rfl rfl ?_
  refine v_aloadS X 0 dL_law_659 rfl rfl ?_
  refine v_iload_n X 3 dL_law_660 rfl rfl ?_
  refine v_iconst X (v := 1) dL_law_661 (by decide) ?_
  refine v_iadd X dL_law_662 ?_
  refine v_sld X hX hbl (sidx (k := 1) rfl (by omega) hL) dL_law_663 ?_
  refine v_aloadS X 0 dL_law_664 rfl rfl ?_
  refine v_iload_n X 3 dL_law_665 rfl rfl ?_
  refine v_iconst X (v := 2) dL_law_666 (by decide) ?_
  refine v_iadd X dL_law_667 ?_
  refine v_sld X hX hbl (sidx (k := 2) rfl (by omega) hL) dL_law_668 ?_
  refine v_aloadS X 0 dL_law_669 rfl rfl ?_
  refine v_iload_n X 3 dL_law_670 rfl rfl ?_
  refine v_iconst X (v := 3) dL_law_671 (by decide) ?_
  refine v_iadd X dL_law_672 ?_
  refine v_sld X hX hbl (sidx (k := 3) rfl (by omega) hL) dL_law_673 ?_
  refine v_callV X (av := [.int (xs (nI i + (1 : Int32)).toNatClampNeg), .int (xs (nI i + (2 : Int32)).toNatClampNeg), .int (xs (nI i + (3 : Int32)).toNatClampNeg)]) (T := TX12) (N := 26) (s_X12_was l s.heap.size D cy h) h0 (by decide) rfl wd1192 wd1193 wd1194 wd62 k_X12_was dn_X12_was rfl ⟨Nat.le_of_ble_eq_true rfl, Nat.le_of_ble_eq_true rfl⟩ (Nat.le_of_ble_eq_true rfl) ⟨Nat.le_trans (by omega) (Nat.le_of_ble_eq_true rfl : 100000 ≤ room_1.cells), Nat.le_trans (by omega) (Nat.le_of_ble_eq_true rfl : 1000000 ≤ room_1.slots)⟩ dL_law_674 rfl (kI (fun r2 S1 h => ?_))
  obtain ⟨rfl, h⟩ := h
  refine v_icmp_eq X (tgt := 1306) dL_law_677 (by decide) (fun _ => ?_) (fun hne => absurd rfl hne)
  exact v_widen (c2 := cells + 6) (s2 := slots + 147) (by (try dsimp only); omega) (by (try dsimp only); omega) (kk S1 h)
set_option maxRecDepth 100000 in
set_option maxHeartbeats 4000000 in
theorem law_liars {p : Program} {l : Launch} {e : Env} {s : State} {m : MethodId} {below : List Frame} {meth : Method} {c : Code} {D : va_G} {cy : Nat → ClassId} {scr L : Nat} {xs : Nat → Int32} {Rel : hp → Prop} (hst : st_liars Rel) (hL : L ≤ 384) (X : CX p s m #[Value.ref scr] c cL_law 4 RL D cy) (hX : va_X scr L xs s s.heap) (hbl : scr < s.heap.size) {S : hp} (hRel : Rel S) {i cells slots : Nat} (hi : i + 6 ≤ L) (hc : cells + 6 ≤ 100000) (hs : slots + 147 ≤ 1000000) (kk : ∀ S2 : hp, Rel S2 → V p l e room_1 s m #[Value.ref scr] below meth c s.heap.size D cy 4 (lw_Z below #[Value.ref scr] s) S2 (cells + 6) (slots + 147) 1306 [(0, .retAddr scr), (1, .ref 0), (2, .ref 35), (3, .int (nI i))] []) : V p l e room_1 s m #[Value.ref scr] below meth c s.heap.size D cy 4 (lw_Z below #[Value.ref scr] s) S cells slots 682 [(0, .retAddr scr), (1, .ref 0), (2, .ref 35), (3, .int (nI i))] [] := by
  refine v_aload_n X 1 dL_law_682 rfl rfl ?_
  refine v_aloadS X 0 dL_law_683 rfl rfl ?_
  refine v_iload_n X 3 dL_law_684 rfl rfl ?_
  refine v_iconst X (v := 1) dL_law_685 (by decide) ?_
  refine v_iadd X dL_law_686 ?_
  refine v_sld X hX hbl (sidx (k := 1) rfl (by omega) hL) dL_law_687 ?_
  refine v_aloadS X 0 dL_law_688 rfl rfl ?_
  refine v_iload_n X 3 dL_law_689 rfl rfl ?_
  refine v_iconst X (v := 2) dL_law_690 (by decide) ?_
  refine v_iadd X dL_law_691 ?_
  refine v_sld X hX hbl (sidx (k := 2) rfl (by omega) hL) dL_law_692 ?_
  refine v_aloadS X 0 dL_law_693 rfl rfl ?_
  refine v_iload_n X 3 dL_law_694 rfl rfl ?_
  refine v_iconst X (v := 3) dL_law_695 (by decide) ?_
  refine v_iadd X dL_law_696 ?_
  refine v_sld X hX hbl (sidx (k := 3) rfl (by omega) hL) dL_law_697 ?_
  refine v_aloadS X 0 dL_law_698 rfl rfl ?_
  refine v_iload_n X 3 dL_law_699 rfl rfl ?_
  refine v_iconst X (v := 4) dL_law_700 (by decide) ?_
  refine v_iadd X dL_law_701 ?_
  refine v_sld X hX hbl (sidx (k := 4) rfl (by omega) hL) dL_law_702 ?_
  obtain ⟨h0, h⟩ := hst S hRel (xs (nI i + (1 : Int32)).toNatClampNeg) (xs (nI i + (2 : Int32)).toNatClampNeg) (xs (nI i + (3 : Int32)).toNatClampNeg) (xs (nI i + (4 : Int32)).toNatClampNeg)
  refine v_callV X (av := [.int (xs (nI i + (1 : Int32)).toNatClampNeg), .int (xs (nI i + (2 : Int32)).toNatClampNeg), .int (xs (nI i + (3 : Int32)).toNatClampNeg), .int (xs (nI i + (4 : Int32)).toNatClampNeg)]) (T := TX11) (N := 12) (s_X11_liars l s.heap.size D cy h) h0 (by decide) rfl wd615 wd616 wd617 wd56 k_X11_liars dn_X11_liars rfl ⟨Nat.le_of_ble_eq_true rfl, Nat.le_of_ble_eq_true rfl⟩ (Nat.le_of_ble_eq_true rfl) ⟨Nat.le_trans (by omega) (Nat.le_of_ble_eq_true rfl : 100000 ≤ room_1.cells), Nat.le_trans (by omega) (Nat.le_of_ble_eq_true rfl : 1000000 ≤ room_1.slots)⟩ dL_law_703 rfl (kI (fun r1 S1 h => ?_))
  obtain ⟨h0, h⟩ := h
  refine v_aload_n X 2 dL_law_706 rfl rfl ?_
  refine v_aloadS X 0 dL_law_707 rfl rfl ?_
  refine v_iload_n X 3 dL_law_708 rfl rfl ?_
  refine v_iconst X (v := 1) dL_law_709 (by decide) ?_
  refine v_iadd X dL_law_710 ?_
  refine v_sld X hX hbl (sidx (k := 1) rfl (by omega) hL) dL_law_711 ?_
  refine v_aloadS X 0 dL_law_712 rfl rfl ?_
  refine v_iload_n X 3 dL_law_713 rfl rfl ?_
  refine v_iconst X (v := 2) dL_law_714 (by decide) ?_
  refine v_iadd X dL_law_715 ?_
  refine v_sld X hX hbl (sidx (k := 2) rfl (by omega) hL) dL_law_716 ?_
  refine v_aloadS X 0 dL_law_717 rfl rfl ?_
  refine v_iload_n X 3 dL_law_718 rfl rfl ?_
  refine v_iconst X (v := 3) dL_law_719 (by decide) ?_
  refine v_iadd X dL_law_720 ?_
  refine v_sld X hX hbl (sidx (k := 3) rfl (by omega) hL) dL_law_721 ?_
  refine v_aloadS X 0 dL_law_722 rfl rfl ?_
  refine v_iload_n X 3 dL_law_723 rfl rfl ?_
  refine v_iconst X (v := 4) dL_law_724 (by decide) ?_
  refine v_iadd X dL_law_725 ?_
  refine v_sld X hX hbl (sidx (k := 4) rfl (by omega) hL) dL_law_726 ?_
  refine v_callV X (av := [.int (xs (nI i + (1 : Int32)).toNatClampNeg), .int (xs (nI i + (2 : Int32)).toNatClampNeg), .int (xs (nI i + (3 : Int32)).toNatClampNeg), .int (xs (nI i + (4 : Int32)).toNatClampNeg)]) (T := TX12) (N := 26) (s_X12_liars l s.heap.size D cy h) h0 (by decide) rfl wd1196 wd1197 wd1198 wd62 k_X12_liars dn_X12_liars rfl ⟨Nat.le_of_ble_eq_true rfl, Nat.le_of_ble_eq_true rfl⟩ (Nat.le_of_ble_eq_true rfl) ⟨Nat.le_trans (by omega) (Nat.le_of_ble_eq_true rfl : 100000 ≤ room_1.cells), Nat.le_trans (by omega) (Nat.le_of_ble_eq_true rfl : 1000000 ≤ room_1.slots)⟩ dL_law_727 rfl (kI (fun r2 S1 h => ?_))
  obtain ⟨rfl, h⟩ := h
  refine v_icmp_eq X (tgt := 1306) dL_law_730 (by decide) (fun _ => ?_) (fun hne => absurd rfl hne)
  exact v_widen (c2 := cells + 6) (s2 := slots + 147) (by (try dsimp only); omega) (by (try dsimp only); omega) (kk S1 h)
set_option maxRecDepth 100000 in
set_option maxHeartbeats 4000000 in
theorem law_blame {p : Program} {l : Launch} {e : Env} {s : State} {m : MethodId} {below : List Frame} {meth : Method} {c : Code} {D : va_G} {cy : Nat → ClassId} {scr L : Nat} {xs : Nat → Int32} {Rel : hp → Prop} (hst : st_blame Rel) (hL : L ≤ 384) (X : CX p s m #[Value.ref scr] c cL_law 4 RL D cy) (hX : va_X scr L xs s s.heap) (hbl : scr < s.heap.size) {S : hp} (hRel : Rel S) {i cells slots : Nat} (hi : i + 6 ≤ L) (hc : cells + 6 ≤ 100000) (hs : slots + 147 ≤ 1000000) (kk : ∀ S2 : hp, Rel S2 → V p l e room_1 s m #[Value.ref scr] below meth c s.heap.size D cy 4 (lw_Z below #[Value.ref scr] s) S2 (cells + 6) (slots + 147) 1306 [(0, .retAddr scr), (1, .ref 0), (2, .ref 35), (3, .int (nI i))] []) : V p l e room_1 s m #[Value.ref scr] below meth c s.heap.size D cy 4 (lw_Z below #[Value.ref scr] s) S cells slots 735 [(0, .retAddr scr), (1, .ref 0), (2, .ref 35), (3, .int (nI i))] [] := by
  refine v_aload_n X 1 dL_law_735 rfl rfl ?_
  refine v_aloadS X 0 dL_law_736 rfl rfl ?_
  refine v_iload_n X 3 dL_law_737 rfl rfl ?_
  refine v_iconst X (v := 1) dL_law_738 (by decide) ?_
  refine v_iadd X dL_law_739 ?_
  refine v_sld X hX hbl (sidx (k := 1) rfl (by omega) hL) dL_law_740 ?_
  refine v_aloadS X 0 dL_law_741 rfl rfl ?_
  refine v_iload_n X 3 dL_law_742 rfl rfl ?_
  refine v_iconst X (v := 2) dL_law_743 (by decide) ?_
  refine v_iadd X dL_law_744 ?_
  refine v_sld X hX hbl (sidx (k := 2) rfl (by omega) hL) dL_law_745 ?_
  refine v_aloadS X 0 dL_law_746 rfl rfl ?_
  refine v_iload_n X 3 dL_law_747 rfl rfl ?_
  refine v_iconst X (v := 3) dL_law_748 (by decide) ?_
  refine v_iadd X dL_law_749 ?_
  refine v_sld X hX hbl (sidx (k := 3) rfl (by omega) hL) dL_law_750 ?_
  refine v_aloadS X 0 dL_law_751 rfl rfl ?_
  refine v_iload_n X 3 dL_law_752 rfl rfl ?_
  refine v_iconst X (v := 4) dL_law_753 (by decide) ?_
  refine v_iadd X dL_law_754 ?_
  refine v_sld X hX hbl (sidx (k := 4) rfl (by omega) hL) dL_law_755 ?_
  refine v_aloadS X 0 dL_law_756 rfl rfl ?_
  refine v_iload_n X 3 dL_law_757 rfl rfl ?_
  refine v_iconst X (v := 5) dL_law_758 (by decide) ?_
  refine v_iadd X dL_law_759 ?_
  refine v_sld X hX hbl (sidx (k := 5) rfl (by omega) hL) dL_law_760 ?_
  obtain ⟨h0, h⟩ := hst S hRel (xs (nI i + (1 : Int32)).toNatClampNeg) (xs (nI i + (2 : Int32)).toNatClampNeg) (xs (nI i + (3 : Int32)).toNatClampNeg) (xs (nI i + (4 : Int32)).toNatClampNeg) (xs (nI i + (5 : Int32)).toNatClampNeg)
  refine v_callV X (av := [.int (xs (nI i + (1 : Int32)).toNatClampNeg), .int (xs (nI i + (2 : Int32)).toNatClampNeg), .int (xs (nI i + (3 : Int32)).toNatClampNeg), .int (xs (nI i + (4 : Int32)).toNatClampNeg), .int (xs (nI i + (5 : Int32)).toNatClampNeg)]) (T := TX11) (N := 12) (s_X11_blame l s.heap.size D cy h) h0 (by decide) rfl wd667 wd668 wd669 wd56 k_X11_blame dn_X11_blame rfl ⟨Nat.le_of_ble_eq_true rfl, Nat.le_of_ble_eq_true rfl⟩ (Nat.le_of_ble_eq_true rfl) ⟨Nat.le_trans (by omega) (Nat.le_of_ble_eq_true rfl : 100000 ≤ room_1.cells), Nat.le_trans (by omega) (Nat.le_of_ble_eq_true rfl : 1000000 ≤ room_1.slots)⟩ dL_law_761 rfl (kI (fun r1 S1 h => ?_))
  obtain ⟨h0, h⟩ := h
  refine v_aload_n X 2 dL_law_764 rfl rfl ?_
  refine v_aloadS X 0 dL_law_765 rfl rfl ?_
  refine v_iload_n X 3 dL_law_766 rfl rfl ?_
  refine v_iconst X (v := 1) dL_law_767 (by decide) ?_
  refine v_iadd X dL_law_768 ?_
  refine v_sld X hX hbl (sidx (k := 1) rfl (by omega) hL) dL_law_769 ?_
  refine v_aloadS X 0 dL_law_770 rfl rfl ?_
  refine v_iload_n X 3 dL_law_771 rfl rfl ?_
  refine v_iconst X (v := 2) dL_law_772 (by decide) ?_
  refine v_iadd X dL_law_773 ?_
  refine v_sld X hX hbl (sidx (k := 2) rfl (by omega) hL) dL_law_774 ?_
  refine v_aloadS X 0 dL_law_775 rfl rfl ?_
  refine v_iload_n X 3 dL_law_776 rfl rfl ?_
  refine v_iconst X (v := 3) dL_law_777 (by decide) ?_
  refine v_iadd X dL_law_778 ?_
  refine v_sld X hX hbl (sidx (k := 3) rfl (by omega) hL) dL_law_779 ?_
  refine v_aloadS X 0 dL_law_780 rfl rfl ?_
  refine v_iload_n X 3 dL_law_781 rfl rfl ?_
  refine v_iconst X (v := 4) dL_law_782 (by decide) ?_
  refine v_iadd X dL_law_783 ?_
  refine v_sld X hX hbl (sidx (k := 4) rfl (by omega) hL) dL_law_784 ?_
  refine v_aloadS X 0 dL_law_785 rfl rfl ?_
  refine v_iload_n X 3 dL_law_786 rfl rfl ?_
  refine v_iconst X (v := 5) dL_law_787 (by decide) ?_
  refine v_iadd X dL_law_788 ?_
  refine v_sld X hX hbl (sidx (k := 5) rfl (by omega) hL) dL_law_789 ?_
  refine v_callV X (av := [.int (xs (nI i + (1 : Int32)).toNatClampNeg), .int (xs (nI i + (2 : Int32)).toNatClampNeg), .int (xs (nI i + (3 : Int32)).toNatClampNeg), .int (xs (nI i + (4 : Int32)).toNatClampNeg), .int (xs (nI i + (5 : Int32)).toNatClampNeg)]) (T := TX12) (N := 26) (s_X12_blame l s.heap.size D cy h) h0 (by decide) rfl wd1215 wd1216 wd1217 wd62 k_X12_blame dn_X12_blame rfl ⟨Nat.le_of_ble_eq_true rfl, Nat.le_of_ble_eq_true rfl⟩ (Nat.le_of_ble_eq_true rfl) ⟨Nat.le_trans (by omega) (Nat.le_of_ble_eq_true rfl : 100000 ≤ room_1.cells), Nat.le_trans (by omega) (Nat.le_of_ble_eq_true rfl : 1000000 ≤ room_1.slots)⟩ dL_law_790 rfl (kI (fun r2 S1 h => ?_))
  obtain ⟨rfl, h⟩ := h
  refine v_icmp_eq X (tgt := 1306) dL_law_793 (by decide) (fun _ => ?_) (fun hne => absurd rfl hne)
  exact v_widen (c2 := cells + 6) (s2 := slots + 147) (by (try dsimp only); omega) (by (try dsimp only); omega) (kk S1 h)
set_option maxRecDepth 100000 in
set_option maxHeartbeats 4000000 in
theorem law_right {p : Program} {l : Launch} {e : Env} {s : State} {m : MethodId} {below : List Frame} {meth : Method} {c : Code} {D : va_G} {cy : Nat → ClassId} {scr L : Nat} {xs : Nat → Int32} {Rel : hp → Prop} (hst : st_right Rel) (hL : L ≤ 384) (X : CX p s m #[Value.ref scr] c cL_law 4 RL D cy) (hX : va_X scr L xs s s.heap) (hbl : scr < s.heap.size) {S : hp} (hRel : Rel S) {i cells slots : Nat} (hi : i + 6 ≤ L) (hc : cells + 6 ≤ 100000) (hs : slots + 147 ≤ 1000000) (kk : ∀ S2 : hp, Rel S2 → V p l e room_1 s m #[Value.ref scr] below meth c s.heap.size D cy 4 (lw_Z below #[Value.ref scr] s) S2 (cells + 6) (slots + 147) 1306 [(0, .retAddr scr), (1, .ref 0), (2, .ref 35), (3, .int (nI i))] []) : V p l e room_1 s m #[Value.ref scr] below meth c s.heap.size D cy 4 (lw_Z below #[Value.ref scr] s) S cells slots 798 [(0, .retAddr scr), (1, .ref 0), (2, .ref 35), (3, .int (nI i))] [] := by
  refine v_aload_n X 1 dL_law_798 rfl rfl ?_
  refine v_aloadS X 0 dL_law_799 rfl rfl ?_
  refine v_iload_n X 3 dL_law_800 rfl rfl ?_
  refine v_iconst X (v := 1) dL_law_801 (by decide) ?_
  refine v_iadd X dL_law_802 ?_
  refine v_sld X hX hbl (sidx (k := 1) rfl (by omega) hL) dL_law_803 ?_
  refine v_aloadS X 0 dL_law_804 rfl rfl ?_
  refine v_iload_n X 3 dL_law_805 rfl rfl ?_
  refine v_iconst X (v := 2) dL_law_806 (by decide) ?_
  refine v_iadd X dL_law_807 ?_
  refine v_sld X hX hbl (sidx (k := 2) rfl (by omega) hL) dL_law_808 ?_
  obtain ⟨h0, h⟩ := hst S hRel (xs (nI i + (1 : Int32)).toNatClampNeg) (xs (nI i + (2 : Int32)).toNatClampNeg)
  refine v_callV X (av := [.int (xs (nI i + (1 : Int32)).toNatClampNeg), .int (xs (nI i + (2 : Int32)).toNatClampNeg)]) (T := TX11) (N := 12) (s_X11_right l s.heap.size D cy h) h0 (by decide) rfl wd681 wd682 wd683 wd56 k_X11_right dn_X11_right rfl ⟨Nat.le_of_ble_eq_true rfl, Nat.le_of_ble_eq_true rfl⟩ (Nat.le_of_ble_eq_true rfl) ⟨Nat.le_trans (by omega) (Nat.le_of_ble_eq_true rfl : 100000 ≤ room_1.cells), Nat.le_trans (by omega) (Nat.le_of_ble_eq_true rfl : 1000000 ≤ room_1.slots)⟩ dL_law_809 rfl (kI (fun r1 S1 h => ?_))
  obtain ⟨h0, h⟩ := h
  refine v_aload_n X 2 dL_law_812 rfl rfl ?_
  refine v_aloadS X 0 dL_law_813 rfl rfl ?_
  refine v_iload_n X 3 dL_law_814 rfl rfl ?_
  refine v_iconst X (v := 1) dL_law_815 (by decide) ?_
  refine v_iadd X dL_law_816 ?_
  refine v_sld X hX hbl (sidx (k := 1) rfl (by omega) hL) dL_law_817 ?_
  refine v_aloadS X 0 dL_law_818 rfl rfl ?_
  refine v_iload_n X 3 dL_law_819 rfl rfl ?_
  refine v_iconst X (v := 2) dL_law_820 (by decide) ?_
  refine v_iadd X dL_law_821 ?_
  refine v_sld X hX hbl (sidx (k := 2) rfl (by omega) hL) dL_law_822 ?_
  refine v_callV X (av := [.int (xs (nI i + (1 : Int32)).toNatClampNeg), .int (xs (nI i + (2 : Int32)).toNatClampNeg)]) (T := TX12) (N := 26) (s_X12_right l s.heap.size D cy h) h0 (by decide) rfl wd1222 wd1223 wd1224 wd62 k_X12_right dn_X12_right rfl ⟨Nat.le_of_ble_eq_true rfl, Nat.le_of_ble_eq_true rfl⟩ (Nat.le_of_ble_eq_true rfl) ⟨Nat.le_trans (by omega) (Nat.le_of_ble_eq_true rfl : 100000 ≤ room_1.cells), Nat.le_trans (by omega) (Nat.le_of_ble_eq_true rfl : 1000000 ≤ room_1.slots)⟩ dL_law_823 rfl (kI (fun r2 S1 h => ?_))
  obtain ⟨rfl, h⟩ := h
  refine v_icmp_eq X (tgt := 1306) dL_law_826 (by decide) (fun _ => ?_) (fun hne => absurd rfl hne)
  exact v_widen (c2 := cells + 6) (s2 := slots + 147) (by (try dsimp only); omega) (by (try dsimp only); omega) (kk S1 h)
set_option maxRecDepth 100000 in
set_option maxHeartbeats 4000000 in
theorem law_most {p : Program} {l : Launch} {e : Env} {s : State} {m : MethodId} {below : List Frame} {meth : Method} {c : Code} {D : va_G} {cy : Nat → ClassId} {scr L : Nat} {xs : Nat → Int32} {Rel : hp → Prop} (hst : st_most Rel) (hL : L ≤ 384) (X : CX p s m #[Value.ref scr] c cL_law 4 RL D cy) (hX : va_X scr L xs s s.heap) (hbl : scr < s.heap.size) {S : hp} (hRel : Rel S) {i cells slots : Nat} (hi : i + 6 ≤ L) (hc : cells + 6 ≤ 100000) (hs : slots + 147 ≤ 1000000) (kk : ∀ S2 : hp, Rel S2 → V p l e room_1 s m #[Value.ref scr] below meth c s.heap.size D cy 4 (lw_Z below #[Value.ref scr] s) S2 (cells + 6) (slots + 147) 1306 [(0, .retAddr scr), (1, .ref 0), (2, .ref 35), (3, .int (nI i))] []) : V p l e room_1 s m #[Value.ref scr] below meth c s.heap.size D cy 4 (lw_Z below #[Value.ref scr] s) S cells slots 831 [(0, .retAddr scr), (1, .ref 0), (2, .ref 35), (3, .int (nI i))] [] := by
  refine v_aload_n X 1 dL_law_831 rfl rfl ?_
  refine v_aloadS X 0 dL_law_832 rfl rfl ?_
  refine v_iload_n X 3 dL_law_833 rfl rfl ?_
  refine v_iconst X (v := 1) dL_law_834 (by decide) ?_
  refine v_iadd X dL_law_835 ?_
  refine v_sld X hX hbl (sidx (k := 1) rfl (by omega) hL) dL_law_836 ?_
  refine v_aloadS X 0 dL_law_837 rfl rfl ?_
  refine v_iload_n X 3 dL_law_838 rfl rfl ?_
  refine v_iconst X (v := 2) dL_law_839 (by decide) ?_
  refine v_iadd X dL_law_840 ?_
  refine v_sld X hX hbl (sidx (k := 2) rfl (by omega) hL) dL_law_841 ?_
  refine v_aloadS X 0 dL_law_842 rfl rfl ?_
  refine v_iload_n X 3 dL_law_843 rfl rfl ?_
  refine v_iconst X (v := 3) dL_law_844 (by decide) ?_
  refine v_iadd X dL_law_845 ?_
  refine v_sld X hX hbl (sidx (k := 3) rfl (by omega) hL) dL_law_846 ?_
  obtain ⟨h0, h⟩ := hst S hRel (xs (nI i + (1 : Int32)).toNatClampNeg) (xs (nI i + (2 : Int32)).toNatClampNeg) (xs (nI i + (3 : Int32)).toNatClampNeg)
  refine v_callV X (av := [.int (xs (nI i + (1 : Int32)).toNatClampNeg), .int (xs (nI i + (2 : Int32)).toNatClampNeg), .int (xs (nI i + (3 : Int32)).toNatClampNeg)]) (T := TX11) (N := 12) (s_X11_most l s.heap.size D cy h) h0 (by decide) rfl wd698 wd699 wd700 wd56 k_X11_most dn_X11_most rfl ⟨Nat.le_of_ble_eq_true rfl, Nat.le_of_ble_eq_true rfl⟩ (Nat.le_of_ble_eq_true rfl) ⟨Nat.le_trans (by omega) (Nat.le_of_ble_eq_true rfl : 100000 ≤ room_1.cells), Nat.le_trans (by omega) (Nat.le_of_ble_eq_true rfl : 1000000 ≤ room_1.slots)⟩ dL_law_847 rfl (kI (fun r1 S1 h => ?_))
  obtain ⟨h0, h⟩ := h
  refine v_aload_n X 2 dL_law_850 rfl rfl ?_
  refine v_aloadS X 0 dL_law_851 rfl rfl ?_
  refine v_iload_n X 3 dL_law_852 rfl rfl ?_
  refine v_iconst X (v := 1) dL_law_853 (by decide) ?_
  refine v_iadd X dL_law_854 ?_
  refine v_sld X hX hbl (sidx (k := 1) rfl (by omega) hL) dL_law_855 ?_
  refine v_aloadS X 0 dL_law_856 rfl rfl ?_
  refine v_iload_n X 3 dL_law_857 rfl rfl ?_
  refine v_iconst X (v := 2) dL_law_858 (by decide) ?_
  refine v_iadd X dL_law_859 ?_
  refine v_sld X hX hbl (sidx (k := 2) rfl (by omega) hL) dL_law_860 ?_
  refine v_aloadS X 0 dL_law_861 rfl rfl ?_
  refine v_iload_n X 3 dL_law_862 rfl rfl ?_
  refine v_iconst X (v := 3) dL_law_863 (by decide) ?_
  refine v_iadd X dL_law_864 ?_
  refine v_sld X hX hbl (sidx (k := 3) rfl (by omega) hL) dL_law_865 ?_
  refine v_callV X (av := [.int (xs (nI i + (1 : Int32)).toNatClampNeg), .int (xs (nI i + (2 : Int32)).toNatClampNeg), .int (xs (nI i + (3 : Int32)).toNatClampNeg)]) (T := TX12) (N := 26) (s_X12_most l s.heap.size D cy h) h0 (by decide) rfl wd1239 wd1240 wd1241 wd62 k_X12_most dn_X12_most rfl ⟨Nat.le_of_ble_eq_true rfl, Nat.le_of_ble_eq_true rfl⟩ (Nat.le_of_ble_eq_true rfl) ⟨Nat.le_trans (by omega) (Nat.le_of_ble_eq_true rfl : 100000 ≤ room_1.cells), Nat.le_trans (by omega) (Nat.le_of_ble_eq_true rfl : 1000000 ≤ room_1.slots)⟩ dL_law_866 rfl (kI (fun r2 S1 h => ?_))
  obtain ⟨rfl, h⟩ := h
  refine v_icmp_eq X (tgt := 1306) dL_law_869 (by decide) (fun _ => ?_) (fun hne => absurd rfl hne)
  exact v_widen (c2 := cells + 6) (s2 := slots + 147) (by (try dsimp only); omega) (by (try dsimp only); omega) (kk S1 h)
set_option maxRecDepth 100000 in
set_option maxHeartbeats 4000000 in
theorem law_swaps {p : Program} {l : Launch} {e : Env} {s : State} {m : MethodId} {below : List Frame} {meth : Method} {c : Code} {D : va_G} {cy : Nat → ClassId} {scr L : Nat} {xs : Nat → Int32} {Rel : hp → Prop} (hst : st_swaps Rel) (hL : L ≤ 384) (X : CX p s m #[Value.ref scr] c cL_law 4 RL D cy) (hX : va_X scr L xs s s.heap) (hbl : scr < s.heap.size) {S : hp} (hRel : Rel S) {i cells slots : Nat} (hi : i + 6 ≤ L) (hc : cells + 6 ≤ 100000) (hs : slots + 147 ≤ 1000000) (kk : ∀ S2 : hp, Rel S2 → V p l e room_1 s m #[Value.ref scr] below meth c s.heap.size D cy 4 (lw_Z below #[Value.ref scr] s) S2 (cells + 6) (slots + 147) 1306 [(0, .retAddr scr), (1, .ref 0), (2, .ref 35), (3, .int (nI i))] []) : V p l e room_1 s m #[Value.ref scr] below meth c s.heap.size D cy 4 (lw_Z below #[Value.ref scr] s) S cells slots 874 [(0, .retAddr scr), (1, .ref 0), (2, .ref 35), (3, .int (nI i))] [] := by
  refine v_aload_n X 1 dL_law_874 rfl rfl ?_
  refine v_aloadS X 0 dL_law_875 rfl rfl ?_
  refine v_iload_n X 3 dL_law_876 rfl rfl ?_
  refine v_iconst X (v := 1) dL_law_877 (by decide) ?_
  refine v_iadd X dL_law_878 ?_
  refine v_sld X hX hbl (sidx (k := 1) rfl (by omega) hL) dL_law_879 ?_
  refine v_aloadS X 0 dL_law_880 rfl rfl ?_
  refine v_iload_n X 3 dL_law_881 rfl rfl ?_
  refine v_iconst X (v := 2) dL_law_882 (by decide) ?_
  refine v_iadd X dL_law_883 ?_
  refine v_sld X hX hbl (sidx (k := 2) rfl (by omega) hL) dL_law_884 ?_
  refine v_aloadS X 0 dL_law_885 rfl rfl ?_
  refine v_iload_n X 3 dL_law_886 rfl rfl ?_
  refine v_iconst X (v := 3) dL_law_887 (by decide) ?_
  refine v_iadd X dL_law_888 ?_
  refine v_sld X hX hbl (sidx (k := 3) rfl (by omega) hL) dL_law_889 ?_
  obtain ⟨h0, h⟩ := hst S hRel (xs (nI i + (1 : Int32)).toNatClampNeg) (xs (nI i + (2 : Int32)).toNatClampNeg) (xs (nI i + (3 : Int32)).toNatClampNeg)
  refine v_callV X (av := [.int (xs (nI i + (1 : Int32)).toNatClampNeg), .int (xs (nI i + (2 : Int32)).toNatClampNeg), .int (xs (nI i + (3 : Int32)).toNatClampNeg)]) (T := TX11) (N := 12) (s_X11_swaps l s.heap.size D cy h) h0 (by decide) rfl wd714 wd715 wd716 wd56 k_X11_swaps dn_X11_swaps rfl ⟨Nat.le_of_ble_eq_true rfl, Nat.le_of_ble_eq_true rfl⟩ (Nat.le_of_ble_eq_true rfl) ⟨Nat.le_trans (by omega) (Nat.le_of_ble_eq_true rfl : 100000 ≤ room_1.cells), Nat.le_trans (by omega) (Nat.le_of_ble_eq_true rfl : 1000000 ≤ room_1.slots)⟩ dL_law_890 rfl (kI (fun r1 S1 h => ?_))
  obtain ⟨h0, h⟩ := h
  refine v_aload_n X 2 dL_law_893 rfl rfl ?_
  refine v_aloadS X 0 dL_law_894 rfl rfl ?_
  refine v_iload_n X 3 dL_law_895 rfl rfl ?_
  refine v_iconst X (v := 1) dL_law_896 (by decide) ?_
  refine v_iadd X dL_law_897 ?_
  refine v_sld X hX hbl (sidx (k := 1) rfl (by omega) hL) dL_law_898 ?_
  refine v_aloadS X 0 dL_law_899 rfl rfl ?_
  refine v_iload_n X 3 dL_law_900 rfl rfl ?_
  refine v_iconst X (v := 2) dL_law_901 (by decide) ?_
  refine v_iadd X dL_law_902 ?_
  refine v_sld X hX hbl (sidx (k := 2) rfl (by omega) hL) dL_law_903 ?_
  refine v_aloadS X 0 dL_law_904 rfl rfl ?_
  refine v_iload_n X 3 dL_law_905 rfl rfl ?_
  refine v_iconst X (v := 3) dL_law_906 (by decide) ?_
  refine v_iadd X dL_law_907 ?_
  refine v_sld X hX hbl (sidx (k := 3) rfl (by omega) hL) dL_law_908 ?_
  refine v_callV X (av := [.int (xs (nI i + (1 : Int32)).toNatClampNeg), .int (xs (nI i + (2 : Int32)).toNatClampNeg), .int (xs (nI i + (3 : Int32)).toNatClampNeg)]) (T := TX12) (N := 26) (s_X12_swaps l s.heap.size D cy h) h0 (by decide) rfl wd1243 wd1244 wd1245 wd62 k_X12_swaps dn_X12_swaps rfl ⟨Nat.le_of_ble_eq_true rfl, Nat.le_of_ble_eq_true rfl⟩ (Nat.le_of_ble_eq_true rfl) ⟨Nat.le_trans (by omega) (Nat.le_of_ble_eq_true rfl : 100000 ≤ room_1.cells), Nat.le_trans (by omega) (Nat.le_of_ble_eq_true rfl : 1000000 ≤ room_1.slots)⟩ dL_law_909 rfl (kI (fun r2 S1 h => ?_))
  obtain ⟨rfl, h⟩ := h
  refine v_icmp_eq X (tgt := 1306) dL_law_912 (by decide) (fun _ => ?_) (fun hne => absurd rfl hne)
  exact v_widen (c2 := cells + 6) (s2 := slots + 147) (by (try dsimp only); omega) (by (try dsimp only); omega) (kk S1 h)
set_option maxRecDepth 100000 in
set_option maxHeartbeats 4000000 in
theorem law_lent {p : Program} {l : Launch} {e : Env} {s : State} {m : MethodId} {below : List Frame} {meth : Method} {c : Code} {D : va_G} {cy : Nat → ClassId} {scr L : Nat} {xs : Nat → Int32} {Rel : hp → Prop} (hst : st_lent Rel) (hL : L ≤ 384) (X : CX p s m #[Value.ref scr] c cL_law 4 RL D cy) (hX : va_X scr L xs s s.heap) (hbl : scr < s.heap.size) {S : hp} (hRel : Rel S) {i cells slots : Nat} (hi : i + 6 ≤ L) (hc : cells + 6 ≤ 100000) (hs : slots + 147 ≤ 1000000) (kk : ∀ S2 : hp, Rel S2 → V p l e room_1 s m #[Value.ref scr] below meth c s.heap.size D cy 4 (lw_Z below #[Value.ref scr] s) S2 (cells + 6) (slots + 147) 1306 [(0, .retAddr scr), (1, .ref 0), (2, .ref 35), (3, .int (nI i))] []) : V p l e room_1 s m #[Value.ref scr] below meth c s.heap.size D cy 4 (lw_Z below #[Value.ref scr] s) S cells slots 917 [(0, .retAddr scr), (1, .ref 0), (2, .ref 35), (3, .int (nI i))] [] := by
  refine v_aload_n X 1 dL_law_917 rfl rfl ?_
  refine v_aloadS X 0 dL_law_918 rfl rfl ?_
  refine v_iload_n X 3 dL_law_919 rfl rfl ?_
  refine v_iconst X (v := 1) dL_law_920 (by decide) ?_
  refine v_iadd X dL_law_921 ?_
  refine v_sld X hX hbl (sidx (k := 1) rfl (by omega) hL) dL_law_922 ?_
  refine v_aloadS X 0 dL_law_923 rfl rfl ?_
  refine v_iload_n X 3 dL_law_924 rfl rfl ?_
  refine v_iconst X (v := 2) dL_law_925 (by decide) ?_
  refine v_iadd X dL_law_926 ?_
  refine v_sld X hX hbl (sidx (k := 2) rfl (by omega) hL) dL_law_927 ?_
  obtain ⟨h0, h⟩ := hst S hRel (xs (nI i + (1 : Int32)).toNatClampNeg) (xs (nI i + (2 : Int32)).toNatClampNeg)
  refine v_callV X (av := [.int (xs (nI i + (1 : Int32)).toNatClampNeg), .int (xs (nI i + (2 : Int32)).toNatClampNeg)]) (T := TX11) (N := 12) (s_X11_lent l s.heap.size D cy h) h0 (by decide) rfl wd725 wd726 wd727 wd56 k_X11_lent dn_X11_lent rfl ⟨Nat.le_of_ble_eq_true rfl, Nat.le_of_ble_eq_true rfl⟩ (Nat.le_of_ble_eq_true rfl) ⟨Nat.le_trans (by omega) (Nat.le_of_ble_eq_true rfl : 100000 ≤ room_1.cells), Nat.le_trans (by omega) (Nat.le_of_ble_eq_true rfl : 1000000 ≤ room_1.slots)⟩ dL_law_928 rfl (kI (fun r1 S1 h => ?_))
  obtain ⟨h0, h⟩ := h
  refine v_aload_n X 2 dL_law_931 rfl rfl ?_
  refine v_aloadS X 0 dL_law_932 rfl rfl ?_
  refine v_iload_n X 3 dL_law_933 rfl rfl ?_
  refine v_iconst X (v := 1) dL_law_934 (by decide) ?_
  refine v_iadd X dL_law_935 ?_
  refine v_sld X hX hbl (sidx (k := 1) rfl (by omega) hL) dL_law_936 ?_
  refine v_aloadS X 0 dL_law_937 rfl rfl ?_
  refine v_iload_n X 3 dL_law_938 rfl rfl ?_
  refine v_iconst X (v := 2) dL_law_939 (by decide) ?_
  refine v_iadd X dL_law_940 ?_
  refine v_sld X hX hbl (sidx (k := 2) rfl (by omega) hL) dL_law_941 ?_
  refine v_callV X (av := [.int (xs (nI i + (1 : Int32)).toNatClampNeg), .int (xs (nI i + (2 : Int32)).toNatClampNeg)]) (T := TX12) (N := 26) (s_X12_lent l s.heap.size D cy h) h0 (by decide) rfl wd1247 wd1248 wd1249 wd62 k_X12_lent dn_X12_lent rfl ⟨Nat.le_of_ble_eq_true rfl, Nat.le_of_ble_eq_true rfl⟩ (Nat.le_of_ble_eq_true rfl) ⟨Nat.le_trans (by omega) (Nat.le_of_ble_eq_true rfl : 100000 ≤ room_1.cells), Nat.le_trans (by omega) (Nat.le_of_ble_eq_true rfl : 1000000 ≤ room_1.slots)⟩ dL_law_942 rfl (kI (fun r2 S1 h => ?_))
  obtain ⟨rfl, h⟩ := h
  refine v_icmp_eq X (tgt := 1306) dL_law_945 (by decide) (fun _ => ?_) (fun hne => absurd rfl hne)
  exact v_widen (c2 := cells + 6) (s2 := slots + 147) (by (try dsimp only); omega) (by (try dsimp only); omega) (kk S1 h)
set_option maxRecDepth 100000 in
set_option maxHeartbeats 4000000 in
theorem law_parted {p : Program} {l : Launch} {e : Env} {s : State} {m : MethodId} {below : List Frame} {meth : Method} {c : Code} {D : va_G} {cy : Nat → ClassId} {scr L : Nat} {xs : Nat → Int32} {Rel : hp → Prop} (hst : st_parted Rel) (hL : L ≤ 384) (X : CX p s m #[Value.ref scr] c cL_law 4 RL D cy) (hX : va_X scr L xs s s.heap) (hbl : scr < s.heap.size) {S : hp} (hRel : Rel S) {i cells slots : Nat} (hi : i + 6 ≤ L) (hc : cells + 6 ≤ 100000) (hs : slots + 147 ≤ 1000000) (kk : ∀ S2 : hp, Rel S2 → V p l e room_1 s m #[Value.ref scr] below meth c s.heap.size D cy 4 (lw_Z below #[Value.ref scr] s) S2 (cells + 6) (slots + 147) 1306 [(0, .retAddr scr), (1, .ref 0), (2, .ref 35), (3, .int (nI i))] []) : V p l e room_1 s m #[Value.ref scr] below meth c s.heap.size D cy 4 (lw_Z below #[Value.ref scr] s) S cells slots 950 [(0, .retAddr scr), (1, .ref 0), (2, .ref 35), (3, .int (nI i))] [] := by
  refine v_aload_n X 1 dL_law_950 rfl rfl ?_
  refine v_aloadS X 0 dL_law_951 rfl rfl ?_
  refine v_iload_n X 3 dL_law_952 rfl rfl ?_
  refine v_iconst X (v := 1) dL_law_953 (by decide) ?_
  refine v_iadd X dL_law_954 ?_
  refine v_sld X hX hbl (sidx (k := 1) rfl (by omega) hL) dL_law_955 ?_
  refine v_aloadS X 0 dL_law_956 rfl rfl ?_
  refine v_iload_n X 3 dL_law_957 rfl rfl ?_
  refine v_iconst X (v := 2) dL_law_958 (by decide) ?_
  refine v_iadd X dL_law_959 ?_
  refine v_sld X hX hbl (sidx (k := 2) rfl (by omega) hL) dL_law_960 ?_
  refine v_aloadS X 0 dL_law_961 rfl rfl ?_
  refine v_iload_n X 3 dL_law_962 rfl rfl ?_
  refine v_iconst X (v := 3) dL_law_963 (by decide) ?_
  refine v_iadd X dL_law_964 ?_
  refine v_sld X hX hbl (sidx (k := 3) rfl (by omega) hL) dL_law_965 ?_
  refine v_aloadS X 0 dL_law_966 rfl rfl ?_
  refine v_iload_n X 3 dL_law_967 rfl rfl ?_
  refine v_iconst X (v := 4) dL_law_968 (by decide) ?_
  refine v_iadd X dL_law_969 ?_
  refine v_sld X hX hbl (sidx (k := 4) rfl (by omega) hL) dL_law_970 ?_
  obtain ⟨h0, h⟩ := hst S hRel (xs (nI i + (1 : Int32)).toNatClampNeg) (xs (nI i + (2 : Int32)).toNatClampNeg) (xs (nI i + (3 : Int32)).toNatClampNeg) (xs (nI i + (4 : Int32)).toNatClampNeg)
  refine v_callV X (av := [.int (xs (nI i + (1 : Int32)).toNatClampNeg), .int (xs (nI i + (2 : Int32)).toNatClampNeg), .int (xs (nI i + (3 : Int32)).toNatClampNeg), .int (xs (nI i + (4 : Int32)).toNatClampNeg)]) (T := TX11) (N := 12) (s_X11_parted l s.heap.size D cy h) h0 (by decide) rfl wd740 wd741 wd742 wd56 k_X11_parted dn_X11_parted rfl ⟨Nat.le_of_ble_eq_true rfl, Nat.le_of_ble_eq_true rfl⟩ (Nat.le_of_ble_eq_true rfl) ⟨Nat.le_trans (by omega) (Nat.le_of_ble_eq_true rfl : 100000 ≤ room_1.cells), Nat.le_trans (by omega) (Nat.le_of_ble_eq_true rfl : 1000000 ≤ room_1.slots)⟩ dL_law_971 rfl (kI (fun r1 S1 h => ?_))
  obtain ⟨h0, h⟩ := h
  refine v_aload_n X 2 dL_law_974 rfl rfl ?_
  refine v_aloadS X 0 dL_law_975 rfl rfl ?_
  refine v_iload_n X 3 dL_law_976 rfl rfl ?_
  refine v_iconst X (v := 1) dL_law_977 (by decide) ?_
  refine v_iadd X dL_law_978 ?_
  refine v_sld X hX hbl (sidx (k := 1) rfl (by omega) hL) dL_law_979 ?_
  refine v_aloadS X 0 dL_law_980 rfl rfl ?_
  refine v_iload_n X 3 dL_law_981 rfl rfl ?_
  refine v_iconst X (v := 2) dL_law_982 (by decide) ?_
  refine v_iadd X dL_law_983 ?_
  refine v_sld X hX hbl (sidx (k := 2) rfl (by omega) hL) dL_law_984 ?_
  refine v_aloadS X 0 dL_law_985 rfl rfl ?_
  refine v_iload_n X 3 dL_law_986 rfl rfl ?_
  refine v_iconst X (v := 3) dL_law_987 (by decide) ?_
  refine v_iadd X dL_law_988 ?_
  refine v_sld X hX hbl (sidx (k := 3) rfl (by omega) hL) dL_law_989 ?_
  refine v_aloadS X 0 dL_law_990 rfl rfl ?_
  refine v_iload_n X 3 dL_law_991 rfl rfl ?_
  refine v_iconst X (v := 4) dL_law_992 (by decide) ?_
  refine v_iadd X dL_law_993 ?_
  refine v_sld X hX hbl (sidx (k := 4) rfl (by omega) hL) dL_law_994 ?_
  refine v_callV X (av := [.int (xs (nI i + (1 : Int32)).toNatClampNeg), .int (xs (nI i + (2 : Int32)).toNatClampNeg), .int (xs (nI i + (3 : Int32)).toNatClampNeg), .int (xs (nI i + (4 : Int32)).toNatClampNeg)]) (T := TX12) (N := 26) (s_X12_parted l s.heap.size D cy h) h0 (by decide) rfl wd1251 wd1252 wd1253 wd62 k_X12_parted dn_X12_parted rfl ⟨Nat.le_of_ble_eq_true rfl, Nat.le_of_ble_eq_true rfl⟩ (Nat.le_of_ble_eq_true rfl) ⟨Nat.le_trans (by omega) (Nat.le_of_ble_eq_true rfl : 100000 ≤ room_1.cells), Nat.le_trans (by omega) (Nat.le_of_ble_eq_true rfl : 1000000 ≤ room_1.slots)⟩ dL_law_995 rfl (kI (fun r2 S1 h => ?_))
  obtain ⟨rfl, h⟩ := h
  refine v_icmp_eq X (tgt := 1306) dL_law_998 (by decide) (fun _ => ?_) (fun hne => absurd rfl hne)
  exact v_widen (c2 := cells + 6) (s2 := slots + 147) (by (try dsimp only); omega) (by (try dsimp only); omega) (kk S1 h)
set_option maxRecDepth 100000 in
set_option maxHeartbeats 4000000 in
theorem law_addedUp {p : Program} {l : Launch} {e : Env} {s : State} {m : MethodId} {below : List Frame} {meth : Method} {c : Code} {D : va_G} {cy : Nat → ClassId} {scr L : Nat} {xs : Nat → Int32} {Rel : hp → Prop} (hst : st_addedUp Rel) (hL : L ≤ 384) (X : CX p s m #[Value.ref scr] c cL_law 4 RL D cy) (hX : va_X scr L xs s s.heap) (hbl : scr < s.heap.size) {S : hp} (hRel : Rel S) {i cells slots : Nat} (hi : i + 6 ≤ L) (hc : cells + 6 ≤ 100000) (hs : slots + 147 ≤ 1000000) (kk : ∀ S2 : hp, Rel S2 → V p l e room_1 s m #[Value.ref scr] below meth c s.heap.size D cy 4 (lw_Z below #[Value.ref scr] s) S2 (cells + 6) (slots + 147) 1306 [(0, .retAddr scr), (1, .ref 0), (2, .ref 35), (3, .int (nI i))] []) : V p l e room_1 s m #[Value.ref scr] below meth c s.heap.size D cy 4 (lw_Z below #[Value.ref scr] s) S cells slots 1003 [(0, .retAddr scr), (1, .ref 0), (2, .ref 35), (3, .int (nI i))] [] := by
  refine v_aload_n X 1 dL_law_1003 rfl rfl ?_
  refine v_aloadS X 0 dL_law_1004 rfl rfl ?_
  refine v_iload_n X 3 dL_law_1005 rfl rfl ?_
  refine v_iconst X (v := 1) dL_law_1006 (by decide) ?_
  refine v_iadd X dL_law_1007 ?_
  refine v_sld X hX hbl (sidx (k := 1) rfl (by omega) hL) dL_law_1008 ?_
  refine v_aloadS X 0 dL_law_1009 rfl rfl ?_
  refine v_iload_n X 3 dL_law_1010 rfl rfl ?_
  refine v_iconst X (v := 2) dL_law_1011 (by decide) ?_
  refine v_iadd X dL_law_1012 ?_
  refine v_sld X hX hbl (sidx (k := 2) rfl (by omega) hL) dL_law_1013 ?_
  refine v_aloadS X 0 dL_law_1014 rfl rfl ?_
  refine v_iload_n X 3 dL_law_1015 rfl rfl ?_
  refine v_iconst X (v := 3) dL_law_1016 (by decide) ?_
  refine v_iadd X dL_law_1017 ?_
  refine v_sld X hX hbl (sidx (k := 3) rfl (by omega) hL) dL_law_1018 ?_
  obtain ⟨h0, h⟩ := hst S hRel (xs (nI i + (1 : Int32)).toNatClampNeg) (xs (nI i + (2 : Int32)).toNatClampNeg) (xs (nI i + (3 : Int32)).toNatClampNeg)
  refine v_callV X (av := [.int (xs (nI i + (1 : Int32)).toNatClampNeg), .int (xs (nI i + (2 : Int32)).toNatClampNeg), .int (xs (nI i + (3 : Int32)).toNatClampNeg)]) (T := TX11) (N := 12) (s_X11_addedUp l s.heap.size D cy h) h0 (by decide) rfl wd748 wd749 wd750 wd56 k_X11_addedUp dn_X11_addedUp rfl ⟨Nat.le_of_ble_eq_true rfl, Nat.le_of_ble_eq_true rfl⟩ (Nat.le_of_ble_eq_true rfl) ⟨Nat.le_trans (by omega) (Nat.le_of_ble_eq_true rfl : 100000 ≤ room_1.cells), Nat.le_trans (by omega) (Nat.le_of_ble_eq_true rfl : 1000000 ≤ room_1.slots)⟩ dL_law_1019 rfl (kI (fun r1 S1 h => ?_))
  obtain ⟨h0, h⟩ := h
  refine v_aload_n X 2 dL_law_1022 rfl rfl ?_
  refine v_aloadS X 0 dL_law_1023 rfl rfl ?_
  refine v_iload_n X 3 dL_law_1024 rfl rfl ?_
  refine v_iconst X (v := 1) dL_law_1025 (by decide) ?_
  refine v_iadd X dL_law_1026 ?_
  refine v_sld X hX hbl (sidx (k := 1) rfl (by omega) hL) dL_law_1027 ?_
  refine v_aloadS X 0 dL_law_1028 rfl rfl ?_
  refine v_iload_n X 3 dL_law_1029 rfl rfl ?_
  refine v_iconst X (v := 2) dL_law_1030 (by decide) ?_
  refine v_iadd X dL_law_1031 ?_
  refine v_sld X hX hbl (sidx (k := 2) rfl (by omega) hL) dL_law_1032 ?_
  refine v_aloadS X 0 dL_law_1033 rfl rfl ?_
  refine v_iload_n X 3 dL_law_1034 rfl rfl ?_
  refine v_iconst X (v := 3) dL_law_1035 (by decide) ?_
  refine v_iadd X dL_law_1036 ?_
  refine v_sld X hX hbl (sidx (k := 3) rfl (by omega) hL) dL_law_1037 ?_
  refine v_callV X (av := [.int (xs (nI i + (1 : Int32)).toNatClampNeg), .int (xs (nI i + (2 : Int32)).toNatClampNeg), .int (xs (nI i + (3 : Int32)).toNatClampNeg)]) (T := TX12) (N := 26) (s_X12_addedUp l s.heap.size D cy h) h0 (by decide) rfl wd1257 wd1258 wd1259 wd62 k_X12_addedUp dn_X12_addedUp rfl ⟨Nat.le_of_ble_eq_true rfl, Nat.le_of_ble_eq_true rfl⟩ (Nat.le_of_ble_eq_true rfl) ⟨Nat.le_trans (by omega) (Nat.le_of_ble_eq_true rfl : 100000 ≤ room_1.cells), Nat.le_trans (by omega) (Nat.le_of_ble_eq_true rfl : 1000000 ≤ room_1.slots)⟩ dL_law_1038 rfl (kI (fun r2 S1 h => ?_))
  obtain ⟨rfl, h⟩ := h
  refine v_icmp_eq X (tgt := 1306) dL_law_1041 (by decide) (fun _ => ?_) (fun hne => absurd rfl hne)
  exact v_widen (c2 := cells + 6) (s2 := slots + 147) (by (try dsimp only); omega) (by (try dsimp only); omega) (kk S1 h)
set_option maxRecDepth 100000 in
set_option maxHeartbeats 4000000 in
theorem law_felt {p : Program} {l : Launch} {e : Env} {s : State} {m : MethodId} {below : List Frame} {meth : Method} {c : Code} {D : va_G} {cy : Nat → ClassId} {scr L : Nat} {xs : Nat → Int32} {Rel : hp → Prop} (hst : st_felt Rel) (hL : L ≤ 384) (X : CX p s m #[Value.ref scr] c cL_law 4 RL D cy) (hX : va_X scr L xs s s.heap) (hbl : scr < s.heap.size) {S : hp} (hRel : Rel S) {i cells slots : Nat} (hi : i + 6 ≤ L) (hc : cells + 6 ≤ 100000) (hs : slots + 147 ≤ 1000000) (kk : ∀ S2 : hp, Rel S2 → V p l e room_1 s m #[Value.ref scr] below meth c s.heap.size D cy 4 (lw_Z below #[Value.ref scr] s) S2 (cells + 6) (slots + 147) 1306 [(0, .retAddr scr), (1, .ref 0), (2, .ref 35), (3, .int (nI i))] []) : V p l e room_1 s m #[Value.ref scr] below meth c s.heap.size D cy 4 (lw_Z below #[Value.ref scr] s) S cells slots 1046 [(0, .retAddr scr), (1, .ref 0), (2, .ref 35), (3, .int (nI i))] [] := by
  refine v_aload_n X 1 dL_law_1046 rfl rfl ?_
  refine v_aloadS X 0 dL_law_1047 rfl rfl ?_
  refine v_iload_n X 3 dL_law_1048 rfl rfl ?_
  refine v_iconst X (v := 1) dL_law_1049 (by decide) ?_
  refine v_iadd X dL_law_1050 ?_
  refine v_sld X hX hbl (sidx (k := 1) rfl (by omega) hL) dL_law_1051 ?_
  refine v_aloadS X 0 dL_law_1052 rfl rfl ?_
  refine v_iload_n X 3 dL_law_1053 rfl rfl ?_
  refine v_iconst X (v := 2) dL_law_1054 (by decide) ?_
  refine v_iadd X dL_law_1055 ?_
  refine v_sld X hX hbl (sidx (k := 2) rfl (by omega) hL) dL_law_1056 ?_
  refine v_aloadS X 0 dL_law_1057 rfl rfl ?_
  refine v_iload_n X 3 dL_law_1058 rfl rfl ?_
  refine v_iconst X (v := 3) dL_law_1059 (by decide) ?_
  refine v_iadd X dL_law_1060 ?_
  refine v_sld X hX hbl (sidx (k := 3) rfl (by omega) hL) dL_law_1061 ?_
  obtain ⟨h0, h⟩ := hst S hRel (xs (nI i + (1 : Int32)).toNatClampNeg) (xs (nI i + (2 : Int32)).toNatClampNeg) (xs (nI i + (3 : Int32)).toNatClampNeg)
  refine v_callV X (av := [.int (xs (nI i + (1 : Int32)).toNatClampNeg), .int (xs (nI i + (2 : Int32)).toNatClampNeg), .int (xs (nI i + (3 : Int32)).toNatClampNeg)]) (T := TX11) (N := 12) (s_X11_felt l s.heap.size D cy h) h0 (by decide) rfl wd759 wd760 wd761 wd56 k_X11_felt dn_X11_felt rfl ⟨Nat.le_of_ble_eq_true rfl, Nat.le_of_ble_eq_true rfl⟩ (Nat.le_of_ble_eq_true rfl) ⟨Nat.le_trans (by omega) (Nat.le_of_ble_eq_true rfl : 100000 ≤ room_1.cells), Nat.le_trans (by omega) (Nat.le_of_ble_eq_true rfl : 1000000 ≤ room_1.slots)⟩ dL_law_1062 rfl (kI (fun r1 S1 h => ?_))
  obtain ⟨h0, h⟩ := h
  refine v_aload_n X 2 dL_law_1065 rfl rfl ?_
  refine v_aloadS X 0 dL_law_1066 rfl rfl ?_
  refine v_iload_n X 3 dL_law_1067 rfl rfl ?_
  refine v_iconst X (v := 1) dL_law_1068 (by decide) ?_
  refine v_iadd X dL_law_1069 ?_
  refine v_sld X hX hbl (sidx (k := 1) rfl (by omega) hL) dL_law_1070 ?_
  refine v_aloadS X 0 dL_law_1071 rfl rfl ?_
  refine v_iload_n X 3 dL_law_1072 rfl rfl ?_
  refine v_iconst X (v := 2) dL_law_1073 (by decide) ?_
  refine v_iadd X dL_law_1074 ?_
  refine v_sld X hX hbl (sidx (k := 2) rfl (by omega) hL) dL_law_1075 ?_
  refine v_aloadS X 0 dL_law_1076 rfl rfl ?_
  refine v_iload_n X 3 dL_law_1077 rfl rfl ?_
  refine v_iconst X (v := 3) dL_law_1078 (by decide) ?_
  refine v_iadd X dL_law_1079 ?_
  refine v_sld X hX hbl (sidx (k := 3) rfl (by omega) hL) dL_law_1080 ?_
  refine v_callV X (av := [.int (xs (nI i + (1 : Int32)).toNatClampNeg), .int (xs (nI i + (2 : Int32)).toNatClampNeg), .int (xs (nI i + (3 : Int32)).toNatClampNeg)]) (T := TX12) (N := 26) (s_X12_felt l s.heap.size D cy h) h0 (by decide) rfl wd1262 wd1263 wd1264 wd62 k_X12_felt dn_X12_felt rfl ⟨Nat.le_of_ble_eq_true rfl, Nat.le_of_ble_eq_true rfl⟩ (Nat.le_of_ble_eq_true rfl) ⟨Nat.le_trans (by omega) (Nat.le_of_ble_eq_true rfl : 100000 ≤ room_1.cells), Nat.le_trans (by omega) (Nat.le_of_ble_eq_true rfl : 1000000 ≤ room_1.slots)⟩ dL_law_1081 rfl (kI (fun r2 S1 h => ?_))
  obtain ⟨rfl, h⟩ := h
  refine v_icmp_eq X (tgt := 1306) dL_law_1084 (by decide) (fun _ => ?_) (fun hne => absurd rfl hne)
  exact v_widen (c2 := cells + 6) (s2 := slots + 147) (by (try dsimp only); omega) (by (try dsimp only); omega) (kk S1 h)
set_option maxRecDepth 100000 in
set_option maxHeartbeats 4000000 in
theorem law_twins {p : Program} {l : Launch} {e : Env} {s : State} {m : MethodId} {below : List Frame} {meth : Method} {c : Code} {D : va_G} {cy : Nat → ClassId} {scr L : Nat} {xs : Nat → Int32} {Rel : hp → Prop} (hst : st_twins Rel) (hL : L ≤ 384) (X : CX p s m #[Value.ref scr] c cL_law 4 RL D cy) (hX : va_X scr L xs s s.heap) (hbl : scr < s.heap.size) {S : hp} (hRel : Rel S) {i cells slots : Nat} (hi : i + 6 ≤ L) (hc : cells + 6 ≤ 100000) (hs : slots + 147 ≤ 1000000) (kk : ∀ S2 : hp, Rel S2 → V p l e room_1 s m #[Value.ref scr] below meth c s.heap.size D cy 4 (lw_Z below #[Value.ref scr] s) S2 (cells + 6) (slots + 147) 1306 [(0, .retAddr scr), (1, .ref 0), (2, .ref 35), (3, .int (nI i))] []) : V p l e room_1 s m #[Value.ref scr] below meth c s.heap.size D cy 4 (lw_Z below #[Value.ref scr] s) S cells slots 1089 [(0, .retAddr scr), (1, .ref 0), (2, .ref 35), (3, .int (nI i))] [] := by
  refine v_aload_n X 1 dL_law_1089 rfl rfl ?_
  refine v_aloadS X 0 dL_law_1090 rfl rfl ?_
  refine v_iload_n X 3 dL_law_1091 rfl rfl ?_
  refine v_iconst X (v := 1) dL_law_1092 (by decide) ?_
  refine v_iadd X dL_law_1093 ?_
  refine v_sld X hX hbl (sidx (k := 1) rfl (by omega) hL) dL_law_1094 ?_
  obtain ⟨h0, h⟩ := hst S hRel (xs (nI i + (1 : Int32)).toNatClampNeg)
  refine v_callV X (av := [.int (xs (nI i + (1 : Int32)).toNatClampNeg)]) (T := TX11) (N := 12) (s_X11_twins l s.heap.size D cy h) h0 (by decide) rfl wd778 wd779 wd780 wd56 k_X11_twins dn_X11_twins rfl ⟨Nat.le_of_ble_eq_true rfl, Nat.le_of_ble_eq_true rfl⟩ (Nat.le_of_ble_eq_true rfl) ⟨Nat.le_trans (by omega) (Nat.le_of_ble_eq_true rfl : 100000 ≤ room_1.cells), Nat.le_trans (by omega) (Nat.le_of_ble_eq_true rfl : 1000000 ≤ room_1.slots)⟩ dL_law_1095 rfl (kI (fun r1 S1 h => ?_))
  obtain ⟨h0, h⟩ := h
  refine v_aload_n X 2 dL_law_1098 rfl rfl ?_
  refine v_aloadS X 0 dL_law_1099 rfl rfl ?_
  refine v_iload_n X 3 dL_law_1100 rfl rfl ?_
  refine v_iconst X (v := 1) dL_law_1101 (by decide) ?_
  refine v_iadd X dL_law_1102 ?_
  refine v_sld X hX hbl (sidx (k := 1) rfl (by omega) hL) dL_law_1103 ?_
  refine v_callV X (av := [.int (xs (nI i + (1 : Int32)).toNatClampNeg)]) (T := TX12) (N := 26) (s_X12_twins l s.heap.size D cy h) h0 (by decide) rfl wd1270 wd1271 wd1272 wd62 k_X12_twins dn_X12_twins rfl ⟨Nat.le_of_ble_eq_true rfl, Nat.le_of_ble_eq_true rfl⟩ (Nat.le_of_ble_eq_true rfl) ⟨Nat.le_trans (by omega) (Nat.le_of_ble_eq_true rfl : 100000 ≤ room_1.cells), Nat.le_trans (by omega) (Nat.le_of_ble_eq_true rfl : 1000000 ≤ room_1.slots)⟩ dL_law_1104 rfl (kI (fun r2 S1 h => ?_))
  obtain ⟨rfl, h⟩ := h
  refine v_icmp_eq X (tgt := 1306) dL_law_1107 (by decide) (fun _ => ?_) (fun hne => absurd rfl hne)
  exact v_widen (c2 := cells + 6) (s2 := slots + 147) (by (try dsimp only); omega) (by (try dsimp only); omega) (kk S1 h)
set_option maxRecDepth 100000 in
set_option maxHeartbeats 4000000 in
theorem law_image {p : Program} {l : Launch} {e : Env} {s : State} {m : MethodId} {below : List Frame} {meth : Method} {c : Code} {D : va_G} {cy : Nat → ClassId} {scr L : Nat} {xs : Nat → Int32} {Rel : hp → Prop} (hst : st_image Rel) (hL : L ≤ 384) (X : CX p s m #[Value.ref scr] c cL_law 4 RL D cy) (hX : va_X scr L xs s s.heap) (hbl : scr < s.heap.size) {S : hp} (hRel : Rel S) {i cells slots : Nat} (hi : i + 6 ≤ L) (hc : cells + 6 ≤ 100000) (hs : slots + 147 ≤ 1000000) (kk : ∀ S2 : hp, Rel S2 → V p l e room_1 s m #[Value.ref scr] below meth c s.heap.size D cy 4 (lw_Z below #[Value.ref scr] s) S2 (cells + 6) (slots + 147) 1306 [(0, .retAddr scr), (1, .ref 0), (2, .ref 35), (3, .int (nI i))] []) : V p l e room_1 s m #[Value.ref scr] below meth c s.heap.size D cy 4 (lw_Z below #[Value.ref scr] s) S cells slots 1112 [(0, .retAddr scr), (1, .ref 0), (2, .ref 35), (3, .int (nI i))] [] := by
  refine v_aload_n X 1 dL_law_1112 rfl rfl ?_
  refine v_aloadS X 0 dL_law_1113 rfl rfl ?_
  refine v_iload_n X 3 dL_law_1114 rfl rfl ?_
  refine v_iconst X (v := 1) dL_law_1115 (by decide) ?_
  refine v_iadd X dL_law_1116 ?_
  refine v_sld X hX hbl (sidx (k := 1) rfl (by omega) hL) dL_law_1117 ?_
  obtain ⟨h0, h⟩ := hst S hRel (xs (nI i + (1 : Int32)).toNatClampNeg)
  refine v_callV X (av := [.int (xs (nI i + (1 : Int32)).toNatClampNeg)]) (T := TX11) (N := 12) (s_X11_image l s.heap.size D cy h) h0 (by decide) rfl wd802 wd803 wd804 wd56 k_X11_image dn_X11_image rfl ⟨Nat.le_of_ble_eq_true rfl, Nat.le_of_ble_eq_true rfl⟩ (Nat.le_of_ble_eq_true rfl) ⟨Nat.le_trans (by omega) (Nat.le_of_ble_eq_true rfl : 100000 ≤ room_1.cells), Nat.le_trans (by omega) (Nat.le_of_ble_eq_true rfl : 1000000 ≤ room_1.slots)⟩ dL_law_1118 rfl (kI (fun r1 S1 h => ?_))
  obtain ⟨h0, h⟩ := h
  refine v_aload_n X 2 dL_law_1121 rfl rfl ?_
  refine v_aloadS X 0 dL_law_1122 rfl rfl ?_
  refine v_iload_n X 3 dL_law_1123 rfl rfl ?_
  refine v_iconst X (v := 1) dL_law_1124 (by decide) ?_
  refine v_iadd X dL_law_1125 ?_
  refine v_sld X hX hbl (sidx (k := 1) rfl (by omega) hL) dL_law_1126 ?_
  refine v_callV X (av := [.int (xs (nI i + (1 : Int32)).toNatClampNeg)]) (T := TX12) (N := 26) (s_X12_image l s.heap.size D cy h) h0 (by decide) rfl wd1283 wd1284 wd1285 wd62 k_X12_image dn_X12_image rfl ⟨Nat.le_of_ble_eq_true rfl, Nat.le_of_ble_eq_true rfl⟩ (Nat.le_of_ble_eq_true rfl) ⟨Nat.le_trans (by omega) (Nat.le_of_ble_eq_true rfl : 100000 ≤ room_1.cells), Nat.le_trans (by omega) (Nat.le_of_ble_eq_true rfl : 1000000 ≤ room_1.slots)⟩ dL_law_1127 rfl (kI (fun r2 S1 h => ?_))
  obtain ⟨rfl, h⟩ := h
  refine v_icmp_eq X (tgt := 1306) dL_law_1130 (by decide) (fun _ => ?_) (fun hne => absurd rfl hne)
  exact v_widen (c2 := cells + 6) (s2 := slots + 147) (by (try dsimp only); omega) (by (try dsimp only); omega) (kk S1 h)
set_option maxRecDepth 100000 in
set_option maxHeartbeats 4000000 in
theorem law_restore {p : Program} {l : Launch} {e : Env} {s : State} {m : MethodId} {below : List Frame} {meth : Method} {c : Code} {D : va_G} {cy : Nat → ClassId} {scr L : Nat} {xs : Nat → Int32} {Rel : hp → Prop} (hst : st_restore Rel) (hL : L ≤ 384) (X : CX p s m #[Value.ref scr] c cL_law 4 RL D cy) (hX : va_X scr L xs s s.heap) (hbl : scr < s.heap.size) {S : hp} (hRel : Rel S) {i cells slots : Nat} (hi : i + 6 ≤ L) (hc : cells + 6 ≤ 100000) (hs : slots + 147 ≤ 1000000) (kk : ∀ S2 : hp, Rel S2 → V p l e room_1 s m #[Value.ref scr] below meth c s.heap.size D cy 4 (lw_Z below #[Value.ref scr] s) S2 (cells + 6) (slots + 147) 1306 [(0, .retAddr scr), (1, .ref 0), (2, .ref 35), (3, .int (nI i))] []) : V p l e room_1 s m #[Value.ref scr] below meth c s.heap.size D cy 4 (lw_Z below #[Value.ref scr] s) S cells slots 1135 [(0, .retAddr scr), (1, .ref 0), (2, .ref 35), (3, .int (nI i))] [] := by
  refine v_aload_n X 1 dL_law_1135 rfl rfl ?_
  refine v_aloadS X 0 dL_law_1136 rfl rfl ?_
  refine v_iload_n X 3 dL_law_1137 rfl rfl ?_
  refine v_iconst X (v := 1) dL_law_1138 (by decide) ?_
  refine v_iadd X dL_law_1139 ?_
  refine v_sld X hX hbl (sidx (k := 1) rfl (by omega) hL) dL_law_1140 ?_
  obtain ⟨h0, h⟩ := hst S hRel (xs (nI i + (1 : Int32)).toNatClampNeg)
  refine v_callV X (av := [.int (xs (nI i + (1 : Int32)).toNatClampNeg)]) (T := TX11) (N := 12) (s_X11_restore l s.heap.size D cy h) h0 (by decide) rfl wd806 wd807 wd808 wd56 k_X11_restore dn_X11_restore rfl ⟨Nat.le_of_ble_eq_true rfl, Nat.le_of_ble_eq_true rfl⟩ (Nat.le_of_ble_eq_true rfl) ⟨Nat.le_trans (by omega) (Nat.le_of_ble_eq_true rfl : 100000 ≤ room_1.cells), Nat.le_trans (by omega) (Nat.le_of_ble_eq_true rfl : 1000000 ≤ room_1.slots)⟩ dL_law_1141 rfl (kI (fun r1 S1 h => ?_))
  obtain ⟨h0, h⟩ := h
  refine v_aload_n X 2 dL_law_1144 rfl rfl ?_
  refine v_aloadS X 0 dL_law_1145 rfl rfl ?_
  refine v_iload_n X 3 dL_law_1146 rfl rfl ?_
  refine v_iconst X (v := 1) dL_law_1147 (by decide) ?_
  refine v_iadd X dL_law_1148 ?_
  refine v_sld X hX hbl (sidx (k := 1) rfl (by omega) hL) dL_law_1149 ?_
  refine v_callV X (av := [.int (xs (nI i + (1 : Int32)).toNatClampNeg)]) (T := TX12) (N := 26) (s_X12_restore l s.heap.size D cy h) h0 (by decide) rfl wd1287 wd1288 wd1289 wd62 k_X12_restore dn_X12_restore rfl ⟨Nat.le_of_ble_eq_true rfl, Nat.le_of_ble_eq_true rfl⟩ (Nat.le_of_ble_eq_true rfl) ⟨Nat.le_trans (by omega) (Nat.le_of_ble_eq_true rfl : 100000 ≤ room_1.cells), Nat.le_trans (by omega) (Nat.le_of_ble_eq_true rfl : 1000000 ≤ room_1.slots)⟩ dL_law_1150 rfl (kI (fun r2 S1 h => ?_))
  obtain ⟨rfl, h⟩ := h
  refine v_icmp_eq X (tgt := 1306) dL_law_1153 (by decide) (fun _ => ?_) (fun hne => absurd rfl hne)
  exact v_widen (c2 := cells + 6) (s2 := slots + 147) (by (try dsimp only); omega) (by (try dsimp only); omega) (kk S1 h)
set_option maxRecDepth 100000 in
set_option maxHeartbeats 4000000 in
theorem law_kind {p : Program} {l : Launch} {e : Env} {s : State} {m : MethodId} {below : List Frame} {meth : Method} {c : Code} {D : va_G} {cy : Nat → ClassId} {scr L : Nat} {xs : Nat → Int32} {Rel : hp → Prop} (hst : st_kind Rel) (hL : L ≤ 384) (X : CX p s m #[Value.ref scr] c cL_law 4 RL D cy) (hX : va_X scr L xs s s.heap) (hbl : scr < s.heap.size) {S : hp} (hRel : Rel S) {i cells slots : Nat} (hi : i + 6 ≤ L) (hc : cells + 6 ≤ 100000) (hs : slots + 147 ≤ 1000000) (kk : ∀ S2 : hp, Rel S2 → V p l e room_1 s m #[Value.ref scr] below meth c s.heap.size D cy 4 (lw_Z below #[Value.ref scr] s) S2 (cells + 6) (slots + 147) 1306 [(0, .retAddr scr), (1, .ref 0), (2, .ref 35), (3, .int (nI i))] []) : V p l e room_1 s m #[Value.ref scr] below meth c s.heap.size D cy 4 (lw_Z below #[Value.ref scr] s) S cells slots 1158 [(0, .retAddr scr), (1, .ref 0), (2, .ref 35), (3, .int (nI i))] [] := by
  refine v_aload_n X 1 dL_law_1158 rfl rfl ?_
  refine v_aloadS X 0 dL_law_1159 rfl rfl ?_
  refine v_iload_n X 3 dL_law_1160 rfl rfl ?_
  refine v_iconst X (v := 1) dL_law_1161 (by decide) ?_
  refine v_iadd X dL_law_1162 ?_
  refine v_sld X hX hbl (sidx (k := 1) rfl (by omega) hL) dL_law_1163 ?_
  obtain ⟨h0, h⟩ := hst S hRel (xs (nI i + (1 : Int32)).toNatClampNeg)
  refine v_callV X (av := [.int (xs (nI i + (1 : Int32)).toNatClampNeg)]) (T := TX11) (N := 12) (s_X11_kind l s.heap.size D cy h) h0 (by decide) rfl wd810 wd811 wd812 wd56 k_X11_kind dn_X11_kind rfl ⟨Nat.le_of_ble_eq_true rfl, Nat.le_of_ble_eq_true rfl⟩ (Nat.le_of_ble_eq_true rfl) ⟨Nat.le_trans (by omega) (Nat.le_of_ble_eq_true rfl : 100000 ≤ room_1.cells), Nat.le_trans (by omega) (Nat.le_of_ble_eq_true rfl : 1000000 ≤ room_1.slots)⟩ dL_law_1164 rfl (kI (fun r1 S1 h => ?_))
  obtain ⟨h0, h⟩ := h
  refine v_aload_n X 2 dL_law_1167 rfl rfl ?_
  refine v_aloadS X 0 dL_law_1168 rfl rfl ?_
  refine v_iload_n X 3 dL_law_1169 rfl rfl ?_
  refine v_iconst X (v := 1) dL_law_1170 (by decide) ?_
  refine v_iadd X dL_law_1171 ?_
  refine v_sld X hX hbl (sidx (k := 1) rfl (by omega) hL) dL_law_1172 ?_
  refine v_callV X (av := [.int (xs (nI i + (1 : Int32)).toNatClampNeg)]) (T := TX12) (N := 26) (s_X12_kind l s.heap.size D cy h) h0 (by decide) rfl wd1291 wd1292 wd1293 wd62 k_X12_kind dn_X12_kind rfl ⟨Nat.le_of_ble_eq_true rfl, Nat.le_of_ble_eq_true rfl⟩ (Nat.le_of_ble_eq_true rfl) ⟨Nat.le_trans (by omega) (Nat.le_of_ble_eq_true rfl : 100000 ≤ room_1.cells), Nat.le_trans (by omega) (Nat.le_of_ble_eq_true rfl : 1000000 ≤ room_1.slots)⟩ dL_law_1173 rfl (kI (fun r2 S1 h => ?_))
  obtain ⟨rfl, h⟩ := h
  refine v_icmp_eq X (tgt := 1306) dL_law_1176 (by decide) (fun _ => ?_) (fun hne => absurd rfl hne)
  exact v_widen (c2 := cells + 6) (s2 := slots + 147) (by (try dsimp only); omega) (by (try dsimp only); omega) (kk S1 h)
set_option maxRecDepth 100000 in
set_option maxHeartbeats 4000000 in
theorem law_as {p : Program} {l : Launch} {e : Env} {s : State} {m : MethodId} {below : List Frame} {meth : Method} {c : Code} {D : va_G} {cy : Nat → ClassId} {scr L : Nat} {xs : Nat → Int32} {Rel : hp → Prop} (hst : st_as Rel) (hL : L ≤ 384) (X : CX p s m #[Value.ref scr] c cL_law 4 RL D cy) (hX : va_X scr L xs s s.heap) (hbl : scr < s.heap.size) {S : hp} (hRel : Rel S) {i cells slots : Nat} (hi : i + 6 ≤ L) (hc : cells + 6 ≤ 100000) (hs : slots + 147 ≤ 1000000) (kk : ∀ S2 : hp, Rel S2 → V p l e room_1 s m #[Value.ref scr] below meth c s.heap.size D cy 4 (lw_Z below #[Value.ref scr] s) S2 (cells + 6) (slots + 147) 1306 [(0, .retAddr scr), (1, .ref 0), (2, .ref 35), (3, .int (nI i))] []) : V p l e room_1 s m #[Value.ref scr] below meth c s.heap.size D cy 4 (lw_Z below #[Value.ref scr] s) S cells slots 1181 [(0, .retAddr scr), (1, .ref 0), (2, .ref 35), (3, .int (nI i))] [] := by
  refine v_aload_n X 1 dL_law_1181 rfl rfl ?_
  refine v_aloadS X 0 dL_law_1182 rfl rfl ?_
  refine v_iload_n X 3 dL_law_1183 rfl rfl ?_
  refine v_iconst X (v := 1) dL_law_1184 (by decide) ?_
  refine v_iadd X dL_law_1185 ?_
  refine v_sld X hX hbl (sidx (k := 1) rfl (by omega) hL) dL_law_1186 ?_
  refine v_aloadS X 0 dL_law_1187 rfl rfl ?_
  refine v_iload_n X 3 dL_law_1188 rfl rfl ?_
  refine v_iconst X (v := 2) dL_law_1189 (by decide) ?_
  refine v_iadd X dL_law_1190 ?_
  refine v_sld X hX hbl (sidx (k := 2) rfl (by omega) hL) dL_law_1191 ?_
  obtain ⟨h0, h⟩ := hst S hRel (xs (nI i + (1 : Int32)).toNatClampNeg) (xs (nI i + (2 : Int32)).toNatClampNeg)
  refine v_callV X (av := [.int (xs (nI i + (1 : Int32)).toNatClampNeg), .int (xs (nI i + (2 : Int32)).toNatClampNeg)]) (T := TX11) (N := 12) (s_X11_as l s.heap.size D cy h) h0 (by decide) rfl wd832 wd833 wd834 wd56 k_X11_as dn_X11_as rfl ⟨Nat.le_of_ble_eq_true rfl, Nat.le_of_ble_eq_true rfl⟩ (Nat.le_of_ble_eq_true rfl) ⟨Nat.le_trans (by omega) (Nat.le_of_ble_eq_true rfl : 100000 ≤ room_1.cells), Nat.le_trans (by omega) (Nat.le_of_ble_eq_true rfl : 1000000 ≤ room_1.slots)⟩ dL_law_1192 rfl (kI (fun r1 S1 h => ?_))
  obtain ⟨h0, h⟩ := h
  refine v_aload_n X 2 dL_law_1195 rfl rfl ?_
  refine v_aloadS X 0 dL_law_1196 rfl rfl ?_
  refine v_iload_n X 3 dL_law_1197 rfl rfl ?_
  refine v_iconst X (v := 1) dL_law_1198 (by decide) ?_
  refine v_iadd X dL_law_1199 ?_
  refine v_sld X hX hbl (sidx (k := 1) rfl (by omega) hL) dL_law_1200 ?_
  refine v_aloadS X 0 dL_law_1201 rfl rfl ?_
  refine v_iload_n X 3 dL_law_1202 rfl rfl ?_
  refine v_iconst X (v := 2) dL_law_1203 (by decide) ?_
  refine v_iadd X dL_law_1204 ?_
  refine v_sld X hX hbl (sidx (k := 2) rfl (by omega) hL) dL_law_1205 ?_
  refine v_callV X (av := [.int (xs (nI i + (1 : Int32)).toNatClampNeg), .int (xs (nI i + (2 : Int32)).toNatClampNeg)]) (T := TX12) (N := 26) (s_X12_as l s.heap.size D cy h) h0 (by decide) rfl wd1295 wd1296 wd1297 wd62 k_X12_as dn_X12_as rfl ⟨Nat.le_of_ble_eq_true rfl, Nat.le_of_ble_eq_true rfl⟩ (Nat.le_of_ble_eq_true rfl) ⟨Nat.le_trans (by omega) (Nat.le_of_ble_eq_true rfl : 100000 ≤ room_1.cells), Nat.le_trans (by omega) (Nat.le_of_ble_eq_true rfl : 1000000 ≤ room_1.slots)⟩ dL_law_1206 rfl (kI (fun r2 S1 h => ?_))
  obtain ⟨rfl, h⟩ := h
  refine v_icmp_eq X (tgt := 1306) dL_law_1209 (by decide) (fun _ => ?_) (fun hne => absurd rfl hne)
  exact v_widen (c2 := cells + 6) (s2 := slots + 147) (by (try dsimp only); omega) (by (try dsimp only); omega) (kk S1 h)
set_option maxRecDepth 100000 in
set_option maxHeartbeats 4000000 in
theorem law_ask {p : Program} {l : Launch} {e : Env} {s : State} {m : MethodId} {below : List Frame} {meth : Method} {c : Code} {D : va_G} {cy : Nat → ClassId} {scr L : Nat} {xs : Nat → Int32} {Rel : hp → Prop} (hst : st_ask Rel) (hL : L ≤ 384) (X : CX p s m #[Value.ref scr] c cL_law 4 RL D cy) (hX : va_X scr L xs s s.heap) (hbl : scr < s.heap.size) {S : hp} (hRel : Rel S) {i cells slots : Nat} (hi : i + 6 ≤ L) (hc : cells + 6 ≤ 100000) (hs : slots + 147 ≤ 1000000) (kk : ∀ S2 : hp, Rel S2 → V p l e room_1 s m #[Value.ref scr] below meth c s.heap.size D cy 4 (lw_Z below #[Value.ref scr] s) S2 (cells + 6) (slots + 147) 1306 [(0, .retAddr scr), (1, .ref 0), (2, .ref 35), (3, .int (nI i))] []) : V p l e room_1 s m #[Value.ref scr] below meth c s.heap.size D cy 4 (lw_Z below #[Value.ref scr] s) S cells slots 1214 [(0, .retAddr scr), (1, .ref 0), (2, .ref 35), (3, .int (nI i))] [] := by
  refine v_aload_n X 1 dL_law_1214 rfl rfl ?_
  refine v_aloadS X 0 dL_law_1215 rfl rfl ?_
  refine v_iload_n X 3 dL_law_1216 rfl rfl ?_
  refine v_iconst X (v := 1) dL_law_1217 (by decide) ?_
  refine v_iadd X dL_law_1218 ?_
  refine v_sld X hX hbl (sidx (k := 1) rfl (by omega) hL) dL_law_1219 ?_
  refine v_aloadS X 0 dL_law_1220 rfl rfl ?_
  refine v_iload_n X 3 dL_law_1221 rfl rfl ?_
  refine v_iconst X (v := 2) dL_law_1222 (by decide) ?_
  refine v_iadd X dL_law_1223 ?_
  refine v_sld X hX hbl (sidx (k := 2) rfl (by omega) hL) dL_law_1224 ?_
  obtain ⟨h0, h⟩ := hst S hRel (xs (nI i + (1 : Int32)).toNatClampNeg) (xs (nI i + (2 : Int32)).toNatClampNeg)
  refine v_callV X (av := [.int (xs (nI i + (1 : Int32)).toNatClampNeg), .int (xs (nI i + (2 : Int32)).toNatClampNeg)]) (T := TX11) (N := 12) (s_X11_ask l s.heap.size D cy h) h0 (by decide) rfl wd844 wd845 wd846 wd56 k_X11_ask dn_X11_ask rfl ⟨Nat.le_of_ble_eq_true rfl, Nat.le_of_ble_eq_true rfl⟩ (Nat.le_of_ble_eq_true rfl) ⟨Nat.le_trans (by omega) (Nat.le_of_ble_eq_true rfl : 100000 ≤ room_1.cells), Nat.le_trans (by omega) (Nat.le_of_ble_eq_true rfl : 1000000 ≤ room_1.slots)⟩ dL_law_1225 rfl (kI (fun r1 S1 h => ?_))
  obtain ⟨h0, h⟩ := h
  refine v_aload_n X 2 dL_law_1228 rfl rfl ?_
  refine v_aloadS X 0 dL_law_1229 rfl rfl ?_
  refine v_iload_n X 3 dL_law_1230 rfl rfl ?_
  refine v_iconst X (v := 1) dL_law_1231 (by decide) ?_
  refine v_iadd X dL_law_1232 ?_
  refine v_sld X hX hbl (sidx (k := 1) rfl (by omega) hL) dL_law_1233 ?_
  refine v_aloadS X 0 dL_law_1234 rfl rfl ?_
  refine v_iload_n X 3 dL_law_1235 rfl rfl ?_
  refine v_iconst X (v := 2) dL_law_1236 (by decide) ?_
  refine v_iadd X dL_law_1237 ?_
  refine v_sld X hX hbl (sidx (k := 2) rfl (by omega) hL) dL_law_1238 ?_
  refine v_callV X (av := [.int (xs (nI i + (1 : Int32)).toNatClampNeg), .int (xs (nI i + (2 : Int32)).toNatClampNeg)]) (T := TX12) (N := 26) (s_X12_ask l s.heap.size D cy h) h0 (by decide) rfl wd1302 wd1303 wd1304 wd62 k_X12_ask dn_X12_ask rfl ⟨Nat.le_of_ble_eq_true rfl, Nat.le_of_ble_eq_true rfl⟩ (Nat.le_of_ble_eq_true rfl) ⟨Nat.le_trans (by omega) (Nat.le_of_ble_eq_true rfl : 100000 ≤ room_1.cells), Nat.le_trans (by omega) (Nat.le_of_ble_eq_true rfl : 1000000 ≤ room_1.slots)⟩ dL_law_1239 rfl (kI (fun r2 S1 h => ?_))
  obtain ⟨rfl, h⟩ := h
  refine v_icmp_eq X (tgt := 1306) dL_law_1242 (by decide) (fun _ => ?_) (fun hne => absurd rfl hne)
  exact v_widen (c2 := cells + 6) (s2 := slots + 147) (by (try dsimp only); omega) (by (try dsimp only); omega) (kk S1 h)
set_option maxRecDepth 100000 in
set_option maxHeartbeats 4000000 in
theorem law_trace {p : Program} {l : Launch} {e : Env} {s : State} {m : MethodId} {below : List Frame} {meth : Method} {c : Code} {D : va_G} {cy : Nat → ClassId} {scr L : Nat} {xs : Nat → Int32} {Rel : hp → Prop} (hst : st_trace Rel) (hL : L ≤ 384) (X : CX p s m #[Value.ref scr] c cL_law 4 RL D cy) (hX : va_X scr L xs s s.heap) (hbl : scr < s.heap.size) {S : hp} (hRel : Rel S) {i cells slots : Nat} (hi : i + 6 ≤ L) (hc : cells + 6 ≤ 100000) (hs : slots + 147 ≤ 1000000) (kk : ∀ S2 : hp, Rel S2 → V p l e room_1 s m #[Value.ref scr] below meth c s.heap.size D cy 4 (lw_Z below #[Value.ref scr] s) S2 (cells + 6) (slots + 147) 1306 [(0, .retAddr scr), (1, .ref 0), (2, .ref 35), (3, .int (nI i))] []) : V p l e room_1 s m #[Value.ref scr] below meth c s.heap.size D cy 4 (lw_Z below #[Value.ref scr] s) S cells slots 1247 [(0, .retAddr scr), (1, .ref 0), (2, .ref 35), (3, .int (nI i))] [] := by
  refine v_aload_n X 1 dL_law_1247 rfl rfl ?_
  refine v_aloadS X 0 dL_law_1248 rfl rfl ?_
  refine v_iload_n X 3 dL_law_1249 rfl rfl ?_
  refine v_iconst X (v := 1) dL_law_1250 (by decide) ?_
  refine v_iadd X dL_law_1251 ?_
  refine v_sld X hX hbl (sidx (k := 1) rfl (by omega) hL) dL_law_1252 ?_
  obtain ⟨h0, h⟩ := hst S hRel (xs (nI i + (1 : Int32)).toNatClampNeg)
  refine v_callV X (av := [.int (xs (nI i + (1 : Int32)).toNatClampNeg)]) (T := TX11) (N := 12) (s_X11_trace l s.heap.size D cy h) h0 (by decide) rfl wd908 wd909 wd910 wd56 k_X11_trace dn_X11_trace rfl ⟨Nat.le_of_ble_eq_true rfl, Nat.le_of_ble_eq_true rfl⟩ (Nat.le_of_ble_eq_true rfl) ⟨Nat.le_trans (by omega) (Nat.le_of_ble_eq_true rfl : 100000 ≤ room_1.cells), Nat.le_trans (by omega) (Nat.le_of_ble_eq_true rfl : 1000000 ≤ room_1.slots)⟩ dL_law_1253 rfl (kI (fun r1 S1 h => ?_))
  obtain ⟨h0, h⟩ := h
  refine v_aload_n X 2 dL_law_1256 rfl rfl ?_
  refine v_aloadS X 0 dL_law_1257 rfl rfl ?_
  refine v_iload_n X 3 dL_law_1258 rfl rfl ?_
  refine v_iconst X (v := 1) dL_law_1259 (by decide) ?_
  refine v_iadd X dL_law_1260 ?_
  refine v_sld X hX hbl (sidx (k := 1) rfl (by omega) hL) dL_law_1261 ?_
  refine v_callV X (av := [.int (xs (nI i + (1 : Int32)).toNatClampNeg)]) (T := TX12) (N := 26) (s_X12_trace l s.heap.size D cy h) h0 (by decide) rfl wd1326 wd1327 wd1328 wd62 k_X12_trace dn_X12_trace rfl ⟨Nat.le_of_ble_eq_true rfl, Nat.le_of_ble_eq_true rfl⟩ (Nat.le_of_ble_eq_true rfl) ⟨Nat.le_trans (by omega) (Nat.le_of_ble_eq_true rfl : 100000 ≤ room_1.cells), Nat.le_trans (by omega) (Nat.le_of_ble_eq_true rfl : 1000000 ≤ room_1.slots)⟩ dL_law_1262 rfl (kI (fun r2 S1 h => ?_))
  obtain ⟨rfl, h⟩ := h
  refine v_icmp_eq X (tgt := 1306) dL_law_1265 (by decide) (fun _ => ?_) (fun hne => absurd rfl hne)
  exact v_widen (c2 := cells + 6) (s2 := slots + 147) (by (try dsimp only); omega) (by (try dsimp only); omega) (kk S1 h)
set_option maxRecDepth 100000 in
set_option maxHeartbeats 4000000 in
theorem law_count {p : Program} {l : Launch} {e : Env} {s : State} {m : MethodId} {below : List Frame} {meth : Method} {c : Code} {D : va_G} {cy : Nat → ClassId} {scr L : Nat} {xs : Nat → Int32} {Rel : hp → Prop} (hst : st_count Rel) (hL : L ≤ 384) (X : CX p s m #[Value.ref scr] c cL_law 4 RL D cy) (hX : va_X scr L xs s s.heap) (hbl : scr < s.heap.size) {S : hp} (hRel : Rel S) {i cells slots : Nat} (hi : i + 6 ≤ L) (hc : cells + 6 ≤ 100000) (hs : slots + 147 ≤ 1000000) (kk : ∀ S2 : hp, Rel S2 → V p l e room_1 s m #[Value.ref scr] below meth c s.heap.size D cy 4 (lw_Z below #[Value.ref scr] s) S2 (cells + 6) (slots + 147) 1306 [(0, .retAddr scr), (1, .ref 0), (2, .ref 35), (3, .int (nI i))] []) : V p l e room_1 s m #[Value.ref scr] below meth c s.heap.size D cy 4 (lw_Z below #[Value.ref scr] s) S cells slots 1270 [(0, .retAddr scr), (1, .ref 0), (2, .ref 35), (3, .int (nI i))] [] := by
  refine v_aload_n X 1 dL_law_1270 rfl rfl ?_
  refine v_aloadS X 0 dL_law_1271 rfl rfl ?_
  refine v_iload_n X 3 dL_law_1272 rfl rfl ?_
  refine v_iconst X (v := 1) dL_law_1273 (by decide) ?_
  refine v_iadd X dL_law_1274 ?_
  refine v_sld X hX hbl (sidx (k := 1) rfl (by omega) hL) dL_law_1275 ?_
  obtain ⟨h0, h⟩ := hst S hRel (xs (nI i + (1 : Int32)).toNatClampNeg)
  refine v_callV X (av := [.int (xs (nI i + (1 : Int32)).toNatClampNeg)]) (T := TX11) (N := 12) (s_X11_count l s.heap.size D cy h) h0 (by decide) rfl wd917 wd918 wd919 wd56 k_X11_count dn_X11_count rfl ⟨Nat.le_of_ble_eq_true rfl, Nat.le_of_ble_eq_true rfl⟩ (Nat.le_of_ble_eq_true rfl) ⟨Nat.le_trans (by omega) (Nat.le_of_ble_eq_true rfl : 100000 ≤ room_1.cells), Nat.le_trans (by omega) (Nat.le_of_ble_eq_true rfl : 1000000 ≤ room_1.slots)⟩ dL_law_1276 rfl (kI (fun r1 S1 h => ?_))
  obtain ⟨h0, h⟩ := h
  refine v_aload_n X 2 dL_law_1279 rfl rfl ?_
  refine v_aloadS X 0 dL_law_1280 rfl rfl ?_
  refine v_iload_n X 3 dL_law_1281 rfl rfl ?_
  refine v_iconst X (v := 1) dL_law_1282 (by decide) ?_
  refine v_iadd X dL_law_1283 ?_
  refine v_sld X hX hbl (sidx (k := 1) rfl (by omega) hL) dL_law_1284 ?_
  refine v_callV X (av := [.int (xs (nI i + (1 : Int32)).toNatClampNeg)]) (T := TX12) (N := 26) (s_X12_count l s.heap.size D cy h) h0 (by decide) rfl wd1330 wd1331 wd1332 wd62 k_X12_count dn_X12_count rfl ⟨Nat.le_of_ble_eq_true rfl, Nat.le_of_ble_eq_true rfl⟩ (Nat.le_of_ble_eq_true rfl) ⟨Nat.le_trans (by omega) (Nat.le_of_ble_eq_true rfl : 100000 ≤ room_1.cells), Nat.le_trans (by omega) (Nat.le_of_ble_eq_true rfl : 1000000 ≤ room_1.slots)⟩ dL_law_1285 rfl (kI (fun r2 S1 h => ?_))
  obtain ⟨rfl, h⟩ := h
  refine v_icmp_eq X (tgt := 1306) dL_law_1288 (by decide) (fun _ => ?_) (fun hne => absurd rfl hne)
  exact v_widen (c2 := cells + 6) (s2 := slots + 147) (by (try dsimp only); omega) (by (try dsimp only); omega) (kk S1 h)
set_option maxRecDepth 100000 in
set_option maxHeartbeats 4000000 in
theorem law_status {p : Program} {l : Launch} {e : Env} {s : State} {m : MethodId} {below : List Frame} {meth : Method} {c : Code} {D : va_G} {cy : Nat → ClassId} {scr L : Nat} {xs : Nat → Int32} {Rel : hp → Prop} (hst : st_status Rel) (hL : L ≤ 384) (X : CX p s m #[Value.ref scr] c cL_law 4 RL D cy) (hX : va_X scr L xs s s.heap) (hbl : scr < s.heap.size) {S : hp} (hRel : Rel S) {i cells slots : Nat} (hi : i + 6 ≤ L) (hc : cells + 6 ≤ 100000) (hs : slots + 147 ≤ 1000000) (kk : ∀ S2 : hp, Rel S2 → V p l e room_1 s m #[Value.ref scr] below meth c s.heap.size D cy 4 (lw_Z below #[Value.ref scr] s) S2 (cells + 6) (slots + 147) 1306 [(0, .retAddr scr), (1, .ref 0), (2, .ref 35), (3, .int (nI i))] []) : V p l e room_1 s m #[Value.ref scr] below meth c s.heap.size D cy 4 (lw_Z below #[Value.ref scr] s) S cells slots 1293 [(0, .retAddr scr), (1, .ref 0), (2, .ref 35), (3, .int (nI i))] [] := by
  refine v_aload_n X 1 dL_law_1293 rfl rfl ?_
  obtain ⟨h0, h⟩ := hst S hRel 
  refine v_callV X (av := []) (T := TX11) (N := 12) (s_X11_status l s.heap.size D cy h) h0 (by decide) rfl wd929 wd930 wd931 wd56 k_X11_status dn_X11_status rfl ⟨Nat.le_of_ble_eq_true rfl, Nat.le_of_ble_eq_true rfl⟩ (Nat.le_of_ble_eq_true rfl) ⟨Nat.le_trans (by omega) (Nat.le_of_ble_eq_true rfl : 100000 ≤ room_1.cells), Nat.le_trans (by omega) (Nat.le_of_ble_eq_true rfl : 1000000 ≤ room_1.slots)⟩ dL_law_1294 rfl (kI (fun r1 S1 h => ?_))
  obtain ⟨h0, h⟩ := h
  refine v_aload_n X 2 dL_law_1297 rfl rfl ?_
  refine v_callV X (av := []) (T := TX12) (N := 26) (s_X12_status l s.heap.size D cy h) h0 (by decide) rfl wd1334 wd1335 wd1336 wd62 k_X12_status dn_X12_status rfl ⟨Nat.le_of_ble_eq_true rfl, Nat.le_of_ble_eq_true rfl⟩ (Nat.le_of_ble_eq_true rfl) ⟨Nat.le_trans (by omega) (Nat.le_of_ble_eq_true rfl : 100000 ≤ room_1.cells), Nat.le_trans (by omega) (Nat.le_of_ble_eq_true rfl : 1000000 ≤ room_1.slots)⟩ dL_law_1298 rfl (kI (fun r2 S1 h => ?_))
  obtain ⟨rfl, h⟩ := h
  refine v_icmp_eq X (tgt := 1306) dL_law_1301 (by decide) (fun _ => ?_) (fun hne => absurd rfl hne)
  exact v_widen (c2 := cells + 6) (s2 := slots + 147) (by (try dsimp only); omega) (by (try dsimp only); omega) (kk S1 h)
theorem law_le {i L : Nat} (h : ¬ nI L - (6 : Int32) < nI i) (hi : i ≤ L) (hL : L ≤ 384) : i + 6 ≤ L := by
  have h1 : (nI L - 6).toInt = (L : Int) - 6 := by
    rw [Int32.toInt_sub, nI_toInt (by omega)]
    show ((L : Int) - 6).bmod (2 ^ 32) = _
    rw [Int.bmod_eq_of_le (by omega) (by omega)]
  have h2 : (nI i).toInt = (i : Int) := nI_toInt (by omega)
  have h3 : ¬ (nI L - 6).toInt < (nI i).toInt := fun q => h (Int32.lt_iff_toInt_lt.mpr q)
  omega
set_option maxRecDepth 100000 in
set_option maxHeartbeats 4000000 in
theorem law_loop {p : Program} {l : Launch} {e : Env} {s : State} {m : MethodId} {below : List Frame} {meth : Method} {c : Code} {D : va_G} {cy : Nat → ClassId} {scr L : Nat} {xs : Nat → Int32} {Rel : hp → Prop} (hall : st_all Rel) (hL : L ≤ 384) (X : CX p s m #[Value.ref scr] c cL_law 4 RL D cy) (hr : meth.sig.returnType = ret) (hlk : meth.locks = false) (hX : va_X scr L xs s s.heap) (hbl : scr < s.heap.size) : ∀ (n i : Nat) (S : hp) (cells slots : Nat), Rel S → i ≤ L → L < i + 6 * n → cells + 6 * n ≤ 99000 → slots + 147 * n ≤ 990000 → V p l e room_1 s m #[Value.ref scr] below meth c s.heap.size D cy 4 (lw_Z below #[Value.ref scr] s) S cells slots 18 [(0, .retAddr scr), (1, .ref 0), (2, .ref 35), (3, .int (nI i))] [] := by
  obtain ⟨g0, g1, g2, g3, g4, g5, g6, g7, g8, g9, g10, g11, g12, g13, g14, g15, g16, g17, g18, g19, g20, g21, g22, g23, g24, g25, g26, g27, g28, g29, g30, g31, g32, g33⟩ := hall
  intro n
  induction n with
  | zero => intro i S cells slots _ _ h; omega
  | succ n ih =>
    intro i S cells slots hRel hi hin hc hs
    refine v_iload_n X 3 dL_law_18 rfl rfl ?_
    refine v_aloadS X 0 dL_law_19 rfl rfl ?_
    refine v_slen X hX hbl dL_law_20 ?_
    refine v_bipush X (v := 6) dL_law_21 (by decide) ?_
    refine v_isub X dL_law_23 ?_
    refine v_icmp_gt X (tgt := 1312) dL_law_24 (by decide) (fun hgt => ?_) (fun hle => ?_)
    · refine v_iconst X (v := 1) dL_law_1312 (by decide) ?_
      intro H locs ls hH hF hl
      refine va_forget (fun q hq => hF.2 q hq) ?_
      refine W.widen (k := 600000) (n := 7302250) (by omega) (by omega) ?_
      exact lw_ret X.1 X.2.1 hr hlk dL_law_1313
    · have hi6 : i + 6 ≤ L := law_le hle hi hL
      have kk : ∀ S2 : hp, Rel S2 → V p l e room_1 s m #[Value.ref scr] below meth c s.heap.size D cy 4 (lw_Z below #[Value.ref scr] s) S2 (cells + 6) (slots + 147) 1306 [(0, .retAddr scr), (1, .ref 0), (2, .ref 35), (3, .int (nI i))] [] := by
        intro S2 hR2
        refine v_iinc X (j := 3) (v := nI (i + 6)) (lv' := [(3, .int (nI (i + 6))), (0, .retAddr scr), (1, .ref 0), (2, .ref 35)]) dL_law_1306 rfl (nI_add i 6) (by decide) rfl ?_
        refine v_goto X (tgt := 18) dL_law_1309 (by decide) ?_
        refine v_lv (lv' := [(0, .retAddr scr), (1, .ref 0), (2, .ref 35), (3, .int (nI (i + 6)))]) [1, 2, 3, 0] rfl ?_
        exact ih (i + 6) S2 _ _ hR2 (by omega) (by omega) (by omega) (by omega)
      refine v_aloadS X 0 dL_law_27 rfl rfl ?_
      refine v_iload_n X 3 dL_law_28 rfl rfl ?_
      refine v_sld X hX hbl (vp_in_nI (by omega) (by omega)) dL_law_29 ?_
      refine v_bipush X (v := 63) dL_law_30 (by decide) ?_
      refine v_iand X dL_law_32 ?_
      generalize (xs (nI i).toNatClampNeg &&& (63 : Int32)) = z
      by_cases z0 : z = (0 : Int32)
      · refine v_tabIn X (off := 151) (tgt := 184) (0 : Int32) z0 dL_law_33 (by decide) (by decide) (by decide) (by decide) ?_
        exact law_row g0 hL X hX hbl hRel hi6 (by omega) (by omega) kk
      by_cases z1 : z = (1 : Int32)
      · refine v_tabIn X (off := 194) (tgt := 227) (1 : Int32) z1 dL_law_33 (by decide) (by decide) (by decide) (by decide) ?_
        exact law_set g1 hL X hX hbl hRel hi6 (by omega) (by omega) kk
      by_cases z2 : z = (2 : Int32)
      · refine v_tabIn X (off := 237) (tgt := 270) (2 : Int32) z2 dL_law_33 (by decide) (by decide) (by decide) (by decide) ?_
        exact law_copy g2 hL X hX hbl hRel hi6 (by omega) (by omega) kk
      by_cases z3 : z = (3 : Int32)
      · refine v_tabIn X (off := 300) (tgt := 333) (3 : Int32) z3 dL_law_33 (by decide) (by decide) (by decide) (by decide) ?_
        exact law_drop g3 hL X hX hbl hRel hi6 (by omega) (by omega) kk
      by_cases z4 : z = (4 : Int32)
      · refine v_tabIn X (off := 323) (tgt := 356) (4 : Int32) z4 dL_law_33 (by decide) (by decide) (by decide) (by decide) ?_
        exact law_feed g4 hL X hX hbl hRel hi6 (by omega) (by omega) kk
      by_cases z5 : z = (5 : Int32)
      · refine v_tabIn X (off := 346) (tgt := 379) (5 : Int32) z5 dL_law_33 (by decide) (by decide) (by decide) (by decide) ?_
        exact law_street g5 hL X hX hbl hRel hi6 (by omega) (by omega) kk
      by_cases z6 : z = (6 : Int32)
      · refine v_tabIn X (off := 359) (tgt := 392) (6 : Int32) z6 dL_law_33 (by decide) (by decide) (by decide) (by decide) ?_
        exact law_fault g6 hL X hX hbl hRel hi6 (by omega) (by omega) kk
      by_cases z7 : z = (7 : Int32)
      · refine v_tabIn X (off := 372) (tgt := 405) (7 : Int32) z7 dL_law_33 (by decide) (by decide) (by decide) (by decide) ?_
        exact law_undo g7 hL X hX hbl hRel hi6 (by omega) (by omega) kk
      by_cases z8 : z = (8 : Int32)
      · refine v_tabIn X (off := 385) (tgt := 418) (8 : Int32) z8 dL_law_33 (by decide) (by decide) (by decide) (by decide) ?_
        exact law_tell g8 hL X hX hbl hRel hi6 (by omega) (by omega) kk
      by_cases z9 : z = (9 : Int32)
      · refine v_tabIn X (off := 438) (tgt := 471) (9 : Int32) z9 dL_law_33 (by decide) (by decide) (by decide) (by decide) ?_
        exact law_year g9 hL X hX hbl hRel hi6 (by omega) (by omega) kk
      by_cases z10 : z = (10 : Int32)
      · refine v_tabIn X (off := 451) (tgt := 484) (10 : Int32) z10 dL_law_33 (by decide) (by decide) (by decide) (by decide) ?_
        exact law_swap g10 hL X hX hbl hRel hi6 (by omega) (by omega) kk
      by_cases z11 : z = (11 : Int32)
      · refine v_tabIn X (off := 484) (tgt := 517) (11 : Int32) z11 dL_law_33 (by decide) (by decide) (by decide) (by decide) ?_
        exact law_close g11 hL X hX hbl hRel hi6 (by omega) (by omega) kk
      by_cases z12 : z = (12 : Int32)
      · refine v_tabIn X (off := 497) (tgt := 530) (12 : Int32) z12 dL_law_33 (by decide) (by decide) (by decide) (by decide) ?_
        exact law_dummy g12 hL X hX hbl hRel hi6 (by omega) (by omega) kk
      by_cases z13 : z = (13 : Int32)
      · refine v_tabIn X (off := 540) (tgt := 573) (13 : Int32) z13 dL_law_33 (by decide) (by decide) (by decide) (by decide) ?_
        exact law_line g13 hL X hX hbl hRel hi6 (by omega) (by omega) kk
      by_cases z14 : z = (14 : Int32)
      · refine v_tabIn X (off := 573) (tgt := 606) (14 : Int32) z14 dL_law_33 (by decide) (by decide) (by decide) (by decide) ?_
        exact law_pads g14 hL X hX hbl hRel hi6 (by omega) (by omega) kk
      by_cases z15 : z = (15 : Int32)
      · refine v_tabIn X (off := 606) (tgt := 639) (15 : Int32) z15 dL_law_33 (by decide) (by decide) (by decide) (by decide) ?_
        exact law_was g15 hL X hX hbl hRel hi6 (by omega) (by omega) kk
      by_cases z16 : z = (16 : Int32)
      · refine v_tabIn X (off := 649) (tgt := 682) (16 : Int32) z16 dL_law_33 (by decide) (by decide) (by decide) (by decide) ?_
        exact law_liars g16 hL X hX hbl hRel hi6 (by omega) (by omega) kk
      by_cases z17 : z = (17 : Int32)
      · refine v_tabIn X (off := 702) (tgt := 735) (17 : Int32) z17 dL_law_33 (by decide) (by decide) (by decide) (by decide) ?_
        exact law_blame g17 hL X hX hbl hRel hi6 (by omega) (by omega) kk
      by_cases z18 : z = (18 : Int32)
      · refine v_tabIn X (off := 765) (tgt := 798) (18 : Int32) z18 dL_law_33 (by decide) (by decide) (by decide) (by decide) ?_
        exact law_right g18 hL X hX hbl hRel hi6 (by omega) (by omega) kk
      by_cases z19 : z = (19 : Int32)
      · refine v_tabIn X (off := 798) (tgt := 831) (19 : Int32) z19 dL_law_33 (by decide) (by decide) (by decide) (by decide) ?_
        exact law_most g19 hL X hX hbl hRel hi6 (by omega) (by omega) kk
      by_cases z20 : z = (20 : Int32)
      · refine v_tabIn X (off := 841) (tgt := 874) (20 : Int32) z20 dL_law_33 (by decide) (by decide) (by decide) (by decide) ?_
        exact law_swaps g20 hL X hX hbl hRel hi6 (by omega) (by omega) kk
      by_cases z21 : z = (21 : Int32)
      · refine v_tabIn X (off := 884) (tgt := 917) (21 : Int32) z21 dL_law_33 (by decide) (by decide) (by decide) (by decide) ?_
        exact law_lent g21 hL X hX hbl hRel hi6 (by omega) (by omega) kk
      by_cases z22 : z = (22 : Int32)
      · refine v_tabIn X (off := 917) (tgt := 950) (22 : Int32) z22 dL_law_33 (by decide) (by decide) (by decide) (by decide) ?_
        exact law_parted g22 hL X hX hbl hRel hi6 (by omega) (by omega) kk
      by_cases z23 : z = (23 : Int32)
      · refine v_tabIn X (off := 970) (tgt := 1003) (23 : Int32) z23 dL_law_33 (by decide) (by decide) (by decide) (by decide) ?_
        exact law_addedUp g23 hL X hX hbl hRel hi6 (by omega) (by omega) kk
      by_cases z24 : z = (24 : Int32)
      · refine v_tabIn X (off := 1013) (tgt := 1046) (24 : Int32) z24 dL_law_33 (by decide) (by decide) (by decide) (by decide) ?_
        exact law_felt g24 hL X hX hbl hRel hi6 (by omega) (by omega) kk
      by_cases z25 : z = (25 : Int32)
      · refine v_tabIn X (off := 1056) (tgt := 1089) (25 : Int32) z25 dL_law_33 (by decide) (by decide) (by decide) (by decide) ?_
        exact law_twins g25 hL X hX hbl hRel hi6 (by omega) (by omega) kk
      by_cases z26 : z = (26 : Int32)
      · refine v_tabIn X (off := 1079) (tgt := 1112) (26 : Int32) z26 dL_law_33 (by decide) (by decide) (by decide) (by decide) ?_
        exact law_image g26 hL X hX hbl hRel hi6 (by omega) (by omega) kk
      by_cases z27 : z = (27 : Int32)
      · refine v_tabIn X (off := 1102) (tgt := 1135) (27 : Int32) z27 dL_law_33 (by decide) (by decide) (by decide) (by decide) ?_
        exact law_restore g27 hL X hX hbl hRel hi6 (by omega) (by omega) kk
      by_cases z28 : z = (28 : Int32)
      · refine v_tabIn X (off := 1125) (tgt := 1158) (28 : Int32) z28 dL_law_33 (by decide) (by decide) (by decide) (by decide) ?_
        exact law_kind g28 hL X hX hbl hRel hi6 (by omega) (by omega) kk
      by_cases z29 : z = (29 : Int32)
      · refine v_tabIn X (off := 1148) (tgt := 1181) (29 : Int32) z29 dL_law_33 (by decide) (by decide) (by decide) (by decide) ?_
        exact law_as g29 hL X hX hbl hRel hi6 (by omega) (by omega) kk
      by_cases z30 : z = (30 : Int32)
      · refine v_tabIn X (off := 1181) (tgt := 1214) (30 : Int32) z30 dL_law_33 (by decide) (by decide) (by decide) (by decide) ?_
        exact law_ask g30 hL X hX hbl hRel hi6 (by omega) (by omega) kk
      by_cases z31 : z = (31 : Int32)
      · refine v_tabIn X (off := 1214) (tgt := 1247) (31 : Int32) z31 dL_law_33 (by decide) (by decide) (by decide) (by decide) ?_
        exact law_trace g31 hL X hX hbl hRel hi6 (by omega) (by omega) kk
      by_cases z32 : z = (32 : Int32)
      · refine v_tabIn X (off := 1237) (tgt := 1270) (32 : Int32) z32 dL_law_33 (by decide) (by decide) (by decide) (by decide) ?_
        exact law_count g32 hL X hX hbl hRel hi6 (by omega) (by omega) kk
      by_cases z33 : z = (33 : Int32)
      · refine v_tabIn X (off := 1260) (tgt := 1293) (33 : Int32) z33 dL_law_33 (by decide) (by decide) (by decide) (by decide) ?_
        exact law_status g33 hL X hX hbl hRel hi6 (by omega) (by omega) kk
      refine v_tabOut X (tgt := 1306) dL_law_33 (by have y0 := ne_ti (0 : Int32) 0 rfl z0; have y1 := ne_ti (1 : Int32) 1 rfl z1; have y2 := ne_ti (2 : Int32) 2 rfl z2; have y3 := ne_ti (3 : Int32) 3 rfl z3; have y4 := ne_ti (4 : Int32) 4 rfl z4; have y5 := ne_ti (5 : Int32) 5 rfl z5; have y6 := ne_ti (6 : Int32) 6 rfl z6; have y7 := ne_ti (7 : Int32) 7 rfl z7; have y8 := ne_ti (8 : Int32) 8 rfl z8; have y9 := ne_ti (9 : Int32) 9 rfl z9; have y10 := ne_ti (10 : Int32) 10 rfl z10; have y11 := ne_ti (11 : Int32) 11 rfl z11; have y12 := ne_ti (12 : Int32) 12 rfl z12; have y13 := ne_ti (13 : Int32) 13 rfl z13; have y14 := ne_ti (14 : Int32) 14 rfl z14; have y15 := ne_ti (15 : Int32) 15 rfl z15; have y16 := ne_ti (16 : Int32) 16 rfl z16; have y17 := ne_ti (17 : Int32) 17 rfl z17; have y18 := ne_ti (18 : Int32) 18 rfl z18; have y19 := ne_ti (19 : Int32) 19 rfl z19; have y20 := ne_ti (20 : Int32) 20 rfl z20; have y21 := ne_ti (21 : Int32) 21 rfl z21; have y22 := ne_ti (22 : Int32) 22 rfl z22; have y23 := ne_ti (23 : Int32) 23 rfl z23; have y24 := ne_ti (24 : Int32) 24 rfl z24; have y25 := ne_ti (25 : Int32) 25 rfl z25; have y26 := ne_ti (26 : Int32) 26 rfl z26; have y27 := ne_ti (27 : Int32) 27 rfl z27; have y28 := ne_ti (28 : Int32) 28 rfl z28; have y29 := ne_ti (29 : Int32) 29 rfl z29; have y30 := ne_ti (30 : Int32) 30 rfl z30; have y31 := ne_ti (31 : Int32) 31 rfl z31; have y32 := ne_ti (32 : Int32) 32 rfl z32; have y33 := ne_ti (33 : Int32) 33 rfl z33; omega) (by decide) ?_
      exact v_widen (c2 := cells + 6) (s2 := slots + 147) (by omega) (by omega) (kk S hRel)
set_option maxRecDepth 100000 in
set_option maxHeartbeats 4000000 in
theorem law_start {Rel : hp → Prop} (hini : st_init Rel) (hall : st_all Rel) {p : Program} {e : Env} {s : State} {m : MethodId} {below : List Frame} {meth : Method} {c : Code} (l : Launch) {scr L : Nat} {xs : Nat → Int32} (hL : L ≤ 384) (C0 : lw_At p s m meth c scr L xs) : W p l e room_1 s m #[Value.ref scr] below meth c s.heap [] 0 0 (lw_Z below #[Value.ref scr] s) (entryFrame m ([Value.ref scr] : List Value).toArray 4) := by
  obtain ⟨D, cy, hKN⟩ := law_kn C0
  obtain ⟨hx, hb, hr, hml, hown, hts, hX, hbl, hlocks, hgv⟩ := id C0
  have hg : ∀ w ∈ gtb, w.before #[Value.ref scr] s = true := fun w hw => hts w (List.mem_filter.mp hw).1
  have X : CX p s m #[Value.ref scr] c cL_law 4 RL D cy := ⟨hx, hb, hml, hown, hg, hKN⟩
  have key : V p l e room_1 s m #[Value.ref scr] below meth c s.heap.size D cy 4 (lw_Z below #[Value.ref scr] s) emp 0 0 0 [(0, .retAddr scr)] [] := by
    refine v_new X (T := TX11) (N := 12) (ci := 10) rfl (by decide) inX11 tyX11 tyX11_ok wd73 wd74 wd56 dfX11 (Nat.le_of_ble_eq_true rfl) (Nat.le_of_ble_eq_true rfl) dL_law_0 ?_
    refine v_dup X dL_law_3 rfl ?_
    have h := hini
    unfold st_init at h
    refine v_callI X (ret := none) (av := []) (s_X11_init l s.heap.size D cy h) wd75 wd76 wd56 k_X11_init rfl dn_X11_init rfl ⟨Nat.le_of_ble_eq_true rfl, Nat.le_of_ble_eq_true rfl⟩ (Nat.le_of_ble_eq_true rfl) ⟨Nat.le_of_ble_eq_true rfl, Nat.le_of_ble_eq_true rfl⟩ dL_law_4 rfl (kV (fun S1 h => ?_))
    obtain ⟨hc, h⟩ := h
    refine v_astore_n X (lv' := [(1, .ref 0), (0, .retAddr scr)]) dL_law_7 rfl (by decide) rfl ?_
    refine v_new X (T := TX12) (N := 26) (ci := 11) rfl (by decide) inX12 tyX12 tyX12_ok wd933 wd934 wd62 dfX12 (Nat.le_of_ble_eq_true rfl) (Nat.le_of_ble_eq_true rfl) dL_law_8 ?_
    rw [hc]
    refine v_dup X dL_law_11 rfl ?_
    refine v_callI X (ret := none) (av := []) (s_X12_init l s.heap.size D cy h) wd935 wd936 wd62 k_X12_init rfl dn_X12_init rfl ⟨Nat.le_of_ble_eq_true rfl, Nat.le_of_ble_eq_true rfl⟩ (Nat.le_of_ble_eq_true rfl) ⟨Nat.le_of_ble_eq_true rfl, Nat.le_of_ble_eq_true rfl⟩ dL_law_12 rfl (kV (fun S2 h => ?_))
    refine v_astore_n X (lv' := [(2, .ref 35), (1, .ref 0), (0, .retAddr scr)]) dL_law_15 rfl (by decide) rfl ?_
    refine v_iconst X (v := 0) dL_law_16 (by decide) ?_
    refine v_istore_n X (lv' := [(3, .int 0), (2, .ref 35), (1, .ref 0), (0, .retAddr scr)]) dL_law_17 rfl (by decide) rfl ?_
    refine v_lv (lv' := [(0, .retAddr scr), (1, .ref 0), (2, .ref 35), (3, .int (nI 0))]) [3, 2, 1, 0] rfl ?_
    exact law_loop hall hL X hr hlocks hX hbl 66 0 S2 _ _ h (by omega) (by omega) (Nat.le_of_ble_eq_true rfl) (Nat.le_of_ble_eq_true rfl)
  have hl := lv_entry ([.ref scr]) (n := 4) (Nat.le_of_ble_eq_true rfl)
  rw [lg_entry_eq]
  exact key s.heap [] _ ⟨rfl, fun i hi => absurd hi (by show ¬ 99 < 17; omega), fun i hi => absurd hi (by show ¬ 99 < 17; omega)⟩ ⟨fun _ _ => rfl, fun q hq => by cases hq⟩ hl
