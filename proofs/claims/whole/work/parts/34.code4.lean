/-! the law's own instructions, part 4 (by program out of javap's listing) -/
theorem dW_638 : decode code 638 = .ok (.ifCond .eq 5, 3) := by decide +kernel
theorem dW_641 : decode code 641 = .ok (.iconst 0, 1) := by decide +kernel
theorem dW_642 : decode code 642 = .ok (.ireturn, 1) := by decide +kernel
theorem dW_643 : decode code 643 = .ok (.goto 561, 3) := by decide +kernel
theorem dW_646 : decode code 646 = .ok (.aload_n 1, 1) := by decide +kernel
theorem dW_647 : decode code 647 = .ok (.aload_n 0, 1) := by decide +kernel
theorem dW_648 : decode code 648 = .ok (.iload 4, 2) := by decide +kernel
theorem dW_650 : decode code 650 = .ok (.iconst 1, 1) := by decide +kernel
theorem dW_651 : decode code 651 = .ok (.iadd, 1) := by decide +kernel
theorem dW_652 : decode code 652 = .ok (.iaload, 1) := by decide +kernel
theorem dW_653 : decode code 653 = .ok (.aload_n 3, 1) := by decide +kernel
theorem dW_654 : decode code 654 = .ok (.invokestatic 106, 3) := by decide +kernel
theorem dW_657 : decode code 657 = .ok (.istore 5, 2) := by decide +kernel
theorem dW_659 : decode code 659 = .ok (.aload_n 2, 1) := by decide +kernel
theorem dW_660 : decode code 660 = .ok (.aload_n 0, 1) := by decide +kernel
theorem dW_661 : decode code 661 = .ok (.iload 4, 2) := by decide +kernel
theorem dW_663 : decode code 663 = .ok (.iconst 1, 1) := by decide +kernel
theorem dW_664 : decode code 664 = .ok (.iadd, 1) := by decide +kernel
theorem dW_665 : decode code 665 = .ok (.iaload, 1) := by decide +kernel
theorem dW_666 : decode code 666 = .ok (.invokevirtual 108, 3) := by decide +kernel
theorem dW_669 : decode code 669 = .ok (.istore 6, 2) := by decide +kernel
theorem dW_671 : decode code 671 = .ok (.aload_n 2, 1) := by decide +kernel
theorem dW_672 : decode code 672 = .ok (.invokevirtual 83, 3) := by decide +kernel
theorem dW_675 : decode code 675 = .ok (.iload 5, 2) := by decide +kernel
theorem dW_677 : decode code 677 = .ok (.if_icmp .eq 5, 3) := by decide +kernel
theorem dW_680 : decode code 680 = .ok (.iconst 0, 1) := by decide +kernel
theorem dW_681 : decode code 681 = .ok (.ireturn, 1) := by decide +kernel
theorem dW_682 : decode code 682 = .ok (.iload 5, 2) := by decide +kernel
theorem dW_684 : decode code 684 = .ok (.ifCond .ne 22, 3) := by decide +kernel
theorem dW_687 : decode code 687 = .ok (.aload_n 3, 1) := by decide +kernel
theorem dW_688 : decode code 688 = .ok (.iconst 0, 1) := by decide +kernel
theorem dW_689 : decode code 689 = .ok (.laload, 1) := by decide +kernel
theorem dW_690 : decode code 690 = .ok (.iload 6, 2) := by decide +kernel
theorem dW_692 : decode code 692 = .ok (.ifCond .eq 7, 3) := by decide +kernel
theorem dW_695 : decode code 695 = .ok (.lconst 1, 1) := by decide +kernel
theorem dW_696 : decode code 696 = .ok (.goto 4, 3) := by decide +kernel
theorem dW_699 : decode code 699 = .ok (.lconst 0, 1) := by decide +kernel
theorem dW_700 : decode code 700 = .ok (.lcmp, 1) := by decide +kernel
theorem dW_701 : decode code 701 = .ok (.ifCond .eq 5, 3) := by decide +kernel
theorem dW_704 : decode code 704 = .ok (.iconst 0, 1) := by decide +kernel
theorem dW_705 : decode code 705 = .ok (.ireturn, 1) := by decide +kernel
theorem dW_706 : decode code 706 = .ok (.goto 498, 3) := by decide +kernel
theorem dW_709 : decode code 709 = .ok (.aload_n 1, 1) := by decide +kernel
theorem dW_710 : decode code 710 = .ok (.aload_n 0, 1) := by decide +kernel
theorem dW_711 : decode code 711 = .ok (.iload 4, 2) := by decide +kernel
theorem dW_713 : decode code 713 = .ok (.iconst 1, 1) := by decide +kernel
theorem dW_714 : decode code 714 = .ok (.iadd, 1) := by decide +kernel
theorem dW_715 : decode code 715 = .ok (.iaload, 1) := by decide +kernel
theorem dW_716 : decode code 716 = .ok (.aload_n 3, 1) := by decide +kernel
theorem dW_717 : decode code 717 = .ok (.invokestatic 109, 3) := by decide +kernel
theorem dW_720 : decode code 720 = .ok (.istore 5, 2) := by decide +kernel
theorem dW_722 : decode code 722 = .ok (.aload_n 2, 1) := by decide +kernel
theorem dW_723 : decode code 723 = .ok (.aload_n 0, 1) := by decide +kernel
theorem dW_724 : decode code 724 = .ok (.iload 4, 2) := by decide +kernel
theorem dW_726 : decode code 726 = .ok (.iconst 1, 1) := by decide +kernel
theorem dW_727 : decode code 727 = .ok (.iadd, 1) := by decide +kernel
theorem dW_728 : decode code 728 = .ok (.iaload, 1) := by decide +kernel
theorem dW_729 : decode code 729 = .ok (.invokevirtual 111, 3) := by decide +kernel
theorem dW_732 : decode code 732 = .ok (.istore 6, 2) := by decide +kernel
theorem dW_734 : decode code 734 = .ok (.aload_n 2, 1) := by decide +kernel
theorem dW_735 : decode code 735 = .ok (.invokevirtual 83, 3) := by decide +kernel
theorem dW_738 : decode code 738 = .ok (.iload 5, 2) := by decide +kernel
theorem dW_740 : decode code 740 = .ok (.if_icmp .eq 5, 3) := by decide +kernel
theorem dW_743 : decode code 743 = .ok (.iconst 0, 1) := by decide +kernel
theorem dW_744 : decode code 744 = .ok (.ireturn, 1) := by decide +kernel
theorem dW_745 : decode code 745 = .ok (.iload 5, 2) := by decide +kernel
theorem dW_747 : decode code 747 = .ok (.ifCond .ne 15, 3) := by decide +kernel
theorem dW_750 : decode code 750 = .ok (.aload_n 3, 1) := by decide +kernel
theorem dW_751 : decode code 751 = .ok (.iconst 0, 1) := by decide +kernel
theorem dW_752 : decode code 752 = .ok (.laload, 1) := by decide +kernel
theorem dW_753 : decode code 753 = .ok (.iload 6, 2) := by decide +kernel
theorem dW_755 : decode code 755 = .ok (.i2l, 1) := by decide +kernel
theorem dW_756 : decode code 756 = .ok (.lcmp, 1) := by decide +kernel
theorem dW_757 : decode code 757 = .ok (.ifCond .eq 5, 3) := by decide +kernel
theorem dW_760 : decode code 760 = .ok (.iconst 0, 1) := by decide +kernel
theorem dW_761 : decode code 761 = .ok (.ireturn, 1) := by decide +kernel
theorem dW_762 : decode code 762 = .ok (.goto 442, 3) := by decide +kernel
theorem dW_765 : decode code 765 = .ok (.aload_n 1, 1) := by decide +kernel
theorem dW_766 : decode code 766 = .ok (.invokevirtual 112, 3) := by decide +kernel
theorem dW_769 : decode code 769 = .ok (.aload_n 2, 1) := by decide +kernel
theorem dW_770 : decode code 770 = .ok (.invokevirtual 115, 3) := by decide +kernel
theorem dW_773 : decode code 773 = .ok (.if_icmp .eq 431, 3) := by decide +kernel
theorem dW_776 : decode code 776 = .ok (.iconst 0, 1) := by decide +kernel
theorem dW_777 : decode code 777 = .ok (.ireturn, 1) := by decide +kernel
theorem dW_778 : decode code 778 = .ok (.aload_n 1, 1) := by decide +kernel
theorem dW_779 : decode code 779 = .ok (.aload_n 0, 1) := by decide +kernel
theorem dW_780 : decode code 780 = .ok (.iload 4, 2) := by decide +kernel
theorem dW_782 : decode code 782 = .ok (.iconst 1, 1) := by decide +kernel
theorem dW_783 : decode code 783 = .ok (.iadd, 1) := by decide +kernel
theorem dW_784 : decode code 784 = .ok (.iaload, 1) := by decide +kernel
theorem dW_785 : decode code 785 = .ok (.aload_n 3, 1) := by decide +kernel
theorem dW_786 : decode code 786 = .ok (.invokestatic 116, 3) := by decide +kernel
theorem dW_789 : decode code 789 = .ok (.istore 5, 2) := by decide +kernel
theorem dW_791 : decode code 791 = .ok (.aload_n 2, 1) := by decide +kernel
theorem dW_792 : decode code 792 = .ok (.aload_n 0, 1) := by decide +kernel
theorem dW_793 : decode code 793 = .ok (.iload 4, 2) := by decide +kernel
theorem dW_795 : decode code 795 = .ok (.iconst 1, 1) := by decide +kernel
theorem dW_796 : decode code 796 = .ok (.iadd, 1) := by decide +kernel
theorem dW_797 : decode code 797 = .ok (.iaload, 1) := by decide +kernel
theorem dW_798 : decode code 798 = .ok (.invokevirtual 118, 3) := by decide +kernel
theorem dW_801 : decode code 801 = .ok (.lstore 6, 2) := by decide +kernel
theorem dW_803 : decode code 803 = .ok (.aload_n 2, 1) := by decide +kernel
theorem dW_804 : decode code 804 = .ok (.invokevirtual 83, 3) := by decide +kernel
theorem dW_807 : decode code 807 = .ok (.iload 5, 2) := by decide +kernel
theorem dW_809 : decode code 809 = .ok (.if_icmp .eq 5, 3) := by decide +kernel
theorem dW_812 : decode code 812 = .ok (.iconst 0, 1) := by decide +kernel
theorem dW_813 : decode code 813 = .ok (.ireturn, 1) := by decide +kernel
theorem dW_814 : decode code 814 = .ok (.iload 5, 2) := by decide +kernel
theorem dW_816 : decode code 816 = .ok (.ifCond .ne 14, 3) := by decide +kernel
theorem dW_819 : decode code 819 = .ok (.aload_n 3, 1) := by decide +kernel
theorem dW_820 : decode code 820 = .ok (.iconst 0, 1) := by decide +kernel
theorem dW_821 : decode code 821 = .ok (.laload, 1) := by decide +kernel
theorem dW_822 : decode code 822 = .ok (.lload 6, 2) := by decide +kernel
theorem dW_824 : decode code 824 = .ok (.lcmp, 1) := by decide +kernel
theorem dW_825 : decode code 825 = .ok (.ifCond .eq 5, 3) := by decide +kernel
theorem dW_828 : decode code 828 = .ok (.iconst 0, 1) := by decide +kernel
theorem dW_829 : decode code 829 = .ok (.ireturn, 1) := by decide +kernel
theorem dW_830 : decode code 830 = .ok (.goto 374, 3) := by decide +kernel
theorem dW_833 : decode code 833 = .ok (.aload_n 1, 1) := by decide +kernel
theorem dW_834 : decode code 834 = .ok (.aload_n 0, 1) := by decide +kernel
