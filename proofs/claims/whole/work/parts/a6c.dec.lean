/-! ===== the law: its instructions (2) ===== -/
theorem dL_596 : decode code 596 = .ok (.iaload, 1) := by decide +kernel
theorem dL_597 : decode code 597 = .ok (.invokevirtual 60, 3) := by decide +kernel
theorem dL_600 : decode code 600 = .ok (.aload_n 2, 1) := by decide +kernel
theorem dL_601 : decode code 601 = .ok (.aload_n 0, 1) := by decide +kernel
theorem dL_602 : decode code 602 = .ok (.iload_n 3, 1) := by decide +kernel
theorem dL_603 : decode code 603 = .ok (.iconst 1, 1) := by decide +kernel
theorem dL_604 : decode code 604 = .ok (.iadd, 1) := by decide +kernel
theorem dL_605 : decode code 605 = .ok (.iaload, 1) := by decide +kernel
theorem dL_606 : decode code 606 = .ok (.aload_n 0, 1) := by decide +kernel
theorem dL_607 : decode code 607 = .ok (.iload_n 3, 1) := by decide +kernel
theorem dL_608 : decode code 608 = .ok (.iconst 2, 1) := by decide +kernel
theorem dL_609 : decode code 609 = .ok (.iadd, 1) := by decide +kernel
theorem dL_610 : decode code 610 = .ok (.iaload, 1) := by decide +kernel
theorem dL_611 : decode code 611 = .ok (.invokevirtual 63, 3) := by decide +kernel
theorem dL_614 : decode code 614 = .ok (.if_icmp .eq 639, 3) := by decide +kernel
theorem dL_617 : decode code 617 = .ok (.iconst 0, 1) := by decide +kernel
theorem dL_618 : decode code 618 = .ok (.ireturn, 1) := by decide +kernel
theorem dL_619 : decode code 619 = .ok (.aload_n 1, 1) := by decide +kernel
theorem dL_620 : decode code 620 = .ok (.aload_n 0, 1) := by decide +kernel
theorem dL_621 : decode code 621 = .ok (.iload_n 3, 1) := by decide +kernel
theorem dL_622 : decode code 622 = .ok (.iconst 1, 1) := by decide +kernel
theorem dL_623 : decode code 623 = .ok (.iadd, 1) := by decide +kernel
theorem dL_624 : decode code 624 = .ok (.iaload, 1) := by decide +kernel
theorem dL_625 : decode code 625 = .ok (.aload_n 0, 1) := by decide +kernel
theorem dL_626 : decode code 626 = .ok (.iload_n 3, 1) := by decide +kernel
theorem dL_627 : decode code 627 = .ok (.iconst 2, 1) := by decide +kernel
theorem dL_628 : decode code 628 = .ok (.iadd, 1) := by decide +kernel
theorem dL_629 : decode code 629 = .ok (.iaload, 1) := by decide +kernel
theorem dL_630 : decode code 630 = .ok (.ifCond .eq 7, 3) := by decide +kernel
theorem dL_633 : decode code 633 = .ok (.iconst 1, 1) := by decide +kernel
theorem dL_634 : decode code 634 = .ok (.goto 4, 3) := by decide +kernel
theorem dL_637 : decode code 637 = .ok (.iconst 0, 1) := by decide +kernel
theorem dL_638 : decode code 638 = .ok (.invokevirtual 64, 3) := by decide +kernel
theorem dL_641 : decode code 641 = .ok (.aload_n 2, 1) := by decide +kernel
theorem dL_642 : decode code 642 = .ok (.aload_n 0, 1) := by decide +kernel
theorem dL_643 : decode code 643 = .ok (.iload_n 3, 1) := by decide +kernel
theorem dL_644 : decode code 644 = .ok (.iconst 1, 1) := by decide +kernel
theorem dL_645 : decode code 645 = .ok (.iadd, 1) := by decide +kernel
theorem dL_646 : decode code 646 = .ok (.iaload, 1) := by decide +kernel
theorem dL_647 : decode code 647 = .ok (.aload_n 0, 1) := by decide +kernel
theorem dL_648 : decode code 648 = .ok (.iload_n 3, 1) := by decide +kernel
theorem dL_649 : decode code 649 = .ok (.iconst 2, 1) := by decide +kernel
theorem dL_650 : decode code 650 = .ok (.iadd, 1) := by decide +kernel
theorem dL_651 : decode code 651 = .ok (.iaload, 1) := by decide +kernel
theorem dL_652 : decode code 652 = .ok (.ifCond .eq 7, 3) := by decide +kernel
theorem dL_655 : decode code 655 = .ok (.iconst 1, 1) := by decide +kernel
theorem dL_656 : decode code 656 = .ok (.goto 4, 3) := by decide +kernel
theorem dL_659 : decode code 659 = .ok (.iconst 0, 1) := by decide +kernel
theorem dL_660 : decode code 660 = .ok (.invokevirtual 68, 3) := by decide +kernel
theorem dL_663 : decode code 663 = .ok (.if_icmp .eq 590, 3) := by decide +kernel
theorem dL_666 : decode code 666 = .ok (.iconst 0, 1) := by decide +kernel
theorem dL_667 : decode code 667 = .ok (.ireturn, 1) := by decide +kernel
theorem dL_668 : decode code 668 = .ok (.aload_n 1, 1) := by decide +kernel
theorem dL_669 : decode code 669 = .ok (.aload_n 0, 1) := by decide +kernel
theorem dL_670 : decode code 670 = .ok (.iload_n 3, 1) := by decide +kernel
theorem dL_671 : decode code 671 = .ok (.iconst 1, 1) := by decide +kernel
theorem dL_672 : decode code 672 = .ok (.iadd, 1) := by decide +kernel
theorem dL_673 : decode code 673 = .ok (.iaload, 1) := by decide +kernel
theorem dL_674 : decode code 674 = .ok (.invokevirtual 69, 3) := by decide +kernel
theorem dL_677 : decode code 677 = .ok (.aload_n 2, 1) := by decide +kernel
theorem dL_678 : decode code 678 = .ok (.aload_n 0, 1) := by decide +kernel
theorem dL_679 : decode code 679 = .ok (.iload_n 3, 1) := by decide +kernel
theorem dL_680 : decode code 680 = .ok (.iconst 1, 1) := by decide +kernel
theorem dL_681 : decode code 681 = .ok (.iadd, 1) := by decide +kernel
theorem dL_682 : decode code 682 = .ok (.iaload, 1) := by decide +kernel
theorem dL_683 : decode code 683 = .ok (.invokevirtual 72, 3) := by decide +kernel
theorem dL_686 : decode code 686 = .ok (.if_icmp .eq 567, 3) := by decide +kernel
theorem dL_689 : decode code 689 = .ok (.iconst 0, 1) := by decide +kernel
theorem dL_690 : decode code 690 = .ok (.ireturn, 1) := by decide +kernel
theorem dL_691 : decode code 691 = .ok (.aload_n 1, 1) := by decide +kernel
theorem dL_692 : decode code 692 = .ok (.aload_n 0, 1) := by decide +kernel
theorem dL_693 : decode code 693 = .ok (.iload_n 3, 1) := by decide +kernel
theorem dL_694 : decode code 694 = .ok (.iconst 1, 1) := by decide +kernel
theorem dL_695 : decode code 695 = .ok (.iadd, 1) := by decide +kernel
theorem dL_696 : decode code 696 = .ok (.iaload, 1) := by decide +kernel
theorem dL_697 : decode code 697 = .ok (.aload_n 0, 1) := by decide +kernel
theorem dL_698 : decode code 698 = .ok (.iload_n 3, 1) := by decide +kernel
theorem dL_699 : decode code 699 = .ok (.iconst 2, 1) := by decide +kernel
theorem dL_700 : decode code 700 = .ok (.iadd, 1) := by decide +kernel
theorem dL_701 : decode code 701 = .ok (.iaload, 1) := by decide +kernel
theorem dL_702 : decode code 702 = .ok (.invokevirtual 73, 3) := by decide +kernel
theorem dL_705 : decode code 705 = .ok (.aload_n 2, 1) := by decide +kernel
theorem dL_706 : decode code 706 = .ok (.aload_n 0, 1) := by decide +kernel
theorem dL_707 : decode code 707 = .ok (.iload_n 3, 1) := by decide +kernel
theorem dL_708 : decode code 708 = .ok (.iconst 1, 1) := by decide +kernel
theorem dL_709 : decode code 709 = .ok (.iadd, 1) := by decide +kernel
theorem dL_710 : decode code 710 = .ok (.iaload, 1) := by decide +kernel
theorem dL_711 : decode code 711 = .ok (.aload_n 0, 1) := by decide +kernel
theorem dL_712 : decode code 712 = .ok (.iload_n 3, 1) := by decide +kernel
theorem dL_713 : decode code 713 = .ok (.iconst 2, 1) := by decide +kernel
theorem dL_714 : decode code 714 = .ok (.iadd, 1) := by decide +kernel
theorem dL_715 : decode code 715 = .ok (.iaload, 1) := by decide +kernel
theorem dL_716 : decode code 716 = .ok (.invokevirtual 77, 3) := by decide +kernel
theorem dL_719 : decode code 719 = .ok (.if_icmp .eq 534, 3) := by decide +kernel
theorem dL_722 : decode code 722 = .ok (.iconst 0, 1) := by decide +kernel
theorem dL_723 : decode code 723 = .ok (.ireturn, 1) := by decide +kernel
theorem dL_724 : decode code 724 = .ok (.aload_n 1, 1) := by decide +kernel
theorem dL_725 : decode code 725 = .ok (.aload_n 0, 1) := by decide +kernel
theorem dL_726 : decode code 726 = .ok (.iload_n 3, 1) := by decide +kernel
theorem dL_727 : decode code 727 = .ok (.iconst 1, 1) := by decide +kernel
theorem dL_728 : decode code 728 = .ok (.iadd, 1) := by decide +kernel
theorem dL_729 : decode code 729 = .ok (.iaload, 1) := by decide +kernel
theorem dL_730 : decode code 730 = .ok (.aload_n 0, 1) := by decide +kernel
theorem dL_731 : decode code 731 = .ok (.iload_n 3, 1) := by decide +kernel
theorem dL_732 : decode code 732 = .ok (.iconst 2, 1) := by decide +kernel
theorem dL_733 : decode code 733 = .ok (.iadd, 1) := by decide +kernel
theorem dL_734 : decode code 734 = .ok (.iaload, 1) := by decide +kernel
theorem dL_735 : decode code 735 = .ok (.invokevirtual 78, 3) := by decide +kernel
theorem dL_738 : decode code 738 = .ok (.aload_n 2, 1) := by decide +kernel
theorem dL_739 : decode code 739 = .ok (.aload_n 0, 1) := by decide +kernel
theorem dL_740 : decode code 740 = .ok (.iload_n 3, 1) := by decide +kernel
theorem dL_741 : decode code 741 = .ok (.iconst 1, 1) := by decide +kernel
theorem dL_742 : decode code 742 = .ok (.iadd, 1) := by decide +kernel
theorem dL_743 : decode code 743 = .ok (.iaload, 1) := by decide +kernel
theorem dL_744 : decode code 744 = .ok (.aload_n 0, 1) := by decide +kernel
theorem dL_745 : decode code 745 = .ok (.iload_n 3, 1) := by decide +kernel
theorem dL_746 : decode code 746 = .ok (.iconst 2, 1) := by decide +kernel
theorem dL_747 : decode code 747 = .ok (.iadd, 1) := by decide +kernel
theorem dL_748 : decode code 748 = .ok (.iaload, 1) := by decide +kernel
theorem dL_749 : decode code 749 = .ok (.invokevirtual 81, 3) := by decide +kernel
theorem dL_752 : decode code 752 = .ok (.if_icmp .eq 501, 3) := by decide +kernel
theorem dL_755 : decode code 755 = .ok (.iconst 0, 1) := by decide +kernel
theorem dL_756 : decode code 756 = .ok (.ireturn, 1) := by decide +kernel
theorem dL_757 : decode code 757 = .ok (.aload_n 1, 1) := by decide +kernel
theorem dL_758 : decode code 758 = .ok (.aload_n 0, 1) := by decide +kernel
theorem dL_759 : decode code 759 = .ok (.iload_n 3, 1) := by decide +kernel
theorem dL_760 : decode code 760 = .ok (.iconst 1, 1) := by decide +kernel
theorem dL_761 : decode code 761 = .ok (.iadd, 1) := by decide +kernel
theorem dL_762 : decode code 762 = .ok (.iaload, 1) := by decide +kernel
theorem dL_763 : decode code 763 = .ok (.aload_n 0, 1) := by decide +kernel
theorem dL_764 : decode code 764 = .ok (.iload_n 3, 1) := by decide +kernel
theorem dL_765 : decode code 765 = .ok (.iconst 2, 1) := by decide +kernel
theorem dL_766 : decode code 766 = .ok (.iadd, 1) := by decide +kernel
theorem dL_767 : decode code 767 = .ok (.iaload, 1) := by decide +kernel
theorem dL_768 : decode code 768 = .ok (.invokevirtual 82, 3) := by decide +kernel
theorem dL_771 : decode code 771 = .ok (.aload_n 2, 1) := by decide +kernel
theorem dL_772 : decode code 772 = .ok (.aload_n 0, 1) := by decide +kernel
theorem dL_773 : decode code 773 = .ok (.iload_n 3, 1) := by decide +kernel
theorem dL_774 : decode code 774 = .ok (.iconst 1, 1) := by decide +kernel
theorem dL_775 : decode code 775 = .ok (.iadd, 1) := by decide +kernel
theorem dL_776 : decode code 776 = .ok (.iaload, 1) := by decide +kernel
theorem dL_777 : decode code 777 = .ok (.aload_n 0, 1) := by decide +kernel
theorem dL_778 : decode code 778 = .ok (.iload_n 3, 1) := by decide +kernel
theorem dL_779 : decode code 779 = .ok (.iconst 2, 1) := by decide +kernel
theorem dL_780 : decode code 780 = .ok (.iadd, 1) := by decide +kernel
theorem dL_781 : decode code 781 = .ok (.iaload, 1) := by decide +kernel
theorem dL_782 : decode code 782 = .ok (.invokevirtual 85, 3) := by decide +kernel
theorem dL_785 : decode code 785 = .ok (.if_icmp .eq 468, 3) := by decide +kernel
theorem dL_788 : decode code 788 = .ok (.iconst 0, 1) := by decide +kernel
theorem dL_789 : decode code 789 = .ok (.ireturn, 1) := by decide +kernel
theorem dL_790 : decode code 790 = .ok (.aload_n 1, 1) := by decide +kernel
theorem dL_791 : decode code 791 = .ok (.aload_n 0, 1) := by decide +kernel
theorem dL_792 : decode code 792 = .ok (.iload_n 3, 1) := by decide +kernel
theorem dL_793 : decode code 793 = .ok (.iconst 1, 1) := by decide +kernel
theorem dL_794 : decode code 794 = .ok (.iadd, 1) := by decide +kernel
theorem dL_795 : decode code 795 = .ok (.iaload, 1) := by decide +kernel
theorem dL_796 : decode code 796 = .ok (.aload_n 0, 1) := by decide +kernel
theorem dL_797 : decode code 797 = .ok (.iload_n 3, 1) := by decide +kernel
theorem dL_798 : decode code 798 = .ok (.iconst 2, 1) := by decide +kernel
theorem dL_799 : decode code 799 = .ok (.iadd, 1) := by decide +kernel
theorem dL_800 : decode code 800 = .ok (.iaload, 1) := by decide +kernel
theorem dL_801 : decode code 801 = .ok (.invokevirtual 86, 3) := by decide +kernel
theorem dL_804 : decode code 804 = .ok (.aload_n 2, 1) := by decide +kernel
theorem dL_805 : decode code 805 = .ok (.aload_n 0, 1) := by decide +kernel
theorem dL_806 : decode code 806 = .ok (.iload_n 3, 1) := by decide +kernel
theorem dL_807 : decode code 807 = .ok (.iconst 1, 1) := by decide +kernel
theorem dL_808 : decode code 808 = .ok (.iadd, 1) := by decide +kernel
theorem dL_809 : decode code 809 = .ok (.iaload, 1) := by decide +kernel
theorem dL_810 : decode code 810 = .ok (.aload_n 0, 1) := by decide +kernel
theorem dL_811 : decode code 811 = .ok (.iload_n 3, 1) := by decide +kernel
theorem dL_812 : decode code 812 = .ok (.iconst 2, 1) := by decide +kernel
theorem dL_813 : decode code 813 = .ok (.iadd, 1) := by decide +kernel
theorem dL_814 : decode code 814 = .ok (.iaload, 1) := by decide +kernel
theorem dL_815 : decode code 815 = .ok (.invokevirtual 89, 3) := by decide +kernel
theorem dL_818 : decode code 818 = .ok (.if_icmp .eq 435, 3) := by decide +kernel
theorem dL_821 : decode code 821 = .ok (.iconst 0, 1) := by decide +kernel
theorem dL_822 : decode code 822 = .ok (.ireturn, 1) := by decide +kernel
theorem dL_823 : decode code 823 = .ok (.aload_n 1, 1) := by decide +kernel
theorem dL_824 : decode code 824 = .ok (.aload_n 0, 1) := by decide +kernel
theorem dL_825 : decode code 825 = .ok (.iload_n 3, 1) := by decide +kernel
theorem dL_826 : decode code 826 = .ok (.iconst 1, 1) := by decide +kernel
theorem dL_827 : decode code 827 = .ok (.iadd, 1) := by decide +kernel
theorem dL_828 : decode code 828 = .ok (.iaload, 1) := by decide +kernel
theorem dL_829 : decode code 829 = .ok (.aload_n 0, 1) := by decide +kernel
theorem dL_830 : decode code 830 = .ok (.iload_n 3, 1) := by decide +kernel
theorem dL_831 : decode code 831 = .ok (.iconst 2, 1) := by decide +kernel
theorem dL_832 : decode code 832 = .ok (.iadd, 1) := by decide +kernel
theorem dL_833 : decode code 833 = .ok (.iaload, 1) := by decide +kernel
theorem dL_834 : decode code 834 = .ok (.aload_n 0, 1) := by decide +kernel
theorem dL_835 : decode code 835 = .ok (.iload_n 3, 1) := by decide +kernel
